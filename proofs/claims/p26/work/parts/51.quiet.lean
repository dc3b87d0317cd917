/-! QUIET TICKS -/
def yRst (k : Int) (A : yA) : yA := yw (yRf k A) 0 (yS A 0 + k)
def yTn : Nat → yA → yA
  | 0, A => A
  | n + 1, A => yTn n (yTick A)
def yEnd (pk : Int) (A : yA) : Bool := decide (0 ≤ pk) && (decide (pk < yS A 3) && decide (3 ≤ yS A (84 + 9 * pk)))
def yAdv (pk : Int) : Nat → yA → yA
  | 0, A => A
  | n + 1, A => if yEnd pk A then A else yAdv pk n (yTick A)
/-- the tokens behind so many refills -/
def yTok (A : yA) (g f t : Int) : Int := min (yS A (16 + 3 * g)) (yS A (561 + 4 * (6 * g + f)) + yS A (15 + 3 * g) * t)
/-- k ticks that do nothing but refill -/
def yQt (k : Int) (A : yA) : Prop := (∀ p, 0 ≤ p → p < yS A 3 → yS A (84 + 9 * p) ≠ 2 ∧ (yS A (84 + 9 * p) = 0 → k ≤ yS A (82 + 9 * p) - yS A 0)) ∧ (∀ c ∈ yC A, k ≤ c.2.2.1 - yS A 0) ∧
  ∀ g f p l, 0 ≤ g → g < yS A 1 → 0 ≤ f → f < yS A 2 → yQ A (6 * g + f) = p :: l → ∀ j, 0 ≤ j → j < k → yTok A g f (j + 1) < yS A (83 + 9 * p) ∧ (yS A (34 + 8 * f) ≤ yS A 0 + j - yS A (88 + 9 * p) → yTok A g f (j + 1) + ySum f (yC A) < yS A (83 + 9 * p))
theorem yRst_S {k j : Int} {A : yA} (h0 : j ≠ 0) (h : j < 561) : yS (yRst k A) j = yS A j := by
  unfold yRst; rw [yS_w, yup_n h0]; exact yRfS_o (by omega)
theorem yRst_0 {k : Int} {A : yA} : yS (yRst k A) 0 = yS A 0 + k := by unfold yRst; rw [yS_w, yup_s]
theorem yRst_tok {k g f : Int} {A : yA} (hN : yN A) (g0 : 0 ≤ g) (g1 : g < yS A 1) (f0 : 0 ≤ f) (f1 : f < yS A 2) : yS (yRst k A) (561 + 4 * (6 * g + f)) = yTok A g f k := by
  obtain ⟨n1, n2, n3, n4, n5, n6⟩ := hN
  unfold yRst; rw [yS_w, yup_n (by omega)]
  exact yRfS_at g0 g1 f0 f1 (by omega) (by omega)
theorem yTok_rst {k t g f : Int} {A : yA} (hN : yN A) (hr : 0 ≤ yS A (15 + 3 * g)) (ht : 0 ≤ t) (g0 : 0 ≤ g) (g1 : g < yS A 1) (f0 : 0 ≤ f) (f1 : f < yS A 2) : yTok (yRst k A) g f t = yTok A g f (k + t) := by
  have e := yRst_tok (k := k) hN g0 g1 f0 f1
  obtain ⟨n1, n2, n3, n4, n5, n6⟩ := hN
  have h1 := yRst_S (k := k) (j := 16 + 3 * g) (A := A) (by omega) (by omega)
  have h2 := yRst_S (k := k) (j := 15 + 3 * g) (A := A) (by omega) (by omega)
  show min (yS (yRst k A) (16 + 3 * g)) (yS (yRst k A) (561 + 4 * (6 * g + f)) + yS (yRst k A) (15 + 3 * g) * t) = min (yS A (16 + 3 * g)) (yS A (561 + 4 * (6 * g + f)) + yS A (15 + 3 * g) * (k + t))
  rw [e, h1, h2, Int.mul_add (yS A (15 + 3 * g)) k t]
  unfold yTok
  have := Int.mul_nonneg hr ht
  omega
theorem yTick_q {A : yA} (hI : yI A) (h : yQt 1 A) : yTick A = yRst 1 A := by
  obtain ⟨n1, n2, n3, n4, n5, n6⟩ := id hI.1.1
  obtain ⟨q1, q2, q3⟩ := h
  have hrf := (ySt_rfn (t := 1) (n := 36) (A := A)).2
  have hrf : ∀ k, k < 561 → yS (yRf 1 A) k = yS A k := hrf
  have hex : yExA (yRf 1 A) = yRf 1 A := by
    have hC : yExp (yS (yRf 1 A) 0) (yC (yRf 1 A)) = yC (yRf 1 A) := by
      unfold yExp
      rw [List.filter_eq_self]
      intro c hc
      have := q2 c hc
      rw [hrf 0 (by omega)]
      simp; omega
    unfold yExA
    rw [hC, show yup (yS (yRf 1 A)) 7 (yS (yRf 1 A) 7 + (((yC (yRf 1 A)).length : Int) - ((yC (yRf 1 A)).length : Nat))) = yS (yRf 1 A) from yup_same (by omega)]
    rfl
  have har : ∀ (n : Nat) (p : Int), 0 ≤ p → p + n ≤ yS A 3 → yArs n p (yRf 1 A) = yRf 1 A := by
    intro n
    induction n with
    | zero => intro p _ _; rfl
    | succ n ih =>
      intro p p0 p1
      have := q1 p p0 (by omega)
      have e : yAr1 p (yRf 1 A) = yRf 1 A := by
        unfold yAr1
        rw [hrf (84 + 9 * p) (by omega), hrf (82 + 9 * p) (by omega), hrf 0 (by omega), if_neg (by omega)]
      rw [yArs, e]
      exact ih (p + 1) (by omega) (by omega)
  have hop : ∀ g f, 0 ≤ g → g < yS A 1 → 0 ≤ f → f < yS A 2 → yOpn g f 20 (yRf 1 A) = yRf 1 A := fun g f g0 g1 f0 f1 => by
    cases hl : yQ A (6 * g + f) with
    | nil => exact yOpn_nil hl
    | cons p l =>
      obtain ⟨a, b, -⟩ := yHead hI.1 hI.2.2.1 hI.2.2.2.1 g0 g1 f0 f1 hl
      refine yOpn_no (n := 19) (p := p) (l := l) hl (fun hc => ?_)
      obtain ⟨r1, r2⟩ := q3 g f p l g0 g1 f0 f1 hl 0 (by decide) (by decide)
      have et : yS (yRf 1 A) (561 + 4 * (6 * g + f)) = yTok A g f (0 + 1) := yRfS_at g0 g1 f0 f1 (by omega) (by omega)
      unfold yCan at hc
      rw [et, hrf (83 + 9 * p) (by omega), hrf (34 + 8 * f) (by omega), hrf 0 (by omega), hrf (88 + 9 * p) (by omega), show yC (yRf 1 A) = yC A from rfl] at hc
      rcases hc with hc | ⟨h1, h2⟩
      · omega
      · have := r2 (by omega); omega
  have hof : ∀ (n : Nat) (g f : Int), 0 ≤ g → g < yS A 1 → 0 ≤ f → f + n ≤ yS A 2 → yOpf g n f (yRf 1 A) = yRf 1 A := by
    intro n
    induction n with
    | zero => intro g f _ _ _ _; rfl
    | succ n ih =>
      intro g f g0 g1 f0 f1
      rw [yOpf, hop g f g0 g1 f0 (by omega)]
      exact ih g (f + 1) g0 g1 (by omega) (by omega)
  have hog : ∀ (n : Nat) (g : Int), 0 ≤ g → g + n ≤ yS A 1 → yOpg (yS A 2).toNat n g (yRf 1 A) = yRf 1 A := by
    intro n
    induction n with
    | zero => intro g _ _; rfl
    | succ n ih =>
      intro g g0 g1
      rw [yOpg, hof _ g 0 g0 (by omega) (by decide) (by omega)]
      exact ih (g + 1) (by omega) (by omega)
  unfold yTick yRst
  rw [hex, har _ 0 (by decide) (by omega), hog _ 0 (by decide) (by omega)]
theorem yQt_le {k k' : Int} {A : yA} (h : yQt k A) (hk : k' ≤ k) : yQt k' A := ⟨fun p a b => ⟨(h.1 p a b).1, fun q => by have := (h.1 p a b).2 q; omega⟩, fun c hc => by have := h.2.1 c hc; omega, fun g f p l g0 g1 f0 f1 hl j j0 j1 => h.2.2 g f p l g0 g1 f0 f1 hl j j0 (by omega)⟩
theorem yQt_rst {k : Int} {A : yA} (hI : yI A) (h : yQt (k + 1) A) : yQt k (yRst 1 A) := by
  obtain ⟨n1, n2, n3, n4, n5, n6⟩ := id hI.1.1
  obtain ⟨q1, q2, q3⟩ := h
  refine ⟨fun p a b => ?_, fun c hc => ?_, fun g f p l g0 g1 f0 f1 hl j j0 j1 => ?_⟩
  · rw [yRst_S (by omega) (by omega)] at b
    have := q1 p a b
    rw [yRst_S (by omega) (by omega), yRst_S (by omega) (by omega), yRst_0]
    omega
  · have := q2 c hc
    rw [yRst_0]; omega
  · rw [yRst_S (by omega) (by omega)] at g1 f1
    have hg := hI.1.2.1 g g0 g1
    obtain ⟨a, b, -⟩ := yHead hI.1 hI.2.2.1 hI.2.2.2.1 g0 g1 f0 f1 hl
    have := q3 g f p l g0 g1 f0 f1 hl (j + 1) (by omega) (by omega)
    rw [yTok_rst hI.1.1 hg.1 (by omega) g0 g1 f0 f1, yRst_S (j := 83 + 9 * p) (by omega) (by omega), yRst_S (j := 34 + 8 * f) (by omega) (by omega), yRst_S (j := 88 + 9 * p) (by omega) (by omega), yRst_0, show (1 : Int) + (j + 1) = j + 1 + 1 by omega]
    refine ⟨this.1, fun q => this.2 (by omega)⟩
theorem yRst_rst {k : Int} {A : yA} (hI : yI A) (hk : 0 ≤ k) : yRst k (yRst 1 A) = yRst (k + 1) A := by
  obtain ⟨n1, n2, n3, n4, n5, n6⟩ := id hI.1.1
  have hS : yS (yRst k (yRst 1 A)) = yS (yRst (k + 1) A) := by
    funext j
    by_cases e0 : j = 0
    · subst e0; rw [yRst_0, yRst_0, yRst_0]; omega
    · by_cases e1 : 561 ≤ j ∧ j < 705 ∧ (j - 561) % 4 = 0 ∧ (j - 561) / 4 % 6 < yS A 2 ∧ (j - 561) / 4 / 6 < yS A 1
      · obtain ⟨g, f, hg0, hg1, hf0, hf1, rfl⟩ : ∃ g f : Int, 0 ≤ g ∧ g < yS A 1 ∧ 0 ≤ f ∧ f < yS A 2 ∧ j = 561 + 4 * (6 * g + f) := ⟨(j - 561) / 4 / 6, (j - 561) / 4 % 6, by omega, by omega, by omega, by omega, by omega⟩
        have hN : yN (yRst 1 A) := by
          unfold yN
          rw [yRst_S (by omega) (by omega), yRst_S (by omega) (by omega), yRst_S (by omega) (by omega)]; exact hI.1.1
        rw [yRst_tok hN hg0 (by rw [yRst_S (by omega) (by omega)]; exact hg1) hf0 (by rw [yRst_S (by omega) (by omega)]; exact hf1), yRst_tok hI.1.1 hg0 hg1 hf0 hf1, yTok_rst hI.1.1 (hI.1.2.1 g hg0 hg1).1 hk hg0 hg1 hf0 hf1, Int.add_comm]
      · have hother : ∀ (t : Int) (B : yA), yS B 1 = yS A 1 → yS B 2 = yS A 2 → yS (yRst t B) j = yS B j := fun t B b1 b2 => by
          unfold yRst; rw [yS_w, yup_n e0]
          show yRfS t 36 (yS B) j = _
          unfold yRfS
          rw [if_neg (by rw [b1, b2]; omega)]
        rw [hother k _ (yRst_S (by omega) (by omega)) (yRst_S (by omega) (by omega)), hother 1 A rfl rfl, hother (k + 1) A rfl rfl]
  show (yS (yRst k (yRst 1 A)), A.2) = (yS (yRst (k + 1) A), A.2)
  rw [hS]
theorem yJ_rst {A : yA} (hJ : yJ A) (ht : yS A 0 < 11000) (h : yQt 1 A) : yJ (yRst 1 A) := by
  rw [← yTick_q hJ.1 h]; exact (yTick_I hJ ht).1
theorem yTn_q : ∀ (k : Nat) (A : yA), yJ A → yS A 0 + k ≤ 11000 → 1 ≤ k → yQt k A → yTn k A = yRst k A ∧ yJ (yRst k A) := by
  intro k
  induction k with
  | zero => intro A _ _ h _; omega
  | succ k ih =>
    intro A hJ ht _ h
    have h1 := yQt_le h (show (1 : Int) ≤ ((k + 1 : Nat) : Int) by omega)
    have hJ1 := yJ_rst hJ (by omega) h1
    rw [yTn, yTick_q hJ.1 h1]
    by_cases e : k = 0
    · subst e; exact ⟨rfl, hJ1⟩
    · obtain ⟨i1, i2⟩ := ih (yRst 1 A) hJ1 (by rw [yRst_0]; omega) (by omega) (yQt_rst hJ.1 (by rw [show ((k + 1 : Nat) : Int) = (k : Int) + 1 by omega] at h; exact h))
      rw [i1]
      rw [yRst_rst hJ.1 (by omega)] at i2 ⊢
      rw [show ((k + 1 : Nat) : Int) = (k : Int) + 1 by omega]
      exact ⟨rfl, i2⟩
theorem yEnd_rst {pk k : Int} {A : yA} (hN : yN A) : yEnd pk (yRst k A) = yEnd pk A := by
  obtain ⟨n1, n2, n3, n4, n5, n6⟩ := hN
  unfold yEnd
  rw [yRst_S (j := 3) (by omega) (by omega)]
  by_cases h0 : 0 ≤ pk
  · by_cases h1 : pk < yS A 3
    · rw [yRst_S (by omega) (by omega)]
    · simp [h1]
  · simp [h0]
theorem yAdv_q {pk : Int} {n : Nat} : ∀ (k : Nat) (A : yA), yJ A → yS A 0 + k ≤ 11000 → 1 ≤ k → yQt k A → yEnd pk A = false → yAdv pk (k + n) A = yAdv pk n (yRst k A) := by
  intro k
  induction k with
  | zero => intro A _ _ h _ _; omega
  | succ k ih =>
    intro A hJ ht _ h he
    have h1 := yQt_le h (show (1 : Int) ≤ ((k + 1 : Nat) : Int) by omega)
    have hJ1 := yJ_rst hJ (by omega) h1
    rw [show k + 1 + n = (k + n) + 1 by omega, yAdv, he, yTick_q hJ.1 h1]
    simp only [Bool.false_eq_true, if_false]
    by_cases e : k = 0
    · subst e; rw [Nat.zero_add]; rfl
    · rw [ih (yRst 1 A) hJ1 (by rw [yRst_0]; omega) (by omega) (yQt_rst hJ.1 (by rw [show ((k + 1 : Nat) : Int) = (k : Int) + 1 by omega] at h; exact h)) (by rw [yEnd_rst hJ.1.1.1]; exact he), yRst_rst hJ.1 (by omega), show ((k + 1 : Nat) : Int) = (k : Int) + 1 by omega]
/-- with a coupon greater by d the ticks are quiet as well -/
theorem yQt_par {fw e L d k : Int} {A B : yA} (hI : yI A) (hk : 1 ≤ k ∧ k ≤ 900) (he : yS A 0 + 1000 < e) (h : yQt k A) (hd : d < L) (hL : ∀ g p l, 0 ≤ g → g < yS A 1 → 0 ≤ fw → fw < yS A 2 → yQ A (6 * g + fw) = p :: l → yS A (34 + 8 * fw) ≤ yS A 0 + k - 1 - yS A (88 + 9 * p) → L ≤ max 1 (yS A (83 + 9 * p) - yTok A g fw k - ySum fw (yC A))) (hB : yDl fw e d A B) : yQt k B ∧ yDl fw e d (yRst k A) (yRst k B) := by
  rcases yDl_d hB with ⟨rfl, rfl⟩ | ⟨C', rfl, hC⟩
  · exact ⟨h, yDl_0⟩
  · refine ⟨?_, yDl_c (A := yRst k A) hC⟩
    obtain ⟨q1, q2, q3⟩ := h
    refine ⟨q1, fun c hc => ?_, fun g f p l g0 g1 f0 f1 hl j j0 j1 => ?_⟩
    · obtain ⟨L1, L2, v, hd0, hv, rfl, hCA, -⟩ := hC
      have hsub : ∀ c, c ∈ L1 ∨ c ∈ L2 → c ∈ yC A := fun c hc => by
        rw [hCA, List.mem_append]
        rcases hc with hc | hc
        · exact Or.inl hc
        · right; split
          · exact hc
          · exact List.mem_cons_of_mem _ hc
      show k ≤ c.2.2.1 - yS A 0
      rcases List.mem_append.mp hc with hc | hc
      · exact q2 c (hsub c (Or.inl hc))
      · rcases List.mem_cons.mp hc with rfl | hc
        · dsimp only; omega
        · exact q2 c (hsub c (Or.inr hc))
    · obtain ⟨r1, r2⟩ := q3 g f p l g0 g1 f0 f1 hl j j0 j1
      refine ⟨r1, fun hp => ?_⟩
      have hp : yS A (34 + 8 * f) ≤ yS A 0 + j - yS A (88 + 9 * p) := hp
      have hs := yDc_sum (f := f) hC
      show yTok A g f (j + 1) + ySum f C' < yS A (83 + 9 * p)
      have r3 := r2 hp
      rw [hs]
      by_cases ef : f = fw
      · subst ef
        rw [if_pos rfl]
        have hl2 := hL g p l g0 g1 f0 f1 hl (by omega)
        have r4 := (q3 g f p l g0 g1 f0 f1 hl (k - 1) (by omega) (by omega)).2 (by omega)
        rw [show k - 1 + 1 = k by omega] at r4
        have hg := hI.1.2.1 g g0 g1
        have hmono : yTok A g f (j + 1) ≤ yTok A g f k := by
          unfold yTok
          have : yS A (15 + 3 * g) * (j + 1) ≤ yS A (15 + 3 * g) * k := Int.mul_le_mul_of_nonneg_left (by omega) hg.1
          omega
        omega
      · rw [if_neg ef]; omega
