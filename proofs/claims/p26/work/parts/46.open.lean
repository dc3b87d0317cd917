/-! A GATE OPENS FOR A FLOW -/
def yCan (p g f : Int) (A : yA) : Prop := yS A (83 + 9 * p) ≤ yS A (561 + 4 * (6 * g + f)) ∨ (yS A (34 + 8 * f) ≤ yS A 0 - yS A (88 + 9 * p) ∧ yS A (83 + 9 * p) ≤ yS A (561 + 4 * (6 * g + f)) + ySum f (yC A))
def yCnb (p g f : Int) (A : yA) : Bool := decide (yS A (83 + 9 * p) ≤ yS A (561 + 4 * (6 * g + f))) || (decide (yS A (34 + 8 * f) ≤ yS A 0 - yS A (88 + 9 * p)) && decide (yS A (83 + 9 * p) ≤ yS A (561 + 4 * (6 * g + f)) + ySum f (yC A)))
theorem yCnb_i {p g f : Int} {A : yA} : yCnb p g f A = true ↔ yCan p g f A := by unfold yCnb yCan; simp
def yOpn (g f : Int) : Nat → yA → yA
  | 0, A => A
  | n + 1, A => match yQ A (6 * g + f) with
    | [] => A
    | p :: _ => if yCnb p g f A then yOpn g f n (yPas p g f A) else A
theorem yPas_q {p g f : Int} {l : List Int} {A : yA} (hl : yQ A (6 * g + f) = p :: l) : yQ (yPas p g f A) (6 * g + f) = l := by
  unfold yPas yQ; dsimp only
  rw [if_pos rfl, show A.2.1 (6 * g + f) = p :: l from hl]; rfl
theorem yOpn_nil {g f : Int} {n : Nat} {A : yA} (h : yQ A (6 * g + f) = []) : yOpn g f n A = A := by
  cases n with
  | zero => rfl
  | succ n => unfold yOpn; rw [h]
theorem ySt_pas {p g f : Int} {A : yA} (hf : 0 ≤ f ∧ f < 6) (hg : 0 ≤ g ∧ g < 6) (hp : 0 ≤ p ∧ p < 40) : ySt A (yPas p g f A) ∧ yS (yPas p g f A) 0 = yS A 0 ∧ yS (yPas p g f A) 7 = yS A 7 := by
  have hS : ∀ k, k ≠ 561 + 4 * (6 * g + f) → k ≠ 86 + 9 * p → k ≠ 8 → k ≠ 35 + 8 * f → k ≠ 85 + 9 * p → k ≠ 84 + 9 * p → k ≠ 87 + 9 * p → k ≠ 5 → k ≠ 36 + 8 * f → yS (yPas p g f A) k = yS A k := fun k q1 q2 q3 q4 q5 q6 q7 q8 q9 => by
    rw [yPas_S]; split
    · rw [yup_n q6]; unfold yPs; rw [yup_n q5, yup_n q4, yup_n q3, yup_n q2, yup_n q1]
    · rw [yup_n q9, yup_n q8, yup_n q7, yup_n q6]; unfold yPs; rw [yup_n q5, yup_n q4, yup_n q3, yup_n q2, yup_n q1]
  refine ⟨⟨fun k hk => ?_, rfl⟩, ?_, ?_⟩
  · unfold yStat at hk; exact hS k (by omega) (by omega) (by omega) (by omega) (by omega) (by omega) (by omega) (by omega) (by omega)
  · exact hS 0 (by omega) (by omega) (by omega) (by omega) (by omega) (by omega) (by omega) (by omega) (by omega)
  · exact hS 7 (by omega) (by omega) (by omega) (by omega) (by omega) (by omega) (by omega) (by omega) (by omega)
/-- what an operation of a tick leaves -/
def yTk (A B : yA) : Prop := ySt A B ∧ yS B 0 = yS A 0
theorem yTk_refl (A : yA) : yTk A A := ⟨ySt_refl A, rfl⟩
theorem yTk_trans {A B C : yA} (h : yTk A B) (g : yTk B C) : yTk A C := ⟨ySt_trans h.1 g.1, g.2.trans h.2⟩
theorem yOpn_I {g f : Int} : ∀ (n : Nat) (A : yA), yI A → 0 ≤ g → g < yS A 1 → 0 ≤ f → f < yS A 2 → yI (yOpn g f n A) ∧ yTk A (yOpn g f n A) := by
  intro n
  induction n with
  | zero => intro A hI _ _ _ _; exact ⟨hI, yTk_refl A⟩
  | succ n ih =>
    intro A hI g0 g1 f0 f1
    unfold yOpn
    cases hl : yQ A (6 * g + f) with
    | nil => exact ⟨hI, yTk_refl A⟩
    | cons p l =>
      simp only
      split
      · obtain ⟨a, b, -⟩ := yHead hI.1 hI.2.2.1 hI.2.2.2.1 g0 g1 f0 f1 hl
        obtain ⟨n1, n2, n3, n4, n5, n6⟩ := hI.1.1
        obtain ⟨s1, s2, -⟩ := ySt_pas (p := p) (g := g) (f := f) (A := A) ⟨f0, by omega⟩ ⟨g0, by omega⟩ ⟨a, by omega⟩
        obtain ⟨i1, i2⟩ := ih _ (yI_pas hI g0 g1 f0 f1 hl) g0 (by rw [s1.1 1 (by unfold yStat; omega)]; exact g1) f0 (by rw [s1.1 2 (by unfold yStat; omega)]; exact f1)
        exact ⟨i1, yTk_trans ⟨s1, s2⟩ i2⟩
      · exact ⟨hI, yTk_refl A⟩
/-- less than L more wouldn't let the first pass -/
def yStop (fw L g f : Int) (A : yA) : Prop := ∀ p l, yQ A (6 * g + f) = p :: l → ¬ yCan p g f A → f = fw → yS A (34 + 8 * f) ≤ yS A 0 - yS A (88 + 9 * p) → L ≤ max 1 (yS A (83 + 9 * p) - yS A (561 + 4 * (6 * g + f)) - ySum f (yC A))
theorem yCan_C {p g f : Int} {A : yA} {C : List yCo} : yCan p g f (yCw A C) ↔ (yS A (83 + 9 * p) ≤ yS A (561 + 4 * (6 * g + f)) ∨ (yS A (34 + 8 * f) ≤ yS A 0 - yS A (88 + 9 * p) ∧ yS A (83 + 9 * p) ≤ yS A (561 + 4 * (6 * g + f)) + ySum f C)) := Iff.rfl
theorem ySum_ge {f : Int} : ∀ {C : List yCo}, (∀ c ∈ C, 0 ≤ c.2.1) → 0 ≤ ySum f C
  | [], _ => Int.le_refl _
  | c :: C, h => by
    have h1 := h c List.mem_cons_self
    have h2 := ySum_ge (f := f) (fun c hc => h c (List.mem_cons_of_mem _ hc)) (C := C)
    unfold ySum
    split <;> omega
theorem ySum_le {f : Int} : ∀ {C : List yCo}, (∀ c ∈ C, c.2.1 ≤ 10000 ∧ 0 ≤ c.2.1) → ySum f C ≤ 10000 * C.length
  | [], _ => by simp [ySum]
  | c :: C, h => by
    have h1 := h c List.mem_cons_self
    have h2 := ySum_le (f := f) (fun c hc => h c (List.mem_cons_of_mem _ hc)) (C := C)
    unfold ySum
    simp only [List.length_cons]
    split <;> omega
theorem ySum_b {f : Int} {C : List yCo} (h : yCv C) : 0 ≤ ySum f C ∧ ySum f C ≤ 300000 := by
  have h1 := ySum_ge (f := f) (fun c hc => (h.2 c hc).1)
  have h2 := ySum_le (f := f) (fun c hc => ⟨(h.2 c hc).2, (h.2 c hc).1⟩)
  have := h.1
  omega
theorem yPas_par {fw e L p g f : Int} {l : List Int} {A : yA} (hI : yI A) (g0 : 0 ≤ g) (g1 : g < yS A 1) (f0 : 0 ≤ f) (f1 : f < yS A 2) (hl : yQ A (6 * g + f) = p :: l) (hc : yCan p g f A) : yPar fw e L A (yPas p g f) := by
  intro d B h0 h1 h2
  rcases yDl_d h2 with ⟨rfl, rfl⟩ | ⟨C', rfl, hC⟩
  · exact yDl_0
  · have hB : yPas p g f (yCw A C') = yCw (yPas p g f A) (ySp f 30 (yPe p g f A) C') := rfl
    rw [hB]
    refine yDl_c (ySp_dc 30 _ _ _ hC ?_ (fun c hc => (hI.2.2.2.2.1.2 c hc).2.2.1) hI.2.2.2.2.1.1)
    have hs : 0 ≤ ySum f (yC A) := ySum_ge (fun c hc => by have := (hI.2.2.2.2.1.2 c hc).2.2.1; omega)
    unfold yPe
    rcases hc with hc | ⟨-, hc⟩ <;> omega
theorem yOpn_par {fw e L g f : Int} : ∀ (n : Nat) (A : yA), yI A → 0 ≤ g → g < yS A 1 → 0 ≤ f → f < yS A 2 → (yQ A (6 * g + f)).length ≤ n → yStop fw L g f (yOpn g f n A) → yPar fw e L A (yOpn g f n) := by
  intro n
  induction n with
  | zero => intro A _ _ _ _ _ _ _; exact yPar_id
  | succ n ih =>
    intro A hI g0 g1 f0 f1 hlen hst
    intro d B h0 h1 h2
    rcases yDl_d h2 with ⟨rfl, rfl⟩ | ⟨C', rfl, hC⟩
    · exact yDl_0
    have hd := hC
    obtain ⟨_, _, _, hd0, _⟩ := hd
    unfold yOpn at hst ⊢
    rw [show yQ (yCw A C') = yQ A from rfl]
    cases hl : yQ A (6 * g + f) with
    | nil => exact yDl_c hC
    | cons p l =>
      rw [hl] at hst
      simp only at hst ⊢
      have hsum := yDc_sum (f := f) hC
      by_cases hcan : yCan p g f A
      · have hcanB : yCan p g f (yCw A C') := by
          rw [yCan_C, hsum]
          rcases hcan with q | ⟨q1, q2⟩
          · exact Or.inl q
          · refine Or.inr ⟨q1, ?_⟩; split <;> omega
        rw [if_pos (yCnb_i.mpr hcan)] at hst
        rw [if_pos (yCnb_i.mpr hcan), if_pos (yCnb_i.mpr hcanB)]
        obtain ⟨a, b, -⟩ := yHead hI.1 hI.2.2.1 hI.2.2.2.1 g0 g1 f0 f1 hl
        obtain ⟨n1, n2, n3, n4, n5, n6⟩ := hI.1.1
        obtain ⟨s1, s2, -⟩ := ySt_pas (p := p) (g := g) (f := f) (A := A) ⟨f0, by omega⟩ ⟨g0, by omega⟩ ⟨a, by omega⟩
        exact ih _ (yI_pas hI g0 g1 f0 f1 hl) g0 (by rw [s1.1 1 (by unfold yStat; omega)]; exact g1) f0 (by rw [s1.1 2 (by unfold yStat; omega)]; exact f1) (by rw [yPas_q hl]; rw [hl] at hlen; simpa using hlen) hst d _ h0 h1 (yPas_par (L := L) hI g0 g1 f0 f1 hl hcan d _ h0 h1 h2)
      · rw [if_neg (fun q => hcan (yCnb_i.mp q))] at hst
        have hno : ¬ yCan p g f (yCw A C') := by
          rw [yCan_C, hsum]
          intro q
          refine hcan ?_
          rcases q with q | ⟨q1, q2⟩
          · exact Or.inl q
          · by_cases e : f = fw
            · have := hst p l hl hcan e q1
              rw [if_pos e] at q2
              by_cases q3 : yS A (83 + 9 * p) ≤ yS A (561 + 4 * (6 * g + f)) + ySum f (yC A)
              · exact Or.inr ⟨q1, q3⟩
              · exfalso; omega
            · rw [if_neg e] at q2
              exact Or.inr ⟨q1, by omega⟩
        rw [if_neg (fun q => hcan (yCnb_i.mp q)), if_neg (fun q => hno (yCnb_i.mp q))]
        exact yDl_c hC
theorem s_X10_noteLack {F w : Nat} {g f t p : Int} {l : List Int} {M : xMe} {A : yA} {Q : xMe → Prop} (h : yCR w M A) (hI : yI A) (hF : 40 ≤ F) (g0 : 0 ≤ g) (g1 : g < yS A 1) (f0 : 0 ≤ f) (f1 : f < yS A 2) (ht : -1 ≤ t ∧ t ≤ 20000) (hl : yQ A (6 * g + f) = p :: l)
    (hq : ∀ M', yCR w M' A → yKp w M M' → (f = M w 13 → yS A (34 + 8 * f) ≤ t - yS A (88 + 9 * p) → M' w 14 ≤ max 1 (yS A (83 + 9 * p) - yS A (561 + 4 * (6 * g + f)) - ySum f (yC A))) → (∀ b, b ≠ w → M' b = M b) → Q M') : p_X10_noteLack F w g f t M Q := by
  obtain ⟨h1, h2, h3, h4, h5, h6, h7, h8⟩ := id hI
  obtain ⟨a, b, hs, hfl, hgt⟩ := yHead h1 h3 h4 g0 g1 f0 f1 hl
  obtain ⟨n1, n2, n3, n4, n5, n6⟩ := id h1.1
  have hp3 := h3 p a b
  have hpk := h1.2.2.2.1 p a b
  have hfw := h1.2.2.1 f f0 f1
  have htk := h2 g f g0 g1 f0 f1
  have hsb := ySum_b (f := f) (yI5_v h5)
  have ht0 := h7.2.2.2.2.2
  unfold p_X10_noteLack
  refine ⟨⟨by omega, by omega⟩, ⟨by omega, by omega⟩, fun z ez => ?_⟩
  have ez : z = 6 * g + f := by omega
  subst ez
  refine s_X4_firstIn h4.1 h.2.2.2 ⟨by omega, by omega⟩ ?_
  rw [hl, List.headD_cons]
  refine ⟨fun hne => hq M h (yKp_refl _ _) (fun e => absurd e hne) (fun _ _ => rfl), fun he => ⟨fun q => absurd q (by omega), fun _ => ⟨⟨by omega, by omega⟩, ?_⟩⟩⟩
  rw [yr22 h.1 a b, yr8 h.1 f0 f1, yr19 h.1 a b, show (6 * g + f) = g * 6 + f by omega, yr11 h.1 g0 g1 f0 f1]
  refine ⟨⟨by omega, by omega⟩, ⟨by omega, by omega⟩, fun hpay => ⟨⟨by omega, by omega⟩, ⟨by omega, by omega⟩, ⟨by omega, by omega⟩, s_X0_sumOf h.2.1 (yI5_v h5) hF ⟨⟨by omega, by omega⟩, fun z2 ez2 M1 e1 => ?_⟩⟩, fun hno => hq M h (yKp_refl _ _) (fun _ q => by omega) (fun _ _ => rfl)⟩
  refine hq M1 (by rw [e1]; exact yCR_13 h (by omega)) ?_ (fun _ _ => ?_) (fun b hb => by rw [e1, xw_B hb])
  · unfold yKp
    rw [e1, xw_j (by decide), xw_s]
    exact ⟨rfl, fun q => ⟨by omega, by omega⟩⟩
  · rw [e1, xw_s, ez2]; omega
theorem yOpn_go {g f p : Int} {l : List Int} {n : Nat} {A : yA} (hl : yQ A (6 * g + f) = p :: l) (hc : yCan p g f A) : yOpn g f (n + 1) A = yOpn g f n (yPas p g f A) := by
  rw [yOpn, hl]; exact if_pos (yCnb_i.mpr hc)
theorem yOpn_no {g f p : Int} {l : List Int} {n : Nat} {A : yA} (hl : yQ A (6 * g + f) = p :: l) (hc : ¬ yCan p g f A) : yOpn g f (n + 1) A = A := by
  rw [yOpn, hl]; exact if_neg (fun q => hc (yCnb_i.mp q))
set_option maxHeartbeats 4000000 in
theorem s_X10_openGate_10 {F w q qc qs nq : Nat} {g f : Int} {Q : xMe → Prop} (hF : 1300 ≤ F) (g0 : 0 ≤ g) (f0 : 0 ≤ f) : ∀ (n k : Nat) (x : Int) (A : yA) (M : xMe), (yQ A (6 * g + f)).length ≤ n → n < k → 0 ≤ x → x + n < 40 → yCR w M A → yPz w qc qs nq M (yK A) → yI A → g < yS A 1 → f < yS A 2 → (∀ M', yCR w M' (yOpn g f n A) → yKp w M M' → yStop (M w 13) (M' w 14) g f (yOpn g f n A) → yFr w qs M M' → Q M') → p_X10_openGate_10 F w q qc qs nq Q k g f (g * 6 + f) x M := by
  intro n
  induction n with
  | zero =>
    intro k x A M hlen hk hx hx2 h hz hI g1 f1 hq
    obtain ⟨k, rfl⟩ : ∃ k', k = k' + 1 := ⟨k - 1, by omega⟩
    have hl : yQ A (6 * g + f) = [] := List.eq_nil_of_length_eq_zero (by omega)
    obtain ⟨n1, n2, n3, n4, n5, n6⟩ := id hI.1.1
    unfold p_X10_openGate_10
    refine ⟨fun q => absurd q (by omega), fun _ => s_X4_firstIn hI.2.2.2.1.1 h.2.2.2 ⟨by omega, by omega⟩ ?_⟩
    rw [show g * 6 + f = 6 * g + f by omega, hl]
    exact ⟨fun q => absurd q (by decide), fun _ => hq M h (yKp_refl _ _) (fun p l hp => by rw [show yOpn g f 0 A = A from rfl, hl] at hp; cases hp) (yFr_refl _ _ _)⟩
  | succ n ih =>
    intro k x A M hlen hk hx hx2 h hz hI g1 f1 hq
    obtain ⟨k, rfl⟩ : ∃ k', k = k' + 1 := ⟨k - 1, by omega⟩
    obtain ⟨h1, h2, h3, h4, h5, h6, h7, h8⟩ := id hI
    obtain ⟨n1, n2, n3, n4, n5, n6⟩ := id h1.1
    unfold p_X10_openGate_10
    refine ⟨fun q => absurd q (by omega), fun _ => s_X4_firstIn h4.1 h.2.2.2 ⟨by omega, by omega⟩ ?_⟩
    have hsl : g * 6 + f = 6 * g + f := by omega
    rw [hsl]
    cases hl : yQ A (6 * g + f) with
    | nil =>
      refine ⟨fun q => absurd q (by decide), fun _ => ?_⟩
      have := hq M
      rw [yOpn_nil hl] at this
      exact this h (yKp_refl _ _) (fun p l hp => by rw [hl] at hp; cases hp) (yFr_refl _ _ _)
    | cons p l =>
      obtain ⟨a, b, hs, hfl, hgt⟩ := yHead h1 h3 h4 g0 g1 f0 f1 hl
      have hp3 := h3 p a b
      have hpk := h1.2.2.2.1 p a b
      have hfw := h1.2.2.1 f f0 f1
      have htk := h2 g f g0 g1 f0 f1
      have hsb := ySum_b (f := f) (yI5_v h5)
      have ht0 := h7.2.2.2.2.2
      obtain ⟨s1, s2, -⟩ := ySt_pas (p := p) (g := g) (f := f) (A := A) ⟨f0, by omega⟩ ⟨g0, by omega⟩ ⟨a, by omega⟩
      have hlen' : l.length ≤ n := by rw [hl] at hlen; simpa using hlen
      -- it passes
      have hgo : yCan p g f A → p_X4_leave (w + 10) (6 * g + f) M (fun M128 => p_X10_passGate F w p g f (max 0 (yS A (83 + 9 * p) - yS A (561 + 4 * (6 * g + f)))) q qc qs nq M128 (fun M142 => (xR (x + 1)) ∧ p_X10_openGate_10 F w q qc qs nq Q k g f (6 * g + f) (x + 1) M142)) := fun hc => by
        have hop : yOpn g f (n + 1) A = yOpn g f n (yPas p g f A) := yOpn_go hl hc
        refine s_X4_leave h4.1 h.2.2.2 ⟨by omega, by omega⟩ hl (fun M1 d1 d2 => ?_)
        have c1 : yCR w M1 (yqw A (6 * g + f) l) := ⟨yR_f h.1 (fun b' q1 q2 q3 => d2 b' (by omega)), yU_f h.2.1 (fun b' q1 q2 => d2 b' (by omega)), yX_f h.2.2.1 (fun b' q1 q2 => d2 b' (by omega)), d1⟩
        refine s_X10_passGate h hz hI hF g0 g1 f0 f1 a b hs hfl hl (fun M2 e1 e2 e3 => ⟨⟨by omega, by omega⟩, ?_⟩) M1 c1 d2
        have hih := ih k (x + 1) (yPas p g f A) M2 (by rw [yPas_q hl]; exact hlen') (by omega) (by omega) (by omega) e1 (yPz_fr hz e3) (yI_pas hI g0 g1 f0 f1 hl) (by rw [s1.1 1 (by unfold yStat; omega)]; exact g1) (by rw [s1.1 2 (by unfold yStat; omega)]; exact f1) (fun M' f1' f2 f3 f4 => hq M' (by rw [hop]; exact f1') (yKp_trans e2 f2) (by rw [hop, ← e2.1]; exact f3) (yFr_trans e3 f4))
        rw [hsl] at hih
        exact hih
      -- it doesn't
      have hstay : ¬ yCan p g f A → p_X10_noteLack F w g f (M w 7) M (fun M119 => Q M119) := fun hc => by
        have hop : yOpn g f (n + 1) A = A := yOpn_no hl hc
        rw [yr0_7 h.1]
        refine s_X10_noteLack h hI (by omega) g0 g1 f0 f1 ⟨by omega, by omega⟩ hl (fun M' d1 d2 d3 d4 => hq M' (by rw [hop]; exact d1) d2 ?_ (fun b' q1 q2 => d4 b' (by omega)))
        rw [hop]
        intro p' l' hl2 _ he hpay
        rw [hl] at hl2
        cases hl2
        exact d3 he hpay
      rw [List.headD_cons]
      refine ⟨fun _ => ⟨⟨by omega, by omega⟩, ?_⟩, fun q => absurd q (by omega)⟩
      rw [yr19 h.1 a b, yr22 h.1 a b, yr8 h.1 f0 f1, show M (w + 11) (6 * g + f).toNat = yS A (561 + 4 * (6 * g + f)) by rw [show 6 * g + f = g * 6 + f by omega, yr11 h.1 g0 g1 f0 f1]; rw [show g * 6 + f = 6 * g + f by omega]]
      refine ⟨⟨by omega, by omega⟩, ⟨by omega, by omega⟩, fun z ez => ?_⟩
      subst ez
      have ht7 := yr0_7 h.1
      refine ⟨⟨by omega, by omega⟩, ⟨by rw [ht7]; omega, by rw [ht7]; omega⟩, ⟨by omega, by omega⟩, fun hlt => ⟨fun hle => hgo (Or.inl (by omega)), fun hgt => hstay (fun hc => ?_)⟩, fun hge => ⟨fun hle => hgo (Or.inl (by omega)), fun hgt => s_X0_sumOf h.2.1 (yI5_v h5) (by omega) ⟨fun hle => hgo (Or.inr ⟨by rw [ht7] at hge; exact hge, by omega⟩), fun hlt => hstay (fun hc => ?_)⟩⟩⟩
      · rw [ht7] at hlt
        rcases hc with hc | ⟨hc, -⟩ <;> omega
      · rcases hc with hc | ⟨-, hc⟩ <;> omega
theorem s_X10_openGate {F w q qc qs nq : Nat} {g f : Int} {M : xMe} {A : yA} {Q : xMe → Prop} (hF : 1300 ≤ F) (h : yCR w M A) (hz : yPz w qc qs nq M (yK A)) (hI : yI A) (g0 : 0 ≤ g) (g1 : g < yS A 1) (f0 : 0 ≤ f) (f1 : f < yS A 2) (hq : ∀ M', yCR w M' (yOpn g f 20 A) → yKp w M M' → (∀ e, yPar (M w 13) e (M' w 14) A (yOpn g f 20)) → yFr w qs M M' → Q M') : p_X10_openGate F w g f q qc qs nq M Q := by
  obtain ⟨n1, n2, n3, n4, n5, n6⟩ := id hI.1.1
  unfold p_X10_openGate
  refine ⟨⟨by omega, by omega⟩, ⟨by omega, by omega⟩, fun z ez => ?_⟩
  subst ez
  exact s_X10_openGate_10 hF g0 f0 20 F 0 A M (hI.2.2.2.1.1.1 _).2.1 (by omega) (by omega) (by omega) h hz hI g1 f1 (fun M' d1 d2 d3 d4 => hq M' d1 d2 (fun e => yOpn_par 20 A hI g0 g1 f0 f1 (hI.2.2.2.1.1.1 _).2.1 d3) d4)
theorem yIr_p3 {A : yA} {p g f : Int} {l : List Int} (hI : yI A) (hl : yQ A (6 * g + f) = p :: l) : yIr (yP3 p g f A) := by
  refine ⟨?_, ?_, hI.2.2.2.2.2.1.1⟩
  · have : yQ (yP3 p g f A) = yqu (yQ A) (6 * g + f) l := by
      unfold yP3 yQ yqu; dsimp only
      rw [show A.2.1 (6 * g + f) = p :: l from hl]; rfl
    rw [this]; exact yQok_tl hI.2.2.2.1.1 hl
  · have := (ySp_mem (f := f) 30 (yPe p g f A) (yC A) (fun c hc => (hI.2.2.2.2.1.2 c hc).2.2.1)).1
    have h5 := hI.2.2.2.2.1.1
    show (ySp f 30 (yPe p g f A) (yC A)).length ≤ 30
    omega
