/-! A TICK -/
def yExA (A : yA) : yA := (yup (yS A) 7 (yS A 7 + ((yC A).length - (yExp (yS A 0) (yC A)).length)), yQ A, yExp (yS A 0) (yC A), yP A, yK A)
theorem yExA_7 (A : yA) : yS (yExA A) 7 = yS A 7 + ((yC A).length - (yExp (yS A 0) (yC A)).length) := by
  show yup (yS A) 7 (yS A 7 + ((yC A).length - (yExp (yS A 0) (yC A)).length)) 7 = _
  rw [yup_s]
def yAr1 (p : Int) (A : yA) : yA := if yS A (84 + 9 * p) = 2 ∨ (yS A (84 + 9 * p) = 0 ∧ yS A (82 + 9 * p) = yS A 0) then yArr p A else A
def yArs : Nat → Int → yA → yA
  | 0, _, A => A
  | n + 1, p, A => yArs n (p + 1) (yAr1 p A)
def yOpf (g : Int) : Nat → Int → yA → yA
  | 0, _, A => A
  | n + 1, f, A => yOpf g n (f + 1) (yOpn g f 20 A)
def yOpg (nf : Nat) : Nat → Int → yA → yA
  | 0, _, A => A
  | n + 1, g, A => yOpg nf n (g + 1) (yOpf g nf 0 A)
def yTick (A : yA) : yA := yw (yOpg (yS A 2).toNat (yS A 1).toNat 0 (yArs (yS A 3).toNat 0 (yExA (yRf 1 A)))) 0 (yS A 0 + 1)
/-- no coupon ends now -/
def yLv (A : yA) : Prop := ∀ c ∈ yC A, yS A 0 < c.2.2.1
theorem yFilt_len {t : Int} (C : List yCo) : 0 ≤ (C.length : Int) - (yExp t C).length ∧ (C.length : Int) - (yExp t C).length ≤ C.length := by
  have := yExp_le (t := t) (L := C); omega
theorem yI_ex {A : yA} (hI : yI A) (h7 : yS A 7 ≤ 30 * yS A 0) : yI (yExA A) ∧ yTk A (yExA A) ∧ yLv (yExA A) := by
  obtain ⟨h1, h2, h3, h4, h5, h6, h7', h8⟩ := hI
  obtain ⟨n1, n2, n3, n4, n5, n6⟩ := id h1.1
  have hSt : ySt A (yExA A) := ⟨fun k hk => yup_n (by unfold yStat at hk; omega), rfl⟩
  have hS : ∀ k, k ≠ 7 → yS (yExA A) k = yS A k := fun k hk => yup_n hk
  have e7 := yExA_7 A
  have hk : yPk (-1) A (yExA A) := fun k k1 k2 k3 => hS k (by omega)
  have hmem : ∀ c ∈ yExp (yS A 0) (yC A), c ∈ yC A ∧ c.2.2.1 ≠ yS A 0 := fun c hc => by
    unfold yExp at hc
    rw [List.mem_filter] at hc
    exact ⟨hc.1, by simpa using hc.2⟩
  have hfl := yFilt_len (t := yS A 0) (yC A)
  obtain ⟨hbl, hs8, hs8', hs7, hs7', ht0, ht1⟩ := h7'
  refine ⟨⟨yI1_st hSt h1, yI2_eq h2 h1.1 hSt (fun k k1 k2 => hS k (by omega)), yI3_pk (p := -1) h3 h1 hSt (hS 0 (by omega)) hk (fun q _ => absurd q (by decide)), yI4_pk (p := -1) h4 h1 h3 hSt hk (fun s hm => by have := yQok_in h4.1 hm; omega) rfl, ⟨?_, fun c hc => ?_⟩, h6, ⟨fun f f0 f1 => ?_, ?_⟩, ?_⟩, ⟨hSt, hS 0 (by omega)⟩, fun c hc => ?_⟩
  · have := h5.1
    show (yExp (yS A 0) (yC A)).length ≤ 30
    omega
  · rw [hS 0 (by omega), hS 2 (by omega)]; exact h5.2 c (hmem c hc).1
  · rw [hS 2 (by omega)] at f1
    rw [hS (35 + 8 * f) (by omega), yTot_eq (p := -1) h1.1 hSt hk (hS _ (by omega))]; exact hbl f f0 f1
  · rw [hS 8 (by omega), hS 0 (by omega), e7, yTot_eq (p := -1) h1.1 hSt hk (hS _ (by omega))]
    have := h5.1
    exact ⟨hs8, hs8', by omega, by omega, ht0, ht1⟩
  · obtain ⟨g5, g6, g36⟩ := h8
    refine ⟨?_, ?_, fun f f0 f1 => ?_⟩
    · rw [hS 5 (by omega), hS 3 (by omega), g5]; exact ySp2_eq (fun r a b => by simp only [hS (84 + 9 * r) (by omega)])
    · rw [hS 6 (by omega), hS 3 (by omega), g6]; exact ySp2_eq (fun r a b => by simp only [hS (84 + 9 * r) (by omega)])
    · rw [hS 2 (by omega)] at f1
      rw [hS (36 + 8 * f) (by omega), hS 3 (by omega), g36 f f0 f1]; exact ySp2_eq (fun r a b => by simp only [hS (84 + 9 * r) (by omega), hS (81 + 9 * r) (by omega), hS (83 + 9 * r) (by omega)])
  · rw [hS 0 (by omega)]
    have h9 := hmem c hc
    have := h5.2 c h9.1
    omega
theorem yTk_ref {A : yA} {f paid : Int} : yTk A (yRef f paid A) ∧ (yLv A → 1 ≤ yS A 11 → yLv (yRef f paid A)) := by
  unfold yRef
  split
  · refine ⟨yTk_refl A, fun hl h11 c hc => ?_⟩
    rcases List.mem_append.mp hc with hc | hc
    · exact hl c hc
    · simp at hc; subst hc; show yS A 0 < yS A 0 + yS A 11; omega
  · exact ⟨yTk_refl A, fun hl _ => hl⟩
theorem yTk_arr {A : yA} {p : Int} (a : 0 ≤ p) (b : p < 40) : yTk A (yArr p A) ∧ yS (yArr p A) 7 = yS A 7 ∧ (yLv A → 1 ≤ yS A 11 → yLv (yArr p A)) := by
  unfold yArr
  split
  · have hw : yTk A (yw (yw (yw A (84 + 9 * p) 4) (87 + 9 * p) (yS A 0)) 6 (yS A 6 + 1)) := ⟨ySt_trans (ySt_trans (ySt_w (by unfold yStat; omega)) (ySt_w (by unfold yStat; omega))) (ySt_w (by unfold yStat; omega)), by rw [yS_w, yup_n (by omega), yS_w, yup_n (by omega), yS_w, yup_n (by omega)]⟩
    have e7 : ∀ B : yA, ∀ f paid, yS (yRef f paid B) = yS B := fun B f paid => by unfold yRef; split <;> rfl
    refine ⟨yTk_trans hw yTk_ref.1, by rw [e7, yS_w, yup_n (by omega), yS_w, yup_n (by omega), yS_w, yup_n (by omega)], fun hl h11 => yTk_ref.2 (fun c hc => by rw [hw.2]; exact hl c hc) (by rw [hw.1.1 11 (by unfold yStat; omega)]; exact h11)⟩
  · have hw : yTk A (yqw (yw (yw A (84 + 9 * p) 1) (88 + 9 * p) (yS A 0)) (ySl A p) (yQ A (ySl A p) ++ [p])) := ⟨ySt_trans (ySt_w (k := 84 + 9 * p) (v := 1) (by unfold yStat; omega)) (ySt_w (k := 88 + 9 * p) (v := yS A 0) (by unfold yStat; omega)), by rw [yS_q, yS_w, yup_n (by omega), yS_w, yup_n (by omega)]⟩
    exact ⟨hw, by rw [yS_q, yS_w, yup_n (by omega), yS_w, yup_n (by omega)], fun hl h11 c hc => by rw [hw.2]; exact hl c hc⟩
theorem yI_ar1 {A : yA} {p : Int} (hI : yI A) (hl : yLv A) (a : 0 ≤ p) (b : p < yS A 3) : yI (yAr1 p A) ∧ yTk A (yAr1 p A) ∧ yS (yAr1 p A) 7 = yS A 7 ∧ yLv (yAr1 p A) := by
  obtain ⟨n1, n2, n3, n4, n5, n6⟩ := hI.1.1
  unfold yAr1
  split
  · have := yTk_arr (A := A) a (by omega)
    exact ⟨yI_arr hI a b (by omega) (by omega), this.1, this.2.1, this.2.2 hl hI.1.2.2.2.2.1.2.2.2.2.1⟩
  · exact ⟨hI, yTk_refl A, rfl, hl⟩
theorem yI_ars : ∀ (n : Nat) (p : Int) (A : yA), yI A → yLv A → 0 ≤ p → p + n ≤ yS A 3 → yI (yArs n p A) ∧ yTk A (yArs n p A) ∧ yS (yArs n p A) 7 = yS A 7 ∧ yLv (yArs n p A) := by
  intro n
  induction n with
  | zero => intro p A hI hl _ _; exact ⟨hI, yTk_refl A, rfl, hl⟩
  | succ n ih =>
    intro p A hI hl a b
    obtain ⟨i1, i2, i3, i4⟩ := yI_ar1 hI hl a (show p < yS A 3 by omega)
    obtain ⟨j1, j2, j3, j4⟩ := ih (p + 1) _ i1 i4 (by omega) (by rw [i2.1.1 3 (by unfold yStat; omega)]; omega)
    exact ⟨j1, yTk_trans i2 j2, j3.trans i3, j4⟩
theorem yOpn_7 {g f : Int} : ∀ (n : Nat) (A : yA), yI A → 0 ≤ g → g < yS A 1 → 0 ≤ f → f < yS A 2 → yS (yOpn g f n A) 7 = yS A 7 ∧ (yLv A → yLv (yOpn g f n A)) := by
  intro n
  induction n with
  | zero => intro A _ _ _ _ _; exact ⟨rfl, fun h => h⟩
  | succ n ih =>
    intro A hI g0 g1 f0 f1
    cases hl : yQ A (6 * g + f) with
    | nil => rw [yOpn_nil hl]; exact ⟨rfl, fun h => h⟩
    | cons p l =>
      by_cases hc : yCan p g f A
      · rw [yOpn_go hl hc]
        obtain ⟨a, b, -⟩ := yHead hI.1 hI.2.2.1 hI.2.2.2.1 g0 g1 f0 f1 hl
        obtain ⟨n1, n2, n3, n4, n5, n6⟩ := hI.1.1
        obtain ⟨s1, s2, s3⟩ := ySt_pas (p := p) (g := g) (f := f) (A := A) ⟨f0, by omega⟩ ⟨g0, by omega⟩ ⟨a, by omega⟩
        obtain ⟨i1, i2⟩ := ih _ (yI_pas hI g0 g1 f0 f1 hl) g0 (by rw [s1.1 1 (by unfold yStat; omega)]; exact g1) f0 (by rw [s1.1 2 (by unfold yStat; omega)]; exact f1)
        refine ⟨i1.trans s3, fun hlv => i2 (fun c hc => ?_)⟩
        rw [s2]
        obtain ⟨c0, m0, m1, m2, -⟩ := (ySp_mem (f := f) 30 (yPe p g f A) (yC A) (fun c hc => (hI.2.2.2.2.1.2 c hc).2.2.1)).2 c hc
        rw [m2]; exact hlv c0 m0
      · rw [yOpn_no hl hc]; exact ⟨rfl, fun h => h⟩
theorem yI_opf {g : Int} : ∀ (n : Nat) (f : Int) (A : yA), yI A → yLv A → 0 ≤ g → g < yS A 1 → 0 ≤ f → f + n ≤ yS A 2 → yI (yOpf g n f A) ∧ yTk A (yOpf g n f A) ∧ yS (yOpf g n f A) 7 = yS A 7 ∧ yLv (yOpf g n f A) := by
  intro n
  induction n with
  | zero => intro f A hI hl _ _ _ _; exact ⟨hI, yTk_refl A, rfl, hl⟩
  | succ n ih =>
    intro f A hI hl g0 g1 f0 f1
    obtain ⟨i1, i2⟩ := yOpn_I 20 A hI g0 g1 f0 (show f < yS A 2 by omega)
    obtain ⟨i3, i4⟩ := yOpn_7 20 A hI g0 g1 f0 (show f < yS A 2 by omega)
    obtain ⟨j1, j2, j3, j4⟩ := ih (f + 1) _ i1 (i4 hl) g0 (by rw [i2.1.1 1 (by unfold yStat; omega)]; exact g1) (by omega) (by rw [i2.1.1 2 (by unfold yStat; omega)]; omega)
    exact ⟨j1, yTk_trans i2 j2, j3.trans i3, j4⟩
theorem yI_opg {nf : Nat} : ∀ (n : Nat) (g : Int) (A : yA), yI A → yLv A → 0 ≤ g → g + n ≤ yS A 1 → (nf : Int) = yS A 2 → yI (yOpg nf n g A) ∧ yTk A (yOpg nf n g A) ∧ yS (yOpg nf n g A) 7 = yS A 7 ∧ yLv (yOpg nf n g A) := by
  intro n
  induction n with
  | zero => intro g A hI hl _ _ _; exact ⟨hI, yTk_refl A, rfl, hl⟩
  | succ n ih =>
    intro g A hI hl g0 g1 hnf
    obtain ⟨i1, i2, i3, i4⟩ := yI_opf (g := g) nf 0 A hI hl g0 (by omega) (by omega) (by omega)
    obtain ⟨j1, j2, j3, j4⟩ := ih (g + 1) _ i1 i4 (by omega) (by rw [i2.1.1 1 (by unfold yStat; omega)]; omega) (by rw [i2.1.1 2 (by unfold yStat; omega)]; exact hnf)
    exact ⟨j1, yTk_trans i2 j2, j3.trans i3, j4⟩
/-- between ticks -/
def yJ (A : yA) : Prop := yI A ∧ yS A 7 ≤ 30 * yS A 0
theorem yI_time {A : yA} {t : Int} (hI : yI A) (hl : ∀ c ∈ yC A, t ≤ c.2.2.1) (h0 : yS A 0 ≤ t) (h1 : t ≤ 11000) : yI (yw A 0 t) := by
  obtain ⟨h1', h2, h3, h4, h5, h6, h7', h8⟩ := hI
  obtain ⟨n1, n2, n3, n4, n5, n6⟩ := id h1'.1
  have hSt : ySt A (yw A 0 t) := ySt_w (by unfold yStat; omega)
  have hS : ∀ k, k ≠ 0 → yS (yw A 0 t) k = yS A k := fun k hk => yup_n hk
  have e0 : yS (yw A 0 t) 0 = t := by rw [yS_w, yup_s]
  have hk : yPk (-1) A (yw A 0 t) := fun k k1 k2 k3 => hS k (by omega)
  obtain ⟨hbl, hs8, hs8', hs7, hs7', ht0, ht1⟩ := h7'
  refine ⟨yI1_st hSt h1', yI2_eq h2 h1'.1 hSt (fun k k1 k2 => hS k (by omega)), fun r ra rb => ?_, yI4_pk (p := -1) h4 h1' h3 hSt hk (fun s hm => by have := yQok_in h4.1 hm; omega) rfl, ⟨h5.1, fun c hc => ?_⟩, h6, ⟨fun f f0 f1 => ?_, ?_⟩, ?_⟩
  · rw [hS 3 (by omega)] at rb
    have q := h3 r ra rb
    have hfl := (h1'.2.2.2.1 r ra rb)
    rw [hS (84 + 9 * r) (by omega), hS (85 + 9 * r) (by omega), hS (86 + 9 * r) (by omega), hS (87 + 9 * r) (by omega), hS (88 + 9 * r) (by omega), hS (81 + 9 * r) (by omega), hS (33 + 8 * yS A (81 + 9 * r)) (by omega), e0]
    omega
  · rw [e0, hS 2 (by omega)]
    have := h5.2 c hc
    have := hl c hc
    omega
  · rw [hS 2 (by omega)] at f1
    rw [hS (35 + 8 * f) (by omega), yTot_eq (p := -1) h1'.1 hSt hk (hS _ (by omega))]; exact hbl f f0 f1
  · rw [hS 8 (by omega), hS 7 (by omega), e0, yTot_eq (p := -1) h1'.1 hSt hk (hS _ (by omega))]
    exact ⟨hs8, hs8', hs7, by omega, by omega, h1⟩
  · obtain ⟨g5, g6, g36⟩ := h8
    refine ⟨?_, ?_, fun f f0 f1 => ?_⟩
    · rw [hS 5 (by omega), hS 3 (by omega), g5]; exact ySp2_eq (fun r a b => by simp only [hS (84 + 9 * r) (by omega)])
    · rw [hS 6 (by omega), hS 3 (by omega), g6]; exact ySp2_eq (fun r a b => by simp only [hS (84 + 9 * r) (by omega)])
    · rw [hS 2 (by omega)] at f1
      rw [hS (36 + 8 * f) (by omega), hS 3 (by omega), g36 f f0 f1]; exact ySp2_eq (fun r a b => by simp only [hS (84 + 9 * r) (by omega), hS (81 + 9 * r) (by omega), hS (83 + 9 * r) (by omega)])
/-- the parts of a tick -/
theorem yTick_I {A : yA} (hJ : yJ A) (ht : yS A 0 < 11000) : yJ (yTick A) ∧ ySt A (yTick A) ∧ yS (yTick A) 0 = yS A 0 + 1 := by
  obtain ⟨hI, h7⟩ := hJ
  obtain ⟨n1, n2, n3, n4, n5, n6⟩ := hI.1.1
  obtain ⟨a1, a2⟩ := yI_rf (t := 1) hI (by decide)
  have e7 : yS (yRf 1 A) 7 = yS A 7 := ySt_rfn.2 7 (by omega)
  obtain ⟨b1, b2, b3⟩ := yI_ex a1 (by rw [e7, a2.2]; exact h7)
  have eb7 : yS (yExA (yRf 1 A)) 7 ≤ yS A 7 + 30 := by
    have hfl := yFilt_len (t := yS (yRf 1 A) 0) (yC (yRf 1 A))
    have := a1.2.2.2.2.1.1
    rw [yExA_7, e7]; omega
  obtain ⟨c1, c2, c3, c4⟩ := yI_ars (yS A 3).toNat 0 _ b1 b3 (by decide) (by rw [b2.1.1 3 (by unfold yStat; omega), a2.1.1 3 (by unfold yStat; omega)]; omega)
  have k13 := yTk_trans (yTk_trans a2 b2) c2
  obtain ⟨d1, d2, d3, d4⟩ := yI_opg (nf := (yS A 2).toNat) (yS A 1).toNat 0 _ c1 c4 (by decide) (by rw [k13.1.1 1 (by unfold yStat; omega)]; omega) (by rw [k13.1.1 2 (by unfold yStat; omega)]; omega)
  have k14 := yTk_trans k13 d2
  have hT : yTick A = yw (yOpg (yS A 2).toNat (yS A 1).toNat 0 (yArs (yS A 3).toNat 0 (yExA (yRf 1 A)))) 0 (yS A 0 + 1) := rfl
  generalize yOpg (yS A 2).toNat (yS A 1).toNat 0 (yArs (yS A 3).toNat 0 (yExA (yRf 1 A))) = B at *
  rw [hT]
  refine ⟨⟨yI_time d1 (fun c hc => by have := d4 c hc; rw [k14.2] at this; omega) (by rw [k14.2]; omega) (by omega), ?_⟩, ySt_trans k14.1 (ySt_w (by unfold yStat; omega)), by rw [yS_w, yup_s]⟩
  rw [yS_w, yup_n (by omega), yup_s]
  rw [d3, c3]; omega
