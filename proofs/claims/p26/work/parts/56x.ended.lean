/-! A PACKET HAS AN END JUST IF IT HAS ENDED -/
def yEd (A : yA) : Prop := ∀ p, 0 ≤ p → p < yS A 3 → (3 ≤ yS A (84 + 9 * p) ↔ yS A (87 + 9 * p) ≠ -1)
theorem yEd_k {A B : yA} (h : yEd A) (h3 : yS B 3 = yS A 3) (e : ∀ k, 81 ≤ k → yS A 3 ≤ 40 → k < 441 → yS B k = yS A k) (hN : yN A) : yEd B := fun p p0 p1 => by
  obtain ⟨n1, n2, n3, n4, n5, n6⟩ := hN
  rw [h3] at p1
  rw [e _ (by omega) n6 (by omega), e _ (by omega) n6 (by omega)]; exact h p p0 p1
theorem yEd_arr {A : yA} {p : Int} (hI : yI A) (h : yEd A) (a : 0 ≤ p) (b : p < yS A 3) (hs : yS A (84 + 9 * p) ≤ 2) : yEd (yArr p A) := by
  obtain ⟨n1, n2, n3, n4, n5, n6⟩ := id hI.1.1
  have ht := hI.2.2.2.2.2.2.1.2.2.2.2.2.1
  have hp := h p a b
  unfold yArr
  split
  · have e7 : ∀ B : yA, ∀ f paid, yS (yRef f paid B) = yS B := fun B f paid => by unfold yRef; split <;> rfl
    intro r r0 r1
    rw [e7] at r1 ⊢
    have hS : ∀ k, k ≠ 84 + 9 * p → k ≠ 87 + 9 * p → k ≠ 6 → yS (yw (yw (yw A (84 + 9 * p) 4) (87 + 9 * p) (yS A 0)) 6 (yS A 6 + 1)) k = yS A k := fun k q1 q2 q3 => by rw [yS_w, yup_n q3, yS_w, yup_n q2, yS_w, yup_n q1]
    have e84 : yS (yw (yw (yw A (84 + 9 * p) 4) (87 + 9 * p) (yS A 0)) 6 (yS A 6 + 1)) (84 + 9 * p) = 4 := by rw [yS_w, yup_n (by omega), yS_w, yup_n (by omega), yS_w, yup_s]
    have e87 : yS (yw (yw (yw A (84 + 9 * p) 4) (87 + 9 * p) (yS A 0)) 6 (yS A 6 + 1)) (87 + 9 * p) = yS A 0 := by rw [yS_w, yup_n (by omega), yS_w, yup_s]
    rw [hS 3 (by omega) (by omega) (by omega)] at r1
    by_cases q : r = p
    · subst q; rw [e84, e87]; omega
    · rw [hS _ (by omega) (by omega) (by omega), hS _ (by omega) (by omega) (by omega)]; exact h r r0 r1
  · have hS : ∀ k, k ≠ 84 + 9 * p → k ≠ 88 + 9 * p → yS (yqw (yw (yw A (84 + 9 * p) 1) (88 + 9 * p) (yS A 0)) (ySl A p) (yQ A (ySl A p) ++ [p])) k = yS A k := fun k q1 q2 => by rw [yS_q, yS_w, yup_n q2, yS_w, yup_n q1]
    have e84 : yS (yqw (yw (yw A (84 + 9 * p) 1) (88 + 9 * p) (yS A 0)) (ySl A p) (yQ A (ySl A p) ++ [p])) (84 + 9 * p) = 1 := by rw [yS_q, yS_w, yup_n (by omega), yS_w, yup_s]
    intro r r0 r1
    rw [hS 3 (by omega) (by omega)] at r1
    by_cases q : r = p
    · subst q; rw [e84, hS _ (by omega) (by omega)]; omega
    · rw [hS _ (by omega) (by omega), hS _ (by omega) (by omega)]; exact h r r0 r1
theorem yEd_pas {A : yA} {p g f : Int} (hI : yI A) (h : yEd A) (g0 : 0 ≤ g) (g1 : g < yS A 1) (f0 : 0 ≤ f) (f1 : f < yS A 2) (a : 0 ≤ p) (b : p < yS A 3) (hs : yS A (84 + 9 * p) = 1) : yEd (yPas p g f A) := by
  obtain ⟨n1, n2, n3, n4, n5, n6⟩ := id hI.1.1
  have ht := hI.2.2.2.2.2.2.1.2.2.2.2.2.1
  have hp := h p a b
  have hPs : ∀ k, k ≠ 561 + 4 * (6 * g + f) → k ≠ 86 + 9 * p → k ≠ 8 → k ≠ 35 + 8 * f → k ≠ 85 + 9 * p → yPs p g f A k = yS A k := fun k q1 q2 q3 q4 q5 => by
    unfold yPs; rw [yup_n q5, yup_n q4, yup_n q3, yup_n q2, yup_n q1]
  have hS : ∀ k, k ≠ 561 + 4 * (6 * g + f) → k ≠ 86 + 9 * p → k ≠ 8 → k ≠ 35 + 8 * f → k ≠ 85 + 9 * p → k ≠ 84 + 9 * p → k ≠ 87 + 9 * p → k ≠ 5 → k ≠ 36 + 8 * f → yS (yPas p g f A) k = yS A k := fun k q1 q2 q3 q4 q5 q6 q7 q8 q9 => by
    rw [yPas_S]; split
    · rw [yup_n q6]; exact hPs k q1 q2 q3 q4 q5
    · rw [yup_n q9, yup_n q8, yup_n q7, yup_n q6]; exact hPs k q1 q2 q3 q4 q5
  have e84 : yS (yPas p g f A) (84 + 9 * p) = if yS A (85 + 9 * p) + 1 < yS A (33 + 8 * f) then 2 else 3 := by
    rw [yPas_S]; split
    · rw [yup_s]
    · rw [yup_n (by omega), yup_n (by omega), yup_n (by omega), yup_s]
  have e87 : yS (yPas p g f A) (87 + 9 * p) = if yS A (85 + 9 * p) + 1 < yS A (33 + 8 * f) then yS A (87 + 9 * p) else yS A 0 := by
    rw [yPas_S]; split
    · rw [yup_n (by omega)]; exact hPs _ (by omega) (by omega) (by omega) (by omega) (by omega)
    · rw [yup_n (by omega), yup_n (by omega), yup_s]
  intro r r0 r1
  rw [hS 3 (by omega) (by omega) (by omega) (by omega) (by omega) (by omega) (by omega) (by omega) (by omega)] at r1
  by_cases q : r = p
  · subst q; rw [e84, e87]; split <;> omega
  · rw [hS (84 + 9 * r) (by omega) (by omega) (by omega) (by omega) (by omega) (by omega) (by omega) (by omega) (by omega), hS (87 + 9 * r) (by omega) (by omega) (by omega) (by omega) (by omega) (by omega) (by omega) (by omega) (by omega)]; exact h r r0 r1
theorem yEd_opn {g f : Int} : ∀ (n : Nat) (A : yA), yI A → yEd A → 0 ≤ g → g < yS A 1 → 0 ≤ f → f < yS A 2 → yEd (yOpn g f n A) := by
  intro n
  induction n with
  | zero => intro A _ h _ _ _ _; exact h
  | succ n ih =>
    intro A hI h g0 g1 f0 f1
    cases hl : yQ A (6 * g + f) with
    | nil => rw [yOpn_nil hl]; exact h
    | cons p l =>
      by_cases hc : yCan p g f A
      · rw [yOpn_go hl hc]
        obtain ⟨a, b, c, -⟩ := yHead hI.1 hI.2.2.1 hI.2.2.2.1 g0 g1 f0 f1 hl
        obtain ⟨n1, n2, n3, n4, n5, n6⟩ := hI.1.1
        obtain ⟨s1, s2, s3⟩ := ySt_pas (p := p) (g := g) (f := f) (A := A) ⟨f0, by omega⟩ ⟨g0, by omega⟩ ⟨a, by omega⟩
        exact ih _ (yI_pas hI g0 g1 f0 f1 hl) (yEd_pas hI h g0 g1 f0 f1 a b c) g0 (by rw [s1.1 1 (by unfold yStat; omega)]; exact g1) f0 (by rw [s1.1 2 (by unfold yStat; omega)]; exact f1)
      · rw [yOpn_no hl hc]; exact h
theorem yEd_opf {g : Int} : ∀ (n : Nat) (f : Int) (A : yA), yI A → yEd A → 0 ≤ g → g < yS A 1 → 0 ≤ f → f + n ≤ yS A 2 → yEd (yOpf g n f A) := by
  intro n
  induction n with
  | zero => intro f A _ h _ _ _ _; exact h
  | succ n ih =>
    intro f A hI h g0 g1 f0 f1
    obtain ⟨i1, i2⟩ := yOpn_I 20 A hI g0 g1 f0 (show f < yS A 2 by omega)
    exact ih (f + 1) _ i1 (yEd_opn 20 A hI h g0 g1 f0 (by omega)) g0 (by rw [i2.1.1 1 (by unfold yStat; omega)]; exact g1) (by omega) (by rw [i2.1.1 2 (by unfold yStat; omega)]; omega)
theorem yEd_opg {nf : Nat} : ∀ (n : Nat) (g : Int) (A : yA), yI A → yLv A → yEd A → 0 ≤ g → g + n ≤ yS A 1 → (nf : Int) = yS A 2 → yEd (yOpg nf n g A) := by
  intro n
  induction n with
  | zero => intro g A _ _ h _ _ _; exact h
  | succ n ih =>
    intro g A hI hl h g0 g1 hnf
    obtain ⟨i1, i2, i3, i4⟩ := yI_opf (g := g) nf 0 A hI hl g0 (by omega) (by omega) (by omega)
    exact ih (g + 1) _ i1 i4 (yEd_opf nf 0 A hI h g0 (by omega) (by omega) (by omega)) (by omega) (by rw [i2.1.1 1 (by unfold yStat; omega)]; omega) (by rw [i2.1.1 2 (by unfold yStat; omega)]; exact hnf)
theorem yEd_ars : ∀ (n : Nat) (p : Int) (A : yA), yI A → yLv A → yEd A → 0 ≤ p → p + n ≤ yS A 3 → yEd (yArs n p A) := by
  intro n
  induction n with
  | zero => intro p A _ _ h _ _; exact h
  | succ n ih =>
    intro p A hI hl h a b
    obtain ⟨i1, i2, i3, i4⟩ := yI_ar1 hI hl a (show p < yS A 3 by omega)
    refine ih (p + 1) _ i1 i4 ?_ (by omega) (by rw [i2.1.1 3 (by unfold yStat; omega)]; omega)
    unfold yAr1
    split
    · exact yEd_arr hI h a (by omega) (by omega)
    · exact h
theorem yEd_tick {A : yA} (hJ : yJ A) (ht : yS A 0 < 11000) (h : yEd A) : yEd (yTick A) := by
  obtain ⟨hI, h7⟩ := hJ
  obtain ⟨n1, n2, n3, n4, n5, n6⟩ := id hI.1.1
  obtain ⟨a1, a2⟩ := yI_rf (t := 1) hI (by decide)
  have h1 : yEd (yRf 1 A) := yEd_k h (ySt_rfn.2 3 (by omega)) (fun k _ _ k2 => ySt_rfn.2 k (by omega)) hI.1.1
  have e7 : yS (yRf 1 A) 7 = yS A 7 := ySt_rfn.2 7 (by omega)
  obtain ⟨b1, b2, b3⟩ := yI_ex a1 (by rw [e7, a2.2]; exact h7)
  have x1 : ∀ k, k ≠ 7 → yS (yExA (yRf 1 A)) k = yS (yRf 1 A) k := fun k hk => yup_n hk
  have h2 : yEd (yExA (yRf 1 A)) := yEd_k h1 (x1 3 (by decide)) (fun k k1 _ k2 => x1 k (by omega)) a1.1.1
  have hc := yI_ars (yS A 3).toNat 0 _ b1 b3 (by decide) (by rw [b2.1.1 3 (by unfold yStat; omega), a2.1.1 3 (by unfold yStat; omega)]; omega)
  have h3 := yEd_ars (yS A 3).toNat 0 _ b1 b3 h2 (by decide) (by rw [b2.1.1 3 (by unfold yStat; omega), a2.1.1 3 (by unfold yStat; omega)]; omega)
  obtain ⟨c1, c2, c3, c4⟩ := hc
  have k13 := yTk_trans (yTk_trans a2 b2) c2
  have hd := yI_opg (nf := (yS A 2).toNat) (yS A 1).toNat 0 _ c1 c4 (by decide) (by rw [k13.1.1 1 (by unfold yStat; omega)]; omega) (by rw [k13.1.1 2 (by unfold yStat; omega)]; omega)
  have h4 := yEd_opg (nf := (yS A 2).toNat) (yS A 1).toNat 0 _ c1 c4 h3 (by decide) (by rw [k13.1.1 1 (by unfold yStat; omega)]; omega) (by rw [k13.1.1 2 (by unfold yStat; omega)]; omega)
  have x2 : ∀ k, k ≠ 0 → yS (yTick A) k = yS (yOpg (yS A 2).toNat (yS A 1).toNat 0 (yArs (yS A 3).toNat 0 (yExA (yRf 1 A)))) k := fun k hk => yup_n hk
  exact yEd_k h4 (x2 3 (by decide)) (fun k k1 _ k2 => x2 k (by omega)) hd.1.1.1
theorem yEd_adv {pk : Int} : ∀ (n : Nat) (A : yA), yJ A → yS A 0 + n ≤ 11000 → yEd A → yEd (yAdv pk n A) := by
  intro n
  induction n with
  | zero => intro A _ _ h; exact h
  | succ n ih =>
    intro A hJ ht h
    unfold yAdv
    split
    · exact h
    · obtain ⟨t1, t2, t3⟩ := yTick_I hJ (by omega)
      exact ih _ t1 (by rw [t3]; omega) (yEd_tick hJ (by omega) h)
/-! NO COUPON ENDS LATER THAN 9999 FROM NOW -/
def yLe (e : Int) (A : yA) : Prop := ∀ c ∈ yC A, c.2.2.1 ≤ e
def yEe (A : yA) : Prop := yLe (yS A 0 + 9999) A
theorem yLe_arr {e p : Int} {A : yA} (h : yLe e A) (he : yS A 0 + yS A 11 ≤ e) (a : 0 ≤ p) (b : p < 40) : yLe e (yArr p A) := by
  unfold yArr
  split
  · have hS : ∀ k, k ≠ 84 + 9 * p → k ≠ 87 + 9 * p → k ≠ 6 → yS (yw (yw (yw A (84 + 9 * p) 4) (87 + 9 * p) (yS A 0)) 6 (yS A 6 + 1)) k = yS A k := fun k q1 q2 q3 => by rw [yS_w, yup_n q3, yS_w, yup_n q2, yS_w, yup_n q1]
    have e0 := hS 0 (by omega) (by omega) (by omega)
    have e11 := hS 11 (by omega) (by omega) (by omega)
    have eC : yC (yw (yw (yw A (84 + 9 * p) 4) (87 + 9 * p) (yS A 0)) 6 (yS A 6 + 1)) = yC A := rfl
    generalize yw (yw (yw A (84 + 9 * p) 4) (87 + 9 * p) (yS A 0)) 6 (yS A 6 + 1) = B at e0 e11 eC ⊢
    unfold yRef
    split
    · intro c hc
      rcases List.mem_append.mp hc with hc | hc
      · rw [eC] at hc; exact h c hc
      · rw [List.mem_singleton] at hc; subst hc
        show yS B 0 + yS B 11 ≤ e
        rw [e0, e11]; exact he
    · intro c hc; rw [eC] at hc; exact h c hc
  · exact h
theorem yLe_pas {e p g f : Int} {A : yA} (hI : yI A) (h : yLe e A) : yLe e (yPas p g f A) := fun c hc => by
  obtain ⟨c0, m0, m1, m2, -⟩ := (ySp_mem (f := f) 30 (yPe p g f A) (yC A) (fun c hc => (hI.2.2.2.2.1.2 c hc).2.2.1)).2 c hc
  rw [m2]; exact h c0 m0
theorem yLe_opn {e g f : Int} : ∀ (n : Nat) (A : yA), yI A → yLe e A → 0 ≤ g → g < yS A 1 → 0 ≤ f → f < yS A 2 → yLe e (yOpn g f n A) := by
  intro n
  induction n with
  | zero => intro A _ h _ _ _ _; exact h
  | succ n ih =>
    intro A hI h g0 g1 f0 f1
    cases hl : yQ A (6 * g + f) with
    | nil => rw [yOpn_nil hl]; exact h
    | cons p l =>
      by_cases hc : yCan p g f A
      · rw [yOpn_go hl hc]
        obtain ⟨a, b, c, -⟩ := yHead hI.1 hI.2.2.1 hI.2.2.2.1 g0 g1 f0 f1 hl
        obtain ⟨n1, n2, n3, n4, n5, n6⟩ := hI.1.1
        obtain ⟨s1, s2, s3⟩ := ySt_pas (p := p) (g := g) (f := f) (A := A) ⟨f0, by omega⟩ ⟨g0, by omega⟩ ⟨a, by omega⟩
        exact ih _ (yI_pas hI g0 g1 f0 f1 hl) (yLe_pas hI h) g0 (by rw [s1.1 1 (by unfold yStat; omega)]; exact g1) f0 (by rw [s1.1 2 (by unfold yStat; omega)]; exact f1)
      · rw [yOpn_no hl hc]; exact h
theorem yLe_opf {e g : Int} : ∀ (n : Nat) (f : Int) (A : yA), yI A → yLe e A → 0 ≤ g → g < yS A 1 → 0 ≤ f → f + n ≤ yS A 2 → yLe e (yOpf g n f A) := by
  intro n
  induction n with
  | zero => intro f A _ h _ _ _ _; exact h
  | succ n ih =>
    intro f A hI h g0 g1 f0 f1
    obtain ⟨i1, i2⟩ := yOpn_I 20 A hI g0 g1 f0 (show f < yS A 2 by omega)
    exact ih (f + 1) _ i1 (yLe_opn 20 A hI h g0 g1 f0 (by omega)) g0 (by rw [i2.1.1 1 (by unfold yStat; omega)]; exact g1) (by omega) (by rw [i2.1.1 2 (by unfold yStat; omega)]; omega)
theorem yLe_opg {e : Int} {nf : Nat} : ∀ (n : Nat) (g : Int) (A : yA), yI A → yLv A → yLe e A → 0 ≤ g → g + n ≤ yS A 1 → (nf : Int) = yS A 2 → yLe e (yOpg nf n g A) := by
  intro n
  induction n with
  | zero => intro g A _ _ h _ _ _; exact h
  | succ n ih =>
    intro g A hI hl h g0 g1 hnf
    obtain ⟨i1, i2, i3, i4⟩ := yI_opf (g := g) nf 0 A hI hl g0 (by omega) (by omega) (by omega)
    exact ih (g + 1) _ i1 i4 (yLe_opf nf 0 A hI h g0 (by omega) (by omega) (by omega)) (by omega) (by rw [i2.1.1 1 (by unfold yStat; omega)]; omega) (by rw [i2.1.1 2 (by unfold yStat; omega)]; exact hnf)
theorem yLe_ars {e : Int} : ∀ (n : Nat) (p : Int) (A : yA), yI A → yLv A → yLe e A → yS A 0 + yS A 11 ≤ e → 0 ≤ p → p + n ≤ yS A 3 → yLe e (yArs n p A) := by
  intro n
  induction n with
  | zero => intro p A _ _ h _ _ _; exact h
  | succ n ih =>
    intro p A hI hl h he a b
    obtain ⟨n1, n2, n3, n4, n5, n6⟩ := hI.1.1
    obtain ⟨i1, i2, i3, i4⟩ := yI_ar1 hI hl a (show p < yS A 3 by omega)
    refine ih (p + 1) _ i1 i4 ?_ (by rw [i2.2, i2.1.1 11 (by unfold yStat; omega)]; exact he) (by omega) (by rw [i2.1.1 3 (by unfold yStat; omega)]; omega)
    unfold yAr1
    split
    · exact yLe_arr h he a (by omega)
    · exact h
theorem yEe_tick {A : yA} (hJ : yJ A) (ht : yS A 0 < 11000) (h : yEe A) : yEe (yTick A) := by
  obtain ⟨hI, h7⟩ := hJ
  obtain ⟨n1, n2, n3, n4, n5, n6⟩ := id hI.1.1
  obtain ⟨a1, a2⟩ := yI_rf (t := 1) hI (by decide)
  have e7 : yS (yRf 1 A) 7 = yS A 7 := ySt_rfn.2 7 (by omega)
  obtain ⟨b1, b2, b3⟩ := yI_ex a1 (by rw [e7, a2.2]; exact h7)
  have h2 : yLe (yS A 0 + 9999) (yExA (yRf 1 A)) := fun c hc => by
    have hc : c ∈ yExp (yS (yRf 1 A) 0) (yC (yRf 1 A)) := hc
    unfold yExp at hc
    rw [List.mem_filter] at hc
    exact h c hc.1
  have k12 := yTk_trans a2 b2
  have h11 := hI.1.2.2.2.2.1.2.2.2.2.2
  have hc := yI_ars (yS A 3).toNat 0 _ b1 b3 (by decide) (by rw [b2.1.1 3 (by unfold yStat; omega), a2.1.1 3 (by unfold yStat; omega)]; omega)
  have h3 := yLe_ars (yS A 3).toNat 0 _ b1 b3 h2 (by rw [k12.2, k12.1.1 11 (by unfold yStat; omega)]; omega) (by decide) (by rw [b2.1.1 3 (by unfold yStat; omega), a2.1.1 3 (by unfold yStat; omega)]; omega)
  obtain ⟨c1, c2, c3, c4⟩ := hc
  have k13 := yTk_trans k12 c2
  have h4 := yLe_opg (nf := (yS A 2).toNat) (yS A 1).toNat 0 _ c1 c4 h3 (by decide) (by rw [k13.1.1 1 (by unfold yStat; omega)]; omega) (by rw [k13.1.1 2 (by unfold yStat; omega)]; omega)
  intro c hc
  have := h4 c hc
  have e0 : yS (yTick A) 0 = yS A 0 + 1 := (yTick_I ⟨hI, h7⟩ ht).2.2
  rw [e0]; omega
theorem yEe_adv {pk : Int} : ∀ (n : Nat) (A : yA), yJ A → yS A 0 + n ≤ 11000 → yEe A → yEe (yAdv pk n A) := by
  intro n
  induction n with
  | zero => intro A _ _ h; exact h
  | succ n ih =>
    intro A hJ ht h
    unfold yAdv
    split
    · exact h
    · obtain ⟨t1, t2, t3⟩ := yTick_I hJ (by omega)
      exact ih _ t1 (by rw [t3]; omega) (yEe_tick hJ (by omega) h)
