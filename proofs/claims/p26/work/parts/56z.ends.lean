/-! WHEN A PACKET ENDS, IT ENDS NOW -/
def yEg (p a T : Int) (A : yA) : Prop := yS A (87 + 9 * p) = a ∨ yS A (87 + 9 * p) = T
theorem yEg_arr {a T q p : Int} {A : yA} (h : yEg q a T A) (ht : yS A 0 = T) (q0 : 0 ≤ q) (q1 : q < 40) (a0 : 0 ≤ p) (b : p < 40) : yEg q a T (yArr p A) := by
  unfold yArr
  split
  · have e7 : ∀ B : yA, ∀ f paid, yS (yRef f paid B) = yS B := fun B f paid => by unfold yRef; split <;> rfl
    unfold yEg
    rw [e7]
    have hS : ∀ k, k ≠ 84 + 9 * p → k ≠ 87 + 9 * p → k ≠ 6 → yS (yw (yw (yw A (84 + 9 * p) 4) (87 + 9 * p) (yS A 0)) 6 (yS A 6 + 1)) k = yS A k := fun k q1 q2 q3 => by rw [yS_w, yup_n q3, yS_w, yup_n q2, yS_w, yup_n q1]
    have e87 : yS (yw (yw (yw A (84 + 9 * p) 4) (87 + 9 * p) (yS A 0)) 6 (yS A 6 + 1)) (87 + 9 * p) = yS A 0 := by rw [yS_w, yup_n (by omega), yS_w, yup_s]
    by_cases e : q = p
    · subst e; rw [e87]; exact Or.inr ht
    · rw [hS _ (by omega) (by omega) (by omega)]; exact h
  · have hS : ∀ k, k ≠ 84 + 9 * p → k ≠ 88 + 9 * p → yS (yqw (yw (yw A (84 + 9 * p) 1) (88 + 9 * p) (yS A 0)) (ySl A p) (yQ A (ySl A p) ++ [p])) k = yS A k := fun k q1 q2 => by rw [yS_q, yS_w, yup_n q2, yS_w, yup_n q1]
    unfold yEg
    rw [hS _ (by omega) (by omega)]; exact h
theorem yEg_pas {a T q p g f : Int} {A : yA} (h : yEg q a T A) (ht : yS A 0 = T) (q0 : 0 ≤ q) (q1 : q < 40) (a0 : 0 ≤ p) (b : p < 40) (g0 : 0 ≤ g) (g1 : g < 6) (f0 : 0 ≤ f) (f1 : f < 6) : yEg q a T (yPas p g f A) := by
  have hPs : ∀ k, k ≠ 561 + 4 * (6 * g + f) → k ≠ 86 + 9 * p → k ≠ 8 → k ≠ 35 + 8 * f → k ≠ 85 + 9 * p → yPs p g f A k = yS A k := fun k q1 q2 q3 q4 q5 => by
    unfold yPs; rw [yup_n q5, yup_n q4, yup_n q3, yup_n q2, yup_n q1]
  unfold yEg
  rw [yPas_S]
  split
  · rw [yup_n (by omega), hPs _ (by omega) (by omega) (by omega) (by omega) (by omega)]; exact h
  · rw [yup_n (by omega), yup_n (by omega)]
    by_cases e : q = p
    · subst e; rw [yup_s]; exact Or.inr ht
    · rw [yup_n (by omega), yup_n (by omega), hPs _ (by omega) (by omega) (by omega) (by omega) (by omega)]; exact h
theorem yEg_opn {a T q g f : Int} (q0 : 0 ≤ q) (q1 : q < 40) : ∀ (n : Nat) (A : yA), yI A → yS A 0 = T → yEg q a T A → 0 ≤ g → g < yS A 1 → 0 ≤ f → f < yS A 2 → yEg q a T (yOpn g f n A) := by
  intro n
  induction n with
  | zero => intro A _ _ h _ _ _ _; exact h
  | succ n ih =>
    intro A hI ht h g0 g1 f0 f1
    cases hl : yQ A (6 * g + f) with
    | nil => rw [yOpn_nil hl]; exact h
    | cons p l =>
      by_cases hc : yCan p g f A
      · rw [yOpn_go hl hc]
        obtain ⟨a, b, c, -⟩ := yHead hI.1 hI.2.2.1 hI.2.2.2.1 g0 g1 f0 f1 hl
        obtain ⟨n1, n2, n3, n4, n5, n6⟩ := hI.1.1
        obtain ⟨s1, s2, s3⟩ := ySt_pas (p := p) (g := g) (f := f) (A := A) ⟨f0, by omega⟩ ⟨g0, by omega⟩ ⟨a, by omega⟩
        exact ih _ (yI_pas hI g0 g1 f0 f1 hl) (s2.trans ht) (yEg_pas h ht q0 q1 a (by omega) g0 (by omega) f0 (by omega)) g0 (by rw [s1.1 1 (by unfold yStat; omega)]; exact g1) f0 (by rw [s1.1 2 (by unfold yStat; omega)]; exact f1)
      · rw [yOpn_no hl hc]; exact h
theorem yEg_opf {a T q g : Int} (q0 : 0 ≤ q) (q1 : q < 40) : ∀ (n : Nat) (f : Int) (A : yA), yI A → yS A 0 = T → yEg q a T A → 0 ≤ g → g < yS A 1 → 0 ≤ f → f + n ≤ yS A 2 → yEg q a T (yOpf g n f A) := by
  intro n
  induction n with
  | zero => intro f A _ _ h _ _ _ _; exact h
  | succ n ih =>
    intro f A hI ht h g0 g1 f0 f1
    obtain ⟨i1, i2⟩ := yOpn_I 20 A hI g0 g1 f0 (show f < yS A 2 by omega)
    exact ih (f + 1) _ i1 (i2.2.trans ht) (yEg_opn q0 q1 20 A hI ht h g0 g1 f0 (by omega)) g0 (by rw [i2.1.1 1 (by unfold yStat; omega)]; exact g1) (by omega) (by rw [i2.1.1 2 (by unfold yStat; omega)]; omega)
theorem yEg_opg {a T q : Int} (q0 : 0 ≤ q) (q1 : q < 40) {nf : Nat} : ∀ (n : Nat) (g : Int) (A : yA), yI A → yLv A → yS A 0 = T → yEg q a T A → 0 ≤ g → g + n ≤ yS A 1 → (nf : Int) = yS A 2 → yEg q a T (yOpg nf n g A) := by
  intro n
  induction n with
  | zero => intro g A _ _ _ h _ _ _; exact h
  | succ n ih =>
    intro g A hI hl ht h g0 g1 hnf
    obtain ⟨i1, i2, i3, i4⟩ := yI_opf (g := g) nf 0 A hI hl g0 (by omega) (by omega) (by omega)
    exact ih (g + 1) _ i1 i4 (i2.2.trans ht) (yEg_opf q0 q1 nf 0 A hI ht h g0 (by omega) (by omega) (by omega)) (by omega) (by rw [i2.1.1 1 (by unfold yStat; omega)]; omega) (by rw [i2.1.1 2 (by unfold yStat; omega)]; exact hnf)
theorem yEg_ars {a T q : Int} (q0 : 0 ≤ q) (q1 : q < 40) : ∀ (n : Nat) (p : Int) (A : yA), yI A → yLv A → yS A 0 = T → yEg q a T A → 0 ≤ p → p + n ≤ yS A 3 → yEg q a T (yArs n p A) := by
  intro n
  induction n with
  | zero => intro p A _ _ _ h _ _; exact h
  | succ n ih =>
    intro p A hI hl ht h a b
    obtain ⟨n1, n2, n3, n4, n5, n6⟩ := hI.1.1
    obtain ⟨i1, i2, i3, i4⟩ := yI_ar1 hI hl a (show p < yS A 3 by omega)
    refine ih (p + 1) _ i1 i4 (i2.2.trans ht) ?_ (by omega) (by rw [i2.1.1 3 (by unfold yStat; omega)]; omega)
    unfold yAr1
    split
    · exact yEg_arr h ht q0 q1 a (by omega)
    · exact h
theorem yEg_tick {q : Int} {A : yA} (hJ : yJ A) (ht : yS A 0 < 11000) (q0 : 0 ≤ q) (q1 : q < 40) : yEg q (yS A (87 + 9 * q)) (yS A 0) (yTick A) := by
  obtain ⟨hI, h7⟩ := hJ
  obtain ⟨n1, n2, n3, n4, n5, n6⟩ := id hI.1.1
  obtain ⟨a1, a2⟩ := yI_rf (t := 1) hI (by decide)
  have e7 : yS (yRf 1 A) 7 = yS A 7 := ySt_rfn.2 7 (by omega)
  obtain ⟨b1, b2, b3⟩ := yI_ex a1 (by rw [e7, a2.2]; exact h7)
  have x1 : ∀ k, k ≠ 7 → yS (yExA (yRf 1 A)) k = yS (yRf 1 A) k := fun k hk => yup_n hk
  have h2 : yEg q (yS A (87 + 9 * q)) (yS A 0) (yExA (yRf 1 A)) := Or.inl (by rw [x1 _ (by omega)]; exact ySt_rfn.2 _ (by omega))
  have k12 := yTk_trans a2 b2
  have hc := yI_ars (yS A 3).toNat 0 _ b1 b3 (by decide) (by rw [b2.1.1 3 (by unfold yStat; omega), a2.1.1 3 (by unfold yStat; omega)]; omega)
  have h3 := yEg_ars q0 q1 (yS A 3).toNat 0 _ b1 b3 k12.2 h2 (by decide) (by rw [b2.1.1 3 (by unfold yStat; omega), a2.1.1 3 (by unfold yStat; omega)]; omega)
  obtain ⟨c1, c2, c3, c4⟩ := hc
  have k13 := yTk_trans k12 c2
  have h4 := yEg_opg q0 q1 (nf := (yS A 2).toNat) (yS A 1).toNat 0 _ c1 c4 k13.2 h3 (by decide) (by rw [k13.1.1 1 (by unfold yStat; omega)]; omega) (by rw [k13.1.1 2 (by unfold yStat; omega)]; omega)
  have x2 : ∀ k, k ≠ 0 → yS (yTick A) k = yS (yOpg (yS A 2).toNat (yS A 1).toNat 0 (yArs (yS A 3).toNat 0 (yExA (yRf 1 A)))) k := fun k hk => yup_n hk
  unfold yEg at h4 ⊢
  rw [x2 _ (by omega)]; exact h4
/-- behind so many ticks: as before, or a time of these ticks -/
theorem yEg_adv {q pk : Int} (q0 : 0 ≤ q) (q1 : q < 40) : ∀ (n : Nat) (A : yA), yJ A → yS A 0 + n ≤ 11000 → yS (yAdv pk n A) (87 + 9 * q) = yS A (87 + 9 * q) ∨ (yS A 0 ≤ yS (yAdv pk n A) (87 + 9 * q) ∧ yS (yAdv pk n A) (87 + 9 * q) < yS A 0 + n) := by
  intro n
  induction n with
  | zero => intro A _ _; exact Or.inl rfl
  | succ n ih =>
    intro A hJ ht
    unfold yAdv
    split
    · exact Or.inl rfl
    · obtain ⟨t1, t2, t3⟩ := yTick_I hJ (by omega)
      have h1 := ih _ t1 (by rw [t3]; omega)
      have h2 := yEg_tick hJ (by omega) q0 q1
      unfold yEg at h2
      rw [t3] at h1
      rcases h1 with h1 | ⟨h1, h1'⟩
      · rw [h1]
        rcases h2 with h2 | h2
        · exact Or.inl h2
        · right; omega
      · right; omega
