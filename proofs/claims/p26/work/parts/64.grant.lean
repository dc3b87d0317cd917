/-! setThrift, grant, forward -/
section YCT
variable {x m : Nat} {t t' : xTh} {M M' M1 M2 : xMe} {D : Nat → Prop} {A A' : yA} {H H' : List yA} {f v : Int} {Q : Int → xMe → Prop} {E : String → xMe → Prop}
theorem yI_thr (hI : yI A) (f0 : 0 ≤ f) (f1 : f < yS A 2) (v0 : 0 ≤ v) (v1 : v ≤ 99) : yI (yw A (34 + 8 * f) v) := by
  obtain ⟨⟨h1, h2, h3, h4, h5, h6, h7⟩, i2, i3, i4, i5, i6, i7, i8⟩ := hI
  obtain ⟨n1, n2, n3, n4, n5, n6⟩ := id h1
  have e : ∀ k, k ≠ 34 + 8 * f → yS (yw A (34 + 8 * f) v) k = yS A k := fun k hk => yup_n hk
  have es : yS (yw A (34 + 8 * f) v) (34 + 8 * f) = v := yup_s
  have e1 := e 1 (by omega)
  have e2 := e 2 (by omega)
  have e3 := e 3 (by omega)
  have eQ : yQ (yw A (34 + 8 * f) v) = yQ A := rfl
  generalize hB : yw A (34 + 8 * f) v = B at *
  have eC : yC B = yC A := by rw [← hB]; rfl
  have eP : yP B = yP A := by rw [← hB]; rfl
  have eK : yK B = yK A := by rw [← hB]; rfl
  have egt : ∀ p, 0 ≤ p → p < yS A 3 → yGt B p = yGt A p := fun p p0 p1 => by
    have a := h4 p p0 p1
    have b := i3 p p0 p1
    unfold yGt
    rw [e (81 + 9 * p) (by omega), e (85 + 9 * p) (by omega), e _ (by omega)]
  have et : yTot B = yTot A := by
    unfold yTot
    rw [e3]
    exact ySp2_eq (fun p p0 p1 => e _ (by omega))
  refine ⟨⟨?_, ?_, ?_, ?_, ?_, ?_, ?_⟩, ?_, ?_, ?_, ?_, ?_, ?_, ?_⟩
  · unfold yN; rw [e1, e2, e3]; exact h1
  · intro g g0 g1
    rw [e1] at g1
    rw [e _ (by omega), e _ (by omega), e _ (by omega)]; exact h2 g g0 g1
  · intro g g0 g1
    rw [e2] at g1
    obtain ⟨a1, a2, a3, a4, a5⟩ := h3 g g0 g1
    rw [e (33 + 8 * g) (by omega), e1]
    refine ⟨a1, a2, ?_, ?_, fun j j0 j1 => ?_⟩
    · by_cases q : g = f
      · rw [q, es]; exact v0
      · rw [e _ (by omega)]; exact a3
    · by_cases q : g = f
      · rw [q, es]; exact v1
      · rw [e _ (by omega)]; exact a4
    · rw [e _ (by omega)]; exact a5 j j0 j1
  · intro p p0 p1
    rw [e3] at p1
    rw [e (81 + 9 * p) (by omega), e (82 + 9 * p) (by omega), e (83 + 9 * p) (by omega), e2]; exact h4 p p0 p1
  · rw [e 9 (by omega), e 10 (by omega), e 11 (by omega)]; exact h5
  · rw [eK]; exact h6
  · rw [eK]; exact h7
  · intro g f' g0 g1 f0' f1'
    rw [e1] at g1; rw [e2] at f1'
    rw [e _ (by omega)]; exact i2 g f' g0 g1 f0' f1'
  · intro p p0 p1
    rw [e3] at p1
    have a := h4 p p0 p1
    rw [e (84 + 9 * p) (by omega), e (85 + 9 * p) (by omega), e (81 + 9 * p) (by omega), e (86 + 9 * p) (by omega), e (87 + 9 * p) (by omega), e (88 + 9 * p) (by omega), e 0 (by omega), e _ (by omega)]; exact i3 p p0 p1
  · refine ⟨by rw [eQ]; exact i4.1, fun s p hp => ?_⟩
    rw [eQ] at hp ⊢
    obtain ⟨a1, a2, a3, a4, a5⟩ := i4.2 s p hp
    have := h4 p a1 a2
    unfold ySl at a4 ⊢
    have b5 := i3 p a1 a2
    rw [e3, egt p a1 a2, e (84 + 9 * p) (by omega), e (81 + 9 * p) (by omega)]
    refine ⟨a1, a2, a3, a4, ?_⟩
    have hgt : 0 ≤ yGt A p ∧ yGt A p < yS A 1 := by
      have hr := h3 _ this.1 this.2.1
      exact hr.2.2.2.2 _ b5.2.2.1 (b5.2.2.2.2.1 (by omega))
    rw [e _ (by omega)]; exact a5
  · unfold yI5 at *
    rw [eC, e2, e 0 (by omega)]; exact i5
  · unfold yI6 at *
    rw [eP]; exact i6
  · obtain ⟨j1, j2⟩ := i7
    refine ⟨fun g g0 g1 => ?_, ?_⟩
    · rw [e2] at g1
      rw [et, e _ (by omega)]; exact j1 g g0 g1
    · rw [et, e 8 (by omega), e 7 (by omega), e 0 (by omega)]; exact j2
  · obtain ⟨j1, j2, j3⟩ := i8
    unfold yI8
    rw [e3, e2, e 5 (by omega), e 6 (by omega)]
    refine ⟨?_, ?_, fun g g0 g1 => ?_⟩
    · rw [j1]; exact (ySp2_eq (fun p p0 p1 => by rw [e _ (by omega)])).symm
    · rw [j2]; exact (ySp2_eq (fun p p0 p1 => by rw [e _ (by omega)])).symm
    · rw [e _ (by omega), j3 g g0 g1]; exact (ySp2_eq (fun p p0 p1 => by rw [e (81 + 9 * p) (by omega), e (84 + 9 * p) (by omega), e (83 + 9 * p) (by omega)])).symm
theorem yG0_thr (hA : yG0 A) (f0 : 0 ≤ f) (f1 : f < yS A 2) (v0 : 0 ≤ v) (v1 : v ≤ 99) : yG0 (yw A (34 + 8 * f) v) := by
  have e : ∀ k, k ≠ 34 + 8 * f → yS (yw A (34 + 8 * f) v) k = yS A k := fun k hk => yup_n hk
  exact ⟨⟨yI_thr hA.1.1 f0 f1 v0 v1, by rw [e 7 (by omega), e 0 (by omega)]; exact hA.1.2⟩, by rw [e 0 (by omega)]; exact hA.2.1, yEd_k hA.2.2.1 (e 3 (by omega)) (fun k k1 _ k2 => e k (by have := hA.1.1.1.1; obtain ⟨-, -, n3, n4, -, -⟩ := this; omega)) hA.1.1.1.1, fun c hc => by rw [e 0 (by omega)]; exact hA.2.2.2 c hc⟩
theorem s_X11_setThrift {Q : Int → xTh → xMe → Prop} (hc : yCs x t M D A H) (hg : yHg H) (hA : yG0 A) (h1 : 0 ≤ f → f < yS A 2 → 0 ≤ v → v ≤ 99 → ∀ t' M', yCs x t' M' D (yw A (34 + 8 * f) v) (yPush H A) → yFc x D M M' → Q (yS A (34 + 8 * f)) t' M') (h2 : ¬ (0 ≤ f ∧ f < yS A 2) → E xIOe M) (h3 : 0 ≤ f → f < yS A 2 → ¬ (0 ≤ v ∧ v ≤ 99) → E xIAe M) : p_X11_setThrift t x f v M Q E := by
  obtain ⟨n1, n2, n3, n4, n5, n6⟩ := id hA.1.1.1.1
  unfold p_X11_setThrift
  refine s_checkFlow hc.1.1 (fun f0 f1 => s_checkRange (fun v0 v1 => ?_) (h3 f0 f1)) h2
  refine s_X3_keep hc hg hA (fun t1 M1 _ c1 f1' => ⟨⟨by omega, by omega⟩, fun z ez => ⟨⟨by omega, by omega⟩, fun M2 e2 => ?_⟩⟩)
  have e8 : M1 (x + 52) f.toNat = yS A (34 + 8 * f) := yr8 c1.1.1.1 f0 f1
  rw [ez, e8]
  have hC : yCR (x + 44) M2 (yw A (34 + 8 * f) v) := by
    rw [e2]
    exact yCR_w (w := x + 44) (o := 8) hA.1.1.1.1 c1.1.1 (yl8 f0 f1) (by unfold yFx; omega)
  obtain ⟨c2, f2⟩ := yCs_w c1 (yPush_g hg hA) hC rfl (by rw [e2, xw_b (by omega)]; exact c1.2.1) (by rw [e2, xw_b (by omega)]; exact c1.2.2.1) (fun b b1 b2 => by rw [e2, xw_B (by omega)])
  exact h1 f0 f1 v0 v1 t1 M2 c2 (yFc_trans f1' f2)
/-! grant -/
theorem yG0_C {C : List yCo} (hA : yG0 A) (hl : C.length ≤ 30) (hC : ∀ c ∈ C, 0 ≤ c.1 ∧ c.1 < yS A 2 ∧ 1 ≤ c.2.1 ∧ c.2.1 ≤ 9999 ∧ yS A 0 ≤ c.2.2.1 ∧ c.2.2.1 ≤ 40000 ∧ 0 ≤ c.2.2.2 ∧ c.2.2.2 ≤ 2) (hE : ∀ c ∈ C, c.2.2.1 ≤ yS A 0 + 9999) : yG0 (yCw A C) := by
  obtain ⟨⟨⟨h1, i2, i3, i4, i5, i6, i7, i8⟩, hj⟩, ht, hed, -⟩ := hA
  exact ⟨⟨⟨h1, i2, i3, i4, ⟨hl, hC⟩, i6, i7, i8⟩, hj⟩, ht, hed, hE⟩
theorem s_X11_grant {e : Int} {Q : Int → xTh → xMe → Prop} (hc : yCs x t M D A H) (hg : yHg H) (hA : yG0 A) (h1 : 0 ≤ f → f < yS A 2 → (1 ≤ v ∧ v ≤ 9999) → (1 ≤ e ∧ e ≤ 9999) → (yC A).length < 30 → ∀ t' M', yCs x t' M' D (yCw A (yC A ++ [(f, v, yS A 0 + e, 0)])) (yPush H A) → yFc x D M M' → Q ((yC A).length : Int) t' M') (h2 : ¬ (0 ≤ f ∧ f < yS A 2) → E xIOe M) (h3 : 0 ≤ f → f < yS A 2 → ¬ ((1 ≤ v ∧ v ≤ 9999) ∧ (1 ≤ e ∧ e ≤ 9999)) → E xIAe M) (h4 : 0 ≤ f → f < yS A 2 → (1 ≤ v ∧ v ≤ 9999) → (1 ≤ e ∧ e ≤ 9999) → ¬ (yC A).length < 30 → E "java/lang/IllegalStateException" M) : p_X11_grant t x f v e M Q E := by
  have ht := hA.2.1
  have ht0 := hA.1.1.2.2.2.2.2.2.1.2.2.2.2.2.1
  have hl := hA.1.1.2.2.2.2.1.1
  unfold p_X11_grant
  refine s_checkFlow hc.1.1 (fun f0 f1 => s_checkRange (fun v0 v1 => s_checkRange (fun e0 e1 => ?_) (fun q => h3 f0 f1 (fun r => q r.2))) (fun q => h3 f0 f1 (fun r => q r.1))) h2
  have e4 : M (x + 69) 4 = ((yC A).length : Int) := hc.1.1.2.1.1
  rw [e4]
  refine ⟨fun q => ?_, fun q => h4 f0 f1 ⟨v0, v1⟩ ⟨e0, e1⟩ (by omega)⟩
  refine s_X3_keep hc hg hA (fun t1 M1 _ c1 f1' => ?_)
  have e7 : M1 (x + 44) 7 = yS A 0 := yr0_7 c1.1.1.1
  rw [e7]
  refine ⟨⟨by omega, by omega⟩, ?_⟩
  refine s_X0_add (a := x + 69) c1.1.1.2.1 (by omega) (fun M2 u2 g2 => ?_)
  have hC : yCR (x + 44) M2 (yCw A (yC A ++ [(f, v, yS A 0 + e, 0)])) := by
    obtain ⟨a1, a2, a3, a4⟩ := c1.1.1
    exact ⟨yR_f a1 (fun b b1 b2 _ => g2 b (by omega)), u2, yX_f a3 (fun b b1 b2 => g2 b (by omega)), yQc_o a4 (fun b b1 b2 => g2 b (by omega))⟩
  obtain ⟨c2, f2⟩ := yCs_w c1 (yPush_g hg hA) hC rfl (by rw [g2 _ (by omega)]; exact c1.2.1) (by rw [g2 _ (by omega)]; exact c1.2.2.1) (fun b b1 b2 => by rw [g2 b (by omega)])
  have e5 : M2 (x + 69) 4 = ((yC A).length : Int) + 1 := by
    have := u2.1
    rw [this, List.length_append]; simp
  rw [e5, Int.add_sub_cancel]
  exact ⟨⟨by omega, by omega⟩, h1 f0 f1 ⟨v0, v1⟩ ⟨e0, e1⟩ (by omega) t1 M2 c2 (yFc_trans f1' f2)⟩
end YCT
