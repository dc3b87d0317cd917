/-! setThrift, grant, forward -/
section YCT
variable {x m : Nat} {t t' : xTh} {M M' M1 M2 : xMe} {D : Nat → Prop} {A A' : yA} {H H' : List yA} {f v : Int} {Q : Int → xMe → Prop} {E : String → xMe → Prop}
theorem yI_thr (hI : yI A) (f0 : 0 ≤ f) (f1 : f < yS A 2) (v0 : 0 ≤ v) (v1 : v ≤ 99) : yI (yw A (34 + 8 * f) v) := by
  obtain ⟨⟨h1, h2, h3, h4, h5, h6, h7⟩, i2, i3, i4, i5, i6, i7, i8⟩ := hI
  obtain ⟨n1, n2, n3, n4, n5, n6⟩ := id h1
  have e : ∀ k, k ≠ 34 + 8 * f → yS (yw A (34 + 8 * f) v) k = yS A k := fun k hk => yup_n hk
  have es : yS (yw A (34 + 8 * f) v) (34 + 8 * f) = v := yup_s
  have e1 := e 1 (by omega)
  have e2 := e 2 (by omega)
  have e3 := e 3 (by omega)
  have eQ : yQ (yw A (34 + 8 * f) v) = yQ A := rfl
  generalize hB : yw A (34 + 8 * f) v = B at *
  have eC : yC B = yC A := by rw [← hB]; rfl
  have eP : yP B = yP A := by rw [← hB]; rfl
  have eK : yK B = yK A := by rw [← hB]; rfl
  have egt : ∀ p, 0 ≤ p → p < yS A 3 → yGt B p = yGt A p := fun p p0 p1 => by
    have a := h4 p p0 p1
    have b := i3 p p0 p1
    unfold yGt
    rw [e (81 + 9 * p) (by omega), e (85 + 9 * p) (by omega), e _ (by omega)]
  have et : yTot B = yTot A := by
    unfold yTot
    rw [e3]
    exact ySp2_eq (fun p p0 p1 => e _ (by omega))
  refine ⟨⟨?_, ?_, ?_, ?_, ?_, ?_, ?_⟩, ?_, ?_, ?_, ?_, ?_, ?_, ?_⟩
  · unfold yN; rw [e1, e2, e3]; exact h1
  · intro g g0 g1
    rw [e1] at g1
    rw [e _ (by omega), e _ (by omega), e _ (by omega)]; exact h2 g g0 g1
  · intro g g0 g1
    rw [e2] at g1
    obtain ⟨a1, a2, a3, a4, a5⟩ := h3 g g0 g1
    rw [e (33 + 8 * g) (by omega), e1]
    refine ⟨a1, a2, ?_, ?_, fun j j0 j1 => ?_⟩
    · by_cases q : g = f
      · rw [q, es]; exact v0
      · rw [e _ (by omega)]; exact a3
    · by_cases q : g = f
      · rw [q, es]; exact v1
      · rw [e _ (by omega)]; exact a4
    · rw [e _ (by omega)]; exact a5 j j0 j1
  · intro p p0 p1
    rw [e3] at p1
    rw [e (81 + 9 * p) (by omega), e (82 + 9 * p) (by omega), e (83 + 9 * p) (by omega), e2]; exact h4 p p0 p1
  · rw [e 9 (by omega), e 10 (by omega), e 11 (by omega)]; exact h5
  · rw [eK]; exact h6
  · rw [eK]; exact h7
  · intro g f' g0 g1 f0' f1'
    rw [e1] at g1; rw [e2] at f1'
    rw [e _ (by omega)]; exact i2 g f' g0 g1 f0' f1'
  · intro p p0 p1
    rw [e3] at p1
    have a := h4 p p0 p1
    rw [e (84 + 9 * p) (by omega), e (85 + 9 * p) (by omega), e (81 + 9 * p) (by omega), e (86 + 9 * p) (by omega), e (87 + 9 * p) (by omega), e (88 + 9 * p) (by omega), e 0 (by omega), e _ (by omega)]; exact i3 p p0 p1
  · refine ⟨by rw [eQ]; exact i4.1, fun s p hp => ?_⟩
    rw [eQ] at hp ⊢
    obtain ⟨a1, a2, a3, a4, a5⟩ := i4.2 s p hp
    have := h4 p a1 a2
    unfold ySl at a4 ⊢
    have b5 := i3 p a1 a2
    rw [e3, egt p a1 a2, e (84 + 9 * p) (by omega), e (81 + 9 * p) (by omega)]
    refine ⟨a1, a2, a3, a4, ?_⟩
    have hgt : 0 ≤ yGt A p ∧ yGt A p < yS A 1 := by
      have hr := h3 _ this.1 this.2.1
      exact hr.2.2.2.2 _ b5.2.2.1 (b5.2.2.2.2.1 (by omega))
    rw [e _ (by omega)]; exact a5
  · unfold yI5 at *
    rw [eC, e2, e 0 (by omega)]; exact i5
  · unfold yI6 at *
    rw [eP]; exact i6
  · obtain ⟨j1, j2⟩ := i7
    refine ⟨fun g g0 g1 => ?_, ?_⟩
    · rw [e2] at g1
      rw [et, e _ (by omega)]; exact j1 g g0 g1
    · rw [et, e 8 (by omega), e 7 (by omega), e 0 (by omega)]; exact j2
  · obtain ⟨j1, j2, j3⟩ := i8
    unfold yI8
    rw [e3, e2, e 5 (by omega), e 6 (by omega)]
    refine ⟨?_, ?_, fun g g0 g1 => ?_⟩
    · rw [j1]; exact (ySp2_eq (fun p p0 p1 => by rw [e _ (by omega)])).symm
    · rw [j2]; exact (ySp2_eq (fun p p0 p1 => by rw [e _ (by omega)])).symm
    · rw [e _ (by omega), j3 g g0 g1]; exact (ySp2_eq (fun p p0 p1 => by rw [e (81 + 9 * p) (by omega), e (84 + 9 * p) (by omega), e (83 + 9 * p) (by omega)])).symm
theorem yG0_thr (hA : yG0 A) (f0 : 0 ≤ f) (f1 : f < yS A 2) (v0 : 0 ≤ v) (v1 : v ≤ 99) : yG0 (yw A (34 + 8 * f) v) := by
  have e : ∀ k, k ≠ 34 + 8 * f → yS (yw A (34 + 8 * f) v) k = yS A k := fun k hk => yup_n hk
  exact ⟨⟨yI_thr hA.1.1 f0 f1 v0 v1, by rw [e 7 (by omega), e 0 (by omega)]; exact hA.1.2⟩, by rw [e 0 (by omega)]; exact hA.2.1, yEd_k hA.2.2.1 (e 3 (by omega)) (fun k k1 _ k2 => e k (by have := hA.1.1.1.1; obtain ⟨-, -, n3, n4, -, -⟩ := this; omega)) hA.1.1.1.1, fun c hc => by rw [e 0 (by omega)]; exact hA.2.2.2 c hc⟩
theorem s_X11_setThrift {Q : Int → xTh → xMe → Prop} (hc : yCs x t M D A H) (hg : yHg H) (hA : yG0 A) (h1 : 0 ≤ f → f < yS A 2 → 0 ≤ v → v ≤ 99 → ∀ t' M', yCs x t' M' D (yw A (34 + 8 * f) v) (yPush H A) → yFc x D M M' → Q (yS A (34 + 8 * f)) t' M') (h2 : ¬ (0 ≤ f ∧ f < yS A 2) → E xIOe M) (h3 : 0 ≤ f → f < yS A 2 → ¬ (0 ≤ v ∧ v ≤ 99) → E xIAe M) : p_X11_setThrift t x f v M Q E := by
  obtain ⟨n1, n2, n3, n4, n5, n6⟩ := id hA.1.1.1.1
  unfold p_X11_setThrift
  refine s_checkFlow hc.1.1 (fun f0 f1 => s_checkRange (fun v0 v1 => ?_) (h3 f0 f1)) h2
  refine s_X3_keep hc hg hA (fun t1 M1 _ c1 f1' => ⟨⟨by omega, by omega⟩, fun z ez => ⟨⟨by omega, by omega⟩, fun M2 e2 => ?_⟩⟩)
  have e8 : M1 (x + 52) f.toNat = yS A (34 + 8 * f) := yr8 c1.1.1.1 f0 f1
  rw [ez, e8]
  have hC : yCR (x + 44) M2 (yw A (34 + 8 * f) v) := by
    rw [e2]
    exact yCR_w (w := x + 44) (o := 8) hA.1.1.1.1 c1.1.1 (yl8 f0 f1) (by unfold yFx; omega)
  obtain ⟨c2, f2⟩ := yCs_w c1 (yPush_g hg hA) hC rfl (by rw [e2, xw_b (by omega)]; exact c1.2.1) (by rw [e2, xw_b (by omega)]; exact c1.2.2.1) (fun b b1 b2 => by rw [e2, xw_B (by omega)])
  exact h1 f0 f1 v0 v1 t1 M2 c2 (yFc_trans f1' f2)
theorem s_X12_setThrift {F : Nat} (hF : 3100 ≤ F) (h : yDR (m + 2) M A) (hm : yHm m M H) (hg : yHg H) (hA : yG0 A) (h1 : 0 ≤ f → f < yS A 2 → 0 ≤ v → v ≤ 99 → ∀ M', yDR (m + 2) M' (yw A (34 + 8 * f) v) → yHm m M' (yPush H A) → M' m 0 = 0 → yFn m M M' → Q (yS A (34 + 8 * f)) M') (h2 : ¬ (0 ≤ f ∧ f < yS A 2) → Q 0 (xw (xw M m 0 0) m 0 1)) (h3 : 0 ≤ f → f < yS A 2 → ¬ (0 ≤ v ∧ v ≤ 99) → Q 0 (xw (xw M m 0 0) m 0 2)) : p_X12_setThrift F m f v M Q := by
  obtain ⟨n1, n2, n3, n4, n5, n6⟩ := id hA.1.1.1.1
  unfold p_X12_setThrift
  intro M1 e1
  have hd : yDR (m + 2) M1 A := by rw [e1]; exact yDR_o h (by omega)
  have e0 : M1 m 0 = 0 := by rw [e1]; exact xw_s
  refine s_noF hA.1.1.1.1 hd e0 (fun f0 f1 => ⟨fun q => absurd rfl q, fun _ => ?_⟩) (fun q => ⟨fun _ => by rw [e1]; exact h2 q, fun q => absurd q (by decide)⟩)
  refine s_noN e0 (fun v0 v1 => ⟨fun _ => ?_, fun q => absurd rfl q⟩) (fun q => ⟨fun q => absurd q (by decide), fun _ => by rw [e1]; exact h3 f0 f1 q⟩)
  have hm1 : yHm m M1 H := yHm_fr hg hm (by rw [e1, xw_j (by decide)]) (fun b b1 b2 => by rw [e1, xw_B (by omega)])
  refine s_X12_remember hF hd hm1 hg hA (fun M3 g1 g2 g3 => ?_)
  have hd3 : yDR (m + 2) M3 A := yDR_row hd (g3 _ (by omega) (by omega))
  refine s_X12_ofFlow hd3 f0 (by omega) (by decide) (by decide) ?_
  rw [show 33 + 8 * f + 1 = 34 + 8 * f by omega]
  refine ⟨⟨by omega, by omega⟩, ⟨by omega, by omega⟩, ⟨by omega, by omega⟩, ⟨by omega, by omega⟩, fun M4 e4 => h1 f0 f1 v0 v1 M4 ?_ ?_ ?_ ?_⟩
  · rw [e4]; exact yDR_w (yG0_r hA) hd3 (by unfold yG; omega)
  · rw [e4]; exact yHm_o (yPush_g hg hA) g1 (by omega) (by omega)
  · rw [e4, xw_b (by omega), g2 0 (by decide)]; exact e0
  · refine yFn_2 (yFn_r ?_ g2 g3) (fun b hb => by rw [e4, xw_B hb])
    rw [e1]; exact yFn_0 yFn_refl
theorem q1_setThrift {K : Nat} {p1 p2 : Int} (hK : 3100 ≤ K) (hj : xJn x t M) : q_setThrift K t x (x + 436) (x + 452) p1 p2 M (xJn x) := by
  obtain ⟨D, A, H, hc, hd, hm, hg, hA, hb, he⟩ := yJn_c hj
  unfold q_setThrift p_L_setThrift
  refine s_X11_setThrift hc hg hA (fun a b c d t1 M1 c1 f1 M2 e2 => ?_) (fun q z => ⟨fun _ => ?_, fun r => absurd r (by decide), Or.inl rfl⟩) (fun a b q z => ⟨fun r => absurd r (by decide), fun _ => ?_, Or.inr rfl⟩)
  · obtain ⟨d2, m2⟩ := yMd (r := yS A (34 + 8 * p1)) hc.2.2.2.1 f1 hg hd hm
    rw [← e2] at d2 m2
    refine s_X12_setThrift hK d2 m2 hg hA (fun _ _ _ _ M3 d3 m3 z3 f3 => ⟨z3, fun _ => ?_, ?_⟩) (fun q => absurd ⟨a, b⟩ q) (fun _ _ q => absurd ⟨c, d⟩ q)
    · rw [f3.1 _ (by omega) (by omega) (by omega) (by omega) (by omega) (by omega), e2]; exact xw_s
    · exact yJn_mk c1 f1 hb he (fun b hb => by rw [e2, xw_B hb]) d3 m3 f3 (yPush_g hg hA) (yG0_thr hA a b c d)
  · exact s_X12_setThrift hK hd hm hg hA (fun a b => absurd ⟨a, b⟩ q) (fun _ => yTh hj (by decide)) (fun a b _ => absurd ⟨a, b⟩ q)
  · exact s_X12_setThrift hK hd hm hg hA (fun _ _ a b => absurd ⟨a, b⟩ q) (fun r => absurd ⟨a, b⟩ r) (fun _ _ _ => yTh hj (by decide))
/-! grant -/
theorem yG0_C {C : List yCo} (hA : yG0 A) (hl : C.length ≤ 30) (hC : ∀ c ∈ C, 0 ≤ c.1 ∧ c.1 < yS A 2 ∧ 1 ≤ c.2.1 ∧ c.2.1 ≤ 9999 ∧ yS A 0 ≤ c.2.2.1 ∧ c.2.2.1 ≤ 40000 ∧ 0 ≤ c.2.2.2 ∧ c.2.2.2 ≤ 2) (hE : ∀ c ∈ C, c.2.2.1 ≤ yS A 0 + 9999) : yG0 (yCw A C) := by
  obtain ⟨⟨⟨h1, i2, i3, i4, i5, i6, i7, i8⟩, hj⟩, ht, hed, -⟩ := hA
  exact ⟨⟨⟨h1, i2, i3, i4, ⟨hl, hC⟩, i6, i7, i8⟩, hj⟩, ht, hed, hE⟩
theorem s_X11_grant {e : Int} {Q : Int → xTh → xMe → Prop} (hc : yCs x t M D A H) (hg : yHg H) (hA : yG0 A) (h1 : 0 ≤ f → f < yS A 2 → (1 ≤ v ∧ v ≤ 9999) → (1 ≤ e ∧ e ≤ 9999) → (yC A).length < 30 → ∀ t' M', yCs x t' M' D (yCw A (yC A ++ [(f, v, yS A 0 + e, 0)])) (yPush H A) → yFc x D M M' → Q ((yC A).length : Int) t' M') (h2 : ¬ (0 ≤ f ∧ f < yS A 2) → E xIOe M) (h3 : 0 ≤ f → f < yS A 2 → ¬ ((1 ≤ v ∧ v ≤ 9999) ∧ (1 ≤ e ∧ e ≤ 9999)) → E xIAe M) (h4 : 0 ≤ f → f < yS A 2 → (1 ≤ v ∧ v ≤ 9999) → (1 ≤ e ∧ e ≤ 9999) → ¬ (yC A).length < 30 → E "java/lang/IllegalStateException" M) : p_X11_grant t x f v e M Q E := by
  have ht := hA.2.1
  have ht0 := hA.1.1.2.2.2.2.2.2.1.2.2.2.2.2.1
  have hl := hA.1.1.2.2.2.2.1.1
  unfold p_X11_grant
  refine s_checkFlow hc.1.1 (fun f0 f1 => s_checkRange (fun v0 v1 => s_checkRange (fun e0 e1 => ?_) (fun q => h3 f0 f1 (fun r => q r.2))) (fun q => h3 f0 f1 (fun r => q r.1))) h2
  have e4 : M (x + 69) 4 = ((yC A).length : Int) := hc.1.1.2.1.1
  rw [e4]
  refine ⟨fun q => ?_, fun q => h4 f0 f1 ⟨v0, v1⟩ ⟨e0, e1⟩ (by omega)⟩
  refine s_X3_keep hc hg hA (fun t1 M1 _ c1 f1' => ?_)
  have e7 : M1 (x + 44) 7 = yS A 0 := yr0_7 c1.1.1.1
  rw [e7]
  refine ⟨⟨by omega, by omega⟩, ?_⟩
  refine s_X0_add (a := x + 69) c1.1.1.2.1 (by omega) (fun M2 u2 g2 => ?_)
  have hC : yCR (x + 44) M2 (yCw A (yC A ++ [(f, v, yS A 0 + e, 0)])) := by
    obtain ⟨a1, a2, a3, a4⟩ := c1.1.1
    exact ⟨yR_f a1 (fun b b1 b2 _ => g2 b (by omega)), u2, yX_f a3 (fun b b1 b2 => g2 b (by omega)), yQc_o a4 (fun b b1 b2 => g2 b (by omega))⟩
  obtain ⟨c2, f2⟩ := yCs_w c1 (yPush_g hg hA) hC rfl (by rw [g2 _ (by omega)]; exact c1.2.1) (by rw [g2 _ (by omega)]; exact c1.2.2.1) (fun b b1 b2 => by rw [g2 b (by omega)])
  have e5 : M2 (x + 69) 4 = ((yC A).length : Int) + 1 := by
    have := u2.1
    rw [this, List.length_append]; simp
  rw [e5, Int.add_sub_cancel]
  exact ⟨⟨by omega, by omega⟩, h1 f0 f1 ⟨v0, v1⟩ ⟨e0, e1⟩ (by omega) t1 M2 c2 (yFc_trans f1' f2)⟩
set_option maxHeartbeats 1000000 in
theorem s_X12_grant {F : Nat} {e : Int} (hF : 3100 ≤ F) (h : yDR (m + 2) M A) (hm : yHm m M H) (hg : yHg H) (hA : yG0 A) (h1 : 0 ≤ f → f < yS A 2 → (1 ≤ v ∧ v ≤ 9999) → (1 ≤ e ∧ e ≤ 9999) → (yC A).length < 30 → ∀ M', yDR (m + 2) M' (yCw A (yC A ++ [(f, v, yS A 0 + e, 0)])) → yHm m M' (yPush H A) → M' m 0 = 0 → yFn m M M' → Q ((yC A).length : Int) M') (h2 : ¬ (0 ≤ f ∧ f < yS A 2) → Q 0 (xw (xw M m 0 0) m 0 1)) (h3 : 0 ≤ f → f < yS A 2 → ¬ ((1 ≤ v ∧ v ≤ 9999) ∧ (1 ≤ e ∧ e ≤ 9999)) → Q 0 (xw (xw M m 0 0) m 0 2)) (h4 : 0 ≤ f → f < yS A 2 → (1 ≤ v ∧ v ≤ 9999) → (1 ≤ e ∧ e ≤ 9999) → ¬ (yC A).length < 30 → Q 0 (xw (xw M m 0 0) m 0 3)) : p_X12_grant F m f v e M Q := by
  obtain ⟨n1, n2, n3, n4, n5, n6⟩ := id hA.1.1.1.1
  have ht := hA.2.1
  have ht0 := hA.1.1.2.2.2.2.2.2.1.2.2.2.2.2.1
  have hl := hA.1.1.2.2.2.2.1.1
  unfold p_X12_grant
  intro M1 e1
  have hd : yDR (m + 2) M1 A := by rw [e1]; exact yDR_o h (by omega)
  have e0 : M1 m 0 = 0 := by rw [e1]; exact xw_s
  have e4 : M1 (m + 2) 4 = ((yC A).length : Int) := hd.2.1.1
  have hm1 : yHm m M1 H := yHm_fr hg hm (by rw [e1, xw_j (by decide)]) (fun b b1 b2 => by rw [e1, xw_B (by omega)])
  have bad : 0 ≤ f → f < yS A 2 → ¬ ((1 ≤ v ∧ v ≤ 9999) ∧ (1 ≤ e ∧ e ≤ 9999)) → ∀ R : Int → xMe → Prop, (∀ r M, r ≠ 0 → Q 0 M → R r M) → p_X12_fails m 1 2 M1 R := fun f0 f1 q R hR => s_fails1 e0 (by decide) (hR 1 _ (by decide) (by rw [e1]; exact h3 f0 f1 q))
  refine s_noF hA.1.1.1.1 hd e0 (fun f0 f1 => ⟨fun q => absurd rfl q, fun _ => ?_⟩) (fun q => ⟨fun _ => by rw [e1]; exact h2 q, fun q => absurd q (by decide)⟩)
  refine s_in (fun v0 v1 => ⟨fun q => absurd q (by decide), fun _ => ?_⟩) (fun q => ⟨fun _ => s_fails1 e0 (by decide) ⟨fun _ => by rw [e1]; exact h3 f0 f1 (fun r => q r.1), fun q => absurd q (by decide)⟩, fun q => absurd rfl q⟩)
  refine s_in (fun u0 u1 => ⟨fun _ => ?_, fun q => absurd q (by decide)⟩) (fun q => ⟨fun q => absurd rfl q, fun _ => s_fails1 e0 (by decide) ⟨fun _ => by rw [e1]; exact h3 f0 f1 (fun r => q r.2), fun q => absurd q (by decide)⟩⟩)
  refine s_fails0 e0 ⟨fun q => absurd rfl q, fun _ => ⟨⟨by decide, by decide⟩, fun q => ?_, fun q => ?_⟩⟩
  · rw [e4] at q
    refine s_fails0 e0 ⟨fun _ => ?_, fun q => absurd rfl q⟩
    refine s_X12_remember hF hd hm1 hg hA (fun M3 g1 g2 g3 => ?_)
    have hd3 : yDR (m + 2) M3 A := yDR_row hd (g3 _ (by omega) (by omega))
    rw [yD0 hd3]
    refine ⟨⟨by decide, by decide⟩, ⟨by omega, by omega⟩, ?_⟩
    refine s_X12_putCoupon (b := m + 2) hd3.2.1 (by omega) (fun M4 v4 r4 f4 => ?_)
    have e5 : M4 (m + 2) 4 = ((yC A).length : Int) + 1 := by
      rw [v4.1, List.length_append]; simp
    rw [e5, Int.add_sub_cancel]
    refine ⟨⟨by decide, by decide⟩, ⟨by omega, by omega⟩, h1 f0 f1 ⟨v0, v1⟩ ⟨u0, u1⟩ (by omega) M4 (yDR_C (yG0_r hA) hd3 v4 f4) (yHm_fr (yPush_g hg hA) g1 (by rw [r4 m (by omega)]) (fun b b1 b2 => r4 b (by omega))) ?_ ?_⟩
    · rw [r4 m (by omega), g2 0 (by decide)]; exact e0
    · refine yFn_2 (yFn_r ?_ g2 g3) (fun b hb => r4 b hb)
      rw [e1]; exact yFn_0 yFn_refl
  · rw [e4] at q
    refine s_fails1 e0 (by decide) ⟨fun q => absurd q (by decide), fun _ => ?_⟩
    rw [e1]; exact h4 f0 f1 ⟨v0, v1⟩ ⟨u0, u1⟩ (by omega)
theorem q1_grant {K : Nat} {p1 p2 p3 : Int} (hK : 3100 ≤ K) (hj : xJn x t M) : q_grant K t x (x + 436) (x + 452) p1 p2 p3 M (xJn x) := by
  obtain ⟨D, A, H, hc, hd, hm, hg, hA, hb, he⟩ := yJn_c hj
  unfold q_grant p_L_grant
  refine s_X11_grant hc hg hA (fun a b c d l t1 M1 c1 f1 M2 e2 => ?_) (fun q z => ⟨fun _ => ?_, fun r => absurd r (by decide), fun r => absurd r (by decide), Or.inl rfl⟩) (fun a b q z => ⟨fun r => absurd r (by decide), fun _ => ?_, fun r => absurd r (by decide), Or.inr (Or.inl rfl)⟩) (fun a b c d q z => ⟨fun r => absurd r (by decide), fun r => absurd r (by decide), fun _ => ?_, Or.inr (Or.inr rfl)⟩)
  · obtain ⟨d2, m2⟩ := yMd (r := ((yC A).length : Int)) hc.2.2.2.1 f1 hg hd hm
    rw [← e2] at d2 m2
    refine s_X12_grant hK d2 m2 hg hA (fun _ _ _ _ _ M3 d3 m3 z3 f3 => ⟨z3, fun _ => ?_, ?_⟩) (fun q => absurd ⟨a, b⟩ q) (fun _ _ q => absurd ⟨c, d⟩ q) (fun _ _ _ _ q => absurd l q)
    · rw [f3.1 _ (by omega) (by omega) (by omega) (by omega) (by omega) (by omega), e2]; exact xw_s
    · have ht := hA.2.1
      have ht0 := hA.1.1.2.2.2.2.2.2.1.2.2.2.2.2.1
      refine yJn_mk c1 f1 hb he (fun b hb => by rw [e2, xw_B hb]) d3 m3 f3 (yPush_g hg hA) (yG0_C hA (by rw [List.length_append]; simp; omega) (fun u hu => ?_) (fun u hu => ?_))
      rcases List.mem_append.mp hu with hu | hu
      · exact hA.1.1.2.2.2.2.1.2 u hu
      · rw [List.mem_singleton] at hu
        subst hu
        refine ⟨a, b, c.1, c.2, ?_, ?_, ?_, ?_⟩ <;> dsimp only <;> omega
      rcases List.mem_append.mp hu with hu | hu
      · exact hA.2.2.2 u hu
      · rw [List.mem_singleton] at hu
        subst hu
        dsimp only; omega
  · exact s_X12_grant hK hd hm hg hA (fun a b => absurd ⟨a, b⟩ q) (fun _ => yTh hj (by decide)) (fun a b _ => absurd ⟨a, b⟩ q) (fun a b _ => absurd ⟨a, b⟩ q)
  · exact s_X12_grant hK hd hm hg hA (fun _ _ a b => absurd ⟨a, b⟩ q) (fun r => absurd ⟨a, b⟩ r) (fun _ _ _ => yTh hj (by decide)) (fun _ _ a b => absurd ⟨a, b⟩ q)
  · exact s_X12_grant hK hd hm hg hA (fun _ _ _ _ r => absurd r q) (fun r => absurd ⟨a, b⟩ r) (fun _ _ r => absurd ⟨c, d⟩ r) (fun _ _ _ _ _ => yTh hj (by decide))
end YCT
