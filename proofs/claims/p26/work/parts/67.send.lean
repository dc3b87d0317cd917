/-! send -/
section YSE
variable {x m w : Nat} {t t' : xTh} {M M' M1 M2 : xMe} {D : Nat → Prop} {A A' : yA} {H H' : List yA} {p f v T z : Int} {Q : Int → xMe → Prop} {E : String → xMe → Prop}
theorem yI_snd (hI : yI A) (h40 : yS A 3 < 40) (f0 : 0 ≤ f) (f1 : f < yS A 2) (T0 : 0 ≤ T) (T1 : T ≤ 10000) (z0 : 1 ≤ z) (z1 : z ≤ 999) : yI (ySnd A f T z) := by
  obtain ⟨⟨h1, h2, h3, h4, h5, h6, h7⟩, i2, i3, i4, i5, i6, i7, i8⟩ := hI
  obtain ⟨n1, n2, n3, n4, n5, n6⟩ := id h1
  have e : ∀ k, k ≠ 3 → ¬ (81 + 9 * yS A 3 ≤ k ∧ k < 90 + 9 * yS A 3) → yS (ySnd A f T z) k = yS A k := fun k a b => ySnd_n a b
  have c : ∀ k c : Int, k = 81 + 9 * yS A 3 + c → 0 ≤ c → c < 9 → yS (ySnd A f T z) k = yPq f T z c := fun k c a b d => ySnd_c n5 a b d
  have e1 := e 1 (by omega) (by omega)
  have e2 := e 2 (by omega) (by omega)
  have e3 : yS (ySnd A f T z) 3 = yS A 3 + 1 := ySnd_3
  have eQ : yQ (ySnd A f T z) = yQ A := rfl
  have eC : yC (ySnd A f T z) = yC A := rfl
  have eP : yP (ySnd A f T z) = yP A := rfl
  have eK : yK (ySnd A f T z) = yK A := rfl
  generalize ySnd A f T z = B at *
  have c0 : yS B (81 + 9 * yS A 3) = f := c _ 0 (by omega) (by decide) (by decide)
  have c1 : yS B (82 + 9 * yS A 3) = T := c _ 1 (by omega) (by decide) (by decide)
  have c2 : yS B (83 + 9 * yS A 3) = z := c _ 2 (by omega) (by decide) (by decide)
  have c3 : yS B (84 + 9 * yS A 3) = 0 := c _ 3 (by omega) (by decide) (by decide)
  have c4 : yS B (85 + 9 * yS A 3) = 0 := c _ 4 (by omega) (by decide) (by decide)
  have c5 : yS B (86 + 9 * yS A 3) = 0 := c _ 5 (by omega) (by decide) (by decide)
  have c6 : yS B (87 + 9 * yS A 3) = -1 := c _ 6 (by omega) (by decide) (by decide)
  have c7 : yS B (88 + 9 * yS A 3) = 0 := c _ 7 (by omega) (by decide) (by decide)
  have egt : ∀ p, 0 ≤ p → p < yS A 3 → yGt B p = yGt A p := fun p p0 p1 => by
    have a := h4 p p0 p1
    have b := i3 p p0 p1
    unfold yGt
    rw [e (81 + 9 * p) (by omega) (by omega), e (85 + 9 * p) (by omega) (by omega), e _ (by omega) (by omega)]
  have sum : ∀ g g' : Int → Int, (∀ p : Int, 0 ≤ p → p < yS A 3 → g' p = g p) → g' (yS A 3) = 0 → ySp2 g' (yS B 3).toNat = ySp2 g (yS A 3).toNat := fun g g' hgg h0 => by
    rw [e3, show (yS A 3 + 1).toNat = (yS A 3).toNat + 1 by omega]
    rw [show ySp2 g' ((yS A 3).toNat + 1) = ySp2 g' (yS A 3).toNat + g' ((yS A 3).toNat : Int) from rfl, show (((yS A 3).toNat : Nat) : Int) = yS A 3 by omega, h0, ySp2_eq (fun p a b => hgg p a (by omega)), Int.add_zero]
  have et : yTot B = yTot A := sum _ _ (fun p p0 p1 => e _ (by omega) (by omega)) c4
  have hf := h3 f f0 f1
  have ht := i7.2.2.2.2.2.1
  refine ⟨⟨?_, ?_, ?_, ?_, ?_, ?_, ?_⟩, ?_, ?_, ?_, ?_, ?_, ?_, ?_⟩
  · unfold yN; rw [e1, e2, e3]; omega
  · intro g g0 g1
    rw [e1] at g1
    rw [e _ (by omega) (by omega), e _ (by omega) (by omega), e _ (by omega) (by omega)]; exact h2 g g0 g1
  · intro g g0 g1
    rw [e2] at g1
    obtain ⟨a1, a2, a3, a4, a5⟩ := h3 g g0 g1
    rw [e (33 + 8 * g) (by omega) (by omega), e1, e (34 + 8 * g) (by omega) (by omega)]
    refine ⟨a1, a2, a3, a4, fun j j0 j1 => ?_⟩
    rw [e _ (by omega) (by omega)]; exact a5 j j0 j1
  · intro p p0 p1
    rw [e3] at p1
    rw [e2]
    by_cases q : p = yS A 3
    · subst q; rw [c0, c1, c2]; exact ⟨f0, f1, T0, T1, z0, z1⟩
    · rw [e (81 + 9 * p) (by omega) (by omega), e (82 + 9 * p) (by omega) (by omega), e (83 + 9 * p) (by omega) (by omega)]; exact h4 p p0 (by omega)
  · rw [e 9 (by omega) (by omega), e 10 (by omega) (by omega), e 11 (by omega) (by omega)]; exact h5
  · rw [eK]; exact h6
  · rw [eK]; exact h7
  · intro g f' g0 g1 f0' f1'
    rw [e1] at g1; rw [e2] at f1'
    rw [e _ (by omega) (by omega)]; exact i2 g f' g0 g1 f0' f1'
  · intro p p0 p1
    rw [e3] at p1
    rw [e 0 (by omega) (by omega)]
    by_cases q : p = yS A 3
    · subst q
      rw [c0, c3, c4, c5, c6, c7, e (33 + 8 * f) (by omega) (by omega)]; omega
    · have a := h4 p p0 (by omega)
      rw [e (84 + 9 * p) (by omega) (by omega), e (85 + 9 * p) (by omega) (by omega), e (81 + 9 * p) (by omega) (by omega), e (86 + 9 * p) (by omega) (by omega), e (87 + 9 * p) (by omega) (by omega), e (88 + 9 * p) (by omega) (by omega), e (33 + 8 * _) (by omega) (by omega)]; exact i3 p p0 (by omega)
  · refine ⟨by rw [eQ]; exact i4.1, fun s p hp => ?_⟩
    rw [eQ] at hp ⊢
    obtain ⟨a1, a2, a3, a4, a5⟩ := i4.2 s p hp
    have := h4 p a1 a2
    unfold ySl at a4 ⊢
    have b5 := i3 p a1 a2
    have hgt : 0 ≤ yGt A p ∧ yGt A p < yS A 1 := by
      have hr := h3 _ this.1 this.2.1
      exact hr.2.2.2.2 _ b5.2.2.1 (b5.2.2.2.2.1 (by omega))
    rw [e3, egt p a1 a2, e (84 + 9 * p) (by omega) (by omega), e (81 + 9 * p) (by omega) (by omega), e (17 + 3 * yGt A p) (by omega) (by omega)]
    exact ⟨a1, by omega, a3, a4, a5⟩
  · unfold yI5 at *
    rw [eC, e2, e 0 (by omega) (by omega)]; exact i5
  · unfold yI6 at *
    rw [eP]; exact i6
  · obtain ⟨j1, j2⟩ := i7
    refine ⟨fun g g0 g1 => ?_, ?_⟩
    · rw [e2] at g1
      rw [et, e _ (by omega) (by omega)]; exact j1 g g0 g1
    · rw [et, e 8 (by omega) (by omega), e 7 (by omega) (by omega), e 0 (by omega) (by omega)]; exact j2
  · obtain ⟨j1, j2, j3⟩ := i8
    unfold yI8
    rw [e2, e 5 (by omega) (by omega), e 6 (by omega) (by omega)]
    refine ⟨?_, ?_, fun g g0 g1 => ?_⟩
    · rw [j1]; exact (sum _ _ (fun p p0 p1 => by rw [e _ (by omega) (by omega)]) (by rw [c3]; rfl)).symm
    · rw [j2]; exact (sum _ _ (fun p p0 p1 => by rw [e _ (by omega) (by omega)]) (by rw [c3]; rfl)).symm
    · rw [e _ (by omega) (by omega), j3 g g0 g1]
      exact (sum _ _ (fun p p0 p1 => by rw [e (81 + 9 * p) (by omega) (by omega), e (84 + 9 * p) (by omega) (by omega), e (83 + 9 * p) (by omega) (by omega)]) (by rw [c3]; exact if_neg (fun q => absurd q.2 (by decide)))).symm
theorem yG0_snd (hA : yG0 A) (h40 : yS A 3 < 40) (f0 : 0 ≤ f) (f1 : f < yS A 2) (z0 : 1 ≤ z) (z1 : z ≤ 999) : yG0 (ySnd A f (yS A 0) z) := by
  have n5 := hA.1.1.1.1.2.2.2.2.1
  have ht0 := hA.1.1.2.2.2.2.2.2.1.2.2.2.2.2.1
  have ht := hA.2.1
  refine ⟨⟨yI_snd hA.1.1 h40 f0 f1 ht0 (by omega) z0 z1, ?_⟩, ?_⟩
  · rw [ySnd_n (by omega) (by omega), ySnd_n (by omega) (by omega)]; exact hA.1.2
  · refine ⟨by rw [ySnd_n (by omega) (by omega)]; exact hA.2.1, fun p p0 p1 => ?_, fun c hc => by rw [ySnd_n (by omega) (by omega)]; exact hA.2.2.2 c hc⟩
    rw [ySnd_3] at p1
    by_cases q : p = yS A 3
    · rw [ySnd_c (c := 3) n5 (by omega) (by decide) (by decide), ySnd_c (c := 6) n5 (by omega) (by decide) (by decide)]
      simp [yPq]
    · rw [ySnd_n (by omega) (by omega), ySnd_n (by omega) (by omega)]; exact hA.2.2.1 p p0 (by omega)
theorem s_X11_send {Q : Int → xTh → xMe → Prop} (hc : yCs x t M D A H) (hg : yHg H) (hA : yG0 A) (h1 : 0 ≤ f → f < yS A 2 → 1 ≤ z → z ≤ 999 → yS A 3 < 40 → ∀ t' M', yCs x t' M' D (ySnd A f (yS A 0) z) (yPush H A) → yFc x D M M' → Q (yS A 3) t' M') (h2 : ¬ (0 ≤ f ∧ f < yS A 2) → E xIOe M) (h3 : 0 ≤ f → f < yS A 2 → ¬ (1 ≤ z ∧ z ≤ 999) → E xIAe M) (h4 : 0 ≤ f → f < yS A 2 → 1 ≤ z → z ≤ 999 → ¬ yS A 3 < 40 → E "java/lang/IllegalStateException" M) : p_X11_send t x f z M Q E := by
  obtain ⟨n1, n2, n3, n4, n5, n6⟩ := id hA.1.1.1.1
  unfold p_X11_send
  refine s_checkFlow hc.1.1 (fun f0 f1 => s_checkRange (fun z0 z1 => ?_) (h3 f0 f1)) h2
  have e16 : M (x + 60) 8 = yS A 3 := yr16 hc.1.1.1
  rw [e16]
  refine ⟨fun q => ?_, fun q => h4 f0 f1 z0 z1 (by omega)⟩
  refine s_X3_keep hc hg hA (fun t1 M1 _ c1 f1' => ?_)
  have e7 : M1 (x + 44) 7 = yS A 0 := yr0_7 c1.1.1.1
  have e17 : M1 (x + 60) 8 = yS A 3 := yr16 c1.1.1.1
  have hn : yS A 3 = (((yS A 3).toNat : Nat) : Int) := by omega
  rw [e7]
  refine s_X5_add (n := (yS A 3).toNat) (by rw [e17]; exact hn) (by omega) (fun M2 k8 k1 k2 k3 k4 k5 k6 k7 k9 g gb g16 => ?_)
  rw [k8]
  have hC : yCR (x + 44) M2 (ySnd A f (yS A 0) z) := by
    obtain ⟨a1, a2, a3, a4⟩ := c1.1.1
    exact ⟨yR_snd hA.1.1.1.1 a1 hn k8 k1 k2 k3 k4 k5 k6 k7 k9 g gb g16, yU_f a2 (fun b b1 b2 => gb b (by omega)), yX_f a3 (fun b b1 b2 => gb b (by omega)), yQc_o a4 (fun b b1 b2 => gb b (by omega))⟩
  obtain ⟨c2, f2⟩ := yCs_w c1 (yPush_g hg hA) hC rfl (by rw [gb _ (by omega)]; exact c1.2.1) (by rw [gb _ (by omega)]; exact c1.2.2.1) (fun b b1 b2 => gb b (by omega))
  rw [Int.add_sub_cancel, ← hn]
  exact ⟨⟨by omega, by omega⟩, h1 f0 f1 z0 z1 q t1 M2 c2 (yFc_trans f1' f2)⟩
end YSE
