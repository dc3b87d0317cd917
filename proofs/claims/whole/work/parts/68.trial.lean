/-! TRIALS: endsAt, billAfter -/
section YTR
variable {x m : Nat} {t t' : xTh} {M M' M1 M2 M3 : xMe} {D : Nat → Prop} {A A' B : yA} {H H' : List yA} {p f v T z : Int} {Q : Int → xMe → Prop} {E : String → xMe → Prop}
theorem yCs_tr {s : Option Nat} (h : yCs x t M D A H) (hN : yN A) (hg : yHg H) (f : ∀ b, ¬ (x + 83 ≤ b ∧ b < x + 119) → (∀ q, D q → b ≠ q + 2) → M' b = M b) : yCs x (xwr t (x + 83) 6 s) M' D A H ∧ yFc x D M M' := by
  obtain ⟨h1, h2, h3, h4, h5⟩ := h
  have hq : ∀ b, b < x + 80 ∨ (x + 83 ≤ b ∧ b < x + 453) → ∀ q, D q → b ≠ q + 2 := fun b hb q hd => by have := yPx_b h4 hd; omega
  have hp : ∀ q, D q → M' (q + 1) = M (q + 1) := fun q hd => f _ (by have := yPx_b h4 hd; omega) (fun q' hd' => (h4 q hd).2.2 q' hd')
  refine ⟨⟨yWd_n (x := x) hN h1 (by omega) (fun b b1 b2 => f b (by omega) (hq b (by omega))) (hp _ h1.2.1), ?_, ?_, h4, ?_⟩, fun b b1 b2 b3 b4 => f b b2 b4⟩
  · rw [f _ (by omega) (hq _ (by omega))]; exact h2
  · rw [f _ (by omega) (hq _ (by omega))]; exact h3
  · refine yHc_fr hg h5 ⟨fun w w1 w2 => xr_wn (by omega), fun q hd => ⟨rfl, (h4 q hd).1⟩⟩ (fun _ h => h) (fun b b1 b2 => f b (by omega) (hq b (by omega))) hp
theorem s_trial {Q : xTh → xMe → Prop} (h : yCs x t M D A H) (hg : yHg H) (hA : yG0 A) (hq : ∀ M', yWd (xwr t (x + 83) 6 (some (xq t (x + 44)))) M' D (x + 83) A → yCs x (xwr t (x + 83) 6 (some (xq t (x + 44)))) M' D A H → (∀ b, ¬ (x + 83 ≤ b ∧ b < x + 119) → M' b = M b) → M' (x + 83) 13 = -1 → M' (x + 83) 14 = 1000000 → Q (xwr t (x + 83) 6 (some (xq t (x + 44)))) M') : p_X10_copyFrom t (x + 83) (x + 44) M Q := by
  obtain ⟨hN, hC, hk⟩ := yG0_c hA
  refine s_X10_copyFrom (by omega) hN hC hk h.1.1 (fun M1 c1 c2 c3 f1 => ?_)
  have f2 : ∀ b, ¬ (x + 83 ≤ b ∧ b < x + 119) → M1 b = M b := fun b hb => f1 b (by omega)
  have hb := yPx_b h.2.2.2.1 h.1.2.1
  exact hq M1 (yWd_cp (x := x) h.1 c1 (f1 _ (by omega))) (yCs_tr h hN hg (fun b b1 _ => f2 b b1)).1 f2 c2 c3
/-- a trial of so many ticks: what it leaves -/
theorem s_tadv {F n : Nat} {pk : Int} {Q : xMe → Prop} (hF : 1300 ≤ F) (hn : n ≤ 500) (ht : yS A 0 + n ≤ 11000) (hc : yCs x t M D A' H) (hA' : yN A') (hg : yHg H) (hw : yWd t M D (x + 83) A) (hJ : yJ A) (hL : 1 ≤ M (x + 83) 14) (hq : ∀ M', yCR (x + 83) M' (yAdv pk n A) → yCs x t M' D A' H → yFc x D M M' → yKp (x + 83) M M' → (∀ e, yS A 0 + n + 1000 < e → yPav (M (x + 83) 13) e (M' (x + 83) 14) A (yAdv pk n)) → (∀ b, ¬ (x + 83 ≤ b ∧ b < x + 119) → b ≠ xq t (x + 83) + 2 → M' b = M b) → Q M') : p_X10_advance F (x + 83) (n : Int) pk (xq t (x + 83)) (xq t (x + 83) + 1) (xq t (x + 83) + 2) (xqn t (x + 83)) M Q := by
  refine s_X10_advance hF hn ht hw.1 (yPz_of hc.2.2.2.1 hw (Or.inr ⟨by omega, by omega⟩)) hJ hL (fun M1 a1 a2 a3 a4 => ?_)
  have k := yCs_tr (M' := M1) (s := xr t (x + 83) 6) hc hA' hg (fun b b1 b2 => a4 b (by omega) (b2 _ hw.2.1))
  have ht : xwr t (x + 83) 6 (xr t (x + 83) 6) = t := by
    unfold xwr
    refine Prod.ext rfl (Prod.ext rfl (Prod.ext rfl ?_))
    funext b j
    show (if b = x + 83 ∧ j = 6 then _ else _) = _
    split
    · rename_i e; rw [e.1, e.2]; rfl
    · rfl
  rw [ht] at k
  exact hq M1 a1 k.1 k.2 a2 a3 (fun b b1 b2 => a4 b (by omega) b2)
theorem yDR_back {b : Nat} (hI : yIr A) (h : yDR b M A) (h2 : yDR b M2 B) (hS : ySt A B) (e : ∀ j, M3 b j = if j < 905 then M b j else M2 b j) : yDR b M3 A := by
  obtain ⟨g1, g2, g3, g4, g5⟩ := h
  have el : ∀ j, j < 905 → M3 b j = M b j := fun j hj => by rw [e, if_pos hj]
  refine ⟨yD_f g1 (fun k hk => el _ (by unfold yG at hk; omega)), yV_f g2 hI.2.1 (fun k hk => el k (by omega)), yY_f g3 hI.2.2 (fun k hk => el k (by omega)), yQd_o hI.1 g4 (fun k hk => el k (by unfold yChi at hk; omega)), ?_⟩
  rcases g5 with ⟨a1, a2⟩ | ⟨a1, a2, a3⟩
  · exact Or.inl ⟨a1, by rw [el 13 (by decide)]; exact a2⟩
  · refine Or.inr ⟨by rw [el 13 (by decide)]; exact a1, a2, fun j w hw => ?_⟩
    have e13 : M2 b 13 = M b 13 := by
      have q1 : M b 13 = yS A 13 := g1 13 (by unfold yG; omega)
      have q2 : M2 b 13 = yS B 13 := h2.1 13 (by unfold yG; omega)
      rw [q1, q2]; exact hS.1 13 (by unfold yStat; omega)
    rw [e, if_neg (by omega)]
    rcases h2.2.2.2.2 with ⟨b1, b2⟩ | ⟨b1, b2, b3⟩
    · exfalso
      rw [hS.2] at b1
      rw [e13, a1, b1] at b2
      exact absurd b2 (by decide)
    · rw [hS.2] at b3; exact b3 j w hw
theorem s_X12_endsAt {F : Nat} (hF : 3100 ≤ F) (h : yDR (m + 2) M A) (hm : yHm m M H) (hg : yHg H) (hA : yG0 A) (h1 : 0 ≤ p → p < yS A 3 → ∀ M', yDR (m + 2) M' A → yHm m M' H → M' m 0 = 0 → yFn m M M' → Q (yS (yAdv p 500 A) (87 + 9 * p)) M') (h2 : ¬ (0 ≤ p ∧ p < yS A 3) → Q 0 (xw (xw M m 0 0) m 0 1)) : p_X12_endsAt F m p M Q := by
  have ht := hA.2.1
  unfold p_X12_endsAt
  intro M1 e1
  have hd : yDR (m + 2) M1 A := by rw [e1]; exact yDR_o h (by omega)
  have e0 : M1 m 0 = 0 := by rw [e1]; exact xw_s
  have hm1 : yHm m M1 H := yHm_fr hg hm (by rw [e1, xw_j (by decide)]) (fun b b1 b2 => by rw [e1, xw_B (by omega)])
  refine s_noP hA.1.1.1.1 hd e0 (fun p0 p1 => ⟨fun _ => ?_, fun q => absurd rfl q⟩) (fun q => ⟨fun q => absurd q (by decide), fun _ => by rw [e1]; exact h2 q⟩)
  refine s_X12_copy (n := 905) (by omega) (by decide) (by decide) (by decide) hF (fun M2 f2 r2 => ?_)
  refine s_X12_endOf (n := 500) (by omega) (by decide) (by omega) (yDR_row hd (f2 _ (by omega))) hA.1 p0 p1 (fun M3 d3 f3 => ?_)
  refine s_X12_copy (n := 905) (by omega) (by decide) (by decide) (by decide) hF (fun M4 f4 r4 => h1 p0 p1 M4 ?_ ?_ ?_ ?_)
  · refine yDR_back (yG0_r hA) hd d3 (yAdv_I 500 A hA.1 (by omega)).2.1 (fun j => ?_)
    rw [r4]
    split
    · rename_i hj; rw [f3 _ (by omega) (by omega), r2, if_pos hj]
    · rfl
  · exact yHm_fr hg hm1 (by rw [f4 m (by omega), f3 m (by omega) (by omega), f2 m (by omega)]) (fun b b1 b2 => by rw [f4 b (by omega), f3 b (by omega) (by omega), f2 b (by omega)])
  · rw [f4 m (by omega), f3 m (by omega) (by omega), f2 m (by omega)]; exact e0
  · refine ⟨fun b b1 b2 b3 b4 b5 b6 => by rw [f4 b (by omega), f3 b (by omega) (by omega), f2 b (by omega), e1, xw_B b1], fun j j0 j1 => by rw [f4 m (by omega), f3 m (by omega) (by omega), f2 m (by omega), e1, xw_j j0]⟩
theorem s_X11_endsAt {F : Nat} {Q : Int → xTh → xMe → Prop} (hF : 1300 ≤ F) (hc : yCs x t M D A H) (hg : yHg H) (hA : yG0 A) (h1 : 0 ≤ p → p < yS A 3 → ∀ t' M', yCs x t' M' D A H → yFc x D M M' → Q (yS (yAdv p 500 A) (87 + 9 * p)) t' M') (h2 : ¬ (0 ≤ p ∧ p < yS A 3) → E xIOe M) : p_X11_endsAt F t x p M Q E := by
  obtain ⟨n1, n2, n3, n4, n5, n6⟩ := id hA.1.1.1.1
  have ht := hA.2.1
  unfold p_X11_endsAt
  refine s_checkPacket hc.1.1 (fun p0 p1 => ?_) h2
  refine s_X5_hasEnded (w := x + 44) hA.1.1.1.1 hc.1.1.1 ⟨fun _ => ?_, fun q => ⟨⟨by omega, by omega⟩, ?_⟩⟩
  · refine s_trial hc hg hA (fun M1 w1 c1 f1 k13 k14 => ?_)
    refine s_tadv (n := 500) hF (by decide) (by omega) c1 hA.1.1.1.1 hg w1 hA.1 (by rw [k14]; decide) (fun M2 a1 c2 f2 _ _ _ => ⟨⟨by omega, by omega⟩, ?_⟩)
    have hs := (yAdv_I (pk := p) 500 A hA.1 (by omega)).2.1
    have e : M2 (x + 107) p.toNat = yS (yAdv p 500 A) (87 + 9 * p) := yr24 (w := x + 83) a1.1 p0 (by rw [hs.1 3 (by unfold yStat; omega)]; exact p1)
    rw [e]
    exact h1 p0 p1 _ M2 c2 (yFc_trans (yCs_tr hc hA.1.1.1.1 hg (s := none) (fun b b1 _ => f1 b b1)).2 f2)
  · have e : M (x + 68) p.toNat = yS A (87 + 9 * p) := yr24 hc.1.1.1 p0 p1
    have hE : yEnd p A = true := by
      by_cases h : yEnd p A = true
      · exact h
      · rw [if_neg h] at q; exact absurd rfl q
    have h1 := h1 p0 p1 t M hc yFc_refl
    rw [yAdv_end hE] at h1
    rw [e]; exact h1
theorem q1_endsAt {F K : Nat} {p1 : Int} (hF : 1300 ≤ F) (hK : 3100 ≤ K) (hj : xJn x t M) : q_endsAt F K t x (x + 436) (x + 452) p1 M (xJn x) := by
  obtain ⟨D, A, H, hc, hd, hm, hg, hA, hb, he⟩ := yJn_c hj
  unfold q_endsAt p_L_endsAt
  refine s_X11_endsAt hF hc hg hA (fun a b t1 M1 c1 f1 M2 e2 => ?_) (fun q z => ⟨fun _ => ?_, rfl⟩)
  · obtain ⟨d2, m2⟩ := yMd (r := yS (yAdv p1 500 A) (87 + 9 * p1)) hc.2.2.2.1 f1 hg hd hm
    rw [← e2] at d2 m2
    refine s_X12_endsAt hK d2 m2 hg hA (fun _ _ M3 d3 m3 z3 f3 => ⟨z3, fun _ => ?_, ?_⟩) (fun q => absurd ⟨a, b⟩ q)
    · rw [f3.1 _ (by omega) (by omega) (by omega) (by omega) (by omega) (by omega), e2]; exact xw_s
    · exact yJn_mk c1 f1 hb he (fun b hb => by rw [e2, xw_B hb]) d3 m3 f3 hg hA
  · exact s_X12_endsAt hK hd hm hg hA (fun a b => absurd ⟨a, b⟩ q) (fun _ => yTh hj (by decide))
theorem s_X12_billAfter {F : Nat} (hF : 3100 ≤ F) (h : yDR (m + 2) M A) (hm : yHm m M H) (hg : yHg H) (hA : yG0 A) (h1 : 0 ≤ f → f < yS A 2 → 0 ≤ T → T ≤ 500 → ∀ M', yDR (m + 2) M' A → yHm m M' H → M' m 0 = 0 → yFn m M M' → Q (yS (yAdv (-1) T.toNat A) (35 + 8 * f)) M') (h2 : ¬ (0 ≤ f ∧ f < yS A 2) → Q 0 (xw (xw M m 0 0) m 0 1)) (h3 : 0 ≤ f → f < yS A 2 → ¬ (0 ≤ T ∧ T ≤ 500) → Q 0 (xw (xw M m 0 0) m 0 2)) : p_X12_billAfter F m f T M Q := by
  obtain ⟨n1, n2, n3, n4, n5, n6⟩ := id hA.1.1.1.1
  have ht := hA.2.1
  unfold p_X12_billAfter
  intro M1 e1
  have hd : yDR (m + 2) M1 A := by rw [e1]; exact yDR_o h (by omega)
  have e0 : M1 m 0 = 0 := by rw [e1]; exact xw_s
  have hm1 : yHm m M1 H := yHm_fr hg hm (by rw [e1, xw_j (by decide)]) (fun b b1 b2 => by rw [e1, xw_B (by omega)])
  refine s_noF hA.1.1.1.1 hd e0 (fun f0 f1 => ⟨fun q => absurd rfl q, fun _ => ?_⟩) (fun q => ⟨fun _ => by rw [e1]; exact h2 q, fun q => absurd q (by decide)⟩)
  refine s_noN e0 (fun t0 t1 => ⟨fun _ => ?_, fun q => absurd rfl q⟩) (fun q => ⟨fun q => absurd q (by decide), fun _ => by rw [e1]; exact h3 f0 f1 q⟩)
  refine s_X12_copy (n := 905) (by omega) (by decide) (by decide) (by decide) hF (fun M2 f2 r2 => ?_)
  refine s_X12_billAfter_43 (by omega) T.toNat F 0 A M2 (by omega) (by omega) (by decide) (by omega) (by omega) (yDR_row hd (f2 _ (by omega))) hA.1 (fun M3 d3 f3 => ?_)
  refine s_X12_ofFlow d3 f0 (by omega) (by decide) (by decide) ?_
  rw [show 33 + 8 * f + 2 = 35 + 8 * f by omega]
  refine s_X12_copy (n := 905) (by omega) (by decide) (by decide) (by decide) hF (fun M4 f4 r4 => h1 f0 f1 t0 t1 M4 ?_ ?_ ?_ ?_)
  · refine yDR_back (yG0_r hA) hd d3 (yAdv_I T.toNat A hA.1 (by omega)).2.1 (fun j => ?_)
    rw [r4]
    split
    · rename_i hj; rw [f3 _ (by omega) (by omega), r2, if_pos hj]
    · rfl
  · exact yHm_fr hg hm1 (by rw [f4 m (by omega), f3 m (by omega) (by omega), f2 m (by omega)]) (fun b b1 b2 => by rw [f4 b (by omega), f3 b (by omega) (by omega), f2 b (by omega)])
  · rw [f4 m (by omega), f3 m (by omega) (by omega), f2 m (by omega)]; exact e0
  · refine ⟨fun b b1 b2 b3 b4 b5 b6 => by rw [f4 b (by omega), f3 b (by omega) (by omega), f2 b (by omega), e1, xw_B b1], fun j j0 j1 => by rw [f4 m (by omega), f3 m (by omega) (by omega), f2 m (by omega), e1, xw_j j0]⟩
theorem s_X11_billAfter {F : Nat} {Q : Int → xTh → xMe → Prop} (hF : 1300 ≤ F) (hc : yCs x t M D A H) (hg : yHg H) (hA : yG0 A) (h1 : 0 ≤ f → f < yS A 2 → 0 ≤ T → T ≤ 500 → ∀ t' M', yCs x t' M' D A H → yFc x D M M' → Q (yS (yAdv (-1) T.toNat A) (35 + 8 * f)) t' M') (h2 : ¬ (0 ≤ f ∧ f < yS A 2) → E xIOe M) (h3 : 0 ≤ f → f < yS A 2 → ¬ (0 ≤ T ∧ T ≤ 500) → E xIAe M) : p_X11_billAfter F t x f T M Q E := by
  obtain ⟨n1, n2, n3, n4, n5, n6⟩ := id hA.1.1.1.1
  have ht := hA.2.1
  unfold p_X11_billAfter
  refine s_checkFlow hc.1.1 (fun f0 f1 => s_checkRange (fun t0 t1 => ?_) (h3 f0 f1)) h2
  refine s_trial hc hg hA (fun M1 w1 c1 f1' k13 k14 => ?_)
  have hn : (T.toNat : Int) = T := by omega
  rw [← hn]
  refine s_tadv hF (by omega) (by omega) c1 hA.1.1.1.1 hg w1 hA.1 (by rw [k14]; decide) (fun M2 a1 c2 f2 _ _ _ => ⟨⟨by omega, by omega⟩, ?_⟩)
  have hs := (yAdv_I (pk := -1) T.toNat A hA.1 (by omega)).2.1
  have e : M2 (x + 92) f.toNat = yS (yAdv (-1) T.toNat A) (35 + 8 * f) := yr9 (w := x + 83) a1.1 f0 (by rw [hs.1 2 (by unfold yStat; omega)]; exact f1)
  rw [e]
  exact h1 f0 f1 t0 t1 _ M2 c2 (yFc_trans (yCs_tr hc hA.1.1.1.1 hg (s := none) (fun b b1 _ => f1' b b1)).2 f2)
theorem q1_billAfter {F K : Nat} {p1 p2 : Int} (hF : 1300 ≤ F) (hK : 3100 ≤ K) (hj : xJn x t M) : q_billAfter F K t x (x + 436) (x + 452) p1 p2 M (xJn x) := by
  obtain ⟨D, A, H, hc, hd, hm, hg, hA, hb, he⟩ := yJn_c hj
  unfold q_billAfter p_L_billAfter
  refine s_X11_billAfter hF hc hg hA (fun a b c d t1 M1 c1 f1 M2 e2 => ?_) (fun q z => ⟨fun _ => ?_, fun r => absurd r (by decide), Or.inl rfl⟩) (fun a b q z => ⟨fun r => absurd r (by decide), fun _ => ?_, Or.inr rfl⟩)
  · obtain ⟨d2, m2⟩ := yMd (r := yS (yAdv (-1) p2.toNat A) (35 + 8 * p1)) hc.2.2.2.1 f1 hg hd hm
    rw [← e2] at d2 m2
    refine s_X12_billAfter hK d2 m2 hg hA (fun _ _ _ _ M3 d3 m3 z3 f3 => ⟨z3, fun _ => ?_, ?_⟩) (fun q => absurd ⟨a, b⟩ q) (fun _ _ q => absurd ⟨c, d⟩ q)
    · rw [f3.1 _ (by omega) (by omega) (by omega) (by omega) (by omega) (by omega), e2]; exact xw_s
    · exact yJn_mk c1 f1 hb he (fun b hb => by rw [e2, xw_B hb]) d3 m3 f3 hg hA
  · exact s_X12_billAfter hK hd hm hg hA (fun a b => absurd ⟨a, b⟩ q) (fun _ => yTh hj (by decide)) (fun a b _ => absurd ⟨a, b⟩ q)
  · exact s_X12_billAfter hK hd hm hg hA (fun _ _ a b => absurd ⟨a, b⟩ q) (fun r => absurd ⟨a, b⟩ r) (fun _ _ _ => yTh hj (by decide))
end YTR
