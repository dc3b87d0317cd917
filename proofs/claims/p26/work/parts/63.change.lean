/-! CALLS THAT CHANGE: both sides put together -/
section YCH
variable {x : Nat} {t t' : xTh} {M M' M1 M2 : xMe} {D : Nat → Prop} {A A' : yA} {H H' : List yA}
def yFn (m : Nat) (M M' : xMe) : Prop := (∀ b, b ≠ m → b ≠ m + 2 → b ≠ m + 4 → b ≠ m + 5 → ¬ (m + 7 ≤ b ∧ b < m + 15) → b ≠ m + 15 → M' b = M b) ∧ ∀ j, j ≠ 0 → j ≠ 13 → M' m j = M m j
theorem yFn_refl {m : Nat} : yFn m M M := ⟨fun _ _ _ _ _ _ _ => rfl, fun _ _ _ => rfl⟩
theorem yFn_trans {m : Nat} (h : yFn m M M') (g : yFn m M' M2) : yFn m M M2 := ⟨fun b h1 h2 h3 h4 h5 h6 => (g.1 b h1 h2 h3 h4 h5 h6).trans (h.1 b h1 h2 h3 h4 h5 h6), fun j j0 j1 => (g.2 j j0 j1).trans (h.2 j j0 j1)⟩
theorem yFn_0 {m : Nat} {v : Int} (h : yFn m M M') : yFn m M (xw M' m 0 v) := ⟨fun b h1 h2 h3 h4 h5 h6 => by rw [xw_B h1]; exact h.1 b h1 h2 h3 h4 h5 h6, fun j j0 j1 => by rw [xw_j j0]; exact h.2 j j0 j1⟩
theorem yFn_2 {m : Nat} (h : yFn m M M') (g : ∀ b, b ≠ m + 2 → M2 b = M' b) : yFn m M M2 := ⟨fun b h1 h2 h3 h4 h5 h6 => by rw [g b h2]; exact h.1 b h1 h2 h3 h4 h5 h6, fun j j0 j1 => by rw [g m (by omega)]; exact h.2 j j0 j1⟩
theorem yFn_m {m : Nat} (h : yFn m M M') (g : yFm m M' M2) : yFn m M M2 := ⟨fun b h1 h2 h3 h4 h5 h6 => by rw [g b h2 h6]; exact h.1 b h1 h2 h3 h4 h5 h6, fun j j0 j1 => by rw [g m (by omega) (by omega)]; exact h.2 j j0 j1⟩
theorem yFn_r {m : Nat} (h : yFn m M M') (g1 : ∀ j, j ≠ 13 → M2 m j = M' m j) (g2 : ∀ b, b ≠ m → ¬ (m + 7 ≤ b ∧ b < m + 15) → M2 b = M' b) : yFn m M M2 := ⟨fun b h1 h2 h3 h4 h5 h6 => by rw [g2 b h1 h5]; exact h.1 b h1 h2 h3 h4 h5 h6, fun j j0 j1 => by rw [g1 j j1]; exact h.2 j j0 j1⟩
theorem yJn_c (h : xJn x t M) : ∃ D A H, yCs x t M D A H ∧ yDR (x + 436 + 2) M A ∧ yHm (x + 436) M H ∧ yHg H ∧ yG0 A ∧ yBf x M ∧ M x 4 = M (x + 436) 7 := by
  obtain ⟨D, A, H, ⟨h1, h2, h3, h4, h5⟩, h6, ⟨h7, h8, h9⟩, h10, h11⟩ := h
  exact ⟨D, A, H, ⟨h1, h4, h5, h6, h8⟩, h2, h9, h7, h3, h10, h11⟩
theorem yJn_of (h1 : yCs x t M D A H) (h2 : yDR (x + 436 + 2) M A) (h3 : yHm (x + 436) M H) (h4 : yHg H) (h5 : yG0 A) (h6 : yBf x M) (h7 : M x 4 = M (x + 436) 7) : xJn x t M := ⟨D, A, H, ⟨h1.1, h2, h5, h1.2.1, h1.2.2.1⟩, h1.2.2.2.1, ⟨h4, h1.2.2.2.2, h3⟩, h6, h7⟩
theorem yCs_fr (h : yCs x t M D A H) (hN : yN A) (hg : yHg H) (ht : t'.2 = t.2) (e : ∀ b, b < x + 436 → M' b = M b) (eq : ∀ q, D q → M' (q + 1) = M (q + 1)) : yCs x t' M' D A H := by
  obtain ⟨h1, h2, h3, h4, h5⟩ := h
  exact ⟨yWd_fr hN h1 (by unfold xr; rw [ht]) (by unfold xn; rw [ht]) (fun _ h => h) (fun b b1 b2 => e b (by omega)) (eq _ h1.2.1), by rw [e _ (by omega)]; exact h2, by rw [e _ (by omega)]; exact h3, yPx_t h4 (yTe_refl h4 ht), yHc_fr hg h5 (yTe_refl h4 ht) (fun _ h => h) (fun b b1 b2 => e b b2) eq⟩
theorem yJn_mk (hc : yCs x t' M1 D A' H') (f1 : yFc x D M M1) (hb : yBf x M) (he : M x 4 = M (x + 436) 7) (fo : ∀ b, b ≠ x + 452 → M' b = M1 b) (hd : yDR (x + 436 + 2) M2 A') (hm : yHm (x + 436) M2 H') (f2 : yFn (x + 436) M' M2) (hg : yHg H') (hA : yG0 A') : xJn x t' M2 := by
  have hx := hc.2.2.2.1
  have hq : ∀ b, b < x + 44 ∨ b = x + 436 ∨ b = x + 437 → ∀ q, D q → b ≠ q + 2 := fun b hb q hd => by have := yPx_b hx hd; omega
  have f0 : ∀ b, b < x + 44 ∨ b = x + 437 → M2 b = M b := fun b hb => by
    rw [f2.1 b (by omega) (by omega) (by omega) (by omega) (by omega) (by omega), fo b (by omega), f1 b (by omega) (by omega) (by omega) (hq b (by omega))]
  have f3 : ∀ j, j ≠ 0 → j ≠ 13 → M2 (x + 436) j = M (x + 436) j := fun j j0 j1 => by
    rw [f2.2 j j0 j1, fo _ (by omega), f1 _ (by omega) (by omega) (by omega) (hq _ (by omega))]
  refine yJn_of (yCs_fr hc hA.1.1.1.1 hg rfl (fun b hb => ?_) (fun q hd => ?_)) hd hm hg hA (yBf_fr hb ?_ (f0 _ (by omega)) (f0 _ (by omega)) (f3 2 (by decide) (by decide))) ?_
  · rw [f2.1 b (by omega) (by omega) (by omega) (by omega) (by omega) (by omega), fo b (by omega)]
  · have := yPx_b hx hd
    rw [f2.1 _ (by omega) (by omega) (by omega) (by omega) (by omega) (by omega), fo _ (by omega)]
  · rw [f0 (x + 2) (by omega)]
  · rw [f0 x (by omega), f3 7 (by decide) (by decide)]; exact he
theorem yPz_of {w : Nat} (hx : yPx x t D) (h : yWd t M D w A) (hw : w + 36 ≤ x + 81 ∨ (x + 83 ≤ w ∧ w + 36 ≤ x + 436)) : yPz w (xq t w + 1) (xq t w + 2) (xqn t w) M (yK A) := by
  have := yPx_b hx h.2.1
  exact ⟨by omega, by omega, by omega, h.2.2.1, h.2.2.2⟩
/-- the World of now changed -/
theorem yCs_w (h : yCs x t M D A H) (hg : yHg H) (hC : yCR (x + 44) M' A') (hK : yK A' = yK A) (h13 : M' (x + 44) 13 = -1) (h14 : 1 ≤ M' (x + 44) 14) (f : ∀ b, (b < x + 44 ∨ x + 44 + 36 ≤ b) → b ≠ xq t (x + 44) + 2 → M' b = M b) : yCs x t M' D A' H ∧ yFc x D M M' := by
  obtain ⟨⟨w1, w2, w3, w4⟩, h2, h3, h4, h5⟩ := h
  have hb := yPx_b h4 w2
  have hq : ∀ q, D q → M' (q + 1) = M (q + 1) := fun q hd => by
    have := yPx_b h4 hd
    exact f _ (by omega) ((h4 q hd).2.2 _ w2)
  refine ⟨⟨⟨hC, w2, by rw [hK]; exact w3, fun i v hv => ?_⟩, h13, h14, h4, yHc_fr hg h5 (yTe_refl h4 rfl) (fun _ h => h) (fun b b1 b2 => f b (by omega) (by omega)) hq⟩, fun b b1 b2 b3 b4 => f b (by omega) (b4 _ w2)⟩
  rw [hK] at hv
  rw [hq _ w2]; exact w4 i v hv
theorem yAdv_G {n : Nat} {pk : Int} (hA : yG0 A) (hn : yS A 0 + n ≤ 9999) : yG0 (yAdv pk n A) ∧ yK (yAdv pk n A) = yK A := by
  obtain ⟨h1, h2, h3, h4⟩ := yAdv_I (pk := pk) n A hA.1 (by omega)
  exact ⟨⟨h1, by omega, yEd_adv n A hA.1 (by omega) hA.2.2.1, yEe_adv n A hA.1 (by omega) hA.2.2.2⟩, h2.2⟩
/-! pass -/
theorem s_X11_pass {F : Nat} {p : Int} {Q : Int → xTh → xMe → Prop} {E : String → xMe → Prop} (hF : 1300 ≤ F) (hp : xR p) (hc : yCs x t M D A H) (hg : yHg H) (hA : yG0 A) (h1 : 1 ≤ p → p ≤ 200 → yS A 0 + p ≤ 9999 → ∀ t' M', yCs x t' M' D (yAdv (-1) p.toNat A) (yPush H A) → yFc x D M M' → Q (yS (yAdv (-1) p.toNat A) 5 - yS A 5) t' M') (h2 : ¬ (1 ≤ p ∧ p ≤ 200 ∧ yS A 0 + p ≤ 9999) → E xIAe M) : p_X11_pass F t x p M Q E := by
  have hI := hA.1.1
  have ht := hI.2.2.2.2.2.2.1.2.2.2.2.2.1
  have ht2 := hA.2.1
  have e7 : M (x + 44) 7 = yS A 0 := yr0_7 hc.1.1.1
  unfold p_X11_pass
  refine s_checkRange (fun q1 q2 => ?_) (fun q => h2 (fun r => q ⟨r.1, r.2.1⟩))
  rw [e7]
  refine ⟨⟨by omega, by omega⟩, s_checkRange (fun r1 r2 => ?_) (fun q => h2 (fun r => q ⟨by omega, r.2.2⟩))⟩
  refine s_X3_keep hc hg hA (fun t1 M1 _ c1 f1 => ?_)
  refine s_X5_countIn (w := x + 44) (by omega) hI.1.1 c1.1.1.1 ?_
  rw [← hI.2.2.2.2.2.2.2.1]
  have hn : (p.toNat : Int) = p := by omega
  have k := s_X10_advance (F := F) (w := x + 44) (q := xq t1 (x + 44)) (pk := -1) (n := p.toNat) (M := M1) (A := A) (Q := fun M55 => p_X5_countIn F (x + 60) 3 M55 (fun r66 M66 => (xR (r66 - yS A 5)) ∧ Q (r66 - yS A 5) t1 M66)) hF (by omega) (by omega) c1.1.1 (yPz_of c1.2.2.2.1 c1.1 (Or.inl (by omega))) hA.1 c1.2.2.1 (fun M2 a1 a2 a3 a4 => ?_)
  · rw [hn] at k; exact k
  · obtain ⟨gA, gK⟩ := yAdv_G (pk := -1) (n := p.toNat) hA (by omega)
    have gI := gA.1.1
    obtain ⟨c2, f2⟩ := yCs_w c1 (yPush_g hg hA) a1 gK (by rw [a2.1]; exact c1.2.1) (a2.2 c1.2.2.1).1 a4
    refine s_X5_countIn (w := x + 44) (by omega) gI.1.1 a1.1 ?_
    rw [← gI.2.2.2.2.2.2.2.1]
    have hb := ySp2_ge (h := fun p => if yS A (84 + 9 * p) = 3 then 1 else 0) (b := 1) (n := (yS A 3).toNat) (fun p _ _ => by split <;> omega)
    rw [← hI.2.2.2.2.2.2.2.1] at hb
    have hb' := ySp2_ge (h := fun q => if yS (yAdv (-1) p.toNat A) (84 + 9 * q) = 3 then 1 else 0) (b := 1) (n := (yS (yAdv (-1) p.toNat A) 3).toNat) (fun q _ _ => by split <;> omega)
    rw [← gI.2.2.2.2.2.2.2.1] at hb'
    have m1 := hI.1.1
    have m2 := gI.1.1
    obtain ⟨-, -, -, -, m15, m16⟩ := m1
    obtain ⟨-, -, -, -, m25, m26⟩ := m2
    exact ⟨⟨by omega, by omega⟩, h1 q1 q2 r2 t1 M2 c2 (yFc_trans f1 f2)⟩
theorem yHm_o {m a j : Nat} {v : Int} (hg : yHg H) (h : yHm m M H) (ha : a ≠ m) (ha2 : ¬ (m + 7 ≤ a ∧ a < m + 15)) : yHm m (xw M a j v) H := yHm_fr hg h (by rw [xw_B (Ne.symm ha)]) (fun b b1 b2 => xw_B (by omega))
/-- the model's part of the memory behind the class's call -/
theorem yMd {r : Int} (hx : yPx x t D) (f1 : yFc x D M M1) (hg : yHg H) (h : yDR (x + 436 + 2) M A) (hm : yHm (x + 436) M H) : yDR (x + 436 + 2) (xw M1 (x + 452) 0 r) A ∧ yHm (x + 436) (xw M1 (x + 452) 0 r) H := by
  have hq : ∀ b, x + 436 ≤ b → b < x + 452 → M1 b = M b := fun b b1 b2 => f1 b (by omega) (by omega) (by omega) (fun q hd => by have := yPx_b hx hd; omega)
  exact ⟨yDR_o (yDR_row h (hq _ (by omega) (by omega))) (by omega), yHm_o hg (yHm_fr hg hm (by rw [hq _ (by omega) (by omega)]) (fun b b1 b2 => hq b (by omega) (by omega))) (by omega) (by omega)⟩
/-! undo -/
end YCH
