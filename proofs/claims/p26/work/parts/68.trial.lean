/-! TRIALS: endsAt, billAfter -/
section YTR
variable {x m : Nat} {t t' : xTh} {M M' M1 M2 M3 : xMe} {D : Nat → Prop} {A A' B : yA} {H H' : List yA} {p f v T z : Int} {Q : Int → xMe → Prop} {E : String → xMe → Prop}
theorem yCs_tr {s : Option Nat} (h : yCs x t M D A H) (hN : yN A) (hg : yHg H) (f : ∀ b, ¬ (x + 83 ≤ b ∧ b < x + 119) → (∀ q, D q → b ≠ q + 2) → M' b = M b) : yCs x (xwr t (x + 83) 6 s) M' D A H ∧ yFc x D M M' := by
  obtain ⟨h1, h2, h3, h4, h5⟩ := h
  have hq : ∀ b, b < x + 80 ∨ (x + 83 ≤ b ∧ b < x + 453) → ∀ q, D q → b ≠ q + 2 := fun b hb q hd => by have := yPx_b h4 hd; omega
  have hp : ∀ q, D q → M' (q + 1) = M (q + 1) := fun q hd => f _ (by have := yPx_b h4 hd; omega) (fun q' hd' => (h4 q hd).2.2 q' hd')
  refine ⟨⟨yWd_n (x := x) hN h1 (by omega) (fun b b1 b2 => f b (by omega) (hq b (by omega))) (hp _ h1.2.1), ?_, ?_, h4, ?_⟩, fun b b1 b2 b3 b4 => f b b2 b4⟩
  · rw [f _ (by omega) (hq _ (by omega))]; exact h2
  · rw [f _ (by omega) (hq _ (by omega))]; exact h3
  · refine yHc_fr hg h5 ⟨fun w w1 w2 => xr_wn (by omega), fun q hd => ⟨rfl, (h4 q hd).1⟩⟩ (fun _ h => h) (fun b b1 b2 => f b (by omega) (hq b (by omega))) hp
theorem s_trial {Q : xTh → xMe → Prop} (h : yCs x t M D A H) (hg : yHg H) (hA : yG0 A) (hq : ∀ M', yWd (xwr t (x + 83) 6 (some (xq t (x + 44)))) M' D (x + 83) A → yCs x (xwr t (x + 83) 6 (some (xq t (x + 44)))) M' D A H → (∀ b, ¬ (x + 83 ≤ b ∧ b < x + 119) → M' b = M b) → M' (x + 83) 13 = -1 → M' (x + 83) 14 = 1000000 → Q (xwr t (x + 83) 6 (some (xq t (x + 44)))) M') : p_X10_copyFrom t (x + 83) (x + 44) M Q := by
  obtain ⟨hN, hC, hk⟩ := yG0_c hA
  refine s_X10_copyFrom (by omega) hN hC hk h.1.1 (fun M1 c1 c2 c3 f1 => ?_)
  have f2 : ∀ b, ¬ (x + 83 ≤ b ∧ b < x + 119) → M1 b = M b := fun b hb => f1 b (by omega)
  have hb := yPx_b h.2.2.2.1 h.1.2.1
  exact hq M1 (yWd_cp (x := x) h.1 c1 (f1 _ (by omega))) (yCs_tr h hN hg (fun b b1 _ => f2 b b1)).1 f2 c2 c3
/-- a trial of so many ticks: what it leaves -/
theorem s_tadv {F n : Nat} {pk : Int} {Q : xMe → Prop} (hF : 1300 ≤ F) (hn : n ≤ 500) (ht : yS A 0 + n ≤ 11000) (hc : yCs x t M D A' H) (hA' : yN A') (hg : yHg H) (hw : yWd t M D (x + 83) A) (hJ : yJ A) (hL : 1 ≤ M (x + 83) 14) (hq : ∀ M', yCR (x + 83) M' (yAdv pk n A) → yCs x t M' D A' H → yFc x D M M' → yKp (x + 83) M M' → (∀ e, yS A 0 + n + 1000 < e → yPav (M (x + 83) 13) e (M' (x + 83) 14) A (yAdv pk n)) → (∀ b, ¬ (x + 83 ≤ b ∧ b < x + 119) → b ≠ xq t (x + 83) + 2 → M' b = M b) → Q M') : p_X10_advance F (x + 83) (n : Int) pk (xq t (x + 83)) (xq t (x + 83) + 1) (xq t (x + 83) + 2) (xqn t (x + 83)) M Q := by
  refine s_X10_advance hF hn ht hw.1 (yPz_of hc.2.2.2.1 hw (Or.inr ⟨by omega, by omega⟩)) hJ hL (fun M1 a1 a2 a3 a4 => ?_)
  have k := yCs_tr (M' := M1) (s := xr t (x + 83) 6) hc hA' hg (fun b b1 b2 => a4 b (by omega) (b2 _ hw.2.1))
  have ht : xwr t (x + 83) 6 (xr t (x + 83) 6) = t := by
    unfold xwr
    refine Prod.ext rfl (Prod.ext rfl (Prod.ext rfl ?_))
    funext b j
    show (if b = x + 83 ∧ j = 6 then _ else _) = _
    split
    · rename_i e; rw [e.1, e.2]; rfl
    · rfl
  rw [ht] at k
  exact hq M1 a1 k.1 k.2 a2 a3 (fun b b1 b2 => a4 b (by omega) b2)
theorem yDR_back {b : Nat} (hI : yIr A) (h : yDR b M A) (h2 : yDR b M2 B) (hS : ySt A B) (e : ∀ j, M3 b j = if j < 905 then M b j else M2 b j) : yDR b M3 A := by
  obtain ⟨g1, g2, g3, g4, g5⟩ := h
  have el : ∀ j, j < 905 → M3 b j = M b j := fun j hj => by rw [e, if_pos hj]
  refine ⟨yD_f g1 (fun k hk => el _ (by unfold yG at hk; omega)), yV_f g2 hI.2.1 (fun k hk => el k (by omega)), yY_f g3 hI.2.2 (fun k hk => el k (by omega)), yQd_o hI.1 g4 (fun k hk => el k (by unfold yChi at hk; omega)), ?_⟩
  rcases g5 with ⟨a1, a2⟩ | ⟨a1, a2, a3⟩
  · exact Or.inl ⟨a1, by rw [el 13 (by decide)]; exact a2⟩
  · refine Or.inr ⟨by rw [el 13 (by decide)]; exact a1, a2, fun j w hw => ?_⟩
    have e13 : M2 b 13 = M b 13 := by
      have q1 : M b 13 = yS A 13 := g1 13 (by unfold yG; omega)
      have q2 : M2 b 13 = yS B 13 := h2.1 13 (by unfold yG; omega)
      rw [q1, q2]; exact hS.1 13 (by unfold yStat; omega)
    rw [e, if_neg (by omega)]
    rcases h2.2.2.2.2 with ⟨b1, b2⟩ | ⟨b1, b2, b3⟩
    · exfalso
      rw [hS.2] at b1
      rw [e13, a1, b1] at b2
      exact absurd b2 (by decide)
    · rw [hS.2] at b3; exact b3 j w hw
theorem s_X11_endsAt {F : Nat} {Q : Int → xTh → xMe → Prop} (hF : 1300 ≤ F) (hc : yCs x t M D A H) (hg : yHg H) (hA : yG0 A) (h1 : 0 ≤ p → p < yS A 3 → ∀ t' M', yCs x t' M' D A H → yFc x D M M' → Q (yS (yAdv p 500 A) (87 + 9 * p)) t' M') (h2 : ¬ (0 ≤ p ∧ p < yS A 3) → E xIOe M) : p_X11_endsAt F t x p M Q E := by
  obtain ⟨n1, n2, n3, n4, n5, n6⟩ := id hA.1.1.1.1
  have ht := hA.2.1
  unfold p_X11_endsAt
  refine s_checkPacket hc.1.1 (fun p0 p1 => ?_) h2
  refine s_X5_hasEnded (w := x + 44) hA.1.1.1.1 hc.1.1.1 ⟨fun _ => ?_, fun q => ⟨⟨by omega, by omega⟩, ?_⟩⟩
  · refine s_trial hc hg hA (fun M1 w1 c1 f1 k13 k14 => ?_)
    refine s_tadv (n := 500) hF (by decide) (by omega) c1 hA.1.1.1.1 hg w1 hA.1 (by rw [k14]; decide) (fun M2 a1 c2 f2 _ _ _ => ⟨⟨by omega, by omega⟩, ?_⟩)
    have hs := (yAdv_I (pk := p) 500 A hA.1 (by omega)).2.1
    have e : M2 (x + 107) p.toNat = yS (yAdv p 500 A) (87 + 9 * p) := yr24 (w := x + 83) a1.1 p0 (by rw [hs.1 3 (by unfold yStat; omega)]; exact p1)
    rw [e]
    exact h1 p0 p1 _ M2 c2 (yFc_trans (yCs_tr hc hA.1.1.1.1 hg (s := none) (fun b b1 _ => f1 b b1)).2 f2)
  · have e : M (x + 68) p.toNat = yS A (87 + 9 * p) := yr24 hc.1.1.1 p0 p1
    have hE : yEnd p A = true := by
      by_cases h : yEnd p A = true
      · exact h
      · rw [if_neg h] at q; exact absurd rfl q
    have h1 := h1 p0 p1 t M hc yFc_refl
    rw [yAdv_end hE] at h1
    rw [e]; exact h1
end YTR
