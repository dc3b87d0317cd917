/-! help, the model's -/
section YHM
variable {x m : Nat} {t t' : xTh} {M M' M1 M2 M3 : xMe} {D : Nat → Prop} {A A' B : yA} {H H' : List yA} {p f v T z : Int} {Q : Int → xMe → Prop} {E : String → xMe → Prop}
theorem yHok_e {n : Nat} (hA : yG0 A) (hl : (yC A).length < 30) (f0 : 0 ≤ f) (f1 : f < yS A 2) (v0 : 1 ≤ v) (v1 : v ≤ 9999) (p0 : 0 ≤ p) (p1 : p < yS A 3) (hn : n ≤ 500) : yHok A p f n v = true ↔ yS (yAdv p n (yPlus A f v)) (87 + 9 * p) ≠ -1 := by
  have hP := yPlus_G hA hl f0 f1 v0 v1
  have ht := hA.2.1
  have hb : yS (yPlus A f v) 0 + n ≤ 11000 := by show yS A 0 + (n : Int) ≤ 11000; omega
  have hs := (yAdv_I (pk := p) n _ hP.1 hb).2.1.1 3 (by unfold yStat; omega)
  have h3 : yS (yAdv p n (yPlus A f v)) 3 = yS A 3 := hs
  have he := yEd_adv (pk := p) n _ hP.1 hb hP.2.2.1 p p0 (by rw [h3]; exact p1)
  unfold yHok yEnd
  simp only [decide_eq_true_eq, Bool.and_eq_true]
  rw [h3]
  exact ⟨fun h => he.mp h.2.2, fun h => ⟨p0, p1, he.mpr h⟩⟩
theorem s_X12_helps {F n : Nat} (hF : 3100 ≤ F) (h : yDR (m + 2) M A) (hA : yG0 A) (hl : (yC A).length < 30) (p0 : 0 ≤ p) (p1 : p < yS A 3) (v0 : 1 ≤ v) (v1 : v ≤ 9999) (hn : n ≤ 500) (hq : ∀ M', yDR (m + 2) M' A → (∀ b, b ≠ m + 2 → b ≠ m + 5 → b ≠ m + 15 → M' b = M b) → Q (if yHok A p (yS A (81 + 9 * p)) n v then 1 else 0) M') : p_X12_helps F m p v (n : Int) M Q := by
  obtain ⟨n1, n2, n3, n4, n5, n6⟩ := id hA.1.1.1.1
  have ht := hA.2.1
  have ht0 := hA.1.1.2.2.2.2.2.2.1.2.2.2.2.2.1
  have hpk := hA.1.1.1.2.2.2.1 p p0 p1
  unfold p_X12_helps p_X12_packetAt
  refine s_X12_copy (n := 905) (by omega) (by decide) (by decide) (by decide) hF (fun M1 f1 r1 => ?_)
  have hd : yDR (m + 2) M1 A := yDR_row h (f1 _ (by omega))
  dsimp only
  rw [yDa hd (show 81 + 9 * p + 0 = 81 + 9 * p by omega) (by unfold yG; omega), yD0 hd]
  refine ⟨⟨by omega, by omega⟩, ⟨by omega, by omega⟩, ⟨by omega, by omega⟩, ⟨by omega, by omega⟩, ⟨by decide, by decide⟩, ⟨by omega, by omega⟩, ?_⟩
  refine s_X12_putCoupon (b := m + 2) hd.2.1 hl (fun M2 v2 r2 f2 => ?_)
  have hP := yPlus_G hA hl hpk.1 hpk.2.1 v0 v1
  have hd2 : yDR (m + 2) M2 (yPlus A (yS A (81 + 9 * p)) v) := yDR_C (yG0_r hA) hd v2 f2
  have hb : yS (yPlus A (yS A (81 + 9 * p)) v) 0 + n ≤ 11000 := by show yS A 0 + (n : Int) ≤ 11000; omega
  refine s_X12_endOf (by omega) hn hb hd2 hP.1 p0 p1 (fun M3 d3 f3 => ?_)
  have hok := yHok_e hA hl hpk.1 hpk.2.1 v0 v1 p0 p1 hn
  have hst : ySt A (yAdv p n (yPlus A (yS A (81 + 9 * p)) v)) := (yAdv_I (pk := p) n _ hP.1 hb).2.1
  have fin : ∀ M4 : xMe, (∀ b, b ≠ m + 2 → M4 b = M3 b) → (∀ j, M4 (m + 2) j = if j < 905 then M3 (m + 5) j else M3 (m + 2) j) → yDR (m + 2) M4 A ∧ (∀ b, b ≠ m + 2 → b ≠ m + 5 → b ≠ m + 15 → M4 b = M b) := fun M4 f4 r4 => by
    refine ⟨yDR_back (yG0_r hA) h d3 hst (fun j => ?_), fun b b1 b2 b3 => by rw [f4 b b1, f3 b b1 b3, r2 b b1, f1 b b2]⟩
    rw [r4]
    split
    · rename_i hj; rw [f3 _ (by omega) (by omega), r2 _ (by omega), r1, if_pos hj]
    · rfl
  refine ⟨fun q => ?_, fun q => ?_⟩
  · have hno : ¬ yHok A p (yS A (81 + 9 * p)) n v = true := fun h => hok.mp h q
    rw [if_neg hno] at hq
    exact s_X12_copy (n := 905) (by omega) (by decide) (by decide) (by decide) hF (fun M4 f4 r4 => hq M4 (fin M4 f4 r4).1 (fin M4 f4 r4).2)
  · rw [if_pos (hok.mpr q)] at hq
    exact s_X12_copy (n := 905) (by omega) (by decide) (by decide) (by decide) hF (fun M4 f4 r4 => hq M4 (fin M4 f4 r4).1 (fin M4 f4 r4).2)
theorem s_X12_help_96 {F n : Nat} (hF : 3100 ≤ F) (hA : yG0 A) (hl : (yC A).length < 30) (p0 : 0 ≤ p) (p1 : p < yS A 3) (hn : n ≤ 500) : ∀ (d k : Nat) (v : Int) (M : xMe), v + d = 1000 → 1 ≤ v → d < k → yDR (m + 2) M A → (∀ M', yDR (m + 2) M' A → (∀ b, b ≠ m + 2 → b ≠ m + 5 → b ≠ m + 15 → M' b = M b) → Q (yHl (yHok A p (yS A (81 + 9 * p)) n) d v) M') → p_X12_help_96 F m Q k p (n : Int) v M := by
  intro d
  induction d with
  | zero =>
    intro k v M hd v0 hk h hq
    obtain ⟨k, rfl⟩ : ∃ k', k = k' + 1 := ⟨k - 1, by omega⟩
    unfold p_X12_help_96
    exact ⟨fun _ => hq M h (fun _ _ _ _ => rfl), fun q => by omega⟩
  | succ d ih =>
    intro k v M hd v0 hk h hq
    obtain ⟨k, rfl⟩ : ∃ k', k = k' + 1 := ⟨k - 1, by omega⟩
    unfold p_X12_help_96
    rw [show yHl (yHok A p (yS A (81 + 9 * p)) n) (d + 1) v = if yHok A p (yS A (81 + 9 * p)) n v then v else yHl (yHok A p (yS A (81 + 9 * p)) n) d (v + 1) from rfl] at hq
    refine ⟨fun q => by omega, fun q => ?_⟩
    refine s_X12_helps hF h hA hl p0 p1 v0 (by omega) hn (fun M1 d1 f1 => ?_)
    by_cases e : yHok A p (yS A (81 + 9 * p)) n v = true
    · rw [if_pos e] at hq ⊢
      exact ⟨fun q => absurd q (by decide), fun _ => hq M1 d1 f1⟩
    · rw [if_neg e] at hq ⊢
      refine ⟨fun _ => ⟨⟨by omega, by omega⟩, ih k (v + 1) M1 (by omega) (by omega) (by omega) d1 (fun M2 d2 f2 => hq M2 d2 (fun b b1 b2 b3 => by rw [f2 b b1 b2 b3, f1 b b1 b2 b3]))⟩, fun q => absurd rfl q⟩
theorem s_X12_help {F : Nat} (hF : 3100 ≤ F) (h : yDR (m + 2) M A) (hm : yHm m M H) (hg : yHg H) (hA : yG0 A) (h1 : 0 ≤ p → p < yS A 3 → ∀ M', yDR (m + 2) M' A → yHm m M' H → M' m 0 = 0 → yFn m M M' → Q (yHp A p) M') (h2 : ¬ (0 ≤ p ∧ p < yS A 3) → Q 0 (xw (xw M m 0 0) m 0 1)) : p_X12_help F m p M Q := by
  obtain ⟨n1, n2, n3, n4, n5, n6⟩ := id hA.1.1.1.1
  have ht := hA.2.1
  have ht0 := hA.1.1.2.2.2.2.2.2.1.2.2.2.2.2.1
  have hl30 := hA.1.1.2.2.2.2.1.1
  unfold p_X12_help
  intro M1 e1
  have hd : yDR (m + 2) M1 A := by rw [e1]; exact yDR_o h (by omega)
  have e0 : M1 m 0 = 0 := by rw [e1]; exact xw_s
  have hm1 : yHm m M1 H := yHm_fr hg hm (by rw [e1, xw_j (by decide)]) (fun b b1 b2 => by rw [e1, xw_B (by omega)])
  refine s_noP hA.1.1.1.1 hd e0 (fun p0 p1 => ⟨fun _ => ?_, fun q => absurd rfl q⟩) (fun q => ⟨fun q => absurd q (by decide), fun _ => by rw [e1]; exact h2 q⟩)
  have h1 := h1 p0 p1
  unfold yHp at h1
  have fin : ∀ M' : xMe, yDR (m + 2) M' A → (∀ b, b ≠ m + 2 → b ≠ m + 4 → b ≠ m + 5 → b ≠ m + 15 → M' b = M1 b) → yDR (m + 2) M' A ∧ yHm m M' H ∧ M' m 0 = 0 ∧ yFn m M M' := fun M' d' f' => ⟨d', yHm_fr hg hm1 (by rw [f' m (by omega) (by omega) (by omega) (by omega)]) (fun b b1 b2 => f' b (by omega) (by omega) (by omega) (by omega)), by rw [f' m (by omega) (by omega) (by omega) (by omega)]; exact e0, fun b b1 b2 b3 b4 b5 b6 => by rw [f' b b2 b3 b4 b6, e1, xw_B b1], fun j j0 j1 => by rw [f' m (by omega) (by omega) (by omega) (by omega), e1, xw_j j0]⟩
  have now : yDR (m + 2) M1 A ∧ yHm m M1 H ∧ M1 m 0 = 0 ∧ yFn m M M1 := fin M1 hd (fun _ _ _ _ _ => rfl)
  refine s_X12_hasEnded hA.1.1.1.1 hd p0 p1 ⟨fun r => ?_, fun r => ⟨⟨by decide, by decide⟩, fun q => ?_, fun q => ?_⟩⟩
  · have hE : yEnd p A = true := by
      by_cases h : yEnd p A = true
      · exact h
      · rw [if_neg h] at r; exact absurd rfl r
    rw [if_pos (Or.inl hE)] at h1
    exact h1 M1 now.1 now.2.1 now.2.2.1 now.2.2.2
  · have hne : ¬ yEnd p A = true := fun h => by rw [if_pos h] at r; exact absurd r (by decide)
    have e4 : M1 (m + 2) 4 = ((yC A).length : Int) := hd.2.1.1
    rw [e4] at q
    rw [if_neg (by rintro (h | h); exact hne h; omega)] at h1
    obtain ⟨hb1, hb2⟩ := yHt_b hA p0 p1 hne
    refine s_X12_copy (n := 905) (by omega) (by decide) (by decide) (by decide) hF (fun M2 f2 r2 => ?_)
    refine s_X12_endOf (n := 500) (by omega) (by decide) (by omega) (yDR_row hd (f2 _ (by omega))) hA.1 p0 p1 (fun M3 d3 f3 => ?_)
    refine s_X12_copy (n := 905) (by omega) (by decide) (by decide) (by decide) hF (fun M4 f4 r4 => ?_)
    have d4 : yDR (m + 2) M4 A := yDR_back (yG0_r hA) hd d3 (yAdv_I 500 A hA.1 (by omega)).2.1 (fun j => by
      rw [r4]
      split
      · rename_i hj; rw [f3 _ (by omega) (by omega), r2, if_pos hj]
      · rfl)
    have g4 : ∀ b, b ≠ m + 2 → b ≠ m + 4 → b ≠ m + 15 → M4 b = M1 b := fun b b1 b2 b3 => by rw [f4 b b1, f3 b b1 b3, f2 b b2]
    rw [yD0 d4]
    refine ⟨fun q2 => ⟨⟨by decide, by decide⟩, ⟨by omega, by omega⟩, fun z ez => ?_⟩, fun q2 => ?_⟩
    · rw [show z = ((yHt A p : Nat) : Int) by omega]
      refine s_X12_help_96 hF hA (by omega) p0 p1 hb1 999 F 1 M4 rfl (by decide) (by omega) d4 (fun M5 d5 f5 => ?_)
      have := fin M5 d5 (fun b b1 b2 b3 b4 => by rw [f5 b b1 b3 b4, g4 b b1 b2 b4])
      exact h1 M5 this.1 this.2.1 this.2.2.1 this.2.2.2
    · have h500 : yHt A p = 500 := by unfold yHt; rw [if_pos q2]
      rw [h500] at h1
      refine s_X12_help_96 (n := 500) hF hA (by omega) p0 p1 (by decide) 999 F 1 M4 rfl (by decide) (by omega) d4 (fun M5 d5 f5 => ?_)
      have := fin M5 d5 (fun b b1 b2 b3 b4 => by rw [f5 b b1 b3 b4, g4 b b1 b2 b4])
      exact h1 M5 this.1 this.2.1 this.2.2.1 this.2.2.2
  · have e4 : M1 (m + 2) 4 = ((yC A).length : Int) := hd.2.1.1
    rw [e4] at q
    rw [if_pos (Or.inr (by omega))] at h1
    exact h1 M1 now.1 now.2.1 now.2.2.1 now.2.2.2
theorem q1_help {F K : Nat} {p1 : Int} (hF : 1300 ≤ F) (hK : 3100 ≤ K) (hj : xJn x t M) : q_help F K t x (x + 436) (x + 452) p1 M (xJn x) := by
  obtain ⟨D, A, H, hc, hd, hm, hg, hA, hb, he⟩ := yJn_c hj
  unfold q_help p_L_help
  refine s_X11_help hF hc hg hA (fun a b t1 M1 c1 f1 M2 e2 => ?_) (fun q z => ⟨fun _ => ?_, rfl⟩)
  · obtain ⟨d2, m2⟩ := yMd (r := yHp A p1) hc.2.2.2.1 f1 hg hd hm
    rw [← e2] at d2 m2
    refine s_X12_help hK d2 m2 hg hA (fun _ _ M3 d3 m3 z3 f3 => ⟨z3, fun _ => ?_, ?_⟩) (fun q => absurd ⟨a, b⟩ q)
    · rw [f3.1 _ (by omega) (by omega) (by omega) (by omega) (by omega) (by omega), e2]; exact xw_s
    · exact yJn_mk c1 f1 hb he (fun b hb => by rw [e2, xw_B hb]) d3 m3 f3 hg hA
  · exact s_X12_help hK hd hm hg hA (fun a b => absurd ⟨a, b⟩ q) (fun _ => yTh hj (by decide))
end YHM
