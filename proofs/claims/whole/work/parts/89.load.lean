/-! LAYER 2, load: the model's load; load, both -/
section ZLD
variable {b : Nat → Int} {n x m F N w L : Nat} {B M M' : xMe} {s s' : zS} {Q : xMe → Prop} {R : Int → xMe → Prop} {d g f k v th z9 : Int} {A A' : yA} {H : List yA} {D : Nat → Prop} {t t' t1 : xTh}
theorem s_lay : ∀ (k i : Nat) (M : xMe), 2105 < k + i → i ≤ 2105 → (∀ M', (∀ c, c ≠ w → M' c = M c) → (∀ j : Nat, i ≤ j → j < 2105 → M' w j = if j = 9 then 1 else if j = 10 then 50 else if j = 11 then 10 else 0) → (∀ j : Nat, j < i → j ≠ 9 → j ≠ 10 → j ≠ 11 → M' w j = M w j) → M' w 9 = 1 → M' w 10 = 50 → M' w 11 = 10 → Q M') → p_X12_layUsual_2 F w 2105 Q k (i : Int) M
  | 0, i, M, h, _, _ => by omega
  | k + 1, i, M, h, hi, hq => by
    unfold p_X12_layUsual_2
    refine ⟨fun q => ⟨⟨by decide, by decide⟩, fun M1 e1 => ⟨⟨by decide, by decide⟩, fun M2 e2 => ⟨⟨by decide, by decide⟩, fun M3 e3 => ?_⟩⟩⟩, fun q => ⟨⟨by omega, by omega⟩, fun M1 e1 => ⟨⟨by omega, by omega⟩, ?_⟩⟩⟩
    · refine hq M3 (fun c hc => by rw [e3, xw_B hc, e2, xw_B hc, e1, xw_B hc]) (fun j j1 j2 => by omega) (fun j _ j1 j2 j3 => by rw [e3, xw_j j3, e2, xw_j j2, e1, xw_j j1]) ?_ ?_ ?_
      · rw [e3, xw_j (by decide), e2, xw_j (by decide), e1]; exact xw_s
      · rw [e3, xw_j (by decide), e2]; exact xw_s
      · rw [e3]; exact xw_s
    · rw [Int.toNat_natCast] at e1
      refine s_lay k (i + 1) M1 (by omega) (by omega) (fun M' g1 g2 g3 g9 g10 g11 => hq M' (fun c hc => (g1 c hc).trans (by rw [e1, xw_B hc])) (fun j j1 j2 => ?_) (fun j j0 j1 j2 j3 => (g3 j (by omega) j1 j2 j3).trans (by rw [e1, xw_j (by omega)])) g9 g10 g11)
      by_cases c : j = i
      · subst c
        by_cases c9 : j = 9
        · rw [if_pos c9, c9]; exact g9
        · by_cases c10 : j = 10
          · rw [if_neg c9, if_pos c10, c10]; exact g10
          · by_cases c11 : j = 11
            · rw [if_neg c9, if_neg c10, if_pos c11, c11]; exact g11
            · rw [if_neg c9, if_neg c10, if_neg c11, g3 j (by omega) c9 c10 c11, e1, xw_s]
      · exact g2 j (by omega) j2
theorem zD_0 {c : Nat} (h : ∀ j : Nat, j < 2105 → M c j = if j = 9 then 1 else if j = 10 then 50 else if j = 11 then 10 else 0) : zD c M zA0 := by
  have z : ∀ j : Nat, j < 2105 → j ≠ 9 → j ≠ 10 → j ≠ 11 → M c j = 0 := fun j hj h9 h10 h11 => by rw [h j hj, if_neg h9, if_neg h10, if_neg h11]
  refine ⟨fun k hk => ?_, ⟨z 4 (by omega) (by omega) (by omega) (by omega), fun i v hv => by cases hv⟩, z 14 (by omega) (by omega) (by omega) (by omega), fun g g0 g1 => z _ (by omega) (by omega) (by omega) (by omega), z 13 (by omega) (by omega) (by omega) (by omega), fun j v hv => by cases hv⟩
  unfold yG at hk
  rw [h _ (by omega)]
  show _ = (if k = 9 then _ else if k = 10 then _ else if k = 11 then _ else _)
  by_cases c9 : k = 9
  · rw [if_pos c9, if_pos (by omega)]
  · by_cases c10 : k = 10
    · rw [if_neg c9, if_pos c10, if_neg (by omega), if_pos (by omega)]
    · by_cases c11 : k = 11
      · rw [if_neg c9, if_neg c10, if_pos c11, if_neg (by omega), if_neg (by omega), if_pos (by omega)]
      · rw [if_neg c9, if_neg c10, if_neg c11, if_neg (by omega), if_neg (by omega), if_neg (by omega)]
theorem s_X12_loadE {p : Int} (h : ¬ (0 ≤ p ∧ p ≤ M m 2)) (hR : R 0 (xw (xw M m 0 0) m 0 1)) : p_X12_load F m p M R := by
  unfold p_X12_load
  intro M1 e1
  have k2 : M1 m 2 = M m 2 := by rw [e1, xw_j (by decide)]
  have k0 : M1 m 0 = 0 := by rw [e1]; exact xw_s
  rw [k2]
  refine z_in (fun q => absurd q h) (fun _ => ⟨fun q => absurd rfl q, fun _ => ?_⟩)
  unfold p_X12_fails
  refine ⟨fun q => absurd q (by decide), fun _ => ⟨fun q => absurd k0 q, fun _ M2 e2 => ⟨fun q => (by have a : M2 m 0 = 1 := (by rw [e2]; exact xw_s); omega), fun _ => ⟨fun q => absurd q (by decide), fun _ => ?_⟩⟩⟩⟩
  rw [e2, e1]; exact hR
theorem s_X12_load (hn : n ≤ 700) (hF : 3100 ≤ F) (hM : ∀ j : Nat, j < n → M (m + 1) j = b j) (h2 : (n : Int) ≤ M m 2) (hd : yDR (m + 2) M A) (hm : yHm m M H) (hg : yHg H) (hA : yG0 A) (hT : s'.e = 0 → zT n s') (htop : ∀ (B M : xMe) (Q : Int → xMe → Prop) (K : xMe → Prop), zM b n m B 0 (zs0 b n) M → (∀ M', zM b n m B 0 s' M' → K M') → p_X12_takeWord F m 0 M (fun r77 M77 => ((r77 ≠ 0 → p_X12_expect F m 59 M77 (fun M96 => p_X12_load_99 F m Q K F M96)) ∧ (r77 = 0 → p_X12_report m (-2) (M77 m 4) M77 (fun M90 => p_X12_expect F m 59 M90 (fun M96 => p_X12_load_99 F m Q K F M96))))))
    (he : s'.e ≠ 0 → ∀ M', M' m 0 = 0 → M' m 2 = 0 → M' m 7 = s'.w → M' m 13 = M m 13 → (∀ c, c ≠ m → c ≠ m + 3 → M' c = M c) → R s'.e M')
    (hgd : s'.e = 0 → ∀ M', M' m 0 = 0 → M' m 2 = 0 → M' m 7 = s'.w → yDR (m + 2) M' (zFin s'.A) → yHm m M' (yPush H A) → (∀ c, c ≠ m → c ≠ m + 2 → c ≠ m + 3 → ¬ (m + 7 ≤ c ∧ c < m + 15) → M' c = M c) → R (yS s'.A 3) M') : p_X12_load F m (n : Int) M R := by
  unfold p_X12_load
  intro M1 e1
  have k2 : M1 m 2 = M m 2 := by rw [e1, xw_j (by decide)]
  have k0 : M1 m 0 = 0 := by rw [e1]; exact xw_s
  rw [k2]
  refine z_in (fun _ => ⟨fun _ => ?_, fun q => absurd q (by decide)⟩) (fun q => absurd ⟨by omega, h2⟩ q)
  unfold p_X12_fails
  refine ⟨fun _ => ⟨fun _ => ⟨fun _ => ?_, fun q => absurd rfl q⟩, fun q => absurd k0 q⟩, fun q => absurd rfl q⟩
  intro M2 e2 M3 e3 M4 e4 M5 e5 M6 e6 M7 e7 M8 e8
  have b8 : ∀ c, c ≠ m → M8 c = M c := fun c hc => by rw [e8, xw_B hc, e7, xw_B hc, e6, xw_B hc, e5, xw_B hc, e4, xw_B hc, e3, xw_B hc, e2, xw_B hc, e1, xw_B hc]
  have j8 : ∀ j, j ≠ 16 → j ≠ 15 → j ≠ 6 → j ≠ 5 → j ≠ 4 → j ≠ 3 → j ≠ 2 → M8 m j = M1 m j := fun j a1 a2 a3 a4 a5 a6 a7 => by rw [e8, xw_j a1, e7, xw_j a2, e6, xw_j a3, e5, xw_j a4, e4, xw_j a5, e3, xw_j a6, e2, xw_j a7]
  have q2 : M8 m 2 = 0 := by rw [e8, xw_j (by decide), e7, xw_j (by decide), e6, xw_j (by decide), e5, xw_j (by decide), e4, xw_j (by decide), e3, xw_j (by decide), e2]; exact xw_s
  have q3 : M8 m 3 = (n : Int) := by rw [e8, xw_j (by decide), e7, xw_j (by decide), e6, xw_j (by decide), e5, xw_j (by decide), e4, xw_j (by decide), e3]; exact xw_s
  have q4 : M8 m 4 = ((0 : Nat) : Int) := by rw [e8, xw_j (by decide), e7, xw_j (by decide), e6, xw_j (by decide), e5, xw_j (by decide), e4, xw_s]; rfl
  have q5 : M8 m 5 = 0 := by rw [e8, xw_j (by decide), e7, xw_j (by decide), e6, xw_j (by decide), e5]; exact xw_s
  have q6 : M8 m 6 = -1 := by rw [e8, xw_j (by decide), e7, xw_j (by decide), e6]; exact xw_s
  have q15 : M8 m 15 = 0 := by rw [e8, xw_j (by decide), e7]; exact xw_s
  have q16 : M8 m 16 = 0 := by rw [e8]; exact xw_s
  unfold p_X12_layUsual
  refine s_lay (w := m + 3) F 0 M8 (by omega) (by omega) (fun M9 g1 g2 g3 g9 g10 g11 => ?_)
  have h9 : zM b n m M9 0 (zs0 b n) M9 := by
    have c2 : M9 (m + 3) 2 = 0 := g2 2 (by omega) (by omega)
    refine ⟨⟨?_, ?_⟩, ⟨?_, fun j hj => ?_⟩, ?_, ?_, by rw [c2]; decide, fun c _ _ => rfl, fun j _ _ => rfl, fun _ => ⟨⟨0, Nat.zero_le n, ?_, rfl⟩, zD_0 (fun j hj => g2 j (Nat.zero_le _) hj), ?_⟩⟩
    · rw [g1 m (by omega)]; exact q5
    · rw [g1 m (by omega)]; exact q6
    · rw [g1 m (by omega)]; exact q3
    · rw [g1 (m + 1) (by omega), b8 _ (by omega)]; exact hM j hj
    · rw [g1 m (by omega)]; exact q15
    · rw [g1 m (by omega), q16]; decide
    · rw [g1 m (by omega)]; exact q4
    · rw [g1 m (by omega), q16]; rfl
  refine htop M9 M9 R _ h9 (fun M10 h10 M11 e11 => ?_)
  have b11 : ∀ c, c ≠ m → c ≠ m + 3 → M11 c = M c := fun c c1 c2 => by rw [e11, xw_B c1, h10.2.2.2.2.2.1 c c1 c2, g1 c c2, b8 c c1]
  have j11 : ∀ j, ¬ (4 ≤ j ∧ j ≤ 6) → ¬ (14 ≤ j ∧ j ≤ 16) → j ≠ 7 → M11 m j = M8 m j := fun j j1 j2 j3 => by rw [e11, xw_j j3, h10.2.2.2.2.2.2.1 j j1 j2, g1 m (by omega)]
  have r7 : M11 m 7 = s'.w := by rw [e11, xw_s]; exact h10.1.2
  have r5 : M11 m 5 = s'.e := by rw [e11, xw_j (by decide)]; exact h10.1.1
  have r0 : M11 m 0 = 0 := by rw [j11 0 (by decide) (by decide) (by decide), j8 0 (by decide) (by decide) (by decide) (by decide) (by decide) (by decide) (by decide)]; exact k0
  have r2 : M11 m 2 = 0 := by rw [j11 2 (by decide) (by decide) (by decide)]; exact q2
  have r13 : M11 m 13 = M m 13 := by rw [j11 13 (by decide) (by decide) (by decide), j8 13 (by decide) (by decide) (by decide) (by decide) (by decide) (by decide) (by decide), e1, xw_j (by decide)]
  have rd : M11 (m + 3) = M10 (m + 3) := by rw [e11]; exact xw_B (by omega)
  refine z_good (fun q => ⟨fun _ => ?_, fun r => absurd r (by decide)⟩) (fun q => ⟨fun r => absurd rfl r, fun _ => ?_⟩)
  · have e0 : s'.e = 0 := r5.symm.trans q
    obtain ⟨T1, T2, T3, T4, T5, T6⟩ := hT e0
    obtain ⟨n1, n2, n3, n4, n5, n6⟩ := T2.1
    obtain ⟨k1', k2', k3', k4'⟩ := zM_cnt e0 h10
    obtain ⟨z1, z2, z3⟩ := h10.2.2.2.2.2.2.2 e0
    have KK := zK_ok T3 (by omega)
    refine zM_143 (C1 := (yS s'.A 1).toNat) (C2 := (yS s'.A 2).toNat) (by omega) (by omega) (by omega) F 0 M11 (by rw [rd, k1']; omega) (by rw [rd, k2']; omega) (by omega) (by omega) (fun M12 f1 f2 f3 => ?_)
    have b12 : ∀ c, c ≠ m → c ≠ m + 3 → M12 c = M c := fun c c1 c2 => (f1 c c2).trans (b11 c c1 c2)
    have m12 : M12 m = M11 m := f1 m (by omega)
    have dr : yDR (m + 3) M12 (zFin s'.A) := by
      refine zD_fin T2 z2 (fun i j i1 j1 => ?_) (fun a ha => ?_) ?_
      · rw [f2 i j (Nat.zero_le _) (by omega) (by omega), rd]
      · rw [f3 a (fun i j _ i1 j1 => ha i j (by omega) (by omega)), rd]
      · rcases T3 with ⟨_, a⟩ | ⟨_, a⟩
        · rw [a]; exact Nat.zero_le _
        · have := a.2; omega
    have hd12 : yDR (m + 2) M12 A := yDR_row hd (b12 _ (by omega) (by omega))
    have hm12 : yHm m M12 H := yHm_fr hg hm (by rw [m12]; exact r13) (fun b b1 b2 => b12 b (by omega) (by omega))
    refine s_X12_remember hF hd12 hm12 hg hA (fun M13 u1 u2 u3 => ?_)
    refine s_X12_copy (n := 2105) (by omega) (by omega) (by omega) (by omega) hF (fun M14 v1 v2 => ⟨⟨by decide, by decide⟩, ?_⟩)
    have row3 : M13 (m + 3) = M12 (m + 3) := u3 _ (by omega) (by omega)
    have fg : yG0 (zFin s'.A) := zFin_g T2 T3 (by omega)
    have s3 : M14 (m + 2) 3 = yS s'.A 3 := by
      rw [v2, if_pos (by decide), row3]
      have a := dr.1 3 (by unfold yG; omega)
      rw [show (3 : Int).toNat = 3 from rfl] at a
      rw [a]; exact zFin_n (by decide)
    rw [s3]
    refine hgd e0 M14 ?_ ?_ ?_ (yDR_cp2 (yG0_r fg) dr (fun j hj => by rw [v2, if_pos hj, row3])) (yHm_fr (yPush_g hg hA) u1 (by rw [v1 m (by omega)]) (fun b b1 b2 => v1 b (by omega))) (fun c c1 c2 c3 c4 => (v1 c c2).trans ((u3 c c1 c4).trans (b12 c c1 c3)))
    · rw [v1 m (by omega), u2 0 (by decide), m12]; exact r0
    · rw [v1 m (by omega), u2 2 (by decide), m12]; exact r2
    · rw [v1 m (by omega), u2 7 (by decide), m12]; exact r7
  · have e0 : s'.e ≠ 0 := fun r => q (r5.trans r)
    rw [r5]
    exact he e0 M11 r0 r2 r7 r13 b11
theorem yCs_x (hc : yCs x t M D A H) (hN : yN A) (hg : yHg H) (hw : zNw t t1 (x + 4) L) (hk : xk t (x + 44) ≤ 17 ∧ ∀ i, i < 8 → xk t (x + 124 + 39 * i) ≤ 17) (e : ∀ c, x + 44 ≤ c → c < x + 436 → M' c = M c) (eq : ∀ q, D q → M' (q + 1) = M (q + 1)) : yCs x t1 M' D A H := by
  obtain ⟨h1, h2, h3, h4, n, h5, h6, h7, h8⟩ := id hc
  have hx : ∀ q, D q → xn t1 (q + 1) = xn t (q + 1) ∧ xk t1 (q + 1) = xk t (q + 1) ∧ xk t1 (q + 2) = xk t (q + 2) := fun q hq => by
    have a := (h4 q hq).1
    exact ⟨(hw.1.1.2 _ a.1).2.1, (hw.1.1.2 _ a.1).1, (hw.1.1.2 _ a.2).1⟩
  refine ⟨yWd_fr hN h1 (hw.2.1 _ (by omega) hk.1) (hx _ h1.2.1).1 (fun _ h => h) (fun b b1 b2 => e b (by omega) (by omega)) (eq _ h1.2.1), by rw [e _ (by omega) (by omega)]; exact h2, by rw [e _ (by omega) (by omega)]; exact h3, fun q hq => ⟨?_, (h4 q hq).2⟩, ?_⟩
  · rw [(hx q hq).2.1, (hx q hq).2.2]; exact (h4 q hq).1
  · refine ⟨by rw [e _ (by omega) (by omega)]; exact n, h5, h6, by rw [e _ (by omega) (by omega)]; exact h7, fun i B hB => ?_⟩
    have hs : ySlt h5 H.length i < 8 := Nat.mod_lt _ (by decide)
    have hw' := h8 i B hB
    exact yWd_fr (hg.2 i B hB).1.1.1.1 hw' (hw.2.1 _ (by omega) (hk.2 _ hs)) (hx _ hw'.2.1).1 (fun _ h => h) (fun b b1 b2 => e b (by omega) (by omega)) (eq _ hw'.2.1)
theorem q1_load {F : Nat} {p1 : Int} (hF : 3100 ≤ F) (hl : xlive t) (hG : xLG t x (x + 436) (x + 452)) (hj : xJn x t M) : q_load F F t x (x + 436) (x + 452) p1 M (xJn x) := by
  obtain ⟨D, A, H, hc, hd, hm, hg, hA, hb, he⟩ := yJn_c hj
  have hbd := hb
  obtain ⟨b1, b2, b3, b4⟩ := hb
  have hz : x + 453 ≤ xz t := hl (x + 452) (by rw [hG.2.2.2.1]; decide)
  have hk : xk t (x + 44) ≤ 17 ∧ ∀ i, i < 8 → xk t (x + 124 + 39 * i) ≤ 17 := by
    have o := hG.1
    refine ⟨by rw [o.2.2.2.2.1.1]; decide, fun i hi => ?_⟩
    have := (o.2.2.2.2.2.2.2.2.2.2.2.2 i hi).2.1
    rw [show x + 124 + 39 * i = x + 122 + 2 + 39 * i by omega, this]; decide
  unfold q_load p_L_load p_X11_load
  refine ⟨fun q z => ⟨fun _ => s_X12_loadE (fun r => by omega) (yTh hj (by decide)), rfl⟩, fun q0 => ⟨fun q1 => ?_, fun q z => ⟨fun _ => s_X12_loadE (fun r => by omega) (yTh hj (by decide)), rfl⟩⟩⟩
  obtain ⟨n, rfl⟩ : ∃ n : Nat, p1 = (n : Int) := ⟨p1.toNat, by omega⟩
  have hn : n ≤ 700 := by omega
  have hbb : ∀ j, j < n → 0 ≤ M (x + 437) j ∧ M (x + 437) j ≤ 255 := fun j hj' => by have := (b4 j (by omega)).2; omega
  obtain ⟨s', hT, hC, hMo⟩ := z_top (b := M (x + 437)) (x := x) (m := x + 436) hn (show 702 ≤ F by omega) hbb
  have oldq : ∀ q, D q → q + 2 < xz t := fun q hq => hl _ (hc.2.2.2.1 q hq).1.2
  refine s_X8_read (b := M (x + 437)) (s' := s') hn (by omega) hz (fun j hj' => b4 j (by omega)) hT hC (fun e0 t1 M1 nw g2 g3 fr => ?_) (fun e0 t1 M1 nw cr cd g2 g3 fr => ?_)
  · -- an error
    intro M2 e2 M3 e3
    have g3' : M2 (x + 1) 3 = s'.w := by rw [e2, xw_b (by omega)]; exact g3
    rw [g3'] at e3
    have b3f : ∀ c, ¬ (x + 1 ≤ c ∧ c ≤ x + 43 ∧ c ≠ x + 3) → c ≠ x → c < xz t → M3 c = M c := fun c c1 c2 c3 => by rw [e3, xw_B c2, e2, xw_B (by omega), fr c c1 c3]
    have g23 : M3 (x + 1) 2 = s'.e := by rw [e3, xw_b (by omega), e2, xw_b (by omega)]; exact g2
    refine ⟨fun q => absurd (g23.symm.trans q) e0, fun _ M4 e4 => ?_⟩
    rw [g23] at e4
    have b4f : ∀ c, ¬ (x + 1 ≤ c ∧ c ≤ x + 43 ∧ c ≠ x + 3) → c ≠ x → c ≠ x + 452 → c < xz t → M4 c = M c := fun c c1 c2 c3 c4 => by rw [e4, xw_B c3, b3f c c1 c2 c4]
    refine s_X12_load (b := M (x + 437)) (s' := s') (A := A) (H := H) hn hF (fun j _ => by rw [b4f (x + 436 + 1) (by omega) (by omega) (by omega) (by omega)]) ?_ (yDR_row hd (b4f _ (by omega) (by omega) (by omega) (by omega))) (yHm_fr hg hm (by rw [b4f _ (by omega) (by omega) (by omega) (by omega)]) (fun b b1 b2 => b4f b (by omega) (by omega) (by omega) (by omega))) hg hA hT hMo (fun _ M5 k0 k2 k7 k13 f5 => ⟨k0, fun _ => ?_, ?_⟩) (fun r => absurd r e0)
    · rw [b4f _ (by omega) (by omega) (by omega) (by omega), b1]; omega
    · rw [f5 _ (by omega) (by omega), e4]; exact xw_s
    · have f45 : ∀ c, ¬ (x + 1 ≤ c ∧ c ≤ x + 43 ∧ c ≠ x + 3) → c ≠ x → c ≠ x + 452 → c ≠ x + 436 → c ≠ x + 439 → c < xz t → M5 c = M c := fun c c1 c2 c3 c4 c5 c6 => (f5 c c4 (by omega)).trans (b4f c c1 c2 c3 c6)
      refine yJn_of (yCs_x hc hA.1.1.1.1 hg nw hk (fun c c1 c2 => f45 c (by omega) (by omega) (by omega) (by omega) (by omega) (by omega)) (fun q hq => ?_)) (yDR_row hd (f45 _ (by omega) (by omega) (by omega) (by omega) (by omega) (by omega))) (yHm_fr hg hm (by rw [k13, b4f _ (by omega) (by omega) (by omega) (by omega)]) (fun b b1 b2 => f45 b (by omega) (by omega) (by omega) (by omega) (by omega) (by omega))) hg hA ?_ ?_
      · have a := oldq q hq
        have c := (hc.2.2.2.1 q hq).2.1
        exact f45 _ (by omega) (by omega) (by omega) (by omega) (by omega) (by omega)
      · have l0 : M5 (x + 2) 1 = 0 := by rw [f5 _ (by omega) (by omega), e4, xw_b (by omega), e3, xw_b (by omega), e2]; exact xw_s
        exact ⟨by rw [k2, l0], by rw [l0]; decide, by rw [l0]; decide, fun j hj' => by omega⟩
      · rw [k7, f5 _ (by omega) (by omega), e4, xw_b (by omega), e3]; exact xw_s
  · -- no error
    intro M2 e2 M3 e3
    have g3' : M2 (x + 1) 3 = s'.w := by rw [e2, xw_b (by omega)]; exact g3
    rw [g3'] at e3
    have b31 : ∀ c, c ≠ x → c ≠ x + 2 → M3 c = M1 c := fun c c1 c2 => by rw [e3, xw_B c1, e2, xw_B c2]
    have b3f : ∀ c, ¬ (x + 1 ≤ c ∧ c ≤ x + 43 ∧ c ≠ x + 3) → c ≠ x → c < xz t → M3 c = M c := fun c c1 c2 c3 => by rw [b31 c c2 (by omega), fr c c1 c3]
    have g23 : M3 (x + 1) 2 = 0 := by rw [b31 _ (by omega) (by omega)]; exact g2
    refine ⟨fun _ => ?_, fun q => absurd g23 q⟩
    obtain ⟨T1, T2, T3, T4, T5, T6⟩ := hT e0
    have fg : yG0 (zFin s'.A) := zFin_g T2 T3 (by omega)
    have hc3 : yCs x t1 M3 D A H := yCs_x hc hA.1.1.1.1 hg nw hk (fun c c1 c2 => b3f c (by omega) (by omega) (by omega)) (fun q hq => by
      have a := oldq q hq
      have c := (hc.2.2.2.1 q hq).2.1
      exact b3f _ (by omega) (by omega) (by omega))
    refine s_X3_keep hc3 hg hA (fun t4 M4 et hc4 f4 => ?_)
    have nq := nw.2.2.1
    have f4f : ∀ c, (c < x + 44 ∨ (x + 119 ≤ c ∧ c < x + 122) ∨ x + 436 ≤ c) → (∀ q, D q → c ≠ q + 2) → M4 c = M3 c := fun c h1 h2 => f4 c (by omega) (by omega) (by omega) h2
    have nD : ∀ c, c < x + 44 ∨ (x + 436 ≤ c ∧ c < x + 453) → ∀ q, D q → c ≠ q + 2 := fun c h1 q hq => by
      have c := (hc.2.2.2.1 q hq).2.1
      omega
    have row4 : ∀ c, x + 4 ≤ c → c < x + 44 → M4 c = M1 c := fun c c1 c2 => (f4f c (by omega) (nD c (by omega))).trans (b31 c (by omega) (by omega))
    have cr4 : yCR (x + 4) M4 (zFin s'.A) := yCR_fr fg.1.1.1.1 cr (fun b b1 b2 => row4 b (by omega) (by omega))
    obtain ⟨fN, fC, fQ⟩ := yG0_c fg
    refine s_X10_copyFrom (a := x + 44) (b := x + 4) (by omega) fN fC fQ cr4 (fun M5 c5 c13 c14 f5 => ?_)
    have r8 : M5 (x + 60) 8 = yS s'.A 3 := (c5.1 16 8 3 yl16).trans (zFin_n (by decide))
    intro M6 e6
    rw [r8] at e6
    have b65 : ∀ c, c ≠ x + 452 → M6 c = M5 c := fun c hc' => by rw [e6, xw_B hc']
    have b6f : ∀ c, (c = x + 3 ∨ (x + 436 ≤ c ∧ c < x + 452)) → M6 c = M c := fun c hc' => by
      rw [b65 c (by omega), f5 c (by omega), f4f c (by omega) (nD c (by omega)), b3f c (by omega) (by omega) (by omega)]
    refine s_X12_load (b := M (x + 437)) (s' := s') (A := A) (H := H) hn hF (fun j _ => by rw [b6f (x + 436 + 1) (by omega)]) ?_ (yDR_row hd (b6f _ (by omega))) (yHm_fr hg hm (by rw [b6f _ (by omega)]) (fun b b1 b2 => b6f b (by omega))) hg hA hT hMo (fun r => absurd e0 r) (fun _ M7 k0 k2 k7 d7 m7 f7 => ⟨k0, fun _ => ?_, ?_⟩)
    · rw [b6f _ (by omega), b1]; omega
    · rw [f7 _ (by omega) (by omega) (by omega) (by omega), e6]; exact xw_s
    · obtain ⟨w1, w2, w3, w4, n8, w5, w6, w7, w8⟩ := id hc4
      have eqq : xq t4 (x + 4) = xq t1 (x + 4) := by
        rw [et]
        unfold xq
        rw [xr_wn (by omega)]
      have b75 : ∀ c, c < x + 436 ∨ x + 453 ≤ c → M7 c = M5 c := fun c hc' => (f7 c (by omega) (by omega) (by omega) (by omega)).trans (b65 c (by omega))
      have newq : ∀ q, D q → q + 1 ≠ xq t1 (x + 4) + 2 ∧ xq t1 (x + 4) + 1 ≠ q + 2 := fun q hq => by have := oldq q hq; omega
      have m5q : M5 (xq t1 (x + 4) + 1) = M1 (xq t1 (x + 4) + 1) := by
        rw [f5 _ (by omega), f4f _ (by omega) (fun q hq => (newq q hq).2), b31 _ (by omega) (by omega)]
      have old5 : ∀ q, D q → M7 (q + 1) = M4 (q + 1) := fun q hq => by
        have c := (hc.2.2.2.1 q hq).2.1
        rw [b75 _ (by omega), f5 _ (by omega)]
      have xk4 : ∀ a, xk t4 a = xk t1 a := fun a => by rw [et]; rfl
      have xn4 : ∀ a, xn t4 a = xn t1 a := fun a => by rw [et]; rfl
      have wd4 : yWd t4 M4 (fun q => D q ∨ q = xq t1 (x + 4)) (x + 4) (zFin s'.A) := by
        refine ⟨cr4, Or.inr eqq, ?_, fun i v hv => ?_⟩
        · unfold xqn
          rw [eqq, xn4]; exact nw.2.2.2.2.2
        · rw [eqq, f4f _ (by omega) (fun q hq => (newq q hq).2), b31 _ (by omega) (by omega)]
          exact cd i v hv
      have px : yPx x t4 (fun q => D q ∨ q = xq t1 (x + 4)) := by
        intro q hq
        rcases hq with hq | hq
        · obtain ⟨a1, a2, a3⟩ := w4 q hq
          refine ⟨a1, a2, fun q' hq' => ?_⟩
          rcases hq' with hq' | hq'
          · exact a3 q' hq'
          · rw [hq']; exact (newq q hq).1
        · rw [hq]
          refine ⟨⟨by rw [xk4, nw.2.2.2.1]; decide, by rw [xk4, nw.2.2.2.2.1]; decide⟩, Or.inr (by omega), fun q' hq' => ?_⟩
          rcases hq' with hq' | hq'
          · exact (newq q' hq').2
          · rw [hq']; omega
      have cr7 : yCR (x + 44) M7 (zFin s'.A) := yCR_fr fN c5 (fun b b1 b2 => b75 b (by omega))
      have hp7 : M7 (xq t4 (x + 4) + 1) = M4 (xq t4 (x + 4) + 1) := by
        rw [eqq, b75 _ (by omega), f5 _ (by omega)]
      refine yJn_of (D := fun q => D q ∨ q = xq t1 (x + 4)) (H := yPush H A) ⟨yWd_cp (x := x) wd4 cr7 hp7, ?_, ?_, ?_, ?_⟩ d7 m7 (yPush_g hg hA) fg ?_ ?_
      · rw [b75 _ (by omega)]; exact c13
      · rw [b75 _ (by omega), c14]; decide
      · exact px
      · refine yHc_fr (D := D) (yPush_g hg hA) ⟨n8, w5, w6, w7, w8⟩ ⟨fun w h1 h2 => xr_wn (by omega), fun q hq => ⟨rfl, (w4 q hq).1⟩⟩ (fun q hq => Or.inl hq) (fun b b1 b2 => by rw [b75 b (by omega), f5 b (by omega)]) old5
      · have l0 : M7 (x + 2) 1 = 0 := by rw [b75 _ (by omega), f5 _ (by omega), f4f _ (by omega) (nD _ (by omega)), e3, xw_b (by omega), e2]; exact xw_s
        exact ⟨by rw [k2, l0], by rw [l0]; decide, by rw [l0]; decide, fun j hj' => by omega⟩
      · rw [k7, b75 _ (by omega), f5 _ (by omega), f4f _ (by omega) (nD _ (by omega)), e3]; exact xw_s
end ZLD
