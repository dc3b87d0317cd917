/-! A TICK, both sides -/
theorem yPar_rf {fw e L t : Int} {A : yA} : yPar fw e L A (yRf t) := by
  intro d B h0 h1 h2
  rcases yDl_d h2 with ⟨rfl, rfl⟩ | ⟨C', rfl, hC⟩
  · exact yDl_0
  · exact yDl_c (A := yRf t A) hC
theorem yPar_time {fw e L t : Int} {A : yA} : yPar fw e L A (fun A => yw A 0 t) := by
  intro d B h0 h1 h2
  rcases yDl_d h2 with ⟨rfl, rfl⟩ | ⟨C', rfl, hC⟩
  · exact yDl_0
  · exact yDl_c (A := yw A 0 t) hC
theorem yExp_app {t : Int} {L1 L2 : List yCo} : yExp t (L1 ++ L2) = yExp t L1 ++ yExp t L2 := by unfold yExp; rw [List.filter_append]
theorem yExp_cons {t : Int} {c : yCo} {L : List yCo} (h : c.2.2.1 ≠ t) : yExp t (c :: L) = c :: yExp t L := by unfold yExp; rw [List.filter_cons, if_pos (by simpa using h)]
theorem yPar_ex {fw e L : Int} {A : yA} (he : yS A 0 < e) : yPar fw e L A yExA := by
  intro d B h0 h1 h2
  rcases yDl_d h2 with ⟨rfl, rfl⟩ | ⟨C', rfl, L1, L2, v, hd, hv, rfl, hC, hl1, hl2⟩
  · exact yDl_0
  · have hsub : ∀ (L : List yCo) c, c ∈ yExp (yS A 0) L → c ∈ L := fun L c hc => by unfold yExp at hc; exact (List.mem_filter.mp hc).1
    have w1 : yExp (yS A 0) (L1 ++ (fw, v + d, e, 0) :: L2) = yExp (yS A 0) L1 ++ (fw, v + d, e, 0) :: yExp (yS A 0) L2 := by rw [yExp_app, yExp_cons (show e ≠ yS A 0 by omega)]
    have w2 : yExp (yS A 0) (yC A) = yExp (yS A 0) L1 ++ (if v = 0 then yExp (yS A 0) L2 else (fw, v, e, 0) :: yExp (yS A 0) L2) := by
      rw [hC, yExp_app]
      split
      · rfl
      · rw [yExp_cons (show e ≠ yS A 0 by omega)]
    have hlen : ((L1 ++ (fw, v + d, e, 0) :: L2).length : Int) - (yExp (yS A 0) (L1 ++ (fw, v + d, e, 0) :: L2)).length = ((yC A).length : Int) - (yExp (yS A 0) (yC A)).length := by
      rw [w1, w2, hC]
      simp only [List.length_append, List.length_cons]
      split
      · omega
      · simp only [List.length_cons]
    have hB : yExA (yCw A (L1 ++ (fw, v + d, e, 0) :: L2)) = yCw (yExA A) (yExp (yS A 0) (L1 ++ (fw, v + d, e, 0) :: L2)) := by
      show (yup (yS A) 7 (yS A 7 + (((L1 ++ (fw, v + d, e, 0) :: L2).length : Int) - (yExp (yS A 0) (L1 ++ (fw, v + d, e, 0) :: L2)).length)), _) = (yup (yS A) 7 (yS A 7 + (((yC A).length : Int) - (yExp (yS A 0) (yC A)).length)), _)
      rw [hlen]; rfl
    rw [hB]
    exact yDl_c ⟨yExp (yS A 0) L1, yExp (yS A 0) L2, v, hd, hv, w1, w2, fun c hc => hl1 c (hsub _ _ hc), fun c hc => hl2 c (hsub _ _ hc)⟩
theorem yDl_S {fw e d : Int} {A B : yA} (h : yDl fw e d A B) : yS B = yS A := by
  rcases yDl_d h with ⟨-, rfl⟩ | ⟨C', rfl, -⟩ <;> rfl
theorem yPar_ar1 {fw e L p : Int} {A : yA} (h : yPar fw e L A (yArr p)) : yPar fw e L A (yAr1 p) := by
  intro d B h0 h1 h2
  have hS := yDl_S h2
  unfold yAr1
  rw [hS]
  split
  · exact h d B h0 h1 h2
  · exact h2
theorem s_X10_tick_27 {F w q qc qs nq : Nat} {Q K : xMe → Prop} : ∀ (n k : Nat) (p : Int) (A : yA) (M : xMe), p + n = yS A 3 → n < k → 0 ≤ p → yCR w M A → yI A → yLv A → 1 ≤ M w 14 → (∀ M', yCR w M' (yArs n p A) → yKp w M M' → (∀ e, yS A 0 + 1000 < e → yPar (M w 13) e (M' w 14) A (yArs n p)) → (∀ b, b < w ∨ w + 36 ≤ b → M' b = M b) → K M') → p_X10_tick_27 F w q qc qs nq Q K k p M := by
  intro n
  induction n with
  | zero =>
    intro k p A M hp hk p0 h hI hl hL hq
    obtain ⟨k, rfl⟩ : ∃ k', k = k' + 1 := ⟨k - 1, by omega⟩
    unfold p_X10_tick_27
    rw [yr16 h.1]
    exact ⟨fun _ => hq M h (yKp_refl _ _) (fun e _ => yPar_id) (fun _ _ => rfl), fun q => absurd q (by omega)⟩
  | succ n ih =>
    intro k p A M hp hk p0 h hI hl hL hq
    obtain ⟨k, rfl⟩ : ∃ k', k = k' + 1 := ⟨k - 1, by omega⟩
    have p1 : p < yS A 3 := by omega
    obtain ⟨n1, n2, n3, n4, n5, n6⟩ := hI.1.1
    obtain ⟨i1, i2, i3, i4⟩ := yI_ar1 hI hl p0 p1
    have e3 : yS (yAr1 p A) 3 = yS A 3 := i2.1.1 3 (by unfold yStat; omega)
    have hno : ¬ (yS A (84 + 9 * p) = 2 ∨ (yS A (84 + 9 * p) = 0 ∧ yS A (82 + 9 * p) = yS A 0)) → p_X10_tick_27 F w q qc qs nq Q K k (p + 1) M := fun hc => by
      have e1 : yAr1 p A = A := by unfold yAr1; rw [if_neg hc]
      refine ih k (p + 1) A M (by omega) (by omega) (by omega) h hI hl hL (fun M' d1 d2 d3 d4 => hq M' (by rw [yArs, e1]; exact d1) d2 (fun e he => ?_) d4)
      intro d B h0 h1 h2
      have hB : yAr1 p B = B := by unfold yAr1; rw [yDl_S h2, if_neg hc]
      rw [yArs, yArs, e1, hB]
      exact d3 e he d B h0 h1 h2
    have hyes : (yS A (84 + 9 * p) = 2 ∨ (yS A (84 + 9 * p) = 0 ∧ yS A (82 + 9 * p) = yS A 0)) → p_X10_arrive w p M (fun M85 => (xR (p + 1)) ∧ p_X10_tick_27 F w q qc qs nq Q K k (p + 1) M85) := fun hc => by
      have e1 : yAr1 p A = yArr p A := by unfold yAr1; rw [if_pos hc]
      refine s_X10_arrive h hI p0 p1 (by omega) (by omega) (fun M1 d1 d2 d3 d4 => ⟨⟨by omega, by omega⟩, ?_⟩)
      refine ih k (p + 1) (yArr p A) M1 (by rw [← e1, e3]; omega) (by omega) (by omega) d1 (by rw [← e1]; exact i1) (by rw [← e1]; exact i4) (d2.2 hL).1 (fun M' f1 f2 f3 f4 => hq M' (by rw [yArs, e1]; exact f1) (yKp_trans d2 f2) (fun e he => ?_) (fun b hb => (f4 b hb).trans (d4 b hb)))
      have g1 : yPar (M w 13) e (M' w 14) A (yAr1 p) := yPar_ar1 (yPar_mono (d3 _ e he) (f2.2 (d2.2 hL).1).2)
      have g2 : yPar (M w 13) e (M' w 14) (yAr1 p A) (yArs n (p + 1)) := by
        rw [e1, ← d2.1]
        exact f3 e (by rw [← e1, i2.2]; exact he)
      exact fun d B h0 h1 h2 => yPar_comp (op2 := yArs n (p + 1)) g1 g2 d B h0 h1 h2
    unfold p_X10_tick_27
    rw [yr16 h.1, yr20 h.1 p0 p1, yr18 h.1 p0 p1, yr0_7 h.1]
    refine ⟨fun q => absurd q (by omega), fun _ => ⟨⟨by omega, by omega⟩, fun z ez => ?_⟩⟩
    subst ez
    refine ⟨fun h0 => ⟨fun h2 => ⟨⟨by omega, by omega⟩, hno (by omega)⟩, fun h2 => hyes (by omega)⟩, fun h0 => ⟨⟨by omega, by omega⟩, fun hs => ⟨fun h2 => ⟨⟨by omega, by omega⟩, hno (by omega)⟩, fun h2 => hyes (by omega)⟩, fun hs => hyes (by omega)⟩⟩
theorem s_X10_tick_109 {F w q qc qs nq : Nat} {g : Int} {Q : xMe → Prop} {K : Int → xMe → Prop} (hF : 1300 ≤ F) (g0 : 0 ≤ g) : ∀ (n k : Nat) (f : Int) (A : yA) (M : xMe), f + n = yS A 2 → n < k → 0 ≤ f → g < yS A 1 → yCR w M A → yPz w qc qs nq M (yK A) → yI A → yLv A → 1 ≤ M w 14 → (∀ M', yCR w M' (yOpf g n f A) → yKp w M M' → (∀ e, yPar (M w 13) e (M' w 14) A (yOpf g n f)) → yFr w qs M M' → K g M') → p_X10_tick_109 F w q qc qs nq Q K k g f M := by
  intro n
  induction n with
  | zero =>
    intro k f A M hp hk f0 g1 h hz hI hl hL hq
    obtain ⟨k, rfl⟩ : ∃ k', k = k' + 1 := ⟨k - 1, by omega⟩
    unfold p_X10_tick_109
    rw [yr5 h.1]
    exact ⟨fun _ => hq M h (yKp_refl _ _) (fun e => yPar_id) (yFr_refl _ _ _), fun q => absurd q (by omega)⟩
  | succ n ih =>
    intro k f A M hp hk f0 g1 h hz hI hl hL hq
    obtain ⟨k, rfl⟩ : ∃ k', k = k' + 1 := ⟨k - 1, by omega⟩
    have f1 : f < yS A 2 := by omega
    obtain ⟨n1, n2, n3, n4, n5, n6⟩ := hI.1.1
    obtain ⟨i1, i2⟩ := yOpn_I 20 A hI g0 g1 f0 f1
    obtain ⟨i3, i4⟩ := yOpn_7 20 A hI g0 g1 f0 f1
    unfold p_X10_tick_109
    rw [yr5 h.1]
    refine ⟨fun q => absurd q (by omega), fun _ => s_X10_openGate hF h hz hI g0 g1 f0 f1 (fun M1 d1 d2 d3 d4 => ⟨⟨by omega, by omega⟩, ih k (f + 1) (yOpn g f 20 A) M1 (by rw [i2.1.1 2 (by unfold yStat; omega)]; omega) (by omega) (by omega) (by rw [i2.1.1 1 (by unfold yStat; omega)]; exact g1) d1 (by rw [i2.1.2]; exact yPz_fr hz d4) i1 (i4 hl) (d2.2 hL).1 (fun M' f1' f2 f3 f4 => hq M' (by rw [yOpf]; exact f1') (yKp_trans d2 f2) (fun e => ?_) (yFr_trans d4 f4))⟩)⟩
    have g1' : yPar (M w 13) e (M' w 14) A (yOpn g f 20) := yPar_mono (d3 e) (f2.2 (d2.2 hL).1).2
    have g2' : yPar (M w 13) e (M' w 14) (yOpn g f 20 A) (yOpf g n (f + 1)) := by rw [← d2.1]; exact f3 e
    exact fun d B h0 h1 h2 => yPar_comp (op2 := yOpf g n (f + 1)) g1' g2' d B h0 h1 h2
theorem s_X10_tick_96 {F w q qc qs nq : Nat} {T : Int} {nf : Nat} {Q : xMe → Prop} (hF : 1300 ≤ F) (hT : 0 ≤ T ∧ T < 11000) : ∀ (n k : Nat) (g : Int) (A : yA) (M : xMe), g + n = yS A 1 → n < k → 0 ≤ g → (nf : Int) = yS A 2 → yS A 0 = T → yCR w M A → yPz w qc qs nq M (yK A) → yI A → yLv A → 1 ≤ M w 14 → (∀ M', yCR w M' (yw (yOpg nf n g A) 0 (T + 1)) → yKp w M M' → (∀ e, yPar (M w 13) e (M' w 14) A (yOpg nf n g)) → yFr w qs M M' → Q M') → p_X10_tick_96 F w q qc qs nq Q k g M := by
  intro n
  induction n with
  | zero =>
    intro k g A M hp hk g0 hnf ht h hz hI hl hL hq
    obtain ⟨k, rfl⟩ : ∃ k', k = k' + 1 := ⟨k - 1, by omega⟩
    unfold p_X10_tick_96
    rw [yr1 h.1, yr0_7 h.1, ht]
    refine ⟨fun _ => ⟨⟨by omega, by omega⟩, fun M1 e1 => hq M1 ?_ ?_ (fun e => yPar_id) (fun b h1 _ => by rw [e1, xw_B (by omega)])⟩, fun q => absurd q (by omega)⟩
    · rw [e1]; exact yCR_w (o := 0) (i := 7) hI.1.1 h yl0_7 ⟨by omega, by omega, by omega, by omega⟩
    · unfold yKp; rw [e1, xw_j (by decide), xw_j (by decide)]; exact ⟨rfl, fun h => ⟨h, Int.le_refl _⟩⟩
  | succ n ih =>
    intro k g A M hp hk g0 hnf ht h hz hI hl hL hq
    obtain ⟨k, rfl⟩ : ∃ k', k = k' + 1 := ⟨k - 1, by omega⟩
    have g1 : g < yS A 1 := by omega
    obtain ⟨n1, n2, n3, n4, n5, n6⟩ := hI.1.1
    obtain ⟨i1, i2, i3, i4⟩ := yI_opf (g := g) nf 0 A hI hl g0 g1 (by decide) (by omega)
    unfold p_X10_tick_96
    rw [yr1 h.1]
    refine ⟨fun q => absurd q (by omega), fun _ => s_X10_tick_109 hF g0 nf F 0 A M (by omega) (by omega) (by decide) g1 h hz hI hl hL (fun M1 d1 d2 d3 d4 => ⟨⟨by omega, by omega⟩, ih k (g + 1) (yOpf g nf 0 A) M1 (by rw [i2.1.1 1 (by unfold yStat; omega)]; omega) (by omega) (by omega) (by rw [i2.1.1 2 (by unfold yStat; omega)]; exact hnf) (by rw [i2.2]; exact ht) d1 (by rw [i2.1.2]; exact yPz_fr hz d4) i1 i4 (d2.2 hL).1 (fun M' f1' f2 f3 f4 => hq M' (by rw [yOpg]; exact f1') (yKp_trans d2 f2) (fun e => ?_) (yFr_trans d4 f4))⟩)⟩
    have g1' : yPar (M w 13) e (M' w 14) A (yOpf g nf 0) := yPar_mono (d3 e) (f2.2 (d2.2 hL).1).2
    have g2' : yPar (M w 13) e (M' w 14) (yOpf g nf 0 A) (yOpg nf n (g + 1)) := by rw [← d2.1]; exact f3 e
    exact fun d B h0 h1 h2 => yPar_comp (op2 := yOpg nf n (g + 1)) g1' g2' d B h0 h1 h2
set_option maxHeartbeats 4000000 in
theorem s_X10_tick {F w q qc qs nq : Nat} {M : xMe} {A : yA} {Q : xMe → Prop} (hF : 1300 ≤ F) (h : yCR w M A) (hz : yPz w qc qs nq M (yK A)) (hJ : yJ A) (ht : yS A 0 < 11000) (hL : 1 ≤ M w 14) (hq : ∀ M', yCR w M' (yTick A) → yKp w M M' → (∀ e, yS A 0 + 1000 < e → yPar (M w 13) e (M' w 14) A yTick) → yFr w qs M M' → Q M') : p_X10_tick F w q qc qs nq M Q := by
  obtain ⟨hI, h7⟩ := hJ
  obtain ⟨n1, n2, n3, n4, n5, n6⟩ := id hI.1.1
  have ht0 := hI.2.2.2.2.2.2.1.2.2.2.2.2
  have h7b := hI.2.2.2.2.2.2.1.2.2.2.1
  obtain ⟨a1, a2⟩ := yI_rf (t := 1) hI (by decide)
  have e7 : yS (yRf 1 A) 7 = yS A 7 := ySt_rfn.2 7 (by omega)
  obtain ⟨b1, b2, b3⟩ := yI_ex a1 (by rw [e7, a2.2]; exact h7)
  have k12 := yTk_trans a2 b2
  obtain ⟨c1, c2, c3, c4⟩ := yI_ars (yS A 3).toNat 0 _ b1 b3 (by decide) (by rw [k12.1.1 3 (by unfold yStat; omega)]; omega)
  have k13 := yTk_trans k12 c2
  unfold p_X10_tick
  refine s_X10_refill hI (by omega) ⟨by decide, by decide⟩ h (fun M1 d1 d2 => ?_)
  have e0 : M1 w 7 = yS A 0 := (yr0_7 d1.1).trans a2.2
  rw [e0]
  refine s_X0_removeEnding d1.2.1 a1.2.2.2.2.1.1 (by omega) (fun M2 f1 f2 => ?_)
  have hCrf : yC (yRf 1 A) = yC A := rfl
  rw [hCrf] at f1 ⊢
  have hfl := yFilt_len (t := yS A 0) (yC A)
  have hlen := hI.2.2.2.2.1.1
  rw [show M1 w 11 = yS A 7 from (yr0_11 d1.1).trans e7]
  refine ⟨⟨by omega, by omega⟩, fun M3 e3 => ?_⟩
  have c3' : yCR w M3 (yExA (yRf 1 A)) := by
    have hR2 : yR w M2 (yRf 1 A) := yR_f d1.1 (fun b' q1 q2 q3 => f2 b' (by omega))
    have hR3 := yR_w (o := 0) (i := 11) (v := yS A 7 + (((yC A).length : Int) - (yExp (yS A 0) (yC A)).length)) a1.1.1 hR2 yl0_11 (yFx_o (by omega))
    rw [e3]
    have hA : yExA (yRf 1 A) = (yup (yS (yRf 1 A)) 7 (yS A 7 + (((yC A).length : Int) - (yExp (yS A 0) (yC A)).length)), yQ A, yExp (yS A 0) (yC A), yP A, yK A) := by
      unfold yExA
      rw [e7, a2.2]; rfl
    rw [hA]
    refine ⟨hR3, yU_f f1 (fun b' q1 q2 => xw_B (by omega)), yX_f d1.2.2.1 (fun b' q1 q2 => by rw [xw_B (by omega), f2 b' (by omega)]), yQc_o d1.2.2.2 (fun b' q1 q2 => by rw [xw_B (by omega), f2 b' (by omega)])⟩
  have hk3 : M3 w 13 = M w 13 ∧ M3 w 14 = M w 14 := by rw [e3, xw_j (by decide), xw_j (by decide), f2 w (by omega), d2 w (by omega)]; exact ⟨rfl, rfl⟩
  have hfr3 : yFr w qs M M3 := fun b' q1 _ => by rw [e3, xw_B (by omega), f2 b' (by omega), d2 b' (by omega)]
  refine s_X10_tick_27 (yS A 3).toNat F 0 _ M3 (by rw [k12.1.1 3 (by unfold yStat; omega)]; omega) (by omega) (by decide) c3' b1 b3 (by rw [hk3.2]; exact hL) (fun M4 g1 g2 g3 g4 => ?_)
  have hL4 := (g2.2 (by rw [hk3.2]; exact hL)).1
  have hfr4 : yFr w qs M M4 := yFr_trans hfr3 (yFr_of g4)
  refine s_X10_tick_96 (T := yS A 0) (nf := (yS A 2).toNat) hF ⟨by omega, ht⟩ (yS A 1).toNat F 0 _ M4 (by rw [k13.1.1 1 (by unfold yStat; omega)]; omega) (by omega) (by decide) (by rw [k13.1.1 2 (by unfold yStat; omega)]; omega) k13.2 g1 (by rw [k13.1.2]; exact yPz_fr hz hfr4) c1 c4 hL4 (fun M5 p1 p2 p3 p4 => hq M5 p1 ?_ (fun e he => ?_) (yFr_trans hfr4 p4))
  · refine yKp_trans ?_ p2
    refine yKp_trans ?_ g2
    unfold yKp
    rw [hk3.1, hk3.2]; exact ⟨rfl, fun h => ⟨h, Int.le_refl _⟩⟩
  · have q5 := (p2.2 hL4).2
    have r1 : yPar (M w 13) e (M5 w 14) A (fun X => yExA (yRf 1 X)) := yPar_comp yPar_rf (yPar_ex (by rw [a2.2]; omega))
    have r2 : yPar (M w 13) e (M5 w 14) (yExA (yRf 1 A)) (yArs (yS A 3).toNat 0) := by rw [← hk3.1]; exact yPar_mono (g3 e (by rw [k12.2]; exact he)) q5
    have r3 := yPar_comp r1 r2
    have r4 : yPar (M w 13) e (M5 w 14) (yArs (yS A 3).toNat 0 (yExA (yRf 1 A))) (yOpg (yS A 2).toNat (yS A 1).toNat 0) := by rw [← hk3.1, ← g2.1]; exact p3 e
    have r5 := yPar_comp (yPar_comp r3 r4) (yPar_time (t := yS A 0 + 1))
    intro d B h0 h1 h2
    have := r5 d B h0 h1 h2
    have hB : yTick B = yw (yOpg (yS A 2).toNat (yS A 1).toNat 0 (yArs (yS A 3).toNat 0 (yExA (yRf 1 B)))) 0 (yS A 0 + 1) := by unfold yTick; rw [yDl_S h2]
    rw [hB]; exact this
