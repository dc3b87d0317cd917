theorem s_X10_noteLack0 {F w : Nat} {g f t : Int} {M : xMe} {A : yA} {Q : xMe → Prop} (h : yCR w M A) (hI : yI A) (g0 : 0 ≤ g) (g1 : g < yS A 1) (f0 : 0 ≤ f) (f1 : f < yS A 2) (hl : yQ A (6 * g + f) = []) (hq : Q M) : p_X10_noteLack F w g f t M Q := by
  obtain ⟨n1, n2, n3, n4, n5, n6⟩ := id hI.1.1
  unfold p_X10_noteLack
  refine ⟨⟨by omega, by omega⟩, ⟨by omega, by omega⟩, fun z ez => ?_⟩
  have ez : z = 6 * g + f := by omega
  subst ez
  refine s_X4_firstIn hI.2.2.2.1.1 h.2.2.2 ⟨by omega, by omega⟩ ?_
  rw [hl]
  exact ⟨fun _ => hq, fun _ => ⟨fun _ => hq, fun q => absurd q (by decide)⟩⟩
theorem s_X10_rest {F w qs : Nat} {k : Int} {M : xMe} {A : yA} {Q : xMe → Prop} (hF : 200 ≤ F) (h : yCR w M A) (hJ : yJ A) (hk : 1 ≤ k ∧ k ≤ 600) (ht : yS A 0 + k ≤ 11000) (hQt : yQt k A) (hL : 1 ≤ M w 14) (hq : ∀ M', yCR w M' (yRst k A) → yKp w M M' → (∀ g p l, 0 ≤ g → g < yS A 1 → 0 ≤ M w 13 → M w 13 < yS A 2 → yQ A (6 * g + M w 13) = p :: l → yS A (34 + 8 * M w 13) ≤ yS A 0 + k - 1 - yS A (88 + 9 * p) → M' w 14 ≤ max 1 (yS A (83 + 9 * p) - yTok A g (M w 13) k - ySum (M w 13) (yC A))) → yFr w qs M M' → Q M') : p_X10_rest F w k M Q := by
  obtain ⟨hI, h7⟩ := id hJ
  obtain ⟨n1, n2, n3, n4, n5, n6⟩ := id hI.1.1
  have ht0 := hI.2.2.2.2.2.2.1.2.2.2.2.2
  have hJ2 : yJ (yRst k A) := by
    have := (yTn_q k.toNat A hJ (by omega) (by omega) (by rw [show ((k.toNat : Nat) : Int) = k by omega]; exact hQt)).2
    rw [show ((k.toNat : Nat) : Int) = k by omega] at this
    exact this
  unfold p_X10_rest
  refine ⟨fun _ => s_X10_refill hI (by omega) ⟨by omega, by omega⟩ h (fun M1 d1 d2 => ?_), fun q => absurd q (by omega)⟩
  have e0 : M1 w 7 = yS A 0 := (yr0_7 d1.1).trans ((ySt_rfn (t := k) (n := 36) (A := A)).2 0 (by omega))
  rw [e0]
  refine ⟨⟨by omega, by omega⟩, fun M2 e2 => ?_⟩
  have c2 : yCR w M2 (yRst k A) := by
    rw [e2]; exact yCR_w (o := 0) (i := 7) (yI_rf hI (by omega)).1.1.1 d1 yl0_7 ⟨by omega, by omega, by omega, by omega⟩
  have k2 : M2 w 13 = M w 13 ∧ M2 w 14 = M w 14 := by rw [e2, xw_j (by decide), xw_j (by decide), d2 w (by omega)]; exact ⟨rfl, rfl⟩
  have hkp2 : yKp w M M2 := by unfold yKp; rw [k2.1, k2.2]; exact ⟨rfl, fun h => ⟨h, Int.le_refl _⟩⟩
  have hfr2 : yFr w qs M M2 := fun b h1 _ => by rw [e2, xw_B (by omega), d2 b (by omega)]
  have e5 : M2 (w + 5) 4 = yS A 2 := (yr5 c2.1).trans (yRst_S (by omega) (by omega))
  rw [k2.1, e5]
  refine ⟨fun h0 => hq M2 c2 hkp2 (fun g p l _ _ q => absurd q (by omega)) hfr2, fun h0 => ⟨fun h1 => ?_, fun h1 => hq M2 c2 hkp2 (fun g p l _ _ _ q => absurd q (by omega)) hfr2⟩⟩
  have main : ∀ (n i : Nat) (g : Int) (M3 : xMe), g + n = yS A 1 → n < i → 0 ≤ g → yCR w M3 (yRst k A) → yKp w M M3 → (∀ g' p l, 0 ≤ g' → g' < g → yQ A (6 * g' + M w 13) = p :: l → yS A (34 + 8 * M w 13) ≤ yS A 0 + k - 1 - yS A (88 + 9 * p) → M3 w 14 ≤ max 1 (yS A (83 + 9 * p) - yTok A g' (M w 13) k - ySum (M w 13) (yC A))) → yFr w qs M M3 → p_X10_rest_44 F w Q i g M3 := by
    intro n
    induction n with
    | zero =>
      intro i g M3 hg hi g0 c3 k3 l3 f3
      obtain ⟨i, rfl⟩ : ∃ k', i = k' + 1 := ⟨i - 1, by omega⟩
      unfold p_X10_rest_44
      rw [yr1 c3.1, yRst_S (by omega) (by omega)]
      exact ⟨fun _ => hq M3 c3 k3 (fun g' p l a b _ _ hl => l3 g' p l a (by omega) hl) f3, fun q => absurd q (by omega)⟩
    | succ n ih =>
      intro i g M3 hg hi g0 c3 k3 l3 f3
      obtain ⟨i, rfl⟩ : ∃ k', i = k' + 1 := ⟨i - 1, by omega⟩
      have g1 : g < yS A 1 := by omega
      have gg1 : g < yS (yRst k A) 1 := by rw [yRst_S (by omega) (by omega)]; exact g1
      have ff1 : M w 13 < yS (yRst k A) 2 := by rw [yRst_S (by omega) (by omega)]; exact h1
      have e7 : M3 w 7 = yS A 0 + k := (yr0_7 c3.1).trans yRst_0
      unfold p_X10_rest_44
      rw [yr1 c3.1, yRst_S (by omega) (by omega), e7, k3.1]
      refine ⟨fun q => absurd q (by omega), fun _ => ⟨⟨by omega, by omega⟩, ?_⟩⟩
      cases hl : yQ A (6 * g + M w 13) with
      | nil =>
        refine s_X10_noteLack0 c3 hJ2.1 g0 gg1 h0 ff1 hl ⟨⟨by omega, by omega⟩, ih i (g + 1) M3 (by omega) (by omega) (by omega) c3 k3 (fun g' p l a b hl' => ?_) f3⟩
        by_cases e : g' = g
        · subst e; rw [hl] at hl'; cases hl'
        · exact l3 g' p l a (by omega) hl'
      | cons p l =>
        obtain ⟨a, b, -⟩ := yHead hI.1 hI.2.2.1 hI.2.2.2.1 g0 g1 h0 h1 hl
        refine s_X10_noteLack c3 hJ2.1 (by omega) g0 gg1 h0 ff1 ⟨by omega, by omega⟩ hl (fun M4 d1' d2' d3' d4' => ⟨⟨by omega, by omega⟩, ih i (g + 1) M4 (by omega) (by omega) (by omega) d1' (yKp_trans k3 d2') (fun g' p' l' a' b' hl' hp' => ?_) (yFr_trans f3 (fun b' q1 q2 => d4' b' (by omega)))⟩)
        have hL3 := (k3.2 hL).1
        by_cases e : g' = g
        · subst e
          rw [hl] at hl'
          cases hl'
          have := d3' (k3.1.symm) (by rw [yRst_S (by omega) (by omega), yRst_S (by omega) (by omega)]; omega)
          rw [yRst_S (by omega) (by omega), yRst_tok hI.1.1 g0 g1 h0 h1] at this
          exact this
        · have := l3 g' p' l' a' (by omega) hl' hp'
          have := (d2'.2 hL3).2
          omega
  exact main (yS A 1).toNat F 0 M2 (by omega) (by omega) (by decide) c2 hkp2 (fun g' p l a b => by omega) hfr2
theorem s_X5_hasEnded {w : Nat} {pk : Int} {M : xMe} {A : yA} {Q : Int → xMe → Prop} (hN : yN A) (h : yR w M A) (hq : Q (if yEnd pk A then 1 else 0) M) : p_X5_hasEnded (w + 16) pk M Q := by
  obtain ⟨n1, n2, n3, n4, n5, n6⟩ := hN
  unfold p_X5_hasEnded
  unfold yEnd at hq
  rw [yr16 h, show w + 16 + 4 = w + 20 from rfl]
  refine ⟨fun h0 => ?_, fun h0 => ⟨fun h1 => ?_, fun h1 => ⟨⟨by omega, by omega⟩, ?_⟩⟩⟩
  · rw [if_neg (by simp; omega)] at hq; exact hq
  · rw [if_neg (by simp; omega)] at hq; exact hq
  · rw [yr20 h h0 h1]
    refine ⟨fun h2 => ?_, fun h2 => ?_⟩
    · rw [if_neg (by simp; omega)] at hq; exact hq
    · rw [if_pos (by simp; omega)] at hq; exact hq
/-- with a greater coupon the same -/
def yPav (fw e L : Int) (A : yA) (op : yA → yA) : Prop := ∀ d B, 0 ≤ d → d < L → yJ B → yDl fw e d A B → yDl fw e d (op A) (op B)
theorem yEnd_S {pk : Int} {A B : yA} (h : yS B = yS A) : yEnd pk B = yEnd pk A := by unfold yEnd; rw [h]
theorem yAdv_end {pk : Int} {n : Nat} {A : yA} (h : yEnd pk A = true) : yAdv pk n A = A := by
  cases n with
  | zero => rfl
  | succ n => rw [yAdv, if_pos h]
set_option maxHeartbeats 4000000 in
theorem s_X10_advance_3 {F w q qc qs nq : Nat} {pk T : Int} {Q : xMe → Prop} (hF : 1300 ≤ F) : ∀ (N n k : Nat) (x : Int) (A : yA) (M : xMe), n ≤ N → n + 1 < k → x + n = T → 0 ≤ x → T ≤ 600 → yS A 0 + n ≤ 11000 → yCR w M A → yPz w qc qs nq M (yK A) → yJ A → 1 ≤ M w 14 → (∀ M', yCR w M' (yAdv pk n A) → yKp w M M' → (∀ e, yS A 0 + n + 1000 < e → yPav (M w 13) e (M' w 14) A (yAdv pk n)) → yFr w qs M M' → Q M') → p_X10_advance_3 F w q qc qs nq Q k T pk x M := by
  intro N
  induction N with
  | zero =>
    intro n k x A M hn hk hx x0 hT ht h hz hJ hL hq
    obtain ⟨k, rfl⟩ : ∃ k', k = k' + 1 := ⟨k - 1, by omega⟩
    have e : n = 0 := by omega
    subst e
    unfold p_X10_advance_3
    exact ⟨fun _ => hq M h (yKp_refl _ _) (fun e _ d B _ _ _ hB => hB) (yFr_refl _ _ _), fun q => absurd q (by omega)⟩
  | succ N ih =>
    intro n k x A M hn hk hx x0 hT ht h hz hJ hL hq
    obtain ⟨k, rfl⟩ : ∃ k', k = k' + 1 := ⟨k - 1, by omega⟩
    have hN := hJ.1.1.1
    have ht0 := hJ.1.2.2.2.2.2.2.1.2.2.2.2.2
    unfold p_X10_advance_3
    refine ⟨fun hle => ?_, fun hlt => s_X5_hasEnded hN h.1 ?_⟩
    · have e : n = 0 := by omega
      subst e
      exact hq M h (yKp_refl _ _) (fun e _ d B _ _ _ hB => hB) (yFr_refl _ _ _)
    · cases he : yEnd pk A with
      | true =>
        refine ⟨fun _ => ?_, fun q => absurd q (by decide)⟩
        have := hq M
        rw [yAdv_end he] at this
        exact this h (yKp_refl _ _) (fun e _ d B _ _ _ hB => by rw [yAdv_end he, yAdv_end (by rw [yEnd_S (yDl_S hB)]; exact he)]; exact hB) (yFr_refl _ _ _)
      | false =>
        refine ⟨fun q => absurd rfl q, fun _ => ⟨⟨by omega, by omega⟩, s_X10_quietTicks (by omega) h hJ.1 ⟨by omega, by omega⟩ (fun r r0 r1 r2 => ?_)⟩⟩
        -- behind the rest: A1, M1
        have hrest : ∀ (M1 : xMe) (A1 : yA), yCR w M1 A1 → yKp w M M1 → yFr w qs M M1 → yJ A1 → yEnd pk A1 = false → yK A1 = yK A → yS A1 0 = yS A 0 + r → yAdv pk n A = yAdv pk (n - r.toNat) A1 → (∀ L e, L ≤ M1 w 14 → yS A 0 + n + 1000 < e → ∀ d B, 0 ≤ d → d < L → yJ B → yDl (M w 13) e d A B → ∃ B1, yDl (M w 13) e d A1 B1 ∧ yJ B1 ∧ yEnd pk B1 = false ∧ yAdv pk n B = yAdv pk (n - r.toNat) B1) → (xR (x + r)) ∧ ((T ≤ (x + r) → (xR (r + 1)) ∧ (xR (x + (r + 1))) ∧ (∀ z52 : Int, z52 = x + (r + 1) → p_X10_advance_3 F w q qc qs nq Q k T pk z52 M1)) ∧ ((x + r) < T → p_X10_tick F w q qc qs nq M1 (fun M43 => (xR (r + 1)) ∧ (xR (x + (r + 1))) ∧ (∀ z52 : Int, z52 = x + (r + 1) → p_X10_advance_3 F w q qc qs nq Q k T pk z52 M43)))) := by
          intro M1 A1 c1 k1 f1 j1 e1 kk1 t1 a1 par1
          have hL1 := (k1.2 hL).1
          refine ⟨⟨by omega, by omega⟩, fun hfull => ⟨⟨by omega, by omega⟩, ⟨by omega, by omega⟩, fun z ez => ?_⟩, fun hmore => ?_⟩
          · obtain ⟨k, rfl⟩ : ∃ k', k = k' + 1 := ⟨k - 1, by omega⟩
            have hz0 : n - r.toNat = 0 := by omega
            rw [hz0] at a1 par1
            unfold p_X10_advance_3
            refine ⟨fun _ => hq M1 (by rw [a1]; exact c1) k1 (fun e he d B h0 hd jB hB => ?_) f1, fun q => absurd q (by omega)⟩
            obtain ⟨B1, b1, -, -, b4⟩ := par1 _ e (Int.le_refl _) he d B h0 hd jB hB
            rw [a1, b4]; exact b1
          · obtain ⟨m, hm⟩ : ∃ m, n - r.toNat = m + 1 := ⟨n - r.toNat - 1, by omega⟩
            have hadv : ∀ X : yA, yEnd pk X = false → yAdv pk (n - r.toNat) X = yAdv pk m (yTick X) := fun X hX => by rw [hm, yAdv, hX]; rfl
            obtain ⟨tj, ts, tt⟩ := yTick_I j1 (by omega)
            refine s_X10_tick hF c1 (by rw [kk1]; exact yPz_fr hz f1) j1 (by omega) hL1 (fun M2 d1 d2 d3 d4 => ⟨⟨by omega, by omega⟩, ⟨by omega, by omega⟩, fun z ez => ?_⟩)
            refine ih m k z (yTick A1) M2 (by omega) (by omega) (by omega) (by omega) hT (by rw [tt]; omega) d1 (by rw [ts.2, kk1]; exact yPz_fr hz (yFr_trans f1 d4)) tj (d2.2 hL1).1 (fun M' p1 p2 p3 p4 => hq M' (by rw [a1, hadv A1 e1]; exact p1) (yKp_trans (yKp_trans k1 d2) p2) (fun e he d B h0 hd jB hB => ?_) (yFr_trans (yFr_trans f1 d4) p4))
            have q2 := (d2.2 hL1).2
            have q3 := (p2.2 (d2.2 hL1).1).2
            obtain ⟨B1, b1, b2, b3, b4⟩ := par1 (M' w 14) e (by omega) he d B h0 hd jB hB
            rw [a1, b4, hadv A1 e1, hadv B1 b3]
            have u1 : yDl (M w 13) e d (yTick A1) (yTick B1) := by
              have := d3 e (by omega) d B1 h0 (by omega) (by rw [k1.1]; exact b1)
              rw [k1.1] at this; exact this
            have u2 := p3 e (by rw [tt]; omega) d (yTick B1) h0 hd (yTick_I b2 (by rw [yDl_S b1]; omega)).1
            rw [d2.1, k1.1] at u2
            exact u2 u1
        by_cases er : r = 0
        · subst er
          unfold p_X10_rest
          refine ⟨fun q => absurd q (by decide), fun _ => hrest M A h (yKp_refl _ _) (yFr_refl _ _ _) hJ he rfl (by omega) (by rw [show n - (0 : Int).toNat = n from rfl]) (fun L e _ _ d B _ _ jB hB => ⟨B, hB, jB, by rw [yEnd_S (yDl_S hB)]; exact he, by rw [show n - (0 : Int).toNat = n from rfl]⟩)⟩
        · have hQt : yQt r A := r2.resolve_left er
          have hQn : yQt ((r.toNat : Nat) : Int) A := by rw [show ((r.toNat : Nat) : Int) = r by omega]; exact hQt
          have hnr : n = r.toNat + (n - r.toNat) := by omega
          obtain ⟨-, hj⟩ := yTn_q r.toNat A hJ (by omega) (by omega) hQn
          rw [show ((r.toNat : Nat) : Int) = r by omega] at hj
          refine s_X10_rest (qs := qs) (by omega) h hJ ⟨by omega, by omega⟩ (by omega) hQt hL (fun M1 d1 d2 d3 d4 => ?_)
          refine hrest M1 (yRst r A) d1 d2 d4 hj (by rw [yEnd_rst hN]; exact he) rfl yRst_0 ?_ (fun L e hL1 hE d B h0 hd jB hB => ?_)
          · have := yAdv_q (pk := pk) (n := n - r.toNat) r.toNat A hJ (by omega) (by omega) hQn he
            rw [← hnr, show ((r.toNat : Nat) : Int) = r by omega] at this
            exact this
          · obtain ⟨u1, u2⟩ := yQt_par (k := r) hJ.1 ⟨by omega, by omega⟩ (by omega) hQt (show d < M1 w 14 by omega) (fun g p l g0 g1 f0 f1 hl hp => d3 g p l g0 g1 f0 f1 hl hp) hB
            have hSB := yDl_S hB
            have u1n : yQt ((r.toNat : Nat) : Int) B := by rw [show ((r.toNat : Nat) : Int) = r by omega]; exact u1
            have heB : yEnd pk B = false := by rw [yEnd_S hSB]; exact he
            obtain ⟨-, hjB⟩ := yTn_q r.toNat B jB (by rw [hSB]; omega) (by omega) u1n
            rw [show ((r.toNat : Nat) : Int) = r by omega] at hjB
            refine ⟨yRst r B, u2, hjB, by rw [yEnd_rst jB.1.1.1]; exact heB, ?_⟩
            have := yAdv_q (pk := pk) (n := n - r.toNat) r.toNat B jB (by rw [hSB]; omega) (by omega) u1n heB
            rw [← hnr, show ((r.toNat : Nat) : Int) = r by omega] at this
            exact this
theorem s_X10_advance {F w q qc qs nq : Nat} {pk : Int} {n : Nat} {M : xMe} {A : yA} {Q : xMe → Prop} (hF : 1300 ≤ F) (hn : n ≤ 500) (ht : yS A 0 + n ≤ 11000) (h : yCR w M A) (hz : yPz w qc qs nq M (yK A)) (hJ : yJ A) (hL : 1 ≤ M w 14) (hq : ∀ M', yCR w M' (yAdv pk n A) → yKp w M M' → (∀ e, yS A 0 + n + 1000 < e → yPav (M w 13) e (M' w 14) A (yAdv pk n)) → yFr w qs M M' → Q M') : p_X10_advance F w (n : Int) pk q qc qs nq M Q := by
  unfold p_X10_advance
  exact s_X10_advance_3 hF n n F 0 A M (Nat.le_refl _) (by omega) (by omega) (by decide) (by omega) ht h hz hJ hL hq
