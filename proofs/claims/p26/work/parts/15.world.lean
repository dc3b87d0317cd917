def p_X7_combine (x0 : Int) (x1 : Int) (x3 : Int) (M : xMe) (Q : Int → xMe → Prop) : Prop :=
  ((x0 < -3 ∨ -1 < x0 → (((xcmp x3 0) ≠ 0 → (x3 ≠ (0 : Int) ∧ xRl (Int.tdiv x1 x3)) ∧ (xR (max ((-1000000)) (min 1000000 (Int.tdiv x1 x3)))) ∧ Q (max ((-1000000)) (min 1000000 (Int.tdiv x1 x3))) M) ∧ ((xcmp x3 0) = 0 → (xR (max ((-1000000)) (min 1000000 0))) ∧ Q (max ((-1000000)) (min 1000000 0)) M))) ∧ (x0 = -3 → (xRl (x1 * x3)) ∧ (xR (max ((-1000000)) (min 1000000 (x1 * x3)))) ∧ Q (max ((-1000000)) (min 1000000 (x1 * x3))) M) ∧ (x0 = -2 → (xRl (x1 - x3)) ∧ (xR (max ((-1000000)) (min 1000000 (x1 - x3)))) ∧ Q (max ((-1000000)) (min 1000000 (x1 - x3))) M) ∧ (x0 = -1 → (xRl (x1 + x3)) ∧ (xR (max ((-1000000)) (min 1000000 (x1 + x3)))) ∧ Q (max ((-1000000)) (min 1000000 (x1 + x3))) M))
set_option maxHeartbeats 4000000 in
set_option maxRecDepth 100000 in
theorem c_X7_combine {G : xGx} {t : xTh} {M : xMe} {x0 : Int} {x1 : Int} {x3 : Int} {Q : Int → xMe → Prop}  (hM : xMR M) (hx0 : xR x0) (hx1 : xRl x1) (hx3 : xRl x3) (hp : p_X7_combine x0 x1 x3 M Q) : xCt G yX7_combine cX7_combine 7 (some .int) 1 0 0 [vi x0, vl x1, vl x3] t M (fun v t' M' => ∃ r, v = some (vi r) ∧ xR r ∧ xMR M' ∧ t' = t ∧ Q r M') (fun _ _ _ => False) := by
  refine xCt_of (L0 := [vi x0, vl x1, vU, vl x3, vU, vU, vU]) (by decide +kernel) (Nat.le_of_ble_eq_true rfl) rfl ?_
  intro X hX hB
  unfold p_X7_combine at hp
  refine xJ_iload_n hX dX7_combine_0 rfl ?_
  obtain ⟨hpo, hp⟩ := hp
  by_cases hsw1 : x0 < -3 ∨ -1 < x0
  · refine xJ_tOut hX dX7_combine_1 hx0 hsw1 (tgt := 52) (by decide) ?_
    replace hp := hpo hsw1
    refine xJ_lload_n hX dX7_combine_52 rfl ?_
    refine xJ_lconst hX dX7_combine_53 ?_
    refine xJ_lcmp hX dX7_combine_54 hx3 ⟨by decide, by decide⟩ ?_
    refine xJ_if_ne hX dX7_combine_55 (tgt := 62) (by decide) (xR_cmp _ _) (fun c55 => ?_) (fun c55 => ?_)
    · replace hp := hp.1 c55
      refine xJ_lload_n hX dX7_combine_62 rfl ?_
      refine xJ_lload_n hX dX7_combine_63 rfl ?_
      obtain ⟨h64, hp⟩ := hp
      refine xJ_ldiv hX dX7_combine_64 hx1 hx3 h64.1 ?_
      refine xJ_lstore hX dX7_combine_65 (Nat.le_of_ble_eq_true rfl) rfl ?_
      dsimp only [List.set]
      refine xJ_ldc2 (-1000000) hX dX7_combine_67 kc_X7_31 ?_
      refine xJ_ldc2 (1000000) hX dX7_combine_70 kc_X7_33 ?_
      refine xJ_lload hX dX7_combine_73 rfl ?_
      refine xJ_mminL hX hB dX7_combine_75 lj_X7_35 jw_minL_st jw_ma_in jw_minL_co rfl (by decide) (Nat.le_of_ble_eq_true rfl) (by decide) (by decide) ⟨by decide, by decide⟩ h64.2 ?_
      refine xJ_mmaxL hX hB dX7_combine_78 lj_X7_38 jw_maxL_st jw_ma_in jw_maxL_co rfl (by decide) (Nat.le_of_ble_eq_true rfl) (by decide) (by decide) ⟨by decide, by decide⟩ (xRl_min ⟨by decide, by decide⟩ h64.2) ?_
      obtain ⟨h81, hp⟩ := hp
      refine xJ_l2i hX dX7_combine_81 ?_
      refine xJ_iret hX hB dX7_combine_82 (by decide) (by decide) ⟨_, rfl, h81, hM, rfl, hp⟩
    · replace hp := hp.2 c55
      refine xJ_lconst hX dX7_combine_58 ?_
      refine xJ_goto hX dX7_combine_59 (tgt := 65) (by decide) ?_
      refine xJ_lstore hX dX7_combine_65 (Nat.le_of_ble_eq_true rfl) rfl ?_
      dsimp only [List.set]
      refine xJ_ldc2 (-1000000) hX dX7_combine_67 kc_X7_31 ?_
      refine xJ_ldc2 (1000000) hX dX7_combine_70 kc_X7_33 ?_
      refine xJ_lload hX dX7_combine_73 rfl ?_
      refine xJ_mminL hX hB dX7_combine_75 lj_X7_35 jw_minL_st jw_ma_in jw_minL_co rfl (by decide) (Nat.le_of_ble_eq_true rfl) (by decide) (by decide) ⟨by decide, by decide⟩ ⟨by decide, by decide⟩ ?_
      refine xJ_mmaxL hX hB dX7_combine_78 lj_X7_38 jw_maxL_st jw_ma_in jw_maxL_co rfl (by decide) (Nat.le_of_ble_eq_true rfl) (by decide) (by decide) ⟨by decide, by decide⟩ (xRl_min ⟨by decide, by decide⟩ ⟨by decide, by decide⟩) ?_
      obtain ⟨h81, hp⟩ := hp
      refine xJ_l2i hX dX7_combine_81 ?_
      refine xJ_iret hX hB dX7_combine_82 (by decide) (by decide) ⟨_, rfl, h81, hM, rfl, hp⟩
  · obtain hc1 | hc1 | hc1 : x0 = -3 ∨ x0 = -2 ∨ x0 = -1 := by omega
    · refine xJ_tIn hX dX7_combine_1 hx0 (by omega) (by omega) (off := 43) (by rw [hc1]; rfl) (tgt := 44) (by decide) ?_
      replace hp := hp.1 hc1
      refine xJ_lload_n hX dX7_combine_44 rfl ?_
      refine xJ_lload_n hX dX7_combine_45 rfl ?_
      refine xJ_lmul hX dX7_combine_46 ?_
      obtain ⟨h46, hp⟩ := hp
      refine xJ_lstore hX dX7_combine_47 (Nat.le_of_ble_eq_true rfl) rfl ?_
      dsimp only [List.set]
      refine xJ_goto hX dX7_combine_49 (tgt := 67) (by decide) ?_
      refine xJ_ldc2 (-1000000) hX dX7_combine_67 kc_X7_31 ?_
      refine xJ_ldc2 (1000000) hX dX7_combine_70 kc_X7_33 ?_
      refine xJ_lload hX dX7_combine_73 rfl ?_
      refine xJ_mminL hX hB dX7_combine_75 lj_X7_35 jw_minL_st jw_ma_in jw_minL_co rfl (by decide) (Nat.le_of_ble_eq_true rfl) (by decide) (by decide) ⟨by decide, by decide⟩ h46 ?_
      refine xJ_mmaxL hX hB dX7_combine_78 lj_X7_38 jw_maxL_st jw_ma_in jw_maxL_co rfl (by decide) (Nat.le_of_ble_eq_true rfl) (by decide) (by decide) ⟨by decide, by decide⟩ (xRl_min ⟨by decide, by decide⟩ h46) ?_
      obtain ⟨h81, hp⟩ := hp
      refine xJ_l2i hX dX7_combine_81 ?_
      refine xJ_iret hX hB dX7_combine_82 (by decide) (by decide) ⟨_, rfl, h81, hM, rfl, hp⟩
    · refine xJ_tIn hX dX7_combine_1 hx0 (by omega) (by omega) (off := 35) (by rw [hc1]; rfl) (tgt := 36) (by decide) ?_
      replace hp := hp.2.1 hc1
      refine xJ_lload_n hX dX7_combine_36 rfl ?_
      refine xJ_lload_n hX dX7_combine_37 rfl ?_
      refine xJ_lsub hX dX7_combine_38 ?_
      obtain ⟨h38, hp⟩ := hp
      refine xJ_lstore hX dX7_combine_39 (Nat.le_of_ble_eq_true rfl) rfl ?_
      dsimp only [List.set]
      refine xJ_goto hX dX7_combine_41 (tgt := 67) (by decide) ?_
      refine xJ_ldc2 (-1000000) hX dX7_combine_67 kc_X7_31 ?_
      refine xJ_ldc2 (1000000) hX dX7_combine_70 kc_X7_33 ?_
      refine xJ_lload hX dX7_combine_73 rfl ?_
      refine xJ_mminL hX hB dX7_combine_75 lj_X7_35 jw_minL_st jw_ma_in jw_minL_co rfl (by decide) (Nat.le_of_ble_eq_true rfl) (by decide) (by decide) ⟨by decide, by decide⟩ h38 ?_
      refine xJ_mmaxL hX hB dX7_combine_78 lj_X7_38 jw_maxL_st jw_ma_in jw_maxL_co rfl (by decide) (Nat.le_of_ble_eq_true rfl) (by decide) (by decide) ⟨by decide, by decide⟩ (xRl_min ⟨by decide, by decide⟩ h38) ?_
      obtain ⟨h81, hp⟩ := hp
      refine xJ_l2i hX dX7_combine_81 ?_
      refine xJ_iret hX hB dX7_combine_82 (by decide) (by decide) ⟨_, rfl, h81, hM, rfl, hp⟩
    · refine xJ_tIn hX dX7_combine_1 hx0 (by omega) (by omega) (off := 27) (by rw [hc1]; rfl) (tgt := 28) (by decide) ?_
      replace hp := hp.2.2 hc1
      refine xJ_lload_n hX dX7_combine_28 rfl ?_
      refine xJ_lload_n hX dX7_combine_29 rfl ?_
      refine xJ_ladd hX dX7_combine_30 ?_
      obtain ⟨h30, hp⟩ := hp
      refine xJ_lstore hX dX7_combine_31 (Nat.le_of_ble_eq_true rfl) rfl ?_
      dsimp only [List.set]
      refine xJ_goto hX dX7_combine_33 (tgt := 67) (by decide) ?_
      refine xJ_ldc2 (-1000000) hX dX7_combine_67 kc_X7_31 ?_
      refine xJ_ldc2 (1000000) hX dX7_combine_70 kc_X7_33 ?_
      refine xJ_lload hX dX7_combine_73 rfl ?_
      refine xJ_mminL hX hB dX7_combine_75 lj_X7_35 jw_minL_st jw_ma_in jw_minL_co rfl (by decide) (Nat.le_of_ble_eq_true rfl) (by decide) (by decide) ⟨by decide, by decide⟩ h30 ?_
      refine xJ_mmaxL hX hB dX7_combine_78 lj_X7_38 jw_maxL_st jw_ma_in jw_maxL_co rfl (by decide) (Nat.le_of_ble_eq_true rfl) (by decide) (by decide) ⟨by decide, by decide⟩ (xRl_min ⟨by decide, by decide⟩ h30) ?_
      obtain ⟨h81, hp⟩ := hp
      refine xJ_l2i hX dX7_combine_81 ?_
      refine xJ_iret hX hB dX7_combine_82 (by decide) (by decide) ⟨_, rfl, h81, hM, rfl, hp⟩
def p_X7_valueFor_6 (F : Nat) (a : Nat) (qc : Nat) (qs : Nat) (nq : Nat) (Q : Int → xMe → Prop) : Nat → Int → Int → Int → Int → Int → Int → xMe → Prop
  | 0, _, _, _, _, _, _, _ => False
  | k + 1, x1, x2, x3, x4, x5, x6, M =>
    (((((nq : Nat) : Int)) ≤ x6 → ((x5 ≤ 0 → Q 0 M) ∧ (0 < x5 → ((0 : Int) ≤ 0 ∧ (0 : Int) < 11) ∧ Q (max 0 (min 9999 (M qs 0))) M))) ∧ (x6 < (((nq : Nat) : Int)) → ((0 : Int) ≤ x6 ∧ (x6 : Int) < nq) ∧ (∀ z23 : Int, z23 = M qc x6.toNat → ((0 : Int) ≤ x6 ∧ (x6 : Int) < nq) ∧ (((M qc x6.toNat) < -8 ∨ -1 < (M qc x6.toNat) → (((((11 : Nat) : Int)) ≤ x5 → (xR (x6 + 1)) ∧ p_X7_valueFor_6 F a qc qs nq Q k x1 x2 x3 x4 x5 (x6 + 1) M) ∧ (x5 < (((11 : Nat) : Int)) → ((0 : Int) ≤ x5 ∧ (x5 : Int) < 11) ∧ (∀ M167 : xMe, M167 = xw M qs x5.toNat z23 → (xR (x5 + 1)) ∧ (xR (x6 + 1)) ∧ p_X7_valueFor_6 F a qc qs nq Q k x1 x2 x3 x4 (x5 + 1) (x6 + 1) M167)))) ∧ ((M qc x6.toNat) = -8 → (((((11 : Nat) : Int)) ≤ x5 → (xR (x6 + 1)) ∧ p_X7_valueFor_6 F a qc qs nq Q k x1 x2 x3 x4 x5 (x6 + 1) M) ∧ (x5 < (((11 : Nat) : Int)) → ((0 : Int) ≤ x5 ∧ (x5 : Int) < 11) ∧ (∀ M167 : xMe, M167 = xw M qs x5.toNat x4 → (xR (x5 + 1)) ∧ (xR (x6 + 1)) ∧ p_X7_valueFor_6 F a qc qs nq Q k x1 x2 x3 x4 (x5 + 1) (x6 + 1) M167)))) ∧ ((M qc x6.toNat) = -7 → (((((11 : Nat) : Int)) ≤ x5 → (xR (x6 + 1)) ∧ p_X7_valueFor_6 F a qc qs nq Q k x1 x2 x3 x4 x5 (x6 + 1) M) ∧ (x5 < (((11 : Nat) : Int)) → ((0 : Int) ≤ x5 ∧ (x5 : Int) < 11) ∧ (∀ M167 : xMe, M167 = xw M qs x5.toNat x3 → (xR (x5 + 1)) ∧ (xR (x6 + 1)) ∧ p_X7_valueFor_6 F a qc qs nq Q k x1 x2 x3 x4 (x5 + 1) (x6 + 1) M167)))) ∧ ((M qc x6.toNat) = -6 → (((((11 : Nat) : Int)) ≤ x5 → (xR (x6 + 1)) ∧ p_X7_valueFor_6 F a qc qs nq Q k x1 x2 x3 x4 x5 (x6 + 1) M) ∧ (x5 < (((11 : Nat) : Int)) → ((0 : Int) ≤ x5 ∧ (x5 : Int) < 11) ∧ (∀ M167 : xMe, M167 = xw M qs x5.toNat x2 → (xR (x5 + 1)) ∧ (xR (x6 + 1)) ∧ p_X7_valueFor_6 F a qc qs nq Q k x1 x2 x3 x4 (x5 + 1) (x6 + 1) M167)))) ∧ ((M qc x6.toNat) = -5 → (((((11 : Nat) : Int)) ≤ x5 → (xR (x6 + 1)) ∧ p_X7_valueFor_6 F a qc qs nq Q k x1 x2 x3 x4 x5 (x6 + 1) M) ∧ (x5 < (((11 : Nat) : Int)) → ((0 : Int) ≤ x5 ∧ (x5 : Int) < 11) ∧ (∀ M167 : xMe, M167 = xw M qs x5.toNat x1 → (xR (x5 + 1)) ∧ (xR (x6 + 1)) ∧ p_X7_valueFor_6 F a qc qs nq Q k x1 x2 x3 x4 (x5 + 1) (x6 + 1) M167)))) ∧ ((M qc x6.toNat) = -4 → ((2 ≤ x5 → (xR (x5 + (-2))) ∧ ((0 : Int) ≤ x6 ∧ (x6 : Int) < nq) ∧ ((0 : Int) ≤ (x5 + (-2)) ∧ ((x5 + (-2)) : Int) < 11) ∧ (xR ((x5 + (-2)) + 1)) ∧ ((0 : Int) ≤ ((x5 + (-2)) + 1) ∧ (((x5 + (-2)) + 1) : Int) < 11) ∧ p_X7_combine (M qc x6.toNat) (M qs (x5 + (-2)).toNat) (M qs ((x5 + (-2)) + 1).toNat) M (fun r141 M141 => (((((11 : Nat) : Int)) ≤ (x5 + (-2)) → (xR (x6 + 1)) ∧ p_X7_valueFor_6 F a qc qs nq Q k x1 x2 x3 x4 (x5 + (-2)) (x6 + 1) M141) ∧ ((x5 + (-2)) < (((11 : Nat) : Int)) → ((0 : Int) ≤ (x5 + (-2)) ∧ ((x5 + (-2)) : Int) < 11) ∧ (∀ M167 : xMe, M167 = xw M141 qs (x5 + (-2)).toNat r141 → (xR ((x5 + (-2)) + 1)) ∧ (xR (x6 + 1)) ∧ p_X7_valueFor_6 F a qc qs nq Q k x1 x2 x3 x4 ((x5 + (-2)) + 1) (x6 + 1) M167))))) ∧ (x5 < 2 → Q 0 M))) ∧ ((M qc x6.toNat) = -3 → ((2 ≤ x5 → (xR (x5 + (-2))) ∧ ((0 : Int) ≤ x6 ∧ (x6 : Int) < nq) ∧ ((0 : Int) ≤ (x5 + (-2)) ∧ ((x5 + (-2)) : Int) < 11) ∧ (xR ((x5 + (-2)) + 1)) ∧ ((0 : Int) ≤ ((x5 + (-2)) + 1) ∧ (((x5 + (-2)) + 1) : Int) < 11) ∧ p_X7_combine (M qc x6.toNat) (M qs (x5 + (-2)).toNat) (M qs ((x5 + (-2)) + 1).toNat) M (fun r141 M141 => (((((11 : Nat) : Int)) ≤ (x5 + (-2)) → (xR (x6 + 1)) ∧ p_X7_valueFor_6 F a qc qs nq Q k x1 x2 x3 x4 (x5 + (-2)) (x6 + 1) M141) ∧ ((x5 + (-2)) < (((11 : Nat) : Int)) → ((0 : Int) ≤ (x5 + (-2)) ∧ ((x5 + (-2)) : Int) < 11) ∧ (∀ M167 : xMe, M167 = xw M141 qs (x5 + (-2)).toNat r141 → (xR ((x5 + (-2)) + 1)) ∧ (xR (x6 + 1)) ∧ p_X7_valueFor_6 F a qc qs nq Q k x1 x2 x3 x4 ((x5 + (-2)) + 1) (x6 + 1) M167))))) ∧ (x5 < 2 → Q 0 M))) ∧ ((M qc x6.toNat) = -2 → ((2 ≤ x5 → (xR (x5 + (-2))) ∧ ((0 : Int) ≤ x6 ∧ (x6 : Int) < nq) ∧ ((0 : Int) ≤ (x5 + (-2)) ∧ ((x5 + (-2)) : Int) < 11) ∧ (xR ((x5 + (-2)) + 1)) ∧ ((0 : Int) ≤ ((x5 + (-2)) + 1) ∧ (((x5 + (-2)) + 1) : Int) < 11) ∧ p_X7_combine (M qc x6.toNat) (M qs (x5 + (-2)).toNat) (M qs ((x5 + (-2)) + 1).toNat) M (fun r141 M141 => (((((11 : Nat) : Int)) ≤ (x5 + (-2)) → (xR (x6 + 1)) ∧ p_X7_valueFor_6 F a qc qs nq Q k x1 x2 x3 x4 (x5 + (-2)) (x6 + 1) M141) ∧ ((x5 + (-2)) < (((11 : Nat) : Int)) → ((0 : Int) ≤ (x5 + (-2)) ∧ ((x5 + (-2)) : Int) < 11) ∧ (∀ M167 : xMe, M167 = xw M141 qs (x5 + (-2)).toNat r141 → (xR ((x5 + (-2)) + 1)) ∧ (xR (x6 + 1)) ∧ p_X7_valueFor_6 F a qc qs nq Q k x1 x2 x3 x4 ((x5 + (-2)) + 1) (x6 + 1) M167))))) ∧ (x5 < 2 → Q 0 M))) ∧ ((M qc x6.toNat) = -1 → ((2 ≤ x5 → (xR (x5 + (-2))) ∧ ((0 : Int) ≤ x6 ∧ (x6 : Int) < nq) ∧ ((0 : Int) ≤ (x5 + (-2)) ∧ ((x5 + (-2)) : Int) < 11) ∧ (xR ((x5 + (-2)) + 1)) ∧ ((0 : Int) ≤ ((x5 + (-2)) + 1) ∧ (((x5 + (-2)) + 1) : Int) < 11) ∧ p_X7_combine (M qc x6.toNat) (M qs (x5 + (-2)).toNat) (M qs ((x5 + (-2)) + 1).toNat) M (fun r141 M141 => (((((11 : Nat) : Int)) ≤ (x5 + (-2)) → (xR (x6 + 1)) ∧ p_X7_valueFor_6 F a qc qs nq Q k x1 x2 x3 x4 (x5 + (-2)) (x6 + 1) M141) ∧ ((x5 + (-2)) < (((11 : Nat) : Int)) → ((0 : Int) ≤ (x5 + (-2)) ∧ ((x5 + (-2)) : Int) < 11) ∧ (∀ M167 : xMe, M167 = xw M141 qs (x5 + (-2)).toNat r141 → (xR ((x5 + (-2)) + 1)) ∧ (xR (x6 + 1)) ∧ p_X7_valueFor_6 F a qc qs nq Q k x1 x2 x3 x4 ((x5 + (-2)) + 1) (x6 + 1) M167))))) ∧ (x5 < 2 → Q 0 M)))))))
def p_X7_valueFor (F : Nat) (a : Nat) (x1 : Int) (x2 : Int) (x3 : Int) (x4 : Int) (qc : Nat) (qs : Nat) (nq : Nat) (M : xMe) (Q : Int → xMe → Prop) : Prop :=
  p_X7_valueFor_6 F a qc qs nq Q F x1 x2 x3 x4 0 0 M
set_option maxHeartbeats 4000000 in
set_option maxRecDepth 100000 in
theorem c_X7_valueFor {G : xGx} {t : xTh} {M : xMe} {F : Nat} {a : Nat} {x1 : Int} {x2 : Int} {x3 : Int} {x4 : Int} {qc : Nat} {qs : Nat} {nq : Nat} {Q : Int → xMe → Prop} (hq : oX7 t a qc qs nq) (hM : xMR M) (hx1 : xR x1) (hx2 : xR x2) (hx3 : xR x3) (hx4 : xR x4) (hp : p_X7_valueFor F a x1 x2 x3 x4 qc qs nq M Q) : xCt G yX7_valueFor cX7_valueFor 8 (some .int) 2 0 0 [vr a, vi x1, vi x2, vi x3, vi x4] t M (fun v t' M' => ∃ r, v = some (vi r) ∧ xR r ∧ xMR M' ∧ t' = t ∧ Q r M') (fun _ _ _ => False) := by
  refine xCt_of (L0 := [vr a, vi x1, vi x2, vi x3, vi x4, vU, vU, vU]) (by decide +kernel) (Nat.le_of_ble_eq_true rfl) rfl ?_
  intro X hX hB
  unfold p_X7_valueFor at hp
  refine xJ_iconst hX dX7_valueFor_0 ?_
  refine xJ_istore hX dX7_valueFor_1 (Nat.le_of_ble_eq_true rfl) rfl ?_
  dsimp only [List.set]
  refine xJ_iconst hX dX7_valueFor_3 ?_
  refine xJ_istore hX dX7_valueFor_4 (Nat.le_of_ble_eq_true rfl) rfl ?_
  dsimp only [List.set]
  have lp6 : ∀ (k : Nat) (x1 : Int) (x2 : Int) (x3 : Int) (x4 : Int) (x5 : Int) (x6 : Int) (M : xMe) (hM : xMR M) (hx1 : xR x1) (hx2 : xR x2) (hx3 : xR x3) (hx4 : xR x4) (hx5 : xR x5) (hx6 : xR x6) (hp : p_X7_valueFor_6 F a qc qs nq Q k x1 x2 x3 x4 x5 x6 M), xJ X 0 0 t M 6 [vr a, vi x1, vi x2, vi x3, vi x4, vi x5, vi x6, vU] [] := by
    intro k
    induction k with
    | zero => intro x1 x2 x3 x4 x5 x6 M hM hx1 hx2 hx3 hx4 hx5 hx6 hp; exact hp.elim
    | succ k ih =>
      intro x1 x2 x3 x4 x5 x6 M hM hx1 hx2 hx3 hx4 hx5 hx6 hp
      unfold p_X7_valueFor_6 at hp
      refine xJ_iload hX dX7_valueFor_6 rfl ?_
      refine xJ_aload_n hX dX7_valueFor_8 rfl ?_
      refine xJ_getR (b := qc) hX dX7_valueFor_9 fd_X7_15 rfl (oX7_k hq) (oX7_rc hq) ?_
      refine xJ_alen hX dX7_valueFor_12 (by rw [(oX7_kc hq)]; decide) (by rw [(oX7_kc hq)]; decide) ?_
      rw [(oX7_nc hq)]
      refine xJ_icmp_ge hX dX7_valueFor_13 (tgt := 177) (by decide) hx6 (oX7_nR hq) (fun c13 => ?_) (fun c13 => ?_)
      · replace hp := hp.1 c13
        refine xJ_iload hX dX7_valueFor_177 rfl ?_
        refine xJ_if_le hX dX7_valueFor_179 (tgt := 201) (by decide) hx5 (fun c179 => ?_) (fun c179 => ?_)
        · replace hp := hp.1 c179
          refine xJ_iconst hX dX7_valueFor_201 ?_
          refine xJ_iret hX hB dX7_valueFor_202 (by decide) (by decide) ⟨_, rfl, ⟨by decide, by decide⟩, hM, rfl, hp⟩
        · replace hp := hp.2 c179
          refine xJ_iconst hX dX7_valueFor_182 ?_
          refine xJ_sipush hX dX7_valueFor_183 rfl ?_
          refine xJ_aload_n hX dX7_valueFor_186 rfl ?_
          refine xJ_getR (b := qs) hX dX7_valueFor_187 fd_X7_9 rfl (oX7_k hq) (oX7_rs hq) ?_
          refine xJ_iconst hX dX7_valueFor_190 ?_
          obtain ⟨h191, hp⟩ := hp
          refine xJ_iald hX dX7_valueFor_191 (oX7_ks hq) h191.1 (xnlt (oX7_ns hq) h191.2) ?_
          refine xJ_mmin hX hB dX7_valueFor_192 lj_X7_22 jw_min_st jw_ma_in jw_min_co rfl (by decide) (Nat.le_of_ble_eq_true rfl) (by decide) (by decide) ⟨by decide, by decide⟩ (hM _ _) ?_
          refine xJ_mmax hX hB dX7_valueFor_195 lj_X7_28 jw_max_st jw_ma_in jw_max_co rfl (by decide) (Nat.le_of_ble_eq_true rfl) (by decide) (by decide) ⟨by decide, by decide⟩ (xR_min ⟨by decide, by decide⟩ (hM _ _)) ?_
          refine xJ_goto hX dX7_valueFor_198 (tgt := 202) (by decide) ?_
          refine xJ_iret hX hB dX7_valueFor_202 (by decide) (by decide) ⟨_, rfl, (xR_max ⟨by decide, by decide⟩ (xR_min ⟨by decide, by decide⟩ (hM _ _))), hM, rfl, hp⟩
      · replace hp := hp.2 c13
        refine xJ_aload_n hX dX7_valueFor_16 rfl ?_
        refine xJ_getR (b := qc) hX dX7_valueFor_17 fd_X7_15 rfl (oX7_k hq) (oX7_rc hq) ?_
        refine xJ_iload hX dX7_valueFor_20 rfl ?_
        obtain ⟨h22, hp⟩ := hp
        refine xJ_iald hX dX7_valueFor_22 (oX7_kc hq) h22.1 (xnlt (oX7_nc hq) h22.2) ?_
        refine xJ_istore hX dX7_valueFor_23 (Nat.le_of_ble_eq_true rfl) rfl ?_
        dsimp only [List.set]
        replace hp := hp _ rfl
        refine xJ_aload_n hX dX7_valueFor_25 rfl ?_
        refine xJ_getR (b := qc) hX dX7_valueFor_26 fd_X7_15 rfl (oX7_k hq) (oX7_rc hq) ?_
        refine xJ_iload hX dX7_valueFor_29 rfl ?_
        obtain ⟨h31, hp⟩ := hp
        refine xJ_iald hX dX7_valueFor_31 (oX7_kc hq) h31.1 (xnlt (oX7_nc hq) h31.2) ?_
        obtain ⟨hpo, hp⟩ := hp
        by_cases hsw32 : (M qc x6.toNat) < -8 ∨ -1 < (M qc x6.toNat)
        · refine xJ_tOut hX dX7_valueFor_32 (hM _ _) hsw32 (tgt := 149) (by decide) ?_
          replace hp := hpo hsw32
          refine xJ_iload hX dX7_valueFor_149 rfl ?_
          refine xJ_aload_n hX dX7_valueFor_151 rfl ?_
          refine xJ_getR (b := qs) hX dX7_valueFor_152 fd_X7_9 rfl (oX7_k hq) (oX7_rs hq) ?_
          refine xJ_alen hX dX7_valueFor_155 (by rw [(oX7_ks hq)]; decide) (by rw [(oX7_ks hq)]; decide) ?_
          rw [(oX7_ns hq)]
          refine xJ_icmp_ge hX dX7_valueFor_156 (tgt := 171) (by decide) hx5 ⟨by decide, by decide⟩ (fun c156 => ?_) (fun c156 => ?_)
          · replace hp := hp.1 c156
            refine xJ_iinc hX dX7_valueFor_171 rfl rfl ?_
            dsimp only [List.set]
            obtain ⟨h171, hp⟩ := hp
            refine xJ_goto hX dX7_valueFor_174 (tgt := 6) (by decide) ?_
            refine xJ_fg 7 ?_
            dsimp only [List.set]
            exact ih _ _ _ _ _ _ _ hM hx1 hx2 hx3 hx4 hx5 h171 hp
          · replace hp := hp.2 c156
            refine xJ_aload_n hX dX7_valueFor_159 rfl ?_
            refine xJ_getR (b := qs) hX dX7_valueFor_160 fd_X7_9 rfl (oX7_k hq) (oX7_rs hq) ?_
            refine xJ_iload hX dX7_valueFor_163 rfl ?_
            refine xJ_iload hX dX7_valueFor_165 rfl ?_
            obtain ⟨h167, hp⟩ := hp
            refine xJ_iastM hX dX7_valueFor_167 (oX7_ks hq) h167.1 (xnlt (oX7_ns hq) h167.2) hM (hM _ _) (fun M167 e167 hM167 => ?_)
            replace hp := hp M167 e167
            refine xJ_iinc hX dX7_valueFor_168 rfl rfl ?_
            dsimp only [List.set]
            obtain ⟨h168, hp⟩ := hp
            refine xJ_iinc hX dX7_valueFor_171 rfl rfl ?_
            dsimp only [List.set]
            obtain ⟨h171, hp⟩ := hp
            refine xJ_goto hX dX7_valueFor_174 (tgt := 6) (by decide) ?_
            refine xJ_fg 7 ?_
            dsimp only [List.set]
            exact ih _ _ _ _ _ _ _ hM167 hx1 hx2 hx3 hx4 h168 h171 hp
        · obtain hc32 | hc32 | hc32 | hc32 | hc32 | hc32 | hc32 | hc32 : (M qc x6.toNat) = -8 ∨ (M qc x6.toNat) = -7 ∨ (M qc x6.toNat) = -6 ∨ (M qc x6.toNat) = -5 ∨ (M qc x6.toNat) = -4 ∨ (M qc x6.toNat) = -3 ∨ (M qc x6.toNat) = -2 ∨ (M qc x6.toNat) = -1 := by omega
          · refine xJ_tIn hX dX7_valueFor_32 (hM _ _) (by omega) (by omega) (off := 66) (by rw [hc32]; rfl) (tgt := 98) (by decide) ?_
            replace hp := hp.1 hc32
            refine xJ_iload hX dX7_valueFor_98 rfl ?_
            refine xJ_istore hX dX7_valueFor_100 (Nat.le_of_ble_eq_true rfl) rfl ?_
            dsimp only [List.set]
            refine xJ_goto hX dX7_valueFor_102 (tgt := 149) (by decide) ?_
            refine xJ_iload hX dX7_valueFor_149 rfl ?_
            refine xJ_aload_n hX dX7_valueFor_151 rfl ?_
            refine xJ_getR (b := qs) hX dX7_valueFor_152 fd_X7_9 rfl (oX7_k hq) (oX7_rs hq) ?_
            refine xJ_alen hX dX7_valueFor_155 (by rw [(oX7_ks hq)]; decide) (by rw [(oX7_ks hq)]; decide) ?_
            rw [(oX7_ns hq)]
            refine xJ_icmp_ge hX dX7_valueFor_156 (tgt := 171) (by decide) hx5 ⟨by decide, by decide⟩ (fun c156 => ?_) (fun c156 => ?_)
            · replace hp := hp.1 c156
              refine xJ_iinc hX dX7_valueFor_171 rfl rfl ?_
              dsimp only [List.set]
              obtain ⟨h171, hp⟩ := hp
              refine xJ_goto hX dX7_valueFor_174 (tgt := 6) (by decide) ?_
              refine xJ_fg 7 ?_
              dsimp only [List.set]
              exact ih _ _ _ _ _ _ _ hM hx1 hx2 hx3 hx4 hx5 h171 hp
            · replace hp := hp.2 c156
              refine xJ_aload_n hX dX7_valueFor_159 rfl ?_
              refine xJ_getR (b := qs) hX dX7_valueFor_160 fd_X7_9 rfl (oX7_k hq) (oX7_rs hq) ?_
              refine xJ_iload hX dX7_valueFor_163 rfl ?_
              refine xJ_iload hX dX7_valueFor_165 rfl ?_
              obtain ⟨h167, hp⟩ := hp
              refine xJ_iastM hX dX7_valueFor_167 (oX7_ks hq) h167.1 (xnlt (oX7_ns hq) h167.2) hM hx4 (fun M167 e167 hM167 => ?_)
              replace hp := hp M167 e167
              refine xJ_iinc hX dX7_valueFor_168 rfl rfl ?_
              dsimp only [List.set]
              obtain ⟨h168, hp⟩ := hp
              refine xJ_iinc hX dX7_valueFor_171 rfl rfl ?_
              dsimp only [List.set]
              obtain ⟨h171, hp⟩ := hp
              refine xJ_goto hX dX7_valueFor_174 (tgt := 6) (by decide) ?_
              refine xJ_fg 7 ?_
              dsimp only [List.set]
              exact ih _ _ _ _ _ _ _ hM167 hx1 hx2 hx3 hx4 h168 h171 hp
          · refine xJ_tIn hX dX7_valueFor_32 (hM _ _) (by omega) (by omega) (off := 60) (by rw [hc32]; rfl) (tgt := 92) (by decide) ?_
            replace hp := hp.2.1 hc32
            refine xJ_iload_n hX dX7_valueFor_92 rfl ?_
            refine xJ_istore hX dX7_valueFor_93 (Nat.le_of_ble_eq_true rfl) rfl ?_
            dsimp only [List.set]
            refine xJ_goto hX dX7_valueFor_95 (tgt := 149) (by decide) ?_
            refine xJ_iload hX dX7_valueFor_149 rfl ?_
            refine xJ_aload_n hX dX7_valueFor_151 rfl ?_
            refine xJ_getR (b := qs) hX dX7_valueFor_152 fd_X7_9 rfl (oX7_k hq) (oX7_rs hq) ?_
            refine xJ_alen hX dX7_valueFor_155 (by rw [(oX7_ks hq)]; decide) (by rw [(oX7_ks hq)]; decide) ?_
            rw [(oX7_ns hq)]
            refine xJ_icmp_ge hX dX7_valueFor_156 (tgt := 171) (by decide) hx5 ⟨by decide, by decide⟩ (fun c156 => ?_) (fun c156 => ?_)
            · replace hp := hp.1 c156
              refine xJ_iinc hX dX7_valueFor_171 rfl rfl ?_
              dsimp only [List.set]
              obtain ⟨h171, hp⟩ := hp
              refine xJ_goto hX dX7_valueFor_174 (tgt := 6) (by decide) ?_
              refine xJ_fg 7 ?_
              dsimp only [List.set]
              exact ih _ _ _ _ _ _ _ hM hx1 hx2 hx3 hx4 hx5 h171 hp
            · replace hp := hp.2 c156
              refine xJ_aload_n hX dX7_valueFor_159 rfl ?_
              refine xJ_getR (b := qs) hX dX7_valueFor_160 fd_X7_9 rfl (oX7_k hq) (oX7_rs hq) ?_
              refine xJ_iload hX dX7_valueFor_163 rfl ?_
              refine xJ_iload hX dX7_valueFor_165 rfl ?_
              obtain ⟨h167, hp⟩ := hp
              refine xJ_iastM hX dX7_valueFor_167 (oX7_ks hq) h167.1 (xnlt (oX7_ns hq) h167.2) hM hx3 (fun M167 e167 hM167 => ?_)
              replace hp := hp M167 e167
              refine xJ_iinc hX dX7_valueFor_168 rfl rfl ?_
              dsimp only [List.set]
              obtain ⟨h168, hp⟩ := hp
              refine xJ_iinc hX dX7_valueFor_171 rfl rfl ?_
              dsimp only [List.set]
              obtain ⟨h171, hp⟩ := hp
              refine xJ_goto hX dX7_valueFor_174 (tgt := 6) (by decide) ?_
              refine xJ_fg 7 ?_
              dsimp only [List.set]
              exact ih _ _ _ _ _ _ _ hM167 hx1 hx2 hx3 hx4 h168 h171 hp
          · refine xJ_tIn hX dX7_valueFor_32 (hM _ _) (by omega) (by omega) (off := 54) (by rw [hc32]; rfl) (tgt := 86) (by decide) ?_
            replace hp := hp.2.2.1 hc32
            refine xJ_iload_n hX dX7_valueFor_86 rfl ?_
            refine xJ_istore hX dX7_valueFor_87 (Nat.le_of_ble_eq_true rfl) rfl ?_
            dsimp only [List.set]
            refine xJ_goto hX dX7_valueFor_89 (tgt := 149) (by decide) ?_
            refine xJ_iload hX dX7_valueFor_149 rfl ?_
            refine xJ_aload_n hX dX7_valueFor_151 rfl ?_
            refine xJ_getR (b := qs) hX dX7_valueFor_152 fd_X7_9 rfl (oX7_k hq) (oX7_rs hq) ?_
            refine xJ_alen hX dX7_valueFor_155 (by rw [(oX7_ks hq)]; decide) (by rw [(oX7_ks hq)]; decide) ?_
            rw [(oX7_ns hq)]
            refine xJ_icmp_ge hX dX7_valueFor_156 (tgt := 171) (by decide) hx5 ⟨by decide, by decide⟩ (fun c156 => ?_) (fun c156 => ?_)
            · replace hp := hp.1 c156
              refine xJ_iinc hX dX7_valueFor_171 rfl rfl ?_
              dsimp only [List.set]
              obtain ⟨h171, hp⟩ := hp
              refine xJ_goto hX dX7_valueFor_174 (tgt := 6) (by decide) ?_
              refine xJ_fg 7 ?_
              dsimp only [List.set]
              exact ih _ _ _ _ _ _ _ hM hx1 hx2 hx3 hx4 hx5 h171 hp
            · replace hp := hp.2 c156
              refine xJ_aload_n hX dX7_valueFor_159 rfl ?_
              refine xJ_getR (b := qs) hX dX7_valueFor_160 fd_X7_9 rfl (oX7_k hq) (oX7_rs hq) ?_
              refine xJ_iload hX dX7_valueFor_163 rfl ?_
              refine xJ_iload hX dX7_valueFor_165 rfl ?_
              obtain ⟨h167, hp⟩ := hp
              refine xJ_iastM hX dX7_valueFor_167 (oX7_ks hq) h167.1 (xnlt (oX7_ns hq) h167.2) hM hx2 (fun M167 e167 hM167 => ?_)
              replace hp := hp M167 e167
              refine xJ_iinc hX dX7_valueFor_168 rfl rfl ?_
              dsimp only [List.set]
              obtain ⟨h168, hp⟩ := hp
              refine xJ_iinc hX dX7_valueFor_171 rfl rfl ?_
              dsimp only [List.set]
              obtain ⟨h171, hp⟩ := hp
              refine xJ_goto hX dX7_valueFor_174 (tgt := 6) (by decide) ?_
              refine xJ_fg 7 ?_
              dsimp only [List.set]
              exact ih _ _ _ _ _ _ _ hM167 hx1 hx2 hx3 hx4 h168 h171 hp
          · refine xJ_tIn hX dX7_valueFor_32 (hM _ _) (by omega) (by omega) (off := 48) (by rw [hc32]; rfl) (tgt := 80) (by decide) ?_
            replace hp := hp.2.2.2.1 hc32
            refine xJ_iload_n hX dX7_valueFor_80 rfl ?_
            refine xJ_istore hX dX7_valueFor_81 (Nat.le_of_ble_eq_true rfl) rfl ?_
            dsimp only [List.set]
            refine xJ_goto hX dX7_valueFor_83 (tgt := 149) (by decide) ?_
            refine xJ_iload hX dX7_valueFor_149 rfl ?_
            refine xJ_aload_n hX dX7_valueFor_151 rfl ?_
            refine xJ_getR (b := qs) hX dX7_valueFor_152 fd_X7_9 rfl (oX7_k hq) (oX7_rs hq) ?_
            refine xJ_alen hX dX7_valueFor_155 (by rw [(oX7_ks hq)]; decide) (by rw [(oX7_ks hq)]; decide) ?_
            rw [(oX7_ns hq)]
            refine xJ_icmp_ge hX dX7_valueFor_156 (tgt := 171) (by decide) hx5 ⟨by decide, by decide⟩ (fun c156 => ?_) (fun c156 => ?_)
            · replace hp := hp.1 c156
              refine xJ_iinc hX dX7_valueFor_171 rfl rfl ?_
              dsimp only [List.set]
              obtain ⟨h171, hp⟩ := hp
              refine xJ_goto hX dX7_valueFor_174 (tgt := 6) (by decide) ?_
              refine xJ_fg 7 ?_
              dsimp only [List.set]
              exact ih _ _ _ _ _ _ _ hM hx1 hx2 hx3 hx4 hx5 h171 hp
            · replace hp := hp.2 c156
              refine xJ_aload_n hX dX7_valueFor_159 rfl ?_
              refine xJ_getR (b := qs) hX dX7_valueFor_160 fd_X7_9 rfl (oX7_k hq) (oX7_rs hq) ?_
              refine xJ_iload hX dX7_valueFor_163 rfl ?_
              refine xJ_iload hX dX7_valueFor_165 rfl ?_
              obtain ⟨h167, hp⟩ := hp
              refine xJ_iastM hX dX7_valueFor_167 (oX7_ks hq) h167.1 (xnlt (oX7_ns hq) h167.2) hM hx1 (fun M167 e167 hM167 => ?_)
              replace hp := hp M167 e167
              refine xJ_iinc hX dX7_valueFor_168 rfl rfl ?_
              dsimp only [List.set]
              obtain ⟨h168, hp⟩ := hp
              refine xJ_iinc hX dX7_valueFor_171 rfl rfl ?_
              dsimp only [List.set]
              obtain ⟨h171, hp⟩ := hp
              refine xJ_goto hX dX7_valueFor_174 (tgt := 6) (by decide) ?_
              refine xJ_fg 7 ?_
              dsimp only [List.set]
              exact ih _ _ _ _ _ _ _ hM167 hx1 hx2 hx3 hx4 h168 h171 hp
          · refine xJ_tIn hX dX7_valueFor_32 (hM _ _) (by omega) (by omega) (off := 73) (by rw [hc32]; rfl) (tgt := 105) (by decide) ?_
            replace hp := hp.2.2.2.2.1 hc32
            refine xJ_iload hX dX7_valueFor_105 rfl ?_
            refine xJ_iconst hX dX7_valueFor_107 ?_
            refine xJ_icmp_ge hX dX7_valueFor_108 (tgt := 113) (by decide) hx5 ⟨by decide, by decide⟩ (fun c108 => ?_) (fun c108 => ?_)
            · replace hp := hp.1 c108
              refine xJ_iinc hX dX7_valueFor_113 rfl rfl ?_
              dsimp only [List.set]
              obtain ⟨h113, hp⟩ := hp
              refine xJ_aload_n hX dX7_valueFor_116 rfl ?_
              refine xJ_getR (b := qc) hX dX7_valueFor_117 fd_X7_15 rfl (oX7_k hq) (oX7_rc hq) ?_
              refine xJ_iload hX dX7_valueFor_120 rfl ?_
              obtain ⟨h122, hp⟩ := hp
              refine xJ_iald hX dX7_valueFor_122 (oX7_kc hq) h122.1 (xnlt (oX7_nc hq) h122.2) ?_
              refine xJ_aload_n hX dX7_valueFor_123 rfl ?_
              refine xJ_getR (b := qs) hX dX7_valueFor_124 fd_X7_9 rfl (oX7_k hq) (oX7_rs hq) ?_
              refine xJ_iload hX dX7_valueFor_127 rfl ?_
              obtain ⟨h129, hp⟩ := hp
              refine xJ_iald hX dX7_valueFor_129 (oX7_ks hq) h129.1 (xnlt (oX7_ns hq) h129.2) ?_
              refine xJ_i2l hX dX7_valueFor_130 (hM _ _) ?_
              refine xJ_aload_n hX dX7_valueFor_131 rfl ?_
              refine xJ_getR (b := qs) hX dX7_valueFor_132 fd_X7_9 rfl (oX7_k hq) (oX7_rs hq) ?_
              refine xJ_iload hX dX7_valueFor_135 rfl ?_
              refine xJ_iconst hX dX7_valueFor_137 ?_
              refine xJ_iadd hX dX7_valueFor_138 ?_
              obtain ⟨h138, hp⟩ := hp
              obtain ⟨h139, hp⟩ := hp
              refine xJ_iald hX dX7_valueFor_139 (oX7_ks hq) h139.1 (xnlt (oX7_ns hq) h139.2) ?_
              refine xJ_i2l hX dX7_valueFor_140 (hM _ _) ?_
              refine xJ_callS (As := [_, _, _]) hX hB dX7_valueFor_141 lk_X7_18 sm_X7_combine (c_X7_combine  hM (hM _ _) (xRl_of (hM _ _)) (xRl_of (hM _ _)) hp) (by decide) rfl rfl rfl (Nat.le_of_ble_eq_true rfl) (by decide) (by decide) (fun v t9 M141 hv => ?_) (fun _ _ _ q => q.elim)
              obtain ⟨r141, rfl, h141, hM141, ht9, hp⟩ := hv
              replace ht9 := ht9.symm
              subst ht9
              dsimp only [Option.toList, List.cons_append, List.nil_append]
              refine xJ_istore hX dX7_valueFor_144 (Nat.le_of_ble_eq_true rfl) rfl ?_
              dsimp only [List.set]
              refine xJ_goto hX dX7_valueFor_146 (tgt := 149) (by decide) ?_
              refine xJ_iload hX dX7_valueFor_149 rfl ?_
              refine xJ_aload_n hX dX7_valueFor_151 rfl ?_
              refine xJ_getR (b := qs) hX dX7_valueFor_152 fd_X7_9 rfl (oX7_k hq) (oX7_rs hq) ?_
              refine xJ_alen hX dX7_valueFor_155 (by rw [(oX7_ks hq)]; decide) (by rw [(oX7_ks hq)]; decide) ?_
              rw [(oX7_ns hq)]
              refine xJ_icmp_ge hX dX7_valueFor_156 (tgt := 171) (by decide) h113 ⟨by decide, by decide⟩ (fun c156 => ?_) (fun c156 => ?_)
              · replace hp := hp.1 c156
                refine xJ_iinc hX dX7_valueFor_171 rfl rfl ?_
                dsimp only [List.set]
                obtain ⟨h171, hp⟩ := hp
                refine xJ_goto hX dX7_valueFor_174 (tgt := 6) (by decide) ?_
                refine xJ_fg 7 ?_
                dsimp only [List.set]
                exact ih _ _ _ _ _ _ _ hM141 hx1 hx2 hx3 hx4 h113 h171 hp
              · replace hp := hp.2 c156
                refine xJ_aload_n hX dX7_valueFor_159 rfl ?_
                refine xJ_getR (b := qs) hX dX7_valueFor_160 fd_X7_9 rfl (oX7_k hq) (oX7_rs hq) ?_
                refine xJ_iload hX dX7_valueFor_163 rfl ?_
                refine xJ_iload hX dX7_valueFor_165 rfl ?_
                obtain ⟨h167, hp⟩ := hp
                refine xJ_iastM hX dX7_valueFor_167 (oX7_ks hq) h167.1 (xnlt (oX7_ns hq) h167.2) hM141 h141 (fun M167 e167 hM167 => ?_)
                replace hp := hp M167 e167
                refine xJ_iinc hX dX7_valueFor_168 rfl rfl ?_
                dsimp only [List.set]
                obtain ⟨h168, hp⟩ := hp
                refine xJ_iinc hX dX7_valueFor_171 rfl rfl ?_
                dsimp only [List.set]
                obtain ⟨h171, hp⟩ := hp
                refine xJ_goto hX dX7_valueFor_174 (tgt := 6) (by decide) ?_
                refine xJ_fg 7 ?_
                dsimp only [List.set]
                exact ih _ _ _ _ _ _ _ hM167 hx1 hx2 hx3 hx4 h168 h171 hp
            · replace hp := hp.2 c108
              refine xJ_iconst hX dX7_valueFor_111 ?_
              refine xJ_iret hX hB dX7_valueFor_112 (by decide) (by decide) ⟨_, rfl, ⟨by decide, by decide⟩, hM, rfl, hp⟩
          · refine xJ_tIn hX dX7_valueFor_32 (hM _ _) (by omega) (by omega) (off := 73) (by rw [hc32]; rfl) (tgt := 105) (by decide) ?_
            replace hp := hp.2.2.2.2.2.1 hc32
            refine xJ_iload hX dX7_valueFor_105 rfl ?_
            refine xJ_iconst hX dX7_valueFor_107 ?_
            refine xJ_icmp_ge hX dX7_valueFor_108 (tgt := 113) (by decide) hx5 ⟨by decide, by decide⟩ (fun c108 => ?_) (fun c108 => ?_)
            · replace hp := hp.1 c108
              refine xJ_iinc hX dX7_valueFor_113 rfl rfl ?_
              dsimp only [List.set]
              obtain ⟨h113, hp⟩ := hp
              refine xJ_aload_n hX dX7_valueFor_116 rfl ?_
              refine xJ_getR (b := qc) hX dX7_valueFor_117 fd_X7_15 rfl (oX7_k hq) (oX7_rc hq) ?_
              refine xJ_iload hX dX7_valueFor_120 rfl ?_
              obtain ⟨h122, hp⟩ := hp
              refine xJ_iald hX dX7_valueFor_122 (oX7_kc hq) h122.1 (xnlt (oX7_nc hq) h122.2) ?_
              refine xJ_aload_n hX dX7_valueFor_123 rfl ?_
              refine xJ_getR (b := qs) hX dX7_valueFor_124 fd_X7_9 rfl (oX7_k hq) (oX7_rs hq) ?_
              refine xJ_iload hX dX7_valueFor_127 rfl ?_
              obtain ⟨h129, hp⟩ := hp
              refine xJ_iald hX dX7_valueFor_129 (oX7_ks hq) h129.1 (xnlt (oX7_ns hq) h129.2) ?_
              refine xJ_i2l hX dX7_valueFor_130 (hM _ _) ?_
              refine xJ_aload_n hX dX7_valueFor_131 rfl ?_
              refine xJ_getR (b := qs) hX dX7_valueFor_132 fd_X7_9 rfl (oX7_k hq) (oX7_rs hq) ?_
              refine xJ_iload hX dX7_valueFor_135 rfl ?_
              refine xJ_iconst hX dX7_valueFor_137 ?_
              refine xJ_iadd hX dX7_valueFor_138 ?_
              obtain ⟨h138, hp⟩ := hp
              obtain ⟨h139, hp⟩ := hp
              refine xJ_iald hX dX7_valueFor_139 (oX7_ks hq) h139.1 (xnlt (oX7_ns hq) h139.2) ?_
              refine xJ_i2l hX dX7_valueFor_140 (hM _ _) ?_
              refine xJ_callS (As := [_, _, _]) hX hB dX7_valueFor_141 lk_X7_18 sm_X7_combine (c_X7_combine  hM (hM _ _) (xRl_of (hM _ _)) (xRl_of (hM _ _)) hp) (by decide) rfl rfl rfl (Nat.le_of_ble_eq_true rfl) (by decide) (by decide) (fun v t9 M141 hv => ?_) (fun _ _ _ q => q.elim)
              obtain ⟨r141, rfl, h141, hM141, ht9, hp⟩ := hv
              replace ht9 := ht9.symm
              subst ht9
              dsimp only [Option.toList, List.cons_append, List.nil_append]
              refine xJ_istore hX dX7_valueFor_144 (Nat.le_of_ble_eq_true rfl) rfl ?_
              dsimp only [List.set]
              refine xJ_goto hX dX7_valueFor_146 (tgt := 149) (by decide) ?_
              refine xJ_iload hX dX7_valueFor_149 rfl ?_
              refine xJ_aload_n hX dX7_valueFor_151 rfl ?_
              refine xJ_getR (b := qs) hX dX7_valueFor_152 fd_X7_9 rfl (oX7_k hq) (oX7_rs hq) ?_
              refine xJ_alen hX dX7_valueFor_155 (by rw [(oX7_ks hq)]; decide) (by rw [(oX7_ks hq)]; decide) ?_
              rw [(oX7_ns hq)]
              refine xJ_icmp_ge hX dX7_valueFor_156 (tgt := 171) (by decide) h113 ⟨by decide, by decide⟩ (fun c156 => ?_) (fun c156 => ?_)
              · replace hp := hp.1 c156
                refine xJ_iinc hX dX7_valueFor_171 rfl rfl ?_
                dsimp only [List.set]
                obtain ⟨h171, hp⟩ := hp
                refine xJ_goto hX dX7_valueFor_174 (tgt := 6) (by decide) ?_
                refine xJ_fg 7 ?_
                dsimp only [List.set]
                exact ih _ _ _ _ _ _ _ hM141 hx1 hx2 hx3 hx4 h113 h171 hp
              · replace hp := hp.2 c156
                refine xJ_aload_n hX dX7_valueFor_159 rfl ?_
                refine xJ_getR (b := qs) hX dX7_valueFor_160 fd_X7_9 rfl (oX7_k hq) (oX7_rs hq) ?_
                refine xJ_iload hX dX7_valueFor_163 rfl ?_
                refine xJ_iload hX dX7_valueFor_165 rfl ?_
                obtain ⟨h167, hp⟩ := hp
                refine xJ_iastM hX dX7_valueFor_167 (oX7_ks hq) h167.1 (xnlt (oX7_ns hq) h167.2) hM141 h141 (fun M167 e167 hM167 => ?_)
                replace hp := hp M167 e167
                refine xJ_iinc hX dX7_valueFor_168 rfl rfl ?_
                dsimp only [List.set]
                obtain ⟨h168, hp⟩ := hp
                refine xJ_iinc hX dX7_valueFor_171 rfl rfl ?_
                dsimp only [List.set]
                obtain ⟨h171, hp⟩ := hp
                refine xJ_goto hX dX7_valueFor_174 (tgt := 6) (by decide) ?_
                refine xJ_fg 7 ?_
                dsimp only [List.set]
                exact ih _ _ _ _ _ _ _ hM167 hx1 hx2 hx3 hx4 h168 h171 hp
            · replace hp := hp.2 c108
              refine xJ_iconst hX dX7_valueFor_111 ?_
              refine xJ_iret hX hB dX7_valueFor_112 (by decide) (by decide) ⟨_, rfl, ⟨by decide, by decide⟩, hM, rfl, hp⟩
          · refine xJ_tIn hX dX7_valueFor_32 (hM _ _) (by omega) (by omega) (off := 73) (by rw [hc32]; rfl) (tgt := 105) (by decide) ?_
            replace hp := hp.2.2.2.2.2.2.1 hc32
            refine xJ_iload hX dX7_valueFor_105 rfl ?_
            refine xJ_iconst hX dX7_valueFor_107 ?_
            refine xJ_icmp_ge hX dX7_valueFor_108 (tgt := 113) (by decide) hx5 ⟨by decide, by decide⟩ (fun c108 => ?_) (fun c108 => ?_)
            · replace hp := hp.1 c108
              refine xJ_iinc hX dX7_valueFor_113 rfl rfl ?_
              dsimp only [List.set]
              obtain ⟨h113, hp⟩ := hp
              refine xJ_aload_n hX dX7_valueFor_116 rfl ?_
              refine xJ_getR (b := qc) hX dX7_valueFor_117 fd_X7_15 rfl (oX7_k hq) (oX7_rc hq) ?_
              refine xJ_iload hX dX7_valueFor_120 rfl ?_
              obtain ⟨h122, hp⟩ := hp
              refine xJ_iald hX dX7_valueFor_122 (oX7_kc hq) h122.1 (xnlt (oX7_nc hq) h122.2) ?_
              refine xJ_aload_n hX dX7_valueFor_123 rfl ?_
              refine xJ_getR (b := qs) hX dX7_valueFor_124 fd_X7_9 rfl (oX7_k hq) (oX7_rs hq) ?_
              refine xJ_iload hX dX7_valueFor_127 rfl ?_
              obtain ⟨h129, hp⟩ := hp
              refine xJ_iald hX dX7_valueFor_129 (oX7_ks hq) h129.1 (xnlt (oX7_ns hq) h129.2) ?_
              refine xJ_i2l hX dX7_valueFor_130 (hM _ _) ?_
              refine xJ_aload_n hX dX7_valueFor_131 rfl ?_
              refine xJ_getR (b := qs) hX dX7_valueFor_132 fd_X7_9 rfl (oX7_k hq) (oX7_rs hq) ?_
              refine xJ_iload hX dX7_valueFor_135 rfl ?_
              refine xJ_iconst hX dX7_valueFor_137 ?_
              refine xJ_iadd hX dX7_valueFor_138 ?_
              obtain ⟨h138, hp⟩ := hp
              obtain ⟨h139, hp⟩ := hp
              refine xJ_iald hX dX7_valueFor_139 (oX7_ks hq) h139.1 (xnlt (oX7_ns hq) h139.2) ?_
              refine xJ_i2l hX dX7_valueFor_140 (hM _ _) ?_
              refine xJ_callS (As := [_, _, _]) hX hB dX7_valueFor_141 lk_X7_18 sm_X7_combine (c_X7_combine  hM (hM _ _) (xRl_of (hM _ _)) (xRl_of (hM _ _)) hp) (by decide) rfl rfl rfl (Nat.le_of_ble_eq_true rfl) (by decide) (by decide) (fun v t9 M141 hv => ?_) (fun _ _ _ q => q.elim)
              obtain ⟨r141, rfl, h141, hM141, ht9, hp⟩ := hv
              replace ht9 := ht9.symm
              subst ht9
              dsimp only [Option.toList, List.cons_append, List.nil_append]
              refine xJ_istore hX dX7_valueFor_144 (Nat.le_of_ble_eq_true rfl) rfl ?_
              dsimp only [List.set]
              refine xJ_goto hX dX7_valueFor_146 (tgt := 149) (by decide) ?_
              refine xJ_iload hX dX7_valueFor_149 rfl ?_
              refine xJ_aload_n hX dX7_valueFor_151 rfl ?_
              refine xJ_getR (b := qs) hX dX7_valueFor_152 fd_X7_9 rfl (oX7_k hq) (oX7_rs hq) ?_
              refine xJ_alen hX dX7_valueFor_155 (by rw [(oX7_ks hq)]; decide) (by rw [(oX7_ks hq)]; decide) ?_
              rw [(oX7_ns hq)]
              refine xJ_icmp_ge hX dX7_valueFor_156 (tgt := 171) (by decide) h113 ⟨by decide, by decide⟩ (fun c156 => ?_) (fun c156 => ?_)
              · replace hp := hp.1 c156
                refine xJ_iinc hX dX7_valueFor_171 rfl rfl ?_
                dsimp only [List.set]
                obtain ⟨h171, hp⟩ := hp
                refine xJ_goto hX dX7_valueFor_174 (tgt := 6) (by decide) ?_
                refine xJ_fg 7 ?_
                dsimp only [List.set]
                exact ih _ _ _ _ _ _ _ hM141 hx1 hx2 hx3 hx4 h113 h171 hp
              · replace hp := hp.2 c156
                refine xJ_aload_n hX dX7_valueFor_159 rfl ?_
                refine xJ_getR (b := qs) hX dX7_valueFor_160 fd_X7_9 rfl (oX7_k hq) (oX7_rs hq) ?_
                refine xJ_iload hX dX7_valueFor_163 rfl ?_
                refine xJ_iload hX dX7_valueFor_165 rfl ?_
                obtain ⟨h167, hp⟩ := hp
                refine xJ_iastM hX dX7_valueFor_167 (oX7_ks hq) h167.1 (xnlt (oX7_ns hq) h167.2) hM141 h141 (fun M167 e167 hM167 => ?_)
                replace hp := hp M167 e167
                refine xJ_iinc hX dX7_valueFor_168 rfl rfl ?_
                dsimp only [List.set]
                obtain ⟨h168, hp⟩ := hp
                refine xJ_iinc hX dX7_valueFor_171 rfl rfl ?_
                dsimp only [List.set]
                obtain ⟨h171, hp⟩ := hp
                refine xJ_goto hX dX7_valueFor_174 (tgt := 6) (by decide) ?_
                refine xJ_fg 7 ?_
                dsimp only [List.set]
                exact ih _ _ _ _ _ _ _ hM167 hx1 hx2 hx3 hx4 h168 h171 hp
            · replace hp := hp.2 c108
              refine xJ_iconst hX dX7_valueFor_111 ?_
              refine xJ_iret hX hB dX7_valueFor_112 (by decide) (by decide) ⟨_, rfl, ⟨by decide, by decide⟩, hM, rfl, hp⟩
          · refine xJ_tIn hX dX7_valueFor_32 (hM _ _) (by omega) (by omega) (off := 73) (by rw [hc32]; rfl) (tgt := 105) (by decide) ?_
            replace hp := hp.2.2.2.2.2.2.2 hc32
            refine xJ_iload hX dX7_valueFor_105 rfl ?_
            refine xJ_iconst hX dX7_valueFor_107 ?_
            refine xJ_icmp_ge hX dX7_valueFor_108 (tgt := 113) (by decide) hx5 ⟨by decide, by decide⟩ (fun c108 => ?_) (fun c108 => ?_)
            · replace hp := hp.1 c108
              refine xJ_iinc hX dX7_valueFor_113 rfl rfl ?_
              dsimp only [List.set]
              obtain ⟨h113, hp⟩ := hp
              refine xJ_aload_n hX dX7_valueFor_116 rfl ?_
              refine xJ_getR (b := qc) hX dX7_valueFor_117 fd_X7_15 rfl (oX7_k hq) (oX7_rc hq) ?_
              refine xJ_iload hX dX7_valueFor_120 rfl ?_
              obtain ⟨h122, hp⟩ := hp
              refine xJ_iald hX dX7_valueFor_122 (oX7_kc hq) h122.1 (xnlt (oX7_nc hq) h122.2) ?_
              refine xJ_aload_n hX dX7_valueFor_123 rfl ?_
              refine xJ_getR (b := qs) hX dX7_valueFor_124 fd_X7_9 rfl (oX7_k hq) (oX7_rs hq) ?_
              refine xJ_iload hX dX7_valueFor_127 rfl ?_
              obtain ⟨h129, hp⟩ := hp
              refine xJ_iald hX dX7_valueFor_129 (oX7_ks hq) h129.1 (xnlt (oX7_ns hq) h129.2) ?_
              refine xJ_i2l hX dX7_valueFor_130 (hM _ _) ?_
              refine xJ_aload_n hX dX7_valueFor_131 rfl ?_
              refine xJ_getR (b := qs) hX dX7_valueFor_132 fd_X7_9 rfl (oX7_k hq) (oX7_rs hq) ?_
              refine xJ_iload hX dX7_valueFor_135 rfl ?_
              refine xJ_iconst hX dX7_valueFor_137 ?_
              refine xJ_iadd hX dX7_valueFor_138 ?_
              obtain ⟨h138, hp⟩ := hp
              obtain ⟨h139, hp⟩ := hp
              refine xJ_iald hX dX7_valueFor_139 (oX7_ks hq) h139.1 (xnlt (oX7_ns hq) h139.2) ?_
              refine xJ_i2l hX dX7_valueFor_140 (hM _ _) ?_
              refine xJ_callS (As := [_, _, _]) hX hB dX7_valueFor_141 lk_X7_18 sm_X7_combine (c_X7_combine  hM (hM _ _) (xRl_of (hM _ _)) (xRl_of (hM _ _)) hp) (by decide) rfl rfl rfl (Nat.le_of_ble_eq_true rfl) (by decide) (by decide) (fun v t9 M141 hv => ?_) (fun _ _ _ q => q.elim)
              obtain ⟨r141, rfl, h141, hM141, ht9, hp⟩ := hv
              replace ht9 := ht9.symm
              subst ht9
              dsimp only [Option.toList, List.cons_append, List.nil_append]
              refine xJ_istore hX dX7_valueFor_144 (Nat.le_of_ble_eq_true rfl) rfl ?_
              dsimp only [List.set]
              refine xJ_goto hX dX7_valueFor_146 (tgt := 149) (by decide) ?_
              refine xJ_iload hX dX7_valueFor_149 rfl ?_
              refine xJ_aload_n hX dX7_valueFor_151 rfl ?_
              refine xJ_getR (b := qs) hX dX7_valueFor_152 fd_X7_9 rfl (oX7_k hq) (oX7_rs hq) ?_
              refine xJ_alen hX dX7_valueFor_155 (by rw [(oX7_ks hq)]; decide) (by rw [(oX7_ks hq)]; decide) ?_
              rw [(oX7_ns hq)]
              refine xJ_icmp_ge hX dX7_valueFor_156 (tgt := 171) (by decide) h113 ⟨by decide, by decide⟩ (fun c156 => ?_) (fun c156 => ?_)
              · replace hp := hp.1 c156
                refine xJ_iinc hX dX7_valueFor_171 rfl rfl ?_
                dsimp only [List.set]
                obtain ⟨h171, hp⟩ := hp
                refine xJ_goto hX dX7_valueFor_174 (tgt := 6) (by decide) ?_
                refine xJ_fg 7 ?_
                dsimp only [List.set]
                exact ih _ _ _ _ _ _ _ hM141 hx1 hx2 hx3 hx4 h113 h171 hp
              · replace hp := hp.2 c156
                refine xJ_aload_n hX dX7_valueFor_159 rfl ?_
                refine xJ_getR (b := qs) hX dX7_valueFor_160 fd_X7_9 rfl (oX7_k hq) (oX7_rs hq) ?_
                refine xJ_iload hX dX7_valueFor_163 rfl ?_
                refine xJ_iload hX dX7_valueFor_165 rfl ?_
                obtain ⟨h167, hp⟩ := hp
                refine xJ_iastM hX dX7_valueFor_167 (oX7_ks hq) h167.1 (xnlt (oX7_ns hq) h167.2) hM141 h141 (fun M167 e167 hM167 => ?_)
                replace hp := hp M167 e167
                refine xJ_iinc hX dX7_valueFor_168 rfl rfl ?_
                dsimp only [List.set]
                obtain ⟨h168, hp⟩ := hp
                refine xJ_iinc hX dX7_valueFor_171 rfl rfl ?_
                dsimp only [List.set]
                obtain ⟨h171, hp⟩ := hp
                refine xJ_goto hX dX7_valueFor_174 (tgt := 6) (by decide) ?_
                refine xJ_fg 7 ?_
                dsimp only [List.set]
                exact ih _ _ _ _ _ _ _ hM167 hx1 hx2 hx3 hx4 h168 h171 hp
            · replace hp := hp.2 c108
              refine xJ_iconst hX dX7_valueFor_111 ?_
              refine xJ_iret hX hB dX7_valueFor_112 (by decide) (by decide) ⟨_, rfl, ⟨by decide, by decide⟩, hM, rfl, hp⟩
  refine lp6 F _ _ _ _ _ _ _ hM hx1 hx2 hx3 hx4 ⟨by decide, by decide⟩ ⟨by decide, by decide⟩ hp
def p_X9_put_3 (F : Nat) (a : Nat) (Q : xMe → Prop) : Nat → Int → Int → xMe → Prop
  | 0, _, _, _ => False
  | k + 1, x1, x2, M =>
    ((x2 < 0 → Q M) ∧ (0 ≤ x2 → (((M a 1) < 0 → (xR (x2 + (-8))) ∧ p_X9_put_3 F a Q k x1 (x2 + (-8)) M) ∧ (0 ≤ (M a 1) → (((((700 : Nat) : Int)) ≤ (M a 1) → (xR (x2 + (-8))) ∧ p_X9_put_3 F a Q k x1 (x2 + (-8)) M) ∧ ((M a 1) < (((700 : Nat) : Int)) → ((0 : Int) ≤ x2 ∧ x2 < 32) ∧ ((0 : Int) ≤ (M a 1) ∧ ((M a 1) : Int) < 700) ∧ (-128 ≤ (Int.bmod (x1 / 2 ^ x2.toNat) 256) ∧ (Int.bmod (x1 / 2 ^ x2.toNat) 256) < 128) ∧ (∀ M38 : xMe, M38 = xw M (a + 1) (M a 1).toNat (Int.bmod (x1 / 2 ^ x2.toNat) 256) → (xR ((M38 a 1) + 1)) ∧ (∀ M46 : xMe, M46 = xw M38 a 1 ((M38 a 1) + 1) → (xR (x2 + (-8))) ∧ p_X9_put_3 F a Q k x1 (x2 + (-8)) M46))))))))
def p_X9_put (F : Nat) (a : Nat) (x1 : Int) (M : xMe) (Q : xMe → Prop) : Prop :=
  p_X9_put_3 F a Q F x1 24 M
set_option maxHeartbeats 4000000 in
set_option maxRecDepth 100000 in
theorem c_X9_put {G : xGx} {t : xTh} {M : xMe} {F : Nat} {a : Nat} {x1 : Int} {Q : xMe → Prop} (hL : oX9 t a) (hM : xMR M) (hx1 : xR x1) (hp : p_X9_put F a x1 M Q) : xCt G yX9_put cX9_put 3 none 0 0 0 [vr a, vi x1] t M (fun v t' M' => v = none ∧ xMR M' ∧ t' = t ∧ Q M') (fun _ _ _ => False) := by
  refine xCt_of (L0 := [vr a, vi x1, vU]) (by decide +kernel) (Nat.le_of_ble_eq_true rfl) rfl ?_
  intro X hX hB
  unfold p_X9_put at hp
  refine xJ_bipush hX dX9_put_0 rfl ?_
  refine xJ_istore_n hX dX9_put_2 (Nat.le_of_ble_eq_true rfl) rfl ?_
  dsimp only [List.set]
  have lp3 : ∀ (k : Nat) (x1 : Int) (x2 : Int) (M : xMe) (hM : xMR M) (hx1 : xR x1) (hx2 : xR x2) (hp : p_X9_put_3 F a Q k x1 x2 M), xJ X 0 0 t M 3 [vr a, vi x1, vi x2] [] := by
    intro k
    induction k with
    | zero => intro x1 x2 M hM hx1 hx2 hp; exact hp.elim
    | succ k ih =>
      intro x1 x2 M hM hx1 hx2 hp
      unfold p_X9_put_3 at hp
      refine xJ_iload_n hX dX9_put_3 rfl ?_
      refine xJ_if_lt hX dX9_put_4 (tgt := 55) (by decide) hx2 (fun c4 => ?_) (fun c4 => ?_)
      · replace hp := hp.1 c4
        refine xJ_vret hX hB dX9_put_55 (by decide) (by decide) ⟨rfl, hM, rfl, hp⟩
      · replace hp := hp.2 c4
        refine xJ_aload_n hX dX9_put_7 rfl ?_
        refine xJ_getI hX dX9_put_8 fd_X9_15 rfl (oX9_k hL) ?_
        refine xJ_if_lt hX dX9_put_11 (tgt := 49) (by decide) (hM _ _) (fun c11 => ?_) (fun c11 => ?_)
        · replace hp := hp.1 c11
          refine xJ_iinc hX dX9_put_49 rfl rfl ?_
          dsimp only [List.set]
          obtain ⟨h49, hp⟩ := hp
          refine xJ_goto hX dX9_put_52 (tgt := 3) (by decide) ?_
          exact ih _ _ _ hM hx1 h49 hp
        · replace hp := hp.2 c11
          refine xJ_aload_n hX dX9_put_14 rfl ?_
          refine xJ_getI hX dX9_put_15 fd_X9_15 rfl (oX9_k hL) ?_
          refine xJ_aload_n hX dX9_put_18 rfl ?_
          refine xJ_getR (b := (a + 1)) hX dX9_put_19 fd_X9_9 rfl (oX9_k hL) (oX9_r0 hL) ?_
          refine xJ_alen hX dX9_put_22 (by rw [(oX9_k0 hL)]; decide) (by rw [(oX9_k0 hL)]; decide) ?_
          rw [(oX9_n0 hL)]
          refine xJ_icmp_ge hX dX9_put_23 (tgt := 49) (by decide) (hM _ _) ⟨by decide, by decide⟩ (fun c23 => ?_) (fun c23 => ?_)
          · replace hp := hp.1 c23
            refine xJ_iinc hX dX9_put_49 rfl rfl ?_
            dsimp only [List.set]
            obtain ⟨h49, hp⟩ := hp
            refine xJ_goto hX dX9_put_52 (tgt := 3) (by decide) ?_
            exact ih _ _ _ hM hx1 h49 hp
          · replace hp := hp.2 c23
            refine xJ_aload_n hX dX9_put_26 rfl ?_
            refine xJ_getR (b := (a + 1)) hX dX9_put_27 fd_X9_9 rfl (oX9_k hL) (oX9_r0 hL) ?_
            refine xJ_aload_n hX dX9_put_30 rfl ?_
            refine xJ_getI hX dX9_put_31 fd_X9_15 rfl (oX9_k hL) ?_
            refine xJ_iload_n hX dX9_put_34 rfl ?_
            refine xJ_iload_n hX dX9_put_35 rfl ?_
            obtain ⟨h36, hp⟩ := hp
            refine xJ_ishrI hX dX9_put_36 hx1 h36.1 h36.2 ?_
            refine xJ_i2b hX dX9_put_37 ?_
            obtain ⟨h38, hp⟩ := hp
            obtain ⟨h38v, hp⟩ := hp
            refine xJ_bastM hX dX9_put_38 (oX9_k0 hL) h38.1 (xnlt (oX9_n0 hL) h38.2) (xny h38v.1 h38v.2) hM (xR_bm _) (fun M38 e38 hM38 => ?_)
            replace hp := hp M38 e38
            refine xJ_aload_n hX dX9_put_39 rfl ?_
            refine xJ_dup hX dX9_put_40 rfl ?_
            refine xJ_getI hX dX9_put_41 fd_X9_15 rfl (oX9_k hL) ?_
            refine xJ_iconst hX dX9_put_44 ?_
            refine xJ_iadd hX dX9_put_45 ?_
            obtain ⟨h45, hp⟩ := hp
            refine xJ_putIM hX dX9_put_46 fd_X9_15 ft_X9 rfl rfl rfl rfl (oX9_k hL) hM38 h45 (fun M46 e46 hM46 => ?_)
            replace hp := hp M46 e46
            refine xJ_iinc hX dX9_put_49 rfl rfl ?_
            dsimp only [List.set]
            obtain ⟨h49, hp⟩ := hp
            refine xJ_goto hX dX9_put_52 (tgt := 3) (by decide) ?_
            exact ih _ _ _ hM46 hx1 h49 hp
  refine lp3 F _ _ _ hM hx1 ⟨by decide, by decide⟩ hp
def p_X9_moveOn_0 (F : Nat) (a : Nat) (Q : xMe → Prop) (K38 : xMe → Prop) : Nat → xMe → Prop
  | 0, _ => False
  | k + 1, M =>
    (((M a 2) ≤ (M a 3) → K38 M) ∧ ((M a 3) < (M a 2) → ((0 : Int) ≤ (M a 3) ∧ ((M a 3) : Int) < 700) ∧ (((M (a + 1) (M a 3).toNat) ≠ 32 → K38 M) ∧ ((M (a + 1) (M a 3).toNat) = 32 → (xR ((M a 3) + 1)) ∧ (∀ M32 : xMe, M32 = xw M a 3 ((M a 3) + 1) → p_X9_moveOn_0 F a Q K38 k M32)))))
def p_X9_moveOn_216 (F : Nat) (a : Nat) (Q : xMe → Prop) : Nat → xMe → Prop
  | 0, _ => False
  | k + 1, M =>
    (((M a 2) ≤ (M a 3) → Q M) ∧ ((M a 3) < (M a 2) → ((0 : Int) ≤ (M a 3) ∧ ((M a 3) : Int) < 700) ∧ (((M (a + 1) (M a 3).toNat) < 97 → Q M) ∧ (97 ≤ (M (a + 1) (M a 3).toNat) → ((0 : Int) ≤ (M a 3) ∧ ((M a 3) : Int) < 700) ∧ ((122 < (M (a + 1) (M a 3).toNat) → Q M) ∧ ((M (a + 1) (M a 3).toNat) ≤ 122 → (xR ((M a 3) + 1)) ∧ (∀ M262 : xMe, M262 = xw M a 3 ((M a 3) + 1) → p_X9_moveOn_216 F a Q k M262)))))))
def p_X9_moveOn_110 (F : Nat) (a : Nat) (Q : xMe → Prop) : Nat → xMe → Prop
  | 0, _ => False
  | k + 1, M =>
    (((M a 2) ≤ (M a 3) → Q M) ∧ ((M a 3) < (M a 2) → ((0 : Int) ≤ (M a 3) ∧ ((M a 3) : Int) < 700) ∧ (((M (a + 1) (M a 3).toNat) < 48 → Q M) ∧ (48 ≤ (M (a + 1) (M a 3).toNat) → ((0 : Int) ≤ (M a 3) ∧ ((M a 3) : Int) < 700) ∧ ((57 < (M (a + 1) (M a 3).toNat) → Q M) ∧ ((M (a + 1) (M a 3).toNat) ≤ 57 → (xR ((M a 6) * 10)) ∧ ((0 : Int) ≤ (M a 3) ∧ ((M a 3) : Int) < 700) ∧ (xR (((M a 6) * 10) + (M (a + 1) (M a 3).toNat))) ∧ (xR ((((M a 6) * 10) + (M (a + 1) (M a 3).toNat)) - 48)) ∧ (∀ M175 : xMe, M175 = xw M a 6 (min 100000 ((((M a 6) * 10) + (M (a + 1) (M a 3).toNat)) - 48)) → (xR ((M175 a 3) + 1)) ∧ (∀ M185 : xMe, M185 = xw M175 a 3 ((M175 a 3) + 1) → p_X9_moveOn_110 F a Q k M185))))))))
def p_X9_moveOn (F : Nat) (a : Nat) (M : xMe) (Q : xMe → Prop) : Prop :=
  p_X9_moveOn_0 F a Q (fun M => (∀ M43 : xMe, M43 = xw M a 5 (M a 3) → (∀ M48 : xMe, M48 = xw M43 a 4 ((-1)) → (((M48 a 3) < (M48 a 2) → ((0 : Int) ≤ (M48 a 3) ∧ ((M48 a 3) : Int) < 700) ∧ (∀ M77 : xMe, M77 = xw M48 a 4 ((M48 (a + 1) (M48 a 3).toNat) % 2 ^ 8) → (((M77 a 4) < 48 → (((M77 a 4) < 97 → (xR ((M77 a 3) + 1)) ∧ (∀ M275 : xMe, M275 = xw M77 a 3 ((M77 a 3) + 1) → Q M275)) ∧ (97 ≤ (M77 a 4) → ((122 < (M77 a 4) → (xR ((M77 a 3) + 1)) ∧ (∀ M275 : xMe, M275 = xw M77 a 3 ((M77 a 3) + 1) → Q M275)) ∧ ((M77 a 4) ≤ 122 → (∀ M213 : xMe, M213 = xw M77 a 4 256 → p_X9_moveOn_216 F a Q F M213)))))) ∧ (48 ≤ (M77 a 4) → ((57 < (M77 a 4) → (((M77 a 4) < 97 → (xR ((M77 a 3) + 1)) ∧ (∀ M275 : xMe, M275 = xw M77 a 3 ((M77 a 3) + 1) → Q M275)) ∧ (97 ≤ (M77 a 4) → ((122 < (M77 a 4) → (xR ((M77 a 3) + 1)) ∧ (∀ M275 : xMe, M275 = xw M77 a 3 ((M77 a 3) + 1) → Q M275)) ∧ ((M77 a 4) ≤ 122 → (∀ M213 : xMe, M213 = xw M77 a 4 256 → p_X9_moveOn_216 F a Q F M213)))))) ∧ ((M77 a 4) ≤ 57 → (∀ M102 : xMe, M102 = xw M77 a 4 257 → (∀ M107 : xMe, M107 = xw M102 a 6 0 → p_X9_moveOn_110 F a Q F M107)))))))) ∧ ((M48 a 2) ≤ (M48 a 3) → Q M48))))) F M
set_option maxHeartbeats 4000000 in
set_option maxRecDepth 100000 in
theorem c_X9_moveOn {G : xGx} {t : xTh} {M : xMe} {F : Nat} {a : Nat} {Q : xMe → Prop} (hL : oX9 t a) (hM : xMR M)(hp : p_X9_moveOn F a M Q) : xCt G yX9_moveOn cX9_moveOn 1 none 1 0 0 [vr a] t M (fun v t' M' => v = none ∧ xMR M' ∧ t' = t ∧ Q M') (fun _ _ _ => False) := by
  refine xCt_of (L0 := [vr a]) (by decide +kernel) (Nat.le_of_ble_eq_true rfl) rfl ?_
  intro X hX hB
  unfold p_X9_moveOn at hp
  have lp0 : ∀ (K38 : xMe → Prop) (hK38 : ∀ (M : xMe) (hM : xMR M) (hp : K38 M), xJ X 0 0 t M 38 [vr a] []) (k : Nat) (M : xMe) (hM : xMR M) (hp : p_X9_moveOn_0 F a Q K38 k M), xJ X 0 0 t M 0 [vr a] [] := by
    intro K38 hK38 k
    induction k with
    | zero => intro M hM hp; exact hp.elim
    | succ k ih =>
      intro M hM hp
      unfold p_X9_moveOn_0 at hp
      refine xJ_aload_n hX dX9_moveOn_0 rfl ?_
      refine xJ_getI hX dX9_moveOn_1 fd_X9_28 rfl (oX9_k hL) ?_
      refine xJ_aload_n hX dX9_moveOn_4 rfl ?_
      refine xJ_getI hX dX9_moveOn_5 fd_X9_25 rfl (oX9_k hL) ?_
      refine xJ_icmp_ge hX dX9_moveOn_8 (tgt := 38) (by decide) (hM _ _) (hM _ _) (fun c8 => ?_) (fun c8 => ?_)
      · replace hp := hp.1 c8
        exact hK38 _ hM hp
      · replace hp := hp.2 c8
        refine xJ_aload_n hX dX9_moveOn_11 rfl ?_
        refine xJ_getR (b := (a + 1)) hX dX9_moveOn_12 fd_X9_9 rfl (oX9_k hL) (oX9_r0 hL) ?_
        refine xJ_aload_n hX dX9_moveOn_15 rfl ?_
        refine xJ_getI hX dX9_moveOn_16 fd_X9_28 rfl (oX9_k hL) ?_
        obtain ⟨h19, hp⟩ := hp
        refine xJ_bald hX dX9_moveOn_19 (oX9_k0 hL) h19.1 (xnlt (oX9_n0 hL) h19.2) ?_
        refine xJ_bipush hX dX9_moveOn_20 rfl ?_
        refine xJ_icmp_ne hX dX9_moveOn_22 (tgt := 38) (by decide) (hM _ _) ⟨by decide, by decide⟩ (fun c22 => ?_) (fun c22 => ?_)
        · replace hp := hp.1 c22
          exact hK38 _ hM hp
        · replace hp := hp.2 c22
          refine xJ_aload_n hX dX9_moveOn_25 rfl ?_
          refine xJ_dup hX dX9_moveOn_26 rfl ?_
          refine xJ_getI hX dX9_moveOn_27 fd_X9_28 rfl (oX9_k hL) ?_
          refine xJ_iconst hX dX9_moveOn_30 ?_
          refine xJ_iadd hX dX9_moveOn_31 ?_
          obtain ⟨h31, hp⟩ := hp
          refine xJ_putIM hX dX9_moveOn_32 fd_X9_28 ft_X9 rfl rfl rfl rfl (oX9_k hL) hM h31 (fun M32 e32 hM32 => ?_)
          replace hp := hp M32 e32
          refine xJ_goto hX dX9_moveOn_35 (tgt := 0) (by decide) ?_
          exact ih _ hM32 hp
  refine lp0 _ (fun M hM hp => ?_) F _ hM hp
  · refine xJ_aload_n hX dX9_moveOn_38 rfl ?_
    refine xJ_aload_n hX dX9_moveOn_39 rfl ?_
    refine xJ_getI hX dX9_moveOn_40 fd_X9_28 rfl (oX9_k hL) ?_
    refine xJ_putIM hX dX9_moveOn_43 fd_X9_34 ft_X9 rfl rfl rfl rfl (oX9_k hL) hM (hM _ _) (fun M43 e43 hM43 => ?_)
    replace hp := hp M43 e43
    refine xJ_aload_n hX dX9_moveOn_46 rfl ?_
    refine xJ_iconst hX dX9_moveOn_47 ?_
    refine xJ_putIM hX dX9_moveOn_48 fd_X9_37 ft_X9 rfl rfl rfl rfl (oX9_k hL) hM43 ⟨by decide, by decide⟩ (fun M48 e48 hM48 => ?_)
    replace hp := hp M48 e48
    refine xJ_aload_n hX dX9_moveOn_51 rfl ?_
    refine xJ_getI hX dX9_moveOn_52 fd_X9_28 rfl (oX9_k hL) ?_
    refine xJ_aload_n hX dX9_moveOn_55 rfl ?_
    refine xJ_getI hX dX9_moveOn_56 fd_X9_25 rfl (oX9_k hL) ?_
    refine xJ_icmp_lt hX dX9_moveOn_59 (tgt := 63) (by decide) (hM48 _ _) (hM48 _ _) (fun c59 => ?_) (fun c59 => ?_)
    · replace hp := hp.1 c59
      refine xJ_aload_n hX dX9_moveOn_63 rfl ?_
      refine xJ_aload_n hX dX9_moveOn_64 rfl ?_
      refine xJ_getR (b := (a + 1)) hX dX9_moveOn_65 fd_X9_9 rfl (oX9_k hL) (oX9_r0 hL) ?_
      refine xJ_aload_n hX dX9_moveOn_68 rfl ?_
      refine xJ_getI hX dX9_moveOn_69 fd_X9_28 rfl (oX9_k hL) ?_
      obtain ⟨h72, hp⟩ := hp
      refine xJ_bald hX dX9_moveOn_72 (oX9_k0 hL) h72.1 (xnlt (oX9_n0 hL) h72.2) ?_
      refine xJ_sipush hX dX9_moveOn_73 rfl ?_
      refine xJ_iand 8 hX dX9_moveOn_76 (by decide) (by decide) ?_
      refine xJ_putIM hX dX9_moveOn_77 fd_X9_37 ft_X9 rfl rfl rfl rfl (oX9_k hL) hM48 (xR_mod 8 (by decide)) (fun M77 e77 hM77 => ?_)
      replace hp := hp M77 e77
      refine xJ_aload_n hX dX9_moveOn_80 rfl ?_
      refine xJ_getI hX dX9_moveOn_81 fd_X9_37 rfl (oX9_k hL) ?_
      refine xJ_bipush hX dX9_moveOn_84 rfl ?_
      refine xJ_icmp_lt hX dX9_moveOn_86 (tgt := 191) (by decide) (hM77 _ _) ⟨by decide, by decide⟩ (fun c86 => ?_) (fun c86 => ?_)
      · replace hp := hp.1 c86
        refine xJ_aload_n hX dX9_moveOn_191 rfl ?_
        refine xJ_getI hX dX9_moveOn_192 fd_X9_37 rfl (oX9_k hL) ?_
        refine xJ_bipush hX dX9_moveOn_195 rfl ?_
        refine xJ_icmp_lt hX dX9_moveOn_197 (tgt := 268) (by decide) (hM77 _ _) ⟨by decide, by decide⟩ (fun c197 => ?_) (fun c197 => ?_)
        · replace hp := hp.1 c197
          refine xJ_aload_n hX dX9_moveOn_268 rfl ?_
          refine xJ_dup hX dX9_moveOn_269 rfl ?_
          refine xJ_getI hX dX9_moveOn_270 fd_X9_28 rfl (oX9_k hL) ?_
          refine xJ_iconst hX dX9_moveOn_273 ?_
          refine xJ_iadd hX dX9_moveOn_274 ?_
          obtain ⟨h274, hp⟩ := hp
          refine xJ_putIM hX dX9_moveOn_275 fd_X9_28 ft_X9 rfl rfl rfl rfl (oX9_k hL) hM77 h274 (fun M275 e275 hM275 => ?_)
          replace hp := hp M275 e275
          refine xJ_vret hX hB dX9_moveOn_278 (by decide) (by decide) ⟨rfl, hM275, rfl, hp⟩
        · replace hp := hp.2 c197
          refine xJ_aload_n hX dX9_moveOn_200 rfl ?_
          refine xJ_getI hX dX9_moveOn_201 fd_X9_37 rfl (oX9_k hL) ?_
          refine xJ_bipush hX dX9_moveOn_204 rfl ?_
          refine xJ_icmp_gt hX dX9_moveOn_206 (tgt := 268) (by decide) (hM77 _ _) ⟨by decide, by decide⟩ (fun c206 => ?_) (fun c206 => ?_)
          · replace hp := hp.1 c206
            refine xJ_aload_n hX dX9_moveOn_268 rfl ?_
            refine xJ_dup hX dX9_moveOn_269 rfl ?_
            refine xJ_getI hX dX9_moveOn_270 fd_X9_28 rfl (oX9_k hL) ?_
            refine xJ_iconst hX dX9_moveOn_273 ?_
            refine xJ_iadd hX dX9_moveOn_274 ?_
            obtain ⟨h274, hp⟩ := hp
            refine xJ_putIM hX dX9_moveOn_275 fd_X9_28 ft_X9 rfl rfl rfl rfl (oX9_k hL) hM77 h274 (fun M275 e275 hM275 => ?_)
            replace hp := hp M275 e275
            refine xJ_vret hX hB dX9_moveOn_278 (by decide) (by decide) ⟨rfl, hM275, rfl, hp⟩
          · replace hp := hp.2 c206
            refine xJ_aload_n hX dX9_moveOn_209 rfl ?_
            refine xJ_sipush hX dX9_moveOn_210 rfl ?_
            refine xJ_putIM hX dX9_moveOn_213 fd_X9_37 ft_X9 rfl rfl rfl rfl (oX9_k hL) hM77 ⟨by decide, by decide⟩ (fun M213 e213 hM213 => ?_)
            replace hp := hp M213 e213
            have lp216 : ∀ (k : Nat) (M : xMe) (hM : xMR M) (hp : p_X9_moveOn_216 F a Q k M), xJ X 0 0 t M 216 [vr a] [] := by
              intro k
              induction k with
              | zero => intro M hM hp; exact hp.elim
              | succ k ih =>
                intro M hM hp
                unfold p_X9_moveOn_216 at hp
                refine xJ_aload_n hX dX9_moveOn_216 rfl ?_
                refine xJ_getI hX dX9_moveOn_217 fd_X9_28 rfl (oX9_k hL) ?_
                refine xJ_aload_n hX dX9_moveOn_220 rfl ?_
                refine xJ_getI hX dX9_moveOn_221 fd_X9_25 rfl (oX9_k hL) ?_
                refine xJ_icmp_ge hX dX9_moveOn_224 (tgt := 278) (by decide) (hM _ _) (hM _ _) (fun c224 => ?_) (fun c224 => ?_)
                · replace hp := hp.1 c224
                  refine xJ_vret hX hB dX9_moveOn_278 (by decide) (by decide) ⟨rfl, hM, rfl, hp⟩
                · replace hp := hp.2 c224
                  refine xJ_aload_n hX dX9_moveOn_227 rfl ?_
                  refine xJ_getR (b := (a + 1)) hX dX9_moveOn_228 fd_X9_9 rfl (oX9_k hL) (oX9_r0 hL) ?_
                  refine xJ_aload_n hX dX9_moveOn_231 rfl ?_
                  refine xJ_getI hX dX9_moveOn_232 fd_X9_28 rfl (oX9_k hL) ?_
                  obtain ⟨h235, hp⟩ := hp
                  refine xJ_bald hX dX9_moveOn_235 (oX9_k0 hL) h235.1 (xnlt (oX9_n0 hL) h235.2) ?_
                  refine xJ_bipush hX dX9_moveOn_236 rfl ?_
                  refine xJ_icmp_lt hX dX9_moveOn_238 (tgt := 278) (by decide) (hM _ _) ⟨by decide, by decide⟩ (fun c238 => ?_) (fun c238 => ?_)
                  · replace hp := hp.1 c238
                    refine xJ_vret hX hB dX9_moveOn_278 (by decide) (by decide) ⟨rfl, hM, rfl, hp⟩
                  · replace hp := hp.2 c238
                    refine xJ_aload_n hX dX9_moveOn_241 rfl ?_
                    refine xJ_getR (b := (a + 1)) hX dX9_moveOn_242 fd_X9_9 rfl (oX9_k hL) (oX9_r0 hL) ?_
                    refine xJ_aload_n hX dX9_moveOn_245 rfl ?_
                    refine xJ_getI hX dX9_moveOn_246 fd_X9_28 rfl (oX9_k hL) ?_
                    obtain ⟨h249, hp⟩ := hp
                    refine xJ_bald hX dX9_moveOn_249 (oX9_k0 hL) h249.1 (xnlt (oX9_n0 hL) h249.2) ?_
                    refine xJ_bipush hX dX9_moveOn_250 rfl ?_
                    refine xJ_icmp_gt hX dX9_moveOn_252 (tgt := 278) (by decide) (hM _ _) ⟨by decide, by decide⟩ (fun c252 => ?_) (fun c252 => ?_)
                    · replace hp := hp.1 c252
                      refine xJ_vret hX hB dX9_moveOn_278 (by decide) (by decide) ⟨rfl, hM, rfl, hp⟩
                    · replace hp := hp.2 c252
                      refine xJ_aload_n hX dX9_moveOn_255 rfl ?_
                      refine xJ_dup hX dX9_moveOn_256 rfl ?_
                      refine xJ_getI hX dX9_moveOn_257 fd_X9_28 rfl (oX9_k hL) ?_
                      refine xJ_iconst hX dX9_moveOn_260 ?_
                      refine xJ_iadd hX dX9_moveOn_261 ?_
                      obtain ⟨h261, hp⟩ := hp
                      refine xJ_putIM hX dX9_moveOn_262 fd_X9_28 ft_X9 rfl rfl rfl rfl (oX9_k hL) hM h261 (fun M262 e262 hM262 => ?_)
                      replace hp := hp M262 e262
                      refine xJ_goto hX dX9_moveOn_265 (tgt := 216) (by decide) ?_
                      exact ih _ hM262 hp
            refine lp216 F _ hM213 hp
      · replace hp := hp.2 c86
        refine xJ_aload_n hX dX9_moveOn_89 rfl ?_
        refine xJ_getI hX dX9_moveOn_90 fd_X9_37 rfl (oX9_k hL) ?_
        refine xJ_bipush hX dX9_moveOn_93 rfl ?_
        refine xJ_icmp_gt hX dX9_moveOn_95 (tgt := 191) (by decide) (hM77 _ _) ⟨by decide, by decide⟩ (fun c95 => ?_) (fun c95 => ?_)
        · replace hp := hp.1 c95
          refine xJ_aload_n hX dX9_moveOn_191 rfl ?_
          refine xJ_getI hX dX9_moveOn_192 fd_X9_37 rfl (oX9_k hL) ?_
          refine xJ_bipush hX dX9_moveOn_195 rfl ?_
          refine xJ_icmp_lt hX dX9_moveOn_197 (tgt := 268) (by decide) (hM77 _ _) ⟨by decide, by decide⟩ (fun c197 => ?_) (fun c197 => ?_)
          · replace hp := hp.1 c197
            refine xJ_aload_n hX dX9_moveOn_268 rfl ?_
            refine xJ_dup hX dX9_moveOn_269 rfl ?_
            refine xJ_getI hX dX9_moveOn_270 fd_X9_28 rfl (oX9_k hL) ?_
            refine xJ_iconst hX dX9_moveOn_273 ?_
            refine xJ_iadd hX dX9_moveOn_274 ?_
            obtain ⟨h274, hp⟩ := hp
            refine xJ_putIM hX dX9_moveOn_275 fd_X9_28 ft_X9 rfl rfl rfl rfl (oX9_k hL) hM77 h274 (fun M275 e275 hM275 => ?_)
            replace hp := hp M275 e275
            refine xJ_vret hX hB dX9_moveOn_278 (by decide) (by decide) ⟨rfl, hM275, rfl, hp⟩
          · replace hp := hp.2 c197
            refine xJ_aload_n hX dX9_moveOn_200 rfl ?_
            refine xJ_getI hX dX9_moveOn_201 fd_X9_37 rfl (oX9_k hL) ?_
            refine xJ_bipush hX dX9_moveOn_204 rfl ?_
            refine xJ_icmp_gt hX dX9_moveOn_206 (tgt := 268) (by decide) (hM77 _ _) ⟨by decide, by decide⟩ (fun c206 => ?_) (fun c206 => ?_)
            · replace hp := hp.1 c206
              refine xJ_aload_n hX dX9_moveOn_268 rfl ?_
              refine xJ_dup hX dX9_moveOn_269 rfl ?_
              refine xJ_getI hX dX9_moveOn_270 fd_X9_28 rfl (oX9_k hL) ?_
              refine xJ_iconst hX dX9_moveOn_273 ?_
              refine xJ_iadd hX dX9_moveOn_274 ?_
              obtain ⟨h274, hp⟩ := hp
              refine xJ_putIM hX dX9_moveOn_275 fd_X9_28 ft_X9 rfl rfl rfl rfl (oX9_k hL) hM77 h274 (fun M275 e275 hM275 => ?_)
              replace hp := hp M275 e275
              refine xJ_vret hX hB dX9_moveOn_278 (by decide) (by decide) ⟨rfl, hM275, rfl, hp⟩
            · replace hp := hp.2 c206
              refine xJ_aload_n hX dX9_moveOn_209 rfl ?_
              refine xJ_sipush hX dX9_moveOn_210 rfl ?_
              refine xJ_putIM hX dX9_moveOn_213 fd_X9_37 ft_X9 rfl rfl rfl rfl (oX9_k hL) hM77 ⟨by decide, by decide⟩ (fun M213 e213 hM213 => ?_)
              replace hp := hp M213 e213
              have lp216 : ∀ (k : Nat) (M : xMe) (hM : xMR M) (hp : p_X9_moveOn_216 F a Q k M), xJ X 0 0 t M 216 [vr a] [] := by
                intro k
                induction k with
                | zero => intro M hM hp; exact hp.elim
                | succ k ih =>
                  intro M hM hp
                  unfold p_X9_moveOn_216 at hp
                  refine xJ_aload_n hX dX9_moveOn_216 rfl ?_
                  refine xJ_getI hX dX9_moveOn_217 fd_X9_28 rfl (oX9_k hL) ?_
                  refine xJ_aload_n hX dX9_moveOn_220 rfl ?_
                  refine xJ_getI hX dX9_moveOn_221 fd_X9_25 rfl (oX9_k hL) ?_
                  refine xJ_icmp_ge hX dX9_moveOn_224 (tgt := 278) (by decide) (hM _ _) (hM _ _) (fun c224 => ?_) (fun c224 => ?_)
                  · replace hp := hp.1 c224
                    refine xJ_vret hX hB dX9_moveOn_278 (by decide) (by decide) ⟨rfl, hM, rfl, hp⟩
                  · replace hp := hp.2 c224
                    refine xJ_aload_n hX dX9_moveOn_227 rfl ?_
                    refine xJ_getR (b := (a + 1)) hX dX9_moveOn_228 fd_X9_9 rfl (oX9_k hL) (oX9_r0 hL) ?_
                    refine xJ_aload_n hX dX9_moveOn_231 rfl ?_
                    refine xJ_getI hX dX9_moveOn_232 fd_X9_28 rfl (oX9_k hL) ?_
                    obtain ⟨h235, hp⟩ := hp
                    refine xJ_bald hX dX9_moveOn_235 (oX9_k0 hL) h235.1 (xnlt (oX9_n0 hL) h235.2) ?_
                    refine xJ_bipush hX dX9_moveOn_236 rfl ?_
                    refine xJ_icmp_lt hX dX9_moveOn_238 (tgt := 278) (by decide) (hM _ _) ⟨by decide, by decide⟩ (fun c238 => ?_) (fun c238 => ?_)
                    · replace hp := hp.1 c238
                      refine xJ_vret hX hB dX9_moveOn_278 (by decide) (by decide) ⟨rfl, hM, rfl, hp⟩
                    · replace hp := hp.2 c238
                      refine xJ_aload_n hX dX9_moveOn_241 rfl ?_
                      refine xJ_getR (b := (a + 1)) hX dX9_moveOn_242 fd_X9_9 rfl (oX9_k hL) (oX9_r0 hL) ?_
                      refine xJ_aload_n hX dX9_moveOn_245 rfl ?_
                      refine xJ_getI hX dX9_moveOn_246 fd_X9_28 rfl (oX9_k hL) ?_
                      obtain ⟨h249, hp⟩ := hp
                      refine xJ_bald hX dX9_moveOn_249 (oX9_k0 hL) h249.1 (xnlt (oX9_n0 hL) h249.2) ?_
                      refine xJ_bipush hX dX9_moveOn_250 rfl ?_
                      refine xJ_icmp_gt hX dX9_moveOn_252 (tgt := 278) (by decide) (hM _ _) ⟨by decide, by decide⟩ (fun c252 => ?_) (fun c252 => ?_)
                      · replace hp := hp.1 c252
                        refine xJ_vret hX hB dX9_moveOn_278 (by decide) (by decide) ⟨rfl, hM, rfl, hp⟩
                      · replace hp := hp.2 c252
                        refine xJ_aload_n hX dX9_moveOn_255 rfl ?_
                        refine xJ_dup hX dX9_moveOn_256 rfl ?_
                        refine xJ_getI hX dX9_moveOn_257 fd_X9_28 rfl (oX9_k hL) ?_
                        refine xJ_iconst hX dX9_moveOn_260 ?_
                        refine xJ_iadd hX dX9_moveOn_261 ?_
                        obtain ⟨h261, hp⟩ := hp
                        refine xJ_putIM hX dX9_moveOn_262 fd_X9_28 ft_X9 rfl rfl rfl rfl (oX9_k hL) hM h261 (fun M262 e262 hM262 => ?_)
                        replace hp := hp M262 e262
                        refine xJ_goto hX dX9_moveOn_265 (tgt := 216) (by decide) ?_
                        exact ih _ hM262 hp
              refine lp216 F _ hM213 hp
        · replace hp := hp.2 c95
          refine xJ_aload_n hX dX9_moveOn_98 rfl ?_
          refine xJ_sipush hX dX9_moveOn_99 rfl ?_
          refine xJ_putIM hX dX9_moveOn_102 fd_X9_37 ft_X9 rfl rfl rfl rfl (oX9_k hL) hM77 ⟨by decide, by decide⟩ (fun M102 e102 hM102 => ?_)
          replace hp := hp M102 e102
          refine xJ_aload_n hX dX9_moveOn_105 rfl ?_
          refine xJ_iconst hX dX9_moveOn_106 ?_
          refine xJ_putIM hX dX9_moveOn_107 fd_X9_40 ft_X9 rfl rfl rfl rfl (oX9_k hL) hM102 ⟨by decide, by decide⟩ (fun M107 e107 hM107 => ?_)
          replace hp := hp M107 e107
          have lp110 : ∀ (k : Nat) (M : xMe) (hM : xMR M) (hp : p_X9_moveOn_110 F a Q k M), xJ X 0 0 t M 110 [vr a] [] := by
            intro k
            induction k with
            | zero => intro M hM hp; exact hp.elim
            | succ k ih =>
              intro M hM hp
              unfold p_X9_moveOn_110 at hp
              refine xJ_aload_n hX dX9_moveOn_110 rfl ?_
              refine xJ_getI hX dX9_moveOn_111 fd_X9_28 rfl (oX9_k hL) ?_
              refine xJ_aload_n hX dX9_moveOn_114 rfl ?_
              refine xJ_getI hX dX9_moveOn_115 fd_X9_25 rfl (oX9_k hL) ?_
              refine xJ_icmp_ge hX dX9_moveOn_118 (tgt := 278) (by decide) (hM _ _) (hM _ _) (fun c118 => ?_) (fun c118 => ?_)
              · replace hp := hp.1 c118
                refine xJ_vret hX hB dX9_moveOn_278 (by decide) (by decide) ⟨rfl, hM, rfl, hp⟩
              · replace hp := hp.2 c118
                refine xJ_aload_n hX dX9_moveOn_121 rfl ?_
                refine xJ_getR (b := (a + 1)) hX dX9_moveOn_122 fd_X9_9 rfl (oX9_k hL) (oX9_r0 hL) ?_
                refine xJ_aload_n hX dX9_moveOn_125 rfl ?_
                refine xJ_getI hX dX9_moveOn_126 fd_X9_28 rfl (oX9_k hL) ?_
                obtain ⟨h129, hp⟩ := hp
                refine xJ_bald hX dX9_moveOn_129 (oX9_k0 hL) h129.1 (xnlt (oX9_n0 hL) h129.2) ?_
                refine xJ_bipush hX dX9_moveOn_130 rfl ?_
                refine xJ_icmp_lt hX dX9_moveOn_132 (tgt := 278) (by decide) (hM _ _) ⟨by decide, by decide⟩ (fun c132 => ?_) (fun c132 => ?_)
                · replace hp := hp.1 c132
                  refine xJ_vret hX hB dX9_moveOn_278 (by decide) (by decide) ⟨rfl, hM, rfl, hp⟩
                · replace hp := hp.2 c132
                  refine xJ_aload_n hX dX9_moveOn_135 rfl ?_
                  refine xJ_getR (b := (a + 1)) hX dX9_moveOn_136 fd_X9_9 rfl (oX9_k hL) (oX9_r0 hL) ?_
                  refine xJ_aload_n hX dX9_moveOn_139 rfl ?_
                  refine xJ_getI hX dX9_moveOn_140 fd_X9_28 rfl (oX9_k hL) ?_
                  obtain ⟨h143, hp⟩ := hp
                  refine xJ_bald hX dX9_moveOn_143 (oX9_k0 hL) h143.1 (xnlt (oX9_n0 hL) h143.2) ?_
                  refine xJ_bipush hX dX9_moveOn_144 rfl ?_
                  refine xJ_icmp_gt hX dX9_moveOn_146 (tgt := 278) (by decide) (hM _ _) ⟨by decide, by decide⟩ (fun c146 => ?_) (fun c146 => ?_)
                  · replace hp := hp.1 c146
                    refine xJ_vret hX hB dX9_moveOn_278 (by decide) (by decide) ⟨rfl, hM, rfl, hp⟩
                  · replace hp := hp.2 c146
                    refine xJ_aload_n hX dX9_moveOn_149 rfl ?_
                    refine xJ_ldc (100000) hX dX9_moveOn_150 kc_X9_43 ?_
                    refine xJ_aload_n hX dX9_moveOn_152 rfl ?_
                    refine xJ_getI hX dX9_moveOn_153 fd_X9_40 rfl (oX9_k hL) ?_
                    refine xJ_bipush hX dX9_moveOn_156 rfl ?_
                    refine xJ_imul hX dX9_moveOn_158 ?_
                    obtain ⟨h158, hp⟩ := hp
                    refine xJ_aload_n hX dX9_moveOn_159 rfl ?_
                    refine xJ_getR (b := (a + 1)) hX dX9_moveOn_160 fd_X9_9 rfl (oX9_k hL) (oX9_r0 hL) ?_
                    refine xJ_aload_n hX dX9_moveOn_163 rfl ?_
                    refine xJ_getI hX dX9_moveOn_164 fd_X9_28 rfl (oX9_k hL) ?_
                    obtain ⟨h167, hp⟩ := hp
                    refine xJ_bald hX dX9_moveOn_167 (oX9_k0 hL) h167.1 (xnlt (oX9_n0 hL) h167.2) ?_
                    refine xJ_iadd hX dX9_moveOn_168 ?_
                    obtain ⟨h168, hp⟩ := hp
                    refine xJ_bipush hX dX9_moveOn_169 rfl ?_
                    refine xJ_isub hX dX9_moveOn_171 ?_
                    obtain ⟨h171, hp⟩ := hp
                    refine xJ_mmin hX hB dX9_moveOn_172 lj_X9_19 jw_min_st jw_ma_in jw_min_co rfl (by decide) (Nat.le_of_ble_eq_true rfl) (by decide) (by decide) ⟨by decide, by decide⟩ h171 ?_
                    refine xJ_putIM hX dX9_moveOn_175 fd_X9_40 ft_X9 rfl rfl rfl rfl (oX9_k hL) hM (xR_min ⟨by decide, by decide⟩ h171) (fun M175 e175 hM175 => ?_)
                    replace hp := hp M175 e175
                    refine xJ_aload_n hX dX9_moveOn_178 rfl ?_
                    refine xJ_dup hX dX9_moveOn_179 rfl ?_
                    refine xJ_getI hX dX9_moveOn_180 fd_X9_28 rfl (oX9_k hL) ?_
                    refine xJ_iconst hX dX9_moveOn_183 ?_
                    refine xJ_iadd hX dX9_moveOn_184 ?_
                    obtain ⟨h184, hp⟩ := hp
                    refine xJ_putIM hX dX9_moveOn_185 fd_X9_28 ft_X9 rfl rfl rfl rfl (oX9_k hL) hM175 h184 (fun M185 e185 hM185 => ?_)
                    replace hp := hp M185 e185
                    refine xJ_goto hX dX9_moveOn_188 (tgt := 110) (by decide) ?_
                    exact ih _ hM185 hp
          refine lp110 F _ hM107 hp
    · replace hp := hp.2 c59
      refine xJ_vret hX hB dX9_moveOn_62 (by decide) (by decide) ⟨rfl, hM48, rfl, hp⟩
def p_X9_open (F : Nat) (a : Nat) (x1 : Int) (M : xMe) (Q : xMe → Prop) : Prop :=
  (∀ M10 : xMe, M10 = xw M a 2 (min x1 (((700 : Nat) : Int))) → (∀ M15 : xMe, M15 = xw M10 a 3 0 → p_X9_moveOn F a M15 (fun M19 => Q M19)))
set_option maxHeartbeats 4000000 in
set_option maxRecDepth 100000 in
theorem c_X9_open {G : xGx} {t : xTh} {M : xMe} {F : Nat} {a : Nat} {x1 : Int} {Q : xMe → Prop} (hL : oX9 t a) (hM : xMR M) (hx1 : xR x1) (hp : p_X9_open F a x1 M Q) : xCt G yX9_open cX9_open 2 none 2 0 0 [vr a, vi x1] t M (fun v t' M' => v = none ∧ xMR M' ∧ t' = t ∧ Q M') (fun _ _ _ => False) := by
  refine xCt_of (L0 := [vr a, vi x1]) (by decide +kernel) (Nat.le_of_ble_eq_true rfl) rfl ?_
  intro X hX hB
  unfold p_X9_open at hp
  refine xJ_aload_n hX dX9_open_0 rfl ?_
  refine xJ_iload_n hX dX9_open_1 rfl ?_
  refine xJ_aload_n hX dX9_open_2 rfl ?_
  refine xJ_getR (b := (a + 1)) hX dX9_open_3 fd_X9_9 rfl (oX9_k hL) (oX9_r0 hL) ?_
  refine xJ_alen hX dX9_open_6 (by rw [(oX9_k0 hL)]; decide) (by rw [(oX9_k0 hL)]; decide) ?_
  rw [(oX9_n0 hL)]
  refine xJ_mmin hX hB dX9_open_7 lj_X9_19 jw_min_st jw_ma_in jw_min_co rfl (by decide) (Nat.le_of_ble_eq_true rfl) (by decide) (by decide) hx1 ⟨by decide, by decide⟩ ?_
  refine xJ_putIM hX dX9_open_10 fd_X9_25 ft_X9 rfl rfl rfl rfl (oX9_k hL) hM (xR_min hx1 ⟨by decide, by decide⟩) (fun M10 e10 hM10 => ?_)
  replace hp := hp M10 e10
  refine xJ_aload_n hX dX9_open_13 rfl ?_
  refine xJ_iconst hX dX9_open_14 ?_
  refine xJ_putIM hX dX9_open_15 fd_X9_28 ft_X9 rfl rfl rfl rfl (oX9_k hL) hM10 ⟨by decide, by decide⟩ (fun M15 e15 hM15 => ?_)
  replace hp := hp M15 e15
  refine xJ_aload_n hX dX9_open_18 rfl ?_
  refine xJ_callV (As := []) hX hB dX9_open_19 lk_X9_31 im_X9_moveOn se_X9_moveOn rfl (by decide) (oX9_k hL) (c_X9_moveOn hL hM15 hp) (by decide) rfl rfl rfl (Nat.le_of_ble_eq_true rfl) (by decide) (by decide) (fun v t9 M19 hv => ?_) (fun _ _ _ q => q.elim)
  obtain ⟨rfl, hM19, ht9, hp⟩ := hv
  replace ht9 := ht9.symm
  subst ht9
  dsimp only [Option.toList, List.cons_append, List.nil_append]
  refine xJ_vret hX hB dX9_open_22 (by decide) (by decide) ⟨rfl, hM19, rfl, hp⟩
def p_X9_isWord_30 (F : Nat) (a : Nat) (s1 : Nat) (Q : Int → xMe → Prop) : Nat → Int → xMe → Prop
  | 0, _, _ => False
  | k + 1, x2, M =>
    (((xSl s1) ≤ x2 → Q 1 M) ∧ (x2 < (xSl s1) → (xR ((M a 5) + x2)) ∧ (((M a 2) ≤ ((M a 5) + x2) → Q 0 M) ∧ (((M a 5) + x2) < (M a 2) → (xR ((M a 5) + x2)) ∧ ((0 : Int) ≤ ((M a 5) + x2) ∧ (((M a 5) + x2) : Int) < 700) ∧ ((0 : Int) ≤ x2 ∧ (x2 : Int) < xSl s1) ∧ (((M (a + 1) ((M a 5) + x2).toNat) = (xSc s1 x2.toNat) → (xR (x2 + 1)) ∧ p_X9_isWord_30 F a s1 Q k (x2 + 1) M) ∧ ((M (a + 1) ((M a 5) + x2).toNat) ≠ (xSc s1 x2.toNat) → Q 0 M))))))
def p_X9_isWord (F : Nat) (a : Nat) (s1 : Nat) (M : xMe) (Q : Int → xMe → Prop) : Prop :=
  (((M a 4) ≠ 256 → Q 0 M) ∧ ((M a 4) = 256 → (xR ((M a 3) - (M a 5))) ∧ ((((M a 3) - (M a 5)) = (xSl s1) → p_X9_isWord_30 F a s1 Q F 0 M) ∧ (((M a 3) - (M a 5)) ≠ (xSl s1) → Q 0 M))))
set_option maxHeartbeats 4000000 in
set_option maxRecDepth 100000 in
theorem c_X9_isWord {G : xGx} {t : xTh} {M : xMe} {F : Nat} {a : Nat} {s1 : Nat} {Q : Int → xMe → Prop} (hL : oX9 t a) (hs1 : s1 < 31) (hM : xMR M)(hp : p_X9_isWord F a s1 M Q) : xCt G yX9_isWord cX9_isWord 3 (some .boolean) 8 0 0 [vr a, vr (G.2.2.2.1 s1)] t M (fun v t' M' => ∃ r, v = some (vi r) ∧ xR r ∧ xMR M' ∧ t' = t ∧ Q r M') (fun _ _ _ => False) := by
  refine xCt_of (L0 := [vr a, vr (G.2.2.2.1 s1), vU]) (by decide +kernel) (Nat.le_of_ble_eq_true rfl) rfl ?_
  intro X hX hB
  unfold p_X9_isWord at hp
  refine xJ_aload_n hX dX9_isWord_0 rfl ?_
  refine xJ_getI hX dX9_isWord_1 fd_X9_37 rfl (oX9_k hL) ?_
  refine xJ_sipush hX dX9_isWord_4 rfl ?_
  refine xJ_icmp_ne hX dX9_isWord_7 (tgt := 26) (by decide) (hM _ _) ⟨by decide, by decide⟩ (fun c7 => ?_) (fun c7 => ?_)
  · replace hp := hp.1 c7
    refine xJ_iconst hX dX9_isWord_26 ?_
    refine xJ_zret hX hB dX9_isWord_27 rfl (by decide) (by decide) ⟨_, rfl, ⟨by decide, by decide⟩, hM, rfl, hp⟩
  · replace hp := hp.2 c7
    refine xJ_aload_n hX dX9_isWord_10 rfl ?_
    refine xJ_getI hX dX9_isWord_11 fd_X9_28 rfl (oX9_k hL) ?_
    refine xJ_aload_n hX dX9_isWord_14 rfl ?_
    refine xJ_getI hX dX9_isWord_15 fd_X9_34 rfl (oX9_k hL) ?_
    refine xJ_isub hX dX9_isWord_18 ?_
    obtain ⟨h18, hp⟩ := hp
    refine xJ_aload_n hX dX9_isWord_19 rfl ?_
    refine xJ_strlen hX hB dX9_isWord_20 lk_X9_44 rfl (by decide) (Nat.le_of_ble_eq_true rfl) hs1 (by decide) (by decide) ?_
    refine xJ_icmp_eq hX dX9_isWord_23 (tgt := 28) (by decide) h18 (xSl_R _) (fun c23 => ?_) (fun c23 => ?_)
    · replace hp := hp.1 c23
      refine xJ_iconst hX dX9_isWord_28 ?_
      refine xJ_istore_n hX dX9_isWord_29 (Nat.le_of_ble_eq_true rfl) rfl ?_
      dsimp only [List.set]
      have lp30 : ∀ (k : Nat) (x2 : Int) (M : xMe) (hM : xMR M) (hx2 : xR x2) (hp : p_X9_isWord_30 F a s1 Q k x2 M), xJ X 0 0 t M 30 [vr a, vr (G.2.2.2.1 s1), vi x2] [] := by
        intro k
        induction k with
        | zero => intro x2 M hM hx2 hp; exact hp.elim
        | succ k ih =>
          intro x2 M hM hx2 hp
          unfold p_X9_isWord_30 at hp
          refine xJ_iload_n hX dX9_isWord_30 rfl ?_
          refine xJ_aload_n hX dX9_isWord_31 rfl ?_
          refine xJ_strlen hX hB dX9_isWord_32 lk_X9_44 rfl (by decide) (Nat.le_of_ble_eq_true rfl) hs1 (by decide) (by decide) ?_
          refine xJ_icmp_ge hX dX9_isWord_35 (tgt := 78) (by decide) hx2 (xSl_R _) (fun c35 => ?_) (fun c35 => ?_)
          · replace hp := hp.1 c35
            refine xJ_iconst hX dX9_isWord_78 ?_
            refine xJ_zret hX hB dX9_isWord_79 rfl (by decide) (by decide) ⟨_, rfl, ⟨by decide, by decide⟩, hM, rfl, hp⟩
          · replace hp := hp.2 c35
            refine xJ_aload_n hX dX9_isWord_38 rfl ?_
            refine xJ_getI hX dX9_isWord_39 fd_X9_34 rfl (oX9_k hL) ?_
            refine xJ_iload_n hX dX9_isWord_42 rfl ?_
            refine xJ_iadd hX dX9_isWord_43 ?_
            obtain ⟨h43, hp⟩ := hp
            refine xJ_aload_n hX dX9_isWord_44 rfl ?_
            refine xJ_getI hX dX9_isWord_45 fd_X9_25 rfl (oX9_k hL) ?_
            refine xJ_icmp_ge hX dX9_isWord_48 (tgt := 70) (by decide) h43 (hM _ _) (fun c48 => ?_) (fun c48 => ?_)
            · replace hp := hp.1 c48
              refine xJ_iconst hX dX9_isWord_70 ?_
              refine xJ_zret hX hB dX9_isWord_71 rfl (by decide) (by decide) ⟨_, rfl, ⟨by decide, by decide⟩, hM, rfl, hp⟩
            · replace hp := hp.2 c48
              refine xJ_aload_n hX dX9_isWord_51 rfl ?_
              refine xJ_getR (b := (a + 1)) hX dX9_isWord_52 fd_X9_9 rfl (oX9_k hL) (oX9_r0 hL) ?_
              refine xJ_aload_n hX dX9_isWord_55 rfl ?_
              refine xJ_getI hX dX9_isWord_56 fd_X9_34 rfl (oX9_k hL) ?_
              refine xJ_iload_n hX dX9_isWord_59 rfl ?_
              refine xJ_iadd hX dX9_isWord_60 ?_
              obtain ⟨h60, hp⟩ := hp
              obtain ⟨h61, hp⟩ := hp
              refine xJ_bald hX dX9_isWord_61 (oX9_k0 hL) h61.1 (xnlt (oX9_n0 hL) h61.2) ?_
              refine xJ_aload_n hX dX9_isWord_62 rfl ?_
              refine xJ_iload_n hX dX9_isWord_63 rfl ?_
              obtain ⟨h64, hp⟩ := hp
              refine xJ_charAt hX hB dX9_isWord_64 lk_X9_50 rfl (by decide) (Nat.le_of_ble_eq_true rfl) hs1 (by decide) (by decide) hx2 h64.1 h64.2 ?_
              refine xJ_icmp_eq hX dX9_isWord_67 (tgt := 72) (by decide) (hM _ _) (xSc_R _ _) (fun c67 => ?_) (fun c67 => ?_)
              · replace hp := hp.1 c67
                refine xJ_iinc hX dX9_isWord_72 rfl rfl ?_
                dsimp only [List.set]
                obtain ⟨h72, hp⟩ := hp
                refine xJ_goto hX dX9_isWord_75 (tgt := 30) (by decide) ?_
                exact ih _ _ hM h72 hp
              · replace hp := hp.2 c67
                refine xJ_iconst hX dX9_isWord_70 ?_
                refine xJ_zret hX hB dX9_isWord_71 rfl (by decide) (by decide) ⟨_, rfl, ⟨by decide, by decide⟩, hM, rfl, hp⟩
      refine lp30 F _ _ hM ⟨by decide, by decide⟩ hp
    · replace hp := hp.2 c23
      refine xJ_iconst hX dX9_isWord_26 ?_
      refine xJ_zret hX hB dX9_isWord_27 rfl (by decide) (by decide) ⟨_, rfl, ⟨by decide, by decide⟩, hM, rfl, hp⟩
def p_X10_gateOf (a : Nat) (x1 : Int) (M : xMe) (Q : Int → xMe → Prop) : Prop :=
  ((x1 < 0 → Q ((-1)) M) ∧ (0 ≤ x1 → ((x1 < (M (a + 16) 8) → ((0 : Int) ≤ x1 ∧ (x1 : Int) < 40) ∧ (∀ z26 : Int, z26 = M (a + 20) x1.toNat → ((z26 = 1 → ((0 : Int) ≤ x1 ∧ (x1 : Int) < 40) ∧ ((0 : Int) ≤ x1 ∧ (x1 : Int) < 40) ∧ p_X1_gateAt (a + 5) (M (a + 17) x1.toNat) (M (a + 21) x1.toNat) M (fun r69 M69 => Q r69 M69)) ∧ (z26 ≠ 1 → ((z26 ≠ 2 → Q ((-1)) M) ∧ (z26 = 2 → ((0 : Int) ≤ x1 ∧ (x1 : Int) < 40) ∧ ((0 : Int) ≤ x1 ∧ (x1 : Int) < 40) ∧ p_X1_gateAt (a + 5) (M (a + 17) x1.toNat) (M (a + 21) x1.toNat) M (fun r69 M69 => Q r69 M69))))))) ∧ ((M (a + 16) 8) ≤ x1 → Q ((-1)) M))))
set_option maxHeartbeats 4000000 in
set_option maxRecDepth 100000 in
theorem c_X10_gateOf {G : xGx} {t : xTh} {M : xMe} {a : Nat} {x1 : Int} {Q : Int → xMe → Prop} (hL : oX10 t a) (hM : xMR M) (hx1 : xR x1) (hp : p_X10_gateOf a x1 M Q) : xCt G yX10_gateOf cX10_gateOf 4 (some .int) 1 0 0 [vr a, vi x1] t M (fun v t' M' => ∃ r, v = some (vi r) ∧ xR r ∧ xMR M' ∧ t' = t ∧ Q r M') (fun _ _ _ => False) := by
  refine xCt_of (L0 := [vr a, vi x1, vU, vU]) (by decide +kernel) (Nat.le_of_ble_eq_true rfl) rfl ?_
  intro X hX hB
  unfold p_X10_gateOf at hp
  refine xJ_iload_n hX dX10_gateOf_0 rfl ?_
  refine xJ_if_lt hX dX10_gateOf_1 (tgt := 15) (by decide) hx1 (fun c1 => ?_) (fun c1 => ?_)
  · replace hp := hp.1 c1
    refine xJ_iconst hX dX10_gateOf_15 ?_
    refine xJ_iret hX hB dX10_gateOf_16 (by decide) (by decide) ⟨_, rfl, ⟨by decide, by decide⟩, hM, rfl, hp⟩
  · replace hp := hp.2 c1
    refine xJ_iload_n hX dX10_gateOf_4 rfl ?_
    refine xJ_aload_n hX dX10_gateOf_5 rfl ?_
    refine xJ_getR (b := (a + 16)) hX dX10_gateOf_6 fd_X10_35 rfl (oX10_k hL) (oX10_r3 hL) ?_
    refine xJ_getI hX dX10_gateOf_9 fd_X10_111 rfl (oX5_k (oX10_o3 hL)) ?_
    refine xJ_icmp_lt hX dX10_gateOf_12 (tgt := 17) (by decide) hx1 (hM _ _) (fun c12 => ?_) (fun c12 => ?_)
    · replace hp := hp.1 c12
      refine xJ_aload_n hX dX10_gateOf_17 rfl ?_
      refine xJ_getR (b := (a + 16)) hX dX10_gateOf_18 fd_X10_35 rfl (oX10_k hL) (oX10_r3 hL) ?_
      refine xJ_getR (b := (a + 20)) hX dX10_gateOf_21 fd_X10_123 rfl (oX5_k (oX10_o3 hL)) (oX5_r3 (oX10_o3 hL)) ?_
      refine xJ_iload_n hX dX10_gateOf_24 rfl ?_
      obtain ⟨h25, hp⟩ := hp
      refine xJ_iald hX dX10_gateOf_25 (oX5_k3 (oX10_o3 hL)) h25.1 (xnlt (oX5_n3 (oX10_o3 hL)) h25.2) ?_
      refine xJ_istore_n hX dX10_gateOf_26 (Nat.le_of_ble_eq_true rfl) rfl ?_
      dsimp only [List.set]
      replace hp := hp _ rfl
      refine xJ_iload_n hX dX10_gateOf_27 rfl ?_
      refine xJ_iconst hX dX10_gateOf_28 ?_
      refine xJ_icmp_eq hX dX10_gateOf_29 (tgt := 37) (by decide) (hM _ _) ⟨by decide, by decide⟩ (fun c29 => ?_) (fun c29 => ?_)
      · replace hp := hp.1 c29
        refine xJ_iconst hX dX10_gateOf_37 ?_
        refine xJ_goto hX dX10_gateOf_38 (tgt := 42) (by decide) ?_
        refine xJ_istore_n hX dX10_gateOf_42 (Nat.le_of_ble_eq_true rfl) rfl ?_
        dsimp only [List.set]
        refine xJ_iload_n hX dX10_gateOf_43 rfl ?_
        refine xJ_if_eq hX dX10_gateOf_44 (tgt := 75) (by decide) ⟨by decide, by decide⟩ (fun c44 => ?_) (fun c44 => ?_)
        · exact absurd c44 (by decide)
        refine xJ_aload_n hX dX10_gateOf_47 rfl ?_
        refine xJ_getR (b := (a + 5)) hX dX10_gateOf_48 fd_X10_21 rfl (oX10_k hL) (oX10_r1 hL) ?_
        refine xJ_aload_n hX dX10_gateOf_51 rfl ?_
        refine xJ_getR (b := (a + 16)) hX dX10_gateOf_52 fd_X10_35 rfl (oX10_k hL) (oX10_r3 hL) ?_
        refine xJ_getR (b := (a + 17)) hX dX10_gateOf_55 fd_X10_126 rfl (oX5_k (oX10_o3 hL)) (oX5_r0 (oX10_o3 hL)) ?_
        refine xJ_iload_n hX dX10_gateOf_58 rfl ?_
        obtain ⟨h59, hp⟩ := hp
        refine xJ_iald hX dX10_gateOf_59 (oX5_k0 (oX10_o3 hL)) h59.1 (xnlt (oX5_n0 (oX10_o3 hL)) h59.2) ?_
        refine xJ_aload_n hX dX10_gateOf_60 rfl ?_
        refine xJ_getR (b := (a + 16)) hX dX10_gateOf_61 fd_X10_35 rfl (oX10_k hL) (oX10_r3 hL) ?_
        refine xJ_getR (b := (a + 21)) hX dX10_gateOf_64 fd_X10_129 rfl (oX5_k (oX10_o3 hL)) (oX5_r4 (oX10_o3 hL)) ?_
        refine xJ_iload_n hX dX10_gateOf_67 rfl ?_
        obtain ⟨h68, hp⟩ := hp
        refine xJ_iald hX dX10_gateOf_68 (oX5_k4 (oX10_o3 hL)) h68.1 (xnlt (oX5_n4 (oX10_o3 hL)) h68.2) ?_
        refine xJ_callV (As := [_, _]) hX hB dX10_gateOf_69 lk_X10_132 im_X1_gateAt se_X1_gateAt rfl (by decide) (oX1_k (oX10_o1 hL)) (c_X1_gateAt (oX10_o1 hL) hM (hM _ _) (hM _ _) hp) (by decide) rfl rfl rfl (Nat.le_of_ble_eq_true rfl) (by decide) (by decide) (fun v t9 M69 hv => ?_) (fun _ _ _ q => q.elim)
        obtain ⟨r69, rfl, h69, hM69, ht9, hp⟩ := hv
        replace ht9 := ht9.symm
        subst ht9
        dsimp only [Option.toList, List.cons_append, List.nil_append]
        refine xJ_goto hX dX10_gateOf_72 (tgt := 76) (by decide) ?_
        refine xJ_iret hX hB dX10_gateOf_76 (by decide) (by decide) ⟨_, rfl, h69, hM69, rfl, hp⟩
      · replace hp := hp.2 c29
        refine xJ_iload_n hX dX10_gateOf_32 rfl ?_
        refine xJ_iconst hX dX10_gateOf_33 ?_
        refine xJ_icmp_ne hX dX10_gateOf_34 (tgt := 41) (by decide) (hM _ _) ⟨by decide, by decide⟩ (fun c34 => ?_) (fun c34 => ?_)
        · replace hp := hp.1 c34
          refine xJ_iconst hX dX10_gateOf_41 ?_
          refine xJ_istore_n hX dX10_gateOf_42 (Nat.le_of_ble_eq_true rfl) rfl ?_
          dsimp only [List.set]
          refine xJ_iload_n hX dX10_gateOf_43 rfl ?_
          refine xJ_if_eq hX dX10_gateOf_44 (tgt := 75) (by decide) ⟨by decide, by decide⟩ (fun c44 => ?_) (fun c44 => ?_)
          rotate_left 1
          · exact absurd c44 (by decide)
          refine xJ_iconst hX dX10_gateOf_75 ?_
          refine xJ_iret hX hB dX10_gateOf_76 (by decide) (by decide) ⟨_, rfl, ⟨by decide, by decide⟩, hM, rfl, hp⟩
        · replace hp := hp.2 c34
          refine xJ_iconst hX dX10_gateOf_37 ?_
          refine xJ_goto hX dX10_gateOf_38 (tgt := 42) (by decide) ?_
          refine xJ_istore_n hX dX10_gateOf_42 (Nat.le_of_ble_eq_true rfl) rfl ?_
          dsimp only [List.set]
          refine xJ_iload_n hX dX10_gateOf_43 rfl ?_
          refine xJ_if_eq hX dX10_gateOf_44 (tgt := 75) (by decide) ⟨by decide, by decide⟩ (fun c44 => ?_) (fun c44 => ?_)
          · exact absurd c44 (by decide)
          refine xJ_aload_n hX dX10_gateOf_47 rfl ?_
          refine xJ_getR (b := (a + 5)) hX dX10_gateOf_48 fd_X10_21 rfl (oX10_k hL) (oX10_r1 hL) ?_
          refine xJ_aload_n hX dX10_gateOf_51 rfl ?_
          refine xJ_getR (b := (a + 16)) hX dX10_gateOf_52 fd_X10_35 rfl (oX10_k hL) (oX10_r3 hL) ?_
          refine xJ_getR (b := (a + 17)) hX dX10_gateOf_55 fd_X10_126 rfl (oX5_k (oX10_o3 hL)) (oX5_r0 (oX10_o3 hL)) ?_
          refine xJ_iload_n hX dX10_gateOf_58 rfl ?_
          obtain ⟨h59, hp⟩ := hp
          refine xJ_iald hX dX10_gateOf_59 (oX5_k0 (oX10_o3 hL)) h59.1 (xnlt (oX5_n0 (oX10_o3 hL)) h59.2) ?_
          refine xJ_aload_n hX dX10_gateOf_60 rfl ?_
          refine xJ_getR (b := (a + 16)) hX dX10_gateOf_61 fd_X10_35 rfl (oX10_k hL) (oX10_r3 hL) ?_
          refine xJ_getR (b := (a + 21)) hX dX10_gateOf_64 fd_X10_129 rfl (oX5_k (oX10_o3 hL)) (oX5_r4 (oX10_o3 hL)) ?_
          refine xJ_iload_n hX dX10_gateOf_67 rfl ?_
          obtain ⟨h68, hp⟩ := hp
          refine xJ_iald hX dX10_gateOf_68 (oX5_k4 (oX10_o3 hL)) h68.1 (xnlt (oX5_n4 (oX10_o3 hL)) h68.2) ?_
          refine xJ_callV (As := [_, _]) hX hB dX10_gateOf_69 lk_X10_132 im_X1_gateAt se_X1_gateAt rfl (by decide) (oX1_k (oX10_o1 hL)) (c_X1_gateAt (oX10_o1 hL) hM (hM _ _) (hM _ _) hp) (by decide) rfl rfl rfl (Nat.le_of_ble_eq_true rfl) (by decide) (by decide) (fun v t9 M69 hv => ?_) (fun _ _ _ q => q.elim)
          obtain ⟨r69, rfl, h69, hM69, ht9, hp⟩ := hv
          replace ht9 := ht9.symm
          subst ht9
          dsimp only [Option.toList, List.cons_append, List.nil_append]
          refine xJ_goto hX dX10_gateOf_72 (tgt := 76) (by decide) ?_
          refine xJ_iret hX hB dX10_gateOf_76 (by decide) (by decide) ⟨_, rfl, h69, hM69, rfl, hp⟩
    · replace hp := hp.2 c12
      refine xJ_iconst hX dX10_gateOf_15 ?_
      refine xJ_iret hX hB dX10_gateOf_16 (by decide) (by decide) ⟨_, rfl, ⟨by decide, by decide⟩, hM, rfl, hp⟩
def p_X10_clearLines_10 (F : Nat) (a : Nat) (Q : xMe → Prop) (K59 : Int → xMe → Prop) : Nat → Int → Int → xMe → Prop
  | 0, _, _, _ => False
  | k + 1, x1, x2, M =>
    ((6 ≤ x2 → K59 x1 M) ∧ (x2 < 6 → (xR (x1 * 6)) ∧ (xR ((x1 * 6) + x2)) ∧ (((M (a + 1) 3) ≤ x1 → p_X4_clear (a + 10) ((x1 * 6) + x2) 0 M (fun M50 => (xR (x2 + 1)) ∧ p_X10_clearLines_10 F a Q K59 k x1 (x2 + 1) M50)) ∧ (x1 < (M (a + 1) 3) → ((0 : Int) ≤ x1 ∧ (x1 : Int) < 6) ∧ p_X4_clear (a + 10) ((x1 * 6) + x2) (M (a + 3) x1.toNat) M (fun M50 => (xR (x2 + 1)) ∧ p_X10_clearLines_10 F a Q K59 k x1 (x2 + 1) M50)))))
def p_X10_clearLines_2 (F : Nat) (a : Nat) (Q : xMe → Prop) : Nat → Int → xMe → Prop
  | 0, _, _ => False
  | k + 1, x1, M =>
    ((6 ≤ x1 → Q M) ∧ (x1 < 6 → p_X10_clearLines_10 F a Q (fun y1 M => (xR (y1 + 1)) ∧ p_X10_clearLines_2 F a Q k (y1 + 1) M) F x1 0 M))
def p_X10_clearLines (F : Nat) (a : Nat) (M : xMe) (Q : xMe → Prop) : Prop :=
  p_X10_clearLines_2 F a Q F 0 M
set_option maxHeartbeats 4000000 in
set_option maxRecDepth 100000 in
theorem c_X10_clearLines {G : xGx} {t : xTh} {M : xMe} {F : Nat} {a : Nat} {Q : xMe → Prop} (hL : oX10 t a) (hM : xMR M)(hp : p_X10_clearLines F a M Q) : xCt G yX10_clearLines cX10_clearLines 3 none 1 0 0 [vr a] t M (fun v t' M' => v = none ∧ xMR M' ∧ t' = t ∧ Q M') (fun _ _ _ => False) := by
  refine xCt_of (L0 := [vr a, vU, vU]) (by decide +kernel) (Nat.le_of_ble_eq_true rfl) rfl ?_
  intro X hX hB
  unfold p_X10_clearLines at hp
  refine xJ_iconst hX dX10_clearLines_0 ?_
  refine xJ_istore_n hX dX10_clearLines_1 (Nat.le_of_ble_eq_true rfl) rfl ?_
  dsimp only [List.set]
  have lp2 : ∀ (k : Nat) (x1 : Int) (M : xMe) (hM : xMR M) (hx1 : xR x1) (hp : p_X10_clearLines_2 F a Q k x1 M), xJ X 0 0 t M 2 [vr a, vi x1, vU] [] := by
    intro k
    induction k with
    | zero => intro x1 M hM hx1 hp; exact hp.elim
    | succ k ih =>
      intro x1 M hM hx1 hp
      unfold p_X10_clearLines_2 at hp
      refine xJ_iload_n hX dX10_clearLines_2 rfl ?_
      refine xJ_bipush hX dX10_clearLines_3 rfl ?_
      refine xJ_icmp_ge hX dX10_clearLines_5 (tgt := 65) (by decide) hx1 ⟨by decide, by decide⟩ (fun c5 => ?_) (fun c5 => ?_)
      · replace hp := hp.1 c5
        refine xJ_vret hX hB dX10_clearLines_65 (by decide) (by decide) ⟨rfl, hM, rfl, hp⟩
      · replace hp := hp.2 c5
        refine xJ_iconst hX dX10_clearLines_8 ?_
        refine xJ_istore_n hX dX10_clearLines_9 (Nat.le_of_ble_eq_true rfl) rfl ?_
        dsimp only [List.set]
        have lp10 : ∀ (K59 : Int → xMe → Prop) (hK59 : ∀ (y1 : Int) (M : xMe) (hM : xMR M) (hy1 : xR y1) (hp : K59 y1 M), xJ X 0 0 t M 59 [vr a, vi y1, vU] []) (k : Nat) (x1 : Int) (x2 : Int) (M : xMe) (hM : xMR M) (hx1 : xR x1) (hx2 : xR x2) (hp : p_X10_clearLines_10 F a Q K59 k x1 x2 M), xJ X 0 0 t M 10 [vr a, vi x1, vi x2] [] := by
          intro K59 hK59 k
          induction k with
          | zero => intro x1 x2 M hM hx1 hx2 hp; exact hp.elim
          | succ k ih =>
            intro x1 x2 M hM hx1 hx2 hp
            unfold p_X10_clearLines_10 at hp
            refine xJ_iload_n hX dX10_clearLines_10 rfl ?_
            refine xJ_bipush hX dX10_clearLines_11 rfl ?_
            refine xJ_icmp_ge hX dX10_clearLines_13 (tgt := 59) (by decide) hx2 ⟨by decide, by decide⟩ (fun c13 => ?_) (fun c13 => ?_)
            · replace hp := hp.1 c13
              refine xJ_fg 2 ?_
              dsimp only [List.set]
              exact hK59 _ _ hM hx1 hp
            · replace hp := hp.2 c13
              refine xJ_aload_n hX dX10_clearLines_16 rfl ?_
              refine xJ_getR (b := (a + 10)) hX dX10_clearLines_17 fd_X10_28 rfl (oX10_k hL) (oX10_r2 hL) ?_
              refine xJ_iload_n hX dX10_clearLines_20 rfl ?_
              refine xJ_bipush hX dX10_clearLines_21 rfl ?_
              refine xJ_imul hX dX10_clearLines_23 ?_
              obtain ⟨h23, hp⟩ := hp
              refine xJ_iload_n hX dX10_clearLines_24 rfl ?_
              refine xJ_iadd hX dX10_clearLines_25 ?_
              obtain ⟨h25, hp⟩ := hp
              refine xJ_iload_n hX dX10_clearLines_26 rfl ?_
              refine xJ_aload_n hX dX10_clearLines_27 rfl ?_
              refine xJ_getR (b := (a + 1)) hX dX10_clearLines_28 fd_X10_12 rfl (oX10_k hL) (oX10_r0 hL) ?_
              refine xJ_getI hX dX10_clearLines_31 fd_X10_107 rfl (oX2_k (oX10_o0 hL)) ?_
              refine xJ_icmp_ge hX dX10_clearLines_34 (tgt := 49) (by decide) hx1 (hM _ _) (fun c34 => ?_) (fun c34 => ?_)
              · replace hp := hp.1 c34
                refine xJ_iconst hX dX10_clearLines_49 ?_
                refine xJ_callV (As := [_, _]) hX hB dX10_clearLines_50 lk_X10_120 im_X4_clear se_X4_clear rfl (by decide) (oX4_k (oX10_o2 hL)) (c_X4_clear (oX10_o2 hL) hM h25 ⟨by decide, by decide⟩ hp) (by decide) rfl rfl rfl (Nat.le_of_ble_eq_true rfl) (by decide) (by decide) (fun v t9 M50 hv => ?_) (fun _ _ _ q => q.elim)
                obtain ⟨rfl, hM50, ht9, hp⟩ := hv
                replace ht9 := ht9.symm
                subst ht9
                dsimp only [Option.toList, List.cons_append, List.nil_append]
                refine xJ_iinc hX dX10_clearLines_53 rfl rfl ?_
                dsimp only [List.set]
                obtain ⟨h53, hp⟩ := hp
                refine xJ_goto hX dX10_clearLines_56 (tgt := 10) (by decide) ?_
                exact ih _ _ _ hM50 hx1 h53 hp
              · replace hp := hp.2 c34
                refine xJ_aload_n hX dX10_clearLines_37 rfl ?_
                refine xJ_getR (b := (a + 1)) hX dX10_clearLines_38 fd_X10_12 rfl (oX10_k hL) (oX10_r0 hL) ?_
                refine xJ_getR (b := (a + 3)) hX dX10_clearLines_41 fd_X10_116 rfl (oX2_k (oX10_o0 hL)) (oX2_r1 (oX10_o0 hL)) ?_
                refine xJ_iload_n hX dX10_clearLines_44 rfl ?_
                obtain ⟨h45, hp⟩ := hp
                refine xJ_iald hX dX10_clearLines_45 (oX2_k1 (oX10_o0 hL)) h45.1 (xnlt (oX2_n1 (oX10_o0 hL)) h45.2) ?_
                refine xJ_goto hX dX10_clearLines_46 (tgt := 50) (by decide) ?_
                refine xJ_callV (As := [_, _]) hX hB dX10_clearLines_50 lk_X10_120 im_X4_clear se_X4_clear rfl (by decide) (oX4_k (oX10_o2 hL)) (c_X4_clear (oX10_o2 hL) hM h25 (hM _ _) hp) (by decide) rfl rfl rfl (Nat.le_of_ble_eq_true rfl) (by decide) (by decide) (fun v t9 M50 hv => ?_) (fun _ _ _ q => q.elim)
                obtain ⟨rfl, hM50, ht9, hp⟩ := hv
                replace ht9 := ht9.symm
                subst ht9
                dsimp only [Option.toList, List.cons_append, List.nil_append]
                refine xJ_iinc hX dX10_clearLines_53 rfl rfl ?_
                dsimp only [List.set]
                obtain ⟨h53, hp⟩ := hp
                refine xJ_goto hX dX10_clearLines_56 (tgt := 10) (by decide) ?_
                exact ih _ _ _ hM50 hx1 h53 hp
        refine lp10 _ (fun y1 M hM hy1 hp => ?_) F _ _ _ hM hx1 ⟨by decide, by decide⟩ hp
        · refine xJ_iinc hX dX10_clearLines_59 rfl rfl ?_
          dsimp only [List.set]
          obtain ⟨h59, hp⟩ := hp
          refine xJ_goto hX dX10_clearLines_62 (tgt := 2) (by decide) ?_
          exact ih _ _ hM h59 hp
  refine lp2 F _ _ hM ⟨by decide, by decide⟩ hp
def p_X10_ticksBeforePassage (F : Nat) (a : Nat) (x1 : Int) (x2 : Int) (M : xMe) (Q : Int → xMe → Prop) : Prop :=
  (xR (x1 * 6)) ∧ (xR ((x1 * 6) + x2)) ∧ (∀ z6 : Int, z6 = (x1 * 6) + x2 → p_X4_firstIn (a + 10) z6 M (fun r12 M12 => ((0 ≤ r12 → ((0 : Int) ≤ r12 ∧ (r12 : Int) < 40) ∧ (∀ z35 : Int, z35 = M12 (a + 19) r12.toNat → ((0 : Int) ≤ z6 ∧ (z6 : Int) < 36) ∧ (∀ z46 : Int, z46 = M12 (a + 11) z6.toNat → p_X2_ticksBefore (a + 1) x1 z46 z35 M12 (fun r57 M57 => p_X0_sumOf F (a + 25) x2 M57 (fun r76 M76 => (xR (z35 - r76)) ∧ p_X2_ticksBefore (a + 1) x1 z46 (z35 - r76) M76 (fun r80 M80 => ((0 : Int) ≤ r12 ∧ (r12 : Int) < 40) ∧ ((0 : Int) ≤ x2 ∧ (x2 : Int) < 6) ∧ (xR ((M80 (a + 22) r12.toNat) + (M80 (a + 8) x2.toNat))) ∧ (xR (((M80 (a + 22) r12.toNat) + (M80 (a + 8) x2.toNat)) - (M80 a 7))) ∧ (∀ z110 : Int, z110 = ((M80 (a + 22) r12.toNat) + (M80 (a + 8) x2.toNat)) - (M80 a 7) → Q (min r57 (max r80 z110)) M80))))))) ∧ (r12 < 0 → Q 1000000 M12))))
set_option maxHeartbeats 4000000 in
set_option maxRecDepth 100000 in
theorem c_X10_ticksBeforePassage {G : xGx} {t : xTh} {M : xMe} {F : Nat} {a : Nat} {x1 : Int} {x2 : Int} {Q : Int → xMe → Prop} (hL : oX10 t a) (hM : xMR M) (hx1 : xR x1) (hx2 : xR x2) (hp : p_X10_ticksBeforePassage F a x1 x2 M Q) : xCt G yX10_ticksBeforePassage cX10_ticksBeforePassage 10 (some .int) 1 0 0 [vr a, vi x1, vi x2] t M (fun v t' M' => ∃ r, v = some (vi r) ∧ xR r ∧ xMR M' ∧ t' = t ∧ Q r M') (fun _ _ _ => False) := by
  refine xCt_of (L0 := [vr a, vi x1, vi x2, vU, vU, vU, vU, vU, vU, vU]) (by decide +kernel) (Nat.le_of_ble_eq_true rfl) rfl ?_
  intro X hX hB
  unfold p_X10_ticksBeforePassage at hp
  refine xJ_iload_n hX dX10_ticksBeforePassage_0 rfl ?_
  refine xJ_bipush hX dX10_ticksBeforePassage_1 rfl ?_
  refine xJ_imul hX dX10_ticksBeforePassage_3 ?_
  obtain ⟨h3, hp⟩ := hp
  refine xJ_iload_n hX dX10_ticksBeforePassage_4 rfl ?_
  refine xJ_iadd hX dX10_ticksBeforePassage_5 ?_
  obtain ⟨h5, hp⟩ := hp
  refine xJ_istore_n hX dX10_ticksBeforePassage_6 (Nat.le_of_ble_eq_true rfl) rfl ?_
  dsimp only [List.set]
  replace hp := hp _ rfl
  refine xJ_aload_n hX dX10_ticksBeforePassage_7 rfl ?_
  refine xJ_getR (b := (a + 10)) hX dX10_ticksBeforePassage_8 fd_X10_28 rfl (oX10_k hL) (oX10_r2 hL) ?_
  refine xJ_iload_n hX dX10_ticksBeforePassage_11 rfl ?_
  refine xJ_callV (As := [_]) hX hB dX10_ticksBeforePassage_12 lk_X10_168 im_X4_firstIn se_X4_firstIn rfl (by decide) (oX4_k (oX10_o2 hL)) (c_X4_firstIn (oX10_o2 hL) hM h5 hp) (by decide) rfl rfl rfl (Nat.le_of_ble_eq_true rfl) (by decide) (by decide) (fun v t9 M12 hv => ?_) (fun _ _ _ q => q.elim)
  obtain ⟨r12, rfl, h12, hM12, ht9, hp⟩ := hv
  replace ht9 := ht9.symm
  subst ht9
  dsimp only [Option.toList, List.cons_append, List.nil_append]
  refine xJ_istore hX dX10_ticksBeforePassage_15 (Nat.le_of_ble_eq_true rfl) rfl ?_
  dsimp only [List.set]
  refine xJ_iload hX dX10_ticksBeforePassage_17 rfl ?_
  refine xJ_if_ge hX dX10_ticksBeforePassage_19 (tgt := 25) (by decide) h12 (fun c19 => ?_) (fun c19 => ?_)
  · replace hp := hp.1 c19
    refine xJ_aload_n hX dX10_ticksBeforePassage_25 rfl ?_
    refine xJ_getR (b := (a + 16)) hX dX10_ticksBeforePassage_26 fd_X10_35 rfl (oX10_k hL) (oX10_r3 hL) ?_
    refine xJ_getR (b := (a + 19)) hX dX10_ticksBeforePassage_29 fd_X10_171 rfl (oX5_k (oX10_o3 hL)) (oX5_r2 (oX10_o3 hL)) ?_
    refine xJ_iload hX dX10_ticksBeforePassage_32 rfl ?_
    obtain ⟨h34, hp⟩ := hp
    refine xJ_iald hX dX10_ticksBeforePassage_34 (oX5_k2 (oX10_o3 hL)) h34.1 (xnlt (oX5_n2 (oX10_o3 hL)) h34.2) ?_
    refine xJ_istore hX dX10_ticksBeforePassage_35 (Nat.le_of_ble_eq_true rfl) rfl ?_
    dsimp only [List.set]
    replace hp := hp _ rfl
    refine xJ_aload_n hX dX10_ticksBeforePassage_37 rfl ?_
    refine xJ_getR (b := (a + 10)) hX dX10_ticksBeforePassage_38 fd_X10_28 rfl (oX10_k hL) (oX10_r2 hL) ?_
    refine xJ_getR (b := (a + 11)) hX dX10_ticksBeforePassage_41 fd_X10_174 rfl (oX4_k (oX10_o2 hL)) (oX4_r0 (oX10_o2 hL)) ?_
    refine xJ_iload_n hX dX10_ticksBeforePassage_44 rfl ?_
    obtain ⟨h45, hp⟩ := hp
    refine xJ_iald hX dX10_ticksBeforePassage_45 (oX4_k0 (oX10_o2 hL)) h45.1 (xnlt (oX4_n0 (oX10_o2 hL)) h45.2) ?_
    refine xJ_istore hX dX10_ticksBeforePassage_46 (Nat.le_of_ble_eq_true rfl) rfl ?_
    dsimp only [List.set]
    replace hp := hp _ rfl
    refine xJ_aload_n hX dX10_ticksBeforePassage_48 rfl ?_
    refine xJ_getR (b := (a + 1)) hX dX10_ticksBeforePassage_49 fd_X10_12 rfl (oX10_k hL) (oX10_r0 hL) ?_
    refine xJ_iload_n hX dX10_ticksBeforePassage_52 rfl ?_
    refine xJ_iload hX dX10_ticksBeforePassage_53 rfl ?_
    refine xJ_iload hX dX10_ticksBeforePassage_55 rfl ?_
    refine xJ_callV (As := [_, _, _]) hX hB dX10_ticksBeforePassage_57 lk_X10_177 im_X2_ticksBefore se_X2_ticksBefore rfl (by decide) (oX2_k (oX10_o0 hL)) (c_X2_ticksBefore (oX10_o0 hL) hM12 hx1 (hM12 _ _) (hM12 _ _) hp) (by decide) rfl rfl rfl (Nat.le_of_ble_eq_true rfl) (by decide) (by decide) (fun v t9 M57 hv => ?_) (fun _ _ _ q => q.elim)
    obtain ⟨r57, rfl, h57, hM57, ht9, hp⟩ := hv
    replace ht9 := ht9.symm
    subst ht9
    dsimp only [Option.toList, List.cons_append, List.nil_append]
    refine xJ_istore hX dX10_ticksBeforePassage_60 (Nat.le_of_ble_eq_true rfl) rfl ?_
    dsimp only [List.set]
    refine xJ_aload_n hX dX10_ticksBeforePassage_62 rfl ?_
    refine xJ_getR (b := (a + 1)) hX dX10_ticksBeforePassage_63 fd_X10_12 rfl (oX10_k hL) (oX10_r0 hL) ?_
    refine xJ_iload_n hX dX10_ticksBeforePassage_66 rfl ?_
    refine xJ_iload hX dX10_ticksBeforePassage_67 rfl ?_
    refine xJ_iload hX dX10_ticksBeforePassage_69 rfl ?_
    refine xJ_aload_n hX dX10_ticksBeforePassage_71 rfl ?_
    refine xJ_getR (b := (a + 25)) hX dX10_ticksBeforePassage_72 fd_X10_42 rfl (oX10_k hL) (oX10_r4 hL) ?_
    refine xJ_iload_n hX dX10_ticksBeforePassage_75 rfl ?_
    refine xJ_callV (As := [_]) hX hB dX10_ticksBeforePassage_76 lk_X10_181 im_X0_sumOf se_X0_sumOf rfl (by decide) (oX0_k (oX10_o4 hL)) (c_X0_sumOf (oX10_o4 hL) hM57 hx2 hp) (by decide) rfl rfl rfl (Nat.le_of_ble_eq_true rfl) (by decide) (by decide) (fun v t9 M76 hv => ?_) (fun _ _ _ q => q.elim)
    obtain ⟨r76, rfl, h76, hM76, ht9, hp⟩ := hv
    replace ht9 := ht9.symm
    subst ht9
    dsimp only [Option.toList, List.cons_append, List.nil_append]
    refine xJ_isub hX dX10_ticksBeforePassage_79 ?_
    obtain ⟨h79, hp⟩ := hp
    refine xJ_callV (As := [_, _, _]) hX hB dX10_ticksBeforePassage_80 lk_X10_177 im_X2_ticksBefore se_X2_ticksBefore rfl (by decide) (oX2_k (oX10_o0 hL)) (c_X2_ticksBefore (oX10_o0 hL) hM76 hx1 (hM12 _ _) h79 hp) (by decide) rfl rfl rfl (Nat.le_of_ble_eq_true rfl) (by decide) (by decide) (fun v t9 M80 hv => ?_) (fun _ _ _ q => q.elim)
    obtain ⟨r80, rfl, h80, hM80, ht9, hp⟩ := hv
    replace ht9 := ht9.symm
    subst ht9
    dsimp only [Option.toList, List.cons_append, List.nil_append]
    refine xJ_istore hX dX10_ticksBeforePassage_83 (Nat.le_of_ble_eq_true rfl) rfl ?_
    dsimp only [List.set]
    refine xJ_aload_n hX dX10_ticksBeforePassage_85 rfl ?_
    refine xJ_getR (b := (a + 16)) hX dX10_ticksBeforePassage_86 fd_X10_35 rfl (oX10_k hL) (oX10_r3 hL) ?_
    refine xJ_getR (b := (a + 22)) hX dX10_ticksBeforePassage_89 fd_X10_184 rfl (oX5_k (oX10_o3 hL)) (oX5_r5 (oX10_o3 hL)) ?_
    refine xJ_iload hX dX10_ticksBeforePassage_92 rfl ?_
    obtain ⟨h94, hp⟩ := hp
    refine xJ_iald hX dX10_ticksBeforePassage_94 (oX5_k5 (oX10_o3 hL)) h94.1 (xnlt (oX5_n5 (oX10_o3 hL)) h94.2) ?_
    refine xJ_aload_n hX dX10_ticksBeforePassage_95 rfl ?_
    refine xJ_getR (b := (a + 5)) hX dX10_ticksBeforePassage_96 fd_X10_21 rfl (oX10_k hL) (oX10_r1 hL) ?_
    refine xJ_getR (b := (a + 8)) hX dX10_ticksBeforePassage_99 fd_X10_187 rfl (oX1_k (oX10_o1 hL)) (oX1_r2 (oX10_o1 hL)) ?_
    refine xJ_iload_n hX dX10_ticksBeforePassage_102 rfl ?_
    obtain ⟨h103, hp⟩ := hp
    refine xJ_iald hX dX10_ticksBeforePassage_103 (oX1_k2 (oX10_o1 hL)) h103.1 (xnlt (oX1_n2 (oX10_o1 hL)) h103.2) ?_
    refine xJ_iadd hX dX10_ticksBeforePassage_104 ?_
    obtain ⟨h104, hp⟩ := hp
    refine xJ_aload_n hX dX10_ticksBeforePassage_105 rfl ?_
    refine xJ_getI hX dX10_ticksBeforePassage_106 fd_X10_98 rfl (oX10_k hL) ?_
    refine xJ_isub hX dX10_ticksBeforePassage_109 ?_
    obtain ⟨h109, hp⟩ := hp
    refine xJ_istore hX dX10_ticksBeforePassage_110 (Nat.le_of_ble_eq_true rfl) rfl ?_
    dsimp only [List.set]
    replace hp := hp _ rfl
    refine xJ_iload hX dX10_ticksBeforePassage_112 rfl ?_
    refine xJ_iload hX dX10_ticksBeforePassage_114 rfl ?_
    refine xJ_iload hX dX10_ticksBeforePassage_116 rfl ?_
    refine xJ_mmax hX hB dX10_ticksBeforePassage_118 lj_X10_165 jw_max_st jw_ma_in jw_max_co rfl (by decide) (Nat.le_of_ble_eq_true rfl) (by decide) (by decide) h80 h109 ?_
    refine xJ_mmin hX hB dX10_ticksBeforePassage_121 lj_X10_154 jw_min_st jw_ma_in jw_min_co rfl (by decide) (Nat.le_of_ble_eq_true rfl) (by decide) (by decide) h57 (xR_max h80 h109) ?_
    refine xJ_iret hX hB dX10_ticksBeforePassage_124 (by decide) (by decide) ⟨_, rfl, (xR_min h57 (xR_max h80 h109)), hM80, rfl, hp⟩
  · replace hp := hp.2 c19
    refine xJ_ldc (1000000) hX dX10_ticksBeforePassage_22 kc_X10_75 ?_
    refine xJ_iret hX hB dX10_ticksBeforePassage_24 (by decide) (by decide) ⟨_, rfl, ⟨by decide, by decide⟩, hM12, rfl, hp⟩
def p_X10_quietTicks_4 (F : Nat) (a : Nat) (Q : Int → xMe → Prop) (K67 : Int → xMe → Prop) : Nat → Int → Int → xMe → Prop
  | 0, _, _, _ => False
  | k + 1, x2, x3, M =>
    (((M (a + 16) 8) ≤ x3 → K67 x2 M) ∧ (x3 < (M (a + 16) 8) → ((0 : Int) ≤ x3 ∧ (x3 : Int) < 40) ∧ (((M (a + 20) x3.toNat) ≠ 2 → ((0 : Int) ≤ x3 ∧ (x3 : Int) < 40) ∧ (((M (a + 20) x3.toNat) ≠ 0 → (xR (x3 + 1)) ∧ p_X10_quietTicks_4 F a Q K67 k x2 (x3 + 1) M) ∧ ((M (a + 20) x3.toNat) = 0 → ((0 : Int) ≤ x3 ∧ (x3 : Int) < 40) ∧ (xR ((M (a + 18) x3.toNat) - (M a 7))) ∧ (∀ z60 : Int, z60 = min x2 ((M (a + 18) x3.toNat) - (M a 7)) → (xR (x3 + 1)) ∧ p_X10_quietTicks_4 F a Q K67 k z60 (x3 + 1) M)))) ∧ ((M (a + 20) x3.toNat) = 2 → Q 0 M))))
def p_X10_quietTicks_69 (F : Nat) (a : Nat) (Q : Int → xMe → Prop) (K105 : Int → xMe → Prop) : Nat → Int → Int → xMe → Prop
  | 0, _, _, _ => False
  | k + 1, x2, x3, M =>
    (((M (a + 25) 4) ≤ x3 → K105 x2 M) ∧ (x3 < (M (a + 25) 4) → ((0 : Int) ≤ x3 ∧ (x3 : Int) < 30) ∧ (xR ((M (a + 28) x3.toNat) - (M a 7))) ∧ (∀ z98 : Int, z98 = min x2 ((M (a + 28) x3.toNat) - (M a 7)) → (xR (x3 + 1)) ∧ p_X10_quietTicks_69 F a Q K105 k z98 (x3 + 1) M)))
def p_X10_quietTicks_125 (F : Nat) (a : Nat) (Q : Int → xMe → Prop) (K155 : Int → Int → xMe → Prop) : Nat → Int → Int → Int → xMe → Prop
  | 0, _, _, _, _ => False
  | k + 1, x2, x3, x4, M =>
    (((M (a + 5) 4) ≤ x4 → K155 x2 x3 M) ∧ (x4 < (M (a + 5) 4) → p_X10_ticksBeforePassage F a x3 x4 M (fun r142 M142 => (∀ z148 : Int, z148 = min x2 r142 → (xR (x4 + 1)) ∧ p_X10_quietTicks_125 F a Q K155 k z148 x3 (x4 + 1) M142))))
def p_X10_quietTicks_107 (F : Nat) (a : Nat) (Q : Int → xMe → Prop) : Nat → Int → Int → xMe → Prop
  | 0, _, _, _ => False
  | k + 1, x2, x3, M =>
    (((M (a + 1) 3) ≤ x3 → Q (max 0 x2) M) ∧ (x3 < (M (a + 1) 3) → ((x2 ≤ 0 → Q (max 0 x2) M) ∧ (0 < x2 → p_X10_quietTicks_125 F a Q (fun y2 y3 M => (xR (y3 + 1)) ∧ p_X10_quietTicks_107 F a Q k y2 (y3 + 1) M) F x2 x3 0 M))))
def p_X10_quietTicks (F : Nat) (a : Nat) (x1 : Int) (M : xMe) (Q : Int → xMe → Prop) : Prop :=
  p_X10_quietTicks_4 F a Q (fun y2 M => p_X10_quietTicks_69 F a Q (fun y2 M => p_X10_quietTicks_107 F a Q F y2 0 M) F y2 0 M) F x1 0 M
set_option maxHeartbeats 4000000 in
set_option maxRecDepth 100000 in
theorem c_X10_quietTicks {G : xGx} {t : xTh} {M : xMe} {F : Nat} {a : Nat} {x1 : Int} {Q : Int → xMe → Prop} (hL : oX10 t a) (hM : xMR M) (hx1 : xR x1) (hp : p_X10_quietTicks F a x1 M Q) : xCt G yX10_quietTicks cX10_quietTicks 5 (some .int) 2 0 0 [vr a, vi x1] t M (fun v t' M' => ∃ r, v = some (vi r) ∧ xR r ∧ xMR M' ∧ t' = t ∧ Q r M') (fun _ _ _ => False) := by
  refine xCt_of (L0 := [vr a, vi x1, vU, vU, vU]) (by decide +kernel) (Nat.le_of_ble_eq_true rfl) rfl ?_
  intro X hX hB
  unfold p_X10_quietTicks at hp
  refine xJ_iload_n hX dX10_quietTicks_0 rfl ?_
  refine xJ_istore_n hX dX10_quietTicks_1 (Nat.le_of_ble_eq_true rfl) rfl ?_
  dsimp only [List.set]
  refine xJ_iconst hX dX10_quietTicks_2 ?_
  refine xJ_istore_n hX dX10_quietTicks_3 (Nat.le_of_ble_eq_true rfl) rfl ?_
  dsimp only [List.set]
  refine xJ_fg 1 ?_
  dsimp only [List.set]
  have lp4 : ∀ (K67 : Int → xMe → Prop) (hK67 : ∀ (y2 : Int) (M : xMe) (hM : xMR M) (hy2 : xR y2) (hp : K67 y2 M), xJ X 0 0 t M 67 [vr a, vU, vi y2, vU, vU] []) (k : Nat) (x2 : Int) (x3 : Int) (M : xMe) (hM : xMR M) (hx2 : xR x2) (hx3 : xR x3) (hp : p_X10_quietTicks_4 F a Q K67 k x2 x3 M), xJ X 0 0 t M 4 [vr a, vU, vi x2, vi x3, vU] [] := by
    intro K67 hK67 k
    induction k with
    | zero => intro x2 x3 M hM hx2 hx3 hp; exact hp.elim
    | succ k ih =>
      intro x2 x3 M hM hx2 hx3 hp
      unfold p_X10_quietTicks_4 at hp
      refine xJ_iload_n hX dX10_quietTicks_4 rfl ?_
      refine xJ_aload_n hX dX10_quietTicks_5 rfl ?_
      refine xJ_getR (b := (a + 16)) hX dX10_quietTicks_6 fd_X10_35 rfl (oX10_k hL) (oX10_r3 hL) ?_
      refine xJ_getI hX dX10_quietTicks_9 fd_X10_111 rfl (oX5_k (oX10_o3 hL)) ?_
      refine xJ_icmp_ge hX dX10_quietTicks_12 (tgt := 67) (by decide) hx3 (hM _ _) (fun c12 => ?_) (fun c12 => ?_)
      · replace hp := hp.1 c12
        refine xJ_fg 3 ?_
        dsimp only [List.set]
        exact hK67 _ _ hM hx2 hp
      · replace hp := hp.2 c12
        refine xJ_aload_n hX dX10_quietTicks_15 rfl ?_
        refine xJ_getR (b := (a + 16)) hX dX10_quietTicks_16 fd_X10_35 rfl (oX10_k hL) (oX10_r3 hL) ?_
        refine xJ_getR (b := (a + 20)) hX dX10_quietTicks_19 fd_X10_123 rfl (oX5_k (oX10_o3 hL)) (oX5_r3 (oX10_o3 hL)) ?_
        refine xJ_iload_n hX dX10_quietTicks_22 rfl ?_
        obtain ⟨h23, hp⟩ := hp
        refine xJ_iald hX dX10_quietTicks_23 (oX5_k3 (oX10_o3 hL)) h23.1 (xnlt (oX5_n3 (oX10_o3 hL)) h23.2) ?_
        refine xJ_iconst hX dX10_quietTicks_24 ?_
        refine xJ_icmp_ne hX dX10_quietTicks_25 (tgt := 30) (by decide) (hM _ _) ⟨by decide, by decide⟩ (fun c25 => ?_) (fun c25 => ?_)
        · replace hp := hp.1 c25
          refine xJ_aload_n hX dX10_quietTicks_30 rfl ?_
          refine xJ_getR (b := (a + 16)) hX dX10_quietTicks_31 fd_X10_35 rfl (oX10_k hL) (oX10_r3 hL) ?_
          refine xJ_getR (b := (a + 20)) hX dX10_quietTicks_34 fd_X10_123 rfl (oX5_k (oX10_o3 hL)) (oX5_r3 (oX10_o3 hL)) ?_
          refine xJ_iload_n hX dX10_quietTicks_37 rfl ?_
          obtain ⟨h38, hp⟩ := hp
          refine xJ_iald hX dX10_quietTicks_38 (oX5_k3 (oX10_o3 hL)) h38.1 (xnlt (oX5_n3 (oX10_o3 hL)) h38.2) ?_
          refine xJ_if_ne hX dX10_quietTicks_39 (tgt := 61) (by decide) (hM _ _) (fun c39 => ?_) (fun c39 => ?_)
          · replace hp := hp.1 c39
            refine xJ_iinc hX dX10_quietTicks_61 rfl rfl ?_
            dsimp only [List.set]
            obtain ⟨h61, hp⟩ := hp
            refine xJ_goto hX dX10_quietTicks_64 (tgt := 4) (by decide) ?_
            exact ih _ _ _ hM hx2 h61 hp
          · replace hp := hp.2 c39
            refine xJ_iload_n hX dX10_quietTicks_42 rfl ?_
            refine xJ_aload_n hX dX10_quietTicks_43 rfl ?_
            refine xJ_getR (b := (a + 16)) hX dX10_quietTicks_44 fd_X10_35 rfl (oX10_k hL) (oX10_r3 hL) ?_
            refine xJ_getR (b := (a + 18)) hX dX10_quietTicks_47 fd_X10_151 rfl (oX5_k (oX10_o3 hL)) (oX5_r1 (oX10_o3 hL)) ?_
            refine xJ_iload_n hX dX10_quietTicks_50 rfl ?_
            obtain ⟨h51, hp⟩ := hp
            refine xJ_iald hX dX10_quietTicks_51 (oX5_k1 (oX10_o3 hL)) h51.1 (xnlt (oX5_n1 (oX10_o3 hL)) h51.2) ?_
            refine xJ_aload_n hX dX10_quietTicks_52 rfl ?_
            refine xJ_getI hX dX10_quietTicks_53 fd_X10_98 rfl (oX10_k hL) ?_
            refine xJ_isub hX dX10_quietTicks_56 ?_
            obtain ⟨h56, hp⟩ := hp
            refine xJ_mmin hX hB dX10_quietTicks_57 lj_X10_154 jw_min_st jw_ma_in jw_min_co rfl (by decide) (Nat.le_of_ble_eq_true rfl) (by decide) (by decide) hx2 h56 ?_
            refine xJ_istore_n hX dX10_quietTicks_60 (Nat.le_of_ble_eq_true rfl) rfl ?_
            dsimp only [List.set]
            replace hp := hp _ rfl
            refine xJ_iinc hX dX10_quietTicks_61 rfl rfl ?_
            dsimp only [List.set]
            obtain ⟨h61, hp⟩ := hp
            refine xJ_goto hX dX10_quietTicks_64 (tgt := 4) (by decide) ?_
            exact ih _ _ _ hM (xR_min hx2 h56) h61 hp
        · replace hp := hp.2 c25
          refine xJ_iconst hX dX10_quietTicks_28 ?_
          refine xJ_iret hX hB dX10_quietTicks_29 (by decide) (by decide) ⟨_, rfl, ⟨by decide, by decide⟩, hM, rfl, hp⟩
  refine lp4 _ (fun y2 M hM hy2 hp => ?_) F _ _ _ hM hx1 ⟨by decide, by decide⟩ hp
  · refine xJ_iconst hX dX10_quietTicks_67 ?_
    refine xJ_istore_n hX dX10_quietTicks_68 (Nat.le_of_ble_eq_true rfl) rfl ?_
    dsimp only [List.set]
    have lp69 : ∀ (K105 : Int → xMe → Prop) (hK105 : ∀ (y2 : Int) (M : xMe) (hM : xMR M) (hy2 : xR y2) (hp : K105 y2 M), xJ X 0 0 t M 105 [vr a, vU, vi y2, vU, vU] []) (k : Nat) (x2 : Int) (x3 : Int) (M : xMe) (hM : xMR M) (hx2 : xR x2) (hx3 : xR x3) (hp : p_X10_quietTicks_69 F a Q K105 k x2 x3 M), xJ X 0 0 t M 69 [vr a, vU, vi x2, vi x3, vU] [] := by
      intro K105 hK105 k
      induction k with
      | zero => intro x2 x3 M hM hx2 hx3 hp; exact hp.elim
      | succ k ih =>
        intro x2 x3 M hM hx2 hx3 hp
        unfold p_X10_quietTicks_69 at hp
        refine xJ_iload_n hX dX10_quietTicks_69 rfl ?_
        refine xJ_aload_n hX dX10_quietTicks_70 rfl ?_
        refine xJ_getR (b := (a + 25)) hX dX10_quietTicks_71 fd_X10_42 rfl (oX10_k hL) (oX10_r4 hL) ?_
        refine xJ_getI hX dX10_quietTicks_74 fd_X10_112 rfl (oX0_k (oX10_o4 hL)) ?_
        refine xJ_icmp_ge hX dX10_quietTicks_77 (tgt := 105) (by decide) hx3 (hM _ _) (fun c77 => ?_) (fun c77 => ?_)
        · replace hp := hp.1 c77
          refine xJ_fg 3 ?_
          dsimp only [List.set]
          exact hK105 _ _ hM hx2 hp
        · replace hp := hp.2 c77
          refine xJ_iload_n hX dX10_quietTicks_80 rfl ?_
          refine xJ_aload_n hX dX10_quietTicks_81 rfl ?_
          refine xJ_getR (b := (a + 25)) hX dX10_quietTicks_82 fd_X10_42 rfl (oX10_k hL) (oX10_r4 hL) ?_
          refine xJ_getR (b := (a + 28)) hX dX10_quietTicks_85 fd_X10_159 rfl (oX0_k (oX10_o4 hL)) (oX0_r2 (oX10_o4 hL)) ?_
          refine xJ_iload_n hX dX10_quietTicks_88 rfl ?_
          obtain ⟨h89, hp⟩ := hp
          refine xJ_iald hX dX10_quietTicks_89 (oX0_k2 (oX10_o4 hL)) h89.1 (xnlt (oX0_n2 (oX10_o4 hL)) h89.2) ?_
          refine xJ_aload_n hX dX10_quietTicks_90 rfl ?_
          refine xJ_getI hX dX10_quietTicks_91 fd_X10_98 rfl (oX10_k hL) ?_
          refine xJ_isub hX dX10_quietTicks_94 ?_
          obtain ⟨h94, hp⟩ := hp
          refine xJ_mmin hX hB dX10_quietTicks_95 lj_X10_154 jw_min_st jw_ma_in jw_min_co rfl (by decide) (Nat.le_of_ble_eq_true rfl) (by decide) (by decide) hx2 h94 ?_
          refine xJ_istore_n hX dX10_quietTicks_98 (Nat.le_of_ble_eq_true rfl) rfl ?_
          dsimp only [List.set]
          replace hp := hp _ rfl
          refine xJ_iinc hX dX10_quietTicks_99 rfl rfl ?_
          dsimp only [List.set]
          obtain ⟨h99, hp⟩ := hp
          refine xJ_goto hX dX10_quietTicks_102 (tgt := 69) (by decide) ?_
          exact ih _ _ _ hM (xR_min hx2 h94) h99 hp
    refine lp69 _ (fun y2 M hM hy2 hp => ?_) F _ _ _ hM hy2 ⟨by decide, by decide⟩ hp
    · refine xJ_iconst hX dX10_quietTicks_105 ?_
      refine xJ_istore_n hX dX10_quietTicks_106 (Nat.le_of_ble_eq_true rfl) rfl ?_
      dsimp only [List.set]
      have lp107 : ∀ (k : Nat) (x2 : Int) (x3 : Int) (M : xMe) (hM : xMR M) (hx2 : xR x2) (hx3 : xR x3) (hp : p_X10_quietTicks_107 F a Q k x2 x3 M), xJ X 0 0 t M 107 [vr a, vU, vi x2, vi x3, vU] [] := by
        intro k
        induction k with
        | zero => intro x2 x3 M hM hx2 hx3 hp; exact hp.elim
        | succ k ih =>
          intro x2 x3 M hM hx2 hx3 hp
          unfold p_X10_quietTicks_107 at hp
          refine xJ_iload_n hX dX10_quietTicks_107 rfl ?_
          refine xJ_aload_n hX dX10_quietTicks_108 rfl ?_
          refine xJ_getR (b := (a + 1)) hX dX10_quietTicks_109 fd_X10_12 rfl (oX10_k hL) (oX10_r0 hL) ?_
          refine xJ_getI hX dX10_quietTicks_112 fd_X10_107 rfl (oX2_k (oX10_o0 hL)) ?_
          refine xJ_icmp_ge hX dX10_quietTicks_115 (tgt := 161) (by decide) hx3 (hM _ _) (fun c115 => ?_) (fun c115 => ?_)
          · replace hp := hp.1 c115
            refine xJ_iconst hX dX10_quietTicks_161 ?_
            refine xJ_iload_n hX dX10_quietTicks_162 rfl ?_
            refine xJ_mmax hX hB dX10_quietTicks_163 lj_X10_165 jw_max_st jw_ma_in jw_max_co rfl (by decide) (Nat.le_of_ble_eq_true rfl) (by decide) (by decide) ⟨by decide, by decide⟩ hx2 ?_
            refine xJ_iret hX hB dX10_quietTicks_166 (by decide) (by decide) ⟨_, rfl, (xR_max ⟨by decide, by decide⟩ hx2), hM, rfl, hp⟩
          · replace hp := hp.2 c115
            refine xJ_iload_n hX dX10_quietTicks_118 rfl ?_
            refine xJ_if_le hX dX10_quietTicks_119 (tgt := 161) (by decide) hx2 (fun c119 => ?_) (fun c119 => ?_)
            · replace hp := hp.1 c119
              refine xJ_iconst hX dX10_quietTicks_161 ?_
              refine xJ_iload_n hX dX10_quietTicks_162 rfl ?_
              refine xJ_mmax hX hB dX10_quietTicks_163 lj_X10_165 jw_max_st jw_ma_in jw_max_co rfl (by decide) (Nat.le_of_ble_eq_true rfl) (by decide) (by decide) ⟨by decide, by decide⟩ hx2 ?_
              refine xJ_iret hX hB dX10_quietTicks_166 (by decide) (by decide) ⟨_, rfl, (xR_max ⟨by decide, by decide⟩ hx2), hM, rfl, hp⟩
            · replace hp := hp.2 c119
              refine xJ_iconst hX dX10_quietTicks_122 ?_
              refine xJ_istore hX dX10_quietTicks_123 (Nat.le_of_ble_eq_true rfl) rfl ?_
              dsimp only [List.set]
              have lp125 : ∀ (K155 : Int → Int → xMe → Prop) (hK155 : ∀ (y2 : Int) (y3 : Int) (M : xMe) (hM : xMR M) (hy2 : xR y2) (hy3 : xR y3) (hp : K155 y2 y3 M), xJ X 0 0 t M 155 [vr a, vU, vi y2, vi y3, vU] []) (k : Nat) (x2 : Int) (x3 : Int) (x4 : Int) (M : xMe) (hM : xMR M) (hx2 : xR x2) (hx3 : xR x3) (hx4 : xR x4) (hp : p_X10_quietTicks_125 F a Q K155 k x2 x3 x4 M), xJ X 0 0 t M 125 [vr a, vU, vi x2, vi x3, vi x4] [] := by
                intro K155 hK155 k
                induction k with
                | zero => intro x2 x3 x4 M hM hx2 hx3 hx4 hp; exact hp.elim
                | succ k ih =>
                  intro x2 x3 x4 M hM hx2 hx3 hx4 hp
                  unfold p_X10_quietTicks_125 at hp
                  refine xJ_iload hX dX10_quietTicks_125 rfl ?_
                  refine xJ_aload_n hX dX10_quietTicks_127 rfl ?_
                  refine xJ_getR (b := (a + 5)) hX dX10_quietTicks_128 fd_X10_21 rfl (oX10_k hL) (oX10_r1 hL) ?_
                  refine xJ_getI hX dX10_quietTicks_131 fd_X10_110 rfl (oX1_k (oX10_o1 hL)) ?_
                  refine xJ_icmp_ge hX dX10_quietTicks_134 (tgt := 155) (by decide) hx4 (hM _ _) (fun c134 => ?_) (fun c134 => ?_)
                  · replace hp := hp.1 c134
                    refine xJ_fg 4 ?_
                    dsimp only [List.set]
                    exact hK155 _ _ _ hM hx2 hx3 hp
                  · replace hp := hp.2 c134
                    refine xJ_iload_n hX dX10_quietTicks_137 rfl ?_
                    refine xJ_aload_n hX dX10_quietTicks_138 rfl ?_
                    refine xJ_iload_n hX dX10_quietTicks_139 rfl ?_
                    refine xJ_iload hX dX10_quietTicks_140 rfl ?_
                    refine xJ_callV (As := [_, _]) hX hB dX10_quietTicks_142 lk_X10_162 im_X10_ticksBeforePassage se_X10_ticksBeforePassage rfl (by decide) (oX10_k hL) (c_X10_ticksBeforePassage hL hM hx3 hx4 hp) (by decide) rfl rfl rfl (Nat.le_of_ble_eq_true rfl) (by decide) (by decide) (fun v t9 M142 hv => ?_) (fun _ _ _ q => q.elim)
                    obtain ⟨r142, rfl, h142, hM142, ht9, hp⟩ := hv
                    replace ht9 := ht9.symm
                    subst ht9
                    dsimp only [Option.toList, List.cons_append, List.nil_append]
                    refine xJ_mmin hX hB dX10_quietTicks_145 lj_X10_154 jw_min_st jw_ma_in jw_min_co rfl (by decide) (Nat.le_of_ble_eq_true rfl) (by decide) (by decide) hx2 h142 ?_
                    refine xJ_istore_n hX dX10_quietTicks_148 (Nat.le_of_ble_eq_true rfl) rfl ?_
                    dsimp only [List.set]
                    replace hp := hp _ rfl
                    refine xJ_iinc hX dX10_quietTicks_149 rfl rfl ?_
                    dsimp only [List.set]
                    obtain ⟨h149, hp⟩ := hp
                    refine xJ_goto hX dX10_quietTicks_152 (tgt := 125) (by decide) ?_
                    exact ih _ _ _ _ hM142 (xR_min hx2 h142) hx3 h149 hp
              refine lp125 _ (fun y2 y3 M hM hy2 hy3 hp => ?_) F _ _ _ _ hM hx2 hx3 ⟨by decide, by decide⟩ hp
              · refine xJ_iinc hX dX10_quietTicks_155 rfl rfl ?_
                dsimp only [List.set]
                obtain ⟨h155, hp⟩ := hp
                refine xJ_goto hX dX10_quietTicks_158 (tgt := 107) (by decide) ?_
                exact ih _ _ _ hM hy2 h155 hp
      refine lp107 F _ _ _ hM hy2 ⟨by decide, by decide⟩ hp
def p_X10_refill_28 (F : Nat) (a : Nat) (Q : xMe → Prop) (K89 : Int → Int → xMe → Prop) : Nat → Int → Int → Int → Int → xMe → Prop
  | 0, _, _, _, _, _ => False
  | k + 1, x1, x2, x3, x4, M =>
    (((M (a + 5) 4) ≤ x4 → K89 x1 x2 M) ∧ (x4 < (M (a + 5) 4) → (xR (x2 * 6)) ∧ (xR ((x2 * 6) + x4)) ∧ (∀ z47 : Int, z47 = (x2 * 6) + x4 → ((0 : Int) ≤ x2 ∧ (x2 : Int) < 6) ∧ ((0 : Int) ≤ z47 ∧ (z47 : Int) < 36) ∧ (xR ((M (a + 11) z47.toNat) + x3)) ∧ ((0 : Int) ≤ z47 ∧ (z47 : Int) < 36) ∧ (∀ M82 : xMe, M82 = xw M (a + 11) z47.toNat (min (M (a + 3) x2.toNat) ((M (a + 11) z47.toNat) + x3)) → (xR (x4 + 1)) ∧ p_X10_refill_28 F a Q K89 k x1 x2 x3 (x4 + 1) M82))))
def p_X10_refill_2 (F : Nat) (a : Nat) (Q : xMe → Prop) : Nat → Int → Int → xMe → Prop
  | 0, _, _, _ => False
  | k + 1, x1, x2, M =>
    (((M (a + 1) 3) ≤ x2 → Q M) ∧ (x2 < (M (a + 1) 3) → ((0 : Int) ≤ x2 ∧ (x2 : Int) < 6) ∧ (xR ((M (a + 2) x2.toNat) * x1)) ∧ (∀ z24 : Int, z24 = (M (a + 2) x2.toNat) * x1 → p_X10_refill_28 F a Q (fun y1 y2 M => (xR (y2 + 1)) ∧ p_X10_refill_2 F a Q k y1 (y2 + 1) M) F x1 x2 z24 0 M)))
def p_X10_refill (F : Nat) (a : Nat) (x1 : Int) (M : xMe) (Q : xMe → Prop) : Prop :=
  p_X10_refill_2 F a Q F x1 0 M
set_option maxHeartbeats 4000000 in
set_option maxRecDepth 100000 in
theorem c_X10_refill {G : xGx} {t : xTh} {M : xMe} {F : Nat} {a : Nat} {x1 : Int} {Q : xMe → Prop} (hL : oX10 t a) (hM : xMR M) (hx1 : xR x1) (hp : p_X10_refill F a x1 M Q) : xCt G yX10_refill cX10_refill 6 none 1 0 0 [vr a, vi x1] t M (fun v t' M' => v = none ∧ xMR M' ∧ t' = t ∧ Q M') (fun _ _ _ => False) := by
  refine xCt_of (L0 := [vr a, vi x1, vU, vU, vU, vU]) (by decide +kernel) (Nat.le_of_ble_eq_true rfl) rfl ?_
  intro X hX hB
  unfold p_X10_refill at hp
  refine xJ_iconst hX dX10_refill_0 ?_
  refine xJ_istore_n hX dX10_refill_1 (Nat.le_of_ble_eq_true rfl) rfl ?_
  dsimp only [List.set]
  have lp2 : ∀ (k : Nat) (x1 : Int) (x2 : Int) (M : xMe) (hM : xMR M) (hx1 : xR x1) (hx2 : xR x2) (hp : p_X10_refill_2 F a Q k x1 x2 M), xJ X 0 0 t M 2 [vr a, vi x1, vi x2, vU, vU, vU] [] := by
    intro k
    induction k with
    | zero => intro x1 x2 M hM hx1 hx2 hp; exact hp.elim
    | succ k ih =>
      intro x1 x2 M hM hx1 hx2 hp
      unfold p_X10_refill_2 at hp
      refine xJ_iload_n hX dX10_refill_2 rfl ?_
      refine xJ_aload_n hX dX10_refill_3 rfl ?_
      refine xJ_getR (b := (a + 1)) hX dX10_refill_4 fd_X10_12 rfl (oX10_k hL) (oX10_r0 hL) ?_
      refine xJ_getI hX dX10_refill_7 fd_X10_107 rfl (oX2_k (oX10_o0 hL)) ?_
      refine xJ_icmp_ge hX dX10_refill_10 (tgt := 95) (by decide) hx2 (hM _ _) (fun c10 => ?_) (fun c10 => ?_)
      · replace hp := hp.1 c10
        refine xJ_vret hX hB dX10_refill_95 (by decide) (by decide) ⟨rfl, hM, rfl, hp⟩
      · replace hp := hp.2 c10
        refine xJ_aload_n hX dX10_refill_13 rfl ?_
        refine xJ_getR (b := (a + 1)) hX dX10_refill_14 fd_X10_12 rfl (oX10_k hL) (oX10_r0 hL) ?_
        refine xJ_getR (b := (a + 2)) hX dX10_refill_17 fd_X10_206 rfl (oX2_k (oX10_o0 hL)) (oX2_r0 (oX10_o0 hL)) ?_
        refine xJ_iload_n hX dX10_refill_20 rfl ?_
        obtain ⟨h21, hp⟩ := hp
        refine xJ_iald hX dX10_refill_21 (oX2_k0 (oX10_o0 hL)) h21.1 (xnlt (oX2_n0 (oX10_o0 hL)) h21.2) ?_
        refine xJ_iload_n hX dX10_refill_22 rfl ?_
        refine xJ_imul hX dX10_refill_23 ?_
        obtain ⟨h23, hp⟩ := hp
        refine xJ_istore_n hX dX10_refill_24 (Nat.le_of_ble_eq_true rfl) rfl ?_
        dsimp only [List.set]
        replace hp := hp _ rfl
        refine xJ_iconst hX dX10_refill_25 ?_
        refine xJ_istore hX dX10_refill_26 (Nat.le_of_ble_eq_true rfl) rfl ?_
        dsimp only [List.set]
        have lp28 : ∀ (K89 : Int → Int → xMe → Prop) (hK89 : ∀ (y1 : Int) (y2 : Int) (M : xMe) (hM : xMR M) (hy1 : xR y1) (hy2 : xR y2) (hp : K89 y1 y2 M), xJ X 0 0 t M 89 [vr a, vi y1, vi y2, vU, vU, vU] []) (k : Nat) (x1 : Int) (x2 : Int) (x3 : Int) (x4 : Int) (M : xMe) (hM : xMR M) (hx1 : xR x1) (hx2 : xR x2) (hx3 : xR x3) (hx4 : xR x4) (hp : p_X10_refill_28 F a Q K89 k x1 x2 x3 x4 M), xJ X 0 0 t M 28 [vr a, vi x1, vi x2, vi x3, vi x4, vU] [] := by
          intro K89 hK89 k
          induction k with
          | zero => intro x1 x2 x3 x4 M hM hx1 hx2 hx3 hx4 hp; exact hp.elim
          | succ k ih =>
            intro x1 x2 x3 x4 M hM hx1 hx2 hx3 hx4 hp
            unfold p_X10_refill_28 at hp
            refine xJ_iload hX dX10_refill_28 rfl ?_
            refine xJ_aload_n hX dX10_refill_30 rfl ?_
            refine xJ_getR (b := (a + 5)) hX dX10_refill_31 fd_X10_21 rfl (oX10_k hL) (oX10_r1 hL) ?_
            refine xJ_getI hX dX10_refill_34 fd_X10_110 rfl (oX1_k (oX10_o1 hL)) ?_
            refine xJ_icmp_ge hX dX10_refill_37 (tgt := 89) (by decide) hx4 (hM _ _) (fun c37 => ?_) (fun c37 => ?_)
            · replace hp := hp.1 c37
              refine xJ_fg 3 ?_
              dsimp only [List.set]
              refine xJ_fg 4 ?_
              dsimp only [List.set]
              exact hK89 _ _ _ hM hx1 hx2 hp
            · replace hp := hp.2 c37
              refine xJ_iload_n hX dX10_refill_40 rfl ?_
              refine xJ_bipush hX dX10_refill_41 rfl ?_
              refine xJ_imul hX dX10_refill_43 ?_
              obtain ⟨h43, hp⟩ := hp
              refine xJ_iload hX dX10_refill_44 rfl ?_
              refine xJ_iadd hX dX10_refill_46 ?_
              obtain ⟨h46, hp⟩ := hp
              refine xJ_istore hX dX10_refill_47 (Nat.le_of_ble_eq_true rfl) rfl ?_
              dsimp only [List.set]
              replace hp := hp _ rfl
              refine xJ_aload_n hX dX10_refill_49 rfl ?_
              refine xJ_getR (b := (a + 10)) hX dX10_refill_50 fd_X10_28 rfl (oX10_k hL) (oX10_r2 hL) ?_
              refine xJ_getR (b := (a + 11)) hX dX10_refill_53 fd_X10_174 rfl (oX4_k (oX10_o2 hL)) (oX4_r0 (oX10_o2 hL)) ?_
              refine xJ_iload hX dX10_refill_56 rfl ?_
              refine xJ_aload_n hX dX10_refill_58 rfl ?_
              refine xJ_getR (b := (a + 1)) hX dX10_refill_59 fd_X10_12 rfl (oX10_k hL) (oX10_r0 hL) ?_
              refine xJ_getR (b := (a + 3)) hX dX10_refill_62 fd_X10_116 rfl (oX2_k (oX10_o0 hL)) (oX2_r1 (oX10_o0 hL)) ?_
              refine xJ_iload_n hX dX10_refill_65 rfl ?_
              obtain ⟨h66, hp⟩ := hp
              refine xJ_iald hX dX10_refill_66 (oX2_k1 (oX10_o0 hL)) h66.1 (xnlt (oX2_n1 (oX10_o0 hL)) h66.2) ?_
              refine xJ_aload_n hX dX10_refill_67 rfl ?_
              refine xJ_getR (b := (a + 10)) hX dX10_refill_68 fd_X10_28 rfl (oX10_k hL) (oX10_r2 hL) ?_
              refine xJ_getR (b := (a + 11)) hX dX10_refill_71 fd_X10_174 rfl (oX4_k (oX10_o2 hL)) (oX4_r0 (oX10_o2 hL)) ?_
              refine xJ_iload hX dX10_refill_74 rfl ?_
              obtain ⟨h76, hp⟩ := hp
              refine xJ_iald hX dX10_refill_76 (oX4_k0 (oX10_o2 hL)) h76.1 (xnlt (oX4_n0 (oX10_o2 hL)) h76.2) ?_
              refine xJ_iload_n hX dX10_refill_77 rfl ?_
              refine xJ_iadd hX dX10_refill_78 ?_
              obtain ⟨h78, hp⟩ := hp
              refine xJ_mmin hX hB dX10_refill_79 lj_X10_154 jw_min_st jw_ma_in jw_min_co rfl (by decide) (Nat.le_of_ble_eq_true rfl) (by decide) (by decide) (hM _ _) h78 ?_
              obtain ⟨h82, hp⟩ := hp
              refine xJ_iastM hX dX10_refill_82 (oX4_k0 (oX10_o2 hL)) h82.1 (xnlt (oX4_n0 (oX10_o2 hL)) h82.2) hM (xR_min (hM _ _) h78) (fun M82 e82 hM82 => ?_)
              replace hp := hp M82 e82
              refine xJ_iinc hX dX10_refill_83 rfl rfl ?_
              dsimp only [List.set]
              obtain ⟨h83, hp⟩ := hp
              refine xJ_goto hX dX10_refill_86 (tgt := 28) (by decide) ?_
              refine xJ_fg 5 ?_
              dsimp only [List.set]
              exact ih _ _ _ _ _ hM82 hx1 hx2 hx3 h83 hp
        refine lp28 _ (fun y1 y2 M hM hy1 hy2 hp => ?_) F _ _ _ _ _ hM hx1 hx2 h23 ⟨by decide, by decide⟩ hp
        · refine xJ_iinc hX dX10_refill_89 rfl rfl ?_
          dsimp only [List.set]
          obtain ⟨h89, hp⟩ := hp
          refine xJ_goto hX dX10_refill_92 (tgt := 2) (by decide) ?_
          exact ih _ _ _ hM hy1 h89 hp
  refine lp2 F _ _ _ hM hx1 ⟨by decide, by decide⟩ hp
def p_X10_noteLack (F : Nat) (a : Nat) (x1 : Int) (x2 : Int) (x3 : Int) (M : xMe) (Q : xMe → Prop) : Prop :=
  (xR (x1 * 6)) ∧ (xR ((x1 * 6) + x2)) ∧ (∀ z6 : Int, z6 = (x1 * 6) + x2 → p_X4_firstIn (a + 10) z6 M (fun r14 M14 => ((x2 ≠ (M14 a 13) → Q M14) ∧ (x2 = (M14 a 13) → ((r14 < 0 → Q M14) ∧ (0 ≤ r14 → ((0 : Int) ≤ r14 ∧ (r14 : Int) < 40) ∧ (xR (x3 - (M14 (a + 22) r14.toNat))) ∧ ((0 : Int) ≤ x2 ∧ (x2 : Int) < 6) ∧ (((M14 (a + 8) x2.toNat) ≤ (x3 - (M14 (a + 22) r14.toNat)) → ((0 : Int) ≤ r14 ∧ (r14 : Int) < 40) ∧ ((0 : Int) ≤ z6 ∧ (z6 : Int) < 36) ∧ (xR ((M14 (a + 19) r14.toNat) - (M14 (a + 11) z6.toNat))) ∧ p_X0_sumOf F (a + 25) x2 M14 (fun r83 M83 => (xR (((M14 (a + 19) r14.toNat) - (M14 (a + 11) z6.toNat)) - r83)) ∧ (∀ z87 : Int, z87 = ((M14 (a + 19) r14.toNat) - (M14 (a + 11) z6.toNat)) - r83 → (∀ M103 : xMe, M103 = xw M83 a 14 (min (M83 a 14) (max 1 z87)) → Q M103)))) ∧ ((x3 - (M14 (a + 22) r14.toNat)) < (M14 (a + 8) x2.toNat) → Q M14))))))))
set_option maxHeartbeats 4000000 in
set_option maxRecDepth 100000 in
theorem c_X10_noteLack {G : xGx} {t : xTh} {M : xMe} {F : Nat} {a : Nat} {x1 : Int} {x2 : Int} {x3 : Int} {Q : xMe → Prop} (hL : oX10 t a) (hM : xMR M) (hx1 : xR x1) (hx2 : xR x2) (hx3 : xR x3) (hp : p_X10_noteLack F a x1 x2 x3 M Q) : xCt G yX10_noteLack cX10_noteLack 7 none 1 0 0 [vr a, vi x1, vi x2, vi x3] t M (fun v t' M' => v = none ∧ xMR M' ∧ t' = t ∧ Q M') (fun _ _ _ => False) := by
  refine xCt_of (L0 := [vr a, vi x1, vi x2, vi x3, vU, vU, vU]) (by decide +kernel) (Nat.le_of_ble_eq_true rfl) rfl ?_
  intro X hX hB
  unfold p_X10_noteLack at hp
  refine xJ_iload_n hX dX10_noteLack_0 rfl ?_
  refine xJ_bipush hX dX10_noteLack_1 rfl ?_
  refine xJ_imul hX dX10_noteLack_3 ?_
  obtain ⟨h3, hp⟩ := hp
  refine xJ_iload_n hX dX10_noteLack_4 rfl ?_
  refine xJ_iadd hX dX10_noteLack_5 ?_
  obtain ⟨h5, hp⟩ := hp
  refine xJ_istore hX dX10_noteLack_6 (Nat.le_of_ble_eq_true rfl) rfl ?_
  dsimp only [List.set]
  replace hp := hp _ rfl
  refine xJ_aload_n hX dX10_noteLack_8 rfl ?_
  refine xJ_getR (b := (a + 10)) hX dX10_noteLack_9 fd_X10_28 rfl (oX10_k hL) (oX10_r2 hL) ?_
  refine xJ_iload hX dX10_noteLack_12 rfl ?_
  refine xJ_callV (As := [_]) hX hB dX10_noteLack_14 lk_X10_168 im_X4_firstIn se_X4_firstIn rfl (by decide) (oX4_k (oX10_o2 hL)) (c_X4_firstIn (oX10_o2 hL) hM h5 hp) (by decide) rfl rfl rfl (Nat.le_of_ble_eq_true rfl) (by decide) (by decide) (fun v t9 M14 hv => ?_) (fun _ _ _ q => q.elim)
  obtain ⟨r14, rfl, h14, hM14, ht9, hp⟩ := hv
  replace ht9 := ht9.symm
  subst ht9
  dsimp only [Option.toList, List.cons_append, List.nil_append]
  refine xJ_istore hX dX10_noteLack_17 (Nat.le_of_ble_eq_true rfl) rfl ?_
  dsimp only [List.set]
  refine xJ_iload_n hX dX10_noteLack_19 rfl ?_
  refine xJ_aload_n hX dX10_noteLack_20 rfl ?_
  refine xJ_getI hX dX10_noteLack_21 fd_X10_72 rfl (oX10_k hL) ?_
  refine xJ_icmp_ne hX dX10_noteLack_24 (tgt := 56) (by decide) hx2 (hM14 _ _) (fun c24 => ?_) (fun c24 => ?_)
  · replace hp := hp.1 c24
    refine xJ_vret hX hB dX10_noteLack_56 (by decide) (by decide) ⟨rfl, hM14, rfl, hp⟩
  · replace hp := hp.2 c24
    refine xJ_iload hX dX10_noteLack_27 rfl ?_
    refine xJ_if_lt hX dX10_noteLack_29 (tgt := 56) (by decide) h14 (fun c29 => ?_) (fun c29 => ?_)
    · replace hp := hp.1 c29
      refine xJ_vret hX hB dX10_noteLack_56 (by decide) (by decide) ⟨rfl, hM14, rfl, hp⟩
    · replace hp := hp.2 c29
      refine xJ_iload_n hX dX10_noteLack_32 rfl ?_
      refine xJ_aload_n hX dX10_noteLack_33 rfl ?_
      refine xJ_getR (b := (a + 16)) hX dX10_noteLack_34 fd_X10_35 rfl (oX10_k hL) (oX10_r3 hL) ?_
      refine xJ_getR (b := (a + 22)) hX dX10_noteLack_37 fd_X10_184 rfl (oX5_k (oX10_o3 hL)) (oX5_r5 (oX10_o3 hL)) ?_
      refine xJ_iload hX dX10_noteLack_40 rfl ?_
      obtain ⟨h42, hp⟩ := hp
      refine xJ_iald hX dX10_noteLack_42 (oX5_k5 (oX10_o3 hL)) h42.1 (xnlt (oX5_n5 (oX10_o3 hL)) h42.2) ?_
      refine xJ_isub hX dX10_noteLack_43 ?_
      obtain ⟨h43, hp⟩ := hp
      refine xJ_aload_n hX dX10_noteLack_44 rfl ?_
      refine xJ_getR (b := (a + 5)) hX dX10_noteLack_45 fd_X10_21 rfl (oX10_k hL) (oX10_r1 hL) ?_
      refine xJ_getR (b := (a + 8)) hX dX10_noteLack_48 fd_X10_187 rfl (oX1_k (oX10_o1 hL)) (oX1_r2 (oX10_o1 hL)) ?_
      refine xJ_iload_n hX dX10_noteLack_51 rfl ?_
      obtain ⟨h52, hp⟩ := hp
      refine xJ_iald hX dX10_noteLack_52 (oX1_k2 (oX10_o1 hL)) h52.1 (xnlt (oX1_n2 (oX10_o1 hL)) h52.2) ?_
      refine xJ_icmp_ge hX dX10_noteLack_53 (tgt := 57) (by decide) h43 (hM14 _ _) (fun c53 => ?_) (fun c53 => ?_)
      · replace hp := hp.1 c53
        refine xJ_aload_n hX dX10_noteLack_57 rfl ?_
        refine xJ_getR (b := (a + 16)) hX dX10_noteLack_58 fd_X10_35 rfl (oX10_k hL) (oX10_r3 hL) ?_
        refine xJ_getR (b := (a + 19)) hX dX10_noteLack_61 fd_X10_171 rfl (oX5_k (oX10_o3 hL)) (oX5_r2 (oX10_o3 hL)) ?_
        refine xJ_iload hX dX10_noteLack_64 rfl ?_
        obtain ⟨h66, hp⟩ := hp
        refine xJ_iald hX dX10_noteLack_66 (oX5_k2 (oX10_o3 hL)) h66.1 (xnlt (oX5_n2 (oX10_o3 hL)) h66.2) ?_
        refine xJ_aload_n hX dX10_noteLack_67 rfl ?_
        refine xJ_getR (b := (a + 10)) hX dX10_noteLack_68 fd_X10_28 rfl (oX10_k hL) (oX10_r2 hL) ?_
        refine xJ_getR (b := (a + 11)) hX dX10_noteLack_71 fd_X10_174 rfl (oX4_k (oX10_o2 hL)) (oX4_r0 (oX10_o2 hL)) ?_
        refine xJ_iload hX dX10_noteLack_74 rfl ?_
        obtain ⟨h76, hp⟩ := hp
        refine xJ_iald hX dX10_noteLack_76 (oX4_k0 (oX10_o2 hL)) h76.1 (xnlt (oX4_n0 (oX10_o2 hL)) h76.2) ?_
        refine xJ_isub hX dX10_noteLack_77 ?_
        obtain ⟨h77, hp⟩ := hp
        refine xJ_aload_n hX dX10_noteLack_78 rfl ?_
        refine xJ_getR (b := (a + 25)) hX dX10_noteLack_79 fd_X10_42 rfl (oX10_k hL) (oX10_r4 hL) ?_
        refine xJ_iload_n hX dX10_noteLack_82 rfl ?_
        refine xJ_callV (As := [_]) hX hB dX10_noteLack_83 lk_X10_181 im_X0_sumOf se_X0_sumOf rfl (by decide) (oX0_k (oX10_o4 hL)) (c_X0_sumOf (oX10_o4 hL) hM14 hx2 hp) (by decide) rfl rfl rfl (Nat.le_of_ble_eq_true rfl) (by decide) (by decide) (fun v t9 M83 hv => ?_) (fun _ _ _ q => q.elim)
        obtain ⟨r83, rfl, h83, hM83, ht9, hp⟩ := hv
        replace ht9 := ht9.symm
        subst ht9
        dsimp only [Option.toList, List.cons_append, List.nil_append]
        refine xJ_isub hX dX10_noteLack_86 ?_
        obtain ⟨h86, hp⟩ := hp
        refine xJ_istore hX dX10_noteLack_87 (Nat.le_of_ble_eq_true rfl) rfl ?_
        dsimp only [List.set]
        replace hp := hp _ rfl
        refine xJ_aload_n hX dX10_noteLack_89 rfl ?_
        refine xJ_aload_n hX dX10_noteLack_90 rfl ?_
        refine xJ_getI hX dX10_noteLack_91 fd_X10_76 rfl (oX10_k hL) ?_
        refine xJ_iconst hX dX10_noteLack_94 ?_
        refine xJ_iload hX dX10_noteLack_95 rfl ?_
        refine xJ_mmax hX hB dX10_noteLack_97 lj_X10_165 jw_max_st jw_ma_in jw_max_co rfl (by decide) (Nat.le_of_ble_eq_true rfl) (by decide) (by decide) ⟨by decide, by decide⟩ h86 ?_
        refine xJ_mmin hX hB dX10_noteLack_100 lj_X10_154 jw_min_st jw_ma_in jw_min_co rfl (by decide) (Nat.le_of_ble_eq_true rfl) (by decide) (by decide) (hM83 _ _) (xR_max ⟨by decide, by decide⟩ h86) ?_
        refine xJ_putIM hX dX10_noteLack_103 fd_X10_76 ft_X10 rfl rfl rfl rfl (oX10_k hL) hM83 (xR_min (hM83 _ _) (xR_max ⟨by decide, by decide⟩ h86)) (fun M103 e103 hM103 => ?_)
        replace hp := hp M103 e103
        refine xJ_vret hX hB dX10_noteLack_106 (by decide) (by decide) ⟨rfl, hM103, rfl, hp⟩
      · replace hp := hp.2 c53
        refine xJ_vret hX hB dX10_noteLack_56 (by decide) (by decide) ⟨rfl, hM14, rfl, hp⟩
def p_X10_rest_44 (F : Nat) (a : Nat) (Q : xMe → Prop) : Nat → Int → xMe → Prop
  | 0, _, _ => False
  | k + 1, x2, M =>
    (((M (a + 1) 3) ≤ x2 → Q M) ∧ (x2 < (M (a + 1) 3) → (xR ((M a 7) - 1)) ∧ p_X10_noteLack F a x2 (M a 13) ((M a 7) - 1) M (fun M67 => (xR (x2 + 1)) ∧ p_X10_rest_44 F a Q k (x2 + 1) M67)))
def p_X10_rest (F : Nat) (a : Nat) (x1 : Int) (M : xMe) (Q : xMe → Prop) : Prop :=
  ((0 < x1 → p_X10_refill F a x1 M (fun M7 => (xR ((M7 a 7) + x1)) ∧ (∀ M17 : xMe, M17 = xw M7 a 7 ((M7 a 7) + x1) → (((M17 a 13) < 0 → Q M17) ∧ (0 ≤ (M17 a 13) → (((M17 a 13) < (M17 (a + 5) 4) → p_X10_rest_44 F a Q F 0 M17) ∧ ((M17 (a + 5) 4) ≤ (M17 a 13) → Q M17))))))) ∧ (x1 ≤ 0 → Q M))
set_option maxHeartbeats 4000000 in
set_option maxRecDepth 100000 in
theorem c_X10_rest {G : xGx} {t : xTh} {M : xMe} {F : Nat} {a : Nat} {x1 : Int} {Q : xMe → Prop} (hL : oX10 t a) (hM : xMR M) (hx1 : xR x1) (hp : p_X10_rest F a x1 M Q) : xCt G yX10_rest cX10_rest 3 none 2 0 0 [vr a, vi x1] t M (fun v t' M' => v = none ∧ xMR M' ∧ t' = t ∧ Q M') (fun _ _ _ => False) := by
  refine xCt_of (L0 := [vr a, vi x1, vU]) (by decide +kernel) (Nat.le_of_ble_eq_true rfl) rfl ?_
  intro X hX hB
  unfold p_X10_rest at hp
  refine xJ_iload_n hX dX10_rest_0 rfl ?_
  refine xJ_if_gt hX dX10_rest_1 (tgt := 5) (by decide) hx1 (fun c1 => ?_) (fun c1 => ?_)
  · replace hp := hp.1 c1
    refine xJ_aload_n hX dX10_rest_5 rfl ?_
    refine xJ_iload_n hX dX10_rest_6 rfl ?_
    refine xJ_callV (As := [_]) hX hB dX10_rest_7 lk_X10_190 im_X10_refill se_X10_refill rfl (by decide) (oX10_k hL) (c_X10_refill hL hM hx1 hp) (by decide) rfl rfl rfl (Nat.le_of_ble_eq_true rfl) (by decide) (by decide) (fun v t9 M7 hv => ?_) (fun _ _ _ q => q.elim)
    obtain ⟨rfl, hM7, ht9, hp⟩ := hv
    replace ht9 := ht9.symm
    subst ht9
    dsimp only [Option.toList, List.cons_append, List.nil_append]
    refine xJ_aload_n hX dX10_rest_10 rfl ?_
    refine xJ_dup hX dX10_rest_11 rfl ?_
    refine xJ_getI hX dX10_rest_12 fd_X10_98 rfl (oX10_k hL) ?_
    refine xJ_iload_n hX dX10_rest_15 rfl ?_
    refine xJ_iadd hX dX10_rest_16 ?_
    obtain ⟨h16, hp⟩ := hp
    refine xJ_putIM hX dX10_rest_17 fd_X10_98 ft_X10 rfl rfl rfl rfl (oX10_k hL) hM7 h16 (fun M17 e17 hM17 => ?_)
    replace hp := hp M17 e17
    refine xJ_aload_n hX dX10_rest_20 rfl ?_
    refine xJ_getI hX dX10_rest_21 fd_X10_72 rfl (oX10_k hL) ?_
    refine xJ_if_lt hX dX10_rest_24 (tgt := 41) (by decide) (hM17 _ _) (fun c24 => ?_) (fun c24 => ?_)
    · replace hp := hp.1 c24
      refine xJ_vret hX hB dX10_rest_41 (by decide) (by decide) ⟨rfl, hM17, rfl, hp⟩
    · replace hp := hp.2 c24
      refine xJ_aload_n hX dX10_rest_27 rfl ?_
      refine xJ_getI hX dX10_rest_28 fd_X10_72 rfl (oX10_k hL) ?_
      refine xJ_aload_n hX dX10_rest_31 rfl ?_
      refine xJ_getR (b := (a + 5)) hX dX10_rest_32 fd_X10_21 rfl (oX10_k hL) (oX10_r1 hL) ?_
      refine xJ_getI hX dX10_rest_35 fd_X10_110 rfl (oX1_k (oX10_o1 hL)) ?_
      refine xJ_icmp_lt hX dX10_rest_38 (tgt := 42) (by decide) (hM17 _ _) (hM17 _ _) (fun c38 => ?_) (fun c38 => ?_)
      · replace hp := hp.1 c38
        refine xJ_iconst hX dX10_rest_42 ?_
        refine xJ_istore_n hX dX10_rest_43 (Nat.le_of_ble_eq_true rfl) rfl ?_
        dsimp only [List.set]
        refine xJ_fg 1 ?_
        dsimp only [List.set]
        have lp44 : ∀ (k : Nat) (x2 : Int) (M : xMe) (hM : xMR M) (hx2 : xR x2) (hp : p_X10_rest_44 F a Q k x2 M), xJ X 0 0 t M 44 [vr a, vU, vi x2] [] := by
          intro k
          induction k with
          | zero => intro x2 M hM hx2 hp; exact hp.elim
          | succ k ih =>
            intro x2 M hM hx2 hp
            unfold p_X10_rest_44 at hp
            refine xJ_iload_n hX dX10_rest_44 rfl ?_
            refine xJ_aload_n hX dX10_rest_45 rfl ?_
            refine xJ_getR (b := (a + 1)) hX dX10_rest_46 fd_X10_12 rfl (oX10_k hL) (oX10_r0 hL) ?_
            refine xJ_getI hX dX10_rest_49 fd_X10_107 rfl (oX2_k (oX10_o0 hL)) ?_
            refine xJ_icmp_ge hX dX10_rest_52 (tgt := 76) (by decide) hx2 (hM _ _) (fun c52 => ?_) (fun c52 => ?_)
            · replace hp := hp.1 c52
              refine xJ_vret hX hB dX10_rest_76 (by decide) (by decide) ⟨rfl, hM, rfl, hp⟩
            · replace hp := hp.2 c52
              refine xJ_aload_n hX dX10_rest_55 rfl ?_
              refine xJ_iload_n hX dX10_rest_56 rfl ?_
              refine xJ_aload_n hX dX10_rest_57 rfl ?_
              refine xJ_getI hX dX10_rest_58 fd_X10_72 rfl (oX10_k hL) ?_
              refine xJ_aload_n hX dX10_rest_61 rfl ?_
              refine xJ_getI hX dX10_rest_62 fd_X10_98 rfl (oX10_k hL) ?_
              refine xJ_iconst hX dX10_rest_65 ?_
              refine xJ_isub hX dX10_rest_66 ?_
              obtain ⟨h66, hp⟩ := hp
              refine xJ_callV (As := [_, _, _]) hX hB dX10_rest_67 lk_X10_193 im_X10_noteLack se_X10_noteLack rfl (by decide) (oX10_k hL) (c_X10_noteLack hL hM hx2 (hM _ _) h66 hp) (by decide) rfl rfl rfl (Nat.le_of_ble_eq_true rfl) (by decide) (by decide) (fun v t9 M67 hv => ?_) (fun _ _ _ q => q.elim)
              obtain ⟨rfl, hM67, ht9, hp⟩ := hv
              replace ht9 := ht9.symm
              subst ht9
              dsimp only [Option.toList, List.cons_append, List.nil_append]
              refine xJ_iinc hX dX10_rest_70 rfl rfl ?_
              dsimp only [List.set]
              obtain ⟨h70, hp⟩ := hp
              refine xJ_goto hX dX10_rest_73 (tgt := 44) (by decide) ?_
              exact ih _ _ hM67 h70 hp
        refine lp44 F _ _ hM17 ⟨by decide, by decide⟩ hp
      · replace hp := hp.2 c38
        refine xJ_vret hX hB dX10_rest_41 (by decide) (by decide) ⟨rfl, hM17, rfl, hp⟩
  · replace hp := hp.2 c1
    refine xJ_vret hX hB dX10_rest_4 (by decide) (by decide) ⟨rfl, hM, rfl, hp⟩
def p_X10_refund (a : Nat) (x1 : Int) (x2 : Int) (M : xMe) (Q : xMe → Prop) : Prop :=
  (xR (x2 * (M a 9))) ∧ (100 ≠ (0 : Int) ∧ xR (Int.tdiv (x2 * (M a 9)) 100)) ∧ (∀ z15 : Int, z15 = min 9999 (Int.tdiv (x2 * (M a 9)) 100) → ((0 < z15 → (((M (a + 25) 4) < 29 → (xR ((M a 7) + (M a 10))) ∧ p_X0_add (a + 25) x1 z15 ((M a 7) + (M a 10)) M (fun M53 => Q M53)) ∧ (29 ≤ (M (a + 25) 4) → (∀ M35 : xMe, M35 = xw M a 14 1 → (xR ((M35 a 7) + (M35 a 10))) ∧ p_X0_add (a + 25) x1 z15 ((M35 a 7) + (M35 a 10)) M35 (fun M53 => Q M53))))) ∧ (z15 ≤ 0 → Q M)))
set_option maxHeartbeats 4000000 in
set_option maxRecDepth 100000 in
theorem c_X10_refund {G : xGx} {t : xTh} {M : xMe} {a : Nat} {x1 : Int} {x2 : Int} {Q : xMe → Prop} (hL : oX10 t a) (hM : xMR M) (hx1 : xR x1) (hx2 : xR x2) (hp : p_X10_refund a x1 x2 M Q) : xCt G yX10_refund cX10_refund 4 none 1 0 0 [vr a, vi x1, vi x2] t M (fun v t' M' => v = none ∧ xMR M' ∧ t' = t ∧ Q M') (fun _ _ _ => False) := by
  refine xCt_of (L0 := [vr a, vi x1, vi x2, vU]) (by decide +kernel) (Nat.le_of_ble_eq_true rfl) rfl ?_
  intro X hX hB
  unfold p_X10_refund at hp
  refine xJ_sipush hX dX10_refund_0 rfl ?_
  refine xJ_iload_n hX dX10_refund_3 rfl ?_
  refine xJ_aload_n hX dX10_refund_4 rfl ?_
  refine xJ_getI hX dX10_refund_5 fd_X10_66 rfl (oX10_k hL) ?_
  refine xJ_imul hX dX10_refund_8 ?_
  obtain ⟨h8, hp⟩ := hp
  refine xJ_bipush hX dX10_refund_9 rfl ?_
  obtain ⟨h11, hp⟩ := hp
  refine xJ_idiv hX dX10_refund_11 h8 ⟨by decide, by decide⟩ h11.1 ?_
  refine xJ_mmin hX hB dX10_refund_12 lj_X10_154 jw_min_st jw_ma_in jw_min_co rfl (by decide) (Nat.le_of_ble_eq_true rfl) (by decide) (by decide) ⟨by decide, by decide⟩ h11.2 ?_
  refine xJ_istore_n hX dX10_refund_15 (Nat.le_of_ble_eq_true rfl) rfl ?_
  dsimp only [List.set]
  replace hp := hp _ rfl
  refine xJ_iload_n hX dX10_refund_16 rfl ?_
  refine xJ_if_gt hX dX10_refund_17 (tgt := 21) (by decide) (xR_min ⟨by decide, by decide⟩ h11.2) (fun c17 => ?_) (fun c17 => ?_)
  · replace hp := hp.1 c17
    refine xJ_aload_n hX dX10_refund_21 rfl ?_
    refine xJ_getR (b := (a + 25)) hX dX10_refund_22 fd_X10_42 rfl (oX10_k hL) (oX10_r4 hL) ?_
    refine xJ_getI hX dX10_refund_25 fd_X10_112 rfl (oX0_k (oX10_o4 hL)) ?_
    refine xJ_bipush hX dX10_refund_28 rfl ?_
    refine xJ_icmp_lt hX dX10_refund_30 (tgt := 38) (by decide) (hM _ _) ⟨by decide, by decide⟩ (fun c30 => ?_) (fun c30 => ?_)
    · replace hp := hp.1 c30
      refine xJ_aload_n hX dX10_refund_38 rfl ?_
      refine xJ_getR (b := (a + 25)) hX dX10_refund_39 fd_X10_42 rfl (oX10_k hL) (oX10_r4 hL) ?_
      refine xJ_iload_n hX dX10_refund_42 rfl ?_
      refine xJ_iload_n hX dX10_refund_43 rfl ?_
      refine xJ_aload_n hX dX10_refund_44 rfl ?_
      refine xJ_getI hX dX10_refund_45 fd_X10_98 rfl (oX10_k hL) ?_
      refine xJ_aload_n hX dX10_refund_48 rfl ?_
      refine xJ_getI hX dX10_refund_49 fd_X10_69 rfl (oX10_k hL) ?_
      refine xJ_iadd hX dX10_refund_52 ?_
      obtain ⟨h52, hp⟩ := hp
      refine xJ_callV (As := [_, _, _]) hX hB dX10_refund_53 lk_X10_227 im_X0_add se_X0_add rfl (by decide) (oX0_k (oX10_o4 hL)) (c_X0_add (oX10_o4 hL) hM hx1 (xR_min ⟨by decide, by decide⟩ h11.2) h52 hp) (by decide) rfl rfl rfl (Nat.le_of_ble_eq_true rfl) (by decide) (by decide) (fun v t9 M53 hv => ?_) (fun _ _ _ q => q.elim)
      obtain ⟨rfl, hM53, ht9, hp⟩ := hv
      replace ht9 := ht9.symm
      subst ht9
      dsimp only [Option.toList, List.cons_append, List.nil_append]
      refine xJ_vret hX hB dX10_refund_56 (by decide) (by decide) ⟨rfl, hM53, rfl, hp⟩
    · replace hp := hp.2 c30
      refine xJ_aload_n hX dX10_refund_33 rfl ?_
      refine xJ_iconst hX dX10_refund_34 ?_
      refine xJ_putIM hX dX10_refund_35 fd_X10_76 ft_X10 rfl rfl rfl rfl (oX10_k hL) hM ⟨by decide, by decide⟩ (fun M35 e35 hM35 => ?_)
      replace hp := hp M35 e35
      refine xJ_aload_n hX dX10_refund_38 rfl ?_
      refine xJ_getR (b := (a + 25)) hX dX10_refund_39 fd_X10_42 rfl (oX10_k hL) (oX10_r4 hL) ?_
      refine xJ_iload_n hX dX10_refund_42 rfl ?_
      refine xJ_iload_n hX dX10_refund_43 rfl ?_
      refine xJ_aload_n hX dX10_refund_44 rfl ?_
      refine xJ_getI hX dX10_refund_45 fd_X10_98 rfl (oX10_k hL) ?_
      refine xJ_aload_n hX dX10_refund_48 rfl ?_
      refine xJ_getI hX dX10_refund_49 fd_X10_69 rfl (oX10_k hL) ?_
      refine xJ_iadd hX dX10_refund_52 ?_
      obtain ⟨h52, hp⟩ := hp
      refine xJ_callV (As := [_, _, _]) hX hB dX10_refund_53 lk_X10_227 im_X0_add se_X0_add rfl (by decide) (oX0_k (oX10_o4 hL)) (c_X0_add (oX10_o4 hL) hM35 hx1 (xR_min ⟨by decide, by decide⟩ h11.2) h52 hp) (by decide) rfl rfl rfl (Nat.le_of_ble_eq_true rfl) (by decide) (by decide) (fun v t9 M53 hv => ?_) (fun _ _ _ q => q.elim)
      obtain ⟨rfl, hM53, ht9, hp⟩ := hv
      replace ht9 := ht9.symm
      subst ht9
      dsimp only [Option.toList, List.cons_append, List.nil_append]
      refine xJ_vret hX hB dX10_refund_56 (by decide) (by decide) ⟨rfl, hM53, rfl, hp⟩
  · replace hp := hp.2 c17
    refine xJ_vret hX hB dX10_refund_20 (by decide) (by decide) ⟨rfl, hM, rfl, hp⟩
def p_X10_arrive (a : Nat) (x1 : Int) (M : xMe) (Q : xMe → Prop) : Prop :=
  ((0 : Int) ≤ x1 ∧ (x1 : Int) < 40) ∧ (∀ z9 : Int, z9 = M (a + 17) x1.toNat → ((0 : Int) ≤ x1 ∧ (x1 : Int) < 40) ∧ p_X1_gateAt (a + 5) z9 (M (a + 21) x1.toNat) M (fun r24 M24 => ((r24 < 0 → Q M24) ∧ (0 ≤ r24 → ((r24 < (M24 (a + 1) 3) → (xR (r24 * 6)) ∧ (xR ((r24 * 6) + z9)) ∧ (∀ z50 : Int, z50 = (r24 * 6) + z9 → ((0 : Int) ≤ z50 ∧ (z50 : Int) < 36) ∧ ((0 : Int) ≤ r24 ∧ (r24 : Int) < 6) ∧ (((M24 (a + 4) r24.toNat) ≤ (M24 (a + 12) z50.toNat) → ((0 : Int) ≤ x1 ∧ (x1 : Int) < 40) ∧ (∀ M117 : xMe, M117 = xw M24 (a + 20) x1.toNat 4 → ((0 : Int) ≤ x1 ∧ (x1 : Int) < 40) ∧ (∀ M130 : xMe, M130 = xw M117 (a + 24) x1.toNat (M117 a 7) → ((0 : Int) ≤ x1 ∧ (x1 : Int) < 40) ∧ p_X10_refund a z9 (M130 (a + 23) x1.toNat) M130 (fun M142 => Q M142)))) ∧ ((M24 (a + 12) z50.toNat) < (M24 (a + 4) r24.toNat) → ((0 : Int) ≤ x1 ∧ (x1 : Int) < 40) ∧ (∀ M83 : xMe, M83 = xw M24 (a + 20) x1.toNat 1 → ((0 : Int) ≤ x1 ∧ (x1 : Int) < 40) ∧ (∀ M96 : xMe, M96 = xw M83 (a + 22) x1.toNat (M83 a 7) → p_X4_join (a + 10) z50 x1 M96 (fun M104 => Q M104))))))) ∧ ((M24 (a + 1) 3) ≤ r24 → Q M24))))))
set_option maxHeartbeats 4000000 in
set_option maxRecDepth 100000 in
theorem c_X10_arrive {G : xGx} {t : xTh} {M : xMe} {a : Nat} {x1 : Int} {Q : xMe → Prop} (hL : oX10 t a) (hM : xMR M) (hx1 : xR x1) (hp : p_X10_arrive a x1 M Q) : xCt G yX10_arrive cX10_arrive 5 none 2 0 0 [vr a, vi x1] t M (fun v t' M' => v = none ∧ xMR M' ∧ t' = t ∧ Q M') (fun _ _ _ => False) := by
  refine xCt_of (L0 := [vr a, vi x1, vU, vU, vU]) (by decide +kernel) (Nat.le_of_ble_eq_true rfl) rfl ?_
  intro X hX hB
  unfold p_X10_arrive at hp
  refine xJ_aload_n hX dX10_arrive_0 rfl ?_
  refine xJ_getR (b := (a + 16)) hX dX10_arrive_1 fd_X10_35 rfl (oX10_k hL) (oX10_r3 hL) ?_
  refine xJ_getR (b := (a + 17)) hX dX10_arrive_4 fd_X10_126 rfl (oX5_k (oX10_o3 hL)) (oX5_r0 (oX10_o3 hL)) ?_
  refine xJ_iload_n hX dX10_arrive_7 rfl ?_
  obtain ⟨h8, hp⟩ := hp
  refine xJ_iald hX dX10_arrive_8 (oX5_k0 (oX10_o3 hL)) h8.1 (xnlt (oX5_n0 (oX10_o3 hL)) h8.2) ?_
  refine xJ_istore_n hX dX10_arrive_9 (Nat.le_of_ble_eq_true rfl) rfl ?_
  dsimp only [List.set]
  replace hp := hp _ rfl
  refine xJ_aload_n hX dX10_arrive_10 rfl ?_
  refine xJ_getR (b := (a + 5)) hX dX10_arrive_11 fd_X10_21 rfl (oX10_k hL) (oX10_r1 hL) ?_
  refine xJ_iload_n hX dX10_arrive_14 rfl ?_
  refine xJ_aload_n hX dX10_arrive_15 rfl ?_
  refine xJ_getR (b := (a + 16)) hX dX10_arrive_16 fd_X10_35 rfl (oX10_k hL) (oX10_r3 hL) ?_
  refine xJ_getR (b := (a + 21)) hX dX10_arrive_19 fd_X10_129 rfl (oX5_k (oX10_o3 hL)) (oX5_r4 (oX10_o3 hL)) ?_
  refine xJ_iload_n hX dX10_arrive_22 rfl ?_
  obtain ⟨h23, hp⟩ := hp
  refine xJ_iald hX dX10_arrive_23 (oX5_k4 (oX10_o3 hL)) h23.1 (xnlt (oX5_n4 (oX10_o3 hL)) h23.2) ?_
  refine xJ_callV (As := [_, _]) hX hB dX10_arrive_24 lk_X10_132 im_X1_gateAt se_X1_gateAt rfl (by decide) (oX1_k (oX10_o1 hL)) (c_X1_gateAt (oX10_o1 hL) hM (hM _ _) (hM _ _) hp) (by decide) rfl rfl rfl (Nat.le_of_ble_eq_true rfl) (by decide) (by decide) (fun v t9 M24 hv => ?_) (fun _ _ _ q => q.elim)
  obtain ⟨r24, rfl, h24, hM24, ht9, hp⟩ := hv
  replace ht9 := ht9.symm
  subst ht9
  dsimp only [Option.toList, List.cons_append, List.nil_append]
  refine xJ_istore_n hX dX10_arrive_27 (Nat.le_of_ble_eq_true rfl) rfl ?_
  dsimp only [List.set]
  refine xJ_iload_n hX dX10_arrive_28 rfl ?_
  refine xJ_if_lt hX dX10_arrive_29 (tgt := 43) (by decide) h24 (fun c29 => ?_) (fun c29 => ?_)
  · replace hp := hp.1 c29
    refine xJ_vret hX hB dX10_arrive_43 (by decide) (by decide) ⟨rfl, hM24, rfl, hp⟩
  · replace hp := hp.2 c29
    refine xJ_iload_n hX dX10_arrive_32 rfl ?_
    refine xJ_aload_n hX dX10_arrive_33 rfl ?_
    refine xJ_getR (b := (a + 1)) hX dX10_arrive_34 fd_X10_12 rfl (oX10_k hL) (oX10_r0 hL) ?_
    refine xJ_getI hX dX10_arrive_37 fd_X10_107 rfl (oX2_k (oX10_o0 hL)) ?_
    refine xJ_icmp_lt hX dX10_arrive_40 (tgt := 44) (by decide) h24 (hM24 _ _) (fun c40 => ?_) (fun c40 => ?_)
    · replace hp := hp.1 c40
      refine xJ_iload_n hX dX10_arrive_44 rfl ?_
      refine xJ_bipush hX dX10_arrive_45 rfl ?_
      refine xJ_imul hX dX10_arrive_47 ?_
      obtain ⟨h47, hp⟩ := hp
      refine xJ_iload_n hX dX10_arrive_48 rfl ?_
      refine xJ_iadd hX dX10_arrive_49 ?_
      obtain ⟨h49, hp⟩ := hp
      refine xJ_istore hX dX10_arrive_50 (Nat.le_of_ble_eq_true rfl) rfl ?_
      dsimp only [List.set]
      replace hp := hp _ rfl
      refine xJ_aload_n hX dX10_arrive_52 rfl ?_
      refine xJ_getR (b := (a + 10)) hX dX10_arrive_53 fd_X10_28 rfl (oX10_k hL) (oX10_r2 hL) ?_
      refine xJ_getR (b := (a + 12)) hX dX10_arrive_56 fd_X10_209 rfl (oX4_k (oX10_o2 hL)) (oX4_r1 (oX10_o2 hL)) ?_
      refine xJ_iload hX dX10_arrive_59 rfl ?_
      obtain ⟨h61, hp⟩ := hp
      refine xJ_iald hX dX10_arrive_61 (oX4_k1 (oX10_o2 hL)) h61.1 (xnlt (oX4_n1 (oX10_o2 hL)) h61.2) ?_
      refine xJ_aload_n hX dX10_arrive_62 rfl ?_
      refine xJ_getR (b := (a + 1)) hX dX10_arrive_63 fd_X10_12 rfl (oX10_k hL) (oX10_r0 hL) ?_
      refine xJ_getR (b := (a + 4)) hX dX10_arrive_66 fd_X10_212 rfl (oX2_k (oX10_o0 hL)) (oX2_r2 (oX10_o0 hL)) ?_
      refine xJ_iload_n hX dX10_arrive_69 rfl ?_
      obtain ⟨h70, hp⟩ := hp
      refine xJ_iald hX dX10_arrive_70 (oX2_k2 (oX10_o0 hL)) h70.1 (xnlt (oX2_n2 (oX10_o0 hL)) h70.2) ?_
      refine xJ_icmp_ge hX dX10_arrive_71 (tgt := 108) (by decide) (hM24 _ _) (hM24 _ _) (fun c71 => ?_) (fun c71 => ?_)
      · replace hp := hp.1 c71
        refine xJ_aload_n hX dX10_arrive_108 rfl ?_
        refine xJ_getR (b := (a + 16)) hX dX10_arrive_109 fd_X10_35 rfl (oX10_k hL) (oX10_r3 hL) ?_
        refine xJ_getR (b := (a + 20)) hX dX10_arrive_112 fd_X10_123 rfl (oX5_k (oX10_o3 hL)) (oX5_r3 (oX10_o3 hL)) ?_
        refine xJ_iload_n hX dX10_arrive_115 rfl ?_
        refine xJ_iconst hX dX10_arrive_116 ?_
        obtain ⟨h117, hp⟩ := hp
        refine xJ_iastM hX dX10_arrive_117 (oX5_k3 (oX10_o3 hL)) h117.1 (xnlt (oX5_n3 (oX10_o3 hL)) h117.2) hM24 ⟨by decide, by decide⟩ (fun M117 e117 hM117 => ?_)
        replace hp := hp M117 e117
        refine xJ_aload_n hX dX10_arrive_118 rfl ?_
        refine xJ_getR (b := (a + 16)) hX dX10_arrive_119 fd_X10_35 rfl (oX10_k hL) (oX10_r3 hL) ?_
        refine xJ_getR (b := (a + 24)) hX dX10_arrive_122 fd_X10_218 rfl (oX5_k (oX10_o3 hL)) (oX5_r7 (oX10_o3 hL)) ?_
        refine xJ_iload_n hX dX10_arrive_125 rfl ?_
        refine xJ_aload_n hX dX10_arrive_126 rfl ?_
        refine xJ_getI hX dX10_arrive_127 fd_X10_98 rfl (oX10_k hL) ?_
        obtain ⟨h130, hp⟩ := hp
        refine xJ_iastM hX dX10_arrive_130 (oX5_k7 (oX10_o3 hL)) h130.1 (xnlt (oX5_n7 (oX10_o3 hL)) h130.2) hM117 (hM117 _ _) (fun M130 e130 hM130 => ?_)
        replace hp := hp M130 e130
        refine xJ_aload_n hX dX10_arrive_131 rfl ?_
        refine xJ_iload_n hX dX10_arrive_132 rfl ?_
        refine xJ_aload_n hX dX10_arrive_133 rfl ?_
        refine xJ_getR (b := (a + 16)) hX dX10_arrive_134 fd_X10_35 rfl (oX10_k hL) (oX10_r3 hL) ?_
        refine xJ_getR (b := (a + 23)) hX dX10_arrive_137 fd_X10_221 rfl (oX5_k (oX10_o3 hL)) (oX5_r6 (oX10_o3 hL)) ?_
        refine xJ_iload_n hX dX10_arrive_140 rfl ?_
        obtain ⟨h141, hp⟩ := hp
        refine xJ_iald hX dX10_arrive_141 (oX5_k6 (oX10_o3 hL)) h141.1 (xnlt (oX5_n6 (oX10_o3 hL)) h141.2) ?_
        refine xJ_callV (As := [_, _]) hX hB dX10_arrive_142 lk_X10_224 im_X10_refund se_X10_refund rfl (by decide) (oX10_k hL) (c_X10_refund hL hM130 (hM _ _) (hM130 _ _) hp) (by decide) rfl rfl rfl (Nat.le_of_ble_eq_true rfl) (by decide) (by decide) (fun v t9 M142 hv => ?_) (fun _ _ _ q => q.elim)
        obtain ⟨rfl, hM142, ht9, hp⟩ := hv
        replace ht9 := ht9.symm
        subst ht9
        dsimp only [Option.toList, List.cons_append, List.nil_append]
        refine xJ_vret hX hB dX10_arrive_145 (by decide) (by decide) ⟨rfl, hM142, rfl, hp⟩
      · replace hp := hp.2 c71
        refine xJ_aload_n hX dX10_arrive_74 rfl ?_
        refine xJ_getR (b := (a + 16)) hX dX10_arrive_75 fd_X10_35 rfl (oX10_k hL) (oX10_r3 hL) ?_
        refine xJ_getR (b := (a + 20)) hX dX10_arrive_78 fd_X10_123 rfl (oX5_k (oX10_o3 hL)) (oX5_r3 (oX10_o3 hL)) ?_
        refine xJ_iload_n hX dX10_arrive_81 rfl ?_
        refine xJ_iconst hX dX10_arrive_82 ?_
        obtain ⟨h83, hp⟩ := hp
        refine xJ_iastM hX dX10_arrive_83 (oX5_k3 (oX10_o3 hL)) h83.1 (xnlt (oX5_n3 (oX10_o3 hL)) h83.2) hM24 ⟨by decide, by decide⟩ (fun M83 e83 hM83 => ?_)
        replace hp := hp M83 e83
        refine xJ_aload_n hX dX10_arrive_84 rfl ?_
        refine xJ_getR (b := (a + 16)) hX dX10_arrive_85 fd_X10_35 rfl (oX10_k hL) (oX10_r3 hL) ?_
        refine xJ_getR (b := (a + 22)) hX dX10_arrive_88 fd_X10_184 rfl (oX5_k (oX10_o3 hL)) (oX5_r5 (oX10_o3 hL)) ?_
        refine xJ_iload_n hX dX10_arrive_91 rfl ?_
        refine xJ_aload_n hX dX10_arrive_92 rfl ?_
        refine xJ_getI hX dX10_arrive_93 fd_X10_98 rfl (oX10_k hL) ?_
        obtain ⟨h96, hp⟩ := hp
        refine xJ_iastM hX dX10_arrive_96 (oX5_k5 (oX10_o3 hL)) h96.1 (xnlt (oX5_n5 (oX10_o3 hL)) h96.2) hM83 (hM83 _ _) (fun M96 e96 hM96 => ?_)
        replace hp := hp M96 e96
        refine xJ_aload_n hX dX10_arrive_97 rfl ?_
        refine xJ_getR (b := (a + 10)) hX dX10_arrive_98 fd_X10_28 rfl (oX10_k hL) (oX10_r2 hL) ?_
        refine xJ_iload hX dX10_arrive_101 rfl ?_
        refine xJ_iload_n hX dX10_arrive_103 rfl ?_
        refine xJ_callV (As := [_, _]) hX hB dX10_arrive_104 lk_X10_215 im_X4_join se_X4_join rfl (by decide) (oX4_k (oX10_o2 hL)) (c_X4_join (oX10_o2 hL) hM96 h49 hx1 hp) (by decide) rfl rfl rfl (Nat.le_of_ble_eq_true rfl) (by decide) (by decide) (fun v t9 M104 hv => ?_) (fun _ _ _ q => q.elim)
        obtain ⟨rfl, hM104, ht9, hp⟩ := hv
        replace ht9 := ht9.symm
        subst ht9
        dsimp only [Option.toList, List.cons_append, List.nil_append]
        refine xJ_vret hX hB dX10_arrive_107 (by decide) (by decide) ⟨rfl, hM104, rfl, hp⟩
    · replace hp := hp.2 c40
      refine xJ_vret hX hB dX10_arrive_43 (by decide) (by decide) ⟨rfl, hM24, rfl, hp⟩
def p_X10_passGate (F : Nat) (a : Nat) (x1 : Int) (x2 : Int) (x3 : Int) (x4 : Int) (q : Nat) (qc : Nat) (qs : Nat) (nq : Nat) (M : xMe) (Q : xMe → Prop) : Prop :=
  ((0 : Int) ≤ x1 ∧ (x1 : Int) < 40) ∧ (∀ z9 : Int, z9 = M (a + 19) x1.toNat → (xR (x2 * 6)) ∧ (xR ((x2 * 6) + x3)) ∧ ((0 : Int) ≤ ((x2 * 6) + x3) ∧ (((x2 * 6) + x3) : Int) < 36) ∧ (xR (z9 - x4)) ∧ (xR ((M (a + 11) ((x2 * 6) + x3).toNat) - (z9 - x4))) ∧ ((0 : Int) ≤ ((x2 * 6) + x3) ∧ (((x2 * 6) + x3) : Int) < 36) ∧ (∀ M32 : xMe, M32 = xw M (a + 11) ((x2 * 6) + x3).toNat ((M (a + 11) ((x2 * 6) + x3).toNat) - (z9 - x4)) → p_X0_spend F (a + 25) x3 x4 M32 (fun M40 => ((0 : Int) ≤ x1 ∧ (x1 : Int) < 40) ∧ (xR ((M40 (a + 23) x1.toNat) + x4)) ∧ ((0 : Int) ≤ x1 ∧ (x1 : Int) < 40) ∧ (∀ M56 : xMe, M56 = xw M40 (a + 23) x1.toNat ((M40 (a + 23) x1.toNat) + x4) → (xR ((M56 a 12) + x4)) ∧ (∀ M65 : xMe, M65 = xw M56 a 12 ((M56 a 12) + x4) → ((0 : Int) ≤ x3 ∧ (x3 : Int) < 6) ∧ ((0 : Int) ≤ x1 ∧ (x1 : Int) < 40) ∧ (xR ((M65 a 7) - (M65 (a + 22) x1.toNat))) ∧ p_X7_valueFor F q z9 x2 x4 ((M65 a 7) - (M65 (a + 22) x1.toNat)) qc qs nq M65 (fun r101 M101 => (xR ((M65 (a + 9) x3.toNat) + r101)) ∧ ((0 : Int) ≤ x3 ∧ (x3 : Int) < 6) ∧ (∀ M105 : xMe, M105 = xw M101 (a + 9) x3.toNat ((M65 (a + 9) x3.toNat) + r101) → p_X6_add (a + 30) (M105 a 7) x2 x3 z9 x4 M105 (fun M120 => ((0 : Int) ≤ x1 ∧ (x1 : Int) < 40) ∧ (xR ((M120 (a + 21) x1.toNat) + 1)) ∧ ((0 : Int) ≤ x1 ∧ (x1 : Int) < 40) ∧ (∀ M135 : xMe, M135 = xw M120 (a + 21) x1.toNat ((M120 (a + 21) x1.toNat) + 1) → ((0 : Int) ≤ x1 ∧ (x1 : Int) < 40) ∧ ((0 : Int) ≤ x3 ∧ (x3 : Int) < 6) ∧ (((M135 (a + 7) x3.toNat) ≤ (M135 (a + 21) x1.toNat) → ((0 : Int) ≤ x1 ∧ (x1 : Int) < 40) ∧ (∀ M179 : xMe, M179 = xw M135 (a + 20) x1.toNat 3 → ((0 : Int) ≤ x1 ∧ (x1 : Int) < 40) ∧ (∀ M192 : xMe, M192 = xw M179 (a + 24) x1.toNat (M179 a 7) → Q M192))) ∧ ((M135 (a + 21) x1.toNat) < (M135 (a + 7) x3.toNat) → ((0 : Int) ≤ x1 ∧ (x1 : Int) < 40) ∧ (∀ M166 : xMe, M166 = xw M135 (a + 20) x1.toNat 2 → Q M166))))))))))))
set_option maxHeartbeats 4000000 in
set_option maxRecDepth 100000 in
theorem c_X10_passGate {G : xGx} {t : xTh} {M : xMe} {F : Nat} {a : Nat} {x1 : Int} {x2 : Int} {x3 : Int} {x4 : Int} {q : Nat} {qc : Nat} {qs : Nat} {nq : Nat} {Q : xMe → Prop} (hL : oX10 t a) (hqr : xr t a 6 = some q) (hq : oX7 t q qc qs nq) (hM : xMR M) (hx1 : xR x1) (hx2 : xR x2) (hx3 : xR x3) (hx4 : xR x4) (hp : p_X10_passGate F a x1 x2 x3 x4 q qc qs nq M Q) : xCt G yX10_passGate cX10_passGate 6 none 3 0 0 [vr a, vi x1, vi x2, vi x3, vi x4] t M (fun v t' M' => v = none ∧ xMR M' ∧ t' = t ∧ Q M') (fun _ _ _ => False) := by
  refine xCt_of (L0 := [vr a, vi x1, vi x2, vi x3, vi x4, vU]) (by decide +kernel) (Nat.le_of_ble_eq_true rfl) rfl ?_
  intro X hX hB
  unfold p_X10_passGate at hp
  refine xJ_aload_n hX dX10_passGate_0 rfl ?_
  refine xJ_getR (b := (a + 16)) hX dX10_passGate_1 fd_X10_35 rfl (oX10_k hL) (oX10_r3 hL) ?_
  refine xJ_getR (b := (a + 19)) hX dX10_passGate_4 fd_X10_171 rfl (oX5_k (oX10_o3 hL)) (oX5_r2 (oX10_o3 hL)) ?_
  refine xJ_iload_n hX dX10_passGate_7 rfl ?_
  obtain ⟨h8, hp⟩ := hp
  refine xJ_iald hX dX10_passGate_8 (oX5_k2 (oX10_o3 hL)) h8.1 (xnlt (oX5_n2 (oX10_o3 hL)) h8.2) ?_
  refine xJ_istore hX dX10_passGate_9 (Nat.le_of_ble_eq_true rfl) rfl ?_
  dsimp only [List.set]
  replace hp := hp _ rfl
  refine xJ_aload_n hX dX10_passGate_11 rfl ?_
  refine xJ_getR (b := (a + 10)) hX dX10_passGate_12 fd_X10_28 rfl (oX10_k hL) (oX10_r2 hL) ?_
  refine xJ_getR (b := (a + 11)) hX dX10_passGate_15 fd_X10_174 rfl (oX4_k (oX10_o2 hL)) (oX4_r0 (oX10_o2 hL)) ?_
  refine xJ_iload_n hX dX10_passGate_18 rfl ?_
  refine xJ_bipush hX dX10_passGate_19 rfl ?_
  refine xJ_imul hX dX10_passGate_21 ?_
  obtain ⟨h21, hp⟩ := hp
  refine xJ_iload_n hX dX10_passGate_22 rfl ?_
  refine xJ_iadd hX dX10_passGate_23 ?_
  obtain ⟨h23, hp⟩ := hp
  refine xJ_dup2 hX dX10_passGate_24 rfl rfl ?_
  obtain ⟨h25, hp⟩ := hp
  refine xJ_iald hX dX10_passGate_25 (oX4_k0 (oX10_o2 hL)) h25.1 (xnlt (oX4_n0 (oX10_o2 hL)) h25.2) ?_
  refine xJ_iload hX dX10_passGate_26 rfl ?_
  refine xJ_iload hX dX10_passGate_28 rfl ?_
  refine xJ_isub hX dX10_passGate_30 ?_
  obtain ⟨h30, hp⟩ := hp
  refine xJ_isub hX dX10_passGate_31 ?_
  obtain ⟨h31, hp⟩ := hp
  obtain ⟨h32, hp⟩ := hp
  refine xJ_iastM hX dX10_passGate_32 (oX4_k0 (oX10_o2 hL)) h32.1 (xnlt (oX4_n0 (oX10_o2 hL)) h32.2) hM h31 (fun M32 e32 hM32 => ?_)
  replace hp := hp M32 e32
  refine xJ_aload_n hX dX10_passGate_33 rfl ?_
  refine xJ_getR (b := (a + 25)) hX dX10_passGate_34 fd_X10_42 rfl (oX10_k hL) (oX10_r4 hL) ?_
  refine xJ_iload_n hX dX10_passGate_37 rfl ?_
  refine xJ_iload hX dX10_passGate_38 rfl ?_
  refine xJ_callV (As := [_, _]) hX hB dX10_passGate_40 lk_X10_237 im_X0_spend se_X0_spend rfl (by decide) (oX0_k (oX10_o4 hL)) (c_X0_spend (oX10_o4 hL) hM32 hx3 hx4 hp) (by decide) rfl rfl rfl (Nat.le_of_ble_eq_true rfl) (by decide) (by decide) (fun v t9 M40 hv => ?_) (fun _ _ _ q => q.elim)
  obtain ⟨rfl, hM40, ht9, hp⟩ := hv
  replace ht9 := ht9.symm
  subst ht9
  dsimp only [Option.toList, List.cons_append, List.nil_append]
  refine xJ_aload_n hX dX10_passGate_43 rfl ?_
  refine xJ_getR (b := (a + 16)) hX dX10_passGate_44 fd_X10_35 rfl (oX10_k hL) (oX10_r3 hL) ?_
  refine xJ_getR (b := (a + 23)) hX dX10_passGate_47 fd_X10_221 rfl (oX5_k (oX10_o3 hL)) (oX5_r6 (oX10_o3 hL)) ?_
  refine xJ_iload_n hX dX10_passGate_50 rfl ?_
  refine xJ_dup2 hX dX10_passGate_51 rfl rfl ?_
  obtain ⟨h52, hp⟩ := hp
  refine xJ_iald hX dX10_passGate_52 (oX5_k6 (oX10_o3 hL)) h52.1 (xnlt (oX5_n6 (oX10_o3 hL)) h52.2) ?_
  refine xJ_iload hX dX10_passGate_53 rfl ?_
  refine xJ_iadd hX dX10_passGate_55 ?_
  obtain ⟨h55, hp⟩ := hp
  obtain ⟨h56, hp⟩ := hp
  refine xJ_iastM hX dX10_passGate_56 (oX5_k6 (oX10_o3 hL)) h56.1 (xnlt (oX5_n6 (oX10_o3 hL)) h56.2) hM40 h55 (fun M56 e56 hM56 => ?_)
  replace hp := hp M56 e56
  refine xJ_aload_n hX dX10_passGate_57 rfl ?_
  refine xJ_dup hX dX10_passGate_58 rfl ?_
  refine xJ_getI hX dX10_passGate_59 fd_X10_104 rfl (oX10_k hL) ?_
  refine xJ_iload hX dX10_passGate_62 rfl ?_
  refine xJ_iadd hX dX10_passGate_64 ?_
  obtain ⟨h64, hp⟩ := hp
  refine xJ_putIM hX dX10_passGate_65 fd_X10_104 ft_X10 rfl rfl rfl rfl (oX10_k hL) hM56 h64 (fun M65 e65 hM65 => ?_)
  replace hp := hp M65 e65
  refine xJ_aload_n hX dX10_passGate_68 rfl ?_
  refine xJ_getR (b := (a + 5)) hX dX10_passGate_69 fd_X10_21 rfl (oX10_k hL) (oX10_r1 hL) ?_
  refine xJ_getR (b := (a + 9)) hX dX10_passGate_72 fd_X10_240 rfl (oX1_k (oX10_o1 hL)) (oX1_r3 (oX10_o1 hL)) ?_
  refine xJ_iload_n hX dX10_passGate_75 rfl ?_
  refine xJ_dup2 hX dX10_passGate_76 rfl rfl ?_
  obtain ⟨h77, hp⟩ := hp
  refine xJ_iald hX dX10_passGate_77 (oX1_k3 (oX10_o1 hL)) h77.1 (xnlt (oX1_n3 (oX10_o1 hL)) h77.2) ?_
  refine xJ_aload_n hX dX10_passGate_78 rfl ?_
  refine xJ_getR (b := q) hX dX10_passGate_79 fd_X10_58 rfl (oX10_k hL) hqr ?_
  refine xJ_iload hX dX10_passGate_82 rfl ?_
  refine xJ_iload_n hX dX10_passGate_84 rfl ?_
  refine xJ_iload hX dX10_passGate_85 rfl ?_
  refine xJ_aload_n hX dX10_passGate_87 rfl ?_
  refine xJ_getI hX dX10_passGate_88 fd_X10_98 rfl (oX10_k hL) ?_
  refine xJ_aload_n hX dX10_passGate_91 rfl ?_
  refine xJ_getR (b := (a + 16)) hX dX10_passGate_92 fd_X10_35 rfl (oX10_k hL) (oX10_r3 hL) ?_
  refine xJ_getR (b := (a + 22)) hX dX10_passGate_95 fd_X10_184 rfl (oX5_k (oX10_o3 hL)) (oX5_r5 (oX10_o3 hL)) ?_
  refine xJ_iload_n hX dX10_passGate_98 rfl ?_
  obtain ⟨h99, hp⟩ := hp
  refine xJ_iald hX dX10_passGate_99 (oX5_k5 (oX10_o3 hL)) h99.1 (xnlt (oX5_n5 (oX10_o3 hL)) h99.2) ?_
  refine xJ_isub hX dX10_passGate_100 ?_
  obtain ⟨h100, hp⟩ := hp
  refine xJ_callV (As := [_, _, _, _]) hX hB dX10_passGate_101 lk_X10_243 im_X7_valueFor se_X7_valueFor rfl (by decide) (oX7_k hq) (c_X7_valueFor hq hM65 (hM _ _) hx2 hx4 h100 hp) (by decide) rfl rfl rfl (Nat.le_of_ble_eq_true rfl) (by decide) (by decide) (fun v t9 M101 hv => ?_) (fun _ _ _ q => q.elim)
  obtain ⟨r101, rfl, h101, hM101, ht9, hp⟩ := hv
  replace ht9 := ht9.symm
  subst ht9
  dsimp only [Option.toList, List.cons_append, List.nil_append]
  refine xJ_iadd hX dX10_passGate_104 ?_
  obtain ⟨h104, hp⟩ := hp
  obtain ⟨h105, hp⟩ := hp
  refine xJ_iastM hX dX10_passGate_105 (oX1_k3 (oX10_o1 hL)) h105.1 (xnlt (oX1_n3 (oX10_o1 hL)) h105.2) hM101 h104 (fun M105 e105 hM105 => ?_)
  replace hp := hp M105 e105
  refine xJ_aload_n hX dX10_passGate_106 rfl ?_
  refine xJ_getR (b := (a + 30)) hX dX10_passGate_107 fd_X10_49 rfl (oX10_k hL) (oX10_r5 hL) ?_
  refine xJ_aload_n hX dX10_passGate_110 rfl ?_
  refine xJ_getI hX dX10_passGate_111 fd_X10_98 rfl (oX10_k hL) ?_
  refine xJ_iload_n hX dX10_passGate_114 rfl ?_
  refine xJ_iload_n hX dX10_passGate_115 rfl ?_
  refine xJ_iload hX dX10_passGate_116 rfl ?_
  refine xJ_iload hX dX10_passGate_118 rfl ?_
  refine xJ_callV (As := [_, _, _, _, _]) hX hB dX10_passGate_120 lk_X10_247 im_X6_add se_X6_add rfl (by decide) (oX6_k (oX10_o5 hL)) (c_X6_add (oX10_o5 hL) hM105 (hM105 _ _) hx2 hx3 (hM _ _) hx4 hp) (by decide) rfl rfl rfl (Nat.le_of_ble_eq_true rfl) (by decide) (by decide) (fun v t9 M120 hv => ?_) (fun _ _ _ q => q.elim)
  obtain ⟨rfl, hM120, ht9, hp⟩ := hv
  replace ht9 := ht9.symm
  subst ht9
  dsimp only [Option.toList, List.cons_append, List.nil_append]
  refine xJ_aload_n hX dX10_passGate_123 rfl ?_
  refine xJ_getR (b := (a + 16)) hX dX10_passGate_124 fd_X10_35 rfl (oX10_k hL) (oX10_r3 hL) ?_
  refine xJ_getR (b := (a + 21)) hX dX10_passGate_127 fd_X10_129 rfl (oX5_k (oX10_o3 hL)) (oX5_r4 (oX10_o3 hL)) ?_
  refine xJ_iload_n hX dX10_passGate_130 rfl ?_
  refine xJ_dup2 hX dX10_passGate_131 rfl rfl ?_
  obtain ⟨h132, hp⟩ := hp
  refine xJ_iald hX dX10_passGate_132 (oX5_k4 (oX10_o3 hL)) h132.1 (xnlt (oX5_n4 (oX10_o3 hL)) h132.2) ?_
  refine xJ_iconst hX dX10_passGate_133 ?_
  refine xJ_iadd hX dX10_passGate_134 ?_
  obtain ⟨h134, hp⟩ := hp
  obtain ⟨h135, hp⟩ := hp
  refine xJ_iastM hX dX10_passGate_135 (oX5_k4 (oX10_o3 hL)) h135.1 (xnlt (oX5_n4 (oX10_o3 hL)) h135.2) hM120 h134 (fun M135 e135 hM135 => ?_)
  replace hp := hp M135 e135
  refine xJ_aload_n hX dX10_passGate_136 rfl ?_
  refine xJ_getR (b := (a + 16)) hX dX10_passGate_137 fd_X10_35 rfl (oX10_k hL) (oX10_r3 hL) ?_
  refine xJ_getR (b := (a + 21)) hX dX10_passGate_140 fd_X10_129 rfl (oX5_k (oX10_o3 hL)) (oX5_r4 (oX10_o3 hL)) ?_
  refine xJ_iload_n hX dX10_passGate_143 rfl ?_
  obtain ⟨h144, hp⟩ := hp
  refine xJ_iald hX dX10_passGate_144 (oX5_k4 (oX10_o3 hL)) h144.1 (xnlt (oX5_n4 (oX10_o3 hL)) h144.2) ?_
  refine xJ_aload_n hX dX10_passGate_145 rfl ?_
  refine xJ_getR (b := (a + 5)) hX dX10_passGate_146 fd_X10_21 rfl (oX10_k hL) (oX10_r1 hL) ?_
  refine xJ_getR (b := (a + 7)) hX dX10_passGate_149 fd_X10_250 rfl (oX1_k (oX10_o1 hL)) (oX1_r1 (oX10_o1 hL)) ?_
  refine xJ_iload_n hX dX10_passGate_152 rfl ?_
  obtain ⟨h153, hp⟩ := hp
  refine xJ_iald hX dX10_passGate_153 (oX1_k1 (oX10_o1 hL)) h153.1 (xnlt (oX1_n1 (oX10_o1 hL)) h153.2) ?_
  refine xJ_icmp_ge hX dX10_passGate_154 (tgt := 170) (by decide) (hM135 _ _) (hM135 _ _) (fun c154 => ?_) (fun c154 => ?_)
  · replace hp := hp.1 c154
    refine xJ_aload_n hX dX10_passGate_170 rfl ?_
    refine xJ_getR (b := (a + 16)) hX dX10_passGate_171 fd_X10_35 rfl (oX10_k hL) (oX10_r3 hL) ?_
    refine xJ_getR (b := (a + 20)) hX dX10_passGate_174 fd_X10_123 rfl (oX5_k (oX10_o3 hL)) (oX5_r3 (oX10_o3 hL)) ?_
    refine xJ_iload_n hX dX10_passGate_177 rfl ?_
    refine xJ_iconst hX dX10_passGate_178 ?_
    obtain ⟨h179, hp⟩ := hp
    refine xJ_iastM hX dX10_passGate_179 (oX5_k3 (oX10_o3 hL)) h179.1 (xnlt (oX5_n3 (oX10_o3 hL)) h179.2) hM135 ⟨by decide, by decide⟩ (fun M179 e179 hM179 => ?_)
    replace hp := hp M179 e179
    refine xJ_aload_n hX dX10_passGate_180 rfl ?_
    refine xJ_getR (b := (a + 16)) hX dX10_passGate_181 fd_X10_35 rfl (oX10_k hL) (oX10_r3 hL) ?_
    refine xJ_getR (b := (a + 24)) hX dX10_passGate_184 fd_X10_218 rfl (oX5_k (oX10_o3 hL)) (oX5_r7 (oX10_o3 hL)) ?_
    refine xJ_iload_n hX dX10_passGate_187 rfl ?_
    refine xJ_aload_n hX dX10_passGate_188 rfl ?_
    refine xJ_getI hX dX10_passGate_189 fd_X10_98 rfl (oX10_k hL) ?_
    obtain ⟨h192, hp⟩ := hp
    refine xJ_iastM hX dX10_passGate_192 (oX5_k7 (oX10_o3 hL)) h192.1 (xnlt (oX5_n7 (oX10_o3 hL)) h192.2) hM179 (hM179 _ _) (fun M192 e192 hM192 => ?_)
    replace hp := hp M192 e192
    refine xJ_vret hX hB dX10_passGate_193 (by decide) (by decide) ⟨rfl, hM192, rfl, hp⟩
  · replace hp := hp.2 c154
    refine xJ_aload_n hX dX10_passGate_157 rfl ?_
    refine xJ_getR (b := (a + 16)) hX dX10_passGate_158 fd_X10_35 rfl (oX10_k hL) (oX10_r3 hL) ?_
    refine xJ_getR (b := (a + 20)) hX dX10_passGate_161 fd_X10_123 rfl (oX5_k (oX10_o3 hL)) (oX5_r3 (oX10_o3 hL)) ?_
    refine xJ_iload_n hX dX10_passGate_164 rfl ?_
    refine xJ_iconst hX dX10_passGate_165 ?_
    obtain ⟨h166, hp⟩ := hp
    refine xJ_iastM hX dX10_passGate_166 (oX5_k3 (oX10_o3 hL)) h166.1 (xnlt (oX5_n3 (oX10_o3 hL)) h166.2) hM135 ⟨by decide, by decide⟩ (fun M166 e166 hM166 => ?_)
    replace hp := hp M166 e166
    refine xJ_goto hX dX10_passGate_167 (tgt := 193) (by decide) ?_
    refine xJ_vret hX hB dX10_passGate_193 (by decide) (by decide) ⟨rfl, hM166, rfl, hp⟩
def p_X10_openGate_10 (F : Nat) (a : Nat) (q : Nat) (qc : Nat) (qs : Nat) (nq : Nat) (Q : xMe → Prop) : Nat → Int → Int → Int → Int → xMe → Prop
  | 0, _, _, _, _, _ => False
  | k + 1, x1, x2, x3, x4, M =>
    ((40 ≤ x4 → Q M) ∧ (x4 < 40 → p_X4_firstIn (a + 10) x3 M (fun r22 M22 => ((0 ≤ r22 → ((0 : Int) ≤ r22 ∧ (r22 : Int) < 40) ∧ ((0 : Int) ≤ x3 ∧ (x3 : Int) < 36) ∧ (xR ((M22 (a + 19) r22.toNat) - (M22 (a + 11) x3.toNat))) ∧ (∀ z53 : Int, z53 = (M22 (a + 19) r22.toNat) - (M22 (a + 11) x3.toNat) → ((0 : Int) ≤ r22 ∧ (r22 : Int) < 40) ∧ (xR ((M22 a 7) - (M22 (a + 22) r22.toNat))) ∧ ((0 : Int) ≤ x2 ∧ (x2 : Int) < 6) ∧ ((((M22 a 7) - (M22 (a + 22) r22.toNat)) < (M22 (a + 8) x2.toNat) → ((z53 ≤ 0 → p_X4_leave (a + 10) x3 M22 (fun M128 => p_X10_passGate F a r22 x1 x2 (max 0 z53) q qc qs nq M128 (fun M142 => (xR (x4 + 1)) ∧ p_X10_openGate_10 F a q qc qs nq Q k x1 x2 x3 (x4 + 1) M142))) ∧ (0 < z53 → p_X10_noteLack F a x1 x2 (M22 a 7) M22 (fun M119 => Q M119)))) ∧ ((M22 (a + 8) x2.toNat) ≤ ((M22 a 7) - (M22 (a + 22) r22.toNat)) → ((z53 ≤ 0 → p_X4_leave (a + 10) x3 M22 (fun M128 => p_X10_passGate F a r22 x1 x2 (max 0 z53) q qc qs nq M128 (fun M142 => (xR (x4 + 1)) ∧ p_X10_openGate_10 F a q qc qs nq Q k x1 x2 x3 (x4 + 1) M142))) ∧ (0 < z53 → p_X0_sumOf F (a + 25) x2 M22 (fun r106 M106 => ((z53 ≤ r106 → p_X4_leave (a + 10) x3 M106 (fun M128 => p_X10_passGate F a r22 x1 x2 (max 0 z53) q qc qs nq M128 (fun M142 => (xR (x4 + 1)) ∧ p_X10_openGate_10 F a q qc qs nq Q k x1 x2 x3 (x4 + 1) M142))) ∧ (r106 < z53 → p_X10_noteLack F a x1 x2 (M106 a 7) M106 (fun M119 => Q M119)))))))))) ∧ (r22 < 0 → Q M22)))))
def p_X10_openGate (F : Nat) (a : Nat) (x1 : Int) (x2 : Int) (q : Nat) (qc : Nat) (qs : Nat) (nq : Nat) (M : xMe) (Q : xMe → Prop) : Prop :=
  (xR (x1 * 6)) ∧ (xR ((x1 * 6) + x2)) ∧ (∀ z6 : Int, z6 = (x1 * 6) + x2 → p_X10_openGate_10 F a q qc qs nq Q F x1 x2 z6 0 M)
set_option maxHeartbeats 4000000 in
set_option maxRecDepth 100000 in
theorem c_X10_openGate {G : xGx} {t : xTh} {M : xMe} {F : Nat} {a : Nat} {x1 : Int} {x2 : Int} {q : Nat} {qc : Nat} {qs : Nat} {nq : Nat} {Q : xMe → Prop} (hL : oX10 t a) (hqr : xr t a 6 = some q) (hq : oX7 t q qc qs nq) (hM : xMR M) (hx1 : xR x1) (hx2 : xR x2) (hp : p_X10_openGate F a x1 x2 q qc qs nq M Q) : xCt G yX10_openGate cX10_openGate 8 none 4 0 0 [vr a, vi x1, vi x2] t M (fun v t' M' => v = none ∧ xMR M' ∧ t' = t ∧ Q M') (fun _ _ _ => False) := by
  refine xCt_of (L0 := [vr a, vi x1, vi x2, vU, vU, vU, vU, vU]) (by decide +kernel) (Nat.le_of_ble_eq_true rfl) rfl ?_
  intro X hX hB
  unfold p_X10_openGate at hp
  refine xJ_iload_n hX dX10_openGate_0 rfl ?_
  refine xJ_bipush hX dX10_openGate_1 rfl ?_
  refine xJ_imul hX dX10_openGate_3 ?_
  obtain ⟨h3, hp⟩ := hp
  refine xJ_iload_n hX dX10_openGate_4 rfl ?_
  refine xJ_iadd hX dX10_openGate_5 ?_
  obtain ⟨h5, hp⟩ := hp
  refine xJ_istore_n hX dX10_openGate_6 (Nat.le_of_ble_eq_true rfl) rfl ?_
  dsimp only [List.set]
  replace hp := hp _ rfl
  refine xJ_iconst hX dX10_openGate_7 ?_
  refine xJ_istore hX dX10_openGate_8 (Nat.le_of_ble_eq_true rfl) rfl ?_
  dsimp only [List.set]
  have lp10 : ∀ (k : Nat) (x1 : Int) (x2 : Int) (x3 : Int) (x4 : Int) (M : xMe) (hM : xMR M) (hx1 : xR x1) (hx2 : xR x2) (hx3 : xR x3) (hx4 : xR x4) (hp : p_X10_openGate_10 F a q qc qs nq Q k x1 x2 x3 x4 M), xJ X 0 0 t M 10 [vr a, vi x1, vi x2, vi x3, vi x4, vU, vU, vU] [] := by
    intro k
    induction k with
    | zero => intro x1 x2 x3 x4 M hM hx1 hx2 hx3 hx4 hp; exact hp.elim
    | succ k ih =>
      intro x1 x2 x3 x4 M hM hx1 hx2 hx3 hx4 hp
      unfold p_X10_openGate_10 at hp
      refine xJ_iload hX dX10_openGate_10 rfl ?_
      refine xJ_bipush hX dX10_openGate_12 rfl ?_
      refine xJ_icmp_ge hX dX10_openGate_14 (tgt := 151) (by decide) hx4 ⟨by decide, by decide⟩ (fun c14 => ?_) (fun c14 => ?_)
      · replace hp := hp.1 c14
        refine xJ_vret hX hB dX10_openGate_151 (by decide) (by decide) ⟨rfl, hM, rfl, hp⟩
      · replace hp := hp.2 c14
        refine xJ_aload_n hX dX10_openGate_17 rfl ?_
        refine xJ_getR (b := (a + 10)) hX dX10_openGate_18 fd_X10_28 rfl (oX10_k hL) (oX10_r2 hL) ?_
        refine xJ_iload_n hX dX10_openGate_21 rfl ?_
        refine xJ_callV (As := [_]) hX hB dX10_openGate_22 lk_X10_168 im_X4_firstIn se_X4_firstIn rfl (by decide) (oX4_k (oX10_o2 hL)) (c_X4_firstIn (oX10_o2 hL) hM hx3 hp) (by decide) rfl rfl rfl (Nat.le_of_ble_eq_true rfl) (by decide) (by decide) (fun v t9 M22 hv => ?_) (fun _ _ _ q => q.elim)
        obtain ⟨r22, rfl, h22, hM22, ht9, hp⟩ := hv
        replace ht9 := ht9.symm
        subst ht9
        dsimp only [Option.toList, List.cons_append, List.nil_append]
        refine xJ_istore hX dX10_openGate_25 (Nat.le_of_ble_eq_true rfl) rfl ?_
        dsimp only [List.set]
        refine xJ_iload hX dX10_openGate_27 rfl ?_
        refine xJ_if_ge hX dX10_openGate_29 (tgt := 33) (by decide) h22 (fun c29 => ?_) (fun c29 => ?_)
        · replace hp := hp.1 c29
          refine xJ_aload_n hX dX10_openGate_33 rfl ?_
          refine xJ_getR (b := (a + 16)) hX dX10_openGate_34 fd_X10_35 rfl (oX10_k hL) (oX10_r3 hL) ?_
          refine xJ_getR (b := (a + 19)) hX dX10_openGate_37 fd_X10_171 rfl (oX5_k (oX10_o3 hL)) (oX5_r2 (oX10_o3 hL)) ?_
          refine xJ_iload hX dX10_openGate_40 rfl ?_
          obtain ⟨h42, hp⟩ := hp
          refine xJ_iald hX dX10_openGate_42 (oX5_k2 (oX10_o3 hL)) h42.1 (xnlt (oX5_n2 (oX10_o3 hL)) h42.2) ?_
          refine xJ_aload_n hX dX10_openGate_43 rfl ?_
          refine xJ_getR (b := (a + 10)) hX dX10_openGate_44 fd_X10_28 rfl (oX10_k hL) (oX10_r2 hL) ?_
          refine xJ_getR (b := (a + 11)) hX dX10_openGate_47 fd_X10_174 rfl (oX4_k (oX10_o2 hL)) (oX4_r0 (oX10_o2 hL)) ?_
          refine xJ_iload_n hX dX10_openGate_50 rfl ?_
          obtain ⟨h51, hp⟩ := hp
          refine xJ_iald hX dX10_openGate_51 (oX4_k0 (oX10_o2 hL)) h51.1 (xnlt (oX4_n0 (oX10_o2 hL)) h51.2) ?_
          refine xJ_isub hX dX10_openGate_52 ?_
          obtain ⟨h52, hp⟩ := hp
          refine xJ_istore hX dX10_openGate_53 (Nat.le_of_ble_eq_true rfl) rfl ?_
          dsimp only [List.set]
          replace hp := hp _ rfl
          refine xJ_aload_n hX dX10_openGate_55 rfl ?_
          refine xJ_getI hX dX10_openGate_56 fd_X10_98 rfl (oX10_k hL) ?_
          refine xJ_aload_n hX dX10_openGate_59 rfl ?_
          refine xJ_getR (b := (a + 16)) hX dX10_openGate_60 fd_X10_35 rfl (oX10_k hL) (oX10_r3 hL) ?_
          refine xJ_getR (b := (a + 22)) hX dX10_openGate_63 fd_X10_184 rfl (oX5_k (oX10_o3 hL)) (oX5_r5 (oX10_o3 hL)) ?_
          refine xJ_iload hX dX10_openGate_66 rfl ?_
          obtain ⟨h68, hp⟩ := hp
          refine xJ_iald hX dX10_openGate_68 (oX5_k5 (oX10_o3 hL)) h68.1 (xnlt (oX5_n5 (oX10_o3 hL)) h68.2) ?_
          refine xJ_isub hX dX10_openGate_69 ?_
          obtain ⟨h69, hp⟩ := hp
          refine xJ_aload_n hX dX10_openGate_70 rfl ?_
          refine xJ_getR (b := (a + 5)) hX dX10_openGate_71 fd_X10_21 rfl (oX10_k hL) (oX10_r1 hL) ?_
          refine xJ_getR (b := (a + 8)) hX dX10_openGate_74 fd_X10_187 rfl (oX1_k (oX10_o1 hL)) (oX1_r2 (oX10_o1 hL)) ?_
          refine xJ_iload_n hX dX10_openGate_77 rfl ?_
          obtain ⟨h78, hp⟩ := hp
          refine xJ_iald hX dX10_openGate_78 (oX1_k2 (oX10_o1 hL)) h78.1 (xnlt (oX1_n2 (oX10_o1 hL)) h78.2) ?_
          refine xJ_icmp_lt hX dX10_openGate_79 (tgt := 86) (by decide) h69 (hM22 _ _) (fun c79 => ?_) (fun c79 => ?_)
          · replace hp := hp.1 c79
            refine xJ_iconst hX dX10_openGate_86 ?_
            refine xJ_istore hX dX10_openGate_87 (Nat.le_of_ble_eq_true rfl) rfl ?_
            dsimp only [List.set]
            refine xJ_iload hX dX10_openGate_89 rfl ?_
            refine xJ_if_le hX dX10_openGate_91 (tgt := 123) (by decide) h52 (fun c91 => ?_) (fun c91 => ?_)
            · replace hp := hp.1 c91
              refine xJ_aload_n hX dX10_openGate_123 rfl ?_
              refine xJ_getR (b := (a + 10)) hX dX10_openGate_124 fd_X10_28 rfl (oX10_k hL) (oX10_r2 hL) ?_
              refine xJ_iload_n hX dX10_openGate_127 rfl ?_
              refine xJ_callV (As := [_]) hX hB dX10_openGate_128 lk_X10_230 im_X4_leave se_X4_leave rfl (by decide) (oX4_k (oX10_o2 hL)) (c_X4_leave (oX10_o2 hL) hM22 hx3 hp) (by decide) rfl rfl rfl (Nat.le_of_ble_eq_true rfl) (by decide) (by decide) (fun v t9 M128 hv => ?_) (fun _ _ _ q => q.elim)
              obtain ⟨rfl, hM128, ht9, hp⟩ := hv
              replace ht9 := ht9.symm
              subst ht9
              dsimp only [Option.toList, List.cons_append, List.nil_append]
              refine xJ_aload_n hX dX10_openGate_131 rfl ?_
              refine xJ_iload hX dX10_openGate_132 rfl ?_
              refine xJ_iload_n hX dX10_openGate_134 rfl ?_
              refine xJ_iload_n hX dX10_openGate_135 rfl ?_
              refine xJ_iconst hX dX10_openGate_136 ?_
              refine xJ_iload hX dX10_openGate_137 rfl ?_
              refine xJ_mmax hX hB dX10_openGate_139 lj_X10_165 jw_max_st jw_ma_in jw_max_co rfl (by decide) (Nat.le_of_ble_eq_true rfl) (by decide) (by decide) ⟨by decide, by decide⟩ h52 ?_
              refine xJ_callV (As := [_, _, _, _]) hX hB dX10_openGate_142 lk_X10_233 im_X10_passGate se_X10_passGate rfl (by decide) (oX10_k hL) (c_X10_passGate hL hqr hq hM128 h22 hx1 hx2 (xR_max ⟨by decide, by decide⟩ h52) hp) (by decide) rfl rfl rfl (Nat.le_of_ble_eq_true rfl) (by decide) (by decide) (fun v t9 M142 hv => ?_) (fun _ _ _ q => q.elim)
              obtain ⟨rfl, hM142, ht9, hp⟩ := hv
              replace ht9 := ht9.symm
              subst ht9
              dsimp only [Option.toList, List.cons_append, List.nil_append]
              refine xJ_iinc hX dX10_openGate_145 rfl rfl ?_
              dsimp only [List.set]
              obtain ⟨h145, hp⟩ := hp
              refine xJ_goto hX dX10_openGate_148 (tgt := 10) (by decide) ?_
              refine xJ_fg 5 ?_
              dsimp only [List.set]
              refine xJ_fg 6 ?_
              dsimp only [List.set]
              refine xJ_fg 7 ?_
              dsimp only [List.set]
              exact ih _ _ _ _ _ hM142 hx1 hx2 hx3 h145 hp
            · replace hp := hp.2 c91
              refine xJ_iload hX dX10_openGate_94 rfl ?_
              refine xJ_if_eq hX dX10_openGate_96 (tgt := 112) (by decide) ⟨by decide, by decide⟩ (fun c96 => ?_) (fun c96 => ?_)
              rotate_left 1
              · exact absurd c96 (by decide)
              refine xJ_aload_n hX dX10_openGate_112 rfl ?_
              refine xJ_iload_n hX dX10_openGate_113 rfl ?_
              refine xJ_iload_n hX dX10_openGate_114 rfl ?_
              refine xJ_aload_n hX dX10_openGate_115 rfl ?_
              refine xJ_getI hX dX10_openGate_116 fd_X10_98 rfl (oX10_k hL) ?_
              refine xJ_callV (As := [_, _, _]) hX hB dX10_openGate_119 lk_X10_193 im_X10_noteLack se_X10_noteLack rfl (by decide) (oX10_k hL) (c_X10_noteLack hL hM22 hx1 hx2 (hM22 _ _) hp) (by decide) rfl rfl rfl (Nat.le_of_ble_eq_true rfl) (by decide) (by decide) (fun v t9 M119 hv => ?_) (fun _ _ _ q => q.elim)
              obtain ⟨rfl, hM119, ht9, hp⟩ := hv
              replace ht9 := ht9.symm
              subst ht9
              dsimp only [Option.toList, List.cons_append, List.nil_append]
              refine xJ_vret hX hB dX10_openGate_122 (by decide) (by decide) ⟨rfl, hM119, rfl, hp⟩
          · replace hp := hp.2 c79
            refine xJ_iconst hX dX10_openGate_82 ?_
            refine xJ_goto hX dX10_openGate_83 (tgt := 87) (by decide) ?_
            refine xJ_istore hX dX10_openGate_87 (Nat.le_of_ble_eq_true rfl) rfl ?_
            dsimp only [List.set]
            refine xJ_iload hX dX10_openGate_89 rfl ?_
            refine xJ_if_le hX dX10_openGate_91 (tgt := 123) (by decide) h52 (fun c91 => ?_) (fun c91 => ?_)
            · replace hp := hp.1 c91
              refine xJ_aload_n hX dX10_openGate_123 rfl ?_
              refine xJ_getR (b := (a + 10)) hX dX10_openGate_124 fd_X10_28 rfl (oX10_k hL) (oX10_r2 hL) ?_
              refine xJ_iload_n hX dX10_openGate_127 rfl ?_
              refine xJ_callV (As := [_]) hX hB dX10_openGate_128 lk_X10_230 im_X4_leave se_X4_leave rfl (by decide) (oX4_k (oX10_o2 hL)) (c_X4_leave (oX10_o2 hL) hM22 hx3 hp) (by decide) rfl rfl rfl (Nat.le_of_ble_eq_true rfl) (by decide) (by decide) (fun v t9 M128 hv => ?_) (fun _ _ _ q => q.elim)
              obtain ⟨rfl, hM128, ht9, hp⟩ := hv
              replace ht9 := ht9.symm
              subst ht9
              dsimp only [Option.toList, List.cons_append, List.nil_append]
              refine xJ_aload_n hX dX10_openGate_131 rfl ?_
              refine xJ_iload hX dX10_openGate_132 rfl ?_
              refine xJ_iload_n hX dX10_openGate_134 rfl ?_
              refine xJ_iload_n hX dX10_openGate_135 rfl ?_
              refine xJ_iconst hX dX10_openGate_136 ?_
              refine xJ_iload hX dX10_openGate_137 rfl ?_
              refine xJ_mmax hX hB dX10_openGate_139 lj_X10_165 jw_max_st jw_ma_in jw_max_co rfl (by decide) (Nat.le_of_ble_eq_true rfl) (by decide) (by decide) ⟨by decide, by decide⟩ h52 ?_
              refine xJ_callV (As := [_, _, _, _]) hX hB dX10_openGate_142 lk_X10_233 im_X10_passGate se_X10_passGate rfl (by decide) (oX10_k hL) (c_X10_passGate hL hqr hq hM128 h22 hx1 hx2 (xR_max ⟨by decide, by decide⟩ h52) hp) (by decide) rfl rfl rfl (Nat.le_of_ble_eq_true rfl) (by decide) (by decide) (fun v t9 M142 hv => ?_) (fun _ _ _ q => q.elim)
              obtain ⟨rfl, hM142, ht9, hp⟩ := hv
              replace ht9 := ht9.symm
              subst ht9
              dsimp only [Option.toList, List.cons_append, List.nil_append]
              refine xJ_iinc hX dX10_openGate_145 rfl rfl ?_
              dsimp only [List.set]
              obtain ⟨h145, hp⟩ := hp
              refine xJ_goto hX dX10_openGate_148 (tgt := 10) (by decide) ?_
              refine xJ_fg 5 ?_
              dsimp only [List.set]
              refine xJ_fg 6 ?_
              dsimp only [List.set]
              refine xJ_fg 7 ?_
              dsimp only [List.set]
              exact ih _ _ _ _ _ hM142 hx1 hx2 hx3 h145 hp
            · replace hp := hp.2 c91
              refine xJ_iload hX dX10_openGate_94 rfl ?_
              refine xJ_if_eq hX dX10_openGate_96 (tgt := 112) (by decide) ⟨by decide, by decide⟩ (fun c96 => ?_) (fun c96 => ?_)
              · exact absurd c96 (by decide)
              refine xJ_iload hX dX10_openGate_99 rfl ?_
              refine xJ_aload_n hX dX10_openGate_101 rfl ?_
              refine xJ_getR (b := (a + 25)) hX dX10_openGate_102 fd_X10_42 rfl (oX10_k hL) (oX10_r4 hL) ?_
              refine xJ_iload_n hX dX10_openGate_105 rfl ?_
              refine xJ_callV (As := [_]) hX hB dX10_openGate_106 lk_X10_181 im_X0_sumOf se_X0_sumOf rfl (by decide) (oX0_k (oX10_o4 hL)) (c_X0_sumOf (oX10_o4 hL) hM22 hx2 hp) (by decide) rfl rfl rfl (Nat.le_of_ble_eq_true rfl) (by decide) (by decide) (fun v t9 M106 hv => ?_) (fun _ _ _ q => q.elim)
              obtain ⟨r106, rfl, h106, hM106, ht9, hp⟩ := hv
              replace ht9 := ht9.symm
              subst ht9
              dsimp only [Option.toList, List.cons_append, List.nil_append]
              refine xJ_icmp_le hX dX10_openGate_109 (tgt := 123) (by decide) h52 h106 (fun c109 => ?_) (fun c109 => ?_)
              · replace hp := hp.1 c109
                refine xJ_aload_n hX dX10_openGate_123 rfl ?_
                refine xJ_getR (b := (a + 10)) hX dX10_openGate_124 fd_X10_28 rfl (oX10_k hL) (oX10_r2 hL) ?_
                refine xJ_iload_n hX dX10_openGate_127 rfl ?_
                refine xJ_callV (As := [_]) hX hB dX10_openGate_128 lk_X10_230 im_X4_leave se_X4_leave rfl (by decide) (oX4_k (oX10_o2 hL)) (c_X4_leave (oX10_o2 hL) hM106 hx3 hp) (by decide) rfl rfl rfl (Nat.le_of_ble_eq_true rfl) (by decide) (by decide) (fun v t9 M128 hv => ?_) (fun _ _ _ q => q.elim)
                obtain ⟨rfl, hM128, ht9, hp⟩ := hv
                replace ht9 := ht9.symm
                subst ht9
                dsimp only [Option.toList, List.cons_append, List.nil_append]
                refine xJ_aload_n hX dX10_openGate_131 rfl ?_
                refine xJ_iload hX dX10_openGate_132 rfl ?_
                refine xJ_iload_n hX dX10_openGate_134 rfl ?_
                refine xJ_iload_n hX dX10_openGate_135 rfl ?_
                refine xJ_iconst hX dX10_openGate_136 ?_
                refine xJ_iload hX dX10_openGate_137 rfl ?_
                refine xJ_mmax hX hB dX10_openGate_139 lj_X10_165 jw_max_st jw_ma_in jw_max_co rfl (by decide) (Nat.le_of_ble_eq_true rfl) (by decide) (by decide) ⟨by decide, by decide⟩ h52 ?_
                refine xJ_callV (As := [_, _, _, _]) hX hB dX10_openGate_142 lk_X10_233 im_X10_passGate se_X10_passGate rfl (by decide) (oX10_k hL) (c_X10_passGate hL hqr hq hM128 h22 hx1 hx2 (xR_max ⟨by decide, by decide⟩ h52) hp) (by decide) rfl rfl rfl (Nat.le_of_ble_eq_true rfl) (by decide) (by decide) (fun v t9 M142 hv => ?_) (fun _ _ _ q => q.elim)
                obtain ⟨rfl, hM142, ht9, hp⟩ := hv
                replace ht9 := ht9.symm
                subst ht9
                dsimp only [Option.toList, List.cons_append, List.nil_append]
                refine xJ_iinc hX dX10_openGate_145 rfl rfl ?_
                dsimp only [List.set]
                obtain ⟨h145, hp⟩ := hp
                refine xJ_goto hX dX10_openGate_148 (tgt := 10) (by decide) ?_
                refine xJ_fg 5 ?_
                dsimp only [List.set]
                refine xJ_fg 6 ?_
                dsimp only [List.set]
                refine xJ_fg 7 ?_
                dsimp only [List.set]
                exact ih _ _ _ _ _ hM142 hx1 hx2 hx3 h145 hp
              · replace hp := hp.2 c109
                refine xJ_aload_n hX dX10_openGate_112 rfl ?_
                refine xJ_iload_n hX dX10_openGate_113 rfl ?_
                refine xJ_iload_n hX dX10_openGate_114 rfl ?_
                refine xJ_aload_n hX dX10_openGate_115 rfl ?_
                refine xJ_getI hX dX10_openGate_116 fd_X10_98 rfl (oX10_k hL) ?_
                refine xJ_callV (As := [_, _, _]) hX hB dX10_openGate_119 lk_X10_193 im_X10_noteLack se_X10_noteLack rfl (by decide) (oX10_k hL) (c_X10_noteLack hL hM106 hx1 hx2 (hM106 _ _) hp) (by decide) rfl rfl rfl (Nat.le_of_ble_eq_true rfl) (by decide) (by decide) (fun v t9 M119 hv => ?_) (fun _ _ _ q => q.elim)
                obtain ⟨rfl, hM119, ht9, hp⟩ := hv
                replace ht9 := ht9.symm
                subst ht9
                dsimp only [Option.toList, List.cons_append, List.nil_append]
                refine xJ_vret hX hB dX10_openGate_122 (by decide) (by decide) ⟨rfl, hM119, rfl, hp⟩
        · replace hp := hp.2 c29
          refine xJ_vret hX hB dX10_openGate_32 (by decide) (by decide) ⟨rfl, hM22, rfl, hp⟩
  refine lp10 F _ _ _ _ _ hM hx1 hx2 h5 ⟨by decide, by decide⟩ hp
def p_X10_tick_27 (F : Nat) (a : Nat) (q : Nat) (qc : Nat) (qs : Nat) (nq : Nat) (Q : xMe → Prop) (K94 : xMe → Prop) : Nat → Int → xMe → Prop
  | 0, _, _ => False
  | k + 1, x1, M =>
    (((M (a + 16) 8) ≤ x1 → K94 M) ∧ (x1 < (M (a + 16) 8) → ((0 : Int) ≤ x1 ∧ (x1 : Int) < 40) ∧ (∀ z47 : Int, z47 = M (a + 20) x1.toNat → ((z47 ≠ 0 → ((z47 ≠ 2 → (xR (x1 + 1)) ∧ p_X10_tick_27 F a q qc qs nq Q K94 k (x1 + 1) M) ∧ (z47 = 2 → p_X10_arrive a x1 M (fun M85 => (xR (x1 + 1)) ∧ p_X10_tick_27 F a q qc qs nq Q K94 k (x1 + 1) M85)))) ∧ (z47 = 0 → ((0 : Int) ≤ x1 ∧ (x1 : Int) < 40) ∧ (((M (a + 18) x1.toNat) ≠ (M a 7) → ((z47 ≠ 2 → (xR (x1 + 1)) ∧ p_X10_tick_27 F a q qc qs nq Q K94 k (x1 + 1) M) ∧ (z47 = 2 → p_X10_arrive a x1 M (fun M85 => (xR (x1 + 1)) ∧ p_X10_tick_27 F a q qc qs nq Q K94 k (x1 + 1) M85)))) ∧ ((M (a + 18) x1.toNat) = (M a 7) → p_X10_arrive a x1 M (fun M85 => (xR (x1 + 1)) ∧ p_X10_tick_27 F a q qc qs nq Q K94 k (x1 + 1) M85))))))))
def p_X10_tick_109 (F : Nat) (a : Nat) (q : Nat) (qc : Nat) (qs : Nat) (nq : Nat) (Q : xMe → Prop) (K132 : Int → xMe → Prop) : Nat → Int → Int → xMe → Prop
  | 0, _, _, _ => False
  | k + 1, x1, x2, M =>
    (((M (a + 5) 4) ≤ x2 → K132 x1 M) ∧ (x2 < (M (a + 5) 4) → p_X10_openGate F a x1 x2 q qc qs nq M (fun M123 => (xR (x2 + 1)) ∧ p_X10_tick_109 F a q qc qs nq Q K132 k x1 (x2 + 1) M123)))
def p_X10_tick_96 (F : Nat) (a : Nat) (q : Nat) (qc : Nat) (qs : Nat) (nq : Nat) (Q : xMe → Prop) : Nat → Int → xMe → Prop
  | 0, _, _ => False
  | k + 1, x1, M =>
    (((M (a + 1) 3) ≤ x1 → (xR ((M a 7) + 1)) ∧ (∀ M145 : xMe, M145 = xw M a 7 ((M a 7) + 1) → Q M145)) ∧ (x1 < (M (a + 1) 3) → p_X10_tick_109 F a q qc qs nq Q (fun y1 M => (xR (y1 + 1)) ∧ p_X10_tick_96 F a q qc qs nq Q k (y1 + 1) M) F x1 0 M))
def p_X10_tick (F : Nat) (a : Nat) (q : Nat) (qc : Nat) (qs : Nat) (nq : Nat) (M : xMe) (Q : xMe → Prop) : Prop :=
  p_X10_refill F a 1 M (fun M2 => p_X0_removeEnding F (a + 25) (M2 a 7) M2 (fun r18 M18 => (xR ((M2 a 11) + r18)) ∧ (∀ M22 : xMe, M22 = xw M18 a 11 ((M2 a 11) + r18) → p_X10_tick_27 F a q qc qs nq Q (fun M => p_X10_tick_96 F a q qc qs nq Q F 0 M) F 0 M22)))
set_option maxHeartbeats 4000000 in
set_option maxRecDepth 100000 in
theorem c_X10_tick {G : xGx} {t : xTh} {M : xMe} {F : Nat} {a : Nat} {q : Nat} {qc : Nat} {qs : Nat} {nq : Nat} {Q : xMe → Prop} (hL : oX10 t a) (hqr : xr t a 6 = some q) (hq : oX7 t q qc qs nq) (hM : xMR M)(hp : p_X10_tick F a q qc qs nq M Q) : xCt G yX10_tick cX10_tick 4 none 5 0 0 [vr a] t M (fun v t' M' => v = none ∧ xMR M' ∧ t' = t ∧ Q M') (fun _ _ _ => False) := by
  refine xCt_of (L0 := [vr a, vU, vU, vU]) (by decide +kernel) (Nat.le_of_ble_eq_true rfl) rfl ?_
  intro X hX hB
  unfold p_X10_tick at hp
  refine xJ_aload_n hX dX10_tick_0 rfl ?_
  refine xJ_iconst hX dX10_tick_1 ?_
  refine xJ_callV (As := [_]) hX hB dX10_tick_2 lk_X10_190 im_X10_refill se_X10_refill rfl (by decide) (oX10_k hL) (c_X10_refill hL hM ⟨by decide, by decide⟩ hp) (by decide) rfl rfl rfl (Nat.le_of_ble_eq_true rfl) (by decide) (by decide) (fun v t9 M2 hv => ?_) (fun _ _ _ q => q.elim)
  obtain ⟨rfl, hM2, ht9, hp⟩ := hv
  replace ht9 := ht9.symm
  subst ht9
  dsimp only [Option.toList, List.cons_append, List.nil_append]
  refine xJ_aload_n hX dX10_tick_5 rfl ?_
  refine xJ_dup hX dX10_tick_6 rfl ?_
  refine xJ_getI hX dX10_tick_7 fd_X10_101 rfl (oX10_k hL) ?_
  refine xJ_aload_n hX dX10_tick_10 rfl ?_
  refine xJ_getR (b := (a + 25)) hX dX10_tick_11 fd_X10_42 rfl (oX10_k hL) (oX10_r4 hL) ?_
  refine xJ_aload_n hX dX10_tick_14 rfl ?_
  refine xJ_getI hX dX10_tick_15 fd_X10_98 rfl (oX10_k hL) ?_
  refine xJ_callV (As := [_]) hX hB dX10_tick_18 lk_X10_197 im_X0_removeEnding se_X0_removeEnding rfl (by decide) (oX0_k (oX10_o4 hL)) (c_X0_removeEnding (oX10_o4 hL) hM2 (hM2 _ _) hp) (by decide) rfl rfl rfl (Nat.le_of_ble_eq_true rfl) (by decide) (by decide) (fun v t9 M18 hv => ?_) (fun _ _ _ q => q.elim)
  obtain ⟨r18, rfl, h18, hM18, ht9, hp⟩ := hv
  replace ht9 := ht9.symm
  subst ht9
  dsimp only [Option.toList, List.cons_append, List.nil_append]
  refine xJ_iadd hX dX10_tick_21 ?_
  obtain ⟨h21, hp⟩ := hp
  refine xJ_putIM hX dX10_tick_22 fd_X10_101 ft_X10 rfl rfl rfl rfl (oX10_k hL) hM18 h21 (fun M22 e22 hM22 => ?_)
  replace hp := hp M22 e22
  refine xJ_iconst hX dX10_tick_25 ?_
  refine xJ_istore_n hX dX10_tick_26 (Nat.le_of_ble_eq_true rfl) rfl ?_
  dsimp only [List.set]
  have lp27 : ∀ (K94 : xMe → Prop) (hK94 : ∀ (M : xMe) (hM : xMR M) (hp : K94 M), xJ X 0 0 t M 94 [vr a, vU, vU, vU] []) (k : Nat) (x1 : Int) (M : xMe) (hM : xMR M) (hx1 : xR x1) (hp : p_X10_tick_27 F a q qc qs nq Q K94 k x1 M), xJ X 0 0 t M 27 [vr a, vi x1, vU, vU] [] := by
    intro K94 hK94 k
    induction k with
    | zero => intro x1 M hM hx1 hp; exact hp.elim
    | succ k ih =>
      intro x1 M hM hx1 hp
      unfold p_X10_tick_27 at hp
      refine xJ_iload_n hX dX10_tick_27 rfl ?_
      refine xJ_aload_n hX dX10_tick_28 rfl ?_
      refine xJ_getR (b := (a + 16)) hX dX10_tick_29 fd_X10_35 rfl (oX10_k hL) (oX10_r3 hL) ?_
      refine xJ_getI hX dX10_tick_32 fd_X10_111 rfl (oX5_k (oX10_o3 hL)) ?_
      refine xJ_icmp_ge hX dX10_tick_35 (tgt := 94) (by decide) hx1 (hM _ _) (fun c35 => ?_) (fun c35 => ?_)
      · replace hp := hp.1 c35
        refine xJ_fg 1 ?_
        dsimp only [List.set]
        exact hK94 _ hM hp
      · replace hp := hp.2 c35
        refine xJ_aload_n hX dX10_tick_38 rfl ?_
        refine xJ_getR (b := (a + 16)) hX dX10_tick_39 fd_X10_35 rfl (oX10_k hL) (oX10_r3 hL) ?_
        refine xJ_getR (b := (a + 20)) hX dX10_tick_42 fd_X10_123 rfl (oX5_k (oX10_o3 hL)) (oX5_r3 (oX10_o3 hL)) ?_
        refine xJ_iload_n hX dX10_tick_45 rfl ?_
        obtain ⟨h46, hp⟩ := hp
        refine xJ_iald hX dX10_tick_46 (oX5_k3 (oX10_o3 hL)) h46.1 (xnlt (oX5_n3 (oX10_o3 hL)) h46.2) ?_
        refine xJ_istore_n hX dX10_tick_47 (Nat.le_of_ble_eq_true rfl) rfl ?_
        dsimp only [List.set]
        replace hp := hp _ rfl
        refine xJ_iload_n hX dX10_tick_48 rfl ?_
        refine xJ_if_ne hX dX10_tick_49 (tgt := 72) (by decide) (hM _ _) (fun c49 => ?_) (fun c49 => ?_)
        · replace hp := hp.1 c49
          refine xJ_iconst hX dX10_tick_72 ?_
          refine xJ_istore_n hX dX10_tick_73 (Nat.le_of_ble_eq_true rfl) rfl ?_
          dsimp only [List.set]
          refine xJ_iload_n hX dX10_tick_74 rfl ?_
          refine xJ_if_ne hX dX10_tick_75 (tgt := 83) (by decide) ⟨by decide, by decide⟩ (fun c75 => ?_) (fun c75 => ?_)
          · exact absurd c75 (by decide)
          refine xJ_iload_n hX dX10_tick_78 rfl ?_
          refine xJ_iconst hX dX10_tick_79 ?_
          refine xJ_icmp_ne hX dX10_tick_80 (tgt := 88) (by decide) (hM _ _) ⟨by decide, by decide⟩ (fun c80 => ?_) (fun c80 => ?_)
          · replace hp := hp.1 c80
            refine xJ_iinc hX dX10_tick_88 rfl rfl ?_
            dsimp only [List.set]
            obtain ⟨h88, hp⟩ := hp
            refine xJ_goto hX dX10_tick_91 (tgt := 27) (by decide) ?_
            refine xJ_fg 2 ?_
            dsimp only [List.set]
            refine xJ_fg 3 ?_
            dsimp only [List.set]
            exact ih _ _ hM h88 hp
          · replace hp := hp.2 c80
            refine xJ_aload_n hX dX10_tick_83 rfl ?_
            refine xJ_iload_n hX dX10_tick_84 rfl ?_
            refine xJ_callV (As := [_]) hX hB dX10_tick_85 lk_X10_200 im_X10_arrive se_X10_arrive rfl (by decide) (oX10_k hL) (c_X10_arrive hL hM hx1 hp) (by decide) rfl rfl rfl (Nat.le_of_ble_eq_true rfl) (by decide) (by decide) (fun v t9 M85 hv => ?_) (fun _ _ _ q => q.elim)
            obtain ⟨rfl, hM85, ht9, hp⟩ := hv
            replace ht9 := ht9.symm
            subst ht9
            dsimp only [Option.toList, List.cons_append, List.nil_append]
            refine xJ_iinc hX dX10_tick_88 rfl rfl ?_
            dsimp only [List.set]
            obtain ⟨h88, hp⟩ := hp
            refine xJ_goto hX dX10_tick_91 (tgt := 27) (by decide) ?_
            refine xJ_fg 2 ?_
            dsimp only [List.set]
            refine xJ_fg 3 ?_
            dsimp only [List.set]
            exact ih _ _ hM85 h88 hp
        · replace hp := hp.2 c49
          refine xJ_aload_n hX dX10_tick_52 rfl ?_
          refine xJ_getR (b := (a + 16)) hX dX10_tick_53 fd_X10_35 rfl (oX10_k hL) (oX10_r3 hL) ?_
          refine xJ_getR (b := (a + 18)) hX dX10_tick_56 fd_X10_151 rfl (oX5_k (oX10_o3 hL)) (oX5_r1 (oX10_o3 hL)) ?_
          refine xJ_iload_n hX dX10_tick_59 rfl ?_
          obtain ⟨h60, hp⟩ := hp
          refine xJ_iald hX dX10_tick_60 (oX5_k1 (oX10_o3 hL)) h60.1 (xnlt (oX5_n1 (oX10_o3 hL)) h60.2) ?_
          refine xJ_aload_n hX dX10_tick_61 rfl ?_
          refine xJ_getI hX dX10_tick_62 fd_X10_98 rfl (oX10_k hL) ?_
          refine xJ_icmp_ne hX dX10_tick_65 (tgt := 72) (by decide) (hM _ _) (hM _ _) (fun c65 => ?_) (fun c65 => ?_)
          · replace hp := hp.1 c65
            refine xJ_iconst hX dX10_tick_72 ?_
            refine xJ_istore_n hX dX10_tick_73 (Nat.le_of_ble_eq_true rfl) rfl ?_
            dsimp only [List.set]
            refine xJ_iload_n hX dX10_tick_74 rfl ?_
            refine xJ_if_ne hX dX10_tick_75 (tgt := 83) (by decide) ⟨by decide, by decide⟩ (fun c75 => ?_) (fun c75 => ?_)
            · exact absurd c75 (by decide)
            refine xJ_iload_n hX dX10_tick_78 rfl ?_
            refine xJ_iconst hX dX10_tick_79 ?_
            refine xJ_icmp_ne hX dX10_tick_80 (tgt := 88) (by decide) (hM _ _) ⟨by decide, by decide⟩ (fun c80 => ?_) (fun c80 => ?_)
            · replace hp := hp.1 c80
              refine xJ_iinc hX dX10_tick_88 rfl rfl ?_
              dsimp only [List.set]
              obtain ⟨h88, hp⟩ := hp
              refine xJ_goto hX dX10_tick_91 (tgt := 27) (by decide) ?_
              refine xJ_fg 2 ?_
              dsimp only [List.set]
              refine xJ_fg 3 ?_
              dsimp only [List.set]
              exact ih _ _ hM h88 hp
            · replace hp := hp.2 c80
              refine xJ_aload_n hX dX10_tick_83 rfl ?_
              refine xJ_iload_n hX dX10_tick_84 rfl ?_
              refine xJ_callV (As := [_]) hX hB dX10_tick_85 lk_X10_200 im_X10_arrive se_X10_arrive rfl (by decide) (oX10_k hL) (c_X10_arrive hL hM hx1 hp) (by decide) rfl rfl rfl (Nat.le_of_ble_eq_true rfl) (by decide) (by decide) (fun v t9 M85 hv => ?_) (fun _ _ _ q => q.elim)
              obtain ⟨rfl, hM85, ht9, hp⟩ := hv
              replace ht9 := ht9.symm
              subst ht9
              dsimp only [Option.toList, List.cons_append, List.nil_append]
              refine xJ_iinc hX dX10_tick_88 rfl rfl ?_
              dsimp only [List.set]
              obtain ⟨h88, hp⟩ := hp
              refine xJ_goto hX dX10_tick_91 (tgt := 27) (by decide) ?_
              refine xJ_fg 2 ?_
              dsimp only [List.set]
              refine xJ_fg 3 ?_
              dsimp only [List.set]
              exact ih _ _ hM85 h88 hp
          · replace hp := hp.2 c65
            refine xJ_iconst hX dX10_tick_68 ?_
            refine xJ_goto hX dX10_tick_69 (tgt := 73) (by decide) ?_
            refine xJ_istore_n hX dX10_tick_73 (Nat.le_of_ble_eq_true rfl) rfl ?_
            dsimp only [List.set]
            refine xJ_iload_n hX dX10_tick_74 rfl ?_
            refine xJ_if_ne hX dX10_tick_75 (tgt := 83) (by decide) ⟨by decide, by decide⟩ (fun c75 => ?_) (fun c75 => ?_)
            rotate_left 1
            · exact absurd c75 (by decide)
            refine xJ_aload_n hX dX10_tick_83 rfl ?_
            refine xJ_iload_n hX dX10_tick_84 rfl ?_
            refine xJ_callV (As := [_]) hX hB dX10_tick_85 lk_X10_200 im_X10_arrive se_X10_arrive rfl (by decide) (oX10_k hL) (c_X10_arrive hL hM hx1 hp) (by decide) rfl rfl rfl (Nat.le_of_ble_eq_true rfl) (by decide) (by decide) (fun v t9 M85 hv => ?_) (fun _ _ _ q => q.elim)
            obtain ⟨rfl, hM85, ht9, hp⟩ := hv
            replace ht9 := ht9.symm
            subst ht9
            dsimp only [Option.toList, List.cons_append, List.nil_append]
            refine xJ_iinc hX dX10_tick_88 rfl rfl ?_
            dsimp only [List.set]
            obtain ⟨h88, hp⟩ := hp
            refine xJ_goto hX dX10_tick_91 (tgt := 27) (by decide) ?_
            refine xJ_fg 2 ?_
            dsimp only [List.set]
            refine xJ_fg 3 ?_
            dsimp only [List.set]
            exact ih _ _ hM85 h88 hp
  refine lp27 _ (fun M hM hp => ?_) F _ _ hM22 ⟨by decide, by decide⟩ hp
  · refine xJ_iconst hX dX10_tick_94 ?_
    refine xJ_istore_n hX dX10_tick_95 (Nat.le_of_ble_eq_true rfl) rfl ?_
    dsimp only [List.set]
    have lp96 : ∀ (k : Nat) (x1 : Int) (M : xMe) (hM : xMR M) (hx1 : xR x1) (hp : p_X10_tick_96 F a q qc qs nq Q k x1 M), xJ X 0 0 t M 96 [vr a, vi x1, vU, vU] [] := by
      intro k
      induction k with
      | zero => intro x1 M hM hx1 hp; exact hp.elim
      | succ k ih =>
        intro x1 M hM hx1 hp
        unfold p_X10_tick_96 at hp
        refine xJ_iload_n hX dX10_tick_96 rfl ?_
        refine xJ_aload_n hX dX10_tick_97 rfl ?_
        refine xJ_getR (b := (a + 1)) hX dX10_tick_98 fd_X10_12 rfl (oX10_k hL) (oX10_r0 hL) ?_
        refine xJ_getI hX dX10_tick_101 fd_X10_107 rfl (oX2_k (oX10_o0 hL)) ?_
        refine xJ_icmp_ge hX dX10_tick_104 (tgt := 138) (by decide) hx1 (hM _ _) (fun c104 => ?_) (fun c104 => ?_)
        · replace hp := hp.1 c104
          refine xJ_aload_n hX dX10_tick_138 rfl ?_
          refine xJ_dup hX dX10_tick_139 rfl ?_
          refine xJ_getI hX dX10_tick_140 fd_X10_98 rfl (oX10_k hL) ?_
          refine xJ_iconst hX dX10_tick_143 ?_
          refine xJ_iadd hX dX10_tick_144 ?_
          obtain ⟨h144, hp⟩ := hp
          refine xJ_putIM hX dX10_tick_145 fd_X10_98 ft_X10 rfl rfl rfl rfl (oX10_k hL) hM h144 (fun M145 e145 hM145 => ?_)
          replace hp := hp M145 e145
          refine xJ_vret hX hB dX10_tick_148 (by decide) (by decide) ⟨rfl, hM145, rfl, hp⟩
        · replace hp := hp.2 c104
          refine xJ_iconst hX dX10_tick_107 ?_
          refine xJ_istore_n hX dX10_tick_108 (Nat.le_of_ble_eq_true rfl) rfl ?_
          dsimp only [List.set]
          have lp109 : ∀ (K132 : Int → xMe → Prop) (hK132 : ∀ (y1 : Int) (M : xMe) (hM : xMR M) (hy1 : xR y1) (hp : K132 y1 M), xJ X 0 0 t M 132 [vr a, vi y1, vU, vU] []) (k : Nat) (x1 : Int) (x2 : Int) (M : xMe) (hM : xMR M) (hx1 : xR x1) (hx2 : xR x2) (hp : p_X10_tick_109 F a q qc qs nq Q K132 k x1 x2 M), xJ X 0 0 t M 109 [vr a, vi x1, vi x2, vU] [] := by
            intro K132 hK132 k
            induction k with
            | zero => intro x1 x2 M hM hx1 hx2 hp; exact hp.elim
            | succ k ih =>
              intro x1 x2 M hM hx1 hx2 hp
              unfold p_X10_tick_109 at hp
              refine xJ_iload_n hX dX10_tick_109 rfl ?_
              refine xJ_aload_n hX dX10_tick_110 rfl ?_
              refine xJ_getR (b := (a + 5)) hX dX10_tick_111 fd_X10_21 rfl (oX10_k hL) (oX10_r1 hL) ?_
              refine xJ_getI hX dX10_tick_114 fd_X10_110 rfl (oX1_k (oX10_o1 hL)) ?_
              refine xJ_icmp_ge hX dX10_tick_117 (tgt := 132) (by decide) hx2 (hM _ _) (fun c117 => ?_) (fun c117 => ?_)
              · replace hp := hp.1 c117
                refine xJ_fg 2 ?_
                dsimp only [List.set]
                exact hK132 _ _ hM hx1 hp
              · replace hp := hp.2 c117
                refine xJ_aload_n hX dX10_tick_120 rfl ?_
                refine xJ_iload_n hX dX10_tick_121 rfl ?_
                refine xJ_iload_n hX dX10_tick_122 rfl ?_
                refine xJ_callV (As := [_, _]) hX hB dX10_tick_123 lk_X10_203 im_X10_openGate se_X10_openGate rfl (by decide) (oX10_k hL) (c_X10_openGate hL hqr hq hM hx1 hx2 hp) (by decide) rfl rfl rfl (Nat.le_of_ble_eq_true rfl) (by decide) (by decide) (fun v t9 M123 hv => ?_) (fun _ _ _ q => q.elim)
                obtain ⟨rfl, hM123, ht9, hp⟩ := hv
                replace ht9 := ht9.symm
                subst ht9
                dsimp only [Option.toList, List.cons_append, List.nil_append]
                refine xJ_iinc hX dX10_tick_126 rfl rfl ?_
                dsimp only [List.set]
                obtain ⟨h126, hp⟩ := hp
                refine xJ_goto hX dX10_tick_129 (tgt := 109) (by decide) ?_
                exact ih _ _ _ hM123 hx1 h126 hp
          refine lp109 _ (fun y1 M hM hy1 hp => ?_) F _ _ _ hM hx1 ⟨by decide, by decide⟩ hp
          · refine xJ_iinc hX dX10_tick_132 rfl rfl ?_
            dsimp only [List.set]
            obtain ⟨h132, hp⟩ := hp
            refine xJ_goto hX dX10_tick_135 (tgt := 96) (by decide) ?_
            exact ih _ _ hM h132 hp
    refine lp96 F _ _ hM ⟨by decide, by decide⟩ hp
def p_X10_advance_3 (F : Nat) (a : Nat) (q : Nat) (qc : Nat) (qs : Nat) (nq : Nat) (Q : xMe → Prop) : Nat → Int → Int → Int → xMe → Prop
  | 0, _, _, _, _ => False
  | k + 1, x1, x2, x4, M =>
    ((x1 ≤ x4 → Q M) ∧ (x4 < x1 → p_X5_hasEnded (a + 16) x2 M (fun r14 M14 => ((r14 ≠ 0 → Q M14) ∧ (r14 = 0 → (xR (x1 - x4)) ∧ p_X10_quietTicks F a (x1 - x4) M14 (fun r25 M25 => p_X10_rest F a r25 M25 (fun M31 => (xR (x4 + r25)) ∧ ((x1 ≤ (x4 + r25) → (xR (r25 + 1)) ∧ (xR (x4 + (r25 + 1))) ∧ (∀ z52 : Int, z52 = x4 + (r25 + 1) → p_X10_advance_3 F a q qc qs nq Q k x1 x2 z52 M31)) ∧ ((x4 + r25) < x1 → p_X10_tick F a q qc qs nq M31 (fun M43 => (xR (r25 + 1)) ∧ (xR (x4 + (r25 + 1))) ∧ (∀ z52 : Int, z52 = x4 + (r25 + 1) → p_X10_advance_3 F a q qc qs nq Q k x1 x2 z52 M43)))))))))))
def p_X10_advance (F : Nat) (a : Nat) (x1 : Int) (x2 : Int) (q : Nat) (qc : Nat) (qs : Nat) (nq : Nat) (M : xMe) (Q : xMe → Prop) : Prop :=
  p_X10_advance_3 F a q qc qs nq Q F x1 x2 0 M
set_option maxHeartbeats 4000000 in
set_option maxRecDepth 100000 in
theorem c_X10_advance {G : xGx} {t : xTh} {M : xMe} {F : Nat} {a : Nat} {x1 : Int} {x2 : Int} {q : Nat} {qc : Nat} {qs : Nat} {nq : Nat} {Q : xMe → Prop} (hL : oX10 t a) (hqr : xr t a 6 = some q) (hq : oX7 t q qc qs nq) (hM : xMR M) (hx1 : xR x1) (hx2 : xR x2) (hp : p_X10_advance F a x1 x2 q qc qs nq M Q) : xCt G yX10_advance cX10_advance 5 none 6 0 0 [vr a, vi x1, vi x2] t M (fun v t' M' => v = none ∧ xMR M' ∧ t' = t ∧ Q M') (fun _ _ _ => False) := by
  refine xCt_of (L0 := [vr a, vi x1, vi x2, vU, vU]) (by decide +kernel) (Nat.le_of_ble_eq_true rfl) rfl ?_
  intro X hX hB
  unfold p_X10_advance at hp
  refine xJ_iconst hX dX10_advance_0 ?_
  refine xJ_istore hX dX10_advance_1 (Nat.le_of_ble_eq_true rfl) rfl ?_
  dsimp only [List.set]
  have lp3 : ∀ (k : Nat) (x1 : Int) (x2 : Int) (x4 : Int) (M : xMe) (hM : xMR M) (hx1 : xR x1) (hx2 : xR x2) (hx4 : xR x4) (hp : p_X10_advance_3 F a q qc qs nq Q k x1 x2 x4 M), xJ X 0 0 t M 3 [vr a, vi x1, vi x2, vU, vi x4] [] := by
    intro k
    induction k with
    | zero => intro x1 x2 x4 M hM hx1 hx2 hx4 hp; exact hp.elim
    | succ k ih =>
      intro x1 x2 x4 M hM hx1 hx2 hx4 hp
      unfold p_X10_advance_3 at hp
      refine xJ_iload hX dX10_advance_3 rfl ?_
      refine xJ_iload_n hX dX10_advance_5 rfl ?_
      refine xJ_icmp_ge hX dX10_advance_6 (tgt := 57) (by decide) hx4 hx1 (fun c6 => ?_) (fun c6 => ?_)
      · replace hp := hp.1 c6
        refine xJ_vret hX hB dX10_advance_57 (by decide) (by decide) ⟨rfl, hM, rfl, hp⟩
      · replace hp := hp.2 c6
        refine xJ_aload_n hX dX10_advance_9 rfl ?_
        refine xJ_getR (b := (a + 16)) hX dX10_advance_10 fd_X10_35 rfl (oX10_k hL) (oX10_r3 hL) ?_
        refine xJ_iload_n hX dX10_advance_13 rfl ?_
        refine xJ_callV (As := [_]) hX hB dX10_advance_14 lk_X10_136 im_X5_hasEnded se_X5_hasEnded rfl (by decide) (oX5_k (oX10_o3 hL)) (c_X5_hasEnded (oX10_o3 hL) hM hx2 hp) (by decide) rfl rfl rfl (Nat.le_of_ble_eq_true rfl) (by decide) (by decide) (fun v t9 M14 hv => ?_) (fun _ _ _ q => q.elim)
        obtain ⟨r14, rfl, h14, hM14, ht9, hp⟩ := hv
        replace ht9 := ht9.symm
        subst ht9
        dsimp only [Option.toList, List.cons_append, List.nil_append]
        refine xJ_if_ne hX dX10_advance_17 (tgt := 57) (by decide) h14 (fun c17 => ?_) (fun c17 => ?_)
        · replace hp := hp.1 c17
          refine xJ_vret hX hB dX10_advance_57 (by decide) (by decide) ⟨rfl, hM14, rfl, hp⟩
        · replace hp := hp.2 c17
          refine xJ_aload_n hX dX10_advance_20 rfl ?_
          refine xJ_iload_n hX dX10_advance_21 rfl ?_
          refine xJ_iload hX dX10_advance_22 rfl ?_
          refine xJ_isub hX dX10_advance_24 ?_
          obtain ⟨h24, hp⟩ := hp
          refine xJ_callV (As := [_]) hX hB dX10_advance_25 lk_X10_140 im_X10_quietTicks se_X10_quietTicks rfl (by decide) (oX10_k hL) (c_X10_quietTicks hL hM14 h24 hp) (by decide) rfl rfl rfl (Nat.le_of_ble_eq_true rfl) (by decide) (by decide) (fun v t9 M25 hv => ?_) (fun _ _ _ q => q.elim)
          obtain ⟨r25, rfl, h25, hM25, ht9, hp⟩ := hv
          replace ht9 := ht9.symm
          subst ht9
          dsimp only [Option.toList, List.cons_append, List.nil_append]
          refine xJ_istore_n hX dX10_advance_28 (Nat.le_of_ble_eq_true rfl) rfl ?_
          dsimp only [List.set]
          refine xJ_aload_n hX dX10_advance_29 rfl ?_
          refine xJ_iload_n hX dX10_advance_30 rfl ?_
          refine xJ_callV (As := [_]) hX hB dX10_advance_31 lk_X10_144 im_X10_rest se_X10_rest rfl (by decide) (oX10_k hL) (c_X10_rest hL hM25 h25 hp) (by decide) rfl rfl rfl (Nat.le_of_ble_eq_true rfl) (by decide) (by decide) (fun v t9 M31 hv => ?_) (fun _ _ _ q => q.elim)
          obtain ⟨rfl, hM31, ht9, hp⟩ := hv
          replace ht9 := ht9.symm
          subst ht9
          dsimp only [Option.toList, List.cons_append, List.nil_append]
          refine xJ_iload hX dX10_advance_34 rfl ?_
          refine xJ_iload_n hX dX10_advance_36 rfl ?_
          refine xJ_iadd hX dX10_advance_37 ?_
          obtain ⟨h37, hp⟩ := hp
          refine xJ_iload_n hX dX10_advance_38 rfl ?_
          refine xJ_icmp_ge hX dX10_advance_39 (tgt := 46) (by decide) h37 hx1 (fun c39 => ?_) (fun c39 => ?_)
          · replace hp := hp.1 c39
            refine xJ_iload hX dX10_advance_46 rfl ?_
            refine xJ_iload_n hX dX10_advance_48 rfl ?_
            refine xJ_iconst hX dX10_advance_49 ?_
            refine xJ_iadd hX dX10_advance_50 ?_
            obtain ⟨h50, hp⟩ := hp
            refine xJ_iadd hX dX10_advance_51 ?_
            obtain ⟨h51, hp⟩ := hp
            refine xJ_istore hX dX10_advance_52 (Nat.le_of_ble_eq_true rfl) rfl ?_
            dsimp only [List.set]
            replace hp := hp _ rfl
            refine xJ_goto hX dX10_advance_54 (tgt := 3) (by decide) ?_
            refine xJ_fg 3 ?_
            dsimp only [List.set]
            exact ih _ _ _ _ hM31 hx1 hx2 h51 hp
          · replace hp := hp.2 c39
            refine xJ_aload_n hX dX10_advance_42 rfl ?_
            refine xJ_callV (As := []) hX hB dX10_advance_43 lk_X10_148 im_X10_tick se_X10_tick rfl (by decide) (oX10_k hL) (c_X10_tick hL hqr hq hM31 hp) (by decide) rfl rfl rfl (Nat.le_of_ble_eq_true rfl) (by decide) (by decide) (fun v t9 M43 hv => ?_) (fun _ _ _ q => q.elim)
            obtain ⟨rfl, hM43, ht9, hp⟩ := hv
            replace ht9 := ht9.symm
            subst ht9
            dsimp only [Option.toList, List.cons_append, List.nil_append]
            refine xJ_iload hX dX10_advance_46 rfl ?_
            refine xJ_iload_n hX dX10_advance_48 rfl ?_
            refine xJ_iconst hX dX10_advance_49 ?_
            refine xJ_iadd hX dX10_advance_50 ?_
            obtain ⟨h50, hp⟩ := hp
            refine xJ_iadd hX dX10_advance_51 ?_
            obtain ⟨h51, hp⟩ := hp
            refine xJ_istore hX dX10_advance_52 (Nat.le_of_ble_eq_true rfl) rfl ?_
            dsimp only [List.set]
            replace hp := hp _ rfl
            refine xJ_goto hX dX10_advance_54 (tgt := 3) (by decide) ?_
            refine xJ_fg 3 ?_
            dsimp only [List.set]
            exact ih _ _ _ _ hM43 hx1 hx2 h51 hp
  refine lp3 F _ _ _ _ hM hx1 hx2 ⟨by decide, by decide⟩ hp
