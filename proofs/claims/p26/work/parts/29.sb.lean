def p_J5_init_d00df (F : Nat) (n : Nat) (tE : xTh) (x0 : Nat) (x1 : Int) (ME : xMe) (Q : xTh → xMe → Prop) : Prop :=
  ((0 : Int) ≤ x1 ∧ x1 ≤ 64) ∧ (1 ≤ n) ∧ (∀ (a12 : Nat) (t12 : xTh) (M12 : xMe), a12 = xz tE → t12 = xnw tE 13 x1.toNat → M12 = xw0 ME a12 → (∀ t14 : xTh, t14 = xwr t12 x0 0 (some a12) → (∀ M19 : xMe, M19 = xw M12 x0 1 0 → Q t14 M19)))
set_option maxHeartbeats 8000000 in
set_option maxRecDepth 100000 in
theorem c_J5_init_d00df {G : xGx} {tE : xTh} {ME : xMe} {F nE : Nat} {x0 : Nat} {x1 : Int} {Q : xTh → xMe → Prop} (hME : xMR ME) (hkx0 : xk tE x0 = 22) (hx1 : xR x1) (hp : p_J5_init_d00df F nE tE x0 x1 ME Q) : xCt G yJ5_init_d00df cJ5_init_d00df 2 none 2 nE (64 * nE) [vr x0, vi x1] tE ME (fun v t' M' => v = none ∧ xMR M' ∧ xke tE t' ∧ Q t' M') (fun _ _ _ => False) := by
  refine xCt_of (L0 := [vr x0, vi x1]) (by decide +kernel) (Nat.le_of_ble_eq_true rfl) rfl ?_
  intro X hX hB
  unfold p_J5_init_d00df at hp
  refine xJ_aload_n hX dJ5_init_d00df_0 rfl ?_
  refine xJ_objInit hX hB dJ5_init_d00df_1 lj_J5_3 jw_obj_im jw_obj_co rfl (by decide) (Nat.le_of_ble_eq_true rfl) ?_
  refine xJ_gcomp5 hX rfl dJ5_init_d00df_4 ?_
  refine xJ_if_eq hX dJ5_init_d00df_7 (tgt := 25) (by decide) ⟨by decide, by decide⟩ (fun c7 => ?_) (fun c7 => ?_)
  · exact absurd c7 (by decide)
  refine xJ_aload_n hX dJ5_init_d00df_10 rfl ?_
  refine xJ_iload_n hX dJ5_init_d00df_11 rfl ?_
  obtain ⟨hl12, hp⟩ := hp
  obtain ⟨hn12, hp⟩ := hp
  refine xJ_newYE hX hB hME dJ5_init_d00df_12 ac_byte hl12.1 (by omega) (by omega) (by omega) (fun a12 t12 M12 ea12 et12 e12 hM12 hq12 hka12 => ?_)
  replace hp := hp a12 t12 M12 ea12 et12 e12
  refine xJ_putRE (x := (some a12)) hX dJ5_init_d00df_14 fd_J5_15 ft_J4 rfl rfl rfl rfl (xke_k hq12 hkx0 (by decide)) (fun t14 et14 hq14 => ?_)
  replace hp := hp t14 et14
  refine xJ_aload_n hX dJ5_init_d00df_17 rfl ?_
  refine xJ_iconst hX dJ5_init_d00df_18 ?_
  refine xJ_putIM hX dJ5_init_d00df_19 fd_J5_22 ft_J4 rfl rfl rfl rfl (xke_k hq14 (xke_k hq12 hkx0 (by decide)) (by decide)) hM12 ⟨by decide, by decide⟩ (fun M19 e19 hM19 => ?_)
  replace hp := hp M19 e19
  refine xJ_goto hX dJ5_init_d00df_22 (tgt := 38) (by decide) ?_
  exact xJ_vret hX hB dJ5_init_d00df_38 (by omega) (by omega) ⟨rfl, hM19, (xke_trans (xke_trans (xke_refl _) hq12) hq14), hp⟩
def p_J4_init_da8c8 (F : Nat) (n : Nat) (tE : xTh) (x0 : Nat) (ME : xMe) (Q : xTh → xMe → Prop) : Prop :=
  (∃ k3 : Nat, k3 ≤ n ∧ p_J5_init_d00df F k3 tE x0 16 ME (fun t3 M3 => Q t3 M3))
set_option maxHeartbeats 8000000 in
set_option maxRecDepth 100000 in
theorem c_J4_init_da8c8 {G : xGx} {tE : xTh} {ME : xMe} {F nE : Nat} {x0 : Nat} {Q : xTh → xMe → Prop} (hME : xMR ME) (hkx0 : xk tE x0 = 22)  (hp : p_J4_init_da8c8 F nE tE x0 ME Q) : xCt G yJ4_init_da8c8 cJ4_init_da8c8 1 none 3 nE (64 * nE) [vr x0] tE ME (fun v t' M' => v = none ∧ xMR M' ∧ xke tE t' ∧ Q t' M') (fun _ _ _ => False) := by
  refine xCt_of (L0 := [vr x0]) (by decide +kernel) (Nat.le_of_ble_eq_true rfl) rfl ?_
  intro X hX hB
  unfold p_J4_init_da8c8 at hp
  refine xJ_aload_n hX dJ4_init_da8c8_0 rfl ?_
  refine xJ_bipush hX dJ4_init_da8c8_1 rfl ?_
  obtain ⟨k3, hn3, hp⟩ := hp
  refine xJ_callI (As := [_]) hX hB dJ4_init_da8c8_3 lk_J4_1 im_J5_init_d00df rfl (c_J5_init_d00df hME hkx0 ⟨by decide, by decide⟩ hp) (by decide) rfl rfl rfl (Nat.le_of_ble_eq_true rfl) (by omega) (by omega) (fun v t3 M3 hv => ?_)
  clear hp
  obtain ⟨rfl, hM3, hq3, hp⟩ := hv
  dsimp only [Option.toList, List.cons_append, List.nil_append]
  exact xJ_vret hX hB dJ4_init_da8c8_6 (by omega) (by omega) ⟨rfl, hM3, (xke_trans (xke_refl _) hq3), hp⟩
def p_J5_isLatin1_aae02 (F : Nat) (n : Nat) (tE : xTh) (x0 : Nat) (ME : xMe) (Q : Int → xTh → xMe → Prop) : Prop :=
  (((ME x0 1) ≠ 0 → Q 0 tE ME) ∧ ((ME x0 1) = 0 → Q 1 tE ME))
set_option maxHeartbeats 8000000 in
set_option maxRecDepth 100000 in
theorem c_J5_isLatin1_aae02 {G : xGx} {tE : xTh} {ME : xMe} {F nE : Nat} {x0 : Nat} {Q : Int → xTh → xMe → Prop} (hME : xMR ME) (hkx0 : xk tE x0 = 22)  (hp : p_J5_isLatin1_aae02 F nE tE x0 ME Q) : xCt G yJ5_isLatin1_aae02 cJ5_isLatin1_aae02 1 (some .boolean) 1 nE (64 * nE) [vr x0] tE ME (fun v t' M' => ∃ r, v = some (vi r) ∧ xR r ∧ xMR M' ∧ xke tE t' ∧ Q r t' M') (fun _ _ _ => False) := by
  refine xCt_of (L0 := [vr x0]) (by decide +kernel) (Nat.le_of_ble_eq_true rfl) rfl ?_
  intro X hX hB
  unfold p_J5_isLatin1_aae02 at hp
  refine xJ_gcomp5 hX rfl dJ5_isLatin1_aae02_0 ?_
  refine xJ_if_eq hX dJ5_isLatin1_aae02_3 (tgt := 17) (by decide) ⟨by decide, by decide⟩ (fun c3 => ?_) (fun c3 => ?_)
  · exact absurd c3 (by decide)
  refine xJ_aload_n hX dJ5_isLatin1_aae02_6 rfl ?_
  refine xJ_getI hX dJ5_isLatin1_aae02_7 fd_J5_22 rfl hkx0 ?_
  refine xJ_if_ne hX dJ5_isLatin1_aae02_10 (tgt := 17) (by decide) (hME _ _) (fun c10 => ?_) (fun c10 => ?_)
  · replace hp := hp.1 c10
    refine xJ_iconst hX dJ5_isLatin1_aae02_17 ?_
    exact xJ_zret hX hB dJ5_isLatin1_aae02_18 rfl (by omega) (by omega) ⟨_, rfl, ⟨by decide, by decide⟩, hME, (xke_refl _), hp⟩
  · replace hp := hp.2 c10
    refine xJ_iconst hX dJ5_isLatin1_aae02_13 ?_
    refine xJ_goto hX dJ5_isLatin1_aae02_14 (tgt := 18) (by decide) ?_
    exact xJ_zret hX hB dJ5_isLatin1_aae02_18 rfl (by omega) (by omega) ⟨_, rfl, ⟨by decide, by decide⟩, hME, (xke_refl _), hp⟩
def p_J5_getValue_6d5f1 (F : Nat) (n : Nat) (tE : xTh) (x0 : Nat) (ME : xMe) (Q : Nat → xTh → xMe → Prop) : Prop :=
  (∃ b1 : Nat, xr tE x0 0 = some b1 ∧ xk tE b1 = 13 ∧ Q b1 tE ME)
set_option maxHeartbeats 8000000 in
set_option maxRecDepth 100000 in
theorem c_J5_getValue_6d5f1 {G : xGx} {tE : xTh} {ME : xMe} {F nE : Nat} {x0 : Nat} {Q : Nat → xTh → xMe → Prop} (hME : xMR ME) (hkx0 : xk tE x0 = 22)  (hp : p_J5_getValue_6d5f1 F nE tE x0 ME Q) : xCt G yJ5_getValue_6d5f1 cJ5_getValue_6d5f1 1 (some (.array .byte)) 1 nE (64 * nE) [vr x0] tE ME (fun v t' M' => ∃ r, v = some (vr r) ∧ xk t' r = 13 ∧ xMR M' ∧ xke tE t' ∧ Q r t' M') (fun _ _ _ => False) := by
  refine xCt_of (L0 := [vr x0]) (by decide +kernel) (Nat.le_of_ble_eq_true rfl) rfl ?_
  intro X hX hB
  unfold p_J5_getValue_6d5f1 at hp
  refine xJ_aload_n hX dJ5_getValue_6d5f1_0 rfl ?_
  obtain ⟨b1, e1, hkb1, hp⟩ := hp
  refine xJ_getR (b := b1) hX dJ5_getValue_6d5f1_1 fd_J5_15 rfl hkx0 e1 ?_
  exact xJ_aret hX hB dJ5_getValue_6d5f1_4 (Or.inr ⟨_, rfl⟩) (Or.inr ⟨_, rfl⟩) (by omega) (by omega) ⟨_, rfl, hkb1, hME, (xke_refl _), hp⟩
def p_J5_length_8abf5 (F : Nat) (n : Nat) (tE : xTh) (x0 : Nat) (ME : xMe) (Q : Int → xTh → xMe → Prop) : Prop :=
  Q (ME x0 3) tE ME
set_option maxHeartbeats 8000000 in
set_option maxRecDepth 100000 in
theorem c_J5_length_8abf5 {G : xGx} {tE : xTh} {ME : xMe} {F nE : Nat} {x0 : Nat} {Q : Int → xTh → xMe → Prop} (hME : xMR ME) (hkx0 : xk tE x0 = 22)  (hp : p_J5_length_8abf5 F nE tE x0 ME Q) : xCt G yJ5_length_8abf5 cJ5_length_8abf5 1 (some .int) 1 nE (64 * nE) [vr x0] tE ME (fun v t' M' => ∃ r, v = some (vi r) ∧ xR r ∧ xMR M' ∧ xke tE t' ∧ Q r t' M') (fun _ _ _ => False) := by
  refine xCt_of (L0 := [vr x0]) (by decide +kernel) (Nat.le_of_ble_eq_true rfl) rfl ?_
  intro X hX hB
  unfold p_J5_length_8abf5 at hp
  refine xJ_aload_n hX dJ5_length_8abf5_0 rfl ?_
  refine xJ_getI hX dJ5_length_8abf5_1 fd_J5_79 rfl hkx0 ?_
  exact xJ_iret hX hB dJ5_length_8abf5_4 (by omega) (by omega) ⟨_, rfl, (hME _ _), hME, (xke_refl _), hp⟩
def p_J4_length_8abf5 (F : Nat) (n : Nat) (tE : xTh) (x0 : Nat) (ME : xMe) (Q : Int → xTh → xMe → Prop) : Prop :=
  (∃ k1 : Nat, k1 ≤ n ∧ p_J5_length_8abf5 F k1 tE x0 ME (fun r1 t1 M1 => Q r1 t1 M1))
set_option maxHeartbeats 8000000 in
set_option maxRecDepth 100000 in
theorem c_J4_length_8abf5 {G : xGx} {tE : xTh} {ME : xMe} {F nE : Nat} {x0 : Nat} {Q : Int → xTh → xMe → Prop} (hME : xMR ME) (hkx0 : xk tE x0 = 22)  (hp : p_J4_length_8abf5 F nE tE x0 ME Q) : xCt G yJ4_length_8abf5 cJ4_length_8abf5 1 (some .int) 2 nE (64 * nE) [vr x0] tE ME (fun v t' M' => ∃ r, v = some (vi r) ∧ xR r ∧ xMR M' ∧ xke tE t' ∧ Q r t' M') (fun _ _ _ => False) := by
  refine xCt_of (L0 := [vr x0]) (by decide +kernel) (Nat.le_of_ble_eq_true rfl) rfl ?_
  intro X hX hB
  unfold p_J4_length_8abf5 at hp
  refine xJ_aload_n hX dJ4_length_8abf5_0 rfl ?_
  obtain ⟨k1, hn1, hp⟩ := hp
  refine xJ_callSU (As := []) hX hB dJ4_length_8abf5_1 lk_J4_343 ws_J5_length_8abf5 wsup_SB im_J5_length_8abf5 (by decide) hkx0 (c_J5_length_8abf5 hME hkx0 hp) (by decide) rfl rfl rfl (Nat.le_of_ble_eq_true rfl) (by omega) (by omega) (fun v t1 M1 hv => ?_)
  clear hp
  obtain ⟨r1, rfl, h1, hM1, hq1, hp⟩ := hv
  dsimp only [Option.toList, List.cons_append, List.nil_append]
  exact xJ_iret hX hB dJ4_length_8abf5_4 (by omega) (by omega) ⟨_, rfl, h1, hM1, (xke_trans (xke_refl _) hq1), hp⟩
def p_J8_newLength_cabcc (F : Nat) (n : Nat) (tE : xTh) (x0 : Int) (x1 : Int) (x2 : Int) (ME : xMe) (Q : Int → xTh → xMe → Prop) : Prop :=
  (xR (x0 + (max x1 x2))) ∧ (∀ z7 : Int, z7 = x0 + (max x1 x2) → ((z7 ≤ 0 → False) ∧ (0 < z7 → ((2147483639 < z7 → False) ∧ (z7 ≤ 2147483639 → Q z7 tE ME)))))
set_option maxHeartbeats 8000000 in
set_option maxRecDepth 100000 in
theorem c_J8_newLength_cabcc {G : xGx} {tE : xTh} {ME : xMe} {F nE : Nat} {x0 : Int} {x1 : Int} {x2 : Int} {Q : Int → xTh → xMe → Prop} (hME : xMR ME)  (hx0 : xR x0) (hx1 : xR x1) (hx2 : xR x2) (hp : p_J8_newLength_cabcc F nE tE x0 x1 x2 ME Q) : xCt G yJ8_newLength_cabcc cJ8_newLength_cabcc 4 (some .int) 1 nE (64 * nE) [vi x0, vi x1, vi x2] tE ME (fun v t' M' => ∃ r, v = some (vi r) ∧ xR r ∧ xMR M' ∧ xke tE t' ∧ Q r t' M') (fun _ _ _ => False) := by
  refine xCt_of (L0 := [vi x0, vi x1, vi x2, vU]) (by decide +kernel) (Nat.le_of_ble_eq_true rfl) rfl ?_
  intro X hX hB
  unfold p_J8_newLength_cabcc at hp
  refine xJ_iload_n hX dJ8_newLength_cabcc_0 rfl ?_
  refine xJ_iload_n hX dJ8_newLength_cabcc_1 rfl ?_
  refine xJ_iload_n hX dJ8_newLength_cabcc_2 rfl ?_
  refine xJ_mmax hX hB dJ8_newLength_cabcc_3 lj_J8_194 jw_max_st jw_ma_in jw_max_co rfl (by decide) (Nat.le_of_ble_eq_true rfl) (by omega) (by omega) hx1 hx2 ?_
  refine xJ_iadd hX dJ8_newLength_cabcc_6 ?_
  obtain ⟨h6, hp⟩ := hp
  refine xJ_istore_n hX dJ8_newLength_cabcc_7 (Nat.le_of_ble_eq_true rfl) rfl ?_
  dsimp only [List.set]
  replace hp := hp _ rfl
  refine xJ_iconst hX dJ8_newLength_cabcc_8 ?_
  refine xJ_iload_n hX dJ8_newLength_cabcc_9 rfl ?_
  refine xJ_icmp_ge hX dJ8_newLength_cabcc_10 (tgt := 21) (by decide) ⟨by decide, by decide⟩ h6 (fun c10 => ?_) (fun c10 => ?_)
  · replace hp := hp.1 c10
    exact False.elim hp
  · replace hp := hp.2 c10
    refine xJ_iload_n hX dJ8_newLength_cabcc_13 rfl ?_
    refine xJ_ldc (2147483639) hX dJ8_newLength_cabcc_14 kc_J8_200 ?_
    refine xJ_icmp_gt hX dJ8_newLength_cabcc_16 (tgt := 21) (by decide) h6 ⟨by decide, by decide⟩ (fun c16 => ?_) (fun c16 => ?_)
    · replace hp := hp.1 c16
      exact False.elim hp
    · replace hp := hp.2 c16
      refine xJ_iload_n hX dJ8_newLength_cabcc_19 rfl ?_
      exact xJ_iret hX hB dJ8_newLength_cabcc_20 (by omega) (by omega) ⟨_, rfl, h6, hME, (xke_refl _), hp⟩
def p_J5_newCapacity_0f7a4 (F : Nat) (n : Nat) (tE : xTh) (x0 : Nat) (x1 : Int) (ME : xMe) (Q : Int → xTh → xMe → Prop) : Prop :=
  (∃ b1 : Nat, xr tE x0 0 = some b1 ∧ xk tE b1 = 13 ∧ (xR ((xn tE b1 : Nat) : Int)) ∧ (∀ z5 : Int, z5 = ((xn tE b1 : Nat) : Int) → ((ME x0 1) = (0 : Int)) ∧ (xR (x1 - z5)) ∧ (∀ z16 : Int, z16 = x1 - z5 → ((ME x0 1) = (0 : Int)) ∧ (xR (z5 + 2)) ∧ (∃ k29 : Nat, k29 ≤ n ∧ p_J8_newLength_cabcc F k29 tE z5 z16 (z5 + 2) ME (fun r29 t29 M29 => ((r29 ≠ 2147483647 → ((M29 x0 1) = (0 : Int)) ∧ Q r29 t29 M29) ∧ (r29 = 2147483647 → False)))))))
set_option maxHeartbeats 8000000 in
set_option maxRecDepth 100000 in
theorem c_J5_newCapacity_0f7a4 {G : xGx} {tE : xTh} {ME : xMe} {F nE : Nat} {x0 : Nat} {x1 : Int} {Q : Int → xTh → xMe → Prop} (hME : xMR ME) (hkx0 : xk tE x0 = 22) (hx1 : xR x1) (hp : p_J5_newCapacity_0f7a4 F nE tE x0 x1 ME Q) : xCt G yJ5_newCapacity_0f7a4 cJ5_newCapacity_0f7a4 6 (some .int) 2 nE (64 * nE) [vr x0, vi x1] tE ME (fun v t' M' => ∃ r, v = some (vi r) ∧ xR r ∧ xMR M' ∧ xke tE t' ∧ Q r t' M') (fun _ _ _ => False) := by
  refine xCt_of (L0 := [vr x0, vi x1, vU, vU, vU, vU]) (by decide +kernel) (Nat.le_of_ble_eq_true rfl) rfl ?_
  intro X hX hB
  unfold p_J5_newCapacity_0f7a4 at hp
  refine xJ_aload_n hX dJ5_newCapacity_0f7a4_0 rfl ?_
  obtain ⟨b1, e1, hkb1, hp⟩ := hp
  refine xJ_getR (b := b1) hX dJ5_newCapacity_0f7a4_1 fd_J5_15 rfl hkx0 e1 ?_
  refine xJ_alen hX dJ5_newCapacity_0f7a4_4 (by rw [hkb1]; decide) (by rw [hkb1]; decide) ?_
  obtain ⟨h4, hp⟩ := hp
  refine xJ_istore_n hX dJ5_newCapacity_0f7a4_5 (Nat.le_of_ble_eq_true rfl) rfl ?_
  dsimp only [List.set]
  replace hp := hp _ rfl
  refine xJ_iload_n hX dJ5_newCapacity_0f7a4_6 rfl ?_
  refine xJ_aload_n hX dJ5_newCapacity_0f7a4_7 rfl ?_
  refine xJ_getI hX dJ5_newCapacity_0f7a4_8 fd_J5_22 rfl hkx0 ?_
  obtain ⟨h11, hp⟩ := hp
  refine xJ_ishl0 hX dJ5_newCapacity_0f7a4_11 hx1 h11 ?_
  refine xJ_istore_n hX dJ5_newCapacity_0f7a4_12 (Nat.le_of_ble_eq_true rfl) rfl ?_
  dsimp only [List.set]
  refine xJ_iload_n hX dJ5_newCapacity_0f7a4_13 rfl ?_
  refine xJ_iload_n hX dJ5_newCapacity_0f7a4_14 rfl ?_
  refine xJ_isub hX dJ5_newCapacity_0f7a4_15 ?_
  obtain ⟨h15, hp⟩ := hp
  refine xJ_istore hX dJ5_newCapacity_0f7a4_16 (Nat.le_of_ble_eq_true rfl) rfl ?_
  dsimp only [List.set]
  replace hp := hp _ rfl
  refine xJ_iload_n hX dJ5_newCapacity_0f7a4_18 rfl ?_
  refine xJ_iload hX dJ5_newCapacity_0f7a4_19 rfl ?_
  refine xJ_iload_n hX dJ5_newCapacity_0f7a4_21 rfl ?_
  refine xJ_iconst hX dJ5_newCapacity_0f7a4_22 ?_
  refine xJ_aload_n hX dJ5_newCapacity_0f7a4_23 rfl ?_
  refine xJ_getI hX dJ5_newCapacity_0f7a4_24 fd_J5_22 rfl hkx0 ?_
  obtain ⟨h27, hp⟩ := hp
  refine xJ_ishl0 hX dJ5_newCapacity_0f7a4_27 ⟨by decide, by decide⟩ h27 ?_
  refine xJ_iadd hX dJ5_newCapacity_0f7a4_28 ?_
  obtain ⟨h28, hp⟩ := hp
  obtain ⟨k29, hn29, hp⟩ := hp
  refine xJ_callS (As := [_, _, _]) hX hB dJ5_newCapacity_0f7a4_29 lk_J5_114 sm_J8_newLength_cabcc (c_J8_newLength_cabcc hME h4 h15 h28 hp) (by decide) rfl rfl rfl (Nat.le_of_ble_eq_true rfl) (by omega) (by omega) (fun v t29 M29 hv => ?_) (fun _ _ _ q => q.elim)
  clear hp
  obtain ⟨r29, rfl, h29, hM29, hq29, hp⟩ := hv
  dsimp only [Option.toList, List.cons_append, List.nil_append]
  refine xJ_istore hX dJ5_newCapacity_0f7a4_32 (Nat.le_of_ble_eq_true rfl) rfl ?_
  dsimp only [List.set]
  refine xJ_iload hX dJ5_newCapacity_0f7a4_34 rfl ?_
  refine xJ_ldc (2147483647) hX dJ5_newCapacity_0f7a4_36 kc_J5_39 ?_
  refine xJ_icmp_ne hX dJ5_newCapacity_0f7a4_38 (tgt := 51) (by decide) h29 ⟨by decide, by decide⟩ (fun c38 => ?_) (fun c38 => ?_)
  · replace hp := hp.1 c38
    refine xJ_iload hX dJ5_newCapacity_0f7a4_51 rfl ?_
    refine xJ_aload_n hX dJ5_newCapacity_0f7a4_53 rfl ?_
    refine xJ_getI hX dJ5_newCapacity_0f7a4_54 fd_J5_22 rfl (xke_k hq29 hkx0 (by decide)) ?_
    obtain ⟨h57, hp⟩ := hp
    refine xJ_ishr0 hX dJ5_newCapacity_0f7a4_57 h29 h57 ?_
    exact xJ_iret hX hB dJ5_newCapacity_0f7a4_58 (by omega) (by omega) ⟨_, rfl, h29, hM29, (xke_trans (xke_refl _) hq29), hp⟩
  · replace hp := hp.2 c38
    exact False.elim hp
def p_J7_copyOf_9075b (F : Nat) (n : Nat) (tE : xTh) (x0 : Nat) (x1 : Int) (ME : xMe) (Q : Nat → xTh → xMe → Prop) : Prop :=
  (xR ((xn tE x0 : Nat) : Int)) ∧ ((x1 ≠ (((xn tE x0 : Nat) : Int)) → ((0 : Int) ≤ x1 ∧ x1 ≤ 64) ∧ (1 ≤ n) ∧ (∀ (a15 : Nat) (t15 : xTh) (M15 : xMe), a15 = xz tE → t15 = xnw tE 13 x1.toNat → M15 = xw0 ME a15 → (xR ((xn t15 x0 : Nat) : Int)) ∧ (((0 : Int) ≤ 0 ∧ (0 : Int) ≤ 0 ∧ (0 : Int) ≤ (min (((xn t15 x0 : Nat) : Int)) x1)) ∧ 0 + (min (((xn t15 x0 : Nat) : Int)) x1) ≤ (xn t15 x0 : Int) ∧ 0 + (min (((xn t15 x0 : Nat) : Int)) x1) ≤ (xn t15 a15 : Int) ∧ ∀ i : Nat, (i : Int) < (min (((xn t15 x0 : Nat) : Int)) x1) → -128 ≤ M15 x0 (0 + i) ∧ M15 x0 (0 + i) < 128) ∧ (∀ M28 : xMe, M28 = xcp M15 x0 a15 0 0 (min (((xn t15 x0 : Nat) : Int)) x1).toNat → Q a15 t15 M28))) ∧ (x1 = (((xn tE x0 : Nat) : Int)) → False))
set_option maxHeartbeats 8000000 in
set_option maxRecDepth 100000 in
theorem c_J7_copyOf_9075b {G : xGx} {tE : xTh} {ME : xMe} {F nE : Nat} {x0 : Nat} {x1 : Int} {Q : Nat → xTh → xMe → Prop} (hME : xMR ME) (hkx0 : xk tE x0 = 13) (hx1 : xR x1) (hp : p_J7_copyOf_9075b F nE tE x0 x1 ME Q) : xCt G yJ7_copyOf_9075b cJ7_copyOf_9075b 3 (some (.array .byte)) 2 nE (64 * nE) [vr x0, vi x1] tE ME (fun v t' M' => ∃ r, v = some (vr r) ∧ xk t' r = 13 ∧ xMR M' ∧ xke tE t' ∧ Q r t' M') (fun _ _ _ => False) := by
  refine xCt_of (L0 := [vr x0, vi x1, vU]) (by decide +kernel) (Nat.le_of_ble_eq_true rfl) rfl ?_
  intro X hX hB
  unfold p_J7_copyOf_9075b at hp
  refine xJ_iload_n hX dJ7_copyOf_9075b_0 rfl ?_
  refine xJ_aload_n hX dJ7_copyOf_9075b_1 rfl ?_
  refine xJ_alen hX dJ7_copyOf_9075b_2 (by rw [hkx0]; decide) (by rw [hkx0]; decide) ?_
  obtain ⟨h2, hp⟩ := hp
  refine xJ_icmp_ne hX dJ7_copyOf_9075b_3 (tgt := 14) (by decide) hx1 h2 (fun c3 => ?_) (fun c3 => ?_)
  · replace hp := hp.1 c3
    refine xJ_iload_n hX dJ7_copyOf_9075b_14 rfl ?_
    obtain ⟨hl15, hp⟩ := hp
    obtain ⟨hn15, hp⟩ := hp
    refine xJ_newYE hX hB hME dJ7_copyOf_9075b_15 ac_byte hl15.1 (by omega) (by omega) (by omega) (fun a15 t15 M15 ea15 et15 e15 hM15 hq15 hka15 => ?_)
    replace hp := hp a15 t15 M15 ea15 et15 e15
    refine xJ_astore_n hX dJ7_copyOf_9075b_17 (Nat.le_of_ble_eq_true rfl) rfl ?_
    dsimp only [List.set]
    refine xJ_aload_n hX dJ7_copyOf_9075b_18 rfl ?_
    refine xJ_iconst hX dJ7_copyOf_9075b_19 ?_
    refine xJ_aload_n hX dJ7_copyOf_9075b_20 rfl ?_
    refine xJ_iconst hX dJ7_copyOf_9075b_21 ?_
    refine xJ_aload_n hX dJ7_copyOf_9075b_22 rfl ?_
    refine xJ_alen hX dJ7_copyOf_9075b_23 (by rw [(xke_k hq15 hkx0 (by decide))]; decide) (by rw [(xke_k hq15 hkx0 (by decide))]; decide) ?_
    obtain ⟨h23, hp⟩ := hp
    refine xJ_iload_n hX dJ7_copyOf_9075b_24 rfl ?_
    refine xJ_mmin hX hB dJ7_copyOf_9075b_25 lj_J7_304 jw_min_st jw_ma_in jw_min_co rfl (by decide) (Nat.le_of_ble_eq_true rfl) (by omega) (by omega) h23 hx1 ?_
    obtain ⟨h28, hp⟩ := hp
    refine xJ_copyY hX hB dJ7_copyOf_9075b_28 lj_J7_150 jw_cp_nat jw_cp_st jw_cp_in rfl (by decide) (Nat.le_of_ble_eq_true rfl) (xke_k hq15 hkx0 (by decide)) hka15 h28.1.1 h28.1.2.1 h28.1.2.2 h28.2.1 h28.2.2.1 h28.2.2.2 hM15 (fun M28 e28 hM28 => ?_)
    replace hp := hp M28 e28
    refine xJ_aload_n hX dJ7_copyOf_9075b_31 rfl ?_
    exact xJ_aret hX hB dJ7_copyOf_9075b_32 (Or.inr ⟨_, rfl⟩) (Or.inr ⟨_, rfl⟩) (by omega) (by omega) ⟨_, rfl, hka15, hM28, (xke_trans (xke_refl _) hq15), hp⟩
  · replace hp := hp.2 c3
    exact False.elim hp
def p_J5_ensureCapacityInternal_d00df (F : Nat) (n : Nat) (tE : xTh) (x0 : Nat) (x1 : Int) (ME : xMe) (Q : xTh → xMe → Prop) : Prop :=
  (∃ b1 : Nat, xr tE x0 0 = some b1 ∧ xk tE b1 = 13 ∧ (xR ((xn tE b1 : Nat) : Int)) ∧ ((ME x0 1) = (0 : Int)) ∧ (∀ z10 : Int, z10 = ((xn tE b1 : Nat) : Int) → (xR (x1 - z10)) ∧ (((x1 - z10) ≤ 0 → Q tE ME) ∧ (0 < (x1 - z10) → (∃ k24 : Nat, k24 ≤ n ∧ p_J5_newCapacity_0f7a4 F k24 tE x0 x1 ME (fun r24 t24 M24 => ((M24 x0 1) = (0 : Int)) ∧ (∃ k32 : Nat, k32 ≤ (n - k24) ∧ p_J7_copyOf_9075b F k32 t24 b1 r24 M24 (fun r32 t32 M32 => (∀ t35 : xTh, t35 = xwr t32 x0 0 (some r32) → Q t35 M32)))))))))
set_option maxHeartbeats 8000000 in
set_option maxRecDepth 100000 in
theorem c_J5_ensureCapacityInternal_d00df {G : xGx} {tE : xTh} {ME : xMe} {F nE : Nat} {x0 : Nat} {x1 : Int} {Q : xTh → xMe → Prop} (hME : xMR ME) (hkx0 : xk tE x0 = 22) (hx1 : xR x1) (hp : p_J5_ensureCapacityInternal_d00df F nE tE x0 x1 ME Q) : xCt G yJ5_ensureCapacityInternal_d00df cJ5_ensureCapacityInternal_d00df 3 none 3 nE (64 * nE) [vr x0, vi x1] tE ME (fun v t' M' => v = none ∧ xMR M' ∧ xke tE t' ∧ Q t' M') (fun _ _ _ => False) := by
  refine xCt_of (L0 := [vr x0, vi x1, vU]) (by decide +kernel) (Nat.le_of_ble_eq_true rfl) rfl ?_
  intro X hX hB
  unfold p_J5_ensureCapacityInternal_d00df at hp
  refine xJ_aload_n hX dJ5_ensureCapacityInternal_d00df_0 rfl ?_
  obtain ⟨b1, e1, hkb1, hp⟩ := hp
  refine xJ_getR (b := b1) hX dJ5_ensureCapacityInternal_d00df_1 fd_J5_15 rfl hkx0 e1 ?_
  refine xJ_alen hX dJ5_ensureCapacityInternal_d00df_4 (by rw [hkb1]; decide) (by rw [hkb1]; decide) ?_
  obtain ⟨h4, hp⟩ := hp
  refine xJ_aload_n hX dJ5_ensureCapacityInternal_d00df_5 rfl ?_
  refine xJ_getI hX dJ5_ensureCapacityInternal_d00df_6 fd_J5_22 rfl hkx0 ?_
  obtain ⟨h9, hp⟩ := hp
  refine xJ_ishr0 hX dJ5_ensureCapacityInternal_d00df_9 h4 h9 ?_
  refine xJ_istore_n hX dJ5_ensureCapacityInternal_d00df_10 (Nat.le_of_ble_eq_true rfl) rfl ?_
  dsimp only [List.set]
  replace hp := hp _ rfl
  refine xJ_iload_n hX dJ5_ensureCapacityInternal_d00df_11 rfl ?_
  refine xJ_iload_n hX dJ5_ensureCapacityInternal_d00df_12 rfl ?_
  refine xJ_isub hX dJ5_ensureCapacityInternal_d00df_13 ?_
  obtain ⟨h13, hp⟩ := hp
  refine xJ_if_le hX dJ5_ensureCapacityInternal_d00df_14 (tgt := 38) (by decide) h13 (fun c14 => ?_) (fun c14 => ?_)
  · replace hp := hp.1 c14
    exact xJ_vret hX hB dJ5_ensureCapacityInternal_d00df_38 (by omega) (by omega) ⟨rfl, hME, (xke_refl _), hp⟩
  · replace hp := hp.2 c14
    refine xJ_aload_n hX dJ5_ensureCapacityInternal_d00df_17 rfl ?_
    refine xJ_aload_n hX dJ5_ensureCapacityInternal_d00df_18 rfl ?_
    refine xJ_getR (b := b1) hX dJ5_ensureCapacityInternal_d00df_19 fd_J5_15 rfl hkx0 e1 ?_
    refine xJ_aload_n hX dJ5_ensureCapacityInternal_d00df_22 rfl ?_
    refine xJ_iload_n hX dJ5_ensureCapacityInternal_d00df_23 rfl ?_
    obtain ⟨k24, hn24, hp⟩ := hp
    refine xJ_callU (As := [_]) hX hB dJ5_ensureCapacityInternal_d00df_24 lu_J5_104 hkx0 (c_J5_newCapacity_0f7a4 hME hkx0 hx1 hp) (by decide) rfl rfl rfl (Nat.le_of_ble_eq_true rfl) (by omega) (by omega) (fun v t24 M24 hv => ?_)
    clear hp
    obtain ⟨r24, rfl, h24, hM24, hq24, hp⟩ := hv
    dsimp only [Option.toList, List.cons_append, List.nil_append]
    refine xJ_aload_n hX dJ5_ensureCapacityInternal_d00df_27 rfl ?_
    refine xJ_getI hX dJ5_ensureCapacityInternal_d00df_28 fd_J5_22 rfl (xke_k hq24 hkx0 (by decide)) ?_
    obtain ⟨h31, hp⟩ := hp
    refine xJ_ishl0 hX dJ5_ensureCapacityInternal_d00df_31 h24 h31 ?_
    obtain ⟨k32, hn32, hp⟩ := hp
    refine xJ_callS (As := [_, _]) hX hB dJ5_ensureCapacityInternal_d00df_32 lk_J5_108 sm_J7_copyOf_9075b (c_J7_copyOf_9075b hM24 (xke_k hq24 hkb1 (by decide)) h24 hp) (by decide) rfl rfl rfl (Nat.le_of_ble_eq_true rfl) (by omega) (by omega) (fun v t32 M32 hv => ?_) (fun _ _ _ q => q.elim)
    clear hp
    obtain ⟨r32, rfl, hk32, hM32, hq32, hp⟩ := hv
    dsimp only [Option.toList, List.cons_append, List.nil_append]
    refine xJ_putRE (x := (some r32)) hX dJ5_ensureCapacityInternal_d00df_35 fd_J5_15 ft_J4 rfl rfl rfl rfl (xke_k hq32 (xke_k hq24 hkx0 (by decide)) (by decide)) (fun t35 et35 hq35 => ?_)
    replace hp := hp t35 et35
    exact xJ_vret hX hB dJ5_ensureCapacityInternal_d00df_38 (by omega) (by omega) ⟨rfl, hM32, (xke_trans (xke_trans (xke_trans (xke_refl _) hq24) hq32) hq35), hp⟩
def p_J5_inflateIfNeededFor_a7421 (F : Nat) (G : xGx) (n : Nat) (tE : xTh) (x0 : Nat) (x1 : Nat) (ME : xMe) (Q : xTh → xMe → Prop) : Prop :=
  (∃ (w11 : Nat) (f11 : Nat → Int), xIsT G tE ME x1 w11 f11 ∧ (((ME x0 1) = 0 → Q tE ME) ∧ ((ME x0 1) ≠ 0 → False)))
set_option maxHeartbeats 8000000 in
set_option maxRecDepth 100000 in
theorem c_J5_inflateIfNeededFor_a7421 {G : xGx} {tE : xTh} {ME : xMe} {F nE : Nat} {x0 : Nat} {x1 : Nat} {Q : xTh → xMe → Prop} (hME : xMR ME) (hkx0 : xk tE x0 = 22)  (hp : p_J5_inflateIfNeededFor_a7421 F G nE tE x0 x1 ME Q) : xCt G yJ5_inflateIfNeededFor_a7421 cJ5_inflateIfNeededFor_a7421 2 none 10 nE (64 * nE) [vr x0, vr x1] tE ME (fun v t' M' => v = none ∧ xMR M' ∧ xke tE t' ∧ Q t' M') (fun _ _ _ => False) := by
  refine xCt_of (L0 := [vr x0, vr x1]) (by decide +kernel) (Nat.le_of_ble_eq_true rfl) rfl ?_
  intro X hX hB
  unfold p_J5_inflateIfNeededFor_a7421 at hp
  refine xJ_gcomp5 hX rfl dJ5_inflateIfNeededFor_a7421_0 ?_
  refine xJ_if_eq hX dJ5_inflateIfNeededFor_a7421_3 (tgt := 21) (by decide) ⟨by decide, by decide⟩ (fun c3 => ?_) (fun c3 => ?_)
  · exact absurd c3 (by decide)
  refine xJ_aload_n hX dJ5_inflateIfNeededFor_a7421_6 rfl ?_
  refine xJ_getI hX dJ5_inflateIfNeededFor_a7421_7 fd_J5_22 rfl hkx0 ?_
  refine xJ_aload_n hX dJ5_inflateIfNeededFor_a7421_10 rfl ?_
  obtain ⟨w11, f11, hT11, hp⟩ := hp
  refine xJ_tcoder hX hB dJ5_inflateIfNeededFor_a7421_11 lk_J5_40 rfl (by decide) (Nat.le_of_ble_eq_true rfl) hT11 (by omega) (by omega) ?_
  refine xJ_icmp_eq hX dJ5_inflateIfNeededFor_a7421_14 (tgt := 21) (by decide) (hME _ _) ⟨by decide, by decide⟩ (fun c14 => ?_) (fun c14 => ?_)
  · replace hp := hp.1 c14
    exact xJ_vret hX hB dJ5_inflateIfNeededFor_a7421_21 (by omega) (by omega) ⟨rfl, hME, (xke_refl _), hp⟩
  · replace hp := hp.2 c14
    exact False.elim hp
def p_J5_putStringAt_47b60 (F : Nat) (G : xGx) (n : Nat) (tE : xTh) (x0 : Nat) (x1 : Int) (x2 : Nat) (ME : xMe) (Q : xTh → xMe → Prop) : Prop :=
  (∃ k2 : Nat, k2 ≤ n ∧ p_J5_inflateIfNeededFor_a7421 F G k2 tE x0 x2 ME (fun t2 M2 => (∃ b7 : Nat, xr t2 x0 0 = some b7 ∧ xk t2 b7 = 13 ∧ (∃ (w15 : Nat) (f15 : Nat → Int), xIsT G t2 M2 x2 w15 f15 ∧ ((0 : Int) ≤ x1 ∧ x1 + w15 ≤ (xn t2 b7 : Int)) ∧ (M2 x0 1) = 0 ∧ (∀ M15 : xMe, M15 = xtx M2 b7 x1.toNat w15 f15 → Q t2 M15)))))
set_option maxHeartbeats 8000000 in
set_option maxRecDepth 100000 in
theorem c_J5_putStringAt_47b60 {G : xGx} {tE : xTh} {ME : xMe} {F nE : Nat} {x0 : Nat} {x1 : Int} {x2 : Nat} {Q : xTh → xMe → Prop} (hME : xMR ME) (hkx0 : xk tE x0 = 22) (hx1 : xR x1) (hp : p_J5_putStringAt_47b60 F G nE tE x0 x1 x2 ME Q) : xCt G yJ5_putStringAt_47b60 cJ5_putStringAt_47b60 3 none 11 nE (64 * nE) [vr x0, vi x1, vr x2] tE ME (fun v t' M' => v = none ∧ xMR M' ∧ xke tE t' ∧ Q t' M') (fun _ _ _ => False) := by
  refine xCt_of (L0 := [vr x0, vi x1, vr x2]) (by decide +kernel) (Nat.le_of_ble_eq_true rfl) rfl ?_
  intro X hX hB
  unfold p_J5_putStringAt_47b60 at hp
  refine xJ_aload_n hX dJ5_putStringAt_47b60_0 rfl ?_
  refine xJ_aload_n hX dJ5_putStringAt_47b60_1 rfl ?_
  obtain ⟨k2, hn2, hp⟩ := hp
  refine xJ_callU (As := [_]) hX hB dJ5_putStringAt_47b60_2 lu_J5_397 hkx0 (c_J5_inflateIfNeededFor_a7421 hME hkx0 hp) (by decide) rfl rfl rfl (Nat.le_of_ble_eq_true rfl) (by omega) (by omega) (fun v t2 M2 hv => ?_)
  clear hp
  obtain ⟨rfl, hM2, hq2, hp⟩ := hv
  dsimp only [Option.toList, List.cons_append, List.nil_append]
  refine xJ_aload_n hX dJ5_putStringAt_47b60_5 rfl ?_
  refine xJ_aload_n hX dJ5_putStringAt_47b60_6 rfl ?_
  obtain ⟨b7, e7, hkb7, hp⟩ := hp
  refine xJ_getR (b := b7) hX dJ5_putStringAt_47b60_7 fd_J5_15 rfl (xke_k hq2 hkx0 (by decide)) e7 ?_
  refine xJ_iload_n hX dJ5_putStringAt_47b60_10 rfl ?_
  refine xJ_aload_n hX dJ5_putStringAt_47b60_11 rfl ?_
  refine xJ_getI hX dJ5_putStringAt_47b60_12 fd_J5_22 rfl (xke_k hq2 hkx0 (by decide)) ?_
  obtain ⟨w15, f15, hT15, h15, hc015, hp⟩ := hp
  rw [hc015]
  refine xJ_tget hX hB dJ5_putStringAt_47b60_15 lk_J5_399 rfl (by decide) (Nat.le_of_ble_eq_true rfl) hT15 hkb7 hx1 h15.1 h15.2 hM2 (by omega) (by omega) (fun M15 e15 hM15 => ?_)
  replace hp := hp M15 e15
  exact xJ_vret hX hB dJ5_putStringAt_47b60_18 (by omega) (by omega) ⟨rfl, hM15, (xke_trans (xke_refl _) hq2), hp⟩
def p_J5_append_cf1ce_9 (F : Nat) (G : xGx) (Q : Nat → xTh → xMe → Prop) (n : Nat) (x0 : Nat) (x1 : Nat) (t : xTh) (M : xMe) : Prop :=
    (∃ (w10 : Nat) (f10 : Nat → Int), xIsT G t M x1 w10 f10 ∧ (xR ((M x0 3) + ((w10 : Int)))) ∧ (∃ k21 : Nat, k21 ≤ n ∧ p_J5_ensureCapacityInternal_d00df F k21 t x0 ((M x0 3) + ((w10 : Int))) M (fun t21 M21 => (∃ k30 : Nat, k30 ≤ (n - k21) ∧ p_J5_putStringAt_47b60 F G k30 t21 x0 (M21 x0 3) x1 M21 (fun t30 M30 => (xR ((M30 x0 3) + ((w10 : Int)))) ∧ (∀ M40 : xMe, M40 = xw M30 x0 3 ((M30 x0 3) + ((w10 : Int))) → Q x0 t30 M40))))))
def p_J5_append_cf1ce (F : Nat) (G : xGx) (n : Nat) (tE : xTh) (x0 : Nat) (x1 : Nat) (ME : xMe) (Q : Nat → xTh → xMe → Prop) : Prop :=
  p_J5_append_cf1ce_9 F G Q n x0 x1 tE ME
set_option maxHeartbeats 8000000 in
set_option maxRecDepth 100000 in
theorem c_J5_append_cf1ce {G : xGx} {tE : xTh} {ME : xMe} {F nE : Nat} {x0 : Nat} {x1 : Nat} {Q : Nat → xTh → xMe → Prop} (hME : xMR ME) (hkx0 : xk tE x0 = 22)  (hp : p_J5_append_cf1ce F G nE tE x0 x1 ME Q) : xCt G yJ5_append_cf1ce cJ5_append_cf1ce 3 (some (.object "java/lang/AbstractStringBuilder")) 12 nE (64 * nE) [vr x0, vr x1] tE ME (fun v t' M' => ∃ r, v = some (vr r) ∧ xk t' r = 22 ∧ xMR M' ∧ xke tE t' ∧ Q r t' M') (fun _ _ _ => False) := by
  refine xCt_of (L0 := [vr x0, vr x1, vU]) (by decide +kernel) (Nat.le_of_ble_eq_true rfl) rfl ?_
  intro X hX hB
  unfold p_J5_append_cf1ce at hp
  refine xJ_aload_n hX dJ5_append_cf1ce_0 rfl ?_
  have l9 : ∀ (c s n : Nat) (x0 : Nat) (x1 : Nat) (t : xTh) (M : xMe) (hc : c + n ≤ nE) (hs : s + 64 * n ≤ 64 * nE) (hM : xMR M) (hqE : xke tE t) (hkx0 : xk t x0 = 22) (hp : p_J5_append_cf1ce_9 F G Q n x0 x1 t M), xJ X c s t M 9 [vr x0, vr x1, vU] [] := by
    intro c s n x0 x1 t M hc hs hM hqE hkx0 hp
    unfold p_J5_append_cf1ce_9 at hp
    refine xJ_aload_n hX dJ5_append_cf1ce_9 rfl ?_
    obtain ⟨w10, f10, hT10, hp⟩ := hp
    refine xJ_tlen hX hB dJ5_append_cf1ce_10 lk_J5_32 rfl (by decide) (Nat.le_of_ble_eq_true rfl) hT10 (by omega) (by omega) ?_
    refine xJ_istore_n hX dJ5_append_cf1ce_13 (Nat.le_of_ble_eq_true rfl) rfl ?_
    dsimp only [List.set]
    refine xJ_aload_n hX dJ5_append_cf1ce_14 rfl ?_
    refine xJ_aload_n hX dJ5_append_cf1ce_15 rfl ?_
    refine xJ_getI hX dJ5_append_cf1ce_16 fd_J5_79 rfl hkx0 ?_
    refine xJ_iload_n hX dJ5_append_cf1ce_19 rfl ?_
    refine xJ_iadd hX dJ5_append_cf1ce_20 ?_
    obtain ⟨h20, hp⟩ := hp
    obtain ⟨k21, hn21, hp⟩ := hp
    refine xJ_callU (As := [_]) hX hB dJ5_append_cf1ce_21 lu_J5_100 hkx0 (c_J5_ensureCapacityInternal_d00df hM hkx0 h20 hp) (by decide) rfl rfl rfl (Nat.le_of_ble_eq_true rfl) (by omega) (by omega) (fun v t21 M21 hv => ?_)
    clear hp
    obtain ⟨rfl, hM21, hq21, hp⟩ := hv
    dsimp only [Option.toList, List.cons_append, List.nil_append]
    refine xJ_aload_n hX dJ5_append_cf1ce_24 rfl ?_
    refine xJ_aload_n hX dJ5_append_cf1ce_25 rfl ?_
    refine xJ_getI hX dJ5_append_cf1ce_26 fd_J5_79 rfl (xke_k hq21 hkx0 (by decide)) ?_
    refine xJ_aload_n hX dJ5_append_cf1ce_29 rfl ?_
    obtain ⟨k30, hn30, hp⟩ := hp
    refine xJ_callU (As := [_, _]) hX hB dJ5_append_cf1ce_30 lu_J5_208 (xke_k hq21 hkx0 (by decide)) (c_J5_putStringAt_47b60 hM21 (xke_k hq21 hkx0 (by decide)) (hM21 _ _) hp) (by decide) rfl rfl rfl (Nat.le_of_ble_eq_true rfl) (by omega) (by omega) (fun v t30 M30 hv => ?_)
    clear hp
    obtain ⟨rfl, hM30, hq30, hp⟩ := hv
    dsimp only [Option.toList, List.cons_append, List.nil_append]
    refine xJ_aload_n hX dJ5_append_cf1ce_33 rfl ?_
    refine xJ_dup hX dJ5_append_cf1ce_34 rfl ?_
    refine xJ_getI hX dJ5_append_cf1ce_35 fd_J5_79 rfl (xke_k hq30 (xke_k hq21 hkx0 (by decide)) (by decide)) ?_
    refine xJ_iload_n hX dJ5_append_cf1ce_38 rfl ?_
    refine xJ_iadd hX dJ5_append_cf1ce_39 ?_
    obtain ⟨h39, hp⟩ := hp
    refine xJ_putIM hX dJ5_append_cf1ce_40 fd_J5_79 ft_J4 rfl rfl rfl rfl (xke_k hq30 (xke_k hq21 hkx0 (by decide)) (by decide)) hM30 h39 (fun M40 e40 hM40 => ?_)
    replace hp := hp M40 e40
    refine xJ_aload_n hX dJ5_append_cf1ce_43 rfl ?_
    exact xJ_aret hX hB dJ5_append_cf1ce_44 (Or.inl ⟨_, rfl⟩) (Or.inr ⟨_, rfl⟩) (by omega) (by omega) ⟨_, rfl, (xke_k hq30 (xke_k hq21 hkx0 (by decide)) (by decide)), hM40, (xke_trans (xke_trans hqE hq21) hq30), hp⟩
  refine xJ_ifnonnull hX dJ5_append_cf1ce_1 (tgt := 9) (by decide) ?_
  exact l9 _ _ _ _ _ _ _ (by omega) (by omega) hME (xke_refl _) hkx0 hp
def p_J4_append_15ec4 (F : Nat) (G : xGx) (n : Nat) (tE : xTh) (x0 : Nat) (x1 : Nat) (ME : xMe) (Q : Nat → xTh → xMe → Prop) : Prop :=
  (∃ k2 : Nat, k2 ≤ n ∧ p_J5_append_cf1ce F G k2 tE x0 x1 ME (fun r2 t2 M2 => Q x0 t2 M2))
set_option maxHeartbeats 8000000 in
set_option maxRecDepth 100000 in
theorem c_J4_append_15ec4 {G : xGx} {tE : xTh} {ME : xMe} {F nE : Nat} {x0 : Nat} {x1 : Nat} {Q : Nat → xTh → xMe → Prop} (hME : xMR ME) (hkx0 : xk tE x0 = 22)  (hp : p_J4_append_15ec4 F G nE tE x0 x1 ME Q) : xCt G yJ4_append_15ec4 cJ4_append_15ec4 2 (some (.object "java/lang/StringBuilder")) 13 nE (64 * nE) [vr x0, vr x1] tE ME (fun v t' M' => ∃ r, v = some (vr r) ∧ xk t' r = 22 ∧ xMR M' ∧ xke tE t' ∧ Q r t' M') (fun _ _ _ => False) := by
  refine xCt_of (L0 := [vr x0, vr x1]) (by decide +kernel) (Nat.le_of_ble_eq_true rfl) rfl ?_
  intro X hX hB
  unfold p_J4_append_15ec4 at hp
  refine xJ_aload_n hX dJ4_append_15ec4_0 rfl ?_
  refine xJ_aload_n hX dJ4_append_15ec4_1 rfl ?_
  obtain ⟨k2, hn2, hp⟩ := hp
  refine xJ_callSU (As := [_]) hX hB dJ4_append_15ec4_2 lk_J4_29 ws_J5_append_cf1ce wsup_SB im_J5_append_cf1ce (by decide) hkx0 (c_J5_append_cf1ce hME hkx0 hp) (by decide) rfl rfl rfl (Nat.le_of_ble_eq_true rfl) (by omega) (by omega) (fun v t2 M2 hv => ?_)
  clear hp
  obtain ⟨r2, rfl, hk2, hM2, hq2, hp⟩ := hv
  dsimp only [Option.toList, List.cons_append, List.nil_append]
  refine xJ_pop hX dJ4_append_15ec4_5 rfl ?_
  refine xJ_aload_n hX dJ4_append_15ec4_6 rfl ?_
  exact xJ_aret hX hB dJ4_append_15ec4_7 (Or.inl ⟨_, rfl⟩) (Or.inr ⟨_, rfl⟩) (by omega) (by omega) ⟨_, rfl, (xke_k hq2 hkx0 (by decide)), hM2, (xke_trans (xke_refl _) hq2), hp⟩
def p_J6_stringSize_0f7a4_16 (F : Nat) (Q : Int → xTh → xMe → Prop) : Nat → Nat → Int → Int → Int → Int → xTh → xMe → Prop
  | 0, _, _, _, _, _, _, _ => False
  | k + 1, n, x0, x1, x2, x3, t, M =>
    ((10 ≤ x3 → (xR (10 + x1)) ∧ Q (10 + x1) t M) ∧ (x3 < 10 → ((x0 ≤ x2 → (xR (10 * x2)) ∧ (∀ z35 : Int, z35 = 10 * x2 → (xR (x3 + 1)) ∧ p_J6_stringSize_0f7a4_16 F Q k n x0 x1 z35 (x3 + 1) t M)) ∧ (x2 < x0 → (xR (x3 + x1)) ∧ Q (x3 + x1) t M))))
def p_J6_stringSize_0f7a4_11 (F : Nat) (Q : Int → xTh → xMe → Prop) (n : Nat) (x0 : Int) (x1 : Int) (t : xTh) (M : xMe) : Prop :=
    p_J6_stringSize_0f7a4_16 F Q F n x0 x1 ((-10)) 1 t M
def p_J6_stringSize_0f7a4 (F : Nat) (n : Nat) (tE : xTh) (x0 : Int) (ME : xMe) (Q : Int → xTh → xMe → Prop) : Prop :=
  ((x0 < 0 → p_J6_stringSize_0f7a4_11 F Q n x0 1 tE ME) ∧ (0 ≤ x0 → (xR (-x0)) ∧ (∀ z10 : Int, z10 = -x0 → p_J6_stringSize_0f7a4_11 F Q n z10 0 tE ME)))
set_option maxHeartbeats 8000000 in
set_option maxRecDepth 100000 in
theorem c_J6_stringSize_0f7a4 {G : xGx} {tE : xTh} {ME : xMe} {F nE : Nat} {x0 : Int} {Q : Int → xTh → xMe → Prop} (hME : xMR ME)  (hx0 : xR x0) (hp : p_J6_stringSize_0f7a4 F nE tE x0 ME Q) : xCt G yJ6_stringSize_0f7a4 cJ6_stringSize_0f7a4 4 (some .int) 1 nE (64 * nE) [vi x0] tE ME (fun v t' M' => ∃ r, v = some (vi r) ∧ xR r ∧ xMR M' ∧ xke tE t' ∧ Q r t' M') (fun _ _ _ => False) := by
  refine xCt_of (L0 := [vi x0, vU, vU, vU]) (by decide +kernel) (Nat.le_of_ble_eq_true rfl) rfl ?_
  intro X hX hB
  unfold p_J6_stringSize_0f7a4 at hp
  refine xJ_iconst hX dJ6_stringSize_0f7a4_0 ?_
  refine xJ_istore_n hX dJ6_stringSize_0f7a4_1 (Nat.le_of_ble_eq_true rfl) rfl ?_
  dsimp only [List.set]
  refine xJ_iload_n hX dJ6_stringSize_0f7a4_2 rfl ?_
  have l11 : ∀ (c s n : Nat) (x0 : Int) (x1 : Int) (t : xTh) (M : xMe) (hc : c + n ≤ nE) (hs : s + 64 * n ≤ 64 * nE) (hM : xMR M) (hqE : xke tE t) (hx0 : xR x0) (hx1 : xR x1) (hp : p_J6_stringSize_0f7a4_11 F Q n x0 x1 t M), xJ X c s t M 11 [vi x0, vi x1, vU, vU] [] := by
    intro c s n x0 x1 t M hc hs hM hqE hx0 hx1 hp
    unfold p_J6_stringSize_0f7a4_11 at hp
    refine xJ_bipush hX dJ6_stringSize_0f7a4_11 rfl ?_
    refine xJ_istore_n hX dJ6_stringSize_0f7a4_13 (Nat.le_of_ble_eq_true rfl) rfl ?_
    dsimp only [List.set]
    refine xJ_iconst hX dJ6_stringSize_0f7a4_14 ?_
    refine xJ_istore_n hX dJ6_stringSize_0f7a4_15 (Nat.le_of_ble_eq_true rfl) rfl ?_
    dsimp only [List.set]
    have l16 : ∀ (k16 : Nat) (c s n : Nat) (x0 : Int) (x1 : Int) (x2 : Int) (x3 : Int) (t : xTh) (M : xMe) (hc : c + n ≤ nE) (hs : s + 64 * n ≤ 64 * nE) (hM : xMR M) (hqE : xke tE t) (hx0 : xR x0) (hx1 : xR x1) (hx2 : xR x2) (hx3 : xR x3) (hp : p_J6_stringSize_0f7a4_16 F Q k16 n x0 x1 x2 x3 t M), xJ X c s t M 16 [vi x0, vi x1, vi x2, vi x3] [] := by
      intro k16
      induction k16 with
      | zero => intro c s n x0 x1 x2 x3 t M hc hs hM hqE hx0 hx1 hx2 hx3 hp; exact hp.elim
      | succ k16 ih16 =>
        intro c s n x0 x1 x2 x3 t M hc hs hM hqE hx0 hx1 hx2 hx3 hp
        unfold p_J6_stringSize_0f7a4_16 at hp
        refine xJ_iload_n hX dJ6_stringSize_0f7a4_16 rfl ?_
        refine xJ_bipush hX dJ6_stringSize_0f7a4_17 rfl ?_
        refine xJ_icmp_ge hX dJ6_stringSize_0f7a4_19 (tgt := 42) (by decide) hx3 ⟨by decide, by decide⟩ (fun c19 => ?_) (fun c19 => ?_)
        · replace hp := hp.1 c19
          refine xJ_bipush hX dJ6_stringSize_0f7a4_42 rfl ?_
          refine xJ_iload_n hX dJ6_stringSize_0f7a4_44 rfl ?_
          refine xJ_iadd hX dJ6_stringSize_0f7a4_45 ?_
          obtain ⟨h45, hp⟩ := hp
          exact xJ_iret hX hB dJ6_stringSize_0f7a4_46 (by omega) (by omega) ⟨_, rfl, h45, hM, hqE, hp⟩
        · replace hp := hp.2 c19
          refine xJ_iload_n hX dJ6_stringSize_0f7a4_22 rfl ?_
          refine xJ_iload_n hX dJ6_stringSize_0f7a4_23 rfl ?_
          refine xJ_icmp_le hX dJ6_stringSize_0f7a4_24 (tgt := 31) (by decide) hx0 hx2 (fun c24 => ?_) (fun c24 => ?_)
          · replace hp := hp.1 c24
            refine xJ_bipush hX dJ6_stringSize_0f7a4_31 rfl ?_
            refine xJ_iload_n hX dJ6_stringSize_0f7a4_33 rfl ?_
            refine xJ_imul hX dJ6_stringSize_0f7a4_34 ?_
            obtain ⟨h34, hp⟩ := hp
            refine xJ_istore_n hX dJ6_stringSize_0f7a4_35 (Nat.le_of_ble_eq_true rfl) rfl ?_
            dsimp only [List.set]
            replace hp := hp _ rfl
            refine xJ_iinc hX dJ6_stringSize_0f7a4_36 rfl rfl ?_
            dsimp only [List.set]
            obtain ⟨h36, hp⟩ := hp
            refine xJ_goto hX dJ6_stringSize_0f7a4_39 (tgt := 16) (by decide) ?_
            exact ih16 _ _ _ _ _ _ _ _ _ (by omega) (by omega) hM hqE hx0 hx1 h34 h36 hp
          · replace hp := hp.2 c24
            refine xJ_iload_n hX dJ6_stringSize_0f7a4_27 rfl ?_
            refine xJ_iload_n hX dJ6_stringSize_0f7a4_28 rfl ?_
            refine xJ_iadd hX dJ6_stringSize_0f7a4_29 ?_
            obtain ⟨h29, hp⟩ := hp
            exact xJ_iret hX hB dJ6_stringSize_0f7a4_30 (by omega) (by omega) ⟨_, rfl, h29, hM, hqE, hp⟩
    exact l16 F _ _ _ _ _ _ _ _ _ (by omega) (by omega) hM hqE hx0 hx1 ⟨by decide, by decide⟩ ⟨by decide, by decide⟩ hp
  refine xJ_if_lt hX dJ6_stringSize_0f7a4_3 (tgt := 11) (by decide) hx0 (fun c3 => ?_) (fun c3 => ?_)
  · replace hp := hp.1 c3
    exact l11 _ _ _ _ _ _ _ (by omega) (by omega) hME (xke_refl _) hx0 ⟨by decide, by decide⟩ hp
  · replace hp := hp.2 c3
    refine xJ_iconst hX dJ6_stringSize_0f7a4_6 ?_
    refine xJ_istore_n hX dJ6_stringSize_0f7a4_7 (Nat.le_of_ble_eq_true rfl) rfl ?_
    dsimp only [List.set]
    refine xJ_iload_n hX dJ6_stringSize_0f7a4_8 rfl ?_
    obtain ⟨h9, hp⟩ := hp
    refine xJ_ineg hX dJ6_stringSize_0f7a4_9 ?_
    refine xJ_istore_n hX dJ6_stringSize_0f7a4_10 (Nat.le_of_ble_eq_true rfl) rfl ?_
    dsimp only [List.set]
    replace hp := hp _ rfl
    exact l11 _ _ _ _ _ _ _ (by omega) (by omega) hME (xke_refl _) h9 ⟨by decide, by decide⟩ hp
def p_J6_getChars_ba4f3_104 (F : Nat) (Q : Int → xTh → xMe → Prop) (n : Nat) (x2 : Nat) (x5 : Int) (x6 : Int) (t : xTh) (M : xMe) : Prop :=
    ((x6 = 0 → Q x5 t M) ∧ (x6 ≠ 0 → (xR (x5 + (-1))) ∧ (((0 : Int) ≤ (x5 + (-1)) ∧ (x5 + (-1)) < (xn t x2 : Int)) ∧ (-128 : Int) ≤ 45 ∧ 45 < (128 : Int)) ∧ (∀ M117 : xMe, M117 = xw M x2 (x5 + (-1)).toNat 45 → Q (x5 + (-1)) t M117)))
def p_J6_getChars_ba4f3_72 (F : Nat) (Q : Int → xTh → xMe → Prop) (n : Nat) (x0 : Int) (x2 : Nat) (x5 : Int) (x6 : Int) (t : xTh) (M : xMe) : Prop :=
    (xR (x5 + (-1))) ∧ (xR (-x0)) ∧ ((0 : Int) ≤ (-x0) ∧ (-x0) < 100) ∧ (((0 : Int) ≤ (x5 + (-1)) ∧ (x5 + (-1)) < (xn t x2 : Int)) ∧ (-128 : Int) ≤ (48 + (-x0) % 10) ∧ (48 + (-x0) % 10) < (128 : Int)) ∧ (∀ M84 : xMe, M84 = xw M x2 (x5 + (-1)).toNat (48 + (-x0) % 10) → ((((-9)) ≤ x0 → p_J6_getChars_ba4f3_104 F Q n x2 (x5 + (-1)) x6 t M84) ∧ (x0 < ((-9)) → (xR ((x5 + (-1)) + (-1))) ∧ (xR (-x0)) ∧ ((0 : Int) ≤ (-x0) ∧ (-x0) < 100) ∧ (((0 : Int) ≤ ((x5 + (-1)) + (-1)) ∧ ((x5 + (-1)) + (-1)) < (xn t x2 : Int)) ∧ (-128 : Int) ≤ (48 + (-x0) / 10) ∧ (48 + (-x0) / 10) < (128 : Int)) ∧ (∀ M103 : xMe, M103 = xw M84 x2 ((x5 + (-1)) + (-1)).toNat (48 + (-x0) / 10) → p_J6_getChars_ba4f3_104 F Q n x2 ((x5 + (-1)) + (-1)) x6 t M103))))
def p_J6_getChars_ba4f3_22 (F : Nat) (Q : Int → xTh → xMe → Prop) (K72 : Nat → Int → Nat → Int → Int → xTh → xMe → Prop) : Nat → Nat → Int → Nat → Int → Int → xTh → xMe → Prop
  | 0, _, _, _, _, _, _, _ => False
  | k + 1, n, x0, x2, x5, x6, t, M =>
    ((((-100)) < x0 → K72 n x0 x2 x5 x6 t M) ∧ (x0 ≤ ((-100)) → (100 ≠ (0 : Int) ∧ xR (Int.tdiv x0 100)) ∧ (∀ z32 : Int, z32 = Int.tdiv x0 100 → (xR (z32 * 100)) ∧ (xR ((z32 * 100) - x0)) ∧ (∀ z39 : Int, z39 = (z32 * 100) - x0 → (xR (x5 + (-1))) ∧ ((0 : Int) ≤ z39 ∧ z39 < 100) ∧ (((0 : Int) ≤ (x5 + (-1)) ∧ (x5 + (-1)) < (xn t x2 : Int)) ∧ (-128 : Int) ≤ (48 + z39 % 10) ∧ (48 + z39 % 10) < (128 : Int)) ∧ (∀ M55 : xMe, M55 = xw M x2 (x5 + (-1)).toNat (48 + z39 % 10) → (xR ((x5 + (-1)) + (-1))) ∧ ((0 : Int) ≤ z39 ∧ z39 < 100) ∧ (((0 : Int) ≤ ((x5 + (-1)) + (-1)) ∧ ((x5 + (-1)) + (-1)) < (xn t x2 : Int)) ∧ (-128 : Int) ≤ (48 + z39 / 10) ∧ (48 + z39 / 10) < (128 : Int)) ∧ (∀ M68 : xMe, M68 = xw M55 x2 ((x5 + (-1)) + (-1)).toNat (48 + z39 / 10) → p_J6_getChars_ba4f3_22 F Q K72 k n z32 x2 ((x5 + (-1)) + (-1)) x6 t M68))))))
def p_J6_getChars_ba4f3_12 (F : Nat) (Q : Int → xTh → xMe → Prop) (n : Nat) (x0 : Int) (x2 : Nat) (x5 : Int) (y0 : Int) (t : xTh) (M : xMe) : Prop :=
    ((y0 ≠ 0 → p_J6_getChars_ba4f3_22 F Q (p_J6_getChars_ba4f3_72 F Q) F n x0 x2 x5 y0 t M) ∧ (y0 = 0 → (xR (-x0)) ∧ (∀ z21 : Int, z21 = -x0 → p_J6_getChars_ba4f3_22 F Q (p_J6_getChars_ba4f3_72 F Q) F n z21 x2 x5 y0 t M)))
def p_J6_getChars_ba4f3 (F : Nat) (n : Nat) (tE : xTh) (x0 : Int) (x1 : Int) (x2 : Nat) (ME : xMe) (Q : Int → xTh → xMe → Prop) : Prop :=
  ((0 ≤ x0 → p_J6_getChars_ba4f3_12 F Q n x0 x2 x1 0 tE ME) ∧ (x0 < 0 → p_J6_getChars_ba4f3_12 F Q n x0 x2 x1 1 tE ME))
set_option maxHeartbeats 8000000 in
set_option maxRecDepth 100000 in
theorem c_J6_getChars_ba4f3 {G : xGx} {tE : xTh} {ME : xMe} {F nE : Nat} {x0 : Int} {x1 : Int} {x2 : Nat} {Q : Int → xTh → xMe → Prop} (hME : xMR ME) (hkx2 : xk tE x2 = 13) (hx0 : xR x0) (hx1 : xR x1) (hp : p_J6_getChars_ba4f3 F nE tE x0 x1 x2 ME Q) : xCt G yJ6_getChars_ba4f3 cJ6_getChars_ba4f3 7 (some .int) 1 nE (64 * nE) [vi x0, vi x1, vr x2] tE ME (fun v t' M' => ∃ r, v = some (vi r) ∧ xR r ∧ xMR M' ∧ xke tE t' ∧ Q r t' M') (fun _ _ _ => False) := by
  refine xCt_of (L0 := [vi x0, vi x1, vr x2, vU, vU, vU, vU]) (by decide +kernel) (Nat.le_of_ble_eq_true rfl) rfl ?_
  intro X hX hB
  unfold p_J6_getChars_ba4f3 at hp
  refine xJ_iload_n hX dJ6_getChars_ba4f3_0 rfl ?_
  refine xJ_istore hX dJ6_getChars_ba4f3_1 (Nat.le_of_ble_eq_true rfl) rfl ?_
  dsimp only [List.set]
  refine xJ_iload_n hX dJ6_getChars_ba4f3_3 rfl ?_
  have l12 : ∀ (c s n : Nat) (x0 : Int) (x2 : Nat) (x5 : Int) (y0 : Int) (t : xTh) (M : xMe) (hc : c + n ≤ nE) (hs : s + 64 * n ≤ 64 * nE) (hM : xMR M) (hqE : xke tE t) (hx0 : xR x0) (hkx2 : xk t x2 = 13) (hx5 : xR x5) (hy0 : xR y0) (hp : p_J6_getChars_ba4f3_12 F Q n x0 x2 x5 y0 t M), xJ X c s t M 12 [vi x0, vU, vr x2, vU, vU, vi x5, vU] [vi y0] := by
    intro c s n x0 x2 x5 y0 t M hc hs hM hqE hx0 hkx2 hx5 hy0 hp
    unfold p_J6_getChars_ba4f3_12 at hp
    refine xJ_istore hX dJ6_getChars_ba4f3_12 (Nat.le_of_ble_eq_true rfl) rfl ?_
    dsimp only [List.set]
    refine xJ_iload hX dJ6_getChars_ba4f3_14 rfl ?_
    refine xJ_if_ne hX dJ6_getChars_ba4f3_16 (tgt := 22) (by decide) hy0 (fun c16 => ?_) (fun c16 => ?_)
    · replace hp := hp.1 c16
      have l72 : ∀ (c s n : Nat) (x0 : Int) (x2 : Nat) (x5 : Int) (x6 : Int) (t : xTh) (M : xMe) (hc : c + n ≤ nE) (hs : s + 64 * n ≤ 64 * nE) (hM : xMR M) (hqE : xke tE t) (hx0 : xR x0) (hkx2 : xk t x2 = 13) (hx5 : xR x5) (hx6 : xR x6) (hp : p_J6_getChars_ba4f3_72 F Q n x0 x2 x5 x6 t M), xJ X c s t M 72 [vi x0, vU, vr x2, vU, vU, vi x5, vi x6] [] := by
        intro c s n x0 x2 x5 x6 t M hc hs hM hqE hx0 hkx2 hx5 hx6 hp
        unfold p_J6_getChars_ba4f3_72 at hp
        refine xJ_aload_n hX dJ6_getChars_ba4f3_72 rfl ?_
        refine xJ_iinc hX dJ6_getChars_ba4f3_73 rfl rfl ?_
        dsimp only [List.set]
        obtain ⟨h73, hp⟩ := hp
        refine xJ_iload hX dJ6_getChars_ba4f3_76 rfl ?_
        refine xJ_gdig0 hX rfl dJ6_getChars_ba4f3_78 ?_
        refine xJ_iload_n hX dJ6_getChars_ba4f3_81 rfl ?_
        obtain ⟨h82, hp⟩ := hp
        refine xJ_ineg hX dJ6_getChars_ba4f3_82 ?_
        obtain ⟨h83, hp⟩ := hp
        refine xJ_dig0 hX rfl dJ6_getChars_ba4f3_83 h83.1 h83.2 ?_
        obtain ⟨h84, hp⟩ := hp
        refine xJ_bastM hX dJ6_getChars_ba4f3_84 hkx2 h84.1.1 h84.1.2 (xny h84.2.1 h84.2.2) hM (xR_d0 h83.1 h83.2) (fun M84 e84 hM84 => ?_)
        replace hp := hp M84 e84
        refine xJ_iload_n hX dJ6_getChars_ba4f3_85 rfl ?_
        refine xJ_bipush hX dJ6_getChars_ba4f3_86 rfl ?_
        have l104 : ∀ (c s n : Nat) (x2 : Nat) (x5 : Int) (x6 : Int) (t : xTh) (M : xMe) (hc : c + n ≤ nE) (hs : s + 64 * n ≤ 64 * nE) (hM : xMR M) (hqE : xke tE t) (hkx2 : xk t x2 = 13) (hx5 : xR x5) (hx6 : xR x6) (hp : p_J6_getChars_ba4f3_104 F Q n x2 x5 x6 t M), xJ X c s t M 104 [vU, vU, vr x2, vU, vU, vi x5, vi x6] [] := by
          intro c s n x2 x5 x6 t M hc hs hM hqE hkx2 hx5 hx6 hp
          unfold p_J6_getChars_ba4f3_104 at hp
          refine xJ_iload hX dJ6_getChars_ba4f3_104 rfl ?_
          refine xJ_if_eq hX dJ6_getChars_ba4f3_106 (tgt := 118) (by decide) hx6 (fun c106 => ?_) (fun c106 => ?_)
          · replace hp := hp.1 c106
            refine xJ_iload hX dJ6_getChars_ba4f3_118 rfl ?_
            exact xJ_iret hX hB dJ6_getChars_ba4f3_120 (by omega) (by omega) ⟨_, rfl, hx5, hM, hqE, hp⟩
          · replace hp := hp.2 c106
            refine xJ_aload_n hX dJ6_getChars_ba4f3_109 rfl ?_
            refine xJ_iinc hX dJ6_getChars_ba4f3_110 rfl rfl ?_
            dsimp only [List.set]
            obtain ⟨h110, hp⟩ := hp
            refine xJ_iload hX dJ6_getChars_ba4f3_113 rfl ?_
            refine xJ_bipush hX dJ6_getChars_ba4f3_115 rfl ?_
            obtain ⟨h117, hp⟩ := hp
            refine xJ_bastM hX dJ6_getChars_ba4f3_117 hkx2 h117.1.1 h117.1.2 (xny h117.2.1 h117.2.2) hM ⟨by decide, by decide⟩ (fun M117 e117 hM117 => ?_)
            replace hp := hp M117 e117
            refine xJ_iload hX dJ6_getChars_ba4f3_118 rfl ?_
            exact xJ_iret hX hB dJ6_getChars_ba4f3_120 (by omega) (by omega) ⟨_, rfl, h110, hM117, hqE, hp⟩
        refine xJ_icmp_ge hX dJ6_getChars_ba4f3_88 (tgt := 104) (by decide) hx0 ⟨by decide, by decide⟩ (fun c88 => ?_) (fun c88 => ?_)
        · replace hp := hp.1 c88
          refine xJ_fg 0 ?_
          dsimp only [List.set]
          exact l104 _ _ _ _ _ _ _ _ (by omega) (by omega) hM84 hqE hkx2 h73 hx6 hp
        · replace hp := hp.2 c88
          refine xJ_aload_n hX dJ6_getChars_ba4f3_91 rfl ?_
          refine xJ_iinc hX dJ6_getChars_ba4f3_92 rfl rfl ?_
          dsimp only [List.set]
          obtain ⟨h92, hp⟩ := hp
          refine xJ_iload hX dJ6_getChars_ba4f3_95 rfl ?_
          refine xJ_gdig1 hX rfl dJ6_getChars_ba4f3_97 ?_
          refine xJ_iload_n hX dJ6_getChars_ba4f3_100 rfl ?_
          obtain ⟨h101, hp⟩ := hp
          refine xJ_ineg hX dJ6_getChars_ba4f3_101 ?_
          obtain ⟨h102, hp⟩ := hp
          refine xJ_dig1 hX rfl dJ6_getChars_ba4f3_102 h102.1 h102.2 ?_
          obtain ⟨h103, hp⟩ := hp
          refine xJ_bastM hX dJ6_getChars_ba4f3_103 hkx2 h103.1.1 h103.1.2 (xny h103.2.1 h103.2.2) hM84 (xR_d1 h102.1 h102.2) (fun M103 e103 hM103 => ?_)
          replace hp := hp M103 e103
          refine xJ_fg 0 ?_
          dsimp only [List.set]
          exact l104 _ _ _ _ _ _ _ _ (by omega) (by omega) hM103 hqE hkx2 h92 hx6 hp
      have l22 : ∀ (k22 : Nat) (c s n : Nat) (x0 : Int) (x2 : Nat) (x5 : Int) (x6 : Int) (t : xTh) (M : xMe) (hc : c + n ≤ nE) (hs : s + 64 * n ≤ 64 * nE) (hM : xMR M) (hqE : xke tE t) (hx0 : xR x0) (hkx2 : xk t x2 = 13) (hx5 : xR x5) (hx6 : xR x6) (hp : p_J6_getChars_ba4f3_22 F Q (p_J6_getChars_ba4f3_72 F Q) k22 n x0 x2 x5 x6 t M), xJ X c s t M 22 [vi x0, vU, vr x2, vU, vU, vi x5, vi x6] [] := by
        intro k22
        induction k22 with
        | zero => intro c s n x0 x2 x5 x6 t M hc hs hM hqE hx0 hkx2 hx5 hx6 hp; exact hp.elim
        | succ k22 ih22 =>
          intro c s n x0 x2 x5 x6 t M hc hs hM hqE hx0 hkx2 hx5 hx6 hp
          unfold p_J6_getChars_ba4f3_22 at hp
          refine xJ_iload_n hX dJ6_getChars_ba4f3_22 rfl ?_
          refine xJ_bipush hX dJ6_getChars_ba4f3_23 rfl ?_
          refine xJ_icmp_gt hX dJ6_getChars_ba4f3_25 (tgt := 72) (by decide) hx0 ⟨by decide, by decide⟩ (fun c25 => ?_) (fun c25 => ?_)
          · replace hp := hp.1 c25
            exact l72 _ _ _ _ _ _ _ _ _ (by omega) (by omega) hM hqE hx0 hkx2 hx5 hx6 hp
          · replace hp := hp.2 c25
            refine xJ_iload_n hX dJ6_getChars_ba4f3_28 rfl ?_
            refine xJ_bipush hX dJ6_getChars_ba4f3_29 rfl ?_
            obtain ⟨h31, hp⟩ := hp
            refine xJ_idiv hX dJ6_getChars_ba4f3_31 hx0 ⟨by decide, by decide⟩ h31.1 ?_
            refine xJ_istore_n hX dJ6_getChars_ba4f3_32 (Nat.le_of_ble_eq_true rfl) rfl ?_
            dsimp only [List.set]
            replace hp := hp _ rfl
            refine xJ_iload_n hX dJ6_getChars_ba4f3_33 rfl ?_
            refine xJ_bipush hX dJ6_getChars_ba4f3_34 rfl ?_
            refine xJ_imul hX dJ6_getChars_ba4f3_36 ?_
            obtain ⟨h36, hp⟩ := hp
            refine xJ_iload_n hX dJ6_getChars_ba4f3_37 rfl ?_
            refine xJ_isub hX dJ6_getChars_ba4f3_38 ?_
            obtain ⟨h38, hp⟩ := hp
            refine xJ_istore hX dJ6_getChars_ba4f3_39 (Nat.le_of_ble_eq_true rfl) rfl ?_
            dsimp only [List.set]
            replace hp := hp _ rfl
            refine xJ_iload_n hX dJ6_getChars_ba4f3_41 rfl ?_
            refine xJ_istore_n hX dJ6_getChars_ba4f3_42 (Nat.le_of_ble_eq_true rfl) rfl ?_
            dsimp only [List.set]
            refine xJ_aload_n hX dJ6_getChars_ba4f3_43 rfl ?_
            refine xJ_iinc hX dJ6_getChars_ba4f3_44 rfl rfl ?_
            dsimp only [List.set]
            obtain ⟨h44, hp⟩ := hp
            refine xJ_iload hX dJ6_getChars_ba4f3_47 rfl ?_
            refine xJ_gdig0 hX rfl dJ6_getChars_ba4f3_49 ?_
            refine xJ_iload hX dJ6_getChars_ba4f3_52 rfl ?_
            obtain ⟨h54, hp⟩ := hp
            refine xJ_dig0 hX rfl dJ6_getChars_ba4f3_54 h54.1 h54.2 ?_
            obtain ⟨h55, hp⟩ := hp
            refine xJ_bastM hX dJ6_getChars_ba4f3_55 hkx2 h55.1.1 h55.1.2 (xny h55.2.1 h55.2.2) hM (xR_d0 h54.1 h54.2) (fun M55 e55 hM55 => ?_)
            replace hp := hp M55 e55
            refine xJ_aload_n hX dJ6_getChars_ba4f3_56 rfl ?_
            refine xJ_iinc hX dJ6_getChars_ba4f3_57 rfl rfl ?_
            dsimp only [List.set]
            obtain ⟨h57, hp⟩ := hp
            refine xJ_iload hX dJ6_getChars_ba4f3_60 rfl ?_
            refine xJ_gdig1 hX rfl dJ6_getChars_ba4f3_62 ?_
            refine xJ_iload hX dJ6_getChars_ba4f3_65 rfl ?_
            obtain ⟨h67, hp⟩ := hp
            refine xJ_dig1 hX rfl dJ6_getChars_ba4f3_67 h67.1 h67.2 ?_
            obtain ⟨h68, hp⟩ := hp
            refine xJ_bastM hX dJ6_getChars_ba4f3_68 hkx2 h68.1.1 h68.1.2 (xny h68.2.1 h68.2.2) hM55 (xR_d1 h67.1 h67.2) (fun M68 e68 hM68 => ?_)
            replace hp := hp M68 e68
            refine xJ_goto hX dJ6_getChars_ba4f3_69 (tgt := 22) (by decide) ?_
            refine xJ_fg 3 ?_
            dsimp only [List.set]
            refine xJ_fg 4 ?_
            dsimp only [List.set]
            exact ih22 _ _ _ _ _ _ _ _ _ (by omega) (by omega) hM68 hqE h31.2 hkx2 h57 hx6 hp
      exact l22 F _ _ _ _ _ _ _ _ _ (by omega) (by omega) hM hqE hx0 hkx2 hx5 hy0 hp
    · replace hp := hp.2 c16
      refine xJ_iload_n hX dJ6_getChars_ba4f3_19 rfl ?_
      obtain ⟨h20, hp⟩ := hp
      refine xJ_ineg hX dJ6_getChars_ba4f3_20 ?_
      refine xJ_istore_n hX dJ6_getChars_ba4f3_21 (Nat.le_of_ble_eq_true rfl) rfl ?_
      dsimp only [List.set]
      replace hp := hp _ rfl
      have l72 : ∀ (c s n : Nat) (x0 : Int) (x2 : Nat) (x5 : Int) (x6 : Int) (t : xTh) (M : xMe) (hc : c + n ≤ nE) (hs : s + 64 * n ≤ 64 * nE) (hM : xMR M) (hqE : xke tE t) (hx0 : xR x0) (hkx2 : xk t x2 = 13) (hx5 : xR x5) (hx6 : xR x6) (hp : p_J6_getChars_ba4f3_72 F Q n x0 x2 x5 x6 t M), xJ X c s t M 72 [vi x0, vU, vr x2, vU, vU, vi x5, vi x6] [] := by
        intro c s n x0 x2 x5 x6 t M hc hs hM hqE hx0 hkx2 hx5 hx6 hp
        unfold p_J6_getChars_ba4f3_72 at hp
        refine xJ_aload_n hX dJ6_getChars_ba4f3_72 rfl ?_
        refine xJ_iinc hX dJ6_getChars_ba4f3_73 rfl rfl ?_
        dsimp only [List.set]
        obtain ⟨h73, hp⟩ := hp
        refine xJ_iload hX dJ6_getChars_ba4f3_76 rfl ?_
        refine xJ_gdig0 hX rfl dJ6_getChars_ba4f3_78 ?_
        refine xJ_iload_n hX dJ6_getChars_ba4f3_81 rfl ?_
        obtain ⟨h82, hp⟩ := hp
        refine xJ_ineg hX dJ6_getChars_ba4f3_82 ?_
        obtain ⟨h83, hp⟩ := hp
        refine xJ_dig0 hX rfl dJ6_getChars_ba4f3_83 h83.1 h83.2 ?_
        obtain ⟨h84, hp⟩ := hp
        refine xJ_bastM hX dJ6_getChars_ba4f3_84 hkx2 h84.1.1 h84.1.2 (xny h84.2.1 h84.2.2) hM (xR_d0 h83.1 h83.2) (fun M84 e84 hM84 => ?_)
        replace hp := hp M84 e84
        refine xJ_iload_n hX dJ6_getChars_ba4f3_85 rfl ?_
        refine xJ_bipush hX dJ6_getChars_ba4f3_86 rfl ?_
        have l104 : ∀ (c s n : Nat) (x2 : Nat) (x5 : Int) (x6 : Int) (t : xTh) (M : xMe) (hc : c + n ≤ nE) (hs : s + 64 * n ≤ 64 * nE) (hM : xMR M) (hqE : xke tE t) (hkx2 : xk t x2 = 13) (hx5 : xR x5) (hx6 : xR x6) (hp : p_J6_getChars_ba4f3_104 F Q n x2 x5 x6 t M), xJ X c s t M 104 [vU, vU, vr x2, vU, vU, vi x5, vi x6] [] := by
          intro c s n x2 x5 x6 t M hc hs hM hqE hkx2 hx5 hx6 hp
          unfold p_J6_getChars_ba4f3_104 at hp
          refine xJ_iload hX dJ6_getChars_ba4f3_104 rfl ?_
          refine xJ_if_eq hX dJ6_getChars_ba4f3_106 (tgt := 118) (by decide) hx6 (fun c106 => ?_) (fun c106 => ?_)
          · replace hp := hp.1 c106
            refine xJ_iload hX dJ6_getChars_ba4f3_118 rfl ?_
            exact xJ_iret hX hB dJ6_getChars_ba4f3_120 (by omega) (by omega) ⟨_, rfl, hx5, hM, hqE, hp⟩
          · replace hp := hp.2 c106
            refine xJ_aload_n hX dJ6_getChars_ba4f3_109 rfl ?_
            refine xJ_iinc hX dJ6_getChars_ba4f3_110 rfl rfl ?_
            dsimp only [List.set]
            obtain ⟨h110, hp⟩ := hp
            refine xJ_iload hX dJ6_getChars_ba4f3_113 rfl ?_
            refine xJ_bipush hX dJ6_getChars_ba4f3_115 rfl ?_
            obtain ⟨h117, hp⟩ := hp
            refine xJ_bastM hX dJ6_getChars_ba4f3_117 hkx2 h117.1.1 h117.1.2 (xny h117.2.1 h117.2.2) hM ⟨by decide, by decide⟩ (fun M117 e117 hM117 => ?_)
            replace hp := hp M117 e117
            refine xJ_iload hX dJ6_getChars_ba4f3_118 rfl ?_
            exact xJ_iret hX hB dJ6_getChars_ba4f3_120 (by omega) (by omega) ⟨_, rfl, h110, hM117, hqE, hp⟩
        refine xJ_icmp_ge hX dJ6_getChars_ba4f3_88 (tgt := 104) (by decide) hx0 ⟨by decide, by decide⟩ (fun c88 => ?_) (fun c88 => ?_)
        · replace hp := hp.1 c88
          refine xJ_fg 0 ?_
          dsimp only [List.set]
          exact l104 _ _ _ _ _ _ _ _ (by omega) (by omega) hM84 hqE hkx2 h73 hx6 hp
        · replace hp := hp.2 c88
          refine xJ_aload_n hX dJ6_getChars_ba4f3_91 rfl ?_
          refine xJ_iinc hX dJ6_getChars_ba4f3_92 rfl rfl ?_
          dsimp only [List.set]
          obtain ⟨h92, hp⟩ := hp
          refine xJ_iload hX dJ6_getChars_ba4f3_95 rfl ?_
          refine xJ_gdig1 hX rfl dJ6_getChars_ba4f3_97 ?_
          refine xJ_iload_n hX dJ6_getChars_ba4f3_100 rfl ?_
          obtain ⟨h101, hp⟩ := hp
          refine xJ_ineg hX dJ6_getChars_ba4f3_101 ?_
          obtain ⟨h102, hp⟩ := hp
          refine xJ_dig1 hX rfl dJ6_getChars_ba4f3_102 h102.1 h102.2 ?_
          obtain ⟨h103, hp⟩ := hp
          refine xJ_bastM hX dJ6_getChars_ba4f3_103 hkx2 h103.1.1 h103.1.2 (xny h103.2.1 h103.2.2) hM84 (xR_d1 h102.1 h102.2) (fun M103 e103 hM103 => ?_)
          replace hp := hp M103 e103
          refine xJ_fg 0 ?_
          dsimp only [List.set]
          exact l104 _ _ _ _ _ _ _ _ (by omega) (by omega) hM103 hqE hkx2 h92 hx6 hp
      have l22 : ∀ (k22 : Nat) (c s n : Nat) (x0 : Int) (x2 : Nat) (x5 : Int) (x6 : Int) (t : xTh) (M : xMe) (hc : c + n ≤ nE) (hs : s + 64 * n ≤ 64 * nE) (hM : xMR M) (hqE : xke tE t) (hx0 : xR x0) (hkx2 : xk t x2 = 13) (hx5 : xR x5) (hx6 : xR x6) (hp : p_J6_getChars_ba4f3_22 F Q (p_J6_getChars_ba4f3_72 F Q) k22 n x0 x2 x5 x6 t M), xJ X c s t M 22 [vi x0, vU, vr x2, vU, vU, vi x5, vi x6] [] := by
        intro k22
        induction k22 with
        | zero => intro c s n x0 x2 x5 x6 t M hc hs hM hqE hx0 hkx2 hx5 hx6 hp; exact hp.elim
        | succ k22 ih22 =>
          intro c s n x0 x2 x5 x6 t M hc hs hM hqE hx0 hkx2 hx5 hx6 hp
          unfold p_J6_getChars_ba4f3_22 at hp
          refine xJ_iload_n hX dJ6_getChars_ba4f3_22 rfl ?_
          refine xJ_bipush hX dJ6_getChars_ba4f3_23 rfl ?_
          refine xJ_icmp_gt hX dJ6_getChars_ba4f3_25 (tgt := 72) (by decide) hx0 ⟨by decide, by decide⟩ (fun c25 => ?_) (fun c25 => ?_)
          · replace hp := hp.1 c25
            exact l72 _ _ _ _ _ _ _ _ _ (by omega) (by omega) hM hqE hx0 hkx2 hx5 hx6 hp
          · replace hp := hp.2 c25
            refine xJ_iload_n hX dJ6_getChars_ba4f3_28 rfl ?_
            refine xJ_bipush hX dJ6_getChars_ba4f3_29 rfl ?_
            obtain ⟨h31, hp⟩ := hp
            refine xJ_idiv hX dJ6_getChars_ba4f3_31 hx0 ⟨by decide, by decide⟩ h31.1 ?_
            refine xJ_istore_n hX dJ6_getChars_ba4f3_32 (Nat.le_of_ble_eq_true rfl) rfl ?_
            dsimp only [List.set]
            replace hp := hp _ rfl
            refine xJ_iload_n hX dJ6_getChars_ba4f3_33 rfl ?_
            refine xJ_bipush hX dJ6_getChars_ba4f3_34 rfl ?_
            refine xJ_imul hX dJ6_getChars_ba4f3_36 ?_
            obtain ⟨h36, hp⟩ := hp
            refine xJ_iload_n hX dJ6_getChars_ba4f3_37 rfl ?_
            refine xJ_isub hX dJ6_getChars_ba4f3_38 ?_
            obtain ⟨h38, hp⟩ := hp
            refine xJ_istore hX dJ6_getChars_ba4f3_39 (Nat.le_of_ble_eq_true rfl) rfl ?_
            dsimp only [List.set]
            replace hp := hp _ rfl
            refine xJ_iload_n hX dJ6_getChars_ba4f3_41 rfl ?_
            refine xJ_istore_n hX dJ6_getChars_ba4f3_42 (Nat.le_of_ble_eq_true rfl) rfl ?_
            dsimp only [List.set]
            refine xJ_aload_n hX dJ6_getChars_ba4f3_43 rfl ?_
            refine xJ_iinc hX dJ6_getChars_ba4f3_44 rfl rfl ?_
            dsimp only [List.set]
            obtain ⟨h44, hp⟩ := hp
            refine xJ_iload hX dJ6_getChars_ba4f3_47 rfl ?_
            refine xJ_gdig0 hX rfl dJ6_getChars_ba4f3_49 ?_
            refine xJ_iload hX dJ6_getChars_ba4f3_52 rfl ?_
            obtain ⟨h54, hp⟩ := hp
            refine xJ_dig0 hX rfl dJ6_getChars_ba4f3_54 h54.1 h54.2 ?_
            obtain ⟨h55, hp⟩ := hp
            refine xJ_bastM hX dJ6_getChars_ba4f3_55 hkx2 h55.1.1 h55.1.2 (xny h55.2.1 h55.2.2) hM (xR_d0 h54.1 h54.2) (fun M55 e55 hM55 => ?_)
            replace hp := hp M55 e55
            refine xJ_aload_n hX dJ6_getChars_ba4f3_56 rfl ?_
            refine xJ_iinc hX dJ6_getChars_ba4f3_57 rfl rfl ?_
            dsimp only [List.set]
            obtain ⟨h57, hp⟩ := hp
            refine xJ_iload hX dJ6_getChars_ba4f3_60 rfl ?_
            refine xJ_gdig1 hX rfl dJ6_getChars_ba4f3_62 ?_
            refine xJ_iload hX dJ6_getChars_ba4f3_65 rfl ?_
            obtain ⟨h67, hp⟩ := hp
            refine xJ_dig1 hX rfl dJ6_getChars_ba4f3_67 h67.1 h67.2 ?_
            obtain ⟨h68, hp⟩ := hp
            refine xJ_bastM hX dJ6_getChars_ba4f3_68 hkx2 h68.1.1 h68.1.2 (xny h68.2.1 h68.2.2) hM55 (xR_d1 h67.1 h67.2) (fun M68 e68 hM68 => ?_)
            replace hp := hp M68 e68
            refine xJ_goto hX dJ6_getChars_ba4f3_69 (tgt := 22) (by decide) ?_
            refine xJ_fg 3 ?_
            dsimp only [List.set]
            refine xJ_fg 4 ?_
            dsimp only [List.set]
            exact ih22 _ _ _ _ _ _ _ _ _ (by omega) (by omega) hM68 hqE h31.2 hkx2 h57 hx6 hp
      exact l22 F _ _ _ _ _ _ _ _ _ (by omega) (by omega) hM hqE h20 hkx2 hx5 hy0 hp
  refine xJ_if_ge hX dJ6_getChars_ba4f3_4 (tgt := 11) (by decide) hx0 (fun c4 => ?_) (fun c4 => ?_)
  · replace hp := hp.1 c4
    refine xJ_iconst hX dJ6_getChars_ba4f3_11 ?_
    refine xJ_fg 1 ?_
    dsimp only [List.set]
    exact l12 _ _ _ _ _ _ _ _ _ (by omega) (by omega) hME (xke_refl _) hx0 hkx2 hx1 ⟨by decide, by decide⟩ hp
  · replace hp := hp.2 c4
    refine xJ_iconst hX dJ6_getChars_ba4f3_7 ?_
    refine xJ_goto hX dJ6_getChars_ba4f3_8 (tgt := 12) (by decide) ?_
    refine xJ_fg 1 ?_
    dsimp only [List.set]
    exact l12 _ _ _ _ _ _ _ _ _ (by omega) (by omega) hME (xke_refl _) hx0 hkx2 hx1 ⟨by decide, by decide⟩ hp
def p_J5_append_c97b9 (F : Nat) (n : Nat) (tE : xTh) (x0 : Nat) (x1 : Int) (ME : xMe) (Q : Nat → xTh → xMe → Prop) : Prop :=
  (∀ z4 : Int, z4 = ME x0 3 → (∃ k7 : Nat, k7 ≤ n ∧ p_J6_stringSize_0f7a4 F k7 tE x1 ME (fun r7 t7 M7 => (xR (z4 + r7)) ∧ (∀ z11 : Int, z11 = z4 + r7 → (∃ k14 : Nat, k14 ≤ (n - k7) ∧ p_J5_ensureCapacityInternal_d00df F k14 t7 x0 z11 M7 (fun t14 M14 => (∃ k18 : Nat, k18 ≤ ((n - k7) - k14) ∧ p_J5_isLatin1_aae02 F k18 t14 x0 M14 (fun r18 t18 M18 => ((r18 = 0 → False) ∧ (r18 ≠ 0 → (∃ b27 : Nat, xr t18 x0 0 = some b27 ∧ xk t18 b27 = 13 ∧ (∃ k30 : Nat, k30 ≤ (((n - k7) - k14) - k18) ∧ p_J6_getChars_ba4f3 F k30 t18 x1 z11 b27 M18 (fun r30 t30 M30 => (∀ M50 : xMe, M50 = xw M30 x0 3 z11 → Q x0 t30 M50))))))))))))))
set_option maxHeartbeats 8000000 in
set_option maxRecDepth 100000 in
theorem c_J5_append_c97b9 {G : xGx} {tE : xTh} {ME : xMe} {F nE : Nat} {x0 : Nat} {x1 : Int} {Q : Nat → xTh → xMe → Prop} (hME : xMR ME) (hkx0 : xk tE x0 = 22) (hx1 : xR x1) (hp : p_J5_append_c97b9 F nE tE x0 x1 ME Q) : xCt G yJ5_append_c97b9 cJ5_append_c97b9 4 (some (.object "java/lang/AbstractStringBuilder")) 4 nE (64 * nE) [vr x0, vi x1] tE ME (fun v t' M' => ∃ r, v = some (vr r) ∧ xk t' r = 22 ∧ xMR M' ∧ xke tE t' ∧ Q r t' M') (fun _ _ _ => False) := by
  refine xCt_of (L0 := [vr x0, vi x1, vU, vU]) (by decide +kernel) (Nat.le_of_ble_eq_true rfl) rfl ?_
  intro X hX hB
  unfold p_J5_append_c97b9 at hp
  refine xJ_aload_n hX dJ5_append_c97b9_0 rfl ?_
  refine xJ_getI hX dJ5_append_c97b9_1 fd_J5_79 rfl hkx0 ?_
  refine xJ_istore_n hX dJ5_append_c97b9_4 (Nat.le_of_ble_eq_true rfl) rfl ?_
  dsimp only [List.set]
  replace hp := hp _ rfl
  refine xJ_iload_n hX dJ5_append_c97b9_5 rfl ?_
  refine xJ_iload_n hX dJ5_append_c97b9_6 rfl ?_
  obtain ⟨k7, hn7, hp⟩ := hp
  refine xJ_callS (As := [_]) hX hB dJ5_append_c97b9_7 lk_J5_245 sm_J6_stringSize_0f7a4 (c_J6_stringSize_0f7a4 hME hx1 hp) (by decide) rfl rfl rfl (Nat.le_of_ble_eq_true rfl) (by omega) (by omega) (fun v t7 M7 hv => ?_) (fun _ _ _ q => q.elim)
  clear hp
  obtain ⟨r7, rfl, h7, hM7, hq7, hp⟩ := hv
  dsimp only [Option.toList, List.cons_append, List.nil_append]
  refine xJ_iadd hX dJ5_append_c97b9_10 ?_
  obtain ⟨h10, hp⟩ := hp
  refine xJ_istore_n hX dJ5_append_c97b9_11 (Nat.le_of_ble_eq_true rfl) rfl ?_
  dsimp only [List.set]
  replace hp := hp _ rfl
  refine xJ_aload_n hX dJ5_append_c97b9_12 rfl ?_
  refine xJ_iload_n hX dJ5_append_c97b9_13 rfl ?_
  obtain ⟨k14, hn14, hp⟩ := hp
  refine xJ_callU (As := [_]) hX hB dJ5_append_c97b9_14 lu_J5_100 (xke_k hq7 hkx0 (by decide)) (c_J5_ensureCapacityInternal_d00df hM7 (xke_k hq7 hkx0 (by decide)) h10 hp) (by decide) rfl rfl rfl (Nat.le_of_ble_eq_true rfl) (by omega) (by omega) (fun v t14 M14 hv => ?_)
  clear hp
  obtain ⟨rfl, hM14, hq14, hp⟩ := hv
  dsimp only [Option.toList, List.cons_append, List.nil_append]
  refine xJ_aload_n hX dJ5_append_c97b9_17 rfl ?_
  obtain ⟨k18, hn18, hp⟩ := hp
  refine xJ_callU (As := []) hX hB dJ5_append_c97b9_18 lu_J5_83 (xke_k hq14 (xke_k hq7 hkx0 (by decide)) (by decide)) (c_J5_isLatin1_aae02 hM14 (xke_k hq14 (xke_k hq7 hkx0 (by decide)) (by decide)) hp) (by decide) rfl rfl rfl (Nat.le_of_ble_eq_true rfl) (by omega) (by omega) (fun v t18 M18 hv => ?_)
  clear hp
  obtain ⟨r18, rfl, h18, hM18, hq18, hp⟩ := hv
  dsimp only [Option.toList, List.cons_append, List.nil_append]
  refine xJ_if_eq hX dJ5_append_c97b9_21 (tgt := 37) (by decide) h18 (fun c21 => ?_) (fun c21 => ?_)
  · replace hp := hp.1 c21
    exact False.elim hp
  · replace hp := hp.2 c21
    refine xJ_iload_n hX dJ5_append_c97b9_24 rfl ?_
    refine xJ_iload_n hX dJ5_append_c97b9_25 rfl ?_
    refine xJ_aload_n hX dJ5_append_c97b9_26 rfl ?_
    obtain ⟨b27, e27, hkb27, hp⟩ := hp
    refine xJ_getR (b := b27) hX dJ5_append_c97b9_27 fd_J5_15 rfl (xke_k hq18 (xke_k hq14 (xke_k hq7 hkx0 (by decide)) (by decide)) (by decide)) e27 ?_
    obtain ⟨k30, hn30, hp⟩ := hp
    refine xJ_callS (As := [_, _, _]) hX hB dJ5_append_c97b9_30 lk_J5_248 sm_J6_getChars_ba4f3 (c_J6_getChars_ba4f3 hM18 hkb27 hx1 h10 hp) (by decide) rfl rfl rfl (Nat.le_of_ble_eq_true rfl) (by omega) (by omega) (fun v t30 M30 hv => ?_) (fun _ _ _ q => q.elim)
    clear hp
    obtain ⟨r30, rfl, h30, hM30, hq30, hp⟩ := hv
    dsimp only [Option.toList, List.cons_append, List.nil_append]
    refine xJ_pop hX dJ5_append_c97b9_33 rfl ?_
    refine xJ_goto hX dJ5_append_c97b9_34 (tgt := 48) (by decide) ?_
    refine xJ_aload_n hX dJ5_append_c97b9_48 rfl ?_
    refine xJ_iload_n hX dJ5_append_c97b9_49 rfl ?_
    refine xJ_putIM hX dJ5_append_c97b9_50 fd_J5_79 ft_J4 rfl rfl rfl rfl (xke_k hq30 (xke_k hq18 (xke_k hq14 (xke_k hq7 hkx0 (by decide)) (by decide)) (by decide)) (by decide)) hM30 h10 (fun M50 e50 hM50 => ?_)
    replace hp := hp M50 e50
    refine xJ_aload_n hX dJ5_append_c97b9_53 rfl ?_
    exact xJ_aret hX hB dJ5_append_c97b9_54 (Or.inl ⟨_, rfl⟩) (Or.inr ⟨_, rfl⟩) (by omega) (by omega) ⟨_, rfl, (xke_k hq30 (xke_k hq18 (xke_k hq14 (xke_k hq7 hkx0 (by decide)) (by decide)) (by decide)) (by decide)), hM50, (xke_trans (xke_trans (xke_trans (xke_trans (xke_refl _) hq7) hq14) hq18) hq30), hp⟩
def p_J4_append_bf812 (F : Nat) (n : Nat) (tE : xTh) (x0 : Nat) (x1 : Int) (ME : xMe) (Q : Nat → xTh → xMe → Prop) : Prop :=
  (∃ k2 : Nat, k2 ≤ n ∧ p_J5_append_c97b9 F k2 tE x0 x1 ME (fun r2 t2 M2 => Q x0 t2 M2))
set_option maxHeartbeats 8000000 in
set_option maxRecDepth 100000 in
theorem c_J4_append_bf812 {G : xGx} {tE : xTh} {ME : xMe} {F nE : Nat} {x0 : Nat} {x1 : Int} {Q : Nat → xTh → xMe → Prop} (hME : xMR ME) (hkx0 : xk tE x0 = 22) (hx1 : xR x1) (hp : p_J4_append_bf812 F nE tE x0 x1 ME Q) : xCt G yJ4_append_bf812 cJ4_append_bf812 2 (some (.object "java/lang/StringBuilder")) 5 nE (64 * nE) [vr x0, vi x1] tE ME (fun v t' M' => ∃ r, v = some (vr r) ∧ xk t' r = 22 ∧ xMR M' ∧ xke tE t' ∧ Q r t' M') (fun _ _ _ => False) := by
  refine xCt_of (L0 := [vr x0, vi x1]) (by decide +kernel) (Nat.le_of_ble_eq_true rfl) rfl ?_
  intro X hX hB
  unfold p_J4_append_bf812 at hp
  refine xJ_aload_n hX dJ4_append_bf812_0 rfl ?_
  refine xJ_iload_n hX dJ4_append_bf812_1 rfl ?_
  obtain ⟨k2, hn2, hp⟩ := hp
  refine xJ_callSU (As := [_]) hX hB dJ4_append_bf812_2 lk_J4_53 ws_J5_append_c97b9 wsup_SB im_J5_append_c97b9 (by decide) hkx0 (c_J5_append_c97b9 hME hkx0 hx1 hp) (by decide) rfl rfl rfl (Nat.le_of_ble_eq_true rfl) (by omega) (by omega) (fun v t2 M2 hv => ?_)
  clear hp
  obtain ⟨r2, rfl, hk2, hM2, hq2, hp⟩ := hv
  dsimp only [Option.toList, List.cons_append, List.nil_append]
  refine xJ_pop hX dJ4_append_bf812_5 rfl ?_
  refine xJ_aload_n hX dJ4_append_bf812_6 rfl ?_
  exact xJ_aret hX hB dJ4_append_bf812_7 (Or.inl ⟨_, rfl⟩) (Or.inr ⟨_, rfl⟩) (by omega) (by omega) ⟨_, rfl, (xke_k hq2 hkx0 (by decide)), hM2, (xke_trans (xke_refl _) hq2), hp⟩
def p_J7_checkLength_df160 (F : Nat) (n : Nat) (tE : xTh) (x0 : Int) (x1 : Int) (ME : xMe) (Q : xTh → xMe → Prop) : Prop :=
  ((x0 ≤ x1 → Q tE ME) ∧ (x1 < x0 → False))
set_option maxHeartbeats 8000000 in
set_option maxRecDepth 100000 in
theorem c_J7_checkLength_df160 {G : xGx} {tE : xTh} {ME : xMe} {F nE : Nat} {x0 : Int} {x1 : Int} {Q : xTh → xMe → Prop} (hME : xMR ME)  (hx0 : xR x0) (hx1 : xR x1) (hp : p_J7_checkLength_df160 F nE tE x0 x1 ME Q) : xCt G yJ7_checkLength_df160 cJ7_checkLength_df160 2 none 1 nE (64 * nE) [vi x0, vi x1] tE ME (fun v t' M' => v = none ∧ xMR M' ∧ xke tE t' ∧ Q t' M') (fun _ _ _ => False) := by
  refine xCt_of (L0 := [vi x0, vi x1]) (by decide +kernel) (Nat.le_of_ble_eq_true rfl) rfl ?_
  intro X hX hB
  unfold p_J7_checkLength_df160 at hp
  refine xJ_iload_n hX dJ7_checkLength_df160_0 rfl ?_
  refine xJ_iload_n hX dJ7_checkLength_df160_1 rfl ?_
  refine xJ_icmp_ge hX dJ7_checkLength_df160_2 (tgt := 37) (by decide) hx1 hx0 (fun c2 => ?_) (fun c2 => ?_)
  · replace hp := hp.1 c2
    exact xJ_vret hX hB dJ7_checkLength_df160_37 (by omega) (by omega) ⟨rfl, hME, (xke_refl _), hp⟩
  · replace hp := hp.2 c2
    exact False.elim hp
def p_J7_copyOfRangeByte_39247 (F : Nat) (n : Nat) (tE : xTh) (x0 : Nat) (x1 : Int) (x2 : Int) (ME : xMe) (Q : Nat → xTh → xMe → Prop) : Prop :=
  (∃ k2 : Nat, k2 ≤ n ∧ p_J7_checkLength_df160 F k2 tE x1 x2 ME (fun t2 M2 => (xR (x2 - x1)) ∧ (∀ z8 : Int, z8 = x2 - x1 → ((0 : Int) ≤ z8 ∧ z8 ≤ 64) ∧ (1 ≤ (n - k2)) ∧ (∀ (a10 : Nat) (t10 : xTh) (M10 : xMe), a10 = xz t2 → t10 = xnw t2 13 z8.toNat → M10 = xw0 M2 a10 → (xR ((xn t10 x0 : Nat) : Int)) ∧ (xR ((((xn t10 x0 : Nat) : Int)) - x1)) ∧ (((0 : Int) ≤ x1 ∧ (0 : Int) ≤ 0 ∧ (0 : Int) ≤ (min ((((xn t10 x0 : Nat) : Int)) - x1) z8)) ∧ x1 + (min ((((xn t10 x0 : Nat) : Int)) - x1) z8) ≤ (xn t10 x0 : Int) ∧ 0 + (min ((((xn t10 x0 : Nat) : Int)) - x1) z8) ≤ (xn t10 a10 : Int) ∧ ∀ i : Nat, (i : Int) < (min ((((xn t10 x0 : Nat) : Int)) - x1) z8) → -128 ≤ M10 x0 (x1.toNat + i) ∧ M10 x0 (x1.toNat + i) < 128) ∧ (∀ M27 : xMe, M27 = xcp M10 x0 a10 x1.toNat 0 (min ((((xn t10 x0 : Nat) : Int)) - x1) z8).toNat → Q a10 t10 M27)))))
set_option maxHeartbeats 8000000 in
set_option maxRecDepth 100000 in
theorem c_J7_copyOfRangeByte_39247 {G : xGx} {tE : xTh} {ME : xMe} {F nE : Nat} {x0 : Nat} {x1 : Int} {x2 : Int} {Q : Nat → xTh → xMe → Prop} (hME : xMR ME) (hkx0 : xk tE x0 = 13) (hx1 : xR x1) (hx2 : xR x2) (hp : p_J7_copyOfRangeByte_39247 F nE tE x0 x1 x2 ME Q) : xCt G yJ7_copyOfRangeByte_39247 cJ7_copyOfRangeByte_39247 5 (some (.array .byte)) 2 nE (64 * nE) [vr x0, vi x1, vi x2] tE ME (fun v t' M' => ∃ r, v = some (vr r) ∧ xk t' r = 13 ∧ xMR M' ∧ xke tE t' ∧ Q r t' M') (fun _ _ _ => False) := by
  refine xCt_of (L0 := [vr x0, vi x1, vi x2, vU, vU]) (by decide +kernel) (Nat.le_of_ble_eq_true rfl) rfl ?_
  intro X hX hB
  unfold p_J7_copyOfRangeByte_39247 at hp
  refine xJ_iload_n hX dJ7_copyOfRangeByte_39247_0 rfl ?_
  refine xJ_iload_n hX dJ7_copyOfRangeByte_39247_1 rfl ?_
  obtain ⟨k2, hn2, hp⟩ := hp
  refine xJ_callS (As := [_, _]) hX hB dJ7_copyOfRangeByte_39247_2 lk_J7_343 sm_J7_checkLength_df160 (c_J7_checkLength_df160 hME hx1 hx2 hp) (by decide) rfl rfl rfl (Nat.le_of_ble_eq_true rfl) (by omega) (by omega) (fun v t2 M2 hv => ?_) (fun _ _ _ q => q.elim)
  clear hp
  obtain ⟨rfl, hM2, hq2, hp⟩ := hv
  dsimp only [Option.toList, List.cons_append, List.nil_append]
  refine xJ_iload_n hX dJ7_copyOfRangeByte_39247_5 rfl ?_
  refine xJ_iload_n hX dJ7_copyOfRangeByte_39247_6 rfl ?_
  refine xJ_isub hX dJ7_copyOfRangeByte_39247_7 ?_
  obtain ⟨h7, hp⟩ := hp
  refine xJ_istore_n hX dJ7_copyOfRangeByte_39247_8 (Nat.le_of_ble_eq_true rfl) rfl ?_
  dsimp only [List.set]
  replace hp := hp _ rfl
  refine xJ_iload_n hX dJ7_copyOfRangeByte_39247_9 rfl ?_
  obtain ⟨hl10, hp⟩ := hp
  obtain ⟨hn10, hp⟩ := hp
  refine xJ_newYE hX hB hM2 dJ7_copyOfRangeByte_39247_10 ac_byte hl10.1 (by omega) (by omega) (by omega) (fun a10 t10 M10 ea10 et10 e10 hM10 hq10 hka10 => ?_)
  replace hp := hp a10 t10 M10 ea10 et10 e10
  refine xJ_astore hX dJ7_copyOfRangeByte_39247_12 (Nat.le_of_ble_eq_true rfl) rfl ?_
  dsimp only [List.set]
  refine xJ_aload_n hX dJ7_copyOfRangeByte_39247_14 rfl ?_
  refine xJ_iload_n hX dJ7_copyOfRangeByte_39247_15 rfl ?_
  refine xJ_aload hX dJ7_copyOfRangeByte_39247_16 rfl ?_
  refine xJ_iconst hX dJ7_copyOfRangeByte_39247_18 ?_
  refine xJ_aload_n hX dJ7_copyOfRangeByte_39247_19 rfl ?_
  refine xJ_alen hX dJ7_copyOfRangeByte_39247_20 (by rw [(xke_k hq10 (xke_k hq2 hkx0 (by decide)) (by decide))]; decide) (by rw [(xke_k hq10 (xke_k hq2 hkx0 (by decide)) (by decide))]; decide) ?_
  obtain ⟨h20, hp⟩ := hp
  refine xJ_iload_n hX dJ7_copyOfRangeByte_39247_21 rfl ?_
  refine xJ_isub hX dJ7_copyOfRangeByte_39247_22 ?_
  obtain ⟨h22, hp⟩ := hp
  refine xJ_iload_n hX dJ7_copyOfRangeByte_39247_23 rfl ?_
  refine xJ_mmin hX hB dJ7_copyOfRangeByte_39247_24 lj_J7_304 jw_min_st jw_ma_in jw_min_co rfl (by decide) (Nat.le_of_ble_eq_true rfl) (by omega) (by omega) h22 h7 ?_
  obtain ⟨h27, hp⟩ := hp
  refine xJ_copyY hX hB dJ7_copyOfRangeByte_39247_27 lj_J7_150 jw_cp_nat jw_cp_st jw_cp_in rfl (by decide) (Nat.le_of_ble_eq_true rfl) (xke_k hq10 (xke_k hq2 hkx0 (by decide)) (by decide)) hka10 h27.1.1 h27.1.2.1 h27.1.2.2 h27.2.1 h27.2.2.1 h27.2.2.2 hM10 (fun M27 e27 hM27 => ?_)
  replace hp := hp M27 e27
  refine xJ_aload hX dJ7_copyOfRangeByte_39247_30 rfl ?_
  exact xJ_aret hX hB dJ7_copyOfRangeByte_39247_32 (Or.inr ⟨_, rfl⟩) (Or.inr ⟨_, rfl⟩) (by omega) (by omega) ⟨_, rfl, hka10, hM27, (xke_trans (xke_trans (xke_refl _) hq2) hq10), hp⟩
def p_J7_copyOfRange_39247 (F : Nat) (n : Nat) (tE : xTh) (x0 : Nat) (x1 : Int) (x2 : Int) (ME : xMe) (Q : Nat → xTh → xMe → Prop) : Prop :=
  ((x1 ≠ 0 → (∃ k13 : Nat, k13 ≤ n ∧ p_J7_copyOfRangeByte_39247 F k13 tE x0 x1 x2 ME (fun r13 t13 M13 => Q r13 t13 M13))) ∧ (x1 = 0 → (xR ((xn tE x0 : Nat) : Int)) ∧ ((x2 = (((xn tE x0 : Nat) : Int)) → (xn tE x0 ≤ 64 ∧ 1 ≤ n ∧ ∀ i, i < xn tE x0 → -128 ≤ ME x0 i ∧ ME x0 i < 128) ∧ (∀ (a18 : Nat) (t18 : xTh) (M18 : xMe), a18 = xz tE → t18 = xnw tE 13 (xn tE x0) → M18 = xcl ME x0 a18 → Q a18 t18 M18)) ∧ (x2 ≠ (((xn tE x0 : Nat) : Int)) → (∃ k13 : Nat, k13 ≤ n ∧ p_J7_copyOfRangeByte_39247 F k13 tE x0 x1 x2 ME (fun r13 t13 M13 => Q r13 t13 M13))))))
set_option maxHeartbeats 8000000 in
set_option maxRecDepth 100000 in
theorem c_J7_copyOfRange_39247 {G : xGx} {tE : xTh} {ME : xMe} {F nE : Nat} {x0 : Nat} {x1 : Int} {x2 : Int} {Q : Nat → xTh → xMe → Prop} (hME : xMR ME) (hkx0 : xk tE x0 = 13) (hx1 : xR x1) (hx2 : xR x2) (hp : p_J7_copyOfRange_39247 F nE tE x0 x1 x2 ME Q) : xCt G yJ7_copyOfRange_39247 cJ7_copyOfRange_39247 3 (some (.array .byte)) 3 nE (64 * nE) [vr x0, vi x1, vi x2] tE ME (fun v t' M' => ∃ r, v = some (vr r) ∧ xk t' r = 13 ∧ xMR M' ∧ xke tE t' ∧ Q r t' M') (fun _ _ _ => False) := by
  refine xCt_of (L0 := [vr x0, vi x1, vi x2]) (by decide +kernel) (Nat.le_of_ble_eq_true rfl) rfl ?_
  intro X hX hB
  unfold p_J7_copyOfRange_39247 at hp
  refine xJ_iload_n hX dJ7_copyOfRange_39247_0 rfl ?_
  refine xJ_if_ne hX dJ7_copyOfRange_39247_1 (tgt := 10) (by decide) hx1 (fun c1 => ?_) (fun c1 => ?_)
  · replace hp := hp.1 c1
    refine xJ_aload_n hX dJ7_copyOfRange_39247_10 rfl ?_
    refine xJ_iload_n hX dJ7_copyOfRange_39247_11 rfl ?_
    refine xJ_iload_n hX dJ7_copyOfRange_39247_12 rfl ?_
    obtain ⟨k13, hn13, hp⟩ := hp
    refine xJ_callS (As := [_, _, _]) hX hB dJ7_copyOfRange_39247_13 lk_J7_339 sm_J7_copyOfRangeByte_39247 (c_J7_copyOfRangeByte_39247 hME hkx0 hx1 hx2 hp) (by decide) rfl rfl rfl (Nat.le_of_ble_eq_true rfl) (by omega) (by omega) (fun v t13 M13 hv => ?_) (fun _ _ _ q => q.elim)
    clear hp
    obtain ⟨r13, rfl, hk13, hM13, hq13, hp⟩ := hv
    dsimp only [Option.toList, List.cons_append, List.nil_append]
    exact xJ_aret hX hB dJ7_copyOfRange_39247_16 (Or.inr ⟨_, rfl⟩) (Or.inr ⟨_, rfl⟩) (by omega) (by omega) ⟨_, rfl, hk13, hM13, (xke_trans (xke_refl _) hq13), hp⟩
  · replace hp := hp.2 c1
    refine xJ_iload_n hX dJ7_copyOfRange_39247_4 rfl ?_
    refine xJ_aload_n hX dJ7_copyOfRange_39247_5 rfl ?_
    refine xJ_alen hX dJ7_copyOfRange_39247_6 (by rw [hkx0]; decide) (by rw [hkx0]; decide) ?_
    obtain ⟨h6, hp⟩ := hp
    refine xJ_icmp_eq hX dJ7_copyOfRange_39247_7 (tgt := 17) (by decide) hx2 h6 (fun c7 => ?_) (fun c7 => ?_)
    · replace hp := hp.1 c7
      refine xJ_aload_n hX dJ7_copyOfRange_39247_17 rfl ?_
      obtain ⟨hn18, hp⟩ := hp
      refine xJ_cloneBE hX hB hME dJ7_copyOfRange_39247_18 wclB_link wclB_same wcl_nat wcl_inst wclB_sel rfl (by decide) (Nat.le_of_ble_eq_true rfl) hkx0 hn18.2.2 (by omega) (by omega) (fun a18 t18 M18 ea18 et18 e18 hM18 hq18 hka18 => ?_)
      replace hp := hp a18 t18 M18 ea18 et18 e18
      refine xJ_ccB hX dJ7_copyOfRange_39247_21 kl_J7_311 hka18 ?_
      exact xJ_aret hX hB dJ7_copyOfRange_39247_24 (Or.inr ⟨_, rfl⟩) (Or.inr ⟨_, rfl⟩) (by omega) (by omega) ⟨_, rfl, hka18, hM18, (xke_trans (xke_refl _) hq18), hp⟩
    · replace hp := hp.2 c7
      refine xJ_aload_n hX dJ7_copyOfRange_39247_10 rfl ?_
      refine xJ_iload_n hX dJ7_copyOfRange_39247_11 rfl ?_
      refine xJ_iload_n hX dJ7_copyOfRange_39247_12 rfl ?_
      obtain ⟨k13, hn13, hp⟩ := hp
      refine xJ_callS (As := [_, _, _]) hX hB dJ7_copyOfRange_39247_13 lk_J7_339 sm_J7_copyOfRangeByte_39247 (c_J7_copyOfRangeByte_39247 hME hkx0 hx1 hx2 hp) (by decide) rfl rfl rfl (Nat.le_of_ble_eq_true rfl) (by omega) (by omega) (fun v t13 M13 hv => ?_) (fun _ _ _ q => q.elim)
      clear hp
      obtain ⟨r13, rfl, hk13, hM13, hq13, hp⟩ := hv
      dsimp only [Option.toList, List.cons_append, List.nil_append]
      exact xJ_aret hX hB dJ7_copyOfRange_39247_16 (Or.inr ⟨_, rfl⟩) (Or.inr ⟨_, rfl⟩) (by omega) (by omega) ⟨_, rfl, hk13, hM13, (xke_trans (xke_refl _) hq13), hp⟩
def p_J0_init_db425 (F : Nat) (n : Nat) (tE : xTh) (x0 : Nat) (x1 : Nat) (ME : xMe) (Q : xTh → xMe → Prop) : Prop :=
  (∃ k5 : Nat, k5 ≤ n ∧ p_J5_getValue_6d5f1 F k5 tE x1 ME (fun r5 t5 M5 => (∃ k10 : Nat, k10 ≤ (n - k5) ∧ p_J4_length_8abf5 F k10 t5 x1 M5 (fun r10 t10 M10 => (∃ k16 : Nat, k16 ≤ ((n - k5) - k10) ∧ p_J5_isLatin1_aae02 F k16 t10 x1 M10 (fun r16 t16 M16 => ((r16 = 0 → False) ∧ (r16 ≠ 0 → (∀ M24 : xMe, M24 = xw M16 x0 1 0 → (∃ k32 : Nat, k32 ≤ (((n - k5) - k10) - k16) ∧ p_J7_copyOfRange_39247 F k32 t16 r5 0 r10 M24 (fun r32 t32 M32 => (∀ t35 : xTh, t35 = xwr t32 x0 0 (some r32) → Q t35 M32))))))))))))
set_option maxHeartbeats 8000000 in
set_option maxRecDepth 100000 in
theorem c_J0_init_db425 {G : xGx} {tE : xTh} {ME : xMe} {F nE : Nat} {x0 : Nat} {x1 : Nat} {Q : xTh → xMe → Prop} (hME : xMR ME) (hkx0 : xk tE x0 = 21) (hkx1 : xk tE x1 = 22)  (hp : p_J0_init_db425 F nE tE x0 x1 ME Q) : xCt G yJ0_init_db425 cJ0_init_db425 5 none 4 nE (64 * nE) [vr x0, vr x1, .null] tE ME (fun v t' M' => v = none ∧ xMR M' ∧ xke tE t' ∧ Q t' M') (fun _ _ _ => False) := by
  refine xCt_of (L0 := [vr x0, vr x1, .null, vU, vU]) (by decide +kernel) (Nat.le_of_ble_eq_true rfl) rfl ?_
  intro X hX hB
  unfold p_J0_init_db425 at hp
  refine xJ_aload_n hX dJ0_init_db425_0 rfl ?_
  refine xJ_objInit hX hB dJ0_init_db425_1 lj_J0_1 jw_obj_im jw_obj_co rfl (by decide) (Nat.le_of_ble_eq_true rfl) ?_
  refine xJ_aload_n hX dJ0_init_db425_4 rfl ?_
  obtain ⟨k5, hn5, hp⟩ := hp
  refine xJ_callU (As := []) hX hB dJ0_init_db425_5 lu_J0_552 hkx1 (c_J5_getValue_6d5f1 hME hkx1 hp) (by decide) rfl rfl rfl (Nat.le_of_ble_eq_true rfl) (by omega) (by omega) (fun v t5 M5 hv => ?_)
  clear hp
  obtain ⟨r5, rfl, hk5, hM5, hq5, hp⟩ := hv
  dsimp only [Option.toList, List.cons_append, List.nil_append]
  refine xJ_astore_n hX dJ0_init_db425_8 (Nat.le_of_ble_eq_true rfl) rfl ?_
  dsimp only [List.set]
  refine xJ_aload_n hX dJ0_init_db425_9 rfl ?_
  obtain ⟨k10, hn10, hp⟩ := hp
  refine xJ_callU2 (As := []) hX hB dJ0_init_db425_10 lk_J0_549 ws_J5_length_8abf5 im_J5_length_8abf5 im_J4_length_8abf5 wl_SBlen co_J4_length_8abf5 in_J4 (by decide) (xke_k hq5 hkx1 (by decide)) (c_J4_length_8abf5 hM5 (xke_k hq5 hkx1 (by decide)) hp) (by decide) rfl rfl rfl (Nat.le_of_ble_eq_true rfl) (by omega) (by omega) (fun v t10 M10 hv => ?_)
  clear hp
  obtain ⟨r10, rfl, h10, hM10, hq10, hp⟩ := hv
  dsimp only [Option.toList, List.cons_append, List.nil_append]
  refine xJ_istore hX dJ0_init_db425_13 (Nat.le_of_ble_eq_true rfl) rfl ?_
  dsimp only [List.set]
  refine xJ_aload_n hX dJ0_init_db425_15 rfl ?_
  obtain ⟨k16, hn16, hp⟩ := hp
  refine xJ_callU (As := []) hX hB dJ0_init_db425_16 lu_J0_1047 (xke_k hq10 (xke_k hq5 hkx1 (by decide)) (by decide)) (c_J5_isLatin1_aae02 hM10 (xke_k hq10 (xke_k hq5 hkx1 (by decide)) (by decide)) hp) (by decide) rfl rfl rfl (Nat.le_of_ble_eq_true rfl) (by omega) (by omega) (fun v t16 M16 hv => ?_)
  clear hp
  obtain ⟨r16, rfl, h16, hM16, hq16, hp⟩ := hv
  dsimp only [Option.toList, List.cons_append, List.nil_append]
  refine xJ_if_eq hX dJ0_init_db425_19 (tgt := 41) (by decide) h16 (fun c19 => ?_) (fun c19 => ?_)
  · replace hp := hp.1 c19
    exact False.elim hp
  · replace hp := hp.2 c19
    refine xJ_aload_n hX dJ0_init_db425_22 rfl ?_
    refine xJ_iconst hX dJ0_init_db425_23 ?_
    refine xJ_putFI hX dJ0_init_db425_24 fd_J0_15 ft_J0 rfl rfl rfl rfl rfl rfl rfl (xke_k hq16 (xke_k hq10 (xke_k hq5 hkx0 (by decide)) (by decide)) (by decide)) hM16 ⟨by decide, by decide⟩ (fun M24 e24 hM24 => ?_)
    replace hp := hp M24 e24
    refine xJ_aload_n hX dJ0_init_db425_27 rfl ?_
    refine xJ_aload_n hX dJ0_init_db425_28 rfl ?_
    refine xJ_iconst hX dJ0_init_db425_29 ?_
    refine xJ_iload hX dJ0_init_db425_30 rfl ?_
    obtain ⟨k32, hn32, hp⟩ := hp
    refine xJ_callS (As := [_, _, _]) hX hB dJ0_init_db425_32 lk_J0_54 sm_J7_copyOfRange_39247 (c_J7_copyOfRange_39247 hM24 (xke_k hq16 (xke_k hq10 hk5 (by decide)) (by decide)) ⟨by decide, by decide⟩ h10 hp) (by decide) rfl rfl rfl (Nat.le_of_ble_eq_true rfl) (by omega) (by omega) (fun v t32 M32 hv => ?_) (fun _ _ _ q => q.elim)
    clear hp
    obtain ⟨r32, rfl, hk32, hM32, hq32, hp⟩ := hv
    dsimp only [Option.toList, List.cons_append, List.nil_append]
    refine xJ_putFE (x := (some r32)) hX dJ0_init_db425_35 fd_J0_9 ft_J0 rfl rfl rfl rfl rfl rfl rfl (xke_k hq32 (xke_k hq16 (xke_k hq10 (xke_k hq5 hkx0 (by decide)) (by decide)) (by decide)) (by decide)) (fun t35 et35 hq35 => ?_)
    replace hp := hp t35 et35
    refine xJ_goto hX dJ0_init_db425_38 (tgt := 97) (by decide) ?_
    exact xJ_vret hX hB dJ0_init_db425_97 (by omega) (by omega) ⟨rfl, hM32, (xke_trans (xke_trans (xke_trans (xke_trans (xke_trans (xke_refl _) hq5) hq10) hq16) hq32) hq35), hp⟩
def p_J0_init_81219 (F : Nat) (n : Nat) (tE : xTh) (x0 : Nat) (x1 : Nat) (ME : xMe) (Q : xTh → xMe → Prop) : Prop :=
  (∃ k3 : Nat, k3 ≤ n ∧ p_J0_init_db425 F k3 tE x0 x1 ME (fun t3 M3 => Q t3 M3))
set_option maxHeartbeats 8000000 in
set_option maxRecDepth 100000 in
theorem c_J0_init_81219 {G : xGx} {tE : xTh} {ME : xMe} {F nE : Nat} {x0 : Nat} {x1 : Nat} {Q : xTh → xMe → Prop} (hME : xMR ME) (hkx0 : xk tE x0 = 21) (hkx1 : xk tE x1 = 22)  (hp : p_J0_init_81219 F nE tE x0 x1 ME Q) : xCt G yJ0_init_81219 cJ0_init_81219 2 none 5 nE (64 * nE) [vr x0, vr x1] tE ME (fun v t' M' => v = none ∧ xMR M' ∧ xke tE t' ∧ Q t' M') (fun _ _ _ => False) := by
  refine xCt_of (L0 := [vr x0, vr x1]) (by decide +kernel) (Nat.le_of_ble_eq_true rfl) rfl ?_
  intro X hX hB
  unfold p_J0_init_81219 at hp
  refine xJ_aload_n hX dJ0_init_81219_0 rfl ?_
  refine xJ_aload_n hX dJ0_init_81219_1 rfl ?_
  refine xJ_null hX dJ0_init_81219_2 ?_
  obtain ⟨k3, hn3, hp⟩ := hp
  refine xJ_callI (As := [_, _]) hX hB dJ0_init_81219_3 lk_J0_489 im_J0_init_db425 rfl (c_J0_init_db425 hME hkx0 hkx1 hp) (by decide) rfl rfl rfl (Nat.le_of_ble_eq_true rfl) (by omega) (by omega) (fun v t3 M3 hv => ?_)
  clear hp
  obtain ⟨rfl, hM3, hq3, hp⟩ := hv
  dsimp only [Option.toList, List.cons_append, List.nil_append]
  exact xJ_vret hX hB dJ0_init_81219_6 (by omega) (by omega) ⟨rfl, hM3, (xke_trans (xke_refl _) hq3), hp⟩
def p_J4_toString_0e30d (F : Nat) (n : Nat) (tE : xTh) (x0 : Nat) (ME : xMe) (Q : Nat → xTh → xMe → Prop) : Prop :=
  (1 ≤ n) ∧ (∀ (a0 : Nat) (t0 : xTh) (M0 : xMe), a0 = xz tE → t0 = xnw tE 21 0 → M0 = xw0 ME a0 → (∃ k5 : Nat, k5 ≤ (n - 1) ∧ p_J0_init_81219 F k5 t0 a0 x0 M0 (fun t5 M5 => Q a0 t5 M5)))
set_option maxHeartbeats 8000000 in
set_option maxRecDepth 100000 in
theorem c_J4_toString_0e30d {G : xGx} {tE : xTh} {ME : xMe} {F nE : Nat} {x0 : Nat} {Q : Nat → xTh → xMe → Prop} (hME : xMR ME) (hkx0 : xk tE x0 = 22)  (hp : p_J4_toString_0e30d F nE tE x0 ME Q) : xCt G yJ4_toString_0e30d cJ4_toString_0e30d 1 (some (.object "java/lang/String")) 6 nE (64 * nE) [vr x0] tE ME (fun v t' M' => ∃ r, v = some (vr r) ∧ xMR M' ∧ xke tE t' ∧ Q r t' M') (fun _ _ _ => False) := by
  refine xCt_of (L0 := [vr x0]) (by decide +kernel) (Nat.le_of_ble_eq_true rfl) rfl ?_
  intro X hX hB
  unfold p_J4_toString_0e30d at hp
  obtain ⟨hn0, hp⟩ := hp
  refine xJ_newE (ci := 21) hX hB hME dJ4_toString_0e30d_0 rfl (by decide) ft_J0 uw_J0 kl_J4_18 is_J0 in_J0 rfl (by decide) (by omega) (by omega) (fun a0 t0 M0 ea0 et0 e0 hM0 hq0 hka0 => ?_)
  replace hp := hp a0 t0 M0 ea0 et0 e0
  refine xJ_dup hX dJ4_toString_0e30d_3 rfl ?_
  refine xJ_aload_n hX dJ4_toString_0e30d_4 rfl ?_
  obtain ⟨k5, hn5, hp⟩ := hp
  refine xJ_callI (As := [_]) hX hB dJ4_toString_0e30d_5 lk_J4_137 im_J0_init_81219 rfl (c_J0_init_81219 hM0 hka0 (xke_k hq0 hkx0 (by decide)) hp) (by decide) rfl rfl rfl (Nat.le_of_ble_eq_true rfl) (by omega) (by omega) (fun v t5 M5 hv => ?_)
  clear hp
  obtain ⟨rfl, hM5, hq5, hp⟩ := hv
  dsimp only [Option.toList, List.cons_append, List.nil_append]
  exact xJ_aret hX hB dJ4_toString_0e30d_8 (Or.inl ⟨_, rfl⟩) (Or.inr ⟨_, rfl⟩) (by omega) (by omega) ⟨_, rfl, hM5, (xke_trans (xke_trans (xke_refl _) hq0) hq5), hp⟩
def p_X12_text_120 (F : Nat) (G : xGx) (PS : Nat → xTh → Nat → Int → xMe → (Nat → xTh → xMe → Prop) → Prop) (Q : Nat → xTh → xMe → Prop) (n : Nat) (x0 : Nat) (x1 : Int) (x2 : Int) (y0 : Nat) (y1 : Nat) (t : xTh) (M : xMe) : Prop :=
    (∃ k120 : Nat, k120 ≤ n ∧ p_J4_append_15ec4 F G k120 t y1 y0 M (fun r120 t120 M120 => (∃ b124 : Nat, xr t120 x0 3 = some b124 ∧ xk t120 b124 = 12 ∧ (xR (x2 + 1)) ∧ (∃ k130 : Nat, k130 ≤ (n - k120) ∧ PS k130 t120 b124 (x2 + 1) M120 (fun r130 t130 M130 => (∃ k133 : Nat, k133 ≤ ((n - k120) - k130) ∧ p_J4_append_15ec4 F G k133 t130 r120 r130 M130 (fun r133 t133 M133 => (∃ k136 : Nat, k136 ≤ (((n - k120) - k130) - k133) ∧ p_J4_toString_0e30d F k136 t133 r133 M133 (fun r136 t136 M136 => ((x1 ≤ x2 → Q r136 t136 M136) ∧ (x2 < x1 → (1 ≤ ((((n - k120) - k130) - k133) - k136)) ∧ (∀ (a145 : Nat) (t145 : xTh) (M145 : xMe), a145 = xz t136 → t145 = xnw t136 22 0 → M145 = xw0 M136 a145 → (∃ k149 : Nat, k149 ≤ (((((n - k120) - k130) - k133) - k136) - 1) ∧ p_J4_init_da8c8 F k149 t145 a145 M145 (fun t149 M149 => (∃ k154 : Nat, k154 ≤ ((((((n - k120) - k130) - k133) - k136) - 1) - k149) ∧ p_J4_append_15ec4 F G k154 t149 a145 ((G.2.2.2.1 28)) M149 (fun r154 t154 M154 => (∃ k158 : Nat, k158 ≤ (((((((n - k120) - k130) - k133) - k136) - 1) - k149) - k154) ∧ p_J4_append_15ec4 F G k158 t154 r154 r136 M154 (fun r158 t158 M158 => (∃ k163 : Nat, k163 ≤ ((((((((n - k120) - k130) - k133) - k136) - 1) - k149) - k154) - k158) ∧ p_J4_append_15ec4 F G k163 t158 r158 ((G.2.2.2.1 29)) M158 (fun r163 t163 M163 => (∃ k166 : Nat, k166 ≤ (((((((((n - k120) - k130) - k133) - k136) - 1) - k149) - k154) - k158) - k163) ∧ p_J4_toString_0e30d F k166 t163 r163 M163 (fun r166 t166 M166 => Q r166 t166 M166))))))))))))))))))))))
def p_X12_text_60 (F : Nat) (G : xGx) (PS : Nat → xTh → Nat → Int → xMe → (Nat → xTh → xMe → Prop) → Prop) (Q : Nat → xTh → xMe → Prop) (n : Nat) (x0 : Nat) (x1 : Int) (y0 : Int) (t : xTh) (M : xMe) : Prop :=
    (1 ≤ n) ∧ (∀ (a61 : Nat) (t61 : xTh) (M61 : xMe), a61 = xz t → t61 = xnw t 22 0 → M61 = xw0 M a61 → (∃ k65 : Nat, k65 ≤ (n - 1) ∧ p_J4_init_da8c8 F k65 t61 a61 M61 (fun t65 M65 => (∃ b69 : Nat, xr t65 x0 2 = some b69 ∧ xk t65 b69 = 12 ∧ (∃ k73 : Nat, k73 ≤ ((n - 1) - k65) ∧ PS k73 t65 b69 y0 M65 (fun r73 t73 M73 => (∃ k76 : Nat, k76 ≤ (((n - 1) - k65) - k73) ∧ p_J4_append_15ec4 F G k76 t73 a61 r73 M73 (fun r76 t76 M76 => (((M76 x0 0) ≠ 2 → (((M76 x0 0) ≠ 3 → (((M76 x0 0) ≠ 4 → p_X12_text_120 F G PS Q (((((n - 1) - k65) - k73) - k76)) x0 x1 y0 ((G.2.2.2.1 27)) r76 t76 M76) ∧ ((M76 x0 0) = 4 → p_X12_text_120 F G PS Q (((((n - 1) - k65) - k73) - k76)) x0 x1 y0 ((G.2.2.2.1 26)) r76 t76 M76))) ∧ ((M76 x0 0) = 3 → p_X12_text_120 F G PS Q (((((n - 1) - k65) - k73) - k76)) x0 x1 y0 ((G.2.2.2.1 25)) r76 t76 M76))) ∧ ((M76 x0 0) = 2 → p_X12_text_120 F G PS Q (((((n - 1) - k65) - k73) - k76)) x0 x1 y0 ((G.2.2.2.1 24)) r76 t76 M76))))))))))
def p_X12_text (F : Nat) (G : xGx) (PS : Nat → xTh → Nat → Int → xMe → (Nat → xTh → xMe → Prop) → Prop) (n : Nat) (tE : xTh) (x0 : Nat) (x1 : Int) (ME : xMe) (Q : Nat → xTh → xMe → Prop) : Prop :=
  (((ME x0 0) ≠ 0 → (((ME x0 0) ≠ 1 → ((4 ≤ (ME x0 0) → p_X12_text_60 F G PS Q n x0 x1 2 tE ME) ∧ ((ME x0 0) < 4 → p_X12_text_60 F G PS Q n x0 x1 1 tE ME))) ∧ ((ME x0 0) = 1 → ((0 : Int) ≤ (ME x0 1) ∧ (ME x0 1) < 4) ∧ Q ((G.2.2.2.1 ([9, 1, 10, 11].getD (ME x0 1).toNat 0))) tE ME))) ∧ ((ME x0 0) = 0 → (1 ≤ n) ∧ (∀ (a7 : Nat) (t7 : xTh) (M7 : xMe), a7 = xz tE → t7 = xnw tE 22 0 → M7 = xw0 ME a7 → (∃ k11 : Nat, k11 ≤ (n - 1) ∧ p_J4_init_da8c8 F k11 t7 a7 M7 (fun t11 M11 => (∃ k16 : Nat, k16 ≤ ((n - 1) - k11) ∧ p_J4_append_15ec4 F G k16 t11 a7 ((G.2.2.2.1 23)) M11 (fun r16 t16 M16 => (∃ k23 : Nat, k23 ≤ (((n - 1) - k11) - k16) ∧ p_J4_append_bf812 F k23 t16 r16 (M16 x0 1) M16 (fun r23 t23 M23 => (∃ k26 : Nat, k26 ≤ ((((n - 1) - k11) - k16) - k23) ∧ p_J4_toString_0e30d F k26 t23 r23 M23 (fun r26 t26 M26 => Q r26 t26 M26)))))))))))
set_option maxHeartbeats 8000000 in
set_option maxRecDepth 100000 in
theorem c_X12_text {G : xGx} {tE : xTh} {ME : xMe} {F nE : Nat} {PS : Nat → xTh → Nat → Int → xMe → (Nat → xTh → xMe → Prop) → Prop} {dn : Nat} {x0 : Nat} {x1 : Int} {Q : Nat → xTh → xMe → Prop} (hPS : ∀ (n : Nat) {tE : xTh} {ME : xMe} {x0 : Nat} {x1 : Int} (Q : Nat → xTh → xMe → Prop), xMR ME → xk tE x0 = 12 → xR x1 → PS n tE x0 x1 ME Q → xCt G yX12_text cX12_text 4 (some (.object "java/lang/String")) dn n (64 * n) [vr x0, vi x1] tE ME (fun v t' M' => ∃ r, v = some (vr r) ∧ xMR M' ∧ xke tE t' ∧ Q r t' M') (fun _ _ _ => False)) (hdn : 20 ≤ dn) (hME : xMR ME) (hkx0 : xk tE x0 = 12) (hx1 : xR x1) (hp : p_X12_text F G PS nE tE x0 x1 ME Q) : xCt G yX12_text cX12_text 4 (some (.object "java/lang/String")) (dn + 1) nE (64 * nE) [vr x0, vi x1] tE ME (fun v t' M' => ∃ r, v = some (vr r) ∧ xMR M' ∧ xke tE t' ∧ Q r t' M') (fun _ _ _ => False) := by
  refine xCt_of (L0 := [vr x0, vi x1, vU, vU]) (by decide +kernel) (Nat.le_of_ble_eq_true rfl) rfl ?_
  intro X hX hB
  unfold p_X12_text at hp
  refine xJ_aload_n hX dX12_text_0 rfl ?_
  refine xJ_getI hX dX12_text_1 fd_X12_16 rfl hkx0 ?_
  refine xJ_if_ne hX dX12_text_4 (tgt := 30) (by decide) (hME _ _) (fun c4 => ?_) (fun c4 => ?_)
  · replace hp := hp.1 c4
    refine xJ_aload_n hX dX12_text_30 rfl ?_
    refine xJ_getI hX dX12_text_31 fd_X12_16 rfl hkx0 ?_
    refine xJ_iconst hX dX12_text_34 ?_
    refine xJ_icmp_ne hX dX12_text_35 (tgt := 47) (by decide) (hME _ _) ⟨by decide, by decide⟩ (fun c35 => ?_) (fun c35 => ?_)
    · replace hp := hp.1 c35
      refine xJ_aload_n hX dX12_text_47 rfl ?_
      refine xJ_getI hX dX12_text_48 fd_X12_16 rfl hkx0 ?_
      refine xJ_iconst hX dX12_text_51 ?_
      have l60 : ∀ (c s n : Nat) (x0 : Nat) (x1 : Int) (y0 : Int) (t : xTh) (M : xMe) (hc : c + n ≤ nE) (hs : s + 64 * n ≤ 64 * nE) (hM : xMR M) (hqE : xke tE t) (hkx0 : xk t x0 = 12) (hx1 : xR x1) (hy0 : xR y0) (hp : p_X12_text_60 F G PS Q n x0 x1 y0 t M), xJ X c s t M 60 [vr x0, vi x1, vU, vU] [vi y0] := by
        intro c s n x0 x1 y0 t M hc hs hM hqE hkx0 hx1 hy0 hp
        unfold p_X12_text_60 at hp
        refine xJ_istore_n hX dX12_text_60 (Nat.le_of_ble_eq_true rfl) rfl ?_
        dsimp only [List.set]
        obtain ⟨hn61, hp⟩ := hp
        refine xJ_newE (ci := 22) hX hB hM dX12_text_61 rfl (by decide) ft_J4 uw_J4 kl_X12_34 is_J4 in_J4 rfl (by decide) (by omega) (by omega) (fun a61 t61 M61 ea61 et61 e61 hM61 hq61 hka61 => ?_)
        replace hp := hp a61 t61 M61 ea61 et61 e61
        refine xJ_dup hX dX12_text_64 rfl ?_
        obtain ⟨k65, hn65, hp⟩ := hp
        refine xJ_callI (As := []) hX hB dX12_text_65 lk_X12_36 im_J4_init_da8c8 rfl (c_J4_init_da8c8 hM61 hka61 hp) (by omega) rfl rfl rfl (Nat.le_of_ble_eq_true rfl) (by omega) (by omega) (fun v t65 M65 hv => ?_)
        clear hp
        obtain ⟨rfl, hM65, hq65, hp⟩ := hv
        dsimp only [Option.toList, List.cons_append, List.nil_append]
        refine xJ_aload_n hX dX12_text_68 rfl ?_
        obtain ⟨b69, e69, hkb69, hp⟩ := hp
        refine xJ_getR (b := b69) hX dX12_text_69 fd_X12_27 rfl (xke_k hq65 (xke_k hq61 hkx0 (by decide)) (by decide)) e69 ?_
        refine xJ_iload_n hX dX12_text_72 rfl ?_
        obtain ⟨k73, hn73, hp⟩ := hp
        refine xJ_callV (As := [_]) hX hB dX12_text_73 lk_X12_56 im_X12_text se_X12_text rfl (by decide) hkb69 (hPS _ _ hM65 hkb69 hy0 hp) (by omega) rfl rfl rfl (Nat.le_of_ble_eq_true rfl) (by omega) (by omega) (fun v t73 M73 hv => ?_) (fun _ _ _ q => q.elim)
        clear hp
        obtain ⟨r73, rfl, hM73, hq73, hp⟩ := hv
        dsimp only [Option.toList, List.cons_append, List.nil_append]
        obtain ⟨k76, hn76, hp⟩ := hp
        refine xJ_callV (As := [_]) hX hB dX12_text_76 lk_X12_39 im_J4_append_15ec4 se_J4_append_15ec4 rfl (by decide) (xke_k hq73 (xke_k hq65 hka61 (by decide)) (by decide)) (c_J4_append_15ec4 hM73 (xke_k hq73 (xke_k hq65 hka61 (by decide)) (by decide)) hp) (by omega) rfl rfl rfl (Nat.le_of_ble_eq_true rfl) (by omega) (by omega) (fun v t76 M76 hv => ?_) (fun _ _ _ q => q.elim)
        clear hp
        obtain ⟨r76, rfl, hk76, hM76, hq76, hp⟩ := hv
        dsimp only [Option.toList, List.cons_append, List.nil_append]
        refine xJ_aload_n hX dX12_text_79 rfl ?_
        refine xJ_getI hX dX12_text_80 fd_X12_16 rfl (xke_k hq76 (xke_k hq73 (xke_k hq65 (xke_k hq61 hkx0 (by decide)) (by decide)) (by decide)) (by decide)) ?_
        refine xJ_iconst hX dX12_text_83 ?_
        have l120 : ∀ (c s n : Nat) (x0 : Nat) (x1 : Int) (x2 : Int) (y0 : Nat) (y1 : Nat) (t : xTh) (M : xMe) (hc : c + n ≤ nE) (hs : s + 64 * n ≤ 64 * nE) (hM : xMR M) (hqE : xke tE t) (hkx0 : xk t x0 = 12) (hx1 : xR x1) (hx2 : xR x2) (hky1 : xk t y1 = 22) (hp : p_X12_text_120 F G PS Q n x0 x1 x2 y0 y1 t M), xJ X c s t M 120 [vr x0, vi x1, vi x2, vU] [vr y0, vr y1] := by
          intro c s n x0 x1 x2 y0 y1 t M hc hs hM hqE hkx0 hx1 hx2 hky1 hp
          unfold p_X12_text_120 at hp
          obtain ⟨k120, hn120, hp⟩ := hp
          refine xJ_callV (As := [_]) hX hB dX12_text_120 lk_X12_39 im_J4_append_15ec4 se_J4_append_15ec4 rfl (by decide) hky1 (c_J4_append_15ec4 hM hky1 hp) (by omega) rfl rfl rfl (Nat.le_of_ble_eq_true rfl) (by omega) (by omega) (fun v t120 M120 hv => ?_) (fun _ _ _ q => q.elim)
          clear hp
          obtain ⟨r120, rfl, hk120, hM120, hq120, hp⟩ := hv
          dsimp only [Option.toList, List.cons_append, List.nil_append]
          refine xJ_aload_n hX dX12_text_123 rfl ?_
          obtain ⟨b124, e124, hkb124, hp⟩ := hp
          refine xJ_getR (b := b124) hX dX12_text_124 fd_X12_31 rfl (xke_k hq120 hkx0 (by decide)) e124 ?_
          refine xJ_iload_n hX dX12_text_127 rfl ?_
          refine xJ_iconst hX dX12_text_128 ?_
          refine xJ_iadd hX dX12_text_129 ?_
          obtain ⟨h129, hp⟩ := hp
          obtain ⟨k130, hn130, hp⟩ := hp
          refine xJ_callV (As := [_]) hX hB dX12_text_130 lk_X12_56 im_X12_text se_X12_text rfl (by decide) hkb124 (hPS _ _ hM120 hkb124 h129 hp) (by omega) rfl rfl rfl (Nat.le_of_ble_eq_true rfl) (by omega) (by omega) (fun v t130 M130 hv => ?_) (fun _ _ _ q => q.elim)
          clear hp
          obtain ⟨r130, rfl, hM130, hq130, hp⟩ := hv
          dsimp only [Option.toList, List.cons_append, List.nil_append]
          obtain ⟨k133, hn133, hp⟩ := hp
          refine xJ_callV (As := [_]) hX hB dX12_text_133 lk_X12_39 im_J4_append_15ec4 se_J4_append_15ec4 rfl (by decide) (xke_k hq130 hk120 (by decide)) (c_J4_append_15ec4 hM130 (xke_k hq130 hk120 (by decide)) hp) (by omega) rfl rfl rfl (Nat.le_of_ble_eq_true rfl) (by omega) (by omega) (fun v t133 M133 hv => ?_) (fun _ _ _ q => q.elim)
          clear hp
          obtain ⟨r133, rfl, hk133, hM133, hq133, hp⟩ := hv
          dsimp only [Option.toList, List.cons_append, List.nil_append]
          obtain ⟨k136, hn136, hp⟩ := hp
          refine xJ_callV (As := []) hX hB dX12_text_136 lk_X12_46 im_J4_toString_0e30d se_J4_toString_0e30d rfl (by decide) hk133 (c_J4_toString_0e30d hM133 hk133 hp) (by omega) rfl rfl rfl (Nat.le_of_ble_eq_true rfl) (by omega) (by omega) (fun v t136 M136 hv => ?_) (fun _ _ _ q => q.elim)
          clear hp
          obtain ⟨r136, rfl, hM136, hq136, hp⟩ := hv
          dsimp only [Option.toList, List.cons_append, List.nil_append]
          refine xJ_astore_n hX dX12_text_139 (Nat.le_of_ble_eq_true rfl) rfl ?_
          dsimp only [List.set]
          refine xJ_iload_n hX dX12_text_140 rfl ?_
          refine xJ_iload_n hX dX12_text_141 rfl ?_
          refine xJ_icmp_ge hX dX12_text_142 (tgt := 172) (by decide) hx2 hx1 (fun c142 => ?_) (fun c142 => ?_)
          · replace hp := hp.1 c142
            refine xJ_aload_n hX dX12_text_172 rfl ?_
            exact xJ_aret hX hB dX12_text_173 (Or.inl ⟨_, rfl⟩) (Or.inr ⟨_, rfl⟩) (by omega) (by omega) ⟨_, rfl, hM136, (xke_trans (xke_trans (xke_trans (xke_trans hqE hq120) hq130) hq133) hq136), hp⟩
          · replace hp := hp.2 c142
            obtain ⟨hn145, hp⟩ := hp
            refine xJ_newE (ci := 22) hX hB hM136 dX12_text_145 rfl (by decide) ft_J4 uw_J4 kl_X12_34 is_J4 in_J4 rfl (by decide) (by omega) (by omega) (fun a145 t145 M145 ea145 et145 e145 hM145 hq145 hka145 => ?_)
            replace hp := hp a145 t145 M145 ea145 et145 e145
            refine xJ_dup hX dX12_text_148 rfl ?_
            obtain ⟨k149, hn149, hp⟩ := hp
            refine xJ_callI (As := []) hX hB dX12_text_149 lk_X12_36 im_J4_init_da8c8 rfl (c_J4_init_da8c8 hM145 hka145 hp) (by omega) rfl rfl rfl (Nat.le_of_ble_eq_true rfl) (by omega) (by omega) (fun v t149 M149 hv => ?_)
            clear hp
            obtain ⟨rfl, hM149, hq149, hp⟩ := hv
            dsimp only [Option.toList, List.cons_append, List.nil_append]
            refine xJ_ldcS 28 hX dX12_text_152 (by decide +kernel) ?_
            obtain ⟨k154, hn154, hp⟩ := hp
            refine xJ_callV (As := [_]) hX hB dX12_text_154 lk_X12_39 im_J4_append_15ec4 se_J4_append_15ec4 rfl (by decide) (xke_k hq149 hka145 (by decide)) (c_J4_append_15ec4 hM149 (xke_k hq149 hka145 (by decide)) hp) (by omega) rfl rfl rfl (Nat.le_of_ble_eq_true rfl) (by omega) (by omega) (fun v t154 M154 hv => ?_) (fun _ _ _ q => q.elim)
            clear hp
            obtain ⟨r154, rfl, hk154, hM154, hq154, hp⟩ := hv
            dsimp only [Option.toList, List.cons_append, List.nil_append]
            refine xJ_aload_n hX dX12_text_157 rfl ?_
            obtain ⟨k158, hn158, hp⟩ := hp
            refine xJ_callV (As := [_]) hX hB dX12_text_158 lk_X12_39 im_J4_append_15ec4 se_J4_append_15ec4 rfl (by decide) hk154 (c_J4_append_15ec4 hM154 hk154 hp) (by omega) rfl rfl rfl (Nat.le_of_ble_eq_true rfl) (by omega) (by omega) (fun v t158 M158 hv => ?_) (fun _ _ _ q => q.elim)
            clear hp
            obtain ⟨r158, rfl, hk158, hM158, hq158, hp⟩ := hv
            dsimp only [Option.toList, List.cons_append, List.nil_append]
            refine xJ_ldcS 29 hX dX12_text_161 (by decide +kernel) ?_
            obtain ⟨k163, hn163, hp⟩ := hp
            refine xJ_callV (As := [_]) hX hB dX12_text_163 lk_X12_39 im_J4_append_15ec4 se_J4_append_15ec4 rfl (by decide) hk158 (c_J4_append_15ec4 hM158 hk158 hp) (by omega) rfl rfl rfl (Nat.le_of_ble_eq_true rfl) (by omega) (by omega) (fun v t163 M163 hv => ?_) (fun _ _ _ q => q.elim)
            clear hp
            obtain ⟨r163, rfl, hk163, hM163, hq163, hp⟩ := hv
            dsimp only [Option.toList, List.cons_append, List.nil_append]
            obtain ⟨k166, hn166, hp⟩ := hp
            refine xJ_callV (As := []) hX hB dX12_text_166 lk_X12_46 im_J4_toString_0e30d se_J4_toString_0e30d rfl (by decide) hk163 (c_J4_toString_0e30d hM163 hk163 hp) (by omega) rfl rfl rfl (Nat.le_of_ble_eq_true rfl) (by omega) (by omega) (fun v t166 M166 hv => ?_) (fun _ _ _ q => q.elim)
            clear hp
            obtain ⟨r166, rfl, hM166, hq166, hp⟩ := hv
            dsimp only [Option.toList, List.cons_append, List.nil_append]
            refine xJ_goto hX dX12_text_169 (tgt := 173) (by decide) ?_
            exact xJ_aret hX hB dX12_text_173 (Or.inl ⟨_, rfl⟩) (Or.inr ⟨_, rfl⟩) (by omega) (by omega) ⟨_, rfl, hM166, (xke_trans (xke_trans (xke_trans (xke_trans (xke_trans (xke_trans (xke_trans (xke_trans (xke_trans (xke_trans hqE hq120) hq130) hq133) hq136) hq145) hq149) hq154) hq158) hq163) hq166), hp⟩
        refine xJ_icmp_ne hX dX12_text_84 (tgt := 92) (by decide) (hM76 _ _) ⟨by decide, by decide⟩ (fun c84 => ?_) (fun c84 => ?_)
        · replace hp := hp.1 c84
          refine xJ_aload_n hX dX12_text_92 rfl ?_
          refine xJ_getI hX dX12_text_93 fd_X12_16 rfl (xke_k hq76 (xke_k hq73 (xke_k hq65 (xke_k hq61 hkx0 (by decide)) (by decide)) (by decide)) (by decide)) ?_
          refine xJ_iconst hX dX12_text_96 ?_
          refine xJ_icmp_ne hX dX12_text_97 (tgt := 105) (by decide) (hM76 _ _) ⟨by decide, by decide⟩ (fun c97 => ?_) (fun c97 => ?_)
          · replace hp := hp.1 c97
            refine xJ_aload_n hX dX12_text_105 rfl ?_
            refine xJ_getI hX dX12_text_106 fd_X12_16 rfl (xke_k hq76 (xke_k hq73 (xke_k hq65 (xke_k hq61 hkx0 (by decide)) (by decide)) (by decide)) (by decide)) ?_
            refine xJ_iconst hX dX12_text_109 ?_
            refine xJ_icmp_ne hX dX12_text_110 (tgt := 118) (by decide) (hM76 _ _) ⟨by decide, by decide⟩ (fun c110 => ?_) (fun c110 => ?_)
            · replace hp := hp.1 c110
              refine xJ_ldcS 27 hX dX12_text_118 (by decide +kernel) ?_
              exact l120 _ _ _ _ _ _ _ _ _ _ (by omega) (by omega) hM76 (xke_trans (xke_trans (xke_trans (xke_trans hqE hq61) hq65) hq73) hq76) (xke_k hq76 (xke_k hq73 (xke_k hq65 (xke_k hq61 hkx0 (by decide)) (by decide)) (by decide)) (by decide)) hx1 hy0 hk76 hp
            · replace hp := hp.2 c110
              refine xJ_ldcS 26 hX dX12_text_113 (by decide +kernel) ?_
              refine xJ_goto hX dX12_text_115 (tgt := 120) (by decide) ?_
              exact l120 _ _ _ _ _ _ _ _ _ _ (by omega) (by omega) hM76 (xke_trans (xke_trans (xke_trans (xke_trans hqE hq61) hq65) hq73) hq76) (xke_k hq76 (xke_k hq73 (xke_k hq65 (xke_k hq61 hkx0 (by decide)) (by decide)) (by decide)) (by decide)) hx1 hy0 hk76 hp
          · replace hp := hp.2 c97
            refine xJ_ldcS 25 hX dX12_text_100 (by decide +kernel) ?_
            refine xJ_goto hX dX12_text_102 (tgt := 120) (by decide) ?_
            exact l120 _ _ _ _ _ _ _ _ _ _ (by omega) (by omega) hM76 (xke_trans (xke_trans (xke_trans (xke_trans hqE hq61) hq65) hq73) hq76) (xke_k hq76 (xke_k hq73 (xke_k hq65 (xke_k hq61 hkx0 (by decide)) (by decide)) (by decide)) (by decide)) hx1 hy0 hk76 hp
        · replace hp := hp.2 c84
          refine xJ_ldcS 24 hX dX12_text_87 (by decide +kernel) ?_
          refine xJ_goto hX dX12_text_89 (tgt := 120) (by decide) ?_
          exact l120 _ _ _ _ _ _ _ _ _ _ (by omega) (by omega) hM76 (xke_trans (xke_trans (xke_trans (xke_trans hqE hq61) hq65) hq73) hq76) (xke_k hq76 (xke_k hq73 (xke_k hq65 (xke_k hq61 hkx0 (by decide)) (by decide)) (by decide)) (by decide)) hx1 hy0 hk76 hp
      refine xJ_icmp_ge hX dX12_text_52 (tgt := 59) (by decide) (hME _ _) ⟨by decide, by decide⟩ (fun c52 => ?_) (fun c52 => ?_)
      · replace hp := hp.1 c52
        refine xJ_iconst hX dX12_text_59 ?_
        exact l60 _ _ _ _ _ _ _ _ (by omega) (by omega) hME (xke_refl _) hkx0 hx1 ⟨by decide, by decide⟩ hp
      · replace hp := hp.2 c52
        refine xJ_iconst hX dX12_text_55 ?_
        refine xJ_goto hX dX12_text_56 (tgt := 60) (by decide) ?_
        exact l60 _ _ _ _ _ _ _ _ (by omega) (by omega) hME (xke_refl _) hkx0 hx1 ⟨by decide, by decide⟩ hp
    · replace hp := hp.2 c35
      refine xJ_gvar hX rfl dX12_text_38 ?_
      refine xJ_aload_n hX dX12_text_41 rfl ?_
      refine xJ_getI hX dX12_text_42 fd_X12_20 rfl hkx0 ?_
      obtain ⟨h45, hp⟩ := hp
      refine xJ_vara hX dX12_text_45 h45.1 h45.2 ?_
      exact xJ_aret hX hB dX12_text_46 (Or.inl ⟨_, rfl⟩) (Or.inr ⟨_, rfl⟩) (by omega) (by omega) ⟨_, rfl, hME, (xke_refl _), hp⟩
  · replace hp := hp.2 c4
    obtain ⟨hn7, hp⟩ := hp
    refine xJ_newE (ci := 22) hX hB hME dX12_text_7 rfl (by decide) ft_J4 uw_J4 kl_X12_34 is_J4 in_J4 rfl (by decide) (by omega) (by omega) (fun a7 t7 M7 ea7 et7 e7 hM7 hq7 hka7 => ?_)
    replace hp := hp a7 t7 M7 ea7 et7 e7
    refine xJ_dup hX dX12_text_10 rfl ?_
    obtain ⟨k11, hn11, hp⟩ := hp
    refine xJ_callI (As := []) hX hB dX12_text_11 lk_X12_36 im_J4_init_da8c8 rfl (c_J4_init_da8c8 hM7 hka7 hp) (by omega) rfl rfl rfl (Nat.le_of_ble_eq_true rfl) (by omega) (by omega) (fun v t11 M11 hv => ?_)
    clear hp
    obtain ⟨rfl, hM11, hq11, hp⟩ := hv
    dsimp only [Option.toList, List.cons_append, List.nil_append]
    refine xJ_ldcS 23 hX dX12_text_14 (by decide +kernel) ?_
    obtain ⟨k16, hn16, hp⟩ := hp
    refine xJ_callV (As := [_]) hX hB dX12_text_16 lk_X12_39 im_J4_append_15ec4 se_J4_append_15ec4 rfl (by decide) (xke_k hq11 hka7 (by decide)) (c_J4_append_15ec4 hM11 (xke_k hq11 hka7 (by decide)) hp) (by omega) rfl rfl rfl (Nat.le_of_ble_eq_true rfl) (by omega) (by omega) (fun v t16 M16 hv => ?_) (fun _ _ _ q => q.elim)
    clear hp
    obtain ⟨r16, rfl, hk16, hM16, hq16, hp⟩ := hv
    dsimp only [Option.toList, List.cons_append, List.nil_append]
    refine xJ_aload_n hX dX12_text_19 rfl ?_
    refine xJ_getI hX dX12_text_20 fd_X12_20 rfl (xke_k hq16 (xke_k hq11 (xke_k hq7 hkx0 (by decide)) (by decide)) (by decide)) ?_
    obtain ⟨k23, hn23, hp⟩ := hp
    refine xJ_callV (As := [_]) hX hB dX12_text_23 lk_X12_43 im_J4_append_bf812 se_J4_append_bf812 rfl (by decide) hk16 (c_J4_append_bf812 hM16 hk16 (hM16 _ _) hp) (by omega) rfl rfl rfl (Nat.le_of_ble_eq_true rfl) (by omega) (by omega) (fun v t23 M23 hv => ?_) (fun _ _ _ q => q.elim)
    clear hp
    obtain ⟨r23, rfl, hk23, hM23, hq23, hp⟩ := hv
    dsimp only [Option.toList, List.cons_append, List.nil_append]
    obtain ⟨k26, hn26, hp⟩ := hp
    refine xJ_callV (As := []) hX hB dX12_text_26 lk_X12_46 im_J4_toString_0e30d se_J4_toString_0e30d rfl (by decide) hk23 (c_J4_toString_0e30d hM23 hk23 hp) (by omega) rfl rfl rfl (Nat.le_of_ble_eq_true rfl) (by omega) (by omega) (fun v t26 M26 hv => ?_) (fun _ _ _ q => q.elim)
    clear hp
    obtain ⟨r26, rfl, hM26, hq26, hp⟩ := hv
    dsimp only [Option.toList, List.cons_append, List.nil_append]
    exact xJ_aret hX hB dX12_text_29 (Or.inl ⟨_, rfl⟩) (Or.inr ⟨_, rfl⟩) (by omega) (by omega) ⟨_, rfl, hM26, (xke_trans (xke_trans (xke_trans (xke_trans (xke_trans (xke_refl _) hq7) hq11) hq16) hq23) hq26), hp⟩
def p_X12_textR (F : Nat) (G : xGx) : Nat → Nat → xTh → Nat → Int → xMe → (Nat → xTh → xMe → Prop) → Prop
  | 0, _, _, _, _, _, _ => False
  | k + 1, n, t, x0, x1, M, Q => p_X12_text F G (p_X12_textR F G k) n t x0 x1 M Q
theorem c_X12_textR {G : xGx} {F : Nat} : ∀ (k : Nat) {nE : Nat} {tE : xTh} {ME : xMe} {x0 : Nat} {x1 : Int} {Q : Nat → xTh → xMe → Prop}, xMR ME → xk tE x0 = 12 → xR x1 → p_X12_textR F G k nE tE x0 x1 ME Q → xCt G yX12_text cX12_text 4 (some (.object "java/lang/String")) (k + 20) nE (64 * nE) [vr x0, vi x1] tE ME (fun v t' M' => ∃ r, v = some (vr r) ∧ xMR M' ∧ xke tE t' ∧ Q r t' M') (fun _ _ _ => False)
  | 0 => by intro hM hkx0 hx1 hp; exact hp.elim
  | k + 1 => by
    intro hM hkx0 hx1 hp
    exact c_X12_text (dn := k + 20) (fun n _ _ _ _ Q q1 qhkx0 qhx1 qp => c_X12_textR k q1 qhkx0 qhx1 qp) (by omega) hM hkx0 hx1 hp
