def p_X8_fail (a : Nat) (x1 : Int) (M : xMe) (Q : xMe → Prop) : Prop :=
  (((M a 2) ≠ 0 → Q M) ∧ ((M a 2) = 0 → (∀ M9 : xMe, M9 = xw M a 2 x1 → (∀ M20 : xMe, M20 = xw M9 a 3 (M9 (a + 1) 5) → Q M20))))
set_option maxHeartbeats 4000000 in
set_option maxRecDepth 100000 in
theorem c_X8_fail {G : xGx} {t : xTh} {M : xMe} {a : Nat} {x1 : Int} {Q : xMe → Prop} (hL : oX8 t a) (hM : xMR M) (hx1 : xR x1) (hp : p_X8_fail a x1 M Q) : xCt G yX8_fail cX8_fail 2 none 0 0 0 [vr a, vi x1] t M (fun v t' M' => v = none ∧ xMR M' ∧ t' = t ∧ Q M') (fun _ _ _ => False) := by
  refine xCt_of (L0 := [vr a, vi x1]) (by decide +kernel) (Nat.le_of_ble_eq_true rfl) rfl ?_
  intro X hX hB
  unfold p_X8_fail at hp
  refine xJ_aload_n hX dX8_fail_0 rfl ?_
  refine xJ_getI hX dX8_fail_1 fd_X8_29 rfl (oX8_k hL) ?_
  refine xJ_if_ne hX dX8_fail_4 (tgt := 23) (by decide) (hM _ _) (fun c4 => ?_) (fun c4 => ?_)
  · replace hp := hp.1 c4
    refine xJ_vret hX hB dX8_fail_23 (by decide) (by decide) ⟨rfl, hM, rfl, hp⟩
  · replace hp := hp.2 c4
    refine xJ_aload_n hX dX8_fail_7 rfl ?_
    refine xJ_iload_n hX dX8_fail_8 rfl ?_
    refine xJ_putIM hX dX8_fail_9 fd_X8_29 ft_X8 rfl rfl rfl rfl (oX8_k hL) hM hx1 (fun M9 e9 hM9 => ?_)
    replace hp := hp M9 e9
    refine xJ_aload_n hX dX8_fail_12 rfl ?_
    refine xJ_aload_n hX dX8_fail_13 rfl ?_
    refine xJ_getR (b := (a + 1)) hX dX8_fail_14 fd_X8_12 rfl (oX8_k hL) (oX8_r0 hL) ?_
    refine xJ_getI hX dX8_fail_17 fd_X8_95 rfl (oX9_k (oX8_o0 hL)) ?_
    refine xJ_putIM hX dX8_fail_20 fd_X8_33 ft_X8 rfl rfl rfl rfl (oX8_k hL) hM9 (hM9 _ _) (fun M20 e20 hM20 => ?_)
    replace hp := hp M20 e20
    refine xJ_vret hX hB dX8_fail_23 (by decide) (by decide) ⟨rfl, hM20, rfl, hp⟩
def p_X8_takeSign (F : Nat) (a : Nat) (x1 : Int) (M : xMe) (Q : xMe → Prop) : Prop :=
  (((M (a + 1) 4) = x1 → (((M a 2) ≠ 0 → Q M) ∧ ((M a 2) = 0 → p_X9_moveOn F (a + 1) M (fun M28 => Q M28)))) ∧ ((M (a + 1) 4) ≠ x1 → p_X8_fail a ((-2)) M (fun M14 => (((M14 a 2) ≠ 0 → Q M14) ∧ ((M14 a 2) = 0 → p_X9_moveOn F (a + 1) M14 (fun M28 => Q M28))))))
set_option maxHeartbeats 4000000 in
set_option maxRecDepth 100000 in
theorem c_X8_takeSign {G : xGx} {t : xTh} {M : xMe} {F : Nat} {a : Nat} {x1 : Int} {Q : xMe → Prop} (hL : oX8 t a) (hM : xMR M) (hx1 : xR x1) (hp : p_X8_takeSign F a x1 M Q) : xCt G yX8_takeSign cX8_takeSign 2 none 2 0 0 [vr a, vi x1] t M (fun v t' M' => v = none ∧ xMR M' ∧ t' = t ∧ Q M') (fun _ _ _ => False) := by
  refine xCt_of (L0 := [vr a, vi x1]) (by decide +kernel) (Nat.le_of_ble_eq_true rfl) rfl ?_
  intro X hX hB
  unfold p_X8_takeSign at hp
  refine xJ_aload_n hX dX8_takeSign_0 rfl ?_
  refine xJ_getR (b := (a + 1)) hX dX8_takeSign_1 fd_X8_12 rfl (oX8_k hL) (oX8_r0 hL) ?_
  refine xJ_getI hX dX8_takeSign_4 fd_X8_68 rfl (oX9_k (oX8_o0 hL)) ?_
  refine xJ_iload_n hX dX8_takeSign_7 rfl ?_
  refine xJ_icmp_eq hX dX8_takeSign_8 (tgt := 17) (by decide) (hM _ _) hx1 (fun c8 => ?_) (fun c8 => ?_)
  · replace hp := hp.1 c8
    refine xJ_aload_n hX dX8_takeSign_17 rfl ?_
    refine xJ_getI hX dX8_takeSign_18 fd_X8_29 rfl (oX8_k hL) ?_
    refine xJ_if_ne hX dX8_takeSign_21 (tgt := 31) (by decide) (hM _ _) (fun c21 => ?_) (fun c21 => ?_)
    · replace hp := hp.1 c21
      refine xJ_vret hX hB dX8_takeSign_31 (by decide) (by decide) ⟨rfl, hM, rfl, hp⟩
    · replace hp := hp.2 c21
      refine xJ_aload_n hX dX8_takeSign_24 rfl ?_
      refine xJ_getR (b := (a + 1)) hX dX8_takeSign_25 fd_X8_12 rfl (oX8_k hL) (oX8_r0 hL) ?_
      refine xJ_callV (As := []) hX hB dX8_takeSign_28 lk_X8_59 im_X9_moveOn se_X9_moveOn rfl (by decide) (oX9_k (oX8_o0 hL)) (c_X9_moveOn (oX8_o0 hL) hM hp) (by decide) rfl rfl rfl (Nat.le_of_ble_eq_true rfl) (by decide) (by decide) (fun v t9 M28 hv => ?_) (fun _ _ _ q => q.elim)
      obtain ⟨rfl, hM28, ht9, hp⟩ := hv
      replace ht9 := ht9.symm
      subst ht9
      dsimp only [Option.toList, List.cons_append, List.nil_append]
      refine xJ_vret hX hB dX8_takeSign_31 (by decide) (by decide) ⟨rfl, hM28, rfl, hp⟩
  · replace hp := hp.2 c8
    refine xJ_aload_n hX dX8_takeSign_11 rfl ?_
    refine xJ_bipush hX dX8_takeSign_12 rfl ?_
    refine xJ_callV (As := [_]) hX hB dX8_takeSign_14 lk_X8_65 im_X8_fail se_X8_fail rfl (by decide) (oX8_k hL) (c_X8_fail hL hM ⟨by decide, by decide⟩ hp) (by decide) rfl rfl rfl (Nat.le_of_ble_eq_true rfl) (by decide) (by decide) (fun v t9 M14 hv => ?_) (fun _ _ _ q => q.elim)
    obtain ⟨rfl, hM14, ht9, hp⟩ := hv
    replace ht9 := ht9.symm
    subst ht9
    dsimp only [Option.toList, List.cons_append, List.nil_append]
    refine xJ_aload_n hX dX8_takeSign_17 rfl ?_
    refine xJ_getI hX dX8_takeSign_18 fd_X8_29 rfl (oX8_k hL) ?_
    refine xJ_if_ne hX dX8_takeSign_21 (tgt := 31) (by decide) (hM14 _ _) (fun c21 => ?_) (fun c21 => ?_)
    · replace hp := hp.1 c21
      refine xJ_vret hX hB dX8_takeSign_31 (by decide) (by decide) ⟨rfl, hM14, rfl, hp⟩
    · replace hp := hp.2 c21
      refine xJ_aload_n hX dX8_takeSign_24 rfl ?_
      refine xJ_getR (b := (a + 1)) hX dX8_takeSign_25 fd_X8_12 rfl (oX8_k hL) (oX8_r0 hL) ?_
      refine xJ_callV (As := []) hX hB dX8_takeSign_28 lk_X8_59 im_X9_moveOn se_X9_moveOn rfl (by decide) (oX9_k (oX8_o0 hL)) (c_X9_moveOn (oX8_o0 hL) hM14 hp) (by decide) rfl rfl rfl (Nat.le_of_ble_eq_true rfl) (by decide) (by decide) (fun v t9 M28 hv => ?_) (fun _ _ _ q => q.elim)
      obtain ⟨rfl, hM28, ht9, hp⟩ := hv
      replace ht9 := ht9.symm
      subst ht9
      dsimp only [Option.toList, List.cons_append, List.nil_append]
      refine xJ_vret hX hB dX8_takeSign_31 (by decide) (by decide) ⟨rfl, hM28, rfl, hp⟩
def p_X8_numberStands (a : Nat) (x1 : Int) (x2 : Int) (M : xMe) (Q : Int → xMe → Prop) : Prop :=
  (((M (a + 1) 4) = 257 → (((M (a + 1) 6) < x1 → p_X8_fail a ((-3)) M (fun M47 => (((M47 a 2) ≠ 0 → Q 0 M47) ∧ ((M47 a 2) = 0 → Q 1 M47)))) ∧ (x1 ≤ (M (a + 1) 6) → (((M (a + 1) 6) ≤ x2 → (((M a 2) ≠ 0 → Q 0 M) ∧ ((M a 2) = 0 → Q 1 M))) ∧ (x2 < (M (a + 1) 6) → p_X8_fail a ((-3)) M (fun M47 => (((M47 a 2) ≠ 0 → Q 0 M47) ∧ ((M47 a 2) = 0 → Q 1 M47)))))))) ∧ ((M (a + 1) 4) ≠ 257 → p_X8_fail a ((-2)) M (fun M16 => (((M16 a 2) ≠ 0 → Q 0 M16) ∧ ((M16 a 2) = 0 → Q 1 M16)))))
set_option maxHeartbeats 4000000 in
set_option maxRecDepth 100000 in
theorem c_X8_numberStands {G : xGx} {t : xTh} {M : xMe} {a : Nat} {x1 : Int} {x2 : Int} {Q : Int → xMe → Prop} (hL : oX8 t a) (hM : xMR M) (hx1 : xR x1) (hx2 : xR x2) (hp : p_X8_numberStands a x1 x2 M Q) : xCt G yX8_numberStands cX8_numberStands 3 (some .boolean) 1 0 0 [vr a, vi x1, vi x2] t M (fun v t' M' => ∃ r, v = some (vi r) ∧ xR r ∧ xMR M' ∧ t' = t ∧ Q r M') (fun _ _ _ => False) := by
  refine xCt_of (L0 := [vr a, vi x1, vi x2]) (by decide +kernel) (Nat.le_of_ble_eq_true rfl) rfl ?_
  intro X hX hB
  unfold p_X8_numberStands at hp
  refine xJ_aload_n hX dX8_numberStands_0 rfl ?_
  refine xJ_getR (b := (a + 1)) hX dX8_numberStands_1 fd_X8_12 rfl (oX8_k hL) (oX8_r0 hL) ?_
  refine xJ_getI hX dX8_numberStands_4 fd_X8_68 rfl (oX9_k (oX8_o0 hL)) ?_
  refine xJ_sipush hX dX8_numberStands_7 rfl ?_
  refine xJ_icmp_eq hX dX8_numberStands_10 (tgt := 22) (by decide) (hM _ _) ⟨by decide, by decide⟩ (fun c10 => ?_) (fun c10 => ?_)
  · replace hp := hp.1 c10
    refine xJ_aload_n hX dX8_numberStands_22 rfl ?_
    refine xJ_getR (b := (a + 1)) hX dX8_numberStands_23 fd_X8_12 rfl (oX8_k hL) (oX8_r0 hL) ?_
    refine xJ_getI hX dX8_numberStands_26 fd_X8_98 rfl (oX9_k (oX8_o0 hL)) ?_
    refine xJ_iload_n hX dX8_numberStands_29 rfl ?_
    refine xJ_icmp_lt hX dX8_numberStands_30 (tgt := 44) (by decide) (hM _ _) hx1 (fun c30 => ?_) (fun c30 => ?_)
    · replace hp := hp.1 c30
      refine xJ_aload_n hX dX8_numberStands_44 rfl ?_
      refine xJ_bipush hX dX8_numberStands_45 rfl ?_
      refine xJ_callV (As := [_]) hX hB dX8_numberStands_47 lk_X8_65 im_X8_fail se_X8_fail rfl (by decide) (oX8_k hL) (c_X8_fail hL hM ⟨by decide, by decide⟩ hp) (by decide) rfl rfl rfl (Nat.le_of_ble_eq_true rfl) (by decide) (by decide) (fun v t9 M47 hv => ?_) (fun _ _ _ q => q.elim)
      obtain ⟨rfl, hM47, ht9, hp⟩ := hv
      replace ht9 := ht9.symm
      subst ht9
      dsimp only [Option.toList, List.cons_append, List.nil_append]
      refine xJ_aload_n hX dX8_numberStands_50 rfl ?_
      refine xJ_getI hX dX8_numberStands_51 fd_X8_29 rfl (oX8_k hL) ?_
      refine xJ_if_ne hX dX8_numberStands_54 (tgt := 61) (by decide) (hM47 _ _) (fun c54 => ?_) (fun c54 => ?_)
      · replace hp := hp.1 c54
        refine xJ_iconst hX dX8_numberStands_61 ?_
        refine xJ_zret hX hB dX8_numberStands_62 rfl (by decide) (by decide) ⟨_, rfl, ⟨by decide, by decide⟩, hM47, rfl, hp⟩
      · replace hp := hp.2 c54
        refine xJ_iconst hX dX8_numberStands_57 ?_
        refine xJ_goto hX dX8_numberStands_58 (tgt := 62) (by decide) ?_
        refine xJ_zret hX hB dX8_numberStands_62 rfl (by decide) (by decide) ⟨_, rfl, ⟨by decide, by decide⟩, hM47, rfl, hp⟩
    · replace hp := hp.2 c30
      refine xJ_aload_n hX dX8_numberStands_33 rfl ?_
      refine xJ_getR (b := (a + 1)) hX dX8_numberStands_34 fd_X8_12 rfl (oX8_k hL) (oX8_r0 hL) ?_
      refine xJ_getI hX dX8_numberStands_37 fd_X8_98 rfl (oX9_k (oX8_o0 hL)) ?_
      refine xJ_iload_n hX dX8_numberStands_40 rfl ?_
      refine xJ_icmp_le hX dX8_numberStands_41 (tgt := 50) (by decide) (hM _ _) hx2 (fun c41 => ?_) (fun c41 => ?_)
      · replace hp := hp.1 c41
        refine xJ_aload_n hX dX8_numberStands_50 rfl ?_
        refine xJ_getI hX dX8_numberStands_51 fd_X8_29 rfl (oX8_k hL) ?_
        refine xJ_if_ne hX dX8_numberStands_54 (tgt := 61) (by decide) (hM _ _) (fun c54 => ?_) (fun c54 => ?_)
        · replace hp := hp.1 c54
          refine xJ_iconst hX dX8_numberStands_61 ?_
          refine xJ_zret hX hB dX8_numberStands_62 rfl (by decide) (by decide) ⟨_, rfl, ⟨by decide, by decide⟩, hM, rfl, hp⟩
        · replace hp := hp.2 c54
          refine xJ_iconst hX dX8_numberStands_57 ?_
          refine xJ_goto hX dX8_numberStands_58 (tgt := 62) (by decide) ?_
          refine xJ_zret hX hB dX8_numberStands_62 rfl (by decide) (by decide) ⟨_, rfl, ⟨by decide, by decide⟩, hM, rfl, hp⟩
      · replace hp := hp.2 c41
        refine xJ_aload_n hX dX8_numberStands_44 rfl ?_
        refine xJ_bipush hX dX8_numberStands_45 rfl ?_
        refine xJ_callV (As := [_]) hX hB dX8_numberStands_47 lk_X8_65 im_X8_fail se_X8_fail rfl (by decide) (oX8_k hL) (c_X8_fail hL hM ⟨by decide, by decide⟩ hp) (by decide) rfl rfl rfl (Nat.le_of_ble_eq_true rfl) (by decide) (by decide) (fun v t9 M47 hv => ?_) (fun _ _ _ q => q.elim)
        obtain ⟨rfl, hM47, ht9, hp⟩ := hv
        replace ht9 := ht9.symm
        subst ht9
        dsimp only [Option.toList, List.cons_append, List.nil_append]
        refine xJ_aload_n hX dX8_numberStands_50 rfl ?_
        refine xJ_getI hX dX8_numberStands_51 fd_X8_29 rfl (oX8_k hL) ?_
        refine xJ_if_ne hX dX8_numberStands_54 (tgt := 61) (by decide) (hM47 _ _) (fun c54 => ?_) (fun c54 => ?_)
        · replace hp := hp.1 c54
          refine xJ_iconst hX dX8_numberStands_61 ?_
          refine xJ_zret hX hB dX8_numberStands_62 rfl (by decide) (by decide) ⟨_, rfl, ⟨by decide, by decide⟩, hM47, rfl, hp⟩
        · replace hp := hp.2 c54
          refine xJ_iconst hX dX8_numberStands_57 ?_
          refine xJ_goto hX dX8_numberStands_58 (tgt := 62) (by decide) ?_
          refine xJ_zret hX hB dX8_numberStands_62 rfl (by decide) (by decide) ⟨_, rfl, ⟨by decide, by decide⟩, hM47, rfl, hp⟩
  · replace hp := hp.2 c10
    refine xJ_aload_n hX dX8_numberStands_13 rfl ?_
    refine xJ_bipush hX dX8_numberStands_14 rfl ?_
    refine xJ_callV (As := [_]) hX hB dX8_numberStands_16 lk_X8_65 im_X8_fail se_X8_fail rfl (by decide) (oX8_k hL) (c_X8_fail hL hM ⟨by decide, by decide⟩ hp) (by decide) rfl rfl rfl (Nat.le_of_ble_eq_true rfl) (by decide) (by decide) (fun v t9 M16 hv => ?_) (fun _ _ _ q => q.elim)
    obtain ⟨rfl, hM16, ht9, hp⟩ := hv
    replace ht9 := ht9.symm
    subst ht9
    dsimp only [Option.toList, List.cons_append, List.nil_append]
    refine xJ_goto hX dX8_numberStands_19 (tgt := 50) (by decide) ?_
    refine xJ_aload_n hX dX8_numberStands_50 rfl ?_
    refine xJ_getI hX dX8_numberStands_51 fd_X8_29 rfl (oX8_k hL) ?_
    refine xJ_if_ne hX dX8_numberStands_54 (tgt := 61) (by decide) (hM16 _ _) (fun c54 => ?_) (fun c54 => ?_)
    · replace hp := hp.1 c54
      refine xJ_iconst hX dX8_numberStands_61 ?_
      refine xJ_zret hX hB dX8_numberStands_62 rfl (by decide) (by decide) ⟨_, rfl, ⟨by decide, by decide⟩, hM16, rfl, hp⟩
    · replace hp := hp.2 c54
      refine xJ_iconst hX dX8_numberStands_57 ?_
      refine xJ_goto hX dX8_numberStands_58 (tgt := 62) (by decide) ?_
      refine xJ_zret hX hB dX8_numberStands_62 rfl (by decide) (by decide) ⟨_, rfl, ⟨by decide, by decide⟩, hM16, rfl, hp⟩
def p_X8_takeNumber (F : Nat) (a : Nat) (x1 : Int) (x2 : Int) (M : xMe) (Q : Int → xMe → Prop) : Prop :=
  p_X8_numberStands a x1 x2 M (fun r3 M3 => ((r3 ≠ 0 → (∀ z18 : Int, z18 = M3 (a + 1) 6 → p_X9_moveOn F (a + 1) M3 (fun M23 => Q z18 M23))) ∧ (r3 = 0 → Q ((-1)) M3)))
set_option maxHeartbeats 4000000 in
set_option maxRecDepth 100000 in
theorem c_X8_takeNumber {G : xGx} {t : xTh} {M : xMe} {F : Nat} {a : Nat} {x1 : Int} {x2 : Int} {Q : Int → xMe → Prop} (hL : oX8 t a) (hM : xMR M) (hx1 : xR x1) (hx2 : xR x2) (hp : p_X8_takeNumber F a x1 x2 M Q) : xCt G yX8_takeNumber cX8_takeNumber 4 (some .int) 2 0 0 [vr a, vi x1, vi x2] t M (fun v t' M' => ∃ r, v = some (vi r) ∧ xR r ∧ xMR M' ∧ t' = t ∧ Q r M') (fun _ _ _ => False) := by
  refine xCt_of (L0 := [vr a, vi x1, vi x2, vU]) (by decide +kernel) (Nat.le_of_ble_eq_true rfl) rfl ?_
  intro X hX hB
  unfold p_X8_takeNumber at hp
  refine xJ_aload_n hX dX8_takeNumber_0 rfl ?_
  refine xJ_iload_n hX dX8_takeNumber_1 rfl ?_
  refine xJ_iload_n hX dX8_takeNumber_2 rfl ?_
  refine xJ_callV (As := [_, _]) hX hB dX8_takeNumber_3 lk_X8_101 im_X8_numberStands se_X8_numberStands rfl (by decide) (oX8_k hL) (c_X8_numberStands hL hM hx1 hx2 hp) (by decide) rfl rfl rfl (Nat.le_of_ble_eq_true rfl) (by decide) (by decide) (fun v t9 M3 hv => ?_) (fun _ _ _ q => q.elim)
  obtain ⟨r3, rfl, h3, hM3, ht9, hp⟩ := hv
  replace ht9 := ht9.symm
  subst ht9
  dsimp only [Option.toList, List.cons_append, List.nil_append]
  refine xJ_if_ne hX dX8_takeNumber_6 (tgt := 11) (by decide) h3 (fun c6 => ?_) (fun c6 => ?_)
  · replace hp := hp.1 c6
    refine xJ_aload_n hX dX8_takeNumber_11 rfl ?_
    refine xJ_getR (b := (a + 1)) hX dX8_takeNumber_12 fd_X8_12 rfl (oX8_k hL) (oX8_r0 hL) ?_
    refine xJ_getI hX dX8_takeNumber_15 fd_X8_98 rfl (oX9_k (oX8_o0 hL)) ?_
    refine xJ_istore_n hX dX8_takeNumber_18 (Nat.le_of_ble_eq_true rfl) rfl ?_
    dsimp only [List.set]
    replace hp := hp _ rfl
    refine xJ_aload_n hX dX8_takeNumber_19 rfl ?_
    refine xJ_getR (b := (a + 1)) hX dX8_takeNumber_20 fd_X8_12 rfl (oX8_k hL) (oX8_r0 hL) ?_
    refine xJ_callV (As := []) hX hB dX8_takeNumber_23 lk_X8_59 im_X9_moveOn se_X9_moveOn rfl (by decide) (oX9_k (oX8_o0 hL)) (c_X9_moveOn (oX8_o0 hL) hM3 hp) (by decide) rfl rfl rfl (Nat.le_of_ble_eq_true rfl) (by decide) (by decide) (fun v t9 M23 hv => ?_) (fun _ _ _ q => q.elim)
    obtain ⟨rfl, hM23, ht9, hp⟩ := hv
    replace ht9 := ht9.symm
    subst ht9
    dsimp only [Option.toList, List.cons_append, List.nil_append]
    refine xJ_iload_n hX dX8_takeNumber_26 rfl ?_
    refine xJ_iret hX hB dX8_takeNumber_27 (by decide) (by decide) ⟨_, rfl, (hM3 _ _), hM23, rfl, hp⟩
  · replace hp := hp.2 c6
    refine xJ_iconst hX dX8_takeNumber_9 ?_
    refine xJ_iret hX hB dX8_takeNumber_10 (by decide) (by decide) ⟨_, rfl, ⟨by decide, by decide⟩, hM3, rfl, hp⟩
def p_X8_takeCounted (F : Nat) (a : Nat) (x1 : Int) (x2 : Int) (M : xMe) (Q : xMe → Prop) : Prop :=
  ((x1 < x2 → p_X9_moveOn F (a + 1) M (fun M18 => Q M18)) ∧ (x2 ≤ x1 → p_X8_fail a ((-5)) M (fun M8 => Q M8)))
set_option maxHeartbeats 4000000 in
set_option maxRecDepth 100000 in
theorem c_X8_takeCounted {G : xGx} {t : xTh} {M : xMe} {F : Nat} {a : Nat} {x1 : Int} {x2 : Int} {Q : xMe → Prop} (hL : oX8 t a) (hM : xMR M) (hx1 : xR x1) (hx2 : xR x2) (hp : p_X8_takeCounted F a x1 x2 M Q) : xCt G yX8_takeCounted cX8_takeCounted 3 none 2 0 0 [vr a, vi x1, vi x2] t M (fun v t' M' => v = none ∧ xMR M' ∧ t' = t ∧ Q M') (fun _ _ _ => False) := by
  refine xCt_of (L0 := [vr a, vi x1, vi x2]) (by decide +kernel) (Nat.le_of_ble_eq_true rfl) rfl ?_
  intro X hX hB
  unfold p_X8_takeCounted at hp
  refine xJ_iload_n hX dX8_takeCounted_0 rfl ?_
  refine xJ_iload_n hX dX8_takeCounted_1 rfl ?_
  refine xJ_icmp_lt hX dX8_takeCounted_2 (tgt := 14) (by decide) hx1 hx2 (fun c2 => ?_) (fun c2 => ?_)
  · replace hp := hp.1 c2
    refine xJ_aload_n hX dX8_takeCounted_14 rfl ?_
    refine xJ_getR (b := (a + 1)) hX dX8_takeCounted_15 fd_X8_12 rfl (oX8_k hL) (oX8_r0 hL) ?_
    refine xJ_callV (As := []) hX hB dX8_takeCounted_18 lk_X8_59 im_X9_moveOn se_X9_moveOn rfl (by decide) (oX9_k (oX8_o0 hL)) (c_X9_moveOn (oX8_o0 hL) hM hp) (by decide) rfl rfl rfl (Nat.le_of_ble_eq_true rfl) (by decide) (by decide) (fun v t9 M18 hv => ?_) (fun _ _ _ q => q.elim)
    obtain ⟨rfl, hM18, ht9, hp⟩ := hv
    replace ht9 := ht9.symm
    subst ht9
    dsimp only [Option.toList, List.cons_append, List.nil_append]
    refine xJ_vret hX hB dX8_takeCounted_21 (by decide) (by decide) ⟨rfl, hM18, rfl, hp⟩
  · replace hp := hp.2 c2
    refine xJ_aload_n hX dX8_takeCounted_5 rfl ?_
    refine xJ_bipush hX dX8_takeCounted_6 rfl ?_
    refine xJ_callV (As := [_]) hX hB dX8_takeCounted_8 lk_X8_65 im_X8_fail se_X8_fail rfl (by decide) (oX8_k hL) (c_X8_fail hL hM ⟨by decide, by decide⟩ hp) (by decide) rfl rfl rfl (Nat.le_of_ble_eq_true rfl) (by decide) (by decide) (fun v t9 M8 hv => ?_) (fun _ _ _ q => q.elim)
    obtain ⟨rfl, hM8, ht9, hp⟩ := hv
    replace ht9 := ht9.symm
    subst ht9
    dsimp only [Option.toList, List.cons_append, List.nil_append]
    refine xJ_goto hX dX8_takeCounted_11 (tgt := 21) (by decide) ?_
    refine xJ_vret hX hB dX8_takeCounted_21 (by decide) (by decide) ⟨rfl, hM8, rfl, hp⟩
def p_X8_readGate (F : Nat) (a : Nat) (M : xMe) (Q : xMe → Prop) : Prop :=
  p_X8_takeCounted F a (M (a + 4) 3) 6 M (fun M13 => p_X8_takeNumber F a 0 99 M13 (fun r20 M20 => p_X8_takeNumber F a 1 999 M20 (fun r29 M29 => p_X8_takeNumber F a 1 20 M29 (fun r37 M37 => (((M37 a 2) ≠ 0 → Q M37) ∧ ((M37 a 2) = 0 → p_X2_add (a + 4) r20 r29 r37 M37 (fun M58 => Q M58)))))))
set_option maxHeartbeats 4000000 in
set_option maxRecDepth 100000 in
theorem c_X8_readGate {G : xGx} {t : xTh} {M : xMe} {F : Nat} {a : Nat} {Q : xMe → Prop} (hL : oX8 t a) (hM : xMR M)(hp : p_X8_readGate F a M Q) : xCt G yX8_readGate cX8_readGate 4 none 3 0 0 [vr a] t M (fun v t' M' => v = none ∧ xMR M' ∧ t' = t ∧ Q M') (fun _ _ _ => False) := by
  refine xCt_of (L0 := [vr a, vU, vU, vU]) (by decide +kernel) (Nat.le_of_ble_eq_true rfl) rfl ?_
  intro X hX hB
  unfold p_X8_readGate at hp
  refine xJ_aload_n hX dX8_readGate_0 rfl ?_
  refine xJ_aload_n hX dX8_readGate_1 rfl ?_
  refine xJ_getR (b := (a + 3)) hX dX8_readGate_2 fd_X8_21 rfl (oX8_k hL) (oX8_r1 hL) ?_
  refine xJ_getR (b := (a + 4)) hX dX8_readGate_5 fd_X8_145 rfl (oX10_k (oX8_o1 hL)) (oX10_r0 (oX8_o1 hL)) ?_
  refine xJ_getI hX dX8_readGate_8 fd_X8_149 rfl (oX2_k (oX10_o0 (oX8_o1 hL))) ?_
  refine xJ_bipush hX dX8_readGate_11 rfl ?_
  refine xJ_callV (As := [_, _]) hX hB dX8_readGate_13 lk_X8_154 im_X8_takeCounted se_X8_takeCounted rfl (by decide) (oX8_k hL) (c_X8_takeCounted hL hM (hM _ _) ⟨by decide, by decide⟩ hp) (by decide) rfl rfl rfl (Nat.le_of_ble_eq_true rfl) (by decide) (by decide) (fun v t9 M13 hv => ?_) (fun _ _ _ q => q.elim)
  obtain ⟨rfl, hM13, ht9, hp⟩ := hv
  replace ht9 := ht9.symm
  subst ht9
  dsimp only [Option.toList, List.cons_append, List.nil_append]
  refine xJ_aload_n hX dX8_readGate_16 rfl ?_
  refine xJ_iconst hX dX8_readGate_17 ?_
  refine xJ_bipush hX dX8_readGate_18 rfl ?_
  refine xJ_callV (As := [_, _]) hX hB dX8_readGate_20 lk_X8_127 im_X8_takeNumber se_X8_takeNumber rfl (by decide) (oX8_k hL) (c_X8_takeNumber hL hM13 ⟨by decide, by decide⟩ ⟨by decide, by decide⟩ hp) (by decide) rfl rfl rfl (Nat.le_of_ble_eq_true rfl) (by decide) (by decide) (fun v t9 M20 hv => ?_) (fun _ _ _ q => q.elim)
  obtain ⟨r20, rfl, h20, hM20, ht9, hp⟩ := hv
  replace ht9 := ht9.symm
  subst ht9
  dsimp only [Option.toList, List.cons_append, List.nil_append]
  refine xJ_istore_n hX dX8_readGate_23 (Nat.le_of_ble_eq_true rfl) rfl ?_
  dsimp only [List.set]
  refine xJ_aload_n hX dX8_readGate_24 rfl ?_
  refine xJ_iconst hX dX8_readGate_25 ?_
  refine xJ_sipush hX dX8_readGate_26 rfl ?_
  refine xJ_callV (As := [_, _]) hX hB dX8_readGate_29 lk_X8_127 im_X8_takeNumber se_X8_takeNumber rfl (by decide) (oX8_k hL) (c_X8_takeNumber hL hM20 ⟨by decide, by decide⟩ ⟨by decide, by decide⟩ hp) (by decide) rfl rfl rfl (Nat.le_of_ble_eq_true rfl) (by decide) (by decide) (fun v t9 M29 hv => ?_) (fun _ _ _ q => q.elim)
  obtain ⟨r29, rfl, h29, hM29, ht9, hp⟩ := hv
  replace ht9 := ht9.symm
  subst ht9
  dsimp only [Option.toList, List.cons_append, List.nil_append]
  refine xJ_istore_n hX dX8_readGate_32 (Nat.le_of_ble_eq_true rfl) rfl ?_
  dsimp only [List.set]
  refine xJ_aload_n hX dX8_readGate_33 rfl ?_
  refine xJ_iconst hX dX8_readGate_34 ?_
  refine xJ_bipush hX dX8_readGate_35 rfl ?_
  refine xJ_callV (As := [_, _]) hX hB dX8_readGate_37 lk_X8_127 im_X8_takeNumber se_X8_takeNumber rfl (by decide) (oX8_k hL) (c_X8_takeNumber hL hM29 ⟨by decide, by decide⟩ ⟨by decide, by decide⟩ hp) (by decide) rfl rfl rfl (Nat.le_of_ble_eq_true rfl) (by decide) (by decide) (fun v t9 M37 hv => ?_) (fun _ _ _ q => q.elim)
  obtain ⟨r37, rfl, h37, hM37, ht9, hp⟩ := hv
  replace ht9 := ht9.symm
  subst ht9
  dsimp only [Option.toList, List.cons_append, List.nil_append]
  refine xJ_istore_n hX dX8_readGate_40 (Nat.le_of_ble_eq_true rfl) rfl ?_
  dsimp only [List.set]
  refine xJ_aload_n hX dX8_readGate_41 rfl ?_
  refine xJ_getI hX dX8_readGate_42 fd_X8_29 rfl (oX8_k hL) ?_
  refine xJ_if_ne hX dX8_readGate_45 (tgt := 61) (by decide) (hM37 _ _) (fun c45 => ?_) (fun c45 => ?_)
  · replace hp := hp.1 c45
    refine xJ_vret hX hB dX8_readGate_61 (by decide) (by decide) ⟨rfl, hM37, rfl, hp⟩
  · replace hp := hp.2 c45
    refine xJ_aload_n hX dX8_readGate_48 rfl ?_
    refine xJ_getR (b := (a + 3)) hX dX8_readGate_49 fd_X8_21 rfl (oX8_k hL) (oX8_r1 hL) ?_
    refine xJ_getR (b := (a + 4)) hX dX8_readGate_52 fd_X8_145 rfl (oX10_k (oX8_o1 hL)) (oX10_r0 (oX8_o1 hL)) ?_
    refine xJ_iload_n hX dX8_readGate_55 rfl ?_
    refine xJ_iload_n hX dX8_readGate_56 rfl ?_
    refine xJ_iload_n hX dX8_readGate_57 rfl ?_
    refine xJ_callV (As := [_, _, _]) hX hB dX8_readGate_58 lk_X8_158 im_X2_add se_X2_add rfl (by decide) (oX2_k (oX10_o0 (oX8_o1 hL))) (c_X2_add (oX10_o0 (oX8_o1 hL)) hM37 h20 h29 h37 hp) (by decide) rfl rfl rfl (Nat.le_of_ble_eq_true rfl) (by decide) (by decide) (fun v t9 M58 hv => ?_) (fun _ _ _ q => q.elim)
    obtain ⟨rfl, hM58, ht9, hp⟩ := hv
    replace ht9 := ht9.symm
    subst ht9
    dsimp only [Option.toList, List.cons_append, List.nil_append]
    refine xJ_vret hX hB dX8_readGate_61 (by decide) (by decide) ⟨rfl, hM58, rfl, hp⟩
def p_X8_readPlace (F : Nat) (a : Nat) (x1 : Int) (M : xMe) (Q : xMe → Prop) : Prop :=
  (xR ((M (a + 4) 3) - 1)) ∧ p_X8_numberStands a 0 ((M (a + 4) 3) - 1) M (fun r14 M14 => ((r14 ≠ 0 → p_X1_openRouteHas F (a + 8) (M14 (a + 1) 6) M14 (fun r35 M35 => ((r35 = 0 → ((x1 < 4 → p_X1_addPlace (a + 8) (M35 (a + 1) 6) M35 (fun M78 => p_X9_moveOn F (a + 1) M78 (fun M85 => Q M85))) ∧ (4 ≤ x1 → p_X8_fail a ((-5)) M35 (fun M58 => Q M58)))) ∧ (r35 ≠ 0 → p_X8_fail a ((-4)) M35 (fun M44 => Q M44))))) ∧ (r14 = 0 → Q M14)))
set_option maxHeartbeats 4000000 in
set_option maxRecDepth 100000 in
theorem c_X8_readPlace {G : xGx} {t : xTh} {M : xMe} {F : Nat} {a : Nat} {x1 : Int} {Q : xMe → Prop} (hL : oX8 t a) (hM : xMR M) (hx1 : xR x1) (hp : p_X8_readPlace F a x1 M Q) : xCt G yX8_readPlace cX8_readPlace 2 none 2 0 0 [vr a, vi x1] t M (fun v t' M' => v = none ∧ xMR M' ∧ t' = t ∧ Q M') (fun _ _ _ => False) := by
  refine xCt_of (L0 := [vr a, vi x1]) (by decide +kernel) (Nat.le_of_ble_eq_true rfl) rfl ?_
  intro X hX hB
  unfold p_X8_readPlace at hp
  refine xJ_aload_n hX dX8_readPlace_0 rfl ?_
  refine xJ_iconst hX dX8_readPlace_1 ?_
  refine xJ_aload_n hX dX8_readPlace_2 rfl ?_
  refine xJ_getR (b := (a + 3)) hX dX8_readPlace_3 fd_X8_21 rfl (oX8_k hL) (oX8_r1 hL) ?_
  refine xJ_getR (b := (a + 4)) hX dX8_readPlace_6 fd_X8_145 rfl (oX10_k (oX8_o1 hL)) (oX10_r0 (oX8_o1 hL)) ?_
  refine xJ_getI hX dX8_readPlace_9 fd_X8_149 rfl (oX2_k (oX10_o0 (oX8_o1 hL))) ?_
  refine xJ_iconst hX dX8_readPlace_12 ?_
  refine xJ_isub hX dX8_readPlace_13 ?_
  obtain ⟨h13, hp⟩ := hp
  refine xJ_callV (As := [_, _]) hX hB dX8_readPlace_14 lk_X8_101 im_X8_numberStands se_X8_numberStands rfl (by decide) (oX8_k hL) (c_X8_numberStands hL hM ⟨by decide, by decide⟩ h13 hp) (by decide) rfl rfl rfl (Nat.le_of_ble_eq_true rfl) (by decide) (by decide) (fun v t9 M14 hv => ?_) (fun _ _ _ q => q.elim)
  obtain ⟨r14, rfl, h14, hM14, ht9, hp⟩ := hv
  replace ht9 := ht9.symm
  subst ht9
  dsimp only [Option.toList, List.cons_append, List.nil_append]
  refine xJ_if_ne hX dX8_readPlace_17 (tgt := 21) (by decide) h14 (fun c17 => ?_) (fun c17 => ?_)
  · replace hp := hp.1 c17
    refine xJ_aload_n hX dX8_readPlace_21 rfl ?_
    refine xJ_getR (b := (a + 3)) hX dX8_readPlace_22 fd_X8_21 rfl (oX8_k hL) (oX8_r1 hL) ?_
    refine xJ_getR (b := (a + 8)) hX dX8_readPlace_25 fd_X8_162 rfl (oX10_k (oX8_o1 hL)) (oX10_r1 (oX8_o1 hL)) ?_
    refine xJ_aload_n hX dX8_readPlace_28 rfl ?_
    refine xJ_getR (b := (a + 1)) hX dX8_readPlace_29 fd_X8_12 rfl (oX8_k hL) (oX8_r0 hL) ?_
    refine xJ_getI hX dX8_readPlace_32 fd_X8_98 rfl (oX9_k (oX8_o0 hL)) ?_
    refine xJ_callV (As := [_]) hX hB dX8_readPlace_35 lk_X8_179 im_X1_openRouteHas se_X1_openRouteHas rfl (by decide) (oX1_k (oX10_o1 (oX8_o1 hL))) (c_X1_openRouteHas (oX10_o1 (oX8_o1 hL)) hM14 (hM14 _ _) hp) (by decide) rfl rfl rfl (Nat.le_of_ble_eq_true rfl) (by decide) (by decide) (fun v t9 M35 hv => ?_) (fun _ _ _ q => q.elim)
    obtain ⟨r35, rfl, h35, hM35, ht9, hp⟩ := hv
    replace ht9 := ht9.symm
    subst ht9
    dsimp only [Option.toList, List.cons_append, List.nil_append]
    refine xJ_if_eq hX dX8_readPlace_38 (tgt := 50) (by decide) h35 (fun c38 => ?_) (fun c38 => ?_)
    · replace hp := hp.1 c38
      refine xJ_iload_n hX dX8_readPlace_50 rfl ?_
      refine xJ_iconst hX dX8_readPlace_51 ?_
      refine xJ_icmp_lt hX dX8_readPlace_52 (tgt := 64) (by decide) hx1 ⟨by decide, by decide⟩ (fun c52 => ?_) (fun c52 => ?_)
      · replace hp := hp.1 c52
        refine xJ_aload_n hX dX8_readPlace_64 rfl ?_
        refine xJ_getR (b := (a + 3)) hX dX8_readPlace_65 fd_X8_21 rfl (oX8_k hL) (oX8_r1 hL) ?_
        refine xJ_getR (b := (a + 8)) hX dX8_readPlace_68 fd_X8_162 rfl (oX10_k (oX8_o1 hL)) (oX10_r1 (oX8_o1 hL)) ?_
        refine xJ_aload_n hX dX8_readPlace_71 rfl ?_
        refine xJ_getR (b := (a + 1)) hX dX8_readPlace_72 fd_X8_12 rfl (oX8_k hL) (oX8_r0 hL) ?_
        refine xJ_getI hX dX8_readPlace_75 fd_X8_98 rfl (oX9_k (oX8_o0 hL)) ?_
        refine xJ_callV (As := [_]) hX hB dX8_readPlace_78 lk_X8_183 im_X1_addPlace se_X1_addPlace rfl (by decide) (oX1_k (oX10_o1 (oX8_o1 hL))) (c_X1_addPlace (oX10_o1 (oX8_o1 hL)) hM35 (hM35 _ _) hp) (by decide) rfl rfl rfl (Nat.le_of_ble_eq_true rfl) (by decide) (by decide) (fun v t9 M78 hv => ?_) (fun _ _ _ q => q.elim)
        obtain ⟨rfl, hM78, ht9, hp⟩ := hv
        replace ht9 := ht9.symm
        subst ht9
        dsimp only [Option.toList, List.cons_append, List.nil_append]
        refine xJ_aload_n hX dX8_readPlace_81 rfl ?_
        refine xJ_getR (b := (a + 1)) hX dX8_readPlace_82 fd_X8_12 rfl (oX8_k hL) (oX8_r0 hL) ?_
        refine xJ_callV (As := []) hX hB dX8_readPlace_85 lk_X8_59 im_X9_moveOn se_X9_moveOn rfl (by decide) (oX9_k (oX8_o0 hL)) (c_X9_moveOn (oX8_o0 hL) hM78 hp) (by decide) rfl rfl rfl (Nat.le_of_ble_eq_true rfl) (by decide) (by decide) (fun v t9 M85 hv => ?_) (fun _ _ _ q => q.elim)
        obtain ⟨rfl, hM85, ht9, hp⟩ := hv
        replace ht9 := ht9.symm
        subst ht9
        dsimp only [Option.toList, List.cons_append, List.nil_append]
        refine xJ_vret hX hB dX8_readPlace_88 (by decide) (by decide) ⟨rfl, hM85, rfl, hp⟩
      · replace hp := hp.2 c52
        refine xJ_aload_n hX dX8_readPlace_55 rfl ?_
        refine xJ_bipush hX dX8_readPlace_56 rfl ?_
        refine xJ_callV (As := [_]) hX hB dX8_readPlace_58 lk_X8_65 im_X8_fail se_X8_fail rfl (by decide) (oX8_k hL) (c_X8_fail hL hM35 ⟨by decide, by decide⟩ hp) (by decide) rfl rfl rfl (Nat.le_of_ble_eq_true rfl) (by decide) (by decide) (fun v t9 M58 hv => ?_) (fun _ _ _ q => q.elim)
        obtain ⟨rfl, hM58, ht9, hp⟩ := hv
        replace ht9 := ht9.symm
        subst ht9
        dsimp only [Option.toList, List.cons_append, List.nil_append]
        refine xJ_goto hX dX8_readPlace_61 (tgt := 88) (by decide) ?_
        refine xJ_vret hX hB dX8_readPlace_88 (by decide) (by decide) ⟨rfl, hM58, rfl, hp⟩
    · replace hp := hp.2 c38
      refine xJ_aload_n hX dX8_readPlace_41 rfl ?_
      refine xJ_bipush hX dX8_readPlace_42 rfl ?_
      refine xJ_callV (As := [_]) hX hB dX8_readPlace_44 lk_X8_65 im_X8_fail se_X8_fail rfl (by decide) (oX8_k hL) (c_X8_fail hL hM35 ⟨by decide, by decide⟩ hp) (by decide) rfl rfl rfl (Nat.le_of_ble_eq_true rfl) (by decide) (by decide) (fun v t9 M44 hv => ?_) (fun _ _ _ q => q.elim)
      obtain ⟨rfl, hM44, ht9, hp⟩ := hv
      replace ht9 := ht9.symm
      subst ht9
      dsimp only [Option.toList, List.cons_append, List.nil_append]
      refine xJ_goto hX dX8_readPlace_47 (tgt := 88) (by decide) ?_
      refine xJ_vret hX hB dX8_readPlace_88 (by decide) (by decide) ⟨rfl, hM44, rfl, hp⟩
  · replace hp := hp.2 c17
    refine xJ_vret hX hB dX8_readPlace_20 (by decide) (by decide) ⟨rfl, hM14, rfl, hp⟩
def p_X8_readFlow_33 (F : Nat) (a : Nat) (Q : xMe → Prop) (K69 : xMe → Prop) : Nat → Int → xMe → Prop
  | 0, _, _ => False
  | k + 1, x1, M =>
    ((4 < x1 → K69 M) ∧ (x1 ≤ 4 → (((M a 2) ≠ 0 → K69 M) ∧ ((M a 2) = 0 → (((M (a + 1) 4) ≠ 257 → K69 M) ∧ ((M (a + 1) 4) = 257 → p_X8_readPlace F a x1 M (fun M60 => (xR (x1 + 1)) ∧ p_X8_readFlow_33 F a Q K69 k (x1 + 1) M60)))))))
def p_X8_readFlow (F : Nat) (a : Nat) (M : xMe) (Q : xMe → Prop) : Prop :=
  p_X8_takeCounted F a (M (a + 8) 4) 6 M (fun M13 => p_X1_open (a + 8) M13 (fun M23 => p_X8_readPlace F a 0 M23 (fun M28 => p_X8_readFlow_33 F a Q (fun M => (((M a 2) ≠ 0 → (((M a 2) ≠ 0 → Q M) ∧ ((M a 2) = 0 → p_X1_close (a + 8) 0 M (fun M120 => Q M120)))) ∧ ((M a 2) = 0 → p_X9_isWord F (a + 1) 8 M (fun r84 M84 => ((r84 = 0 → (((M84 a 2) ≠ 0 → Q M84) ∧ ((M84 a 2) = 0 → p_X1_close (a + 8) 0 M84 (fun M120 => Q M120)))) ∧ (r84 ≠ 0 → p_X9_moveOn F (a + 1) M84 (fun M94 => p_X8_takeNumber F a 0 99 M94 (fun r101 M101 => (((M101 a 2) ≠ 0 → Q M101) ∧ ((M101 a 2) = 0 → p_X1_close (a + 8) r101 M101 (fun M120 => Q M120))))))))))) F 1 M28)))
set_option maxHeartbeats 4000000 in
set_option maxRecDepth 100000 in
theorem c_X8_readFlow {G : xGx} {t : xTh} {M : xMe} {F : Nat} {a : Nat} {Q : xMe → Prop} (hL : oX8 t a) (hM : xMR M)(hp : p_X8_readFlow F a M Q) : xCt G yX8_readFlow cX8_readFlow 2 none 9 0 0 [vr a] t M (fun v t' M' => v = none ∧ xMR M' ∧ t' = t ∧ Q M') (fun _ _ _ => False) := by
  refine xCt_of (L0 := [vr a, vU]) (by decide +kernel) (Nat.le_of_ble_eq_true rfl) rfl ?_
  intro X hX hB
  unfold p_X8_readFlow at hp
  refine xJ_aload_n hX dX8_readFlow_0 rfl ?_
  refine xJ_aload_n hX dX8_readFlow_1 rfl ?_
  refine xJ_getR (b := (a + 3)) hX dX8_readFlow_2 fd_X8_21 rfl (oX8_k hL) (oX8_r1 hL) ?_
  refine xJ_getR (b := (a + 8)) hX dX8_readFlow_5 fd_X8_162 rfl (oX10_k (oX8_o1 hL)) (oX10_r1 (oX8_o1 hL)) ?_
  refine xJ_getI hX dX8_readFlow_8 fd_X8_166 rfl (oX1_k (oX10_o1 (oX8_o1 hL))) ?_
  refine xJ_bipush hX dX8_readFlow_11 rfl ?_
  refine xJ_callV (As := [_, _]) hX hB dX8_readFlow_13 lk_X8_154 im_X8_takeCounted se_X8_takeCounted rfl (by decide) (oX8_k hL) (c_X8_takeCounted hL hM (hM _ _) ⟨by decide, by decide⟩ hp) (by decide) rfl rfl rfl (Nat.le_of_ble_eq_true rfl) (by decide) (by decide) (fun v t9 M13 hv => ?_) (fun _ _ _ q => q.elim)
  obtain ⟨rfl, hM13, ht9, hp⟩ := hv
  replace ht9 := ht9.symm
  subst ht9
  dsimp only [Option.toList, List.cons_append, List.nil_append]
  refine xJ_aload_n hX dX8_readFlow_16 rfl ?_
  refine xJ_getR (b := (a + 3)) hX dX8_readFlow_17 fd_X8_21 rfl (oX8_k hL) (oX8_r1 hL) ?_
  refine xJ_getR (b := (a + 8)) hX dX8_readFlow_20 fd_X8_162 rfl (oX10_k (oX8_o1 hL)) (oX10_r1 (oX8_o1 hL)) ?_
  refine xJ_callV (As := []) hX hB dX8_readFlow_23 lk_X8_169 im_X1_open se_X1_open rfl (by decide) (oX1_k (oX10_o1 (oX8_o1 hL))) (c_X1_open (oX10_o1 (oX8_o1 hL)) hM13 hp) (by decide) rfl rfl rfl (Nat.le_of_ble_eq_true rfl) (by decide) (by decide) (fun v t9 M23 hv => ?_) (fun _ _ _ q => q.elim)
  obtain ⟨rfl, hM23, ht9, hp⟩ := hv
  replace ht9 := ht9.symm
  subst ht9
  dsimp only [Option.toList, List.cons_append, List.nil_append]
  refine xJ_aload_n hX dX8_readFlow_26 rfl ?_
  refine xJ_iconst hX dX8_readFlow_27 ?_
  refine xJ_callV (As := [_]) hX hB dX8_readFlow_28 lk_X8_171 im_X8_readPlace se_X8_readPlace rfl (by decide) (oX8_k hL) (c_X8_readPlace hL hM23 ⟨by decide, by decide⟩ hp) (by decide) rfl rfl rfl (Nat.le_of_ble_eq_true rfl) (by decide) (by decide) (fun v t9 M28 hv => ?_) (fun _ _ _ q => q.elim)
  obtain ⟨rfl, hM28, ht9, hp⟩ := hv
  replace ht9 := ht9.symm
  subst ht9
  dsimp only [Option.toList, List.cons_append, List.nil_append]
  refine xJ_iconst hX dX8_readFlow_31 ?_
  refine xJ_istore_n hX dX8_readFlow_32 (Nat.le_of_ble_eq_true rfl) rfl ?_
  dsimp only [List.set]
  have lp33 : ∀ (K69 : xMe → Prop) (hK69 : ∀ (M : xMe) (hM : xMR M) (hp : K69 M), xJ X 0 0 t M 69 [vr a, vU] []) (k : Nat) (x1 : Int) (M : xMe) (hM : xMR M) (hx1 : xR x1) (hp : p_X8_readFlow_33 F a Q K69 k x1 M), xJ X 0 0 t M 33 [vr a, vi x1] [] := by
    intro K69 hK69 k
    induction k with
    | zero => intro x1 M hM hx1 hp; exact hp.elim
    | succ k ih =>
      intro x1 M hM hx1 hp
      unfold p_X8_readFlow_33 at hp
      refine xJ_iload_n hX dX8_readFlow_33 rfl ?_
      refine xJ_iconst hX dX8_readFlow_34 ?_
      refine xJ_icmp_gt hX dX8_readFlow_35 (tgt := 69) (by decide) hx1 ⟨by decide, by decide⟩ (fun c35 => ?_) (fun c35 => ?_)
      · replace hp := hp.1 c35
        refine xJ_fg 1 ?_
        dsimp only [List.set]
        exact hK69 _ hM hp
      · replace hp := hp.2 c35
        refine xJ_aload_n hX dX8_readFlow_38 rfl ?_
        refine xJ_getI hX dX8_readFlow_39 fd_X8_29 rfl (oX8_k hL) ?_
        refine xJ_if_ne hX dX8_readFlow_42 (tgt := 69) (by decide) (hM _ _) (fun c42 => ?_) (fun c42 => ?_)
        · replace hp := hp.1 c42
          refine xJ_fg 1 ?_
          dsimp only [List.set]
          exact hK69 _ hM hp
        · replace hp := hp.2 c42
          refine xJ_aload_n hX dX8_readFlow_45 rfl ?_
          refine xJ_getR (b := (a + 1)) hX dX8_readFlow_46 fd_X8_12 rfl (oX8_k hL) (oX8_r0 hL) ?_
          refine xJ_getI hX dX8_readFlow_49 fd_X8_68 rfl (oX9_k (oX8_o0 hL)) ?_
          refine xJ_sipush hX dX8_readFlow_52 rfl ?_
          refine xJ_icmp_ne hX dX8_readFlow_55 (tgt := 69) (by decide) (hM _ _) ⟨by decide, by decide⟩ (fun c55 => ?_) (fun c55 => ?_)
          · replace hp := hp.1 c55
            refine xJ_fg 1 ?_
            dsimp only [List.set]
            exact hK69 _ hM hp
          · replace hp := hp.2 c55
            refine xJ_aload_n hX dX8_readFlow_58 rfl ?_
            refine xJ_iload_n hX dX8_readFlow_59 rfl ?_
            refine xJ_callV (As := [_]) hX hB dX8_readFlow_60 lk_X8_171 im_X8_readPlace se_X8_readPlace rfl (by decide) (oX8_k hL) (c_X8_readPlace hL hM hx1 hp) (by decide) rfl rfl rfl (Nat.le_of_ble_eq_true rfl) (by decide) (by decide) (fun v t9 M60 hv => ?_) (fun _ _ _ q => q.elim)
            obtain ⟨rfl, hM60, ht9, hp⟩ := hv
            replace ht9 := ht9.symm
            subst ht9
            dsimp only [Option.toList, List.cons_append, List.nil_append]
            refine xJ_iinc hX dX8_readFlow_63 rfl rfl ?_
            dsimp only [List.set]
            obtain ⟨h63, hp⟩ := hp
            refine xJ_goto hX dX8_readFlow_66 (tgt := 33) (by decide) ?_
            exact ih _ _ hM60 h63 hp
  refine lp33 _ (fun M hM hp => ?_) F _ _ hM28 ⟨by decide, by decide⟩ hp
  · refine xJ_iconst hX dX8_readFlow_69 ?_
    refine xJ_istore_n hX dX8_readFlow_70 (Nat.le_of_ble_eq_true rfl) rfl ?_
    dsimp only [List.set]
    refine xJ_aload_n hX dX8_readFlow_71 rfl ?_
    refine xJ_getI hX dX8_readFlow_72 fd_X8_29 rfl (oX8_k hL) ?_
    refine xJ_if_ne hX dX8_readFlow_75 (tgt := 105) (by decide) (hM _ _) (fun c75 => ?_) (fun c75 => ?_)
    · replace hp := hp.1 c75
      refine xJ_aload_n hX dX8_readFlow_105 rfl ?_
      refine xJ_getI hX dX8_readFlow_106 fd_X8_29 rfl (oX8_k hL) ?_
      refine xJ_if_ne hX dX8_readFlow_109 (tgt := 123) (by decide) (hM _ _) (fun c109 => ?_) (fun c109 => ?_)
      · replace hp := hp.1 c109
        refine xJ_vret hX hB dX8_readFlow_123 (by decide) (by decide) ⟨rfl, hM, rfl, hp⟩
      · replace hp := hp.2 c109
        refine xJ_aload_n hX dX8_readFlow_112 rfl ?_
        refine xJ_getR (b := (a + 3)) hX dX8_readFlow_113 fd_X8_21 rfl (oX8_k hL) (oX8_r1 hL) ?_
        refine xJ_getR (b := (a + 8)) hX dX8_readFlow_116 fd_X8_162 rfl (oX10_k (oX8_o1 hL)) (oX10_r1 (oX8_o1 hL)) ?_
        refine xJ_iload_n hX dX8_readFlow_119 rfl ?_
        refine xJ_callV (As := [_]) hX hB dX8_readFlow_120 lk_X8_176 im_X1_close se_X1_close rfl (by decide) (oX1_k (oX10_o1 (oX8_o1 hL))) (c_X1_close (oX10_o1 (oX8_o1 hL)) hM ⟨by decide, by decide⟩ hp) (by decide) rfl rfl rfl (Nat.le_of_ble_eq_true rfl) (by decide) (by decide) (fun v t9 M120 hv => ?_) (fun _ _ _ q => q.elim)
        obtain ⟨rfl, hM120, ht9, hp⟩ := hv
        replace ht9 := ht9.symm
        subst ht9
        dsimp only [Option.toList, List.cons_append, List.nil_append]
        refine xJ_vret hX hB dX8_readFlow_123 (by decide) (by decide) ⟨rfl, hM120, rfl, hp⟩
    · replace hp := hp.2 c75
      refine xJ_aload_n hX dX8_readFlow_78 rfl ?_
      refine xJ_getR (b := (a + 1)) hX dX8_readFlow_79 fd_X8_12 rfl (oX8_k hL) (oX8_r0 hL) ?_
      refine xJ_ldcS 8 hX dX8_readFlow_82 (by decide +kernel) ?_
      refine xJ_callV (As := [_]) hX hB dX8_readFlow_84 lk_X8_55 im_X9_isWord se_X9_isWord rfl (by decide) (oX9_k (oX8_o0 hL)) (c_X9_isWord (oX8_o0 hL) (by decide) hM hp) (by decide) rfl rfl rfl (Nat.le_of_ble_eq_true rfl) (by decide) (by decide) (fun v t9 M84 hv => ?_) (fun _ _ _ q => q.elim)
      obtain ⟨r84, rfl, h84, hM84, ht9, hp⟩ := hv
      replace ht9 := ht9.symm
      subst ht9
      dsimp only [Option.toList, List.cons_append, List.nil_append]
      refine xJ_if_eq hX dX8_readFlow_87 (tgt := 105) (by decide) h84 (fun c87 => ?_) (fun c87 => ?_)
      · replace hp := hp.1 c87
        refine xJ_aload_n hX dX8_readFlow_105 rfl ?_
        refine xJ_getI hX dX8_readFlow_106 fd_X8_29 rfl (oX8_k hL) ?_
        refine xJ_if_ne hX dX8_readFlow_109 (tgt := 123) (by decide) (hM84 _ _) (fun c109 => ?_) (fun c109 => ?_)
        · replace hp := hp.1 c109
          refine xJ_vret hX hB dX8_readFlow_123 (by decide) (by decide) ⟨rfl, hM84, rfl, hp⟩
        · replace hp := hp.2 c109
          refine xJ_aload_n hX dX8_readFlow_112 rfl ?_
          refine xJ_getR (b := (a + 3)) hX dX8_readFlow_113 fd_X8_21 rfl (oX8_k hL) (oX8_r1 hL) ?_
          refine xJ_getR (b := (a + 8)) hX dX8_readFlow_116 fd_X8_162 rfl (oX10_k (oX8_o1 hL)) (oX10_r1 (oX8_o1 hL)) ?_
          refine xJ_iload_n hX dX8_readFlow_119 rfl ?_
          refine xJ_callV (As := [_]) hX hB dX8_readFlow_120 lk_X8_176 im_X1_close se_X1_close rfl (by decide) (oX1_k (oX10_o1 (oX8_o1 hL))) (c_X1_close (oX10_o1 (oX8_o1 hL)) hM84 ⟨by decide, by decide⟩ hp) (by decide) rfl rfl rfl (Nat.le_of_ble_eq_true rfl) (by decide) (by decide) (fun v t9 M120 hv => ?_) (fun _ _ _ q => q.elim)
          obtain ⟨rfl, hM120, ht9, hp⟩ := hv
          replace ht9 := ht9.symm
          subst ht9
          dsimp only [Option.toList, List.cons_append, List.nil_append]
          refine xJ_vret hX hB dX8_readFlow_123 (by decide) (by decide) ⟨rfl, hM120, rfl, hp⟩
      · replace hp := hp.2 c87
        refine xJ_aload_n hX dX8_readFlow_90 rfl ?_
        refine xJ_getR (b := (a + 1)) hX dX8_readFlow_91 fd_X8_12 rfl (oX8_k hL) (oX8_r0 hL) ?_
        refine xJ_callV (As := []) hX hB dX8_readFlow_94 lk_X8_59 im_X9_moveOn se_X9_moveOn rfl (by decide) (oX9_k (oX8_o0 hL)) (c_X9_moveOn (oX8_o0 hL) hM84 hp) (by decide) rfl rfl rfl (Nat.le_of_ble_eq_true rfl) (by decide) (by decide) (fun v t9 M94 hv => ?_) (fun _ _ _ q => q.elim)
        obtain ⟨rfl, hM94, ht9, hp⟩ := hv
        replace ht9 := ht9.symm
        subst ht9
        dsimp only [Option.toList, List.cons_append, List.nil_append]
        refine xJ_aload_n hX dX8_readFlow_97 rfl ?_
        refine xJ_iconst hX dX8_readFlow_98 ?_
        refine xJ_bipush hX dX8_readFlow_99 rfl ?_
        refine xJ_callV (As := [_, _]) hX hB dX8_readFlow_101 lk_X8_127 im_X8_takeNumber se_X8_takeNumber rfl (by decide) (oX8_k hL) (c_X8_takeNumber hL hM94 ⟨by decide, by decide⟩ ⟨by decide, by decide⟩ hp) (by decide) rfl rfl rfl (Nat.le_of_ble_eq_true rfl) (by decide) (by decide) (fun v t9 M101 hv => ?_) (fun _ _ _ q => q.elim)
        obtain ⟨r101, rfl, h101, hM101, ht9, hp⟩ := hv
        replace ht9 := ht9.symm
        subst ht9
        dsimp only [Option.toList, List.cons_append, List.nil_append]
        refine xJ_istore_n hX dX8_readFlow_104 (Nat.le_of_ble_eq_true rfl) rfl ?_
        dsimp only [List.set]
        refine xJ_aload_n hX dX8_readFlow_105 rfl ?_
        refine xJ_getI hX dX8_readFlow_106 fd_X8_29 rfl (oX8_k hL) ?_
        refine xJ_if_ne hX dX8_readFlow_109 (tgt := 123) (by decide) (hM101 _ _) (fun c109 => ?_) (fun c109 => ?_)
        · replace hp := hp.1 c109
          refine xJ_vret hX hB dX8_readFlow_123 (by decide) (by decide) ⟨rfl, hM101, rfl, hp⟩
        · replace hp := hp.2 c109
          refine xJ_aload_n hX dX8_readFlow_112 rfl ?_
          refine xJ_getR (b := (a + 3)) hX dX8_readFlow_113 fd_X8_21 rfl (oX8_k hL) (oX8_r1 hL) ?_
          refine xJ_getR (b := (a + 8)) hX dX8_readFlow_116 fd_X8_162 rfl (oX10_k (oX8_o1 hL)) (oX10_r1 (oX8_o1 hL)) ?_
          refine xJ_iload_n hX dX8_readFlow_119 rfl ?_
          refine xJ_callV (As := [_]) hX hB dX8_readFlow_120 lk_X8_176 im_X1_close se_X1_close rfl (by decide) (oX1_k (oX10_o1 (oX8_o1 hL))) (c_X1_close (oX10_o1 (oX8_o1 hL)) hM101 h101 hp) (by decide) rfl rfl rfl (Nat.le_of_ble_eq_true rfl) (by decide) (by decide) (fun v t9 M120 hv => ?_) (fun _ _ _ q => q.elim)
          obtain ⟨rfl, hM120, ht9, hp⟩ := hv
          replace ht9 := ht9.symm
          subst ht9
          dsimp only [Option.toList, List.cons_append, List.nil_append]
          refine xJ_vret hX hB dX8_readFlow_123 (by decide) (by decide) ⟨rfl, hM120, rfl, hp⟩
def p_X8_readPacket (F : Nat) (a : Nat) (M : xMe) (Q : xMe → Prop) : Prop :=
  p_X8_takeCounted F a (M (a + 19) 8) 40 M (fun M13 => (xR ((M13 (a + 8) 4) - 1)) ∧ p_X8_takeNumber F a 0 ((M13 (a + 8) 4) - 1) M13 (fun r30 M30 => p_X8_takeNumber F a 0 999 M30 (fun r39 M39 => p_X8_takeNumber F a 1 999 M39 (fun r48 M48 => (((M48 a 2) ≠ 0 → Q M48) ∧ ((M48 a 2) = 0 → p_X5_add (a + 19) r30 r39 r48 M48 (fun M69 => Q M69)))))))
set_option maxHeartbeats 4000000 in
set_option maxRecDepth 100000 in
theorem c_X8_readPacket {G : xGx} {t : xTh} {M : xMe} {F : Nat} {a : Nat} {Q : xMe → Prop} (hL : oX8 t a) (hM : xMR M)(hp : p_X8_readPacket F a M Q) : xCt G yX8_readPacket cX8_readPacket 4 none 3 0 0 [vr a] t M (fun v t' M' => v = none ∧ xMR M' ∧ t' = t ∧ Q M') (fun _ _ _ => False) := by
  refine xCt_of (L0 := [vr a, vU, vU, vU]) (by decide +kernel) (Nat.le_of_ble_eq_true rfl) rfl ?_
  intro X hX hB
  unfold p_X8_readPacket at hp
  refine xJ_aload_n hX dX8_readPacket_0 rfl ?_
  refine xJ_aload_n hX dX8_readPacket_1 rfl ?_
  refine xJ_getR (b := (a + 3)) hX dX8_readPacket_2 fd_X8_21 rfl (oX8_k hL) (oX8_r1 hL) ?_
  refine xJ_getR (b := (a + 19)) hX dX8_readPacket_5 fd_X8_186 rfl (oX10_k (oX8_o1 hL)) (oX10_r3 (oX8_o1 hL)) ?_
  refine xJ_getI hX dX8_readPacket_8 fd_X8_190 rfl (oX5_k (oX10_o3 (oX8_o1 hL))) ?_
  refine xJ_bipush hX dX8_readPacket_11 rfl ?_
  refine xJ_callV (As := [_, _]) hX hB dX8_readPacket_13 lk_X8_154 im_X8_takeCounted se_X8_takeCounted rfl (by decide) (oX8_k hL) (c_X8_takeCounted hL hM (hM _ _) ⟨by decide, by decide⟩ hp) (by decide) rfl rfl rfl (Nat.le_of_ble_eq_true rfl) (by decide) (by decide) (fun v t9 M13 hv => ?_) (fun _ _ _ q => q.elim)
  obtain ⟨rfl, hM13, ht9, hp⟩ := hv
  replace ht9 := ht9.symm
  subst ht9
  dsimp only [Option.toList, List.cons_append, List.nil_append]
  refine xJ_aload_n hX dX8_readPacket_16 rfl ?_
  refine xJ_iconst hX dX8_readPacket_17 ?_
  refine xJ_aload_n hX dX8_readPacket_18 rfl ?_
  refine xJ_getR (b := (a + 3)) hX dX8_readPacket_19 fd_X8_21 rfl (oX8_k hL) (oX8_r1 hL) ?_
  refine xJ_getR (b := (a + 8)) hX dX8_readPacket_22 fd_X8_162 rfl (oX10_k (oX8_o1 hL)) (oX10_r1 (oX8_o1 hL)) ?_
  refine xJ_getI hX dX8_readPacket_25 fd_X8_166 rfl (oX1_k (oX10_o1 (oX8_o1 hL))) ?_
  refine xJ_iconst hX dX8_readPacket_28 ?_
  refine xJ_isub hX dX8_readPacket_29 ?_
  obtain ⟨h29, hp⟩ := hp
  refine xJ_callV (As := [_, _]) hX hB dX8_readPacket_30 lk_X8_127 im_X8_takeNumber se_X8_takeNumber rfl (by decide) (oX8_k hL) (c_X8_takeNumber hL hM13 ⟨by decide, by decide⟩ h29 hp) (by decide) rfl rfl rfl (Nat.le_of_ble_eq_true rfl) (by decide) (by decide) (fun v t9 M30 hv => ?_) (fun _ _ _ q => q.elim)
  obtain ⟨r30, rfl, h30, hM30, ht9, hp⟩ := hv
  replace ht9 := ht9.symm
  subst ht9
  dsimp only [Option.toList, List.cons_append, List.nil_append]
  refine xJ_istore_n hX dX8_readPacket_33 (Nat.le_of_ble_eq_true rfl) rfl ?_
  dsimp only [List.set]
  refine xJ_aload_n hX dX8_readPacket_34 rfl ?_
  refine xJ_iconst hX dX8_readPacket_35 ?_
  refine xJ_sipush hX dX8_readPacket_36 rfl ?_
  refine xJ_callV (As := [_, _]) hX hB dX8_readPacket_39 lk_X8_127 im_X8_takeNumber se_X8_takeNumber rfl (by decide) (oX8_k hL) (c_X8_takeNumber hL hM30 ⟨by decide, by decide⟩ ⟨by decide, by decide⟩ hp) (by decide) rfl rfl rfl (Nat.le_of_ble_eq_true rfl) (by decide) (by decide) (fun v t9 M39 hv => ?_) (fun _ _ _ q => q.elim)
  obtain ⟨r39, rfl, h39, hM39, ht9, hp⟩ := hv
  replace ht9 := ht9.symm
  subst ht9
  dsimp only [Option.toList, List.cons_append, List.nil_append]
  refine xJ_istore_n hX dX8_readPacket_42 (Nat.le_of_ble_eq_true rfl) rfl ?_
  dsimp only [List.set]
  refine xJ_aload_n hX dX8_readPacket_43 rfl ?_
  refine xJ_iconst hX dX8_readPacket_44 ?_
  refine xJ_sipush hX dX8_readPacket_45 rfl ?_
  refine xJ_callV (As := [_, _]) hX hB dX8_readPacket_48 lk_X8_127 im_X8_takeNumber se_X8_takeNumber rfl (by decide) (oX8_k hL) (c_X8_takeNumber hL hM39 ⟨by decide, by decide⟩ ⟨by decide, by decide⟩ hp) (by decide) rfl rfl rfl (Nat.le_of_ble_eq_true rfl) (by decide) (by decide) (fun v t9 M48 hv => ?_) (fun _ _ _ q => q.elim)
  obtain ⟨r48, rfl, h48, hM48, ht9, hp⟩ := hv
  replace ht9 := ht9.symm
  subst ht9
  dsimp only [Option.toList, List.cons_append, List.nil_append]
  refine xJ_istore_n hX dX8_readPacket_51 (Nat.le_of_ble_eq_true rfl) rfl ?_
  dsimp only [List.set]
  refine xJ_aload_n hX dX8_readPacket_52 rfl ?_
  refine xJ_getI hX dX8_readPacket_53 fd_X8_29 rfl (oX8_k hL) ?_
  refine xJ_if_ne hX dX8_readPacket_56 (tgt := 72) (by decide) (hM48 _ _) (fun c56 => ?_) (fun c56 => ?_)
  · replace hp := hp.1 c56
    refine xJ_vret hX hB dX8_readPacket_72 (by decide) (by decide) ⟨rfl, hM48, rfl, hp⟩
  · replace hp := hp.2 c56
    refine xJ_aload_n hX dX8_readPacket_59 rfl ?_
    refine xJ_getR (b := (a + 3)) hX dX8_readPacket_60 fd_X8_21 rfl (oX8_k hL) (oX8_r1 hL) ?_
    refine xJ_getR (b := (a + 19)) hX dX8_readPacket_63 fd_X8_186 rfl (oX10_k (oX8_o1 hL)) (oX10_r3 (oX8_o1 hL)) ?_
    refine xJ_iload_n hX dX8_readPacket_66 rfl ?_
    refine xJ_iload_n hX dX8_readPacket_67 rfl ?_
    refine xJ_iload_n hX dX8_readPacket_68 rfl ?_
    refine xJ_callV (As := [_, _, _]) hX hB dX8_readPacket_69 lk_X8_193 im_X5_add se_X5_add rfl (by decide) (oX5_k (oX10_o3 (oX8_o1 hL))) (c_X5_add (oX10_o3 (oX8_o1 hL)) hM48 h30 h39 h48 hp) (by decide) rfl rfl rfl (Nat.le_of_ble_eq_true rfl) (by decide) (by decide) (fun v t9 M69 hv => ?_) (fun _ _ _ q => q.elim)
    obtain ⟨rfl, hM69, ht9, hp⟩ := hv
    replace ht9 := ht9.symm
    subst ht9
    dsimp only [Option.toList, List.cons_append, List.nil_append]
    refine xJ_vret hX hB dX8_readPacket_72 (by decide) (by decide) ⟨rfl, hM69, rfl, hp⟩
def p_X8_readCoupon (F : Nat) (a : Nat) (M : xMe) (Q : xMe → Prop) : Prop :=
  p_X8_takeCounted F a (M (a + 28) 4) 30 M (fun M13 => (xR ((M13 (a + 8) 4) - 1)) ∧ p_X8_takeNumber F a 0 ((M13 (a + 8) 4) - 1) M13 (fun r30 M30 => p_X8_takeNumber F a 1 9999 M30 (fun r39 M39 => p_X8_takeNumber F a 1 9999 M39 (fun r48 M48 => (((M48 a 2) ≠ 0 → Q M48) ∧ ((M48 a 2) = 0 → p_X0_add (a + 28) r30 r39 r48 M48 (fun M69 => Q M69)))))))
set_option maxHeartbeats 4000000 in
set_option maxRecDepth 100000 in
theorem c_X8_readCoupon {G : xGx} {t : xTh} {M : xMe} {F : Nat} {a : Nat} {Q : xMe → Prop} (hL : oX8 t a) (hM : xMR M)(hp : p_X8_readCoupon F a M Q) : xCt G yX8_readCoupon cX8_readCoupon 4 none 3 0 0 [vr a] t M (fun v t' M' => v = none ∧ xMR M' ∧ t' = t ∧ Q M') (fun _ _ _ => False) := by
  refine xCt_of (L0 := [vr a, vU, vU, vU]) (by decide +kernel) (Nat.le_of_ble_eq_true rfl) rfl ?_
  intro X hX hB
  unfold p_X8_readCoupon at hp
  refine xJ_aload_n hX dX8_readCoupon_0 rfl ?_
  refine xJ_aload_n hX dX8_readCoupon_1 rfl ?_
  refine xJ_getR (b := (a + 3)) hX dX8_readCoupon_2 fd_X8_21 rfl (oX8_k hL) (oX8_r1 hL) ?_
  refine xJ_getR (b := (a + 28)) hX dX8_readCoupon_5 fd_X8_194 rfl (oX10_k (oX8_o1 hL)) (oX10_r4 (oX8_o1 hL)) ?_
  refine xJ_getI hX dX8_readCoupon_8 fd_X8_198 rfl (oX0_k (oX10_o4 (oX8_o1 hL))) ?_
  refine xJ_bipush hX dX8_readCoupon_11 rfl ?_
  refine xJ_callV (As := [_, _]) hX hB dX8_readCoupon_13 lk_X8_154 im_X8_takeCounted se_X8_takeCounted rfl (by decide) (oX8_k hL) (c_X8_takeCounted hL hM (hM _ _) ⟨by decide, by decide⟩ hp) (by decide) rfl rfl rfl (Nat.le_of_ble_eq_true rfl) (by decide) (by decide) (fun v t9 M13 hv => ?_) (fun _ _ _ q => q.elim)
  obtain ⟨rfl, hM13, ht9, hp⟩ := hv
  replace ht9 := ht9.symm
  subst ht9
  dsimp only [Option.toList, List.cons_append, List.nil_append]
  refine xJ_aload_n hX dX8_readCoupon_16 rfl ?_
  refine xJ_iconst hX dX8_readCoupon_17 ?_
  refine xJ_aload_n hX dX8_readCoupon_18 rfl ?_
  refine xJ_getR (b := (a + 3)) hX dX8_readCoupon_19 fd_X8_21 rfl (oX8_k hL) (oX8_r1 hL) ?_
  refine xJ_getR (b := (a + 8)) hX dX8_readCoupon_22 fd_X8_162 rfl (oX10_k (oX8_o1 hL)) (oX10_r1 (oX8_o1 hL)) ?_
  refine xJ_getI hX dX8_readCoupon_25 fd_X8_166 rfl (oX1_k (oX10_o1 (oX8_o1 hL))) ?_
  refine xJ_iconst hX dX8_readCoupon_28 ?_
  refine xJ_isub hX dX8_readCoupon_29 ?_
  obtain ⟨h29, hp⟩ := hp
  refine xJ_callV (As := [_, _]) hX hB dX8_readCoupon_30 lk_X8_127 im_X8_takeNumber se_X8_takeNumber rfl (by decide) (oX8_k hL) (c_X8_takeNumber hL hM13 ⟨by decide, by decide⟩ h29 hp) (by decide) rfl rfl rfl (Nat.le_of_ble_eq_true rfl) (by decide) (by decide) (fun v t9 M30 hv => ?_) (fun _ _ _ q => q.elim)
  obtain ⟨r30, rfl, h30, hM30, ht9, hp⟩ := hv
  replace ht9 := ht9.symm
  subst ht9
  dsimp only [Option.toList, List.cons_append, List.nil_append]
  refine xJ_istore_n hX dX8_readCoupon_33 (Nat.le_of_ble_eq_true rfl) rfl ?_
  dsimp only [List.set]
  refine xJ_aload_n hX dX8_readCoupon_34 rfl ?_
  refine xJ_iconst hX dX8_readCoupon_35 ?_
  refine xJ_sipush hX dX8_readCoupon_36 rfl ?_
  refine xJ_callV (As := [_, _]) hX hB dX8_readCoupon_39 lk_X8_127 im_X8_takeNumber se_X8_takeNumber rfl (by decide) (oX8_k hL) (c_X8_takeNumber hL hM30 ⟨by decide, by decide⟩ ⟨by decide, by decide⟩ hp) (by decide) rfl rfl rfl (Nat.le_of_ble_eq_true rfl) (by decide) (by decide) (fun v t9 M39 hv => ?_) (fun _ _ _ q => q.elim)
  obtain ⟨r39, rfl, h39, hM39, ht9, hp⟩ := hv
  replace ht9 := ht9.symm
  subst ht9
  dsimp only [Option.toList, List.cons_append, List.nil_append]
  refine xJ_istore_n hX dX8_readCoupon_42 (Nat.le_of_ble_eq_true rfl) rfl ?_
  dsimp only [List.set]
  refine xJ_aload_n hX dX8_readCoupon_43 rfl ?_
  refine xJ_iconst hX dX8_readCoupon_44 ?_
  refine xJ_sipush hX dX8_readCoupon_45 rfl ?_
  refine xJ_callV (As := [_, _]) hX hB dX8_readCoupon_48 lk_X8_127 im_X8_takeNumber se_X8_takeNumber rfl (by decide) (oX8_k hL) (c_X8_takeNumber hL hM39 ⟨by decide, by decide⟩ ⟨by decide, by decide⟩ hp) (by decide) rfl rfl rfl (Nat.le_of_ble_eq_true rfl) (by decide) (by decide) (fun v t9 M48 hv => ?_) (fun _ _ _ q => q.elim)
  obtain ⟨r48, rfl, h48, hM48, ht9, hp⟩ := hv
  replace ht9 := ht9.symm
  subst ht9
  dsimp only [Option.toList, List.cons_append, List.nil_append]
  refine xJ_istore_n hX dX8_readCoupon_51 (Nat.le_of_ble_eq_true rfl) rfl ?_
  dsimp only [List.set]
  refine xJ_aload_n hX dX8_readCoupon_52 rfl ?_
  refine xJ_getI hX dX8_readCoupon_53 fd_X8_29 rfl (oX8_k hL) ?_
  refine xJ_if_ne hX dX8_readCoupon_56 (tgt := 72) (by decide) (hM48 _ _) (fun c56 => ?_) (fun c56 => ?_)
  · replace hp := hp.1 c56
    refine xJ_vret hX hB dX8_readCoupon_72 (by decide) (by decide) ⟨rfl, hM48, rfl, hp⟩
  · replace hp := hp.2 c56
    refine xJ_aload_n hX dX8_readCoupon_59 rfl ?_
    refine xJ_getR (b := (a + 3)) hX dX8_readCoupon_60 fd_X8_21 rfl (oX8_k hL) (oX8_r1 hL) ?_
    refine xJ_getR (b := (a + 28)) hX dX8_readCoupon_63 fd_X8_194 rfl (oX10_k (oX8_o1 hL)) (oX10_r4 (oX8_o1 hL)) ?_
    refine xJ_iload_n hX dX8_readCoupon_66 rfl ?_
    refine xJ_iload_n hX dX8_readCoupon_67 rfl ?_
    refine xJ_iload_n hX dX8_readCoupon_68 rfl ?_
    refine xJ_callV (As := [_, _, _]) hX hB dX8_readCoupon_69 lk_X8_201 im_X0_add se_X0_add rfl (by decide) (oX0_k (oX10_o4 (oX8_o1 hL))) (c_X0_add (oX10_o4 (oX8_o1 hL)) hM48 h30 h39 h48 hp) (by decide) rfl rfl rfl (Nat.le_of_ble_eq_true rfl) (by decide) (by decide) (fun v t9 M69 hv => ?_) (fun _ _ _ q => q.elim)
    obtain ⟨rfl, hM69, ht9, hp⟩ := hv
    replace ht9 := ht9.symm
    subst ht9
    dsimp only [Option.toList, List.cons_append, List.nil_append]
    refine xJ_vret hX hB dX8_readCoupon_72 (by decide) (by decide) ⟨rfl, hM69, rfl, hp⟩
def p_X8_isEither (a : Nat) (x1 : Int) (x2 : Int) (M : xMe) (Q : Int → xMe → Prop) : Prop :=
  (((M (a + 1) 4) = x1 → Q 1 M) ∧ ((M (a + 1) 4) ≠ x1 → (((M (a + 1) 4) ≠ x2 → Q 0 M) ∧ ((M (a + 1) 4) = x2 → Q 1 M))))
set_option maxHeartbeats 4000000 in
set_option maxRecDepth 100000 in
theorem c_X8_isEither {G : xGx} {t : xTh} {M : xMe} {a : Nat} {x1 : Int} {x2 : Int} {Q : Int → xMe → Prop} (hL : oX8 t a) (hM : xMR M) (hx1 : xR x1) (hx2 : xR x2) (hp : p_X8_isEither a x1 x2 M Q) : xCt G yX8_isEither cX8_isEither 3 (some .boolean) 0 0 0 [vr a, vi x1, vi x2] t M (fun v t' M' => ∃ r, v = some (vi r) ∧ xR r ∧ xMR M' ∧ t' = t ∧ Q r M') (fun _ _ _ => False) := by
  refine xCt_of (L0 := [vr a, vi x1, vi x2]) (by decide +kernel) (Nat.le_of_ble_eq_true rfl) rfl ?_
  intro X hX hB
  unfold p_X8_isEither at hp
  refine xJ_aload_n hX dX8_isEither_0 rfl ?_
  refine xJ_getR (b := (a + 1)) hX dX8_isEither_1 fd_X8_12 rfl (oX8_k hL) (oX8_r0 hL) ?_
  refine xJ_getI hX dX8_isEither_4 fd_X8_68 rfl (oX9_k (oX8_o0 hL)) ?_
  refine xJ_iload_n hX dX8_isEither_7 rfl ?_
  refine xJ_icmp_eq hX dX8_isEither_8 (tgt := 22) (by decide) (hM _ _) hx1 (fun c8 => ?_) (fun c8 => ?_)
  · replace hp := hp.1 c8
    refine xJ_iconst hX dX8_isEither_22 ?_
    refine xJ_goto hX dX8_isEither_23 (tgt := 27) (by decide) ?_
    refine xJ_zret hX hB dX8_isEither_27 rfl (by decide) (by decide) ⟨_, rfl, ⟨by decide, by decide⟩, hM, rfl, hp⟩
  · replace hp := hp.2 c8
    refine xJ_aload_n hX dX8_isEither_11 rfl ?_
    refine xJ_getR (b := (a + 1)) hX dX8_isEither_12 fd_X8_12 rfl (oX8_k hL) (oX8_r0 hL) ?_
    refine xJ_getI hX dX8_isEither_15 fd_X8_68 rfl (oX9_k (oX8_o0 hL)) ?_
    refine xJ_iload_n hX dX8_isEither_18 rfl ?_
    refine xJ_icmp_ne hX dX8_isEither_19 (tgt := 26) (by decide) (hM _ _) hx2 (fun c19 => ?_) (fun c19 => ?_)
    · replace hp := hp.1 c19
      refine xJ_iconst hX dX8_isEither_26 ?_
      refine xJ_zret hX hB dX8_isEither_27 rfl (by decide) (by decide) ⟨_, rfl, ⟨by decide, by decide⟩, hM, rfl, hp⟩
    · replace hp := hp.2 c19
      refine xJ_iconst hX dX8_isEither_22 ?_
      refine xJ_goto hX dX8_isEither_23 (tgt := 27) (by decide) ?_
      refine xJ_zret hX hB dX8_isEither_27 rfl (by decide) (by decide) ⟨_, rfl, ⟨by decide, by decide⟩, hM, rfl, hp⟩
def p_X8_emit (a : Nat) (x1 : Int) (M : xMe) (Q : xMe → Prop) : Prop :=
  (((M a 5) < 0 → Q M) ∧ (0 ≤ (M a 5) → (((((700 : Nat) : Int)) ≤ (M a 5) → Q M) ∧ ((M a 5) < (((700 : Nat) : Int)) → ((0 : Int) ≤ (M a 5) ∧ ((M a 5) : Int) < 700) ∧ (∀ M28 : xMe, M28 = xw M (a + 42) (M a 5).toNat x1 → (xR ((M28 a 5) + 1)) ∧ (∀ M36 : xMe, M36 = xw M28 a 5 ((M28 a 5) + 1) → Q M36))))))
set_option maxHeartbeats 4000000 in
set_option maxRecDepth 100000 in
theorem c_X8_emit {G : xGx} {t : xTh} {M : xMe} {a : Nat} {x1 : Int} {Q : xMe → Prop} (hL : oX8 t a) (hM : xMR M) (hx1 : xR x1) (hp : p_X8_emit a x1 M Q) : xCt G yX8_emit cX8_emit 2 none 0 0 0 [vr a, vi x1] t M (fun v t' M' => v = none ∧ xMR M' ∧ t' = t ∧ Q M') (fun _ _ _ => False) := by
  refine xCt_of (L0 := [vr a, vi x1]) (by decide +kernel) (Nat.le_of_ble_eq_true rfl) rfl ?_
  intro X hX hB
  unfold p_X8_emit at hp
  refine xJ_aload_n hX dX8_emit_0 rfl ?_
  refine xJ_getI hX dX8_emit_1 fd_X8_77 rfl (oX8_k hL) ?_
  refine xJ_if_lt hX dX8_emit_4 (tgt := 39) (by decide) (hM _ _) (fun c4 => ?_) (fun c4 => ?_)
  · replace hp := hp.1 c4
    refine xJ_vret hX hB dX8_emit_39 (by decide) (by decide) ⟨rfl, hM, rfl, hp⟩
  · replace hp := hp.2 c4
    refine xJ_aload_n hX dX8_emit_7 rfl ?_
    refine xJ_getI hX dX8_emit_8 fd_X8_77 rfl (oX8_k hL) ?_
    refine xJ_aload_n hX dX8_emit_11 rfl ?_
    refine xJ_getR (b := (a + 42)) hX dX8_emit_12 fd_X8_25 rfl (oX8_k hL) (oX8_r4 hL) ?_
    refine xJ_alen hX dX8_emit_15 (by rw [(oX8_k4 hL)]; decide) (by rw [(oX8_k4 hL)]; decide) ?_
    rw [(oX8_n4 hL)]
    refine xJ_icmp_ge hX dX8_emit_16 (tgt := 39) (by decide) (hM _ _) ⟨by decide, by decide⟩ (fun c16 => ?_) (fun c16 => ?_)
    · replace hp := hp.1 c16
      refine xJ_vret hX hB dX8_emit_39 (by decide) (by decide) ⟨rfl, hM, rfl, hp⟩
    · replace hp := hp.2 c16
      refine xJ_aload_n hX dX8_emit_19 rfl ?_
      refine xJ_getR (b := (a + 42)) hX dX8_emit_20 fd_X8_25 rfl (oX8_k hL) (oX8_r4 hL) ?_
      refine xJ_aload_n hX dX8_emit_23 rfl ?_
      refine xJ_getI hX dX8_emit_24 fd_X8_77 rfl (oX8_k hL) ?_
      refine xJ_iload_n hX dX8_emit_27 rfl ?_
      obtain ⟨h28, hp⟩ := hp
      refine xJ_iastM hX dX8_emit_28 (oX8_k4 hL) h28.1 (xnlt (oX8_n4 hL) h28.2) hM hx1 (fun M28 e28 hM28 => ?_)
      replace hp := hp M28 e28
      refine xJ_aload_n hX dX8_emit_29 rfl ?_
      refine xJ_dup hX dX8_emit_30 rfl ?_
      refine xJ_getI hX dX8_emit_31 fd_X8_77 rfl (oX8_k hL) ?_
      refine xJ_iconst hX dX8_emit_34 ?_
      refine xJ_iadd hX dX8_emit_35 ?_
      obtain ⟨h35, hp⟩ := hp
      refine xJ_putIM hX dX8_emit_36 fd_X8_77 ft_X8 rfl rfl rfl rfl (oX8_k hL) hM28 h35 (fun M36 e36 hM36 => ?_)
      replace hp := hp M36 e36
      refine xJ_vret hX hB dX8_emit_39 (by decide) (by decide) ⟨rfl, hM36, rfl, hp⟩
