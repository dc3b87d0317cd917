def p_X10_copyFrom (t : xTh) (a : Nat) (b1 : Nat) (M : xMe) (Q : xTh → xMe → Prop) : Prop :=
  p_X2_copyFrom (a + 1) (b1 + 1) M (fun M8 => p_X1_copyFrom (a + 5) (b1 + 5) M8 (fun M19 => p_X4_copyFrom (a + 10) (b1 + 10) M19 (fun M30 => p_X5_copyFrom (a + 16) (b1 + 16) M30 (fun M41 => p_X0_copyFrom (a + 25) (b1 + 25) M41 (fun M52 => p_X6_copyFrom (a + 30) (b1 + 30) M52 (fun M63 => (∀ t71 : xTh, t71 = xwr t a 6 (some (xq t b1)) → (∀ M79 : xMe, M79 = xw M63 a 7 (M63 b1 7) → (∀ M87 : xMe, M87 = xw M79 a 8 (M79 b1 8) → (∀ M95 : xMe, M95 = xw M87 a 9 (M87 b1 9) → (∀ M103 : xMe, M103 = xw M95 a 10 (M95 b1 10) → (∀ M111 : xMe, M111 = xw M103 a 11 (M103 b1 11) → (∀ M119 : xMe, M119 = xw M111 a 12 (M111 b1 12) → (∀ M124 : xMe, M124 = xw M119 a 13 ((-1)) → (∀ M130 : xMe, M130 = xw M124 a 14 1000000 → Q t71 M130)))))))))))))))
set_option maxHeartbeats 4000000 in
set_option maxRecDepth 100000 in
theorem c_X10_copyFrom {G : xGx} {t : xTh} {M : xMe} {a : Nat} {b1 : Nat} {Q : xTh → xMe → Prop} (hL : oX10 t a) (hL1 : oX10 t b1) (hQ1 : oQ t b1) (hM : xMR M)(hp : p_X10_copyFrom t a b1 M Q) : xCt G yX10_copyFrom cX10_copyFrom 2 none 3 0 0 [vr a, vr b1] t M (fun v t' M' => v = none ∧ xMR M' ∧ xqs t t' ∧ t' = xwr t a 6 (some (xq t b1)) ∧ Q t' M') (fun _ _ _ => False) := by
  refine xCt_of (L0 := [vr a, vr b1]) (by decide +kernel) (Nat.le_of_ble_eq_true rfl) rfl ?_
  intro X hX hB
  unfold p_X10_copyFrom at hp
  refine xJ_aload_n hX dX10_copyFrom_0 rfl ?_
  refine xJ_getR (b := (a + 1)) hX dX10_copyFrom_1 fd_X10_12 rfl (oX10_k hL) (oX10_r0 hL) ?_
  refine xJ_aload_n hX dX10_copyFrom_4 rfl ?_
  refine xJ_getR (b := (b1 + 1)) hX dX10_copyFrom_5 fd_X10_12 rfl (oX10_k hL1) (oX10_r0 hL1) ?_
  refine xJ_callV (As := [_]) hX hB dX10_copyFrom_8 lk_X10_79 im_X2_copyFrom se_X2_copyFrom rfl (by decide) (oX2_k (oX10_o0 hL)) (c_X2_copyFrom (oX10_o0 hL) (oX10_o0 hL1) hM hp) (by decide) rfl rfl rfl (Nat.le_of_ble_eq_true rfl) (by decide) (by decide) (fun v t9 M8 hv => ?_) (fun _ _ _ q => q.elim)
  obtain ⟨rfl, hM8, ht9, hp⟩ := hv
  replace ht9 := ht9.symm
  subst ht9
  dsimp only [Option.toList, List.cons_append, List.nil_append]
  refine xJ_aload_n hX dX10_copyFrom_11 rfl ?_
  refine xJ_getR (b := (a + 5)) hX dX10_copyFrom_12 fd_X10_21 rfl (oX10_k hL) (oX10_r1 hL) ?_
  refine xJ_aload_n hX dX10_copyFrom_15 rfl ?_
  refine xJ_getR (b := (b1 + 5)) hX dX10_copyFrom_16 fd_X10_21 rfl (oX10_k hL1) (oX10_r1 hL1) ?_
  refine xJ_callV (As := [_]) hX hB dX10_copyFrom_19 lk_X10_83 im_X1_copyFrom se_X1_copyFrom rfl (by decide) (oX1_k (oX10_o1 hL)) (c_X1_copyFrom (oX10_o1 hL) (oX10_o1 hL1) hM8 hp) (by decide) rfl rfl rfl (Nat.le_of_ble_eq_true rfl) (by decide) (by decide) (fun v t9 M19 hv => ?_) (fun _ _ _ q => q.elim)
  obtain ⟨rfl, hM19, ht9, hp⟩ := hv
  replace ht9 := ht9.symm
  subst ht9
  dsimp only [Option.toList, List.cons_append, List.nil_append]
  refine xJ_aload_n hX dX10_copyFrom_22 rfl ?_
  refine xJ_getR (b := (a + 10)) hX dX10_copyFrom_23 fd_X10_28 rfl (oX10_k hL) (oX10_r2 hL) ?_
  refine xJ_aload_n hX dX10_copyFrom_26 rfl ?_
  refine xJ_getR (b := (b1 + 10)) hX dX10_copyFrom_27 fd_X10_28 rfl (oX10_k hL1) (oX10_r2 hL1) ?_
  refine xJ_callV (As := [_]) hX hB dX10_copyFrom_30 lk_X10_86 im_X4_copyFrom se_X4_copyFrom rfl (by decide) (oX4_k (oX10_o2 hL)) (c_X4_copyFrom (oX10_o2 hL) (oX10_o2 hL1) hM19 hp) (by decide) rfl rfl rfl (Nat.le_of_ble_eq_true rfl) (by decide) (by decide) (fun v t9 M30 hv => ?_) (fun _ _ _ q => q.elim)
  obtain ⟨rfl, hM30, ht9, hp⟩ := hv
  replace ht9 := ht9.symm
  subst ht9
  dsimp only [Option.toList, List.cons_append, List.nil_append]
  refine xJ_aload_n hX dX10_copyFrom_33 rfl ?_
  refine xJ_getR (b := (a + 16)) hX dX10_copyFrom_34 fd_X10_35 rfl (oX10_k hL) (oX10_r3 hL) ?_
  refine xJ_aload_n hX dX10_copyFrom_37 rfl ?_
  refine xJ_getR (b := (b1 + 16)) hX dX10_copyFrom_38 fd_X10_35 rfl (oX10_k hL1) (oX10_r3 hL1) ?_
  refine xJ_callV (As := [_]) hX hB dX10_copyFrom_41 lk_X10_89 im_X5_copyFrom se_X5_copyFrom rfl (by decide) (oX5_k (oX10_o3 hL)) (c_X5_copyFrom (oX10_o3 hL) (oX10_o3 hL1) hM30 hp) (by decide) rfl rfl rfl (Nat.le_of_ble_eq_true rfl) (by decide) (by decide) (fun v t9 M41 hv => ?_) (fun _ _ _ q => q.elim)
  obtain ⟨rfl, hM41, ht9, hp⟩ := hv
  replace ht9 := ht9.symm
  subst ht9
  dsimp only [Option.toList, List.cons_append, List.nil_append]
  refine xJ_aload_n hX dX10_copyFrom_44 rfl ?_
  refine xJ_getR (b := (a + 25)) hX dX10_copyFrom_45 fd_X10_42 rfl (oX10_k hL) (oX10_r4 hL) ?_
  refine xJ_aload_n hX dX10_copyFrom_48 rfl ?_
  refine xJ_getR (b := (b1 + 25)) hX dX10_copyFrom_49 fd_X10_42 rfl (oX10_k hL1) (oX10_r4 hL1) ?_
  refine xJ_callV (As := [_]) hX hB dX10_copyFrom_52 lk_X10_92 im_X0_copyFrom se_X0_copyFrom rfl (by decide) (oX0_k (oX10_o4 hL)) (c_X0_copyFrom (oX10_o4 hL) (oX10_o4 hL1) hM41 hp) (by decide) rfl rfl rfl (Nat.le_of_ble_eq_true rfl) (by decide) (by decide) (fun v t9 M52 hv => ?_) (fun _ _ _ q => q.elim)
  obtain ⟨rfl, hM52, ht9, hp⟩ := hv
  replace ht9 := ht9.symm
  subst ht9
  dsimp only [Option.toList, List.cons_append, List.nil_append]
  refine xJ_aload_n hX dX10_copyFrom_55 rfl ?_
  refine xJ_getR (b := (a + 30)) hX dX10_copyFrom_56 fd_X10_49 rfl (oX10_k hL) (oX10_r5 hL) ?_
  refine xJ_aload_n hX dX10_copyFrom_59 rfl ?_
  refine xJ_getR (b := (b1 + 30)) hX dX10_copyFrom_60 fd_X10_49 rfl (oX10_k hL1) (oX10_r5 hL1) ?_
  refine xJ_callV (As := [_]) hX hB dX10_copyFrom_63 lk_X10_95 im_X6_copyFrom se_X6_copyFrom rfl (by decide) (oX6_k (oX10_o5 hL)) (c_X6_copyFrom (oX10_o5 hL) (oX10_o5 hL1) hM52 hp) (by decide) rfl rfl rfl (Nat.le_of_ble_eq_true rfl) (by decide) (by decide) (fun v t9 M63 hv => ?_) (fun _ _ _ q => q.elim)
  obtain ⟨rfl, hM63, ht9, hp⟩ := hv
  replace ht9 := ht9.symm
  subst ht9
  dsimp only [Option.toList, List.cons_append, List.nil_append]
  refine xJ_aload_n hX dX10_copyFrom_66 rfl ?_
  refine xJ_aload_n hX dX10_copyFrom_67 rfl ?_
  refine xJ_getR (b := (xq t b1)) hX dX10_copyFrom_68 fd_X10_58 rfl (oX10_k hL1) hQ1.1 ?_
  refine xJ_putPM hX dX10_copyFrom_71 fd_X10_58 (oX10_k hL) hQ1.2 (fun t71 et71 hq71 => ?_)
  replace hp := hp t71 et71
  have hL71_0 := (oX10_le hq71.1 hL)
  have hL71_1 := (oX10_le hq71.1 hL1)
  have hqh71_1 := (hq71.2.1 _ (oX10_k hL1) hQ1)
  refine xJ_aload_n hX dX10_copyFrom_74 rfl ?_
  refine xJ_aload_n hX dX10_copyFrom_75 rfl ?_
  refine xJ_getI hX dX10_copyFrom_76 fd_X10_98 rfl (oX10_k hL71_1) ?_
  refine xJ_putIM hX dX10_copyFrom_79 fd_X10_98 ft_X10 rfl rfl rfl rfl (oX10_k hL71_0) hM63 (hM63 _ _) (fun M79 e79 hM79 => ?_)
  replace hp := hp M79 e79
  refine xJ_aload_n hX dX10_copyFrom_82 rfl ?_
  refine xJ_aload_n hX dX10_copyFrom_83 rfl ?_
  refine xJ_getI hX dX10_copyFrom_84 fd_X10_62 rfl (oX10_k hL71_1) ?_
  refine xJ_putIM hX dX10_copyFrom_87 fd_X10_62 ft_X10 rfl rfl rfl rfl (oX10_k hL71_0) hM79 (hM79 _ _) (fun M87 e87 hM87 => ?_)
  replace hp := hp M87 e87
  refine xJ_aload_n hX dX10_copyFrom_90 rfl ?_
  refine xJ_aload_n hX dX10_copyFrom_91 rfl ?_
  refine xJ_getI hX dX10_copyFrom_92 fd_X10_66 rfl (oX10_k hL71_1) ?_
  refine xJ_putIM hX dX10_copyFrom_95 fd_X10_66 ft_X10 rfl rfl rfl rfl (oX10_k hL71_0) hM87 (hM87 _ _) (fun M95 e95 hM95 => ?_)
  replace hp := hp M95 e95
  refine xJ_aload_n hX dX10_copyFrom_98 rfl ?_
  refine xJ_aload_n hX dX10_copyFrom_99 rfl ?_
  refine xJ_getI hX dX10_copyFrom_100 fd_X10_69 rfl (oX10_k hL71_1) ?_
  refine xJ_putIM hX dX10_copyFrom_103 fd_X10_69 ft_X10 rfl rfl rfl rfl (oX10_k hL71_0) hM95 (hM95 _ _) (fun M103 e103 hM103 => ?_)
  replace hp := hp M103 e103
  refine xJ_aload_n hX dX10_copyFrom_106 rfl ?_
  refine xJ_aload_n hX dX10_copyFrom_107 rfl ?_
  refine xJ_getI hX dX10_copyFrom_108 fd_X10_101 rfl (oX10_k hL71_1) ?_
  refine xJ_putIM hX dX10_copyFrom_111 fd_X10_101 ft_X10 rfl rfl rfl rfl (oX10_k hL71_0) hM103 (hM103 _ _) (fun M111 e111 hM111 => ?_)
  replace hp := hp M111 e111
  refine xJ_aload_n hX dX10_copyFrom_114 rfl ?_
  refine xJ_aload_n hX dX10_copyFrom_115 rfl ?_
  refine xJ_getI hX dX10_copyFrom_116 fd_X10_104 rfl (oX10_k hL71_1) ?_
  refine xJ_putIM hX dX10_copyFrom_119 fd_X10_104 ft_X10 rfl rfl rfl rfl (oX10_k hL71_0) hM111 (hM111 _ _) (fun M119 e119 hM119 => ?_)
  replace hp := hp M119 e119
  refine xJ_aload_n hX dX10_copyFrom_122 rfl ?_
  refine xJ_iconst hX dX10_copyFrom_123 ?_
  refine xJ_putIM hX dX10_copyFrom_124 fd_X10_72 ft_X10 rfl rfl rfl rfl (oX10_k hL71_0) hM119 ⟨by decide, by decide⟩ (fun M124 e124 hM124 => ?_)
  replace hp := hp M124 e124
  refine xJ_aload_n hX dX10_copyFrom_127 rfl ?_
  refine xJ_ldc (1000000) hX dX10_copyFrom_128 kc_X10_75 ?_
  refine xJ_putIM hX dX10_copyFrom_130 fd_X10_76 ft_X10 rfl rfl rfl rfl (oX10_k hL71_0) hM124 ⟨by decide, by decide⟩ (fun M130 e130 hM130 => ?_)
  replace hp := hp M130 e130
  refine xJ_vret hX hB dX10_copyFrom_133 (by decide) (by decide) ⟨rfl, hM130, hq71, et71, hp⟩
def p_X10_clear (t : xTh) (a : Nat) (M : xMe) (Q : xTh → xMe → Prop) : Prop :=
  (∀ M5 : xMe, M5 = xw M (a + 1) 3 0 → (∀ M13 : xMe, M13 = xw M5 (a + 5) 4 0 → (∀ M21 : xMe, M21 = xw M13 (a + 16) 8 0 → (∀ M29 : xMe, M29 = xw M21 (a + 25) 4 0 → p_X6_clear (a + 30) M29 (fun M36 => (∀ (t40 : xTh) (M40 : xMe), xqp t t40 a 1 → M40 = xw0 (xw (xw0 (xw0 M36 (xz t)) (xz t + 1)) (xz t + 1) 0 (-5)) (xz t + 2) → (∀ M60 : xMe, M60 = xw M40 a 7 0 → (∀ M65 : xMe, M65 = xw M60 a 8 1 → (∀ M71 : xMe, M71 = xw M65 a 9 50 → (∀ M77 : xMe, M77 = xw M71 a 10 10 → (∀ M82 : xMe, M82 = xw M77 a 11 0 → (∀ M87 : xMe, M87 = xw M82 a 12 0 → Q t40 M87))))))))))))
set_option maxHeartbeats 4000000 in
set_option maxRecDepth 100000 in
theorem c_X10_clear {G : xGx} {t : xTh} {M : xMe} {a : Nat} {Q : xTh → xMe → Prop} (hL : oX10 t a) (hM : xMR M)(hp : p_X10_clear t a M Q) : xCt G yX10_clear cX10_clear 1 none 2 3 14 [vr a] t M (fun v t' M' => v = none ∧ xMR M' ∧ xqs t t' ∧ True ∧ Q t' M') (fun _ _ _ => False) := by
  refine xCt_of (L0 := [vr a]) (by decide +kernel) (Nat.le_of_ble_eq_true rfl) rfl ?_
  intro X hX hB
  unfold p_X10_clear at hp
  refine xJ_aload_n hX dX10_clear_0 rfl ?_
  refine xJ_getR (b := (a + 1)) hX dX10_clear_1 fd_X10_12 rfl (oX10_k hL) (oX10_r0 hL) ?_
  refine xJ_iconst hX dX10_clear_4 ?_
  refine xJ_putIM hX dX10_clear_5 fd_X10_107 ft_X2 rfl rfl rfl rfl (oX2_k (oX10_o0 hL)) hM ⟨by decide, by decide⟩ (fun M5 e5 hM5 => ?_)
  replace hp := hp M5 e5
  refine xJ_aload_n hX dX10_clear_8 rfl ?_
  refine xJ_getR (b := (a + 5)) hX dX10_clear_9 fd_X10_21 rfl (oX10_k hL) (oX10_r1 hL) ?_
  refine xJ_iconst hX dX10_clear_12 ?_
  refine xJ_putIM hX dX10_clear_13 fd_X10_110 ft_X1 rfl rfl rfl rfl (oX1_k (oX10_o1 hL)) hM5 ⟨by decide, by decide⟩ (fun M13 e13 hM13 => ?_)
  replace hp := hp M13 e13
  refine xJ_aload_n hX dX10_clear_16 rfl ?_
  refine xJ_getR (b := (a + 16)) hX dX10_clear_17 fd_X10_35 rfl (oX10_k hL) (oX10_r3 hL) ?_
  refine xJ_iconst hX dX10_clear_20 ?_
  refine xJ_putIM hX dX10_clear_21 fd_X10_111 ft_X5 rfl rfl rfl rfl (oX5_k (oX10_o3 hL)) hM13 ⟨by decide, by decide⟩ (fun M21 e21 hM21 => ?_)
  replace hp := hp M21 e21
  refine xJ_aload_n hX dX10_clear_24 rfl ?_
  refine xJ_getR (b := (a + 25)) hX dX10_clear_25 fd_X10_42 rfl (oX10_k hL) (oX10_r4 hL) ?_
  refine xJ_iconst hX dX10_clear_28 ?_
  refine xJ_putIM hX dX10_clear_29 fd_X10_112 ft_X0 rfl rfl rfl rfl (oX0_k (oX10_o4 hL)) hM21 ⟨by decide, by decide⟩ (fun M29 e29 hM29 => ?_)
  replace hp := hp M29 e29
  refine xJ_aload_n hX dX10_clear_32 rfl ?_
  refine xJ_getR (b := (a + 30)) hX dX10_clear_33 fd_X10_49 rfl (oX10_k hL) (oX10_r5 hL) ?_
  refine xJ_callV (As := []) hX hB dX10_clear_36 lk_X10_113 im_X6_clear se_X6_clear rfl (by decide) (oX6_k (oX10_o5 hL)) (c_X6_clear (oX10_o5 hL) hM29 hp) (by decide) rfl rfl rfl (Nat.le_of_ble_eq_true rfl) (by decide) (by decide) (fun v t9 M36 hv => ?_) (fun _ _ _ q => q.elim)
  obtain ⟨rfl, hM36, ht9, hp⟩ := hv
  replace ht9 := ht9.symm
  subst ht9
  dsimp only [Option.toList, List.cons_append, List.nil_append]
  refine xJ_aload_n hX dX10_clear_39 rfl ?_
  refine xJ_prS hX hB dX10_clear_40 dX10_clear_43 dX10_clear_44 dX10_clear_45 dX10_clear_47 dX10_clear_48 dX10_clear_49 dX10_clear_51 dX10_clear_52 dX10_clear_55 (oX10_k hL) rfl (by decide) (by decide) (by decide) (by decide) hM36 (fun t40 M40 hqp40 eM40 hM40 => ?_)
  replace hp := hp t40 M40 hqp40 eM40
  have hq40 := hqp40.1
  have hL40_0 := (oX10_le hq40.1 hL)
  refine xJ_aload_n hX dX10_clear_58 rfl ?_
  refine xJ_iconst hX dX10_clear_59 ?_
  refine xJ_putIM hX dX10_clear_60 fd_X10_98 ft_X10 rfl rfl rfl rfl (oX10_k hL40_0) hM40 ⟨by decide, by decide⟩ (fun M60 e60 hM60 => ?_)
  replace hp := hp M60 e60
  refine xJ_aload_n hX dX10_clear_63 rfl ?_
  refine xJ_iconst hX dX10_clear_64 ?_
  refine xJ_putIM hX dX10_clear_65 fd_X10_62 ft_X10 rfl rfl rfl rfl (oX10_k hL40_0) hM60 ⟨by decide, by decide⟩ (fun M65 e65 hM65 => ?_)
  replace hp := hp M65 e65
  refine xJ_aload_n hX dX10_clear_68 rfl ?_
  refine xJ_bipush hX dX10_clear_69 rfl ?_
  refine xJ_putIM hX dX10_clear_71 fd_X10_66 ft_X10 rfl rfl rfl rfl (oX10_k hL40_0) hM65 ⟨by decide, by decide⟩ (fun M71 e71 hM71 => ?_)
  replace hp := hp M71 e71
  refine xJ_aload_n hX dX10_clear_74 rfl ?_
  refine xJ_bipush hX dX10_clear_75 rfl ?_
  refine xJ_putIM hX dX10_clear_77 fd_X10_69 ft_X10 rfl rfl rfl rfl (oX10_k hL40_0) hM71 ⟨by decide, by decide⟩ (fun M77 e77 hM77 => ?_)
  replace hp := hp M77 e77
  refine xJ_aload_n hX dX10_clear_80 rfl ?_
  refine xJ_iconst hX dX10_clear_81 ?_
  refine xJ_putIM hX dX10_clear_82 fd_X10_101 ft_X10 rfl rfl rfl rfl (oX10_k hL40_0) hM77 ⟨by decide, by decide⟩ (fun M82 e82 hM82 => ?_)
  replace hp := hp M82 e82
  refine xJ_aload_n hX dX10_clear_85 rfl ?_
  refine xJ_iconst hX dX10_clear_86 ?_
  refine xJ_putIM hX dX10_clear_87 fd_X10_104 ft_X10 rfl rfl rfl rfl (oX10_k hL40_0) hM82 ⟨by decide, by decide⟩ (fun M87 e87 hM87 => ?_)
  replace hp := hp M87 e87
  refine xJ_vret hX hB dX10_clear_90 (by decide) (by decide) ⟨rfl, hM87, hq40, trivial, hp⟩
def p_X8_read_76 (F : Nat) (a : Nat) (t29 : xTh) (Q : xTh → xMe → Prop) (K117 : xMe → Prop) : Nat → Int → xMe → Prop
  | 0, _, _ => False
  | k + 1, x2, M =>
    ((700 ≤ x2 → K117 M) ∧ (x2 < 700 → (((M a 2) ≠ 0 → K117 M) ∧ ((M a 2) = 0 → (((M (a + 1) 4) = ((-1)) → K117 M) ∧ ((M (a + 1) 4) ≠ ((-1)) → p_X8_readStatement F a M (fun M102 => p_X8_takeSign F a 59 M102 (fun M108 => (xR (x2 + 1)) ∧ p_X8_read_76 F a t29 Q K117 k (x2 + 1) M108))))))))
def p_X8_read (F : Nat) (t : xTh) (a : Nat) (x1 : Int) (M : xMe) (Q : xTh → xMe → Prop) : Prop :=
  (∀ M2 : xMe, M2 = xw M a 2 0 → (∀ M7 : xMe, M7 = xw M2 a 3 ((-1)) → (∀ M12 : xMe, M12 = xw M7 a 6 0 → (∀ M17 : xMe, M17 = xw M12 a 7 0 → (∀ M22 : xMe, M22 = xw M17 a 8 0 → p_X10_clear t (a + 3) M22 (fun t29 M29 => p_X9_open F (a + 1) x1 M29 (fun M37 => p_X9_isWord F (a + 1) 0 M37 (fun r46 M46 => ((r46 = 0 → p_X8_fail a ((-2)) M46 (fun M71 => p_X8_read_76 F a t29 Q (fun M => p_X10_clearLines F (a + 3) M (fun M121 => (((M121 a 2) ≠ 0 → Q t29 M121) ∧ ((M121 a 2) = 0 → (((M121 a 8) = 0 → Q t29 M121) ∧ ((M121 a 8) ≠ 0 → (((M121 a 5) < 0 → Q t29 M121) ∧ (0 ≤ (M121 a 5) → (((((700 : Nat) : Int)) < (M121 a 5) → Q t29 M121) ∧ ((M121 a 5) ≤ (((700 : Nat) : Int)) → ((0 : Int) ≤ M121 a 5 ∧ M121 a 5 < 700) ∧ (∀ (t161 : xTh) (M161 : xMe), xqp t29 t161 (a + 3) (M121 a 5).toNat → M161 = xw0 (xcp (xw0 (xw0 M121 (xz t29)) (xz t29 + 1)) (a + 42) (xz t29 + 1) 0 0 (M121 a 5).toNat) (xz t29 + 2) → Q t161 M161))))))))))) F 0 M71)) ∧ (r46 ≠ 0 → p_X9_moveOn F (a + 1) M46 (fun M56 => p_X8_takeSign F a 59 M56 (fun M62 => p_X8_read_76 F a t29 Q (fun M => p_X10_clearLines F (a + 3) M (fun M121 => (((M121 a 2) ≠ 0 → Q t29 M121) ∧ ((M121 a 2) = 0 → (((M121 a 8) = 0 → Q t29 M121) ∧ ((M121 a 8) ≠ 0 → (((M121 a 5) < 0 → Q t29 M121) ∧ (0 ≤ (M121 a 5) → (((((700 : Nat) : Int)) < (M121 a 5) → Q t29 M121) ∧ ((M121 a 5) ≤ (((700 : Nat) : Int)) → ((0 : Int) ≤ M121 a 5 ∧ M121 a 5 < 700) ∧ (∀ (t161 : xTh) (M161 : xMe), xqp t29 t161 (a + 3) (M121 a 5).toNat → M161 = xw0 (xcp (xw0 (xw0 M121 (xz t29)) (xz t29 + 1)) (a + 42) (xz t29 + 1) 0 0 (M121 a 5).toNat) (xz t29 + 2) → Q t161 M161))))))))))) F 0 M62))))))))))))
set_option maxHeartbeats 4000000 in
set_option maxRecDepth 100000 in
theorem c_X8_read {G : xGx} {t : xTh} {M : xMe} {F : Nat} {a : Nat} {x1 : Int} {Q : xTh → xMe → Prop} (hL : oX8 t a) (hM : xMR M) (hx1 : xR x1) (hp : p_X8_read F t a x1 M Q) : xCt G yX8_read cX8_read 3 none 114 6 1027 [vr a, vi x1] t M (fun v t' M' => v = none ∧ xMR M' ∧ xqs t t' ∧ True ∧ Q t' M') (fun _ _ _ => False) := by
  refine xCt_of (L0 := [vr a, vi x1, vU]) (by decide +kernel) (Nat.le_of_ble_eq_true rfl) rfl ?_
  intro X hX hB
  unfold p_X8_read at hp
  refine xJ_aload_n hX dX8_read_0 rfl ?_
  refine xJ_iconst hX dX8_read_1 ?_
  refine xJ_putIM hX dX8_read_2 fd_X8_29 ft_X8 rfl rfl rfl rfl (oX8_k hL) hM ⟨by decide, by decide⟩ (fun M2 e2 hM2 => ?_)
  replace hp := hp M2 e2
  refine xJ_aload_n hX dX8_read_5 rfl ?_
  refine xJ_iconst hX dX8_read_6 ?_
  refine xJ_putIM hX dX8_read_7 fd_X8_33 ft_X8 rfl rfl rfl rfl (oX8_k hL) hM2 ⟨by decide, by decide⟩ (fun M7 e7 hM7 => ?_)
  replace hp := hp M7 e7
  refine xJ_aload_n hX dX8_read_10 rfl ?_
  refine xJ_iconst hX dX8_read_11 ?_
  refine xJ_putIM hX dX8_read_12 fd_X8_36 ft_X8 rfl rfl rfl rfl (oX8_k hL) hM7 ⟨by decide, by decide⟩ (fun M12 e12 hM12 => ?_)
  replace hp := hp M12 e12
  refine xJ_aload_n hX dX8_read_15 rfl ?_
  refine xJ_iconst hX dX8_read_16 ?_
  refine xJ_putIM hX dX8_read_17 fd_X8_40 ft_X8 rfl rfl rfl rfl (oX8_k hL) hM12 ⟨by decide, by decide⟩ (fun M17 e17 hM17 => ?_)
  replace hp := hp M17 e17
  refine xJ_aload_n hX dX8_read_20 rfl ?_
  refine xJ_iconst hX dX8_read_21 ?_
  refine xJ_putIM hX dX8_read_22 fd_X8_43 ft_X8 rfl rfl rfl rfl (oX8_k hL) hM17 ⟨by decide, by decide⟩ (fun M22 e22 hM22 => ?_)
  replace hp := hp M22 e22
  refine xJ_aload_n hX dX8_read_25 rfl ?_
  refine xJ_getR (b := (a + 3)) hX dX8_read_26 fd_X8_21 rfl (oX8_k hL) (oX8_r1 hL) ?_
  refine xJ_callV (As := []) hX hB dX8_read_29 lk_X8_46 im_X10_clear se_X10_clear rfl (by decide) (oX10_k (oX8_o1 hL)) (c_X10_clear (oX8_o1 hL) hM22 hp) (by decide) rfl rfl rfl (Nat.le_of_ble_eq_true rfl) (by decide) (by decide) (fun v t29 M29 hv => ?_) (fun _ _ _ q => q.elim)
  obtain ⟨rfl, hM29, hq29, et29, hp⟩ := hv
  have hL29_0 := (oX8_le hq29.1 hL)
  dsimp only [Option.toList, List.cons_append, List.nil_append]
  refine xJ_aload_n hX dX8_read_32 rfl ?_
  refine xJ_getR (b := (a + 1)) hX dX8_read_33 fd_X8_12 rfl (oX8_k hL29_0) (oX8_r0 hL29_0) ?_
  refine xJ_iload_n hX dX8_read_36 rfl ?_
  refine xJ_callV (As := [_]) hX hB dX8_read_37 lk_X8_49 im_X9_open se_X9_open rfl (by decide) (oX9_k (oX8_o0 hL29_0)) (c_X9_open (oX8_o0 hL29_0) hM29 hx1 hp) (by decide) rfl rfl rfl (Nat.le_of_ble_eq_true rfl) (by decide) (by decide) (fun v t9 M37 hv => ?_) (fun _ _ _ q => q.elim)
  obtain ⟨rfl, hM37, ht9, hp⟩ := hv
  replace ht9 := ht9.symm
  subst ht9
  dsimp only [Option.toList, List.cons_append, List.nil_append]
  refine xJ_aload_n hX dX8_read_40 rfl ?_
  refine xJ_getR (b := (a + 1)) hX dX8_read_41 fd_X8_12 rfl (oX8_k hL29_0) (oX8_r0 hL29_0) ?_
  refine xJ_ldcS 0 hX dX8_read_44 (by decide +kernel) ?_
  refine xJ_callV (As := [_]) hX hB dX8_read_46 lk_X8_55 im_X9_isWord se_X9_isWord rfl (by decide) (oX9_k (oX8_o0 hL29_0)) (c_X9_isWord (oX8_o0 hL29_0) (by decide) hM37 hp) (by decide) rfl rfl rfl (Nat.le_of_ble_eq_true rfl) (by decide) (by decide) (fun v t9 M46 hv => ?_) (fun _ _ _ q => q.elim)
  obtain ⟨r46, rfl, h46, hM46, ht9, hp⟩ := hv
  replace ht9 := ht9.symm
  subst ht9
  dsimp only [Option.toList, List.cons_append, List.nil_append]
  refine xJ_if_eq hX dX8_read_49 (tgt := 68) (by decide) h46 (fun c49 => ?_) (fun c49 => ?_)
  · replace hp := hp.1 c49
    refine xJ_aload_n hX dX8_read_68 rfl ?_
    refine xJ_bipush hX dX8_read_69 rfl ?_
    refine xJ_callV (As := [_]) hX hB dX8_read_71 lk_X8_65 im_X8_fail se_X8_fail rfl (by decide) (oX8_k hL29_0) (c_X8_fail hL29_0 hM46 ⟨by decide, by decide⟩ hp) (by decide) rfl rfl rfl (Nat.le_of_ble_eq_true rfl) (by decide) (by decide) (fun v t9 M71 hv => ?_) (fun _ _ _ q => q.elim)
    obtain ⟨rfl, hM71, ht9, hp⟩ := hv
    replace ht9 := ht9.symm
    subst ht9
    dsimp only [Option.toList, List.cons_append, List.nil_append]
    refine xJ_iconst hX dX8_read_74 ?_
    refine xJ_istore_n hX dX8_read_75 (Nat.le_of_ble_eq_true rfl) rfl ?_
    dsimp only [List.set]
    refine xJ_fg 1 ?_
    dsimp only [List.set]
    have lp76 : ∀ (K117 : xMe → Prop) (hK117 : ∀ (M : xMe) (hM : xMR M) (hp : K117 M), xJ X 3 14 t29 M 117 [vr a, vU, vU] []) (k : Nat) (x2 : Int) (M : xMe) (hM : xMR M) (hx2 : xR x2) (hp : p_X8_read_76 F a t29 Q K117 k x2 M), xJ X 3 14 t29 M 76 [vr a, vU, vi x2] [] := by
      intro K117 hK117 k
      induction k with
      | zero => intro x2 M hM hx2 hp; exact hp.elim
      | succ k ih =>
        intro x2 M hM hx2 hp
        unfold p_X8_read_76 at hp
        refine xJ_iload_n hX dX8_read_76 rfl ?_
        refine xJ_sipush hX dX8_read_77 rfl ?_
        refine xJ_icmp_ge hX dX8_read_80 (tgt := 117) (by decide) hx2 ⟨by decide, by decide⟩ (fun c80 => ?_) (fun c80 => ?_)
        · replace hp := hp.1 c80
          refine xJ_fg 2 ?_
          dsimp only [List.set]
          exact hK117 _ hM hp
        · replace hp := hp.2 c80
          refine xJ_aload_n hX dX8_read_83 rfl ?_
          refine xJ_getI hX dX8_read_84 fd_X8_29 rfl (oX8_k hL29_0) ?_
          refine xJ_if_ne hX dX8_read_87 (tgt := 117) (by decide) (hM _ _) (fun c87 => ?_) (fun c87 => ?_)
          · replace hp := hp.1 c87
            refine xJ_fg 2 ?_
            dsimp only [List.set]
            exact hK117 _ hM hp
          · replace hp := hp.2 c87
            refine xJ_aload_n hX dX8_read_90 rfl ?_
            refine xJ_getR (b := (a + 1)) hX dX8_read_91 fd_X8_12 rfl (oX8_k hL29_0) (oX8_r0 hL29_0) ?_
            refine xJ_getI hX dX8_read_94 fd_X8_68 rfl (oX9_k (oX8_o0 hL29_0)) ?_
            refine xJ_iconst hX dX8_read_97 ?_
            refine xJ_icmp_eq hX dX8_read_98 (tgt := 117) (by decide) (hM _ _) ⟨by decide, by decide⟩ (fun c98 => ?_) (fun c98 => ?_)
            · replace hp := hp.1 c98
              refine xJ_fg 2 ?_
              dsimp only [List.set]
              exact hK117 _ hM hp
            · replace hp := hp.2 c98
              refine xJ_aload_n hX dX8_read_101 rfl ?_
              refine xJ_callV (As := []) hX hB dX8_read_102 lk_X8_71 im_X8_readStatement se_X8_readStatement rfl (by decide) (oX8_k hL29_0) (c_X8_readStatement hL29_0 hM hp) (by decide) rfl rfl rfl (Nat.le_of_ble_eq_true rfl) (by decide) (by decide) (fun v t9 M102 hv => ?_) (fun _ _ _ q => q.elim)
              obtain ⟨rfl, hM102, ht9, hp⟩ := hv
              replace ht9 := ht9.symm
              subst ht9
              dsimp only [Option.toList, List.cons_append, List.nil_append]
              refine xJ_aload_n hX dX8_read_105 rfl ?_
              refine xJ_bipush hX dX8_read_106 rfl ?_
              refine xJ_callV (As := [_]) hX hB dX8_read_108 lk_X8_62 im_X8_takeSign se_X8_takeSign rfl (by decide) (oX8_k hL29_0) (c_X8_takeSign hL29_0 hM102 ⟨by decide, by decide⟩ hp) (by decide) rfl rfl rfl (Nat.le_of_ble_eq_true rfl) (by decide) (by decide) (fun v t9 M108 hv => ?_) (fun _ _ _ q => q.elim)
              obtain ⟨rfl, hM108, ht9, hp⟩ := hv
              replace ht9 := ht9.symm
              subst ht9
              dsimp only [Option.toList, List.cons_append, List.nil_append]
              refine xJ_iinc hX dX8_read_111 rfl rfl ?_
              dsimp only [List.set]
              obtain ⟨h111, hp⟩ := hp
              refine xJ_goto hX dX8_read_114 (tgt := 76) (by decide) ?_
              exact ih _ _ hM108 h111 hp
    refine lp76 _ (fun M hM hp => ?_) F _ _ hM71 ⟨by decide, by decide⟩ hp
    · refine xJ_aload_n hX dX8_read_117 rfl ?_
      refine xJ_getR (b := (a + 3)) hX dX8_read_118 fd_X8_21 rfl (oX8_k hL29_0) (oX8_r1 hL29_0) ?_
      refine xJ_callV (As := []) hX hB dX8_read_121 lk_X8_74 im_X10_clearLines se_X10_clearLines rfl (by decide) (oX10_k (oX8_o1 hL29_0)) (c_X10_clearLines (oX8_o1 hL29_0) hM hp) (by decide) rfl rfl rfl (Nat.le_of_ble_eq_true rfl) (by decide) (by decide) (fun v t9 M121 hv => ?_) (fun _ _ _ q => q.elim)
      obtain ⟨rfl, hM121, ht9, hp⟩ := hv
      replace ht9 := ht9.symm
      subst ht9
      dsimp only [Option.toList, List.cons_append, List.nil_append]
      refine xJ_aload_n hX dX8_read_124 rfl ?_
      refine xJ_getI hX dX8_read_125 fd_X8_29 rfl (oX8_k hL29_0) ?_
      refine xJ_if_ne hX dX8_read_128 (tgt := 182) (by decide) (hM121 _ _) (fun c128 => ?_) (fun c128 => ?_)
      · replace hp := hp.1 c128
        refine xJ_vret hX hB dX8_read_182 (by decide) (by decide) ⟨rfl, hM121, hq29, trivial, hp⟩
      · replace hp := hp.2 c128
        refine xJ_aload_n hX dX8_read_131 rfl ?_
        refine xJ_getI hX dX8_read_132 fd_X8_43 rfl (oX8_k hL29_0) ?_
        refine xJ_if_eq hX dX8_read_135 (tgt := 182) (by decide) (hM121 _ _) (fun c135 => ?_) (fun c135 => ?_)
        · replace hp := hp.1 c135
          refine xJ_vret hX hB dX8_read_182 (by decide) (by decide) ⟨rfl, hM121, hq29, trivial, hp⟩
        · replace hp := hp.2 c135
          refine xJ_aload_n hX dX8_read_138 rfl ?_
          refine xJ_getI hX dX8_read_139 fd_X8_77 rfl (oX8_k hL29_0) ?_
          refine xJ_if_lt hX dX8_read_142 (tgt := 182) (by decide) (hM121 _ _) (fun c142 => ?_) (fun c142 => ?_)
          · replace hp := hp.1 c142
            refine xJ_vret hX hB dX8_read_182 (by decide) (by decide) ⟨rfl, hM121, hq29, trivial, hp⟩
          · replace hp := hp.2 c142
            refine xJ_aload_n hX dX8_read_145 rfl ?_
            refine xJ_getI hX dX8_read_146 fd_X8_77 rfl (oX8_k hL29_0) ?_
            refine xJ_aload_n hX dX8_read_149 rfl ?_
            refine xJ_getR (b := (a + 42)) hX dX8_read_150 fd_X8_25 rfl (oX8_k hL29_0) (oX8_r4 hL29_0) ?_
            refine xJ_alen hX dX8_read_153 (by rw [(oX8_k4 hL29_0)]; decide) (by rw [(oX8_k4 hL29_0)]; decide) ?_
            rw [(oX8_n4 hL29_0)]
            refine xJ_icmp_gt hX dX8_read_154 (tgt := 182) (by decide) (hM121 _ _) ⟨by decide, by decide⟩ (fun c154 => ?_) (fun c154 => ?_)
            · replace hp := hp.1 c154
              refine xJ_vret hX hB dX8_read_182 (by decide) (by decide) ⟨rfl, hM121, hq29, trivial, hp⟩
            · replace hp := hp.2 c154
              refine xJ_aload_n hX dX8_read_157 rfl ?_
              refine xJ_getR (b := (a + 3)) hX dX8_read_158 fd_X8_21 rfl (oX8_k hL29_0) (oX8_r1 hL29_0) ?_
              obtain ⟨h161, hp⟩ := hp
              refine xJ_prR hX hB rfl rfl hL29_0 hM121 h161.1 h161.2 (by decide) (by decide) (by decide) (fun t161 M161 hqp161 eM161 hM161 => ?_)
              replace hp := hp t161 M161 hqp161 eM161
              have hq161 := hqp161.1
              have hL161_0 := (oX8_le hq161.1 hL29_0)
              refine xJ_vret hX hB dX8_read_182 (by decide) (by decide) ⟨rfl, hM161, (xqs_trans hq29 hq161), trivial, hp⟩
  · replace hp := hp.2 c49
    refine xJ_aload_n hX dX8_read_52 rfl ?_
    refine xJ_getR (b := (a + 1)) hX dX8_read_53 fd_X8_12 rfl (oX8_k hL29_0) (oX8_r0 hL29_0) ?_
    refine xJ_callV (As := []) hX hB dX8_read_56 lk_X8_59 im_X9_moveOn se_X9_moveOn rfl (by decide) (oX9_k (oX8_o0 hL29_0)) (c_X9_moveOn (oX8_o0 hL29_0) hM46 hp) (by decide) rfl rfl rfl (Nat.le_of_ble_eq_true rfl) (by decide) (by decide) (fun v t9 M56 hv => ?_) (fun _ _ _ q => q.elim)
    obtain ⟨rfl, hM56, ht9, hp⟩ := hv
    replace ht9 := ht9.symm
    subst ht9
    dsimp only [Option.toList, List.cons_append, List.nil_append]
    refine xJ_aload_n hX dX8_read_59 rfl ?_
    refine xJ_bipush hX dX8_read_60 rfl ?_
    refine xJ_callV (As := [_]) hX hB dX8_read_62 lk_X8_62 im_X8_takeSign se_X8_takeSign rfl (by decide) (oX8_k hL29_0) (c_X8_takeSign hL29_0 hM56 ⟨by decide, by decide⟩ hp) (by decide) rfl rfl rfl (Nat.le_of_ble_eq_true rfl) (by decide) (by decide) (fun v t9 M62 hv => ?_) (fun _ _ _ q => q.elim)
    obtain ⟨rfl, hM62, ht9, hp⟩ := hv
    replace ht9 := ht9.symm
    subst ht9
    dsimp only [Option.toList, List.cons_append, List.nil_append]
    refine xJ_goto hX dX8_read_65 (tgt := 74) (by decide) ?_
    refine xJ_iconst hX dX8_read_74 ?_
    refine xJ_istore_n hX dX8_read_75 (Nat.le_of_ble_eq_true rfl) rfl ?_
    dsimp only [List.set]
    refine xJ_fg 1 ?_
    dsimp only [List.set]
    have lp76 : ∀ (K117 : xMe → Prop) (hK117 : ∀ (M : xMe) (hM : xMR M) (hp : K117 M), xJ X 3 14 t29 M 117 [vr a, vU, vU] []) (k : Nat) (x2 : Int) (M : xMe) (hM : xMR M) (hx2 : xR x2) (hp : p_X8_read_76 F a t29 Q K117 k x2 M), xJ X 3 14 t29 M 76 [vr a, vU, vi x2] [] := by
      intro K117 hK117 k
      induction k with
      | zero => intro x2 M hM hx2 hp; exact hp.elim
      | succ k ih =>
        intro x2 M hM hx2 hp
        unfold p_X8_read_76 at hp
        refine xJ_iload_n hX dX8_read_76 rfl ?_
        refine xJ_sipush hX dX8_read_77 rfl ?_
        refine xJ_icmp_ge hX dX8_read_80 (tgt := 117) (by decide) hx2 ⟨by decide, by decide⟩ (fun c80 => ?_) (fun c80 => ?_)
        · replace hp := hp.1 c80
          refine xJ_fg 2 ?_
          dsimp only [List.set]
          exact hK117 _ hM hp
        · replace hp := hp.2 c80
          refine xJ_aload_n hX dX8_read_83 rfl ?_
          refine xJ_getI hX dX8_read_84 fd_X8_29 rfl (oX8_k hL29_0) ?_
          refine xJ_if_ne hX dX8_read_87 (tgt := 117) (by decide) (hM _ _) (fun c87 => ?_) (fun c87 => ?_)
          · replace hp := hp.1 c87
            refine xJ_fg 2 ?_
            dsimp only [List.set]
            exact hK117 _ hM hp
          · replace hp := hp.2 c87
            refine xJ_aload_n hX dX8_read_90 rfl ?_
            refine xJ_getR (b := (a + 1)) hX dX8_read_91 fd_X8_12 rfl (oX8_k hL29_0) (oX8_r0 hL29_0) ?_
            refine xJ_getI hX dX8_read_94 fd_X8_68 rfl (oX9_k (oX8_o0 hL29_0)) ?_
            refine xJ_iconst hX dX8_read_97 ?_
            refine xJ_icmp_eq hX dX8_read_98 (tgt := 117) (by decide) (hM _ _) ⟨by decide, by decide⟩ (fun c98 => ?_) (fun c98 => ?_)
            · replace hp := hp.1 c98
              refine xJ_fg 2 ?_
              dsimp only [List.set]
              exact hK117 _ hM hp
            · replace hp := hp.2 c98
              refine xJ_aload_n hX dX8_read_101 rfl ?_
              refine xJ_callV (As := []) hX hB dX8_read_102 lk_X8_71 im_X8_readStatement se_X8_readStatement rfl (by decide) (oX8_k hL29_0) (c_X8_readStatement hL29_0 hM hp) (by decide) rfl rfl rfl (Nat.le_of_ble_eq_true rfl) (by decide) (by decide) (fun v t9 M102 hv => ?_) (fun _ _ _ q => q.elim)
              obtain ⟨rfl, hM102, ht9, hp⟩ := hv
              replace ht9 := ht9.symm
              subst ht9
              dsimp only [Option.toList, List.cons_append, List.nil_append]
              refine xJ_aload_n hX dX8_read_105 rfl ?_
              refine xJ_bipush hX dX8_read_106 rfl ?_
              refine xJ_callV (As := [_]) hX hB dX8_read_108 lk_X8_62 im_X8_takeSign se_X8_takeSign rfl (by decide) (oX8_k hL29_0) (c_X8_takeSign hL29_0 hM102 ⟨by decide, by decide⟩ hp) (by decide) rfl rfl rfl (Nat.le_of_ble_eq_true rfl) (by decide) (by decide) (fun v t9 M108 hv => ?_) (fun _ _ _ q => q.elim)
              obtain ⟨rfl, hM108, ht9, hp⟩ := hv
              replace ht9 := ht9.symm
              subst ht9
              dsimp only [Option.toList, List.cons_append, List.nil_append]
              refine xJ_iinc hX dX8_read_111 rfl rfl ?_
              dsimp only [List.set]
              obtain ⟨h111, hp⟩ := hp
              refine xJ_goto hX dX8_read_114 (tgt := 76) (by decide) ?_
              exact ih _ _ hM108 h111 hp
    refine lp76 _ (fun M hM hp => ?_) F _ _ hM62 ⟨by decide, by decide⟩ hp
    · refine xJ_aload_n hX dX8_read_117 rfl ?_
      refine xJ_getR (b := (a + 3)) hX dX8_read_118 fd_X8_21 rfl (oX8_k hL29_0) (oX8_r1 hL29_0) ?_
      refine xJ_callV (As := []) hX hB dX8_read_121 lk_X8_74 im_X10_clearLines se_X10_clearLines rfl (by decide) (oX10_k (oX8_o1 hL29_0)) (c_X10_clearLines (oX8_o1 hL29_0) hM hp) (by decide) rfl rfl rfl (Nat.le_of_ble_eq_true rfl) (by decide) (by decide) (fun v t9 M121 hv => ?_) (fun _ _ _ q => q.elim)
      obtain ⟨rfl, hM121, ht9, hp⟩ := hv
      replace ht9 := ht9.symm
      subst ht9
      dsimp only [Option.toList, List.cons_append, List.nil_append]
      refine xJ_aload_n hX dX8_read_124 rfl ?_
      refine xJ_getI hX dX8_read_125 fd_X8_29 rfl (oX8_k hL29_0) ?_
      refine xJ_if_ne hX dX8_read_128 (tgt := 182) (by decide) (hM121 _ _) (fun c128 => ?_) (fun c128 => ?_)
      · replace hp := hp.1 c128
        refine xJ_vret hX hB dX8_read_182 (by decide) (by decide) ⟨rfl, hM121, hq29, trivial, hp⟩
      · replace hp := hp.2 c128
        refine xJ_aload_n hX dX8_read_131 rfl ?_
        refine xJ_getI hX dX8_read_132 fd_X8_43 rfl (oX8_k hL29_0) ?_
        refine xJ_if_eq hX dX8_read_135 (tgt := 182) (by decide) (hM121 _ _) (fun c135 => ?_) (fun c135 => ?_)
        · replace hp := hp.1 c135
          refine xJ_vret hX hB dX8_read_182 (by decide) (by decide) ⟨rfl, hM121, hq29, trivial, hp⟩
        · replace hp := hp.2 c135
          refine xJ_aload_n hX dX8_read_138 rfl ?_
          refine xJ_getI hX dX8_read_139 fd_X8_77 rfl (oX8_k hL29_0) ?_
          refine xJ_if_lt hX dX8_read_142 (tgt := 182) (by decide) (hM121 _ _) (fun c142 => ?_) (fun c142 => ?_)
          · replace hp := hp.1 c142
            refine xJ_vret hX hB dX8_read_182 (by decide) (by decide) ⟨rfl, hM121, hq29, trivial, hp⟩
          · replace hp := hp.2 c142
            refine xJ_aload_n hX dX8_read_145 rfl ?_
            refine xJ_getI hX dX8_read_146 fd_X8_77 rfl (oX8_k hL29_0) ?_
            refine xJ_aload_n hX dX8_read_149 rfl ?_
            refine xJ_getR (b := (a + 42)) hX dX8_read_150 fd_X8_25 rfl (oX8_k hL29_0) (oX8_r4 hL29_0) ?_
            refine xJ_alen hX dX8_read_153 (by rw [(oX8_k4 hL29_0)]; decide) (by rw [(oX8_k4 hL29_0)]; decide) ?_
            rw [(oX8_n4 hL29_0)]
            refine xJ_icmp_gt hX dX8_read_154 (tgt := 182) (by decide) (hM121 _ _) ⟨by decide, by decide⟩ (fun c154 => ?_) (fun c154 => ?_)
            · replace hp := hp.1 c154
              refine xJ_vret hX hB dX8_read_182 (by decide) (by decide) ⟨rfl, hM121, hq29, trivial, hp⟩
            · replace hp := hp.2 c154
              refine xJ_aload_n hX dX8_read_157 rfl ?_
              refine xJ_getR (b := (a + 3)) hX dX8_read_158 fd_X8_21 rfl (oX8_k hL29_0) (oX8_r1 hL29_0) ?_
              obtain ⟨h161, hp⟩ := hp
              refine xJ_prR hX hB rfl rfl hL29_0 hM121 h161.1 h161.2 (by decide) (by decide) (by decide) (fun t161 M161 hqp161 eM161 hM161 => ?_)
              replace hp := hp t161 M161 hqp161 eM161
              have hq161 := hqp161.1
              have hL161_0 := (oX8_le hq161.1 hL29_0)
              refine xJ_vret hX hB dX8_read_182 (by decide) (by decide) ⟨rfl, hM161, (xqs_trans hq29 hq161), trivial, hp⟩
def p_X3_keep (t : xTh) (a : Nat) (b1 : Nat) (M : xMe) (Q : xTh → xMe → Prop) : Prop :=
  ((0 : Int) ≤ (M a 2) ∧ (M a 2) < 8) ∧ p_X10_copyFrom t (a + 2 + 39 * (M a 2).toNat) b1 M (fun t16 M16 => (xR ((M16 a 2) + 1)) ∧ (8 ≠ (0 : Int) ∧ xR (Int.tmod ((M16 a 2) + 1) 8)) ∧ (∀ M29 : xMe, M29 = xw M16 a 2 (Int.tmod ((M16 a 2) + 1) 8) → (xR ((M29 a 1) + 1)) ∧ (∀ M44 : xMe, M44 = xw M29 a 1 (min 8 ((M29 a 1) + 1)) → Q t16 M44)))
set_option maxHeartbeats 4000000 in
set_option maxRecDepth 100000 in
theorem c_X3_keep {G : xGx} {t : xTh} {M : xMe} {a : Nat} {b1 : Nat} {Q : xTh → xMe → Prop} (hL : oX3 t a) (hL1 : oX10 t b1) (hQ1 : oQ t b1) (hM : xMR M)(hp : p_X3_keep t a b1 M Q) : xCt G yX3_keep cX3_keep 3 none 4 0 0 [vr a, vr b1] t M (fun v t' M' => v = none ∧ xMR M' ∧ xqs t t' ∧ True ∧ Q t' M') (fun _ _ _ => False) := by
  refine xCt_of (L0 := [vr a, vr b1, vU]) (by decide +kernel) (Nat.le_of_ble_eq_true rfl) rfl ?_
  intro X hX hB
  unfold p_X3_keep at hp
  refine xJ_aload_n hX dX3_keep_0 rfl ?_
  refine xJ_aload_n hX dX3_keep_1 rfl ?_
  refine xJ_getI hX dX3_keep_2 fd_X3_18 rfl (oX3_k hL) ?_
  obtain ⟨h5, hp⟩ := hp
  refine xJ_callV (As := [_]) hX hB dX3_keep_5 lk_X3_22 im_X3_at se_X3_at rfl (by decide) (oX3_k hL) (c_X3_at hL h5.1 h5.2) (by decide) rfl rfl rfl (Nat.le_of_ble_eq_true rfl) (by decide) (by decide) ?_ (fun _ _ _ q => q.elim)
  rintro _ _ _ ⟨rfl, rfl, rfl⟩
  dsimp only [Option.toList, List.cons_append, List.nil_append]
  refine xJ_astore_n hX dX3_keep_8 (Nat.le_of_ble_eq_true rfl) rfl ?_
  dsimp only [List.set]
  refine xJ_aload_n hX dX3_keep_9 rfl ?_
  refine xJ_ifnonnull hX dX3_keep_10 (tgt := 14) (by decide) ?_
  refine xJ_aload_n hX dX3_keep_14 rfl ?_
  refine xJ_aload_n hX dX3_keep_15 rfl ?_
  refine xJ_callV (As := [_]) hX hB dX3_keep_16 lk_X3_26 im_X10_copyFrom se_X10_copyFrom rfl (by decide) (oX10_k (oX3_w hL _ (xtoN (N := 8) h5.1 h5.2)).2) (c_X10_copyFrom (oX3_w hL _ (xtoN (N := 8) h5.1 h5.2)).2 hL1 hQ1 hM hp) (by decide) rfl rfl rfl (Nat.le_of_ble_eq_true rfl) (by decide) (by decide) (fun v t16 M16 hv => ?_) (fun _ _ _ q => q.elim)
  obtain ⟨rfl, hM16, hq16, et16, hp⟩ := hv
  have hL16_0 := (oX3_le hq16.1 hL)
  have hL16_1 := (oX10_le hq16.1 hL1)
  have hqh16_1 := (hq16.2.1 _ (oX10_k hL1) hQ1)
  have hL16_2 := (oX10_le hq16.1 (oX3_w hL _ (xtoN (N := 8) h5.1 h5.2)).2)
  dsimp only [Option.toList, List.cons_append, List.nil_append]
  refine xJ_aload_n hX dX3_keep_19 rfl ?_
  refine xJ_aload_n hX dX3_keep_20 rfl ?_
  refine xJ_getI hX dX3_keep_21 fd_X3_18 rfl (oX3_k hL16_0) ?_
  refine xJ_iconst hX dX3_keep_24 ?_
  refine xJ_iadd hX dX3_keep_25 ?_
  obtain ⟨h25, hp⟩ := hp
  refine xJ_bipush hX dX3_keep_26 rfl ?_
  obtain ⟨h28, hp⟩ := hp
  refine xJ_irem hX dX3_keep_28 h25 ⟨by decide, by decide⟩ h28.1 ?_
  refine xJ_putIM hX dX3_keep_29 fd_X3_18 ft_X3 rfl rfl rfl rfl (oX3_k hL16_0) hM16 h28.2 (fun M29 e29 hM29 => ?_)
  replace hp := hp M29 e29
  refine xJ_aload_n hX dX3_keep_32 rfl ?_
  refine xJ_bipush hX dX3_keep_33 rfl ?_
  refine xJ_aload_n hX dX3_keep_35 rfl ?_
  refine xJ_getI hX dX3_keep_36 fd_X3_30 rfl (oX3_k hL16_0) ?_
  refine xJ_iconst hX dX3_keep_39 ?_
  refine xJ_iadd hX dX3_keep_40 ?_
  obtain ⟨h40, hp⟩ := hp
  refine xJ_mmin hX hB dX3_keep_41 lj_X3_33 jw_min_st jw_ma_in jw_min_co rfl (by decide) (Nat.le_of_ble_eq_true rfl) (by decide) (by decide) ⟨by decide, by decide⟩ h40 ?_
  refine xJ_putIM hX dX3_keep_44 fd_X3_30 ft_X3 rfl rfl rfl rfl (oX3_k hL16_0) hM29 (xR_min ⟨by decide, by decide⟩ h40) (fun M44 e44 hM44 => ?_)
  replace hp := hp M44 e44
  refine xJ_vret hX hB dX3_keep_47 (by decide) (by decide) ⟨rfl, hM44, hq16, trivial, hp⟩
def p_X3_takeBack (t : xTh) (a : Nat) (b1 : Nat) (M : xMe) (Q : Int → xTh → xMe → Prop) : Prop :=
  (xR ((M a 2) + 8)) ∧ (xR (((M a 2) + 8) - 1)) ∧ (8 ≠ (0 : Int) ∧ xR (Int.tmod (((M a 2) + 8) - 1) 8)) ∧ (∀ z12 : Int, z12 = Int.tmod (((M a 2) + 8) - 1) 8 → ((0 : Int) ≤ z12 ∧ z12 < 8) ∧ (((M a 1) ≤ 0 → Q ((-1)) t M) ∧ (0 < (M a 1) → p_X10_copyFrom t b1 (a + 2 + 39 * z12.toNat) M (fun t34 M34 => (∀ M39 : xMe, M39 = xw M34 a 2 z12 → (xR ((M39 a 1) - 1)) ∧ (∀ M49 : xMe, M49 = xw M39 a 1 ((M39 a 1) - 1) → Q (M49 a 1) t34 M49))))))
set_option maxHeartbeats 4000000 in
set_option maxRecDepth 100000 in
theorem c_X3_takeBack {G : xGx} {t : xTh} {M : xMe} {a : Nat} {b1 : Nat} {Q : Int → xTh → xMe → Prop} (hL : oX3 t a) (hL1 : oX10 t b1) (hK : ∀ i, i < 8 → oQ t (a + 2 + 39 * i)) (hM : xMR M)(hp : p_X3_takeBack t a b1 M Q) : xCt G yX3_takeBack cX3_takeBack 4 (some .int) 4 0 0 [vr a, vr b1] t M (fun v t' M' => ∃ r, v = some (vi r) ∧ xR r ∧ xMR M' ∧ xqs t t' ∧ True ∧ Q r t' M') (fun _ _ _ => False) := by
  refine xCt_of (L0 := [vr a, vr b1, vU, vU]) (by decide +kernel) (Nat.le_of_ble_eq_true rfl) rfl ?_
  intro X hX hB
  unfold p_X3_takeBack at hp
  refine xJ_aload_n hX dX3_takeBack_0 rfl ?_
  refine xJ_getI hX dX3_takeBack_1 fd_X3_18 rfl (oX3_k hL) ?_
  refine xJ_bipush hX dX3_takeBack_4 rfl ?_
  refine xJ_iadd hX dX3_takeBack_6 ?_
  obtain ⟨h6, hp⟩ := hp
  refine xJ_iconst hX dX3_takeBack_7 ?_
  refine xJ_isub hX dX3_takeBack_8 ?_
  obtain ⟨h8, hp⟩ := hp
  refine xJ_bipush hX dX3_takeBack_9 rfl ?_
  obtain ⟨h11, hp⟩ := hp
  refine xJ_irem hX dX3_takeBack_11 h8 ⟨by decide, by decide⟩ h11.1 ?_
  refine xJ_istore_n hX dX3_takeBack_12 (Nat.le_of_ble_eq_true rfl) rfl ?_
  dsimp only [List.set]
  replace hp := hp _ rfl
  refine xJ_aload_n hX dX3_takeBack_13 rfl ?_
  refine xJ_iload_n hX dX3_takeBack_14 rfl ?_
  obtain ⟨h15, hp⟩ := hp
  refine xJ_callV (As := [_]) hX hB dX3_takeBack_15 lk_X3_22 im_X3_at se_X3_at rfl (by decide) (oX3_k hL) (c_X3_at hL h15.1 h15.2) (by decide) rfl rfl rfl (Nat.le_of_ble_eq_true rfl) (by decide) (by decide) ?_ (fun _ _ _ q => q.elim)
  rintro _ _ _ ⟨rfl, rfl, rfl⟩
  dsimp only [Option.toList, List.cons_append, List.nil_append]
  refine xJ_astore_n hX dX3_takeBack_18 (Nat.le_of_ble_eq_true rfl) rfl ?_
  dsimp only [List.set]
  refine xJ_aload_n hX dX3_takeBack_19 rfl ?_
  refine xJ_getI hX dX3_takeBack_20 fd_X3_30 rfl (oX3_k hL) ?_
  refine xJ_if_le hX dX3_takeBack_23 (tgt := 30) (by decide) (hM _ _) (fun c23 => ?_) (fun c23 => ?_)
  · replace hp := hp.1 c23
    refine xJ_iconst hX dX3_takeBack_30 ?_
    refine xJ_iret hX hB dX3_takeBack_31 (by decide) (by decide) ⟨_, rfl, ⟨by decide, by decide⟩, hM, (xqs_refl _), trivial, hp⟩
  · replace hp := hp.2 c23
    refine xJ_aload_n hX dX3_takeBack_26 rfl ?_
    refine xJ_ifnonnull hX dX3_takeBack_27 (tgt := 32) (by decide) ?_
    refine xJ_aload_n hX dX3_takeBack_32 rfl ?_
    refine xJ_aload_n hX dX3_takeBack_33 rfl ?_
    refine xJ_callV (As := [_]) hX hB dX3_takeBack_34 lk_X3_26 im_X10_copyFrom se_X10_copyFrom rfl (by decide) (oX10_k hL1) (c_X10_copyFrom hL1 (oX3_w hL _ (xtoN (N := 8) h15.1 h15.2)).2 (hK _ (xtoN (N := 8) h15.1 h15.2)) hM hp) (by decide) rfl rfl rfl (Nat.le_of_ble_eq_true rfl) (by decide) (by decide) (fun v t34 M34 hv => ?_) (fun _ _ _ q => q.elim)
    obtain ⟨rfl, hM34, hq34, et34, hp⟩ := hv
    have hL34_0 := (oX3_le hq34.1 hL)
    have hhk34_0 := (fun i hi => hq34.2.1 _ (oX10_k (oX3_w hL i hi).2) (hK i hi))
    have hL34_1 := (oX10_le hq34.1 hL1)
    have hL34_3 := (oX10_le hq34.1 (oX3_w hL _ (xtoN (N := 8) h15.1 h15.2)).2)
    have hqh34_3 := (hq34.2.1 _ (oX10_k (oX3_w hL _ (xtoN (N := 8) h15.1 h15.2)).2) (hK _ (xtoN (N := 8) h15.1 h15.2)))
    dsimp only [Option.toList, List.cons_append, List.nil_append]
    refine xJ_aload_n hX dX3_takeBack_37 rfl ?_
    refine xJ_iload_n hX dX3_takeBack_38 rfl ?_
    refine xJ_putIM hX dX3_takeBack_39 fd_X3_18 ft_X3 rfl rfl rfl rfl (oX3_k hL34_0) hM34 h11.2 (fun M39 e39 hM39 => ?_)
    replace hp := hp M39 e39
    refine xJ_aload_n hX dX3_takeBack_42 rfl ?_
    refine xJ_dup hX dX3_takeBack_43 rfl ?_
    refine xJ_getI hX dX3_takeBack_44 fd_X3_30 rfl (oX3_k hL34_0) ?_
    refine xJ_iconst hX dX3_takeBack_47 ?_
    refine xJ_isub hX dX3_takeBack_48 ?_
    obtain ⟨h48, hp⟩ := hp
    refine xJ_putIM hX dX3_takeBack_49 fd_X3_30 ft_X3 rfl rfl rfl rfl (oX3_k hL34_0) hM39 h48 (fun M49 e49 hM49 => ?_)
    replace hp := hp M49 e49
    refine xJ_aload_n hX dX3_takeBack_52 rfl ?_
    refine xJ_getI hX dX3_takeBack_53 fd_X3_30 rfl (oX3_k hL34_0) ?_
    refine xJ_iret hX hB dX3_takeBack_56 (by decide) (by decide) ⟨_, rfl, (hM49 _ _), hM49, hq34, trivial, hp⟩
