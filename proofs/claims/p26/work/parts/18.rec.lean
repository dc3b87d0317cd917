def p_X8_readFactor (F : Nat) (PS : Int → xMe → (xMe → Prop) → Prop) (a : Nat) (x1 : Int) (M : xMe) (Q : xMe → Prop) : Prop :=
  (((M (a + 1) 4) ≠ 40 → p_X9_isWord F (a + 1) 9 M (fun r51 M51 => ((r51 = 0 → p_X9_isWord F (a + 1) 1 M51 (fun r69 M69 => ((r69 = 0 → p_X9_isWord F (a + 1) 10 M69 (fun r87 M87 => ((r87 = 0 → p_X9_isWord F (a + 1) 11 M87 (fun r105 M105 => ((r105 = 0 → p_X8_numberStands a 0 9999 M105 (fun r122 M122 => ((r122 = 0 → Q M122) ∧ (r122 ≠ 0 → (∀ z135 : Int, z135 = M122 (a + 1) 6 → p_X8_emit a z135 M122 (fun M142 => p_X9_moveOn F (a + 1) M142 (fun M149 => Q M149))))))) ∧ (r105 ≠ 0 → p_X8_emit a ((-8)) M105 (fun M142 => p_X9_moveOn F (a + 1) M142 (fun M149 => Q M149)))))) ∧ (r87 ≠ 0 → p_X8_emit a ((-7)) M87 (fun M142 => p_X9_moveOn F (a + 1) M142 (fun M149 => Q M149)))))) ∧ (r69 ≠ 0 → p_X8_emit a ((-6)) M69 (fun M142 => p_X9_moveOn F (a + 1) M142 (fun M149 => Q M149)))))) ∧ (r51 ≠ 0 → p_X8_emit a ((-5)) M51 (fun M142 => p_X9_moveOn F (a + 1) M142 (fun M149 => Q M149)))))) ∧ ((M (a + 1) 4) = 40 → ((x1 < 4 → p_X9_moveOn F (a + 1) M (fun M28 => (xR (x1 + 1)) ∧ PS (x1 + 1) M28 (fun M35 => p_X8_takeSign F a 41 M35 (fun M41 => Q M41)))) ∧ (4 ≤ x1 → p_X8_fail a ((-6)) M (fun M20 => Q M20)))))
set_option maxHeartbeats 4000000 in
set_option maxRecDepth 100000 in
theorem c_X8_readFactor {G : xGx} {t : xTh} {M : xMe} {dn : Nat} {F : Nat} {PS : Int → xMe → (xMe → Prop) → Prop} {a : Nat} {x1 : Int} {Q : xMe → Prop} (hPS : ∀ (y0 : Int) (M : xMe) (Q : xMe → Prop), xMR M → xR y0 → PS y0 M Q → xCt G yX8_readSum cX8_readSum 4 none dn 0 0 [vr a, vi y0] t M (fun v t' M' => v = none ∧ xMR M' ∧ t' = t ∧ Q M') (fun _ _ _ => False)) (hL : oX8 t a) (hM : xMR M) (hx1 : xR x1) (hp : p_X8_readFactor F PS a x1 M Q) : xCt G yX8_readFactor cX8_readFactor 3 none (dn + 10) 0 0 [vr a, vi x1] t M (fun v t' M' => v = none ∧ xMR M' ∧ t' = t ∧ Q M') (fun _ _ _ => False) := by
  refine xCt_of (L0 := [vr a, vi x1, vU]) (by decide +kernel) (Nat.le_of_ble_eq_true rfl) rfl ?_
  intro X hX hB
  unfold p_X8_readFactor at hp
  refine xJ_aload_n hX dX8_readFactor_0 rfl ?_
  refine xJ_getR (b := (a + 1)) hX dX8_readFactor_1 fd_X8_12 rfl (oX8_k hL) (oX8_r0 hL) ?_
  refine xJ_getI hX dX8_readFactor_4 fd_X8_68 rfl (oX9_k (oX8_o0 hL)) ?_
  refine xJ_bipush hX dX8_readFactor_7 rfl ?_
  refine xJ_icmp_ne hX dX8_readFactor_9 (tgt := 45) (by decide) (hM _ _) ⟨by decide, by decide⟩ (fun c9 => ?_) (fun c9 => ?_)
  · replace hp := hp.1 c9
    refine xJ_aload_n hX dX8_readFactor_45 rfl ?_
    refine xJ_getR (b := (a + 1)) hX dX8_readFactor_46 fd_X8_12 rfl (oX8_k hL) (oX8_r0 hL) ?_
    refine xJ_ldcS 9 hX dX8_readFactor_49 (by decide +kernel) ?_
    refine xJ_callV (As := [_]) hX hB dX8_readFactor_51 lk_X8_55 im_X9_isWord se_X9_isWord rfl (by decide) (oX9_k (oX8_o0 hL)) (c_X9_isWord (oX8_o0 hL) (by decide) hM hp) (by omega) rfl rfl rfl (Nat.le_of_ble_eq_true rfl) (by decide) (by decide) (fun v t9 M51 hv => ?_) (fun _ _ _ q => q.elim)
    obtain ⟨r51, rfl, h51, hM51, ht9, hp⟩ := hv
    replace ht9 := ht9.symm
    subst ht9
    dsimp only [Option.toList, List.cons_append, List.nil_append]
    refine xJ_if_eq hX dX8_readFactor_54 (tgt := 63) (by decide) h51 (fun c54 => ?_) (fun c54 => ?_)
    · replace hp := hp.1 c54
      refine xJ_aload_n hX dX8_readFactor_63 rfl ?_
      refine xJ_getR (b := (a + 1)) hX dX8_readFactor_64 fd_X8_12 rfl (oX8_k hL) (oX8_r0 hL) ?_
      refine xJ_ldcS 1 hX dX8_readFactor_67 (by decide +kernel) ?_
      refine xJ_callV (As := [_]) hX hB dX8_readFactor_69 lk_X8_55 im_X9_isWord se_X9_isWord rfl (by decide) (oX9_k (oX8_o0 hL)) (c_X9_isWord (oX8_o0 hL) (by decide) hM51 hp) (by omega) rfl rfl rfl (Nat.le_of_ble_eq_true rfl) (by decide) (by decide) (fun v t9 M69 hv => ?_) (fun _ _ _ q => q.elim)
      obtain ⟨r69, rfl, h69, hM69, ht9, hp⟩ := hv
      replace ht9 := ht9.symm
      subst ht9
      dsimp only [Option.toList, List.cons_append, List.nil_append]
      refine xJ_if_eq hX dX8_readFactor_72 (tgt := 81) (by decide) h69 (fun c72 => ?_) (fun c72 => ?_)
      · replace hp := hp.1 c72
        refine xJ_aload_n hX dX8_readFactor_81 rfl ?_
        refine xJ_getR (b := (a + 1)) hX dX8_readFactor_82 fd_X8_12 rfl (oX8_k hL) (oX8_r0 hL) ?_
        refine xJ_ldcS 10 hX dX8_readFactor_85 (by decide +kernel) ?_
        refine xJ_callV (As := [_]) hX hB dX8_readFactor_87 lk_X8_55 im_X9_isWord se_X9_isWord rfl (by decide) (oX9_k (oX8_o0 hL)) (c_X9_isWord (oX8_o0 hL) (by decide) hM69 hp) (by omega) rfl rfl rfl (Nat.le_of_ble_eq_true rfl) (by decide) (by decide) (fun v t9 M87 hv => ?_) (fun _ _ _ q => q.elim)
        obtain ⟨r87, rfl, h87, hM87, ht9, hp⟩ := hv
        replace ht9 := ht9.symm
        subst ht9
        dsimp only [Option.toList, List.cons_append, List.nil_append]
        refine xJ_if_eq hX dX8_readFactor_90 (tgt := 99) (by decide) h87 (fun c90 => ?_) (fun c90 => ?_)
        · replace hp := hp.1 c90
          refine xJ_aload_n hX dX8_readFactor_99 rfl ?_
          refine xJ_getR (b := (a + 1)) hX dX8_readFactor_100 fd_X8_12 rfl (oX8_k hL) (oX8_r0 hL) ?_
          refine xJ_ldcS 11 hX dX8_readFactor_103 (by decide +kernel) ?_
          refine xJ_callV (As := [_]) hX hB dX8_readFactor_105 lk_X8_55 im_X9_isWord se_X9_isWord rfl (by decide) (oX9_k (oX8_o0 hL)) (c_X9_isWord (oX8_o0 hL) (by decide) hM87 hp) (by omega) rfl rfl rfl (Nat.le_of_ble_eq_true rfl) (by decide) (by decide) (fun v t9 M105 hv => ?_) (fun _ _ _ q => q.elim)
          obtain ⟨r105, rfl, h105, hM105, ht9, hp⟩ := hv
          replace ht9 := ht9.symm
          subst ht9
          dsimp only [Option.toList, List.cons_append, List.nil_append]
          refine xJ_if_eq hX dX8_readFactor_108 (tgt := 117) (by decide) h105 (fun c108 => ?_) (fun c108 => ?_)
          · replace hp := hp.1 c108
            refine xJ_aload_n hX dX8_readFactor_117 rfl ?_
            refine xJ_iconst hX dX8_readFactor_118 ?_
            refine xJ_sipush hX dX8_readFactor_119 rfl ?_
            refine xJ_callV (As := [_, _]) hX hB dX8_readFactor_122 lk_X8_101 im_X8_numberStands se_X8_numberStands rfl (by decide) (oX8_k hL) (c_X8_numberStands hL hM105 ⟨by decide, by decide⟩ ⟨by decide, by decide⟩ hp) (by omega) rfl rfl rfl (Nat.le_of_ble_eq_true rfl) (by decide) (by decide) (fun v t9 M122 hv => ?_) (fun _ _ _ q => q.elim)
            obtain ⟨r122, rfl, h122, hM122, ht9, hp⟩ := hv
            replace ht9 := ht9.symm
            subst ht9
            dsimp only [Option.toList, List.cons_append, List.nil_append]
            refine xJ_if_eq hX dX8_readFactor_125 (tgt := 139) (by decide) h122 (fun c125 => ?_) (fun c125 => ?_)
            · replace hp := hp.1 c125
              refine xJ_vret hX hB dX8_readFactor_139 (by decide) (by decide) ⟨rfl, hM122, rfl, hp⟩
            · replace hp := hp.2 c125
              refine xJ_aload_n hX dX8_readFactor_128 rfl ?_
              refine xJ_getR (b := (a + 1)) hX dX8_readFactor_129 fd_X8_12 rfl (oX8_k hL) (oX8_r0 hL) ?_
              refine xJ_getI hX dX8_readFactor_132 fd_X8_98 rfl (oX9_k (oX8_o0 hL)) ?_
              refine xJ_istore_n hX dX8_readFactor_135 (Nat.le_of_ble_eq_true rfl) rfl ?_
              dsimp only [List.set]
              replace hp := hp _ rfl
              refine xJ_goto hX dX8_readFactor_136 (tgt := 140) (by decide) ?_
              refine xJ_aload_n hX dX8_readFactor_140 rfl ?_
              refine xJ_iload_n hX dX8_readFactor_141 rfl ?_
              refine xJ_callV (As := [_]) hX hB dX8_readFactor_142 lk_X8_208 im_X8_emit se_X8_emit rfl (by decide) (oX8_k hL) (c_X8_emit hL hM122 (hM122 _ _) hp) (by omega) rfl rfl rfl (Nat.le_of_ble_eq_true rfl) (by decide) (by decide) (fun v t9 M142 hv => ?_) (fun _ _ _ q => q.elim)
              obtain ⟨rfl, hM142, ht9, hp⟩ := hv
              replace ht9 := ht9.symm
              subst ht9
              dsimp only [Option.toList, List.cons_append, List.nil_append]
              refine xJ_aload_n hX dX8_readFactor_145 rfl ?_
              refine xJ_getR (b := (a + 1)) hX dX8_readFactor_146 fd_X8_12 rfl (oX8_k hL) (oX8_r0 hL) ?_
              refine xJ_callV (As := []) hX hB dX8_readFactor_149 lk_X8_59 im_X9_moveOn se_X9_moveOn rfl (by decide) (oX9_k (oX8_o0 hL)) (c_X9_moveOn (oX8_o0 hL) hM142 hp) (by omega) rfl rfl rfl (Nat.le_of_ble_eq_true rfl) (by decide) (by decide) (fun v t9 M149 hv => ?_) (fun _ _ _ q => q.elim)
              obtain ⟨rfl, hM149, ht9, hp⟩ := hv
              replace ht9 := ht9.symm
              subst ht9
              dsimp only [Option.toList, List.cons_append, List.nil_append]
              refine xJ_vret hX hB dX8_readFactor_152 (by decide) (by decide) ⟨rfl, hM149, rfl, hp⟩
          · replace hp := hp.2 c108
            refine xJ_bipush hX dX8_readFactor_111 rfl ?_
            refine xJ_istore_n hX dX8_readFactor_113 (Nat.le_of_ble_eq_true rfl) rfl ?_
            dsimp only [List.set]
            refine xJ_goto hX dX8_readFactor_114 (tgt := 140) (by decide) ?_
            refine xJ_aload_n hX dX8_readFactor_140 rfl ?_
            refine xJ_iload_n hX dX8_readFactor_141 rfl ?_
            refine xJ_callV (As := [_]) hX hB dX8_readFactor_142 lk_X8_208 im_X8_emit se_X8_emit rfl (by decide) (oX8_k hL) (c_X8_emit hL hM105 ⟨by decide, by decide⟩ hp) (by omega) rfl rfl rfl (Nat.le_of_ble_eq_true rfl) (by decide) (by decide) (fun v t9 M142 hv => ?_) (fun _ _ _ q => q.elim)
            obtain ⟨rfl, hM142, ht9, hp⟩ := hv
            replace ht9 := ht9.symm
            subst ht9
            dsimp only [Option.toList, List.cons_append, List.nil_append]
            refine xJ_aload_n hX dX8_readFactor_145 rfl ?_
            refine xJ_getR (b := (a + 1)) hX dX8_readFactor_146 fd_X8_12 rfl (oX8_k hL) (oX8_r0 hL) ?_
            refine xJ_callV (As := []) hX hB dX8_readFactor_149 lk_X8_59 im_X9_moveOn se_X9_moveOn rfl (by decide) (oX9_k (oX8_o0 hL)) (c_X9_moveOn (oX8_o0 hL) hM142 hp) (by omega) rfl rfl rfl (Nat.le_of_ble_eq_true rfl) (by decide) (by decide) (fun v t9 M149 hv => ?_) (fun _ _ _ q => q.elim)
            obtain ⟨rfl, hM149, ht9, hp⟩ := hv
            replace ht9 := ht9.symm
            subst ht9
            dsimp only [Option.toList, List.cons_append, List.nil_append]
            refine xJ_vret hX hB dX8_readFactor_152 (by decide) (by decide) ⟨rfl, hM149, rfl, hp⟩
        · replace hp := hp.2 c90
          refine xJ_bipush hX dX8_readFactor_93 rfl ?_
          refine xJ_istore_n hX dX8_readFactor_95 (Nat.le_of_ble_eq_true rfl) rfl ?_
          dsimp only [List.set]
          refine xJ_goto hX dX8_readFactor_96 (tgt := 140) (by decide) ?_
          refine xJ_aload_n hX dX8_readFactor_140 rfl ?_
          refine xJ_iload_n hX dX8_readFactor_141 rfl ?_
          refine xJ_callV (As := [_]) hX hB dX8_readFactor_142 lk_X8_208 im_X8_emit se_X8_emit rfl (by decide) (oX8_k hL) (c_X8_emit hL hM87 ⟨by decide, by decide⟩ hp) (by omega) rfl rfl rfl (Nat.le_of_ble_eq_true rfl) (by decide) (by decide) (fun v t9 M142 hv => ?_) (fun _ _ _ q => q.elim)
          obtain ⟨rfl, hM142, ht9, hp⟩ := hv
          replace ht9 := ht9.symm
          subst ht9
          dsimp only [Option.toList, List.cons_append, List.nil_append]
          refine xJ_aload_n hX dX8_readFactor_145 rfl ?_
          refine xJ_getR (b := (a + 1)) hX dX8_readFactor_146 fd_X8_12 rfl (oX8_k hL) (oX8_r0 hL) ?_
          refine xJ_callV (As := []) hX hB dX8_readFactor_149 lk_X8_59 im_X9_moveOn se_X9_moveOn rfl (by decide) (oX9_k (oX8_o0 hL)) (c_X9_moveOn (oX8_o0 hL) hM142 hp) (by omega) rfl rfl rfl (Nat.le_of_ble_eq_true rfl) (by decide) (by decide) (fun v t9 M149 hv => ?_) (fun _ _ _ q => q.elim)
          obtain ⟨rfl, hM149, ht9, hp⟩ := hv
          replace ht9 := ht9.symm
          subst ht9
          dsimp only [Option.toList, List.cons_append, List.nil_append]
          refine xJ_vret hX hB dX8_readFactor_152 (by decide) (by decide) ⟨rfl, hM149, rfl, hp⟩
      · replace hp := hp.2 c72
        refine xJ_bipush hX dX8_readFactor_75 rfl ?_
        refine xJ_istore_n hX dX8_readFactor_77 (Nat.le_of_ble_eq_true rfl) rfl ?_
        dsimp only [List.set]
        refine xJ_goto hX dX8_readFactor_78 (tgt := 140) (by decide) ?_
        refine xJ_aload_n hX dX8_readFactor_140 rfl ?_
        refine xJ_iload_n hX dX8_readFactor_141 rfl ?_
        refine xJ_callV (As := [_]) hX hB dX8_readFactor_142 lk_X8_208 im_X8_emit se_X8_emit rfl (by decide) (oX8_k hL) (c_X8_emit hL hM69 ⟨by decide, by decide⟩ hp) (by omega) rfl rfl rfl (Nat.le_of_ble_eq_true rfl) (by decide) (by decide) (fun v t9 M142 hv => ?_) (fun _ _ _ q => q.elim)
        obtain ⟨rfl, hM142, ht9, hp⟩ := hv
        replace ht9 := ht9.symm
        subst ht9
        dsimp only [Option.toList, List.cons_append, List.nil_append]
        refine xJ_aload_n hX dX8_readFactor_145 rfl ?_
        refine xJ_getR (b := (a + 1)) hX dX8_readFactor_146 fd_X8_12 rfl (oX8_k hL) (oX8_r0 hL) ?_
        refine xJ_callV (As := []) hX hB dX8_readFactor_149 lk_X8_59 im_X9_moveOn se_X9_moveOn rfl (by decide) (oX9_k (oX8_o0 hL)) (c_X9_moveOn (oX8_o0 hL) hM142 hp) (by omega) rfl rfl rfl (Nat.le_of_ble_eq_true rfl) (by decide) (by decide) (fun v t9 M149 hv => ?_) (fun _ _ _ q => q.elim)
        obtain ⟨rfl, hM149, ht9, hp⟩ := hv
        replace ht9 := ht9.symm
        subst ht9
        dsimp only [Option.toList, List.cons_append, List.nil_append]
        refine xJ_vret hX hB dX8_readFactor_152 (by decide) (by decide) ⟨rfl, hM149, rfl, hp⟩
    · replace hp := hp.2 c54
      refine xJ_bipush hX dX8_readFactor_57 rfl ?_
      refine xJ_istore_n hX dX8_readFactor_59 (Nat.le_of_ble_eq_true rfl) rfl ?_
      dsimp only [List.set]
      refine xJ_goto hX dX8_readFactor_60 (tgt := 140) (by decide) ?_
      refine xJ_aload_n hX dX8_readFactor_140 rfl ?_
      refine xJ_iload_n hX dX8_readFactor_141 rfl ?_
      refine xJ_callV (As := [_]) hX hB dX8_readFactor_142 lk_X8_208 im_X8_emit se_X8_emit rfl (by decide) (oX8_k hL) (c_X8_emit hL hM51 ⟨by decide, by decide⟩ hp) (by omega) rfl rfl rfl (Nat.le_of_ble_eq_true rfl) (by decide) (by decide) (fun v t9 M142 hv => ?_) (fun _ _ _ q => q.elim)
      obtain ⟨rfl, hM142, ht9, hp⟩ := hv
      replace ht9 := ht9.symm
      subst ht9
      dsimp only [Option.toList, List.cons_append, List.nil_append]
      refine xJ_aload_n hX dX8_readFactor_145 rfl ?_
      refine xJ_getR (b := (a + 1)) hX dX8_readFactor_146 fd_X8_12 rfl (oX8_k hL) (oX8_r0 hL) ?_
      refine xJ_callV (As := []) hX hB dX8_readFactor_149 lk_X8_59 im_X9_moveOn se_X9_moveOn rfl (by decide) (oX9_k (oX8_o0 hL)) (c_X9_moveOn (oX8_o0 hL) hM142 hp) (by omega) rfl rfl rfl (Nat.le_of_ble_eq_true rfl) (by decide) (by decide) (fun v t9 M149 hv => ?_) (fun _ _ _ q => q.elim)
      obtain ⟨rfl, hM149, ht9, hp⟩ := hv
      replace ht9 := ht9.symm
      subst ht9
      dsimp only [Option.toList, List.cons_append, List.nil_append]
      refine xJ_vret hX hB dX8_readFactor_152 (by decide) (by decide) ⟨rfl, hM149, rfl, hp⟩
  · replace hp := hp.2 c9
    refine xJ_iload_n hX dX8_readFactor_12 rfl ?_
    refine xJ_iconst hX dX8_readFactor_13 ?_
    refine xJ_icmp_lt hX dX8_readFactor_14 (tgt := 24) (by decide) hx1 ⟨by decide, by decide⟩ (fun c14 => ?_) (fun c14 => ?_)
    · replace hp := hp.1 c14
      refine xJ_aload_n hX dX8_readFactor_24 rfl ?_
      refine xJ_getR (b := (a + 1)) hX dX8_readFactor_25 fd_X8_12 rfl (oX8_k hL) (oX8_r0 hL) ?_
      refine xJ_callV (As := []) hX hB dX8_readFactor_28 lk_X8_59 im_X9_moveOn se_X9_moveOn rfl (by decide) (oX9_k (oX8_o0 hL)) (c_X9_moveOn (oX8_o0 hL) hM hp) (by omega) rfl rfl rfl (Nat.le_of_ble_eq_true rfl) (by decide) (by decide) (fun v t9 M28 hv => ?_) (fun _ _ _ q => q.elim)
      obtain ⟨rfl, hM28, ht9, hp⟩ := hv
      replace ht9 := ht9.symm
      subst ht9
      dsimp only [Option.toList, List.cons_append, List.nil_append]
      refine xJ_aload_n hX dX8_readFactor_31 rfl ?_
      refine xJ_iload_n hX dX8_readFactor_32 rfl ?_
      refine xJ_iconst hX dX8_readFactor_33 ?_
      refine xJ_iadd hX dX8_readFactor_34 ?_
      obtain ⟨h34, hp⟩ := hp
      refine xJ_callV (As := [_]) hX hB dX8_readFactor_35 lk_X8_142 im_X8_readSum se_X8_readSum rfl (by decide) (oX8_k hL) (hPS _ _ _ hM28 h34 hp) (by omega) rfl rfl rfl (Nat.le_of_ble_eq_true rfl) (by decide) (by decide) (fun v t9 M35 hv => ?_) (fun _ _ _ q => q.elim)
      obtain ⟨rfl, hM35, ht9, hp⟩ := hv
      replace ht9 := ht9.symm
      subst ht9
      dsimp only [Option.toList, List.cons_append, List.nil_append]
      refine xJ_aload_n hX dX8_readFactor_38 rfl ?_
      refine xJ_bipush hX dX8_readFactor_39 rfl ?_
      refine xJ_callV (As := [_]) hX hB dX8_readFactor_41 lk_X8_62 im_X8_takeSign se_X8_takeSign rfl (by decide) (oX8_k hL) (c_X8_takeSign hL hM35 ⟨by decide, by decide⟩ hp) (by omega) rfl rfl rfl (Nat.le_of_ble_eq_true rfl) (by decide) (by decide) (fun v t9 M41 hv => ?_) (fun _ _ _ q => q.elim)
      obtain ⟨rfl, hM41, ht9, hp⟩ := hv
      replace ht9 := ht9.symm
      subst ht9
      dsimp only [Option.toList, List.cons_append, List.nil_append]
      refine xJ_vret hX hB dX8_readFactor_44 (by decide) (by decide) ⟨rfl, hM41, rfl, hp⟩
    · replace hp := hp.2 c14
      refine xJ_aload_n hX dX8_readFactor_17 rfl ?_
      refine xJ_bipush hX dX8_readFactor_18 rfl ?_
      refine xJ_callV (As := [_]) hX hB dX8_readFactor_20 lk_X8_65 im_X8_fail se_X8_fail rfl (by decide) (oX8_k hL) (c_X8_fail hL hM ⟨by decide, by decide⟩ hp) (by omega) rfl rfl rfl (Nat.le_of_ble_eq_true rfl) (by decide) (by decide) (fun v t9 M20 hv => ?_) (fun _ _ _ q => q.elim)
      obtain ⟨rfl, hM20, ht9, hp⟩ := hv
      replace ht9 := ht9.symm
      subst ht9
      dsimp only [Option.toList, List.cons_append, List.nil_append]
      refine xJ_vret hX hB dX8_readFactor_23 (by decide) (by decide) ⟨rfl, hM20, rfl, hp⟩
def p_X8_readTerm_7 (F : Nat) (PS : Int → xMe → (xMe → Prop) → Prop) (a : Nat) (Q : xMe → Prop) : Nat → Int → Int → xMe → Prop
  | 0, _, _, _ => False
  | k + 1, x1, x2, M =>
    ((700 ≤ x2 → Q M) ∧ (x2 < 700 → (((M a 2) ≠ 0 → Q M) ∧ ((M a 2) = 0 → p_X8_isEither a 42 47 M (fun r26 M26 => ((r26 = 0 → Q M26) ∧ (r26 ≠ 0 → (((M26 (a + 1) 4) ≠ 42 → p_X9_moveOn F (a + 1) M26 (fun M56 => p_X8_readFactor F PS a x1 M56 (fun M61 => p_X8_emit a ((-4)) M61 (fun M66 => (xR (x2 + 1)) ∧ p_X8_readTerm_7 F PS a Q k x1 (x2 + 1) M66)))) ∧ ((M26 (a + 1) 4) = 42 → p_X9_moveOn F (a + 1) M26 (fun M56 => p_X8_readFactor F PS a x1 M56 (fun M61 => p_X8_emit a ((-3)) M61 (fun M66 => (xR (x2 + 1)) ∧ p_X8_readTerm_7 F PS a Q k x1 (x2 + 1) M66))))))))))))
def p_X8_readTerm (F : Nat) (PS : Int → xMe → (xMe → Prop) → Prop) (a : Nat) (x1 : Int) (M : xMe) (Q : xMe → Prop) : Prop :=
  p_X8_readFactor F PS a x1 M (fun M2 => p_X8_readTerm_7 F PS a Q F x1 0 M2)
set_option maxHeartbeats 4000000 in
set_option maxRecDepth 100000 in
theorem c_X8_readTerm {G : xGx} {t : xTh} {M : xMe} {dn : Nat} {F : Nat} {PS : Int → xMe → (xMe → Prop) → Prop} {a : Nat} {x1 : Int} {Q : xMe → Prop} (hPS : ∀ (y0 : Int) (M : xMe) (Q : xMe → Prop), xMR M → xR y0 → PS y0 M Q → xCt G yX8_readSum cX8_readSum 4 none dn 0 0 [vr a, vi y0] t M (fun v t' M' => v = none ∧ xMR M' ∧ t' = t ∧ Q M') (fun _ _ _ => False)) (hL : oX8 t a) (hM : xMR M) (hx1 : xR x1) (hp : p_X8_readTerm F PS a x1 M Q) : xCt G yX8_readTerm cX8_readTerm 4 none (dn + 12) 0 0 [vr a, vi x1] t M (fun v t' M' => v = none ∧ xMR M' ∧ t' = t ∧ Q M') (fun _ _ _ => False) := by
  refine xCt_of (L0 := [vr a, vi x1, vU, vU]) (by decide +kernel) (Nat.le_of_ble_eq_true rfl) rfl ?_
  intro X hX hB
  unfold p_X8_readTerm at hp
  refine xJ_aload_n hX dX8_readTerm_0 rfl ?_
  refine xJ_iload_n hX dX8_readTerm_1 rfl ?_
  refine xJ_callV (As := [_]) hX hB dX8_readTerm_2 lk_X8_211 im_X8_readFactor se_X8_readFactor rfl (by decide) (oX8_k hL) (c_X8_readFactor hPS hL hM hx1 hp) (by omega) rfl rfl rfl (Nat.le_of_ble_eq_true rfl) (by decide) (by decide) (fun v t9 M2 hv => ?_) (fun _ _ _ q => q.elim)
  obtain ⟨rfl, hM2, ht9, hp⟩ := hv
  replace ht9 := ht9.symm
  subst ht9
  dsimp only [Option.toList, List.cons_append, List.nil_append]
  refine xJ_iconst hX dX8_readTerm_5 ?_
  refine xJ_istore_n hX dX8_readTerm_6 (Nat.le_of_ble_eq_true rfl) rfl ?_
  dsimp only [List.set]
  have lp7 : ∀ (k : Nat) (x1 : Int) (x2 : Int) (M : xMe) (hM : xMR M) (hx1 : xR x1) (hx2 : xR x2) (hp : p_X8_readTerm_7 F PS a Q k x1 x2 M), xJ X 0 0 t M 7 [vr a, vi x1, vi x2, vU] [] := by
    intro k
    induction k with
    | zero => intro x1 x2 M hM hx1 hx2 hp; exact hp.elim
    | succ k ih =>
      intro x1 x2 M hM hx1 hx2 hp
      unfold p_X8_readTerm_7 at hp
      refine xJ_iload_n hX dX8_readTerm_7 rfl ?_
      refine xJ_sipush hX dX8_readTerm_8 rfl ?_
      refine xJ_icmp_ge hX dX8_readTerm_11 (tgt := 75) (by decide) hx2 ⟨by decide, by decide⟩ (fun c11 => ?_) (fun c11 => ?_)
      · replace hp := hp.1 c11
        refine xJ_vret hX hB dX8_readTerm_75 (by decide) (by decide) ⟨rfl, hM, rfl, hp⟩
      · replace hp := hp.2 c11
        refine xJ_aload_n hX dX8_readTerm_14 rfl ?_
        refine xJ_getI hX dX8_readTerm_15 fd_X8_29 rfl (oX8_k hL) ?_
        refine xJ_if_ne hX dX8_readTerm_18 (tgt := 75) (by decide) (hM _ _) (fun c18 => ?_) (fun c18 => ?_)
        · replace hp := hp.1 c18
          refine xJ_vret hX hB dX8_readTerm_75 (by decide) (by decide) ⟨rfl, hM, rfl, hp⟩
        · replace hp := hp.2 c18
          refine xJ_aload_n hX dX8_readTerm_21 rfl ?_
          refine xJ_bipush hX dX8_readTerm_22 rfl ?_
          refine xJ_bipush hX dX8_readTerm_24 rfl ?_
          refine xJ_callV (As := [_, _]) hX hB dX8_readTerm_26 lk_X8_205 im_X8_isEither se_X8_isEither rfl (by decide) (oX8_k hL) (c_X8_isEither hL hM ⟨by decide, by decide⟩ ⟨by decide, by decide⟩ hp) (by omega) rfl rfl rfl (Nat.le_of_ble_eq_true rfl) (by decide) (by decide) (fun v t9 M26 hv => ?_) (fun _ _ _ q => q.elim)
          obtain ⟨r26, rfl, h26, hM26, ht9, hp⟩ := hv
          replace ht9 := ht9.symm
          subst ht9
          dsimp only [Option.toList, List.cons_append, List.nil_append]
          refine xJ_if_eq hX dX8_readTerm_29 (tgt := 75) (by decide) h26 (fun c29 => ?_) (fun c29 => ?_)
          · replace hp := hp.1 c29
            refine xJ_vret hX hB dX8_readTerm_75 (by decide) (by decide) ⟨rfl, hM26, rfl, hp⟩
          · replace hp := hp.2 c29
            refine xJ_aload_n hX dX8_readTerm_32 rfl ?_
            refine xJ_getR (b := (a + 1)) hX dX8_readTerm_33 fd_X8_12 rfl (oX8_k hL) (oX8_r0 hL) ?_
            refine xJ_getI hX dX8_readTerm_36 fd_X8_68 rfl (oX9_k (oX8_o0 hL)) ?_
            refine xJ_bipush hX dX8_readTerm_39 rfl ?_
            refine xJ_icmp_ne hX dX8_readTerm_41 (tgt := 49) (by decide) (hM26 _ _) ⟨by decide, by decide⟩ (fun c41 => ?_) (fun c41 => ?_)
            · replace hp := hp.1 c41
              refine xJ_bipush hX dX8_readTerm_49 rfl ?_
              refine xJ_istore_n hX dX8_readTerm_51 (Nat.le_of_ble_eq_true rfl) rfl ?_
              dsimp only [List.set]
              refine xJ_aload_n hX dX8_readTerm_52 rfl ?_
              refine xJ_getR (b := (a + 1)) hX dX8_readTerm_53 fd_X8_12 rfl (oX8_k hL) (oX8_r0 hL) ?_
              refine xJ_callV (As := []) hX hB dX8_readTerm_56 lk_X8_59 im_X9_moveOn se_X9_moveOn rfl (by decide) (oX9_k (oX8_o0 hL)) (c_X9_moveOn (oX8_o0 hL) hM26 hp) (by omega) rfl rfl rfl (Nat.le_of_ble_eq_true rfl) (by decide) (by decide) (fun v t9 M56 hv => ?_) (fun _ _ _ q => q.elim)
              obtain ⟨rfl, hM56, ht9, hp⟩ := hv
              replace ht9 := ht9.symm
              subst ht9
              dsimp only [Option.toList, List.cons_append, List.nil_append]
              refine xJ_aload_n hX dX8_readTerm_59 rfl ?_
              refine xJ_iload_n hX dX8_readTerm_60 rfl ?_
              refine xJ_callV (As := [_]) hX hB dX8_readTerm_61 lk_X8_211 im_X8_readFactor se_X8_readFactor rfl (by decide) (oX8_k hL) (c_X8_readFactor hPS hL hM56 hx1 hp) (by omega) rfl rfl rfl (Nat.le_of_ble_eq_true rfl) (by decide) (by decide) (fun v t9 M61 hv => ?_) (fun _ _ _ q => q.elim)
              obtain ⟨rfl, hM61, ht9, hp⟩ := hv
              replace ht9 := ht9.symm
              subst ht9
              dsimp only [Option.toList, List.cons_append, List.nil_append]
              refine xJ_aload_n hX dX8_readTerm_64 rfl ?_
              refine xJ_iload_n hX dX8_readTerm_65 rfl ?_
              refine xJ_callV (As := [_]) hX hB dX8_readTerm_66 lk_X8_208 im_X8_emit se_X8_emit rfl (by decide) (oX8_k hL) (c_X8_emit hL hM61 ⟨by decide, by decide⟩ hp) (by omega) rfl rfl rfl (Nat.le_of_ble_eq_true rfl) (by decide) (by decide) (fun v t9 M66 hv => ?_) (fun _ _ _ q => q.elim)
              obtain ⟨rfl, hM66, ht9, hp⟩ := hv
              replace ht9 := ht9.symm
              subst ht9
              dsimp only [Option.toList, List.cons_append, List.nil_append]
              refine xJ_iinc hX dX8_readTerm_69 rfl rfl ?_
              dsimp only [List.set]
              obtain ⟨h69, hp⟩ := hp
              refine xJ_goto hX dX8_readTerm_72 (tgt := 7) (by decide) ?_
              refine xJ_fg 3 ?_
              dsimp only [List.set]
              exact ih _ _ _ hM66 hx1 h69 hp
            · replace hp := hp.2 c41
              refine xJ_bipush hX dX8_readTerm_44 rfl ?_
              refine xJ_goto hX dX8_readTerm_46 (tgt := 51) (by decide) ?_
              refine xJ_istore_n hX dX8_readTerm_51 (Nat.le_of_ble_eq_true rfl) rfl ?_
              dsimp only [List.set]
              refine xJ_aload_n hX dX8_readTerm_52 rfl ?_
              refine xJ_getR (b := (a + 1)) hX dX8_readTerm_53 fd_X8_12 rfl (oX8_k hL) (oX8_r0 hL) ?_
              refine xJ_callV (As := []) hX hB dX8_readTerm_56 lk_X8_59 im_X9_moveOn se_X9_moveOn rfl (by decide) (oX9_k (oX8_o0 hL)) (c_X9_moveOn (oX8_o0 hL) hM26 hp) (by omega) rfl rfl rfl (Nat.le_of_ble_eq_true rfl) (by decide) (by decide) (fun v t9 M56 hv => ?_) (fun _ _ _ q => q.elim)
              obtain ⟨rfl, hM56, ht9, hp⟩ := hv
              replace ht9 := ht9.symm
              subst ht9
              dsimp only [Option.toList, List.cons_append, List.nil_append]
              refine xJ_aload_n hX dX8_readTerm_59 rfl ?_
              refine xJ_iload_n hX dX8_readTerm_60 rfl ?_
              refine xJ_callV (As := [_]) hX hB dX8_readTerm_61 lk_X8_211 im_X8_readFactor se_X8_readFactor rfl (by decide) (oX8_k hL) (c_X8_readFactor hPS hL hM56 hx1 hp) (by omega) rfl rfl rfl (Nat.le_of_ble_eq_true rfl) (by decide) (by decide) (fun v t9 M61 hv => ?_) (fun _ _ _ q => q.elim)
              obtain ⟨rfl, hM61, ht9, hp⟩ := hv
              replace ht9 := ht9.symm
              subst ht9
              dsimp only [Option.toList, List.cons_append, List.nil_append]
              refine xJ_aload_n hX dX8_readTerm_64 rfl ?_
              refine xJ_iload_n hX dX8_readTerm_65 rfl ?_
              refine xJ_callV (As := [_]) hX hB dX8_readTerm_66 lk_X8_208 im_X8_emit se_X8_emit rfl (by decide) (oX8_k hL) (c_X8_emit hL hM61 ⟨by decide, by decide⟩ hp) (by omega) rfl rfl rfl (Nat.le_of_ble_eq_true rfl) (by decide) (by decide) (fun v t9 M66 hv => ?_) (fun _ _ _ q => q.elim)
              obtain ⟨rfl, hM66, ht9, hp⟩ := hv
              replace ht9 := ht9.symm
              subst ht9
              dsimp only [Option.toList, List.cons_append, List.nil_append]
              refine xJ_iinc hX dX8_readTerm_69 rfl rfl ?_
              dsimp only [List.set]
              obtain ⟨h69, hp⟩ := hp
              refine xJ_goto hX dX8_readTerm_72 (tgt := 7) (by decide) ?_
              refine xJ_fg 3 ?_
              dsimp only [List.set]
              exact ih _ _ _ hM66 hx1 h69 hp
  refine lp7 F _ _ _ hM2 hx1 ⟨by decide, by decide⟩ hp
def p_X8_readSum_7 (F : Nat) (PS : Int → xMe → (xMe → Prop) → Prop) (a : Nat) (Q : xMe → Prop) : Nat → Int → Int → xMe → Prop
  | 0, _, _, _ => False
  | k + 1, x1, x2, M =>
    ((700 ≤ x2 → Q M) ∧ (x2 < 700 → (((M a 2) ≠ 0 → Q M) ∧ ((M a 2) = 0 → p_X8_isEither a 43 45 M (fun r26 M26 => ((r26 = 0 → Q M26) ∧ (r26 ≠ 0 → (((M26 (a + 1) 4) ≠ 43 → p_X9_moveOn F (a + 1) M26 (fun M55 => p_X8_readTerm F PS a x1 M55 (fun M60 => p_X8_emit a ((-2)) M60 (fun M65 => (xR (x2 + 1)) ∧ p_X8_readSum_7 F PS a Q k x1 (x2 + 1) M65)))) ∧ ((M26 (a + 1) 4) = 43 → p_X9_moveOn F (a + 1) M26 (fun M55 => p_X8_readTerm F PS a x1 M55 (fun M60 => p_X8_emit a ((-1)) M60 (fun M65 => (xR (x2 + 1)) ∧ p_X8_readSum_7 F PS a Q k x1 (x2 + 1) M65))))))))))))
def p_X8_readSum (F : Nat) (PS : Int → xMe → (xMe → Prop) → Prop) (a : Nat) (x1 : Int) (M : xMe) (Q : xMe → Prop) : Prop :=
  p_X8_readTerm F PS a x1 M (fun M2 => p_X8_readSum_7 F PS a Q F x1 0 M2)
set_option maxHeartbeats 4000000 in
set_option maxRecDepth 100000 in
theorem c_X8_readSum {G : xGx} {t : xTh} {M : xMe} {dn : Nat} {F : Nat} {PS : Int → xMe → (xMe → Prop) → Prop} {a : Nat} {x1 : Int} {Q : xMe → Prop} (hPS : ∀ (y0 : Int) (M : xMe) (Q : xMe → Prop), xMR M → xR y0 → PS y0 M Q → xCt G yX8_readSum cX8_readSum 4 none dn 0 0 [vr a, vi y0] t M (fun v t' M' => v = none ∧ xMR M' ∧ t' = t ∧ Q M') (fun _ _ _ => False)) (hL : oX8 t a) (hM : xMR M) (hx1 : xR x1) (hp : p_X8_readSum F PS a x1 M Q) : xCt G yX8_readSum cX8_readSum 4 none (dn + 14) 0 0 [vr a, vi x1] t M (fun v t' M' => v = none ∧ xMR M' ∧ t' = t ∧ Q M') (fun _ _ _ => False) := by
  refine xCt_of (L0 := [vr a, vi x1, vU, vU]) (by decide +kernel) (Nat.le_of_ble_eq_true rfl) rfl ?_
  intro X hX hB
  unfold p_X8_readSum at hp
  refine xJ_aload_n hX dX8_readSum_0 rfl ?_
  refine xJ_iload_n hX dX8_readSum_1 rfl ?_
  refine xJ_callV (As := [_]) hX hB dX8_readSum_2 lk_X8_202 im_X8_readTerm se_X8_readTerm rfl (by decide) (oX8_k hL) (c_X8_readTerm hPS hL hM hx1 hp) (by omega) rfl rfl rfl (Nat.le_of_ble_eq_true rfl) (by decide) (by decide) (fun v t9 M2 hv => ?_) (fun _ _ _ q => q.elim)
  obtain ⟨rfl, hM2, ht9, hp⟩ := hv
  replace ht9 := ht9.symm
  subst ht9
  dsimp only [Option.toList, List.cons_append, List.nil_append]
  refine xJ_iconst hX dX8_readSum_5 ?_
  refine xJ_istore_n hX dX8_readSum_6 (Nat.le_of_ble_eq_true rfl) rfl ?_
  dsimp only [List.set]
  have lp7 : ∀ (k : Nat) (x1 : Int) (x2 : Int) (M : xMe) (hM : xMR M) (hx1 : xR x1) (hx2 : xR x2) (hp : p_X8_readSum_7 F PS a Q k x1 x2 M), xJ X 0 0 t M 7 [vr a, vi x1, vi x2, vU] [] := by
    intro k
    induction k with
    | zero => intro x1 x2 M hM hx1 hx2 hp; exact hp.elim
    | succ k ih =>
      intro x1 x2 M hM hx1 hx2 hp
      unfold p_X8_readSum_7 at hp
      refine xJ_iload_n hX dX8_readSum_7 rfl ?_
      refine xJ_sipush hX dX8_readSum_8 rfl ?_
      refine xJ_icmp_ge hX dX8_readSum_11 (tgt := 74) (by decide) hx2 ⟨by decide, by decide⟩ (fun c11 => ?_) (fun c11 => ?_)
      · replace hp := hp.1 c11
        refine xJ_vret hX hB dX8_readSum_74 (by decide) (by decide) ⟨rfl, hM, rfl, hp⟩
      · replace hp := hp.2 c11
        refine xJ_aload_n hX dX8_readSum_14 rfl ?_
        refine xJ_getI hX dX8_readSum_15 fd_X8_29 rfl (oX8_k hL) ?_
        refine xJ_if_ne hX dX8_readSum_18 (tgt := 74) (by decide) (hM _ _) (fun c18 => ?_) (fun c18 => ?_)
        · replace hp := hp.1 c18
          refine xJ_vret hX hB dX8_readSum_74 (by decide) (by decide) ⟨rfl, hM, rfl, hp⟩
        · replace hp := hp.2 c18
          refine xJ_aload_n hX dX8_readSum_21 rfl ?_
          refine xJ_bipush hX dX8_readSum_22 rfl ?_
          refine xJ_bipush hX dX8_readSum_24 rfl ?_
          refine xJ_callV (As := [_, _]) hX hB dX8_readSum_26 lk_X8_205 im_X8_isEither se_X8_isEither rfl (by decide) (oX8_k hL) (c_X8_isEither hL hM ⟨by decide, by decide⟩ ⟨by decide, by decide⟩ hp) (by omega) rfl rfl rfl (Nat.le_of_ble_eq_true rfl) (by decide) (by decide) (fun v t9 M26 hv => ?_) (fun _ _ _ q => q.elim)
          obtain ⟨r26, rfl, h26, hM26, ht9, hp⟩ := hv
          replace ht9 := ht9.symm
          subst ht9
          dsimp only [Option.toList, List.cons_append, List.nil_append]
          refine xJ_if_eq hX dX8_readSum_29 (tgt := 74) (by decide) h26 (fun c29 => ?_) (fun c29 => ?_)
          · replace hp := hp.1 c29
            refine xJ_vret hX hB dX8_readSum_74 (by decide) (by decide) ⟨rfl, hM26, rfl, hp⟩
          · replace hp := hp.2 c29
            refine xJ_aload_n hX dX8_readSum_32 rfl ?_
            refine xJ_getR (b := (a + 1)) hX dX8_readSum_33 fd_X8_12 rfl (oX8_k hL) (oX8_r0 hL) ?_
            refine xJ_getI hX dX8_readSum_36 fd_X8_68 rfl (oX9_k (oX8_o0 hL)) ?_
            refine xJ_bipush hX dX8_readSum_39 rfl ?_
            refine xJ_icmp_ne hX dX8_readSum_41 (tgt := 48) (by decide) (hM26 _ _) ⟨by decide, by decide⟩ (fun c41 => ?_) (fun c41 => ?_)
            · replace hp := hp.1 c41
              refine xJ_bipush hX dX8_readSum_48 rfl ?_
              refine xJ_istore_n hX dX8_readSum_50 (Nat.le_of_ble_eq_true rfl) rfl ?_
              dsimp only [List.set]
              refine xJ_aload_n hX dX8_readSum_51 rfl ?_
              refine xJ_getR (b := (a + 1)) hX dX8_readSum_52 fd_X8_12 rfl (oX8_k hL) (oX8_r0 hL) ?_
              refine xJ_callV (As := []) hX hB dX8_readSum_55 lk_X8_59 im_X9_moveOn se_X9_moveOn rfl (by decide) (oX9_k (oX8_o0 hL)) (c_X9_moveOn (oX8_o0 hL) hM26 hp) (by omega) rfl rfl rfl (Nat.le_of_ble_eq_true rfl) (by decide) (by decide) (fun v t9 M55 hv => ?_) (fun _ _ _ q => q.elim)
              obtain ⟨rfl, hM55, ht9, hp⟩ := hv
              replace ht9 := ht9.symm
              subst ht9
              dsimp only [Option.toList, List.cons_append, List.nil_append]
              refine xJ_aload_n hX dX8_readSum_58 rfl ?_
              refine xJ_iload_n hX dX8_readSum_59 rfl ?_
              refine xJ_callV (As := [_]) hX hB dX8_readSum_60 lk_X8_202 im_X8_readTerm se_X8_readTerm rfl (by decide) (oX8_k hL) (c_X8_readTerm hPS hL hM55 hx1 hp) (by omega) rfl rfl rfl (Nat.le_of_ble_eq_true rfl) (by decide) (by decide) (fun v t9 M60 hv => ?_) (fun _ _ _ q => q.elim)
              obtain ⟨rfl, hM60, ht9, hp⟩ := hv
              replace ht9 := ht9.symm
              subst ht9
              dsimp only [Option.toList, List.cons_append, List.nil_append]
              refine xJ_aload_n hX dX8_readSum_63 rfl ?_
              refine xJ_iload_n hX dX8_readSum_64 rfl ?_
              refine xJ_callV (As := [_]) hX hB dX8_readSum_65 lk_X8_208 im_X8_emit se_X8_emit rfl (by decide) (oX8_k hL) (c_X8_emit hL hM60 ⟨by decide, by decide⟩ hp) (by omega) rfl rfl rfl (Nat.le_of_ble_eq_true rfl) (by decide) (by decide) (fun v t9 M65 hv => ?_) (fun _ _ _ q => q.elim)
              obtain ⟨rfl, hM65, ht9, hp⟩ := hv
              replace ht9 := ht9.symm
              subst ht9
              dsimp only [Option.toList, List.cons_append, List.nil_append]
              refine xJ_iinc hX dX8_readSum_68 rfl rfl ?_
              dsimp only [List.set]
              obtain ⟨h68, hp⟩ := hp
              refine xJ_goto hX dX8_readSum_71 (tgt := 7) (by decide) ?_
              refine xJ_fg 3 ?_
              dsimp only [List.set]
              exact ih _ _ _ hM65 hx1 h68 hp
            · replace hp := hp.2 c41
              refine xJ_iconst hX dX8_readSum_44 ?_
              refine xJ_goto hX dX8_readSum_45 (tgt := 50) (by decide) ?_
              refine xJ_istore_n hX dX8_readSum_50 (Nat.le_of_ble_eq_true rfl) rfl ?_
              dsimp only [List.set]
              refine xJ_aload_n hX dX8_readSum_51 rfl ?_
              refine xJ_getR (b := (a + 1)) hX dX8_readSum_52 fd_X8_12 rfl (oX8_k hL) (oX8_r0 hL) ?_
              refine xJ_callV (As := []) hX hB dX8_readSum_55 lk_X8_59 im_X9_moveOn se_X9_moveOn rfl (by decide) (oX9_k (oX8_o0 hL)) (c_X9_moveOn (oX8_o0 hL) hM26 hp) (by omega) rfl rfl rfl (Nat.le_of_ble_eq_true rfl) (by decide) (by decide) (fun v t9 M55 hv => ?_) (fun _ _ _ q => q.elim)
              obtain ⟨rfl, hM55, ht9, hp⟩ := hv
              replace ht9 := ht9.symm
              subst ht9
              dsimp only [Option.toList, List.cons_append, List.nil_append]
              refine xJ_aload_n hX dX8_readSum_58 rfl ?_
              refine xJ_iload_n hX dX8_readSum_59 rfl ?_
              refine xJ_callV (As := [_]) hX hB dX8_readSum_60 lk_X8_202 im_X8_readTerm se_X8_readTerm rfl (by decide) (oX8_k hL) (c_X8_readTerm hPS hL hM55 hx1 hp) (by omega) rfl rfl rfl (Nat.le_of_ble_eq_true rfl) (by decide) (by decide) (fun v t9 M60 hv => ?_) (fun _ _ _ q => q.elim)
              obtain ⟨rfl, hM60, ht9, hp⟩ := hv
              replace ht9 := ht9.symm
              subst ht9
              dsimp only [Option.toList, List.cons_append, List.nil_append]
              refine xJ_aload_n hX dX8_readSum_63 rfl ?_
              refine xJ_iload_n hX dX8_readSum_64 rfl ?_
              refine xJ_callV (As := [_]) hX hB dX8_readSum_65 lk_X8_208 im_X8_emit se_X8_emit rfl (by decide) (oX8_k hL) (c_X8_emit hL hM60 ⟨by decide, by decide⟩ hp) (by omega) rfl rfl rfl (Nat.le_of_ble_eq_true rfl) (by decide) (by decide) (fun v t9 M65 hv => ?_) (fun _ _ _ q => q.elim)
              obtain ⟨rfl, hM65, ht9, hp⟩ := hv
              replace ht9 := ht9.symm
              subst ht9
              dsimp only [Option.toList, List.cons_append, List.nil_append]
              refine xJ_iinc hX dX8_readSum_68 rfl rfl ?_
              dsimp only [List.set]
              obtain ⟨h68, hp⟩ := hp
              refine xJ_goto hX dX8_readSum_71 (tgt := 7) (by decide) ?_
              refine xJ_fg 3 ?_
              dsimp only [List.set]
              exact ih _ _ _ hM65 hx1 h68 hp
  refine lp7 F _ _ _ hM2 hx1 ⟨by decide, by decide⟩ hp
def p_X8_readSumR (F a : Nat) : Nat → Int → xMe → (xMe → Prop) → Prop
  | 0, _, _, _ => False
  | k + 1, x1, M, Q => p_X8_readSum F (p_X8_readSumR F a k) a x1 M Q
theorem c_X8_readSumR {G : xGx} {t : xTh} {F a : Nat} (hL : oX8 t a) : ∀ (k : Nat) (x1 : Int) (M : xMe) (Q : xMe → Prop), xMR M → xR x1 → p_X8_readSumR F a k x1 M Q → xCt G yX8_readSum cX8_readSum 4 none (14 * k) 0 0 [vr a, vi x1] t M (fun v t' M' => v = none ∧ xMR M' ∧ t' = t ∧ Q M') (fun _ _ _ => False)
  | 0, _, _, _, _, _, hp => hp.elim
  | k + 1, x1, M, Q, hM, hx1, hp => c_X8_readSum (c_X8_readSumR hL k) hL hM hx1 hp
def p_X8_readStatement (F : Nat) (a : Nat) (M : xMe) (Q : xMe → Prop) : Prop :=
  p_X9_isWord F (a + 1) 1 M (fun r6 M6 => ((r6 = 0 → p_X9_isWord F (a + 1) 2 M6 (fun r25 M25 => ((r25 = 0 → p_X9_isWord F (a + 1) 3 M25 (fun r44 M44 => ((r44 = 0 → p_X9_isWord F (a + 1) 4 M44 (fun r63 M63 => ((r63 = 0 → p_X9_isWord F (a + 1) 5 M63 (fun r82 M82 => ((r82 = 0 → p_X9_isWord F (a + 1) 6 M82 (fun r130 M130 => ((r130 = 0 → p_X9_isWord F (a + 1) 7 M130 (fun r193 M193 => ((r193 = 0 → p_X8_fail a ((-2)) M193 (fun M234 => Q M234)) ∧ (r193 ≠ 0 → (((M193 a 8) ≠ 0 → p_X8_fail a ((-2)) M193 (fun M234 => Q M234)) ∧ ((M193 a 8) = 0 → (∀ M208 : xMe, M208 = xw M193 a 8 1 → p_X9_moveOn F (a + 1) M208 (fun M215 => (∀ M220 : xMe, M220 = xw M215 a 5 0 → p_X8_readSumR F a 8 0 M220 (fun M225 => Q M225)))))))))) ∧ (r130 ≠ 0 → (((M130 a 7) ≠ 0 → p_X9_isWord F (a + 1) 7 M130 (fun r193 M193 => ((r193 = 0 → p_X8_fail a ((-2)) M193 (fun M234 => Q M234)) ∧ (r193 ≠ 0 → (((M193 a 8) ≠ 0 → p_X8_fail a ((-2)) M193 (fun M234 => Q M234)) ∧ ((M193 a 8) = 0 → (∀ M208 : xMe, M208 = xw M193 a 8 1 → p_X9_moveOn F (a + 1) M208 (fun M215 => (∀ M220 : xMe, M220 = xw M215 a 5 0 → p_X8_readSumR F a 8 0 M220 (fun M225 => Q M225)))))))))) ∧ ((M130 a 7) = 0 → (∀ M145 : xMe, M145 = xw M130 a 7 1 → p_X9_moveOn F (a + 1) M145 (fun M152 => p_X8_takeNumber F a 0 100 M152 (fun r163 M163 => (∀ M166 : xMe, M166 = xw M163 (a + 3) 9 r163 → p_X8_takeNumber F a 1 999 M166 (fun r178 M178 => (∀ M181 : xMe, M181 = xw M178 (a + 3) 10 r178 → Q M181)))))))))))) ∧ (r82 ≠ 0 → (((M82 a 6) ≠ 0 → p_X9_isWord F (a + 1) 6 M82 (fun r130 M130 => ((r130 = 0 → p_X9_isWord F (a + 1) 7 M130 (fun r193 M193 => ((r193 = 0 → p_X8_fail a ((-2)) M193 (fun M234 => Q M234)) ∧ (r193 ≠ 0 → (((M193 a 8) ≠ 0 → p_X8_fail a ((-2)) M193 (fun M234 => Q M234)) ∧ ((M193 a 8) = 0 → (∀ M208 : xMe, M208 = xw M193 a 8 1 → p_X9_moveOn F (a + 1) M208 (fun M215 => (∀ M220 : xMe, M220 = xw M215 a 5 0 → p_X8_readSumR F a 8 0 M220 (fun M225 => Q M225)))))))))) ∧ (r130 ≠ 0 → (((M130 a 7) ≠ 0 → p_X9_isWord F (a + 1) 7 M130 (fun r193 M193 => ((r193 = 0 → p_X8_fail a ((-2)) M193 (fun M234 => Q M234)) ∧ (r193 ≠ 0 → (((M193 a 8) ≠ 0 → p_X8_fail a ((-2)) M193 (fun M234 => Q M234)) ∧ ((M193 a 8) = 0 → (∀ M208 : xMe, M208 = xw M193 a 8 1 → p_X9_moveOn F (a + 1) M208 (fun M215 => (∀ M220 : xMe, M220 = xw M215 a 5 0 → p_X8_readSumR F a 8 0 M220 (fun M225 => Q M225)))))))))) ∧ ((M130 a 7) = 0 → (∀ M145 : xMe, M145 = xw M130 a 7 1 → p_X9_moveOn F (a + 1) M145 (fun M152 => p_X8_takeNumber F a 0 100 M152 (fun r163 M163 => (∀ M166 : xMe, M166 = xw M163 (a + 3) 9 r163 → p_X8_takeNumber F a 1 999 M166 (fun r178 M178 => (∀ M181 : xMe, M181 = xw M178 (a + 3) 10 r178 → Q M181)))))))))))) ∧ ((M82 a 6) = 0 → (∀ M97 : xMe, M97 = xw M82 a 6 1 → p_X9_moveOn F (a + 1) M97 (fun M104 => p_X8_takeNumber F a 0 99 M104 (fun r115 M115 => (∀ M118 : xMe, M118 = xw M115 (a + 3) 8 r115 → Q M118)))))))))) ∧ (r63 ≠ 0 → p_X8_readCoupon F a M63 (fun M70 => Q M70))))) ∧ (r44 ≠ 0 → p_X8_readPacket F a M44 (fun M51 => Q M51))))) ∧ (r25 ≠ 0 → p_X8_readFlow F a M25 (fun M32 => Q M32))))) ∧ (r6 ≠ 0 → p_X8_readGate F a M6 (fun M13 => Q M13))))
set_option maxHeartbeats 4000000 in
set_option maxRecDepth 100000 in
theorem c_X8_readStatement {G : xGx} {t : xTh} {M : xMe} {F : Nat} {a : Nat} {Q : xMe → Prop} (hL : oX8 t a) (hM : xMR M)(hp : p_X8_readStatement F a M Q) : xCt G yX8_readStatement cX8_readStatement 1 none 113 0 0 [vr a] t M (fun v t' M' => v = none ∧ xMR M' ∧ t' = t ∧ Q M') (fun _ _ _ => False) := by
  refine xCt_of (L0 := [vr a]) (by decide +kernel) (Nat.le_of_ble_eq_true rfl) rfl ?_
  intro X hX hB
  unfold p_X8_readStatement at hp
  refine xJ_aload_n hX dX8_readStatement_0 rfl ?_
  refine xJ_getR (b := (a + 1)) hX dX8_readStatement_1 fd_X8_12 rfl (oX8_k hL) (oX8_r0 hL) ?_
  refine xJ_ldcS 1 hX dX8_readStatement_4 (by decide +kernel) ?_
  refine xJ_callV (As := [_]) hX hB dX8_readStatement_6 lk_X8_55 im_X9_isWord se_X9_isWord rfl (by decide) (oX9_k (oX8_o0 hL)) (c_X9_isWord (oX8_o0 hL) (by decide) hM hp) (by decide) rfl rfl rfl (Nat.le_of_ble_eq_true rfl) (by decide) (by decide) (fun v t9 M6 hv => ?_) (fun _ _ _ q => q.elim)
  obtain ⟨r6, rfl, h6, hM6, ht9, hp⟩ := hv
  replace ht9 := ht9.symm
  subst ht9
  dsimp only [Option.toList, List.cons_append, List.nil_append]
  refine xJ_if_eq hX dX8_readStatement_9 (tgt := 19) (by decide) h6 (fun c9 => ?_) (fun c9 => ?_)
  · replace hp := hp.1 c9
    refine xJ_aload_n hX dX8_readStatement_19 rfl ?_
    refine xJ_getR (b := (a + 1)) hX dX8_readStatement_20 fd_X8_12 rfl (oX8_k hL) (oX8_r0 hL) ?_
    refine xJ_ldcS 2 hX dX8_readStatement_23 (by decide +kernel) ?_
    refine xJ_callV (As := [_]) hX hB dX8_readStatement_25 lk_X8_55 im_X9_isWord se_X9_isWord rfl (by decide) (oX9_k (oX8_o0 hL)) (c_X9_isWord (oX8_o0 hL) (by decide) hM6 hp) (by decide) rfl rfl rfl (Nat.le_of_ble_eq_true rfl) (by decide) (by decide) (fun v t9 M25 hv => ?_) (fun _ _ _ q => q.elim)
    obtain ⟨r25, rfl, h25, hM25, ht9, hp⟩ := hv
    replace ht9 := ht9.symm
    subst ht9
    dsimp only [Option.toList, List.cons_append, List.nil_append]
    refine xJ_if_eq hX dX8_readStatement_28 (tgt := 38) (by decide) h25 (fun c28 => ?_) (fun c28 => ?_)
    · replace hp := hp.1 c28
      refine xJ_aload_n hX dX8_readStatement_38 rfl ?_
      refine xJ_getR (b := (a + 1)) hX dX8_readStatement_39 fd_X8_12 rfl (oX8_k hL) (oX8_r0 hL) ?_
      refine xJ_ldcS 3 hX dX8_readStatement_42 (by decide +kernel) ?_
      refine xJ_callV (As := [_]) hX hB dX8_readStatement_44 lk_X8_55 im_X9_isWord se_X9_isWord rfl (by decide) (oX9_k (oX8_o0 hL)) (c_X9_isWord (oX8_o0 hL) (by decide) hM25 hp) (by decide) rfl rfl rfl (Nat.le_of_ble_eq_true rfl) (by decide) (by decide) (fun v t9 M44 hv => ?_) (fun _ _ _ q => q.elim)
      obtain ⟨r44, rfl, h44, hM44, ht9, hp⟩ := hv
      replace ht9 := ht9.symm
      subst ht9
      dsimp only [Option.toList, List.cons_append, List.nil_append]
      refine xJ_if_eq hX dX8_readStatement_47 (tgt := 57) (by decide) h44 (fun c47 => ?_) (fun c47 => ?_)
      · replace hp := hp.1 c47
        refine xJ_aload_n hX dX8_readStatement_57 rfl ?_
        refine xJ_getR (b := (a + 1)) hX dX8_readStatement_58 fd_X8_12 rfl (oX8_k hL) (oX8_r0 hL) ?_
        refine xJ_ldcS 4 hX dX8_readStatement_61 (by decide +kernel) ?_
        refine xJ_callV (As := [_]) hX hB dX8_readStatement_63 lk_X8_55 im_X9_isWord se_X9_isWord rfl (by decide) (oX9_k (oX8_o0 hL)) (c_X9_isWord (oX8_o0 hL) (by decide) hM44 hp) (by decide) rfl rfl rfl (Nat.le_of_ble_eq_true rfl) (by decide) (by decide) (fun v t9 M63 hv => ?_) (fun _ _ _ q => q.elim)
        obtain ⟨r63, rfl, h63, hM63, ht9, hp⟩ := hv
        replace ht9 := ht9.symm
        subst ht9
        dsimp only [Option.toList, List.cons_append, List.nil_append]
        refine xJ_if_eq hX dX8_readStatement_66 (tgt := 76) (by decide) h63 (fun c66 => ?_) (fun c66 => ?_)
        · replace hp := hp.1 c66
          refine xJ_aload_n hX dX8_readStatement_76 rfl ?_
          refine xJ_getR (b := (a + 1)) hX dX8_readStatement_77 fd_X8_12 rfl (oX8_k hL) (oX8_r0 hL) ?_
          refine xJ_ldcS 5 hX dX8_readStatement_80 (by decide +kernel) ?_
          refine xJ_callV (As := [_]) hX hB dX8_readStatement_82 lk_X8_55 im_X9_isWord se_X9_isWord rfl (by decide) (oX9_k (oX8_o0 hL)) (c_X9_isWord (oX8_o0 hL) (by decide) hM63 hp) (by decide) rfl rfl rfl (Nat.le_of_ble_eq_true rfl) (by decide) (by decide) (fun v t9 M82 hv => ?_) (fun _ _ _ q => q.elim)
          obtain ⟨r82, rfl, h82, hM82, ht9, hp⟩ := hv
          replace ht9 := ht9.symm
          subst ht9
          dsimp only [Option.toList, List.cons_append, List.nil_append]
          refine xJ_if_eq hX dX8_readStatement_85 (tgt := 124) (by decide) h82 (fun c85 => ?_) (fun c85 => ?_)
          · replace hp := hp.1 c85
            refine xJ_aload_n hX dX8_readStatement_124 rfl ?_
            refine xJ_getR (b := (a + 1)) hX dX8_readStatement_125 fd_X8_12 rfl (oX8_k hL) (oX8_r0 hL) ?_
            refine xJ_ldcS 6 hX dX8_readStatement_128 (by decide +kernel) ?_
            refine xJ_callV (As := [_]) hX hB dX8_readStatement_130 lk_X8_55 im_X9_isWord se_X9_isWord rfl (by decide) (oX9_k (oX8_o0 hL)) (c_X9_isWord (oX8_o0 hL) (by decide) hM82 hp) (by decide) rfl rfl rfl (Nat.le_of_ble_eq_true rfl) (by decide) (by decide) (fun v t9 M130 hv => ?_) (fun _ _ _ q => q.elim)
            obtain ⟨r130, rfl, h130, hM130, ht9, hp⟩ := hv
            replace ht9 := ht9.symm
            subst ht9
            dsimp only [Option.toList, List.cons_append, List.nil_append]
            refine xJ_if_eq hX dX8_readStatement_133 (tgt := 187) (by decide) h130 (fun c133 => ?_) (fun c133 => ?_)
            · replace hp := hp.1 c133
              refine xJ_aload_n hX dX8_readStatement_187 rfl ?_
              refine xJ_getR (b := (a + 1)) hX dX8_readStatement_188 fd_X8_12 rfl (oX8_k hL) (oX8_r0 hL) ?_
              refine xJ_ldcS 7 hX dX8_readStatement_191 (by decide +kernel) ?_
              refine xJ_callV (As := [_]) hX hB dX8_readStatement_193 lk_X8_55 im_X9_isWord se_X9_isWord rfl (by decide) (oX9_k (oX8_o0 hL)) (c_X9_isWord (oX8_o0 hL) (by decide) hM130 hp) (by decide) rfl rfl rfl (Nat.le_of_ble_eq_true rfl) (by decide) (by decide) (fun v t9 M193 hv => ?_) (fun _ _ _ q => q.elim)
              obtain ⟨r193, rfl, h193, hM193, ht9, hp⟩ := hv
              replace ht9 := ht9.symm
              subst ht9
              dsimp only [Option.toList, List.cons_append, List.nil_append]
              refine xJ_if_eq hX dX8_readStatement_196 (tgt := 231) (by decide) h193 (fun c196 => ?_) (fun c196 => ?_)
              · replace hp := hp.1 c196
                refine xJ_aload_n hX dX8_readStatement_231 rfl ?_
                refine xJ_bipush hX dX8_readStatement_232 rfl ?_
                refine xJ_callV (As := [_]) hX hB dX8_readStatement_234 lk_X8_65 im_X8_fail se_X8_fail rfl (by decide) (oX8_k hL) (c_X8_fail hL hM193 ⟨by decide, by decide⟩ hp) (by decide) rfl rfl rfl (Nat.le_of_ble_eq_true rfl) (by decide) (by decide) (fun v t9 M234 hv => ?_) (fun _ _ _ q => q.elim)
                obtain ⟨rfl, hM234, ht9, hp⟩ := hv
                replace ht9 := ht9.symm
                subst ht9
                dsimp only [Option.toList, List.cons_append, List.nil_append]
                refine xJ_vret hX hB dX8_readStatement_237 (by decide) (by decide) ⟨rfl, hM234, rfl, hp⟩
              · replace hp := hp.2 c196
                refine xJ_aload_n hX dX8_readStatement_199 rfl ?_
                refine xJ_getI hX dX8_readStatement_200 fd_X8_43 rfl (oX8_k hL) ?_
                refine xJ_if_ne hX dX8_readStatement_203 (tgt := 231) (by decide) (hM193 _ _) (fun c203 => ?_) (fun c203 => ?_)
                · replace hp := hp.1 c203
                  refine xJ_aload_n hX dX8_readStatement_231 rfl ?_
                  refine xJ_bipush hX dX8_readStatement_232 rfl ?_
                  refine xJ_callV (As := [_]) hX hB dX8_readStatement_234 lk_X8_65 im_X8_fail se_X8_fail rfl (by decide) (oX8_k hL) (c_X8_fail hL hM193 ⟨by decide, by decide⟩ hp) (by decide) rfl rfl rfl (Nat.le_of_ble_eq_true rfl) (by decide) (by decide) (fun v t9 M234 hv => ?_) (fun _ _ _ q => q.elim)
                  obtain ⟨rfl, hM234, ht9, hp⟩ := hv
                  replace ht9 := ht9.symm
                  subst ht9
                  dsimp only [Option.toList, List.cons_append, List.nil_append]
                  refine xJ_vret hX hB dX8_readStatement_237 (by decide) (by decide) ⟨rfl, hM234, rfl, hp⟩
                · replace hp := hp.2 c203
                  refine xJ_aload_n hX dX8_readStatement_206 rfl ?_
                  refine xJ_iconst hX dX8_readStatement_207 ?_
                  refine xJ_putIM hX dX8_readStatement_208 fd_X8_43 ft_X8 rfl rfl rfl rfl (oX8_k hL) hM193 ⟨by decide, by decide⟩ (fun M208 e208 hM208 => ?_)
                  replace hp := hp M208 e208
                  refine xJ_aload_n hX dX8_readStatement_211 rfl ?_
                  refine xJ_getR (b := (a + 1)) hX dX8_readStatement_212 fd_X8_12 rfl (oX8_k hL) (oX8_r0 hL) ?_
                  refine xJ_callV (As := []) hX hB dX8_readStatement_215 lk_X8_59 im_X9_moveOn se_X9_moveOn rfl (by decide) (oX9_k (oX8_o0 hL)) (c_X9_moveOn (oX8_o0 hL) hM208 hp) (by decide) rfl rfl rfl (Nat.le_of_ble_eq_true rfl) (by decide) (by decide) (fun v t9 M215 hv => ?_) (fun _ _ _ q => q.elim)
                  obtain ⟨rfl, hM215, ht9, hp⟩ := hv
                  replace ht9 := ht9.symm
                  subst ht9
                  dsimp only [Option.toList, List.cons_append, List.nil_append]
                  refine xJ_aload_n hX dX8_readStatement_218 rfl ?_
                  refine xJ_iconst hX dX8_readStatement_219 ?_
                  refine xJ_putIM hX dX8_readStatement_220 fd_X8_77 ft_X8 rfl rfl rfl rfl (oX8_k hL) hM215 ⟨by decide, by decide⟩ (fun M220 e220 hM220 => ?_)
                  replace hp := hp M220 e220
                  refine xJ_aload_n hX dX8_readStatement_223 rfl ?_
                  refine xJ_iconst hX dX8_readStatement_224 ?_
                  refine xJ_callV (As := [_]) hX hB dX8_readStatement_225 lk_X8_142 im_X8_readSum se_X8_readSum rfl (by decide) (oX8_k hL) (c_X8_readSumR hL 8 _ _ _  hM220 ⟨by decide, by decide⟩ hp) (by decide) rfl rfl rfl (Nat.le_of_ble_eq_true rfl) (by decide) (by decide) (fun v t9 M225 hv => ?_) (fun _ _ _ q => q.elim)
                  obtain ⟨rfl, hM225, ht9, hp⟩ := hv
                  replace ht9 := ht9.symm
                  subst ht9
                  dsimp only [Option.toList, List.cons_append, List.nil_append]
                  refine xJ_goto hX dX8_readStatement_228 (tgt := 237) (by decide) ?_
                  refine xJ_vret hX hB dX8_readStatement_237 (by decide) (by decide) ⟨rfl, hM225, rfl, hp⟩
            · replace hp := hp.2 c133
              refine xJ_aload_n hX dX8_readStatement_136 rfl ?_
              refine xJ_getI hX dX8_readStatement_137 fd_X8_40 rfl (oX8_k hL) ?_
              refine xJ_if_ne hX dX8_readStatement_140 (tgt := 187) (by decide) (hM130 _ _) (fun c140 => ?_) (fun c140 => ?_)
              · replace hp := hp.1 c140
                refine xJ_aload_n hX dX8_readStatement_187 rfl ?_
                refine xJ_getR (b := (a + 1)) hX dX8_readStatement_188 fd_X8_12 rfl (oX8_k hL) (oX8_r0 hL) ?_
                refine xJ_ldcS 7 hX dX8_readStatement_191 (by decide +kernel) ?_
                refine xJ_callV (As := [_]) hX hB dX8_readStatement_193 lk_X8_55 im_X9_isWord se_X9_isWord rfl (by decide) (oX9_k (oX8_o0 hL)) (c_X9_isWord (oX8_o0 hL) (by decide) hM130 hp) (by decide) rfl rfl rfl (Nat.le_of_ble_eq_true rfl) (by decide) (by decide) (fun v t9 M193 hv => ?_) (fun _ _ _ q => q.elim)
                obtain ⟨r193, rfl, h193, hM193, ht9, hp⟩ := hv
                replace ht9 := ht9.symm
                subst ht9
                dsimp only [Option.toList, List.cons_append, List.nil_append]
                refine xJ_if_eq hX dX8_readStatement_196 (tgt := 231) (by decide) h193 (fun c196 => ?_) (fun c196 => ?_)
                · replace hp := hp.1 c196
                  refine xJ_aload_n hX dX8_readStatement_231 rfl ?_
                  refine xJ_bipush hX dX8_readStatement_232 rfl ?_
                  refine xJ_callV (As := [_]) hX hB dX8_readStatement_234 lk_X8_65 im_X8_fail se_X8_fail rfl (by decide) (oX8_k hL) (c_X8_fail hL hM193 ⟨by decide, by decide⟩ hp) (by decide) rfl rfl rfl (Nat.le_of_ble_eq_true rfl) (by decide) (by decide) (fun v t9 M234 hv => ?_) (fun _ _ _ q => q.elim)
                  obtain ⟨rfl, hM234, ht9, hp⟩ := hv
                  replace ht9 := ht9.symm
                  subst ht9
                  dsimp only [Option.toList, List.cons_append, List.nil_append]
                  refine xJ_vret hX hB dX8_readStatement_237 (by decide) (by decide) ⟨rfl, hM234, rfl, hp⟩
                · replace hp := hp.2 c196
                  refine xJ_aload_n hX dX8_readStatement_199 rfl ?_
                  refine xJ_getI hX dX8_readStatement_200 fd_X8_43 rfl (oX8_k hL) ?_
                  refine xJ_if_ne hX dX8_readStatement_203 (tgt := 231) (by decide) (hM193 _ _) (fun c203 => ?_) (fun c203 => ?_)
                  · replace hp := hp.1 c203
                    refine xJ_aload_n hX dX8_readStatement_231 rfl ?_
                    refine xJ_bipush hX dX8_readStatement_232 rfl ?_
                    refine xJ_callV (As := [_]) hX hB dX8_readStatement_234 lk_X8_65 im_X8_fail se_X8_fail rfl (by decide) (oX8_k hL) (c_X8_fail hL hM193 ⟨by decide, by decide⟩ hp) (by decide) rfl rfl rfl (Nat.le_of_ble_eq_true rfl) (by decide) (by decide) (fun v t9 M234 hv => ?_) (fun _ _ _ q => q.elim)
                    obtain ⟨rfl, hM234, ht9, hp⟩ := hv
                    replace ht9 := ht9.symm
                    subst ht9
                    dsimp only [Option.toList, List.cons_append, List.nil_append]
                    refine xJ_vret hX hB dX8_readStatement_237 (by decide) (by decide) ⟨rfl, hM234, rfl, hp⟩
                  · replace hp := hp.2 c203
                    refine xJ_aload_n hX dX8_readStatement_206 rfl ?_
                    refine xJ_iconst hX dX8_readStatement_207 ?_
                    refine xJ_putIM hX dX8_readStatement_208 fd_X8_43 ft_X8 rfl rfl rfl rfl (oX8_k hL) hM193 ⟨by decide, by decide⟩ (fun M208 e208 hM208 => ?_)
                    replace hp := hp M208 e208
                    refine xJ_aload_n hX dX8_readStatement_211 rfl ?_
                    refine xJ_getR (b := (a + 1)) hX dX8_readStatement_212 fd_X8_12 rfl (oX8_k hL) (oX8_r0 hL) ?_
                    refine xJ_callV (As := []) hX hB dX8_readStatement_215 lk_X8_59 im_X9_moveOn se_X9_moveOn rfl (by decide) (oX9_k (oX8_o0 hL)) (c_X9_moveOn (oX8_o0 hL) hM208 hp) (by decide) rfl rfl rfl (Nat.le_of_ble_eq_true rfl) (by decide) (by decide) (fun v t9 M215 hv => ?_) (fun _ _ _ q => q.elim)
                    obtain ⟨rfl, hM215, ht9, hp⟩ := hv
                    replace ht9 := ht9.symm
                    subst ht9
                    dsimp only [Option.toList, List.cons_append, List.nil_append]
                    refine xJ_aload_n hX dX8_readStatement_218 rfl ?_
                    refine xJ_iconst hX dX8_readStatement_219 ?_
                    refine xJ_putIM hX dX8_readStatement_220 fd_X8_77 ft_X8 rfl rfl rfl rfl (oX8_k hL) hM215 ⟨by decide, by decide⟩ (fun M220 e220 hM220 => ?_)
                    replace hp := hp M220 e220
                    refine xJ_aload_n hX dX8_readStatement_223 rfl ?_
                    refine xJ_iconst hX dX8_readStatement_224 ?_
                    refine xJ_callV (As := [_]) hX hB dX8_readStatement_225 lk_X8_142 im_X8_readSum se_X8_readSum rfl (by decide) (oX8_k hL) (c_X8_readSumR hL 8 _ _ _  hM220 ⟨by decide, by decide⟩ hp) (by decide) rfl rfl rfl (Nat.le_of_ble_eq_true rfl) (by decide) (by decide) (fun v t9 M225 hv => ?_) (fun _ _ _ q => q.elim)
                    obtain ⟨rfl, hM225, ht9, hp⟩ := hv
                    replace ht9 := ht9.symm
                    subst ht9
                    dsimp only [Option.toList, List.cons_append, List.nil_append]
                    refine xJ_goto hX dX8_readStatement_228 (tgt := 237) (by decide) ?_
                    refine xJ_vret hX hB dX8_readStatement_237 (by decide) (by decide) ⟨rfl, hM225, rfl, hp⟩
              · replace hp := hp.2 c140
                refine xJ_aload_n hX dX8_readStatement_143 rfl ?_
                refine xJ_iconst hX dX8_readStatement_144 ?_
                refine xJ_putIM hX dX8_readStatement_145 fd_X8_40 ft_X8 rfl rfl rfl rfl (oX8_k hL) hM130 ⟨by decide, by decide⟩ (fun M145 e145 hM145 => ?_)
                replace hp := hp M145 e145
                refine xJ_aload_n hX dX8_readStatement_148 rfl ?_
                refine xJ_getR (b := (a + 1)) hX dX8_readStatement_149 fd_X8_12 rfl (oX8_k hL) (oX8_r0 hL) ?_
                refine xJ_callV (As := []) hX hB dX8_readStatement_152 lk_X8_59 im_X9_moveOn se_X9_moveOn rfl (by decide) (oX9_k (oX8_o0 hL)) (c_X9_moveOn (oX8_o0 hL) hM145 hp) (by decide) rfl rfl rfl (Nat.le_of_ble_eq_true rfl) (by decide) (by decide) (fun v t9 M152 hv => ?_) (fun _ _ _ q => q.elim)
                obtain ⟨rfl, hM152, ht9, hp⟩ := hv
                replace ht9 := ht9.symm
                subst ht9
                dsimp only [Option.toList, List.cons_append, List.nil_append]
                refine xJ_aload_n hX dX8_readStatement_155 rfl ?_
                refine xJ_getR (b := (a + 3)) hX dX8_readStatement_156 fd_X8_21 rfl (oX8_k hL) (oX8_r1 hL) ?_
                refine xJ_aload_n hX dX8_readStatement_159 rfl ?_
                refine xJ_iconst hX dX8_readStatement_160 ?_
                refine xJ_bipush hX dX8_readStatement_161 rfl ?_
                refine xJ_callV (As := [_, _]) hX hB dX8_readStatement_163 lk_X8_127 im_X8_takeNumber se_X8_takeNumber rfl (by decide) (oX8_k hL) (c_X8_takeNumber hL hM152 ⟨by decide, by decide⟩ ⟨by decide, by decide⟩ hp) (by decide) rfl rfl rfl (Nat.le_of_ble_eq_true rfl) (by decide) (by decide) (fun v t9 M163 hv => ?_) (fun _ _ _ q => q.elim)
                obtain ⟨r163, rfl, h163, hM163, ht9, hp⟩ := hv
                replace ht9 := ht9.symm
                subst ht9
                dsimp only [Option.toList, List.cons_append, List.nil_append]
                refine xJ_putIM hX dX8_readStatement_166 fd_X8_135 ft_X10 rfl rfl rfl rfl (oX10_k (oX8_o1 hL)) hM163 h163 (fun M166 e166 hM166 => ?_)
                replace hp := hp M166 e166
                refine xJ_aload_n hX dX8_readStatement_169 rfl ?_
                refine xJ_getR (b := (a + 3)) hX dX8_readStatement_170 fd_X8_21 rfl (oX8_k hL) (oX8_r1 hL) ?_
                refine xJ_aload_n hX dX8_readStatement_173 rfl ?_
                refine xJ_iconst hX dX8_readStatement_174 ?_
                refine xJ_sipush hX dX8_readStatement_175 rfl ?_
                refine xJ_callV (As := [_, _]) hX hB dX8_readStatement_178 lk_X8_127 im_X8_takeNumber se_X8_takeNumber rfl (by decide) (oX8_k hL) (c_X8_takeNumber hL hM166 ⟨by decide, by decide⟩ ⟨by decide, by decide⟩ hp) (by decide) rfl rfl rfl (Nat.le_of_ble_eq_true rfl) (by decide) (by decide) (fun v t9 M178 hv => ?_) (fun _ _ _ q => q.elim)
                obtain ⟨r178, rfl, h178, hM178, ht9, hp⟩ := hv
                replace ht9 := ht9.symm
                subst ht9
                dsimp only [Option.toList, List.cons_append, List.nil_append]
                refine xJ_putIM hX dX8_readStatement_181 fd_X8_138 ft_X10 rfl rfl rfl rfl (oX10_k (oX8_o1 hL)) hM178 h178 (fun M181 e181 hM181 => ?_)
                replace hp := hp M181 e181
                refine xJ_goto hX dX8_readStatement_184 (tgt := 237) (by decide) ?_
                refine xJ_vret hX hB dX8_readStatement_237 (by decide) (by decide) ⟨rfl, hM181, rfl, hp⟩
          · replace hp := hp.2 c85
            refine xJ_aload_n hX dX8_readStatement_88 rfl ?_
            refine xJ_getI hX dX8_readStatement_89 fd_X8_36 rfl (oX8_k hL) ?_
            refine xJ_if_ne hX dX8_readStatement_92 (tgt := 124) (by decide) (hM82 _ _) (fun c92 => ?_) (fun c92 => ?_)
            · replace hp := hp.1 c92
              refine xJ_aload_n hX dX8_readStatement_124 rfl ?_
              refine xJ_getR (b := (a + 1)) hX dX8_readStatement_125 fd_X8_12 rfl (oX8_k hL) (oX8_r0 hL) ?_
              refine xJ_ldcS 6 hX dX8_readStatement_128 (by decide +kernel) ?_
              refine xJ_callV (As := [_]) hX hB dX8_readStatement_130 lk_X8_55 im_X9_isWord se_X9_isWord rfl (by decide) (oX9_k (oX8_o0 hL)) (c_X9_isWord (oX8_o0 hL) (by decide) hM82 hp) (by decide) rfl rfl rfl (Nat.le_of_ble_eq_true rfl) (by decide) (by decide) (fun v t9 M130 hv => ?_) (fun _ _ _ q => q.elim)
              obtain ⟨r130, rfl, h130, hM130, ht9, hp⟩ := hv
              replace ht9 := ht9.symm
              subst ht9
              dsimp only [Option.toList, List.cons_append, List.nil_append]
              refine xJ_if_eq hX dX8_readStatement_133 (tgt := 187) (by decide) h130 (fun c133 => ?_) (fun c133 => ?_)
              · replace hp := hp.1 c133
                refine xJ_aload_n hX dX8_readStatement_187 rfl ?_
                refine xJ_getR (b := (a + 1)) hX dX8_readStatement_188 fd_X8_12 rfl (oX8_k hL) (oX8_r0 hL) ?_
                refine xJ_ldcS 7 hX dX8_readStatement_191 (by decide +kernel) ?_
                refine xJ_callV (As := [_]) hX hB dX8_readStatement_193 lk_X8_55 im_X9_isWord se_X9_isWord rfl (by decide) (oX9_k (oX8_o0 hL)) (c_X9_isWord (oX8_o0 hL) (by decide) hM130 hp) (by decide) rfl rfl rfl (Nat.le_of_ble_eq_true rfl) (by decide) (by decide) (fun v t9 M193 hv => ?_) (fun _ _ _ q => q.elim)
                obtain ⟨r193, rfl, h193, hM193, ht9, hp⟩ := hv
                replace ht9 := ht9.symm
                subst ht9
                dsimp only [Option.toList, List.cons_append, List.nil_append]
                refine xJ_if_eq hX dX8_readStatement_196 (tgt := 231) (by decide) h193 (fun c196 => ?_) (fun c196 => ?_)
                · replace hp := hp.1 c196
                  refine xJ_aload_n hX dX8_readStatement_231 rfl ?_
                  refine xJ_bipush hX dX8_readStatement_232 rfl ?_
                  refine xJ_callV (As := [_]) hX hB dX8_readStatement_234 lk_X8_65 im_X8_fail se_X8_fail rfl (by decide) (oX8_k hL) (c_X8_fail hL hM193 ⟨by decide, by decide⟩ hp) (by decide) rfl rfl rfl (Nat.le_of_ble_eq_true rfl) (by decide) (by decide) (fun v t9 M234 hv => ?_) (fun _ _ _ q => q.elim)
                  obtain ⟨rfl, hM234, ht9, hp⟩ := hv
                  replace ht9 := ht9.symm
                  subst ht9
                  dsimp only [Option.toList, List.cons_append, List.nil_append]
                  refine xJ_vret hX hB dX8_readStatement_237 (by decide) (by decide) ⟨rfl, hM234, rfl, hp⟩
                · replace hp := hp.2 c196
                  refine xJ_aload_n hX dX8_readStatement_199 rfl ?_
                  refine xJ_getI hX dX8_readStatement_200 fd_X8_43 rfl (oX8_k hL) ?_
                  refine xJ_if_ne hX dX8_readStatement_203 (tgt := 231) (by decide) (hM193 _ _) (fun c203 => ?_) (fun c203 => ?_)
                  · replace hp := hp.1 c203
                    refine xJ_aload_n hX dX8_readStatement_231 rfl ?_
                    refine xJ_bipush hX dX8_readStatement_232 rfl ?_
                    refine xJ_callV (As := [_]) hX hB dX8_readStatement_234 lk_X8_65 im_X8_fail se_X8_fail rfl (by decide) (oX8_k hL) (c_X8_fail hL hM193 ⟨by decide, by decide⟩ hp) (by decide) rfl rfl rfl (Nat.le_of_ble_eq_true rfl) (by decide) (by decide) (fun v t9 M234 hv => ?_) (fun _ _ _ q => q.elim)
                    obtain ⟨rfl, hM234, ht9, hp⟩ := hv
                    replace ht9 := ht9.symm
                    subst ht9
                    dsimp only [Option.toList, List.cons_append, List.nil_append]
                    refine xJ_vret hX hB dX8_readStatement_237 (by decide) (by decide) ⟨rfl, hM234, rfl, hp⟩
                  · replace hp := hp.2 c203
                    refine xJ_aload_n hX dX8_readStatement_206 rfl ?_
                    refine xJ_iconst hX dX8_readStatement_207 ?_
                    refine xJ_putIM hX dX8_readStatement_208 fd_X8_43 ft_X8 rfl rfl rfl rfl (oX8_k hL) hM193 ⟨by decide, by decide⟩ (fun M208 e208 hM208 => ?_)
                    replace hp := hp M208 e208
                    refine xJ_aload_n hX dX8_readStatement_211 rfl ?_
                    refine xJ_getR (b := (a + 1)) hX dX8_readStatement_212 fd_X8_12 rfl (oX8_k hL) (oX8_r0 hL) ?_
                    refine xJ_callV (As := []) hX hB dX8_readStatement_215 lk_X8_59 im_X9_moveOn se_X9_moveOn rfl (by decide) (oX9_k (oX8_o0 hL)) (c_X9_moveOn (oX8_o0 hL) hM208 hp) (by decide) rfl rfl rfl (Nat.le_of_ble_eq_true rfl) (by decide) (by decide) (fun v t9 M215 hv => ?_) (fun _ _ _ q => q.elim)
                    obtain ⟨rfl, hM215, ht9, hp⟩ := hv
                    replace ht9 := ht9.symm
                    subst ht9
                    dsimp only [Option.toList, List.cons_append, List.nil_append]
                    refine xJ_aload_n hX dX8_readStatement_218 rfl ?_
                    refine xJ_iconst hX dX8_readStatement_219 ?_
                    refine xJ_putIM hX dX8_readStatement_220 fd_X8_77 ft_X8 rfl rfl rfl rfl (oX8_k hL) hM215 ⟨by decide, by decide⟩ (fun M220 e220 hM220 => ?_)
                    replace hp := hp M220 e220
                    refine xJ_aload_n hX dX8_readStatement_223 rfl ?_
                    refine xJ_iconst hX dX8_readStatement_224 ?_
                    refine xJ_callV (As := [_]) hX hB dX8_readStatement_225 lk_X8_142 im_X8_readSum se_X8_readSum rfl (by decide) (oX8_k hL) (c_X8_readSumR hL 8 _ _ _  hM220 ⟨by decide, by decide⟩ hp) (by decide) rfl rfl rfl (Nat.le_of_ble_eq_true rfl) (by decide) (by decide) (fun v t9 M225 hv => ?_) (fun _ _ _ q => q.elim)
                    obtain ⟨rfl, hM225, ht9, hp⟩ := hv
                    replace ht9 := ht9.symm
                    subst ht9
                    dsimp only [Option.toList, List.cons_append, List.nil_append]
                    refine xJ_goto hX dX8_readStatement_228 (tgt := 237) (by decide) ?_
                    refine xJ_vret hX hB dX8_readStatement_237 (by decide) (by decide) ⟨rfl, hM225, rfl, hp⟩
              · replace hp := hp.2 c133
                refine xJ_aload_n hX dX8_readStatement_136 rfl ?_
                refine xJ_getI hX dX8_readStatement_137 fd_X8_40 rfl (oX8_k hL) ?_
                refine xJ_if_ne hX dX8_readStatement_140 (tgt := 187) (by decide) (hM130 _ _) (fun c140 => ?_) (fun c140 => ?_)
                · replace hp := hp.1 c140
                  refine xJ_aload_n hX dX8_readStatement_187 rfl ?_
                  refine xJ_getR (b := (a + 1)) hX dX8_readStatement_188 fd_X8_12 rfl (oX8_k hL) (oX8_r0 hL) ?_
                  refine xJ_ldcS 7 hX dX8_readStatement_191 (by decide +kernel) ?_
                  refine xJ_callV (As := [_]) hX hB dX8_readStatement_193 lk_X8_55 im_X9_isWord se_X9_isWord rfl (by decide) (oX9_k (oX8_o0 hL)) (c_X9_isWord (oX8_o0 hL) (by decide) hM130 hp) (by decide) rfl rfl rfl (Nat.le_of_ble_eq_true rfl) (by decide) (by decide) (fun v t9 M193 hv => ?_) (fun _ _ _ q => q.elim)
                  obtain ⟨r193, rfl, h193, hM193, ht9, hp⟩ := hv
                  replace ht9 := ht9.symm
                  subst ht9
                  dsimp only [Option.toList, List.cons_append, List.nil_append]
                  refine xJ_if_eq hX dX8_readStatement_196 (tgt := 231) (by decide) h193 (fun c196 => ?_) (fun c196 => ?_)
                  · replace hp := hp.1 c196
                    refine xJ_aload_n hX dX8_readStatement_231 rfl ?_
                    refine xJ_bipush hX dX8_readStatement_232 rfl ?_
                    refine xJ_callV (As := [_]) hX hB dX8_readStatement_234 lk_X8_65 im_X8_fail se_X8_fail rfl (by decide) (oX8_k hL) (c_X8_fail hL hM193 ⟨by decide, by decide⟩ hp) (by decide) rfl rfl rfl (Nat.le_of_ble_eq_true rfl) (by decide) (by decide) (fun v t9 M234 hv => ?_) (fun _ _ _ q => q.elim)
                    obtain ⟨rfl, hM234, ht9, hp⟩ := hv
                    replace ht9 := ht9.symm
                    subst ht9
                    dsimp only [Option.toList, List.cons_append, List.nil_append]
                    refine xJ_vret hX hB dX8_readStatement_237 (by decide) (by decide) ⟨rfl, hM234, rfl, hp⟩
                  · replace hp := hp.2 c196
                    refine xJ_aload_n hX dX8_readStatement_199 rfl ?_
                    refine xJ_getI hX dX8_readStatement_200 fd_X8_43 rfl (oX8_k hL) ?_
                    refine xJ_if_ne hX dX8_readStatement_203 (tgt := 231) (by decide) (hM193 _ _) (fun c203 => ?_) (fun c203 => ?_)
                    · replace hp := hp.1 c203
                      refine xJ_aload_n hX dX8_readStatement_231 rfl ?_
                      refine xJ_bipush hX dX8_readStatement_232 rfl ?_
                      refine xJ_callV (As := [_]) hX hB dX8_readStatement_234 lk_X8_65 im_X8_fail se_X8_fail rfl (by decide) (oX8_k hL) (c_X8_fail hL hM193 ⟨by decide, by decide⟩ hp) (by decide) rfl rfl rfl (Nat.le_of_ble_eq_true rfl) (by decide) (by decide) (fun v t9 M234 hv => ?_) (fun _ _ _ q => q.elim)
                      obtain ⟨rfl, hM234, ht9, hp⟩ := hv
                      replace ht9 := ht9.symm
                      subst ht9
                      dsimp only [Option.toList, List.cons_append, List.nil_append]
                      refine xJ_vret hX hB dX8_readStatement_237 (by decide) (by decide) ⟨rfl, hM234, rfl, hp⟩
                    · replace hp := hp.2 c203
                      refine xJ_aload_n hX dX8_readStatement_206 rfl ?_
                      refine xJ_iconst hX dX8_readStatement_207 ?_
                      refine xJ_putIM hX dX8_readStatement_208 fd_X8_43 ft_X8 rfl rfl rfl rfl (oX8_k hL) hM193 ⟨by decide, by decide⟩ (fun M208 e208 hM208 => ?_)
                      replace hp := hp M208 e208
                      refine xJ_aload_n hX dX8_readStatement_211 rfl ?_
                      refine xJ_getR (b := (a + 1)) hX dX8_readStatement_212 fd_X8_12 rfl (oX8_k hL) (oX8_r0 hL) ?_
                      refine xJ_callV (As := []) hX hB dX8_readStatement_215 lk_X8_59 im_X9_moveOn se_X9_moveOn rfl (by decide) (oX9_k (oX8_o0 hL)) (c_X9_moveOn (oX8_o0 hL) hM208 hp) (by decide) rfl rfl rfl (Nat.le_of_ble_eq_true rfl) (by decide) (by decide) (fun v t9 M215 hv => ?_) (fun _ _ _ q => q.elim)
                      obtain ⟨rfl, hM215, ht9, hp⟩ := hv
                      replace ht9 := ht9.symm
                      subst ht9
                      dsimp only [Option.toList, List.cons_append, List.nil_append]
                      refine xJ_aload_n hX dX8_readStatement_218 rfl ?_
                      refine xJ_iconst hX dX8_readStatement_219 ?_
                      refine xJ_putIM hX dX8_readStatement_220 fd_X8_77 ft_X8 rfl rfl rfl rfl (oX8_k hL) hM215 ⟨by decide, by decide⟩ (fun M220 e220 hM220 => ?_)
                      replace hp := hp M220 e220
                      refine xJ_aload_n hX dX8_readStatement_223 rfl ?_
                      refine xJ_iconst hX dX8_readStatement_224 ?_
                      refine xJ_callV (As := [_]) hX hB dX8_readStatement_225 lk_X8_142 im_X8_readSum se_X8_readSum rfl (by decide) (oX8_k hL) (c_X8_readSumR hL 8 _ _ _  hM220 ⟨by decide, by decide⟩ hp) (by decide) rfl rfl rfl (Nat.le_of_ble_eq_true rfl) (by decide) (by decide) (fun v t9 M225 hv => ?_) (fun _ _ _ q => q.elim)
                      obtain ⟨rfl, hM225, ht9, hp⟩ := hv
                      replace ht9 := ht9.symm
                      subst ht9
                      dsimp only [Option.toList, List.cons_append, List.nil_append]
                      refine xJ_goto hX dX8_readStatement_228 (tgt := 237) (by decide) ?_
                      refine xJ_vret hX hB dX8_readStatement_237 (by decide) (by decide) ⟨rfl, hM225, rfl, hp⟩
                · replace hp := hp.2 c140
                  refine xJ_aload_n hX dX8_readStatement_143 rfl ?_
                  refine xJ_iconst hX dX8_readStatement_144 ?_
                  refine xJ_putIM hX dX8_readStatement_145 fd_X8_40 ft_X8 rfl rfl rfl rfl (oX8_k hL) hM130 ⟨by decide, by decide⟩ (fun M145 e145 hM145 => ?_)
                  replace hp := hp M145 e145
                  refine xJ_aload_n hX dX8_readStatement_148 rfl ?_
                  refine xJ_getR (b := (a + 1)) hX dX8_readStatement_149 fd_X8_12 rfl (oX8_k hL) (oX8_r0 hL) ?_
                  refine xJ_callV (As := []) hX hB dX8_readStatement_152 lk_X8_59 im_X9_moveOn se_X9_moveOn rfl (by decide) (oX9_k (oX8_o0 hL)) (c_X9_moveOn (oX8_o0 hL) hM145 hp) (by decide) rfl rfl rfl (Nat.le_of_ble_eq_true rfl) (by decide) (by decide) (fun v t9 M152 hv => ?_) (fun _ _ _ q => q.elim)
                  obtain ⟨rfl, hM152, ht9, hp⟩ := hv
                  replace ht9 := ht9.symm
                  subst ht9
                  dsimp only [Option.toList, List.cons_append, List.nil_append]
                  refine xJ_aload_n hX dX8_readStatement_155 rfl ?_
                  refine xJ_getR (b := (a + 3)) hX dX8_readStatement_156 fd_X8_21 rfl (oX8_k hL) (oX8_r1 hL) ?_
                  refine xJ_aload_n hX dX8_readStatement_159 rfl ?_
                  refine xJ_iconst hX dX8_readStatement_160 ?_
                  refine xJ_bipush hX dX8_readStatement_161 rfl ?_
                  refine xJ_callV (As := [_, _]) hX hB dX8_readStatement_163 lk_X8_127 im_X8_takeNumber se_X8_takeNumber rfl (by decide) (oX8_k hL) (c_X8_takeNumber hL hM152 ⟨by decide, by decide⟩ ⟨by decide, by decide⟩ hp) (by decide) rfl rfl rfl (Nat.le_of_ble_eq_true rfl) (by decide) (by decide) (fun v t9 M163 hv => ?_) (fun _ _ _ q => q.elim)
                  obtain ⟨r163, rfl, h163, hM163, ht9, hp⟩ := hv
                  replace ht9 := ht9.symm
                  subst ht9
                  dsimp only [Option.toList, List.cons_append, List.nil_append]
                  refine xJ_putIM hX dX8_readStatement_166 fd_X8_135 ft_X10 rfl rfl rfl rfl (oX10_k (oX8_o1 hL)) hM163 h163 (fun M166 e166 hM166 => ?_)
                  replace hp := hp M166 e166
                  refine xJ_aload_n hX dX8_readStatement_169 rfl ?_
                  refine xJ_getR (b := (a + 3)) hX dX8_readStatement_170 fd_X8_21 rfl (oX8_k hL) (oX8_r1 hL) ?_
                  refine xJ_aload_n hX dX8_readStatement_173 rfl ?_
                  refine xJ_iconst hX dX8_readStatement_174 ?_
                  refine xJ_sipush hX dX8_readStatement_175 rfl ?_
                  refine xJ_callV (As := [_, _]) hX hB dX8_readStatement_178 lk_X8_127 im_X8_takeNumber se_X8_takeNumber rfl (by decide) (oX8_k hL) (c_X8_takeNumber hL hM166 ⟨by decide, by decide⟩ ⟨by decide, by decide⟩ hp) (by decide) rfl rfl rfl (Nat.le_of_ble_eq_true rfl) (by decide) (by decide) (fun v t9 M178 hv => ?_) (fun _ _ _ q => q.elim)
                  obtain ⟨r178, rfl, h178, hM178, ht9, hp⟩ := hv
                  replace ht9 := ht9.symm
                  subst ht9
                  dsimp only [Option.toList, List.cons_append, List.nil_append]
                  refine xJ_putIM hX dX8_readStatement_181 fd_X8_138 ft_X10 rfl rfl rfl rfl (oX10_k (oX8_o1 hL)) hM178 h178 (fun M181 e181 hM181 => ?_)
                  replace hp := hp M181 e181
                  refine xJ_goto hX dX8_readStatement_184 (tgt := 237) (by decide) ?_
                  refine xJ_vret hX hB dX8_readStatement_237 (by decide) (by decide) ⟨rfl, hM181, rfl, hp⟩
            · replace hp := hp.2 c92
              refine xJ_aload_n hX dX8_readStatement_95 rfl ?_
              refine xJ_iconst hX dX8_readStatement_96 ?_
              refine xJ_putIM hX dX8_readStatement_97 fd_X8_36 ft_X8 rfl rfl rfl rfl (oX8_k hL) hM82 ⟨by decide, by decide⟩ (fun M97 e97 hM97 => ?_)
              replace hp := hp M97 e97
              refine xJ_aload_n hX dX8_readStatement_100 rfl ?_
              refine xJ_getR (b := (a + 1)) hX dX8_readStatement_101 fd_X8_12 rfl (oX8_k hL) (oX8_r0 hL) ?_
              refine xJ_callV (As := []) hX hB dX8_readStatement_104 lk_X8_59 im_X9_moveOn se_X9_moveOn rfl (by decide) (oX9_k (oX8_o0 hL)) (c_X9_moveOn (oX8_o0 hL) hM97 hp) (by decide) rfl rfl rfl (Nat.le_of_ble_eq_true rfl) (by decide) (by decide) (fun v t9 M104 hv => ?_) (fun _ _ _ q => q.elim)
              obtain ⟨rfl, hM104, ht9, hp⟩ := hv
              replace ht9 := ht9.symm
              subst ht9
              dsimp only [Option.toList, List.cons_append, List.nil_append]
              refine xJ_aload_n hX dX8_readStatement_107 rfl ?_
              refine xJ_getR (b := (a + 3)) hX dX8_readStatement_108 fd_X8_21 rfl (oX8_k hL) (oX8_r1 hL) ?_
              refine xJ_aload_n hX dX8_readStatement_111 rfl ?_
              refine xJ_iconst hX dX8_readStatement_112 ?_
              refine xJ_bipush hX dX8_readStatement_113 rfl ?_
              refine xJ_callV (As := [_, _]) hX hB dX8_readStatement_115 lk_X8_127 im_X8_takeNumber se_X8_takeNumber rfl (by decide) (oX8_k hL) (c_X8_takeNumber hL hM104 ⟨by decide, by decide⟩ ⟨by decide, by decide⟩ hp) (by decide) rfl rfl rfl (Nat.le_of_ble_eq_true rfl) (by decide) (by decide) (fun v t9 M115 hv => ?_) (fun _ _ _ q => q.elim)
              obtain ⟨r115, rfl, h115, hM115, ht9, hp⟩ := hv
              replace ht9 := ht9.symm
              subst ht9
              dsimp only [Option.toList, List.cons_append, List.nil_append]
              refine xJ_putIM hX dX8_readStatement_118 fd_X8_131 ft_X10 rfl rfl rfl rfl (oX10_k (oX8_o1 hL)) hM115 h115 (fun M118 e118 hM118 => ?_)
              replace hp := hp M118 e118
              refine xJ_goto hX dX8_readStatement_121 (tgt := 237) (by decide) ?_
              refine xJ_vret hX hB dX8_readStatement_237 (by decide) (by decide) ⟨rfl, hM118, rfl, hp⟩
        · replace hp := hp.2 c66
          refine xJ_aload_n hX dX8_readStatement_69 rfl ?_
          refine xJ_callV (As := []) hX hB dX8_readStatement_70 lk_X8_122 im_X8_readCoupon se_X8_readCoupon rfl (by decide) (oX8_k hL) (c_X8_readCoupon hL hM63 hp) (by decide) rfl rfl rfl (Nat.le_of_ble_eq_true rfl) (by decide) (by decide) (fun v t9 M70 hv => ?_) (fun _ _ _ q => q.elim)
          obtain ⟨rfl, hM70, ht9, hp⟩ := hv
          replace ht9 := ht9.symm
          subst ht9
          dsimp only [Option.toList, List.cons_append, List.nil_append]
          refine xJ_goto hX dX8_readStatement_73 (tgt := 237) (by decide) ?_
          refine xJ_vret hX hB dX8_readStatement_237 (by decide) (by decide) ⟨rfl, hM70, rfl, hp⟩
      · replace hp := hp.2 c47
        refine xJ_aload_n hX dX8_readStatement_50 rfl ?_
        refine xJ_callV (As := []) hX hB dX8_readStatement_51 lk_X8_117 im_X8_readPacket se_X8_readPacket rfl (by decide) (oX8_k hL) (c_X8_readPacket hL hM44 hp) (by decide) rfl rfl rfl (Nat.le_of_ble_eq_true rfl) (by decide) (by decide) (fun v t9 M51 hv => ?_) (fun _ _ _ q => q.elim)
        obtain ⟨rfl, hM51, ht9, hp⟩ := hv
        replace ht9 := ht9.symm
        subst ht9
        dsimp only [Option.toList, List.cons_append, List.nil_append]
        refine xJ_goto hX dX8_readStatement_54 (tgt := 237) (by decide) ?_
        refine xJ_vret hX hB dX8_readStatement_237 (by decide) (by decide) ⟨rfl, hM51, rfl, hp⟩
    · replace hp := hp.2 c28
      refine xJ_aload_n hX dX8_readStatement_31 rfl ?_
      refine xJ_callV (As := []) hX hB dX8_readStatement_32 lk_X8_112 im_X8_readFlow se_X8_readFlow rfl (by decide) (oX8_k hL) (c_X8_readFlow hL hM25 hp) (by decide) rfl rfl rfl (Nat.le_of_ble_eq_true rfl) (by decide) (by decide) (fun v t9 M32 hv => ?_) (fun _ _ _ q => q.elim)
      obtain ⟨rfl, hM32, ht9, hp⟩ := hv
      replace ht9 := ht9.symm
      subst ht9
      dsimp only [Option.toList, List.cons_append, List.nil_append]
      refine xJ_goto hX dX8_readStatement_35 (tgt := 237) (by decide) ?_
      refine xJ_vret hX hB dX8_readStatement_237 (by decide) (by decide) ⟨rfl, hM32, rfl, hp⟩
  · replace hp := hp.2 c9
    refine xJ_aload_n hX dX8_readStatement_12 rfl ?_
    refine xJ_callV (As := []) hX hB dX8_readStatement_13 lk_X8_107 im_X8_readGate se_X8_readGate rfl (by decide) (oX8_k hL) (c_X8_readGate hL hM6 hp) (by decide) rfl rfl rfl (Nat.le_of_ble_eq_true rfl) (by decide) (by decide) (fun v t9 M13 hv => ?_) (fun _ _ _ q => q.elim)
    obtain ⟨rfl, hM13, ht9, hp⟩ := hv
    replace ht9 := ht9.symm
    subst ht9
    dsimp only [Option.toList, List.cons_append, List.nil_append]
    refine xJ_goto hX dX8_readStatement_16 (tgt := 237) (by decide) ?_
    refine xJ_vret hX hB dX8_readStatement_237 (by decide) (by decide) ⟨rfl, hM13, rfl, hp⟩
