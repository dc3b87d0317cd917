def p_X8_readFactor (F : Nat) (PS : Int → xMe → (xMe → Prop) → Prop) (a : Nat) (x1 : Int) (M : xMe) (Q : xMe → Prop) : Prop :=
  (((M (a + 1) 4) ≠ 40 → p_X9_isWord F (a + 1) 9 M (fun r51 M51 => ((r51 = 0 → p_X9_isWord F (a + 1) 1 M51 (fun r69 M69 => ((r69 = 0 → p_X9_isWord F (a + 1) 10 M69 (fun r87 M87 => ((r87 = 0 → p_X9_isWord F (a + 1) 11 M87 (fun r105 M105 => ((r105 = 0 → p_X8_numberStands a 0 9999 M105 (fun r122 M122 => ((r122 = 0 → Q M122) ∧ (r122 ≠ 0 → (∀ z135 : Int, z135 = M122 (a + 1) 6 → p_X8_emit a z135 M122 (fun M142 => p_X9_moveOn F (a + 1) M142 (fun M149 => Q M149))))))) ∧ (r105 ≠ 0 → p_X8_emit a ((-8)) M105 (fun M142 => p_X9_moveOn F (a + 1) M142 (fun M149 => Q M149)))))) ∧ (r87 ≠ 0 → p_X8_emit a ((-7)) M87 (fun M142 => p_X9_moveOn F (a + 1) M142 (fun M149 => Q M149)))))) ∧ (r69 ≠ 0 → p_X8_emit a ((-6)) M69 (fun M142 => p_X9_moveOn F (a + 1) M142 (fun M149 => Q M149)))))) ∧ (r51 ≠ 0 → p_X8_emit a ((-5)) M51 (fun M142 => p_X9_moveOn F (a + 1) M142 (fun M149 => Q M149)))))) ∧ ((M (a + 1) 4) = 40 → ((x1 < 4 → p_X9_moveOn F (a + 1) M (fun M28 => (xR (x1 + 1)) ∧ PS (x1 + 1) M28 (fun M35 => p_X8_takeSign F a 41 M35 (fun M41 => Q M41)))) ∧ (4 ≤ x1 → p_X8_fail a ((-6)) M (fun M20 => Q M20)))))
set_option maxHeartbeats 4000000 in
set_option maxRecDepth 100000 in
theorem c_X8_readFactor {G : xGx} {t : xTh} {M : xMe} {dn : Nat} {F : Nat} {PS : Int → xMe → (xMe → Prop) → Prop} {a : Nat} {x1 : Int} {Q : xMe → Prop} (hPS : ∀ (y0 : Int) (M : xMe) (Q : xMe → Prop), xMR M → xR y0 → PS y0 M Q → xCt G yX8_readSum cX8_readSum 4 none dn 0 0 [vr a, vi y0] t M (fun v t' M' => v = none ∧ xMR M' ∧ t' = t ∧ Q M') (fun _ _ _ => False)) (hL : oX8 t a) (hM : xMR M) (hx1 : xR x1) (hp : p_X8_readFactor F PS a x1 M Q) : xCt G yX8_readFactor cX8_readFactor 3 none (dn + 10) 0 0 [vr a, vi x1] t M (fun v t' M' => v = none ∧ xMR M' ∧ t' = t ∧ Q M') (fun _ _ _ => False) := by
  refine xCt_of (L0 := [vr a, vi x1, vU]) (by decide +kernel) (Nat.le_of_ble_eq_true rfl) rfl ?_
  intro X hX hB
  unfold p_X8_readFactor at hp
  refine xJ_aload_n hX dX8_readFactor_0 rfl ?_
  refine xJ_getR (b := (a + 1)) hX dX8_readFactor_1 fd_X8_12 rfl (oX8_k hL) (oX8_r0 hL) ?_
  refine xJ_getI hX dX8_readFactor_4 fd_X8_68 rfl (oX9_k (oX8_o0 hL)) ?_
  refine xJ_bipush hX dX8_readFactor_7 rfl ?_
  refine xJ_icmp_ne hX dX8_readFactor_9 (tgt := 45) (by decide) (hM _ _) ⟨by decide, by decide⟩ (fun c9 => ?_) (fun c9 => ?_)
  · replace hp := hp.1 c9
    refine xJ_aload_n hX dX8_readFactor_45 rfl ?_
    refine xJ_getR (b := (a + 1)) hX dX8_readFactor_46 fd_X8_12 rfl (oX8_k hL) (oX8_r0 hL) ?_
    refine xJ_ldcS 9 hX dX8_readFactor_49 (by decide +kernel) ?_
    refine xJ_callV (As := [_]) hX hB dX8_readFactor_51 lk_X8_55 im_X9_isWord se_X9_isWord rfl (by decide) (oX9_k (oX8_o0 hL)) (c_X9_isWord (oX8_o0 hL) (by decide) hM hp) (by omega) rfl rfl rfl (Nat.le_of_ble_eq_true rfl) (by decide) (by decide) (fun v t9 M51 hv => ?_) (fun _ _ _ q => q.elim)
    obtain ⟨r51, rfl, h51, hM51, ht9, hp⟩ := hv
    replace ht9 := ht9.symm
    subst ht9
    dsimp only [Option.toList, List.cons_append, List.nil_append]
    refine xJ_if_eq hX dX8_readFactor_54 (tgt := 63) (by decide) h51 (fun c54 => ?_) (fun c54 => ?_)
    · replace hp := hp.1 c54
      refine xJ_aload_n hX dX8_readFactor_63 rfl ?_
      refine xJ_getR (b := (a + 1)) hX dX8_readFactor_64 fd_X8_12 rfl (oX8_k hL) (oX8_r0 hL) ?_
      refine xJ_ldcS 1 hX dX8_readFactor_67 (by decide +kernel) ?_
      refine xJ_callV (As := [_]) hX hB dX8_readFactor_69 lk_X8_55 im_X9_isWord se_X9_isWord rfl (by decide) (oX9_k (oX8_o0 hL)) (c_X9_isWord (oX8_o0 hL) (by decide) hM51 hp) (by omega) rfl rfl rfl (Nat.le_of_ble_eq_true rfl) (by decide) (by decide) (fun v t9 M69 hv => ?_) (fun _ _ _ q => q.elim)
      obtain ⟨r69, rfl, h69, hM69, ht9, hp⟩ := hv
      replace ht9 := ht9.symm
      subst ht9
      dsimp only [Option.toList, List.cons_append, List.nil_append]
      refine xJ_if_eq hX dX8_readFactor_72 (tgt := 81) (by decide) h69 (fun c72 => ?_) (fun c72 => ?_)
      · replace hp := hp.1 c72
        refine xJ_aload_n hX dX8_readFactor_81 rfl ?_
        refine xJ_getR (b := (a + 1)) hX dX8_readFactor_82 fd_X8_12 rfl (oX8_k hL) (oX8_r0 hL) ?_
        refine xJ_ldcS 10 hX dX8_readFactor_85 (by decide +kernel) ?_
        refine xJ_callV (As := [_]) hX hB dX8_readFactor_87 lk_X8_55 im_X9_isWord se_X9_isWord rfl (by decide) (oX9_k (oX8_o0 hL)) (c_X9_isWord (oX8_o0 hL) (by decide) hM69 hp) (by omega) rfl rfl rfl (Nat.le_of_ble_eq_true rfl) (by decide) (by decide) (fun v t9 M87 hv => ?_) (fun _ _ _ q => q.elim)
        obtain ⟨r87, rfl, h87, hM87, ht9, hp⟩ := hv
        replace ht9 := ht9.symm
        subst ht9
        dsimp only [Option.toList, List.cons_append, List.nil_append]
        refine xJ_if_eq hX dX8_readFactor_90 (tgt := 99) (by decide) h87 (fun c90 => ?_) (fun c90 => ?_)
        · replace hp := hp.1 c90
          refine xJ_aload_n hX dX8_readFactor_99 rfl ?_
          refine xJ_getR (b := (a + 1)) hX dX8_readFactor_100 fd_X8_12 rfl (oX8_k hL) (oX8_r0 hL) ?_
          refine xJ_ldcS 11 hX dX8_readFactor_103 (by decide +kernel) ?_
          refine xJ_callV (As := [_]) hX hB dX8_readFactor_105 lk_X8_55 im_X9_isWord se_X9_isWord rfl (by decide) (oX9_k (oX8_o0 hL)) (c_X9_isWord (oX8_o0 hL) (by decide) hM87 hp) (by omega) rfl rfl rfl (Nat.le_of_ble_eq_true rfl) (by decide) (by decide) (fun v t9 M105 hv => ?_) (fun _ _ _ q => q.elim)
          obtain ⟨r105, rfl, h105, hM105, ht9, hp⟩ := hv
          replace ht9 := ht9.symm
          subst ht9
          dsimp only [Option.toList, List.cons_append, List.nil_append]
          refine xJ_if_eq hX dX8_readFactor_108 (tgt := 117) (by decide) h105 (fun c108 => ?_) (fun c108 => ?_)
          · replace hp := hp.1 c108
            refine xJ_aload_n hX dX8_readFactor_117 rfl ?_
            refine xJ_iconst hX dX8_readFactor_118 ?_
            refine xJ_sipush hX dX8_readFactor_119 rfl ?_
            refine xJ_callV (As := [_, _]) hX hB dX8_readFactor_122 lk_X8_101 im_X8_numberStands se_X8_numberStands rfl (by decide) (oX8_k hL) (c_X8_numberStands hL hM105 ⟨by decide, by decide⟩ ⟨by decide, by decide⟩ hp) (by omega) rfl rfl rfl (Nat.le_of_ble_eq_true rfl) (by decide) (by decide) (fun v t9 M122 hv => ?_) (fun _ _ _ q => q.elim)
            obtain ⟨r122, rfl, h122, hM122, ht9, hp⟩ := hv
            replace ht9 := ht9.symm
            subst ht9
            dsimp only [Option.toList, List.cons_append, List.nil_append]
            refine xJ_if_eq hX dX8_readFactor_125 (tgt := 139) (by decide) h122 (fun c125 => ?_) (fun c125 => ?_)
            · replace hp := hp.1 c125
              refine xJ_vret hX hB dX8_readFactor_139 (by decide) (by decide) ⟨rfl, hM122, rfl, hp⟩
            · replace hp := hp.2 c125
              refine xJ_aload_n hX dX8_readFactor_128 rfl ?_
              refine xJ_getR (b := (a + 1)) hX dX8_readFactor_129 fd_X8_12 rfl (oX8_k hL) (oX8_r0 hL) ?_
              refine xJ_getI hX dX8_readFactor_132 fd_X8_98 rfl (oX9_k (oX8_o0 hL)) ?_
              refine xJ_istore_n hX dX8_readFactor_135 (Nat.le_of_ble_eq_true rfl) rfl ?_
              dsimp only [List.set]
              replace hp := hp _ rfl
              refine xJ_goto hX dX8_readFactor_136 (tgt := 140) (by decide) ?_
              refine xJ_aload_n hX dX8_readFactor_140 rfl ?_
              refine xJ_iload_n hX dX8_readFactor_141 rfl ?_
              refine xJ_callV (As := [_]) hX hB dX8_readFactor_142 lk_X8_208 im_X8_emit se_X8_emit rfl (by decide) (oX8_k hL) (c_X8_emit hL hM122 (hM122 _ _) hp) (by omega) rfl rfl rfl (Nat.le_of_ble_eq_true rfl) (by decide) (by decide) (fun v t9 M142 hv => ?_) (fun _ _ _ q => q.elim)
              obtain ⟨rfl, hM142, ht9, hp⟩ := hv
              replace ht9 := ht9.symm
              subst ht9
              dsimp only [Option.toList, List.cons_append, List.nil_append]
              refine xJ_aload_n hX dX8_readFactor_145 rfl ?_
              refine xJ_getR (b := (a + 1)) hX dX8_readFactor_146 fd_X8_12 rfl (oX8_k hL) (oX8_r0 hL) ?_
              refine xJ_callV (As := []) hX hB dX8_readFactor_149 lk_X8_59 im_X9_moveOn se_X9_moveOn rfl (by decide) (oX9_k (oX8_o0 hL)) (c_X9_moveOn (oX8_o0 hL) hM142 hp) (by omega) rfl rfl rfl (Nat.le_of_ble_eq_true rfl) (by decide) (by decide) (fun v t9 M149 hv => ?_) (fun _ _ _ q => q.elim)
              obtain ⟨rfl, hM149, ht9, hp⟩ := hv
              replace ht9 := ht9.symm
              subst ht9
              dsimp only [Option.toList, List.cons_append, List.nil_append]
              refine xJ_vret hX hB dX8_readFactor_152 (by decide) (by decide) ⟨rfl, hM149, rfl, hp⟩
          · replace hp := hp.2 c108
            refine xJ_bipush hX dX8_readFactor_111 rfl ?_
            refine xJ_istore_n hX dX8_readFactor_113 (Nat.le_of_ble_eq_true rfl) rfl ?_
            dsimp only [List.set]
            refine xJ_goto hX dX8_readFactor_114 (tgt := 140) (by decide) ?_
            refine xJ_aload_n hX dX8_readFactor_140 rfl ?_
            refine xJ_iload_n hX dX8_readFactor_141 rfl ?_
            refine xJ_callV (As := [_]) hX hB dX8_readFactor_142 lk_X8_208 im_X8_emit se_X8_emit rfl (by decide) (oX8_k hL) (c_X8_emit hL hM105 ⟨by decide, by decide⟩ hp) (by omega) rfl rfl rfl (Nat.le_of_ble_eq_true rfl) (by decide) (by decide) (fun v t9 M142 hv => ?_) (fun _ _ _ q => q.elim)
            obtain ⟨rfl, hM142, ht9, hp⟩ := hv
            replace ht9 := ht9.symm
            subst ht9
            dsimp only [Option.toList, List.cons_append, List.nil_append]
            refine xJ_aload_n hX dX8_readFactor_145 rfl ?_
            refine xJ_getR (b := (a + 1)) hX dX8_readFactor_146 fd_X8_12 rfl (oX8_k hL) (oX8_r0 hL) ?_
            refine xJ_callV (As := []) hX hB dX8_readFactor_149 lk_X8_59 im_X9_moveOn se_X9_moveOn rfl (by decide) (oX9_k (oX8_o0 hL)) (c_X9_moveOn (oX8_o0 hL) hM142 hp) (by omega) rfl rfl rfl (Nat.le_of_ble_eq_true rfl) (by decide) (by decide) (fun v t9 M149 hv => ?_) (fun _ _ _ q => q.elim)
            obtain ⟨rfl, hM149, ht9, hp⟩ := hv
            replace ht9 := ht9.symm
            subst ht9
            dsimp only [Option.toList, List.cons_append, List.nil_append]
            refine xJ_vret hX hB dX8_readFactor_152 (by decide) (by decide) ⟨rfl, hM149, rfl, hp⟩
        · replace hp := hp.2 c90
          refine xJ_bipush hX dX8_readFactor_93 rfl ?_
          refine xJ_istore_n hX dX8_readFactor_95 (Nat.le_of_ble_eq_true rfl) rfl ?_
          dsimp only [List.set]
          refine xJ_goto hX dX8_readFactor_96 (tgt := 140) (by decide) ?_
          refine xJ_aload_n hX dX8_readFactor_140 rfl ?_
          refine xJ_iload_n hX dX8_readFactor_141 rfl ?_
          refine xJ_callV (As := [_]) hX hB dX8_readFactor_142 lk_X8_208 im_X8_emit se_X8_emit rfl (by decide) (oX8_k hL) (c_X8_emit hL hM87 ⟨by decide, by decide⟩ hp) (by omega) rfl rfl rfl (Nat.le_of_ble_eq_true rfl) (by decide) (by decide) (fun v t9 M142 hv => ?_) (fun _ _ _ q => q.elim)
          obtain ⟨rfl, hM142, ht9, hp⟩ := hv
          replace ht9 := ht9.symm
          subst ht9
          dsimp only [Option.toList, List.cons_append, List.nil_append]
          refine xJ_aload_n hX dX8_readFactor_145 rfl ?_
          refine xJ_getR (b := (a + 1)) hX dX8_readFactor_146 fd_X8_12 rfl (oX8_k hL) (oX8_r0 hL) ?_
          refine xJ_callV (As := []) hX hB dX8_readFactor_149 lk_X8_59 im_X9_moveOn se_X9_moveOn rfl (by decide) (oX9_k (oX8_o0 hL)) (c_X9_moveOn (oX8_o0 hL) hM142 hp) (by omega) rfl rfl rfl (Nat.le_of_ble_eq_true rfl) (by decide) (by decide) (fun v t9 M149 hv => ?_) (fun _ _ _ q => q.elim)
          obtain ⟨rfl, hM149, ht9, hp⟩ := hv
          replace ht9 := ht9.symm
          subst ht9
          dsimp only [Option.toList, List.cons_append, List.nil_append]
          refine xJ_vret hX hB dX8_readFactor_152 (by decide) (by decide) ⟨rfl, hM149, rfl, hp⟩
      · replace hp := hp.2 c72
        refine xJ_bipush hX dX8_readFactor_75 rfl ?_
        refine xJ_istore_n hX dX8_readFactor_77 (Nat.le_of_ble_eq_true rfl) rfl ?_
        dsimp only [List.set]
        refine xJ_goto hX dX8_readFactor_78 (tgt := 140) (by decide) ?_
        refine xJ_aload_n hX dX8_readFactor_140 rfl ?_
        refine xJ_iload_n hX dX8_readFactor_141 rfl ?_
        refine xJ_callV (As := [_]) hX hB dX8_readFactor_142 lk_X8_208 im_X8_emit se_X8_emit rfl (by decide) (oX8_k hL) (c_X8_emit hL hM69 ⟨by decide, by decide⟩ hp) (by omega) rfl rfl rfl (Nat.le_of_ble_eq_true rfl) (by decide) (by decide) (fun v t9 M142 hv => ?_) (fun _ _ _ q => q.elim)
        obtain ⟨rfl, hM142, ht9, hp⟩ := hv
        replace ht9 := ht9.symm
        subst ht9
        dsimp only [Option.toList, List.cons_append, List.nil_append]
        refine xJ_aload_n hX dX8_readFactor_145 rfl ?_
        refine xJ_getR (b := (a + 1)) hX dX8_readFactor_146 fd_X8_12 rfl (oX8_k hL) (oX8_r0 hL) ?_
        refine xJ_callV (As := []) hX hB dX8_readFactor_149 lk_X8_59 im_X9_moveOn se_X9_moveOn rfl (by decide) (oX9_k (oX8_o0 hL)) (c_X9_moveOn (oX8_o0 hL) hM142 hp) (by omega) rfl rfl rfl (Nat.le_of_ble_eq_true rfl) (by decide) (by decide) (fun v t9 M149 hv => ?_) (fun _ _ _ q => q.elim)
        obtain ⟨rfl, hM149, ht9, hp⟩ := hv
        replace ht9 := ht9.symm
        subst ht9
        dsimp only [Option.toList, List.cons_append, List.nil_append]
        refine xJ_vret hX hB dX8_readFactor_152 (by decide) (by decide) ⟨rfl, hM149, rfl, hp⟩
    · replace hp := hp.2 c54
      refine xJ_bipush hX dX8_readFactor_57 rfl ?_
      refine xJ_istore_n hX dX8_readFactor_59 (Nat.le_of_ble_eq_true rfl) rfl ?_
      dsimp only [List.set]
      refine xJ_goto hX dX8_readFactor_60 (tgt := 140) (by decide) ?_
      refine xJ_aload_n hX dX8_readFactor_140 rfl ?_
      refine xJ_iload_n hX dX8_readFactor_141 rfl ?_
      refine xJ_callV (As := [_]) hX hB dX8_readFactor_142 lk_X8_208 im_X8_emit se_X8_emit rfl (by decide) (oX8_k hL) (c_X8_emit hL hM51 ⟨by decide, by decide⟩ hp) (by omega) rfl rfl rfl (Nat.le_of_ble_eq_true rfl) (by decide) (by decide) (fun v t9 M142 hv => ?_) (fun _ _ _ q => q.elim)
      obtain ⟨rfl, hM142, ht9, hp⟩ := hv
      replace ht9 := ht9.symm
      subst ht9
      dsimp only [Option.toList, List.cons_append, List.nil_append]
      refine xJ_aload_n hX dX8_readFactor_145 rfl ?_
      refine xJ_getR (b := (a + 1)) hX dX8_readFactor_146 fd_X8_12 rfl (oX8_k hL) (oX8_r0 hL) ?_
      refine xJ_callV (As := []) hX hB dX8_readFactor_149 lk_X8_59 im_X9_moveOn se_X9_moveOn rfl (by decide) (oX9_k (oX8_o0 hL)) (c_X9_moveOn (oX8_o0 hL) hM142 hp) (by omega) rfl rfl rfl (Nat.le_of_ble_eq_true rfl) (by decide) (by decide) (fun v t9 M149 hv => ?_) (fun _ _ _ q => q.elim)
      obtain ⟨rfl, hM149, ht9, hp⟩ := hv
      replace ht9 := ht9.symm
      subst ht9
      dsimp only [Option.toList, List.cons_append, List.nil_append]
      refine xJ_vret hX hB dX8_readFactor_152 (by decide) (by decide) ⟨rfl, hM149, rfl, hp⟩
  · replace hp := hp.2 c9
    refine xJ_iload_n hX dX8_readFactor_12 rfl ?_
    refine xJ_iconst hX dX8_readFactor_13 ?_
    refine xJ_icmp_lt hX dX8_readFactor_14 (tgt := 24) (by decide) hx1 ⟨by decide, by decide⟩ (fun c14 => ?_) (fun c14 => ?_)
    · replace hp := hp.1 c14
      refine xJ_aload_n hX dX8_readFactor_24 rfl ?_
      refine xJ_getR (b := (a + 1)) hX dX8_readFactor_25 fd_X8_12 rfl (oX8_k hL) (oX8_r0 hL) ?_
      refine xJ_callV (As := []) hX hB dX8_readFactor_28 lk_X8_59 im_X9_moveOn se_X9_moveOn rfl (by decide) (oX9_k (oX8_o0 hL)) (c_X9_moveOn (oX8_o0 hL) hM hp) (by omega) rfl rfl rfl (Nat.le_of_ble_eq_true rfl) (by decide) (by decide) (fun v t9 M28 hv => ?_) (fun _ _ _ q => q.elim)
      obtain ⟨rfl, hM28, ht9, hp⟩ := hv
      replace ht9 := ht9.symm
      subst ht9
      dsimp only [Option.toList, List.cons_append, List.nil_append]
      refine xJ_aload_n hX dX8_readFactor_31 rfl ?_
      refine xJ_iload_n hX dX8_readFactor_32 rfl ?_
      refine xJ_iconst hX dX8_readFactor_33 ?_
      refine xJ_iadd hX dX8_readFactor_34 ?_
      obtain ⟨h34, hp⟩ := hp
      refine xJ_callV (As := [_]) hX hB dX8_readFactor_35 lk_X8_142 im_X8_readSum se_X8_readSum rfl (by decide) (oX8_k hL) (hPS _ _ _ hM28 h34 hp) (by omega) rfl rfl rfl (Nat.le_of_ble_eq_true rfl) (by decide) (by decide) (fun v t9 M35 hv => ?_) (fun _ _ _ q => q.elim)
      obtain ⟨rfl, hM35, ht9, hp⟩ := hv
      replace ht9 := ht9.symm
      subst ht9
      dsimp only [Option.toList, List.cons_append, List.nil_append]
      refine xJ_aload_n hX dX8_readFactor_38 rfl ?_
      refine xJ_bipush hX dX8_readFactor_39 rfl ?_
      refine xJ_callV (As := [_]) hX hB dX8_readFactor_41 lk_X8_62 im_X8_takeSign se_X8_takeSign rfl (by decide) (oX8_k hL) (c_X8_takeSign hL hM35 ⟨by decide, by decide⟩ hp) (by omega) rfl rfl rfl (Nat.le_of_ble_eq_true rfl) (by decide) (by decide) (fun v t9 M41 hv => ?_) (fun _ _ _ q => q.elim)
      obtain ⟨rfl, hM41, ht9, hp⟩ := hv
      replace ht9 := ht9.symm
      subst ht9
      dsimp only [Option.toList, List.cons_append, List.nil_append]
      refine xJ_vret hX hB dX8_readFactor_44 (by decide) (by decide) ⟨rfl, hM41, rfl, hp⟩
    · replace hp := hp.2 c14
      refine xJ_aload_n hX dX8_readFactor_17 rfl ?_
      refine xJ_bipush hX dX8_readFactor_18 rfl ?_
      refine xJ_callV (As := [_]) hX hB dX8_readFactor_20 lk_X8_65 im_X8_fail se_X8_fail rfl (by decide) (oX8_k hL) (c_X8_fail hL hM ⟨by decide, by decide⟩ hp) (by omega) rfl rfl rfl (Nat.le_of_ble_eq_true rfl) (by decide) (by decide) (fun v t9 M20 hv => ?_) (fun _ _ _ q => q.elim)
      obtain ⟨rfl, hM20, ht9, hp⟩ := hv
      replace ht9 := ht9.symm
      subst ht9
      dsimp only [Option.toList, List.cons_append, List.nil_append]
      refine xJ_vret hX hB dX8_readFactor_23 (by decide) (by decide) ⟨rfl, hM20, rfl, hp⟩
def p_X8_readTerm_7 (F : Nat) (PS : Int → xMe → (xMe → Prop) → Prop) (a : Nat) (Q : xMe → Prop) : Nat → Int → Int → xMe → Prop
  | 0, _, _, _ => False
  | k + 1, x1, x2, M =>
    ((700 ≤ x2 → Q M) ∧ (x2 < 700 → (((M a 2) ≠ 0 → Q M) ∧ ((M a 2) = 0 → p_X8_isEither a 42 47 M (fun r26 M26 => ((r26 = 0 → Q M26) ∧ (r26 ≠ 0 → (((M26 (a + 1) 4) ≠ 42 → p_X9_moveOn F (a + 1) M26 (fun M56 => p_X8_readFactor F PS a x1 M56 (fun M61 => p_X8_emit a ((-4)) M61 (fun M66 => (xR (x2 + 1)) ∧ p_X8_readTerm_7 F PS a Q k x1 (x2 + 1) M66)))) ∧ ((M26 (a + 1) 4) = 42 → p_X9_moveOn F (a + 1) M26 (fun M56 => p_X8_readFactor F PS a x1 M56 (fun M61 => p_X8_emit a ((-3)) M61 (fun M66 => (xR (x2 + 1)) ∧ p_X8_readTerm_7 F PS a Q k x1 (x2 + 1) M66))))))))))))
def p_X8_readTerm (F : Nat) (PS : Int → xMe → (xMe → Prop) → Prop) (a : Nat) (x1 : Int) (M : xMe) (Q : xMe → Prop) : Prop :=
  p_X8_readFactor F PS a x1 M (fun M2 => p_X8_readTerm_7 F PS a Q F x1 0 M2)
set_option maxHeartbeats 4000000 in
set_option maxRecDepth 100000 in
theorem c_X8_readTerm {G : xGx} {t : xTh} {M : xMe} {dn : Nat} {F : Nat} {PS : Int → xMe → (xMe → Prop) → Prop} {a : Nat} {x1 : Int} {Q : xMe → Prop} (hPS : ∀ (y0 : Int) (M : xMe) (Q : xMe → Prop), xMR M → xR y0 → PS y0 M Q → xCt G yX8_readSum cX8_readSum 4 none dn 0 0 [vr a, vi y0] t M (fun v t' M' => v = none ∧ xMR M' ∧ t' = t ∧ Q M') (fun _ _ _ => False)) (hL : oX8 t a) (hM : xMR M) (hx1 : xR x1) (hp : p_X8_readTerm F PS a x1 M Q) : xCt G yX8_readTerm cX8_readTerm 4 none (dn + 12) 0 0 [vr a, vi x1] t M (fun v t' M' => v = none ∧ xMR M' ∧ t' = t ∧ Q M') (fun _ _ _ => False) := by
  refine xCt_of (L0 := [vr a, vi x1, vU, vU]) (by decide +kernel) (Nat.le_of_ble_eq_true rfl) rfl ?_
  intro X hX hB
  unfold p_X8_readTerm at hp
  refine xJ_aload_n hX dX8_readTerm_0 rfl ?_
  refine xJ_iload_n hX dX8_readTerm_1 rfl ?_
  refine xJ_callV (As := [_]) hX hB dX8_readTerm_2 lk_X8_211 im_X8_readFactor se_X8_readFactor rfl (by decide) (oX8_k hL) (c_X8_readFactor hPS hL hM hx1 hp) (by omega) rfl rfl rfl (Nat.le_of_ble_eq_true rfl) (by decide) (by decide) (fun v t9 M2 hv => ?_) (fun _ _ _ q => q.elim)
  obtain ⟨rfl, hM2, ht9, hp⟩ := hv
  replace ht9 := ht9.symm
  subst ht9
  dsimp only [Option.toList, List.cons_append, List.nil_append]
  refine xJ_iconst hX dX8_readTerm_5 ?_
  refine xJ_istore_n hX dX8_readTerm_6 (Nat.le_of_ble_eq_true rfl) rfl ?_
  dsimp only [List.set]
  have lp7 : ∀ (k : Nat) (x1 : Int) (x2 : Int) (M : xMe) (hM : xMR M) (hx1 : xR x1) (hx2 : xR x2) (hp : p_X8_readTerm_7 F PS a Q k x1 x2 M), xJ X 0 0 t M 7 [vr a, vi x1, vi x2, vU] [] := by
    intro k
    induction k with
    | zero => intro x1 x2 M hM hx1 hx2 hp; exact hp.elim
    | succ k ih =>
      intro x1 x2 M hM hx1 hx2 hp
      unfold p_X8_readTerm_7 at hp
      refine xJ_iload_n hX dX8_readTerm_7 rfl ?_
      refine xJ_sipush hX dX8_readTerm_8 rfl ?_
      refine xJ_icmp_ge hX dX8_readTerm_11 (tgt := 75) (by decide) hx2 ⟨by decide, by decide⟩ (fun c11 => ?_) (fun c11 => ?_)
      · replace hp := hp.1 c11
        refine xJ_vret hX hB dX8_readTerm_75 (by decide) (by decide) ⟨rfl, hM, rfl, hp⟩
      · replace hp := hp.2 c11
        refine xJ_aload_n hX dX8_readTerm_14 rfl ?_
        refine xJ_getI hX dX8_readTerm_15 fd_X8_29 rfl (oX8_k hL) ?_
        refine xJ_if_ne hX dX8_readTerm_18 (tgt := 75) (by decide) (hM _ _) (fun c18 => ?_) (fun c18 => ?_)
        · replace hp := hp.1 c18
          refine xJ_vret hX hB dX8_readTerm_75 (by decide) (by decide) ⟨rfl, hM, rfl, hp⟩
        · replace hp := hp.2 c18
          refine xJ_aload_n hX dX8_readTerm_21 rfl ?_
          refine xJ_bipush hX dX8_readTerm_22 rfl ?_
          refine xJ_bipush hX dX8_readTerm_24 rfl ?_
          refine xJ_callV (As := [_, _]) hX hB dX8_readTerm_26 lk_X8_205 im_X8_isEither se_X8_isEither rfl (by decide) (oX8_k hL) (c_X8_isEither hL hM ⟨by decide, by decide⟩ ⟨by decide, by decide⟩ hp) (by omega) rfl rfl rfl (Nat.le_of_ble_eq_true rfl) (by decide) (by decide) (fun v t9 M26 hv => ?_) (fun _ _ _ q => q.elim)
          obtain ⟨r26, rfl, h26, hM26, ht9, hp⟩ := hv
          replace ht9 := ht9.symm
          subst ht9
          dsimp only [Option.toList, List.cons_append, List.nil_append]
          refine xJ_if_eq hX dX8_readTerm_29 (tgt := 75) (by decide) h26 (fun c29 => ?_) (fun c29 => ?_)
          · replace hp := hp.1 c29
            refine xJ_vret hX hB dX8_readTerm_75 (by decide) (by decide) ⟨rfl, hM26, rfl, hp⟩
          · replace hp := hp.2 c29
            refine xJ_aload_n hX dX8_readTerm_32 rfl ?_
            refine xJ_getR (b := (a + 1)) hX dX8_readTerm_33 fd_X8_12 rfl (oX8_k hL) (oX8_r0 hL) ?_
            refine xJ_getI hX dX8_readTerm_36 fd_X8_68 rfl (oX9_k (oX8_o0 hL)) ?_
            refine xJ_bipush hX dX8_readTerm_39 rfl ?_
            refine xJ_icmp_ne hX dX8_readTerm_41 (tgt := 49) (by decide) (hM26 _ _) ⟨by decide, by decide⟩ (fun c41 => ?_) (fun c41 => ?_)
            · replace hp := hp.1 c41
              refine xJ_bipush hX dX8_readTerm_49 rfl ?_
              refine xJ_istore_n hX dX8_readTerm_51 (Nat.le_of_ble_eq_true rfl) rfl ?_
              dsimp only [List.set]
              refine xJ_aload_n hX dX8_readTerm_52 rfl ?_
              refine xJ_getR (b := (a + 1)) hX dX8_readTerm_53 fd_X8_12 rfl (oX8_k hL) (oX8_r0 hL) ?_
              refine xJ_callV (As := []) hX hB dX8_readTerm_56 lk_X8_59 im_X9_moveOn se_X9_moveOn rfl (by decide) (oX9_k (oX8_o0 hL)) (c_X9_moveOn (oX8_o0 hL) hM26 hp) (by omega) rfl rfl rfl (Nat.le_of_ble_eq_true rfl) (by decide) (by decide) (fun v t9 M56 hv => ?_) (fun _ _ _ q => q.elim)
              obtain ⟨rfl, hM56, ht9, hp⟩ := hv
              replace ht9 := ht9.symm
              subst ht9
              dsimp only [Option.toList, List.cons_append, List.nil_append]
              refine xJ_aload_n hX dX8_readTerm_59 rfl ?_
              refine xJ_iload_n hX dX8_readTerm_60 rfl ?_
              refine xJ_callV (As := [_]) hX hB dX8_readTerm_61 lk_X8_211 im_X8_readFactor se_X8_readFactor rfl (by decide) (oX8_k hL) (c_X8_readFactor hPS hL hM56 hx1 hp) (by omega) rfl rfl rfl (Nat.le_of_ble_eq_true rfl) (by decide) (by decide) (fun v t9 M61 hv => ?_) (fun _ _ _ q => q.elim)
              obtain ⟨rfl, hM61, ht9, hp⟩ := hv
              replace ht9 := ht9.symm
              subst ht9
              dsimp only [Option.toList, List.cons_append, List.nil_append]
              refine xJ_aload_n hX dX8_readTerm_64 rfl ?_
              refine xJ_iload_n hX dX8_readTerm_65 rfl ?_
              refine xJ_callV (As := [_]) hX hB dX8_readTerm_66 lk_X8_208 im_X8_emit se_X8_emit rfl (by decide) (oX8_k hL) (c_X8_emit hL hM61 ⟨by decide, by decide⟩ hp) (by omega) rfl rfl rfl (Nat.le_of_ble_eq_true rfl) (by decide) (by decide) (fun v t9 M66 hv => ?_) (fun _ _ _ q => q.elim)
              obtain ⟨rfl, hM66, ht9, hp⟩ := hv
              replace ht9 := ht9.symm
              subst ht9
              dsimp only [Option.toList, List.cons_append, List.nil_append]
              refine xJ_iinc hX dX8_readTerm_69 rfl rfl ?_
              dsimp only [List.set]
              obtain ⟨h69, hp⟩ := hp
              refine xJ_goto hX dX8_readTerm_72 (tgt := 7) (by decide) ?_
              refine xJ_fg 3 ?_
              dsimp only [List.set]
              exact ih _ _ _ hM66 hx1 h69 hp
            · replace hp := hp.2 c41
              refine xJ_bipush hX dX8_readTerm_44 rfl ?_
              refine xJ_goto hX dX8_readTerm_46 (tgt := 51) (by decide) ?_
              refine xJ_istore_n hX dX8_readTerm_51 (Nat.le_of_ble_eq_true rfl) rfl ?_
              dsimp only [List.set]
              refine xJ_aload_n hX dX8_readTerm_52 rfl ?_
              refine xJ_getR (b := (a + 1)) hX dX8_readTerm_53 fd_X8_12 rfl (oX8_k hL) (oX8_r0 hL) ?_
              refine xJ_callV (As := []) hX hB dX8_readTerm_56 lk_X8_59 im_X9_moveOn se_X9_moveOn rfl (by decide) (oX9_k (oX8_o0 hL)) (c_X9_moveOn (oX8_o0 hL) hM26 hp) (by omega) rfl rfl rfl (Nat.le_of_ble_eq_true rfl) (by decide) (by decide) (fun v t9 M56 hv => ?_) (fun _ _ _ q => q.elim)
              obtain ⟨rfl, hM56, ht9, hp⟩ := hv
              replace ht9 := ht9.symm
              subst ht9
              dsimp only [Option.toList, List.cons_append, List.nil_append]
              refine xJ_aload_n hX dX8_readTerm_59 rfl ?_
              refine xJ_iload_n hX dX8_readTerm_60 rfl ?_
              refine xJ_callV (As := [_]) hX hB dX8_readTerm_61 lk_X8_211 im_X8_readFactor se_X8_readFactor rfl (by decide) (oX8_k hL) (c_X8_readFactor hPS hL hM56 hx1 hp) (by omega) rfl rfl rfl (Nat.le_of_ble_eq_true rfl) (by decide) (by decide) (fun v t9 M61 hv => ?_) (fun _ _ _ q => q.elim)
              obtain ⟨rfl, hM61, ht9, hp⟩ := hv
              replace ht9 := ht9.symm
              subst ht9
              dsimp only [Option.toList, List.cons_append, List.nil_append]
              refine xJ_aload_n hX dX8_readTerm_64 rfl ?_
              refine xJ_iload_n hX dX8_readTerm_65 rfl ?_
              refine xJ_callV (As := [_]) hX hB dX8_readTerm_66 lk_X8_208 im_X8_emit se_X8_emit rfl (by decide) (oX8_k hL) (c_X8_emit hL hM61 ⟨by decide, by decide⟩ hp) (by omega) rfl rfl rfl (Nat.le_of_ble_eq_true rfl) (by decide) (by decide) (fun v t9 M66 hv => ?_) (fun _ _ _ q => q.elim)
              obtain ⟨rfl, hM66, ht9, hp⟩ := hv
              replace ht9 := ht9.symm
              subst ht9
              dsimp only [Option.toList, List.cons_append, List.nil_append]
              refine xJ_iinc hX dX8_readTerm_69 rfl rfl ?_
              dsimp only [List.set]
              obtain ⟨h69, hp⟩ := hp
              refine xJ_goto hX dX8_readTerm_72 (tgt := 7) (by decide) ?_
              refine xJ_fg 3 ?_
              dsimp only [List.set]
              exact ih _ _ _ hM66 hx1 h69 hp
  refine lp7 F _ _ _ hM2 hx1 ⟨by decide, by decide⟩ hp
def p_X8_readSum_7 (F : Nat) (PS : Int → xMe → (xMe → Prop) → Prop) (a : Nat) (Q : xMe → Prop) : Nat → Int → Int → xMe → Prop
  | 0, _, _, _ => False
  | k + 1, x1, x2, M =>
    ((700 ≤ x2 → Q M) ∧ (x2 < 700 → (((M a 2) ≠ 0 → Q M) ∧ ((M a 2) = 0 → p_X8_isEither a 43 45 M (fun r26 M26 => ((r26 = 0 → Q M26) ∧ (r26 ≠ 0 → (((M26 (a + 1) 4) ≠ 43 → p_X9_moveOn F (a + 1) M26 (fun M55 => p_X8_readTerm F PS a x1 M55 (fun M60 => p_X8_emit a ((-2)) M60 (fun M65 => (xR (x2 + 1)) ∧ p_X8_readSum_7 F PS a Q k x1 (x2 + 1) M65)))) ∧ ((M26 (a + 1) 4) = 43 → p_X9_moveOn F (a + 1) M26 (fun M55 => p_X8_readTerm F PS a x1 M55 (fun M60 => p_X8_emit a ((-1)) M60 (fun M65 => (xR (x2 + 1)) ∧ p_X8_readSum_7 F PS a Q k x1 (x2 + 1) M65))))))))))))
def p_X8_readSum (F : Nat) (PS : Int → xMe → (xMe → Prop) → Prop) (a : Nat) (x1 : Int) (M : xMe) (Q : xMe → Prop) : Prop :=
  p_X8_readTerm F PS a x1 M (fun M2 => p_X8_readSum_7 F PS a Q F x1 0 M2)
set_option maxHeartbeats 4000000 in
set_option maxRecDepth 100000 in
theorem c_X8_readSum {G : xGx} {t : xTh} {M : xMe} {dn : Nat} {F : Nat} {PS : Int → xMe → (xMe → Prop) → Prop} {a : Nat} {x1 : Int} {Q : xMe → Prop} (hPS : ∀ (y0 : Int) (M : xMe) (Q : xMe → Prop), xMR M → xR y0 → PS y0 M Q → xCt G yX8_readSum cX8_readSum 4 none dn 0 0 [vr a, vi y0] t M (fun v t' M' => v = none ∧ xMR M' ∧ t' = t ∧ Q M') (fun _ _ _ => False)) (hL : oX8 t a) (hM : xMR M) (hx1 : xR x1) (hp : p_X8_readSum F PS a x1 M Q) : xCt G yX8_readSum cX8_readSum 4 none (dn + 14) 0 0 [vr a, vi x1] t M (fun v t' M' => v = none ∧ xMR M' ∧ t' = t ∧ Q M') (fun _ _ _ => False) := by
  refine xCt_of (L0 := [vr a, vi x1, vU, vU]) (by decide +kernel) (Nat.le_of_ble_eq_true rfl) rfl ?_
  intro X hX hB
  unfold p_X8_readSum at hp
  refine xJ_aload_n hX dX8_readSum_0 rfl ?_
  refine xJ_iload_n hX dX8_readSum_1 rfl ?_
  refine xJ_callV (As := [_]) hX hB dX8_readSum_2 lk_X8_202 im_X8_readTerm se_X8_readTerm rfl (by decide) (oX8_k hL) (c_X8_readTerm hPS hL hM hx1 hp) (by omega) rfl rfl rfl (Nat.le_of_ble_eq_true rfl) (by decide) (by decide) (fun v t9 M2 hv => ?_) (fun _ _ _ q => q.elim)
  obtain ⟨rfl, hM2, ht9, hp⟩ := hv
  replace ht9 := ht9.symm
  subst ht9
  dsimp only [Option.toList, List.cons_append, List.nil_append]
  refine xJ_iconst hX dX8_readSum_5 ?_
  refine xJ_istore_n hX dX8_readSum_6 (Nat.le_of_ble_eq_true rfl) rfl ?_
  dsimp only [List.set]
  have lp7 : ∀ (k : Nat) (x1 : Int) (x2 : Int) (M : xMe) (hM : xMR M) (hx1 : xR x1) (hx2 : xR x2) (hp : p_X8_readSum_7 F PS a Q k x1 x2 M), xJ X 0 0 t M 7 [vr a, vi x1, vi x2, vU] [] := by
    intro k
    induction k with
    | zero => intro x1 x2 M hM hx1 hx2 hp; exact hp.elim
    | succ k ih =>
      intro x1 x2 M hM hx1 hx2 hp
      unfold p_X8_readSum_7 at hp
      refine xJ_iload_n hX dX8_readSum_7 rfl ?_
      refine xJ_sipush hX dX8_readSum_8 rfl ?_
      refine xJ_icmp_ge hX dX8_readSum_11 (tgt := 74) (by decide) hx2 ⟨by decide, by decide⟩ (fun c11 => ?_) (fun c11 => ?_)
      · replace hp := hp.1 c11
        refine xJ_vret hX hB dX8_readSum_74 (by decide) (by decide) ⟨rfl, hM, rfl, hp⟩
      · replace hp := hp.2 c11
        refine xJ_aload_n hX dX8_readSum_14 rfl ?_
        refine xJ_getI hX dX8_readSum_15 fd_X8_29 rfl (oX8_k hL) ?_
        refine xJ_if_ne hX dX8_readSum_18 (tgt := 74) (by decide) (hM _ _) (fun c18 => ?_) (fun c18 => ?_)
        · replace hp := hp.1 c18
          refine xJ_vret hX hB dX8_readSum_74 (by decide) (by decide) ⟨rfl, hM, rfl, hp⟩
        · replace hp := hp.2 c18
          refine xJ_aload_n hX dX8_readSum_21 rfl ?_
          refine xJ_bipush hX dX8_readSum_22 rfl ?_
          refine xJ_bipush hX dX8_readSum_24 rfl ?_
          refine xJ_callV (As := [_, _]) hX hB dX8_readSum_26 lk_X8_205 im_X8_isEither se_X8_isEither rfl (by decide) (oX8_k hL) (c_X8_isEither hL hM ⟨by decide, by decide⟩ ⟨by decide, by decide⟩ hp) (by omega) rfl rfl rfl (Nat.le_of_ble_eq_true rfl) (by decide) (by decide) (fun v t9 M26 hv => ?_) (fun _ _ _ q => q.elim)
          obtain ⟨r26, rfl, h26, hM26, ht9, hp⟩ := hv
          replace ht9 := ht9.symm
          subst ht9
          dsimp only [Option.toList, List.cons_append, List.nil_append]
          refine xJ_if_eq hX dX8_readSum_29 (tgt := 74) (by decide) h26 (fun c29 => ?_) (fun c29 => ?_)
          · replace hp := hp.1 c29
            refine xJ_vret hX hB dX8_readSum_74 (by decide) (by decide) ⟨rfl, hM26, rfl, hp⟩
          · replace hp := hp.2 c29
            refine xJ_aload_n hX dX8_readSum_32 rfl ?_
            refine xJ_getR (b := (a + 1)) hX dX8_readSum_33 fd_X8_12 rfl (oX8_k hL) (oX8_r0 hL) ?_
            refine xJ_getI hX dX8_readSum_36 fd_X8_68 rfl (oX9_k (oX8_o0 hL)) ?_
            refine xJ_bipush hX dX8_readSum_39 rfl ?_
            refine xJ_icmp_ne hX dX8_readSum_41 (tgt := 48) (by decide) (hM26 _ _) ⟨by decide, by decide⟩ (fun c41 => ?_) (fun c41 => ?_)
            · replace hp := hp.1 c41
              refine xJ_bipush hX dX8_readSum_48 rfl ?_
              refine xJ_istore_n hX dX8_readSum_50 (Nat.le_of_ble_eq_true rfl) rfl ?_
              dsimp only [List.set]
              refine xJ_aload_n hX dX8_readSum_51 rfl ?_
              refine xJ_getR (b := (a + 1)) hX dX8_readSum_52 fd_X8_12 rfl (oX8_k hL) (oX8_r0 hL) ?_
              refine xJ_callV (As := []) hX hB dX8_readSum_55 lk_X8_59 im_X9_moveOn se_X9_moveOn rfl (by decide) (oX9_k (oX8_o0 hL)) (c_X9_moveOn (oX8_o0 hL) hM26 hp) (by omega) rfl rfl rfl (Nat.le_of_ble_eq_true rfl) (by decide) (by decide) (fun v t9 M55 hv => ?_) (fun _ _ _ q => q.elim)
              obtain ⟨rfl, hM55, ht9, hp⟩ := hv
              replace ht9 := ht9.symm
              subst ht9
              dsimp only [Option.toList, List.cons_append, List.nil_append]
              refine xJ_aload_n hX dX8_readSum_58 rfl ?_
              refine xJ_iload_n hX dX8_readSum_59 rfl ?_
              refine xJ_callV (As := [_]) hX hB dX8_readSum_60 lk_X8_202 im_X8_readTerm se_X8_readTerm rfl (by decide) (oX8_k hL) (c_X8_readTerm hPS hL hM55 hx1 hp) (by omega) rfl rfl rfl (Nat.le_of_ble_eq_true rfl) (by decide) (by decide) (fun v t9 M60 hv => ?_) (fun _ _ _ q => q.elim)
              obtain ⟨rfl, hM60, ht9, hp⟩ := hv
              replace ht9 := ht9.symm
              subst ht9
              dsimp only [Option.toList, List.cons_append, List.nil_append]
              refine xJ_aload_n hX dX8_readSum_63 rfl ?_
              refine xJ_iload_n hX dX8_readSum_64 rfl ?_
              refine xJ_callV (As := [_]) hX hB dX8_readSum_65 lk_X8_208 im_X8_emit se_X8_emit rfl (by decide) (oX8_k hL) (c_X8_emit hL hM60 ⟨by decide, by decide⟩ hp) (by omega) rfl rfl rfl (Nat.le_of_ble_eq_true rfl) (by decide) (by decide) (fun v t9 M65 hv => ?_) (fun _ _ _ q => q.elim)
              obtain ⟨rfl, hM65, ht9, hp⟩ := hv
              replace ht9 := ht9.symm
              subst ht9
              dsimp only [Option.toList, List.cons_append, List.nil_append]
              refine xJ_iinc hX dX8_readSum_68 rfl rfl ?_
              dsimp only [List.set]
              obtain ⟨h68, hp⟩ := hp
              refine xJ_goto hX dX8_readSum_71 (tgt := 7) (by decide) ?_
              refine xJ_fg 3 ?_
              dsimp only [List.set]
              exact ih _ _ _ hM65 hx1 h68 hp
            · replace hp := hp.2 c41
              refine xJ_iconst hX dX8_readSum_44 ?_
              refine xJ_goto hX dX8_readSum_45 (tgt := 50) (by decide) ?_
              refine xJ_istore_n hX dX8_readSum_50 (Nat.le_of_ble_eq_true rfl) rfl ?_
              dsimp only [List.set]
              refine xJ_aload_n hX dX8_readSum_51 rfl ?_
              refine xJ_getR (b := (a + 1)) hX dX8_readSum_52 fd_X8_12 rfl (oX8_k hL) (oX8_r0 hL) ?_
              refine xJ_callV (As := []) hX hB dX8_readSum_55 lk_X8_59 im_X9_moveOn se_X9_moveOn rfl (by decide) (oX9_k (oX8_o0 hL)) (c_X9_moveOn (oX8_o0 hL) hM26 hp) (by omega) rfl rfl rfl (Nat.le_of_ble_eq_true rfl) (by decide) (by decide) (fun v t9 M55 hv => ?_) (fun _ _ _ q => q.elim)
              obtain ⟨rfl, hM55, ht9, hp⟩ := hv
              replace ht9 := ht9.symm
              subst ht9
              dsimp only [Option.toList, List.cons_append, List.nil_append]
              refine xJ_aload_n hX dX8_readSum_58 rfl ?_
              refine xJ_iload_n hX dX8_readSum_59 rfl ?_
              refine xJ_callV (As := [_]) hX hB dX8_readSum_60 lk_X8_202 im_X8_readTerm se_X8_readTerm rfl (by decide) (oX8_k hL) (c_X8_readTerm hPS hL hM55 hx1 hp) (by omega) rfl rfl rfl (Nat.le_of_ble_eq_true rfl) (by decide) (by decide) (fun v t9 M60 hv => ?_) (fun _ _ _ q => q.elim)
              obtain ⟨rfl, hM60, ht9, hp⟩ := hv
              replace ht9 := ht9.symm
              subst ht9
              dsimp only [Option.toList, List.cons_append, List.nil_append]
              refine xJ_aload_n hX dX8_readSum_63 rfl ?_
              refine xJ_iload_n hX dX8_readSum_64 rfl ?_
              refine xJ_callV (As := [_]) hX hB dX8_readSum_65 lk_X8_208 im_X8_emit se_X8_emit rfl (by decide) (oX8_k hL) (c_X8_emit hL hM60 ⟨by decide, by decide⟩ hp) (by omega) rfl rfl rfl (Nat.le_of_ble_eq_true rfl) (by decide) (by decide) (fun v t9 M65 hv => ?_) (fun _ _ _ q => q.elim)
              obtain ⟨rfl, hM65, ht9, hp⟩ := hv
              replace ht9 := ht9.symm
              subst ht9
              dsimp only [Option.toList, List.cons_append, List.nil_append]
              refine xJ_iinc hX dX8_readSum_68 rfl rfl ?_
              dsimp only [List.set]
              obtain ⟨h68, hp⟩ := hp
              refine xJ_goto hX dX8_readSum_71 (tgt := 7) (by decide) ?_
              refine xJ_fg 3 ?_
              dsimp only [List.set]
              exact ih _ _ _ hM65 hx1 h68 hp
  refine lp7 F _ _ _ hM2 hx1 ⟨by decide, by decide⟩ hp
def p_X8_readSumR (F a : Nat) : Nat → Int → xMe → (xMe → Prop) → Prop
  | 0, _, _, _ => False
  | k + 1, x1, M, Q => p_X8_readSum F (p_X8_readSumR F a k) a x1 M Q
theorem c_X8_readSumR {G : xGx} {t : xTh} {F a : Nat} (hL : oX8 t a) : ∀ (k : Nat) (x1 : Int) (M : xMe) (Q : xMe → Prop), xMR M → xR x1 → p_X8_readSumR F a k x1 M Q → xCt G yX8_readSum cX8_readSum 4 none (14 * k) 0 0 [vr a, vi x1] t M (fun v t' M' => v = none ∧ xMR M' ∧ t' = t ∧ Q M') (fun _ _ _ => False)
  | 0, _, _, _, _, _, hp => hp.elim
  | k + 1, x1, M, Q, hM, hx1, hp => c_X8_readSum (c_X8_readSumR hL k) hL hM hx1 hp
def p_X8_readStatement (F : Nat) (a : Nat) (M : xMe) (Q : xMe → Prop) : Prop :=
  p_X9_isWord F (a + 1) 1 M (fun r6 M6 => ((r6 = 0 → p_X9_isWord F (a + 1) 2 M6 (fun r25 M25 => ((r25 = 0 → p_X9_isWord F (a + 1) 3 M25 (fun r44 M44 => ((r44 = 0 → p_X9_isWord F (a + 1) 4 M44 (fun r63 M63 => ((r63 = 0 → p_X9_isWord F (a + 1) 5 M63 (fun r82 M82 => ((r82 = 0 → p_X9_isWord F (a + 1) 6 M82 (fun r130 M130 => ((r130 = 0 → p_X9_isWord F (a + 1) 7 M130 (fun r193 M193 => ((r193 = 0 → p_X8_fail a ((-2)) M193 (fun M234 => Q M234)) ∧ (r193 ≠ 0 → (((M193 a 8) ≠ 0 → p_X8_fail a ((-2)) M193 (fun M234 => Q M234)) ∧ ((M193 a 8) = 0 → (∀ M208 : xMe, M208 = xw M193 a 8 1 → p_X9_moveOn F (a + 1) M208 (fun M215 => (∀ M220 : xMe, M220 = xw M215 a 5 0 → p_X8_readSumR F a 8 0 M220 (fun M225 => Q M225)))))))))) ∧ (r130 ≠ 0 → (((M130 a 7) ≠ 0 → p_X9_isWord F (a + 1) 7 M130 (fun r193 M193 => ((r193 = 0 → p_X8_fail a ((-2)) M193 (fun M234 => Q M234)) ∧ (r193 ≠ 0 → (((M193 a 8) ≠ 0 → p_X8_fail a ((-2)) M193 (fun M234 => Q M234)) ∧ ((M193 a 8) = 0 → (∀ M208 : xMe, M208 = xw M193 a 8 1 → p_X9_moveOn F (a + 1) M208 (fun M215 => (∀ M220 : xMe, M220 = xw M215 a 5 0 → p_X8_readSumR F a 8 0 M220 (fun M225 => Q M225)))))))))) ∧ ((M130 a 7) = 0 → (∀ M145 : xMe, M145 = xw M130 a 7 1 → p_X9_moveOn F (a + 1) M145 (fun M152 => p_X8_takeNumber F a 0 100 M152 (fun r163 M163 => (∀ M166 : xMe, M166 = xw M163 (a + 3) 9 r163 → p_X8_takeNumber F a 1 999 M166 (fun r178 M178 => (∀ M181 : xMe, M181 = xw M178 (a + 3) 10 r178 → Q M181)))))))))))) ∧ (r82 ≠ 0 → (((M82 a 6) ≠ 0 → p_X9_isWord F (a + 1) 6 M82 (fun r130 M130 => ((r130 = 0 → p_X9_isWord F (a + 1) 7 M130 (fun r193 M193 => ((r193 = 0 → p_X8_fail a ((-2)) M193 (fun M234 => Q M234)) ∧ (r193 ≠ 0 → (((M193 a 8) ≠ 0 → p_X8_fail a ((-2)) M193 (fun M234 => Q M234)) ∧ ((M193 a 8) = 0 → (∀ M208 : xMe, M208 = xw M193 a 8 1 → p_X9_moveOn F (a + 1) M208 (fun M215 => (∀ M220 : xMe, M220 = xw M215 a 5 0 → p_X8_readSumR F a 8 0 M220 (fun M225 => Q M225)))))))))) ∧ (r130 ≠ 0 → (((M130 a 7) ≠ 0 → p_X9_isWord F (a + 1) 7 M130 (fun r193 M193 => ((r193 = 0 → p_X8_fail a ((-2)) M193 (fun M234 => Q M234)) ∧ (r193 ≠ 0 → (((M193 a 8) ≠ 0 → p_X8_fail a ((-2)) M193 (fun M234 => Q M234)) ∧ ((M193 a 8) = 0 → (∀ M208 : xMe, M208 = xw M193 a 8 1 → p_X9_moveOn F (a + 1) M208 (fun M215 => (∀ M220 : xMe, M220 = xw M215 a 5 0 → p_X8_readSumR F a 8 0 M220 (fun M225 => Q M225)))))))))) ∧ ((M130 a 7) = 0 → (∀ M145 : xMe, M145 = xw M130 a 7 1 → p_X9_moveOn F (a + 1) M145 (fun M152 => p_X8_takeNumber F a 0 100 M152 (fun r163 M163 => (∀ M166 : xMe, M166 = xw M163 (a + 3) 9 r163 → p_X8_takeNumber F a 1 999 M166 (fun r178 M178 => (∀ M181 : xMe, M181 = xw M178 (a + 3) 10 r178 → Q M181)))))))))))) ∧ ((M82 a 6) = 0 → (∀ M97 : xMe, M97 = xw M82 a 6 1 → p_X9_moveOn F (a + 1) M97 (fun M104 => p_X8_takeNumber F a 0 99 M104 (fun r115 M115 => (∀ M118 : xMe, M118 = xw M115 (a + 3) 8 r115 → Q M118)))))))))) ∧ (r63 ≠ 0 → p_X8_readCoupon F a M63 (fun M70 => Q M70))))) ∧ (r44 ≠ 0 → p_X8_readPacket F a M44 (fun M51 => Q M51))))) ∧ (r25 ≠ 0 → p_X8_readFlow F a M25 (fun M32 => Q M32))))) ∧ (r6 ≠ 0 → p_X8_readGate F a M6 (fun M13 => Q M13))))
set_option maxHeartbeats 4000000 in
set_option maxRecDepth 100000 in
theorem c_X8_readStatement {G : xGx} {t : xTh} {M : xMe} {F : Nat} {a : Nat} {Q : xMe → Prop} (hL : oX8 t a) (hM : xMR M)(hp : p_X8_readStatement F a M Q) : xCt G yX8_readStatement cX8_readStatement 1 none 113 0 0 [vr a] t M (fun v t' M' => v = none ∧ xMR M' ∧ t' = t ∧ Q M') (fun _ _ _ => False) := by
  refine xCt_of (L0 := [vr a]) (by decide +kernel) (Nat.le_of_ble_eq_true rfl) rfl ?_
  intro X hX hB
  unfold p_X8_readStatement at hp
  refine xJ_aload_n hX dX8_readStatement_0 rfl ?_
  refine xJ_getR (b := (a + 1)) hX dX8_readStatement_1 fd_X8_12 rfl (oX8_k hL) (oX8_r0 hL) ?_
  refine xJ_ldcS 1 hX dX8_readStatement_4 (by decide +kernel) ?_
  refine xJ_callV (As := [_]) hX hB dX8_readStatement_6 lk_X8_55 im_X9_isWord se_X9_isWord rfl (by decide) (oX9_k (oX8_o0 hL)) (c_X9_isWord (oX8_o0 hL) (by decide) hM hp) (by decide) rfl rfl rfl (Nat.le_of_ble_eq_true rfl) (by decide) (by decide) (fun v t9 M6 hv => ?_) (fun _ _ _ q => q.elim)
  obtain ⟨r6, rfl, h6, hM6, ht9, hp⟩ := hv
  replace ht9 := ht9.symm
  subst ht9
  dsimp only [Option.toList, List.cons_append, List.nil_append]
  refine xJ_if_eq hX dX8_readStatement_9 (tgt := 19) (by decide) h6 (fun c9 => ?_) (fun c9 => ?_)
  · replace hp := hp.1 c9
    refine xJ_aload_n hX dX8_readStatement_19 rfl ?_
    refine xJ_getR (b := (a + 1)) hX dX8_readStatement_20 fd_X8_12 rfl (oX8_k hL) (oX8_r0 hL) ?_
    refine xJ_ldcS 2 hX dX8_readStatement_23 (by decide +kernel) ?_
    refine xJ_callV (As := [_]) hX hB dX8_readStatement_25 lk_X8_55 im_X9_isWord se_X9_isWord rfl (by decide) (oX9_k (oX8_o0 hL)) (c_X9_isWord (oX8_o0 hL) (by decide) hM6 hp) (by decide) rfl rfl rfl (Nat.le_of_ble_eq_true rfl) (by decide) (by decide) (fun v t9 M25 hv => ?_) (fun _ _ _ q => q.elim)
    obtain ⟨r25, rfl, h25, hM25, ht9, hp⟩ := hv
    replace ht9 := ht9.symm
    subst ht9
    dsimp only [Option.toList, List.cons_append, List.nil_append]
    refine xJ_if_eq hX dX8_readStatement_28 (tgt := 38) (by decide) h25 (fun c28 => ?_) (fun c28 => ?_)
    · replace hp := hp.1 c28
      refine xJ_aload_n hX dX8_readStatement_38 rfl ?_
      refine xJ_getR (b := (a + 1)) hX dX8_readStatement_39 fd_X8_12 rfl (oX8_k hL) (oX8_r0 hL) ?_
      refine xJ_ldcS 3 hX dX8_readStatement_42 (by decide +kernel) ?_
      refine xJ_callV (As := [_]) hX hB dX8_readStatement_44 lk_X8_55 im_X9_isWord se_X9_isWord rfl (by decide) (oX9_k (oX8_o0 hL)) (c_X9_isWord (oX8_o0 hL) (by decide) hM25 hp) (by decide) rfl rfl rfl (Nat.le_of_ble_eq_true rfl) (by decide) (by decide) (fun v t9 M44 hv => ?_) (fun _ _ _ q => q.elim)
      obtain ⟨r44, rfl, h44, hM44, ht9, hp⟩ := hv
      replace ht9 := ht9.symm
      subst ht9
      dsimp only [Option.toList, List.cons_append, List.nil_append]
      refine xJ_if_eq hX dX8_readStatement_47 (tgt := 57) (by decide) h44 (fun c47 => ?_) (fun c47 => ?_)
      · replace hp := hp.1 c47
        refine xJ_aload_n hX dX8_readStatement_57 rfl ?_
        refine xJ_getR (b := (a + 1)) hX dX8_readStatement_58 fd_X8_12 rfl (oX8_k hL) (oX8_r0 hL) ?_
        refine xJ_ldcS 4 hX dX8_readStatement_61 (by decide +kernel) ?_
        refine xJ_callV (As := [_]) hX hB dX8_readStatement_63 lk_X8_55 im_X9_isWord se_X9_isWord rfl (by decide) (oX9_k (oX8_o0 hL)) (c_X9_isWord (oX8_o0 hL) (by decide) hM44 hp) (by decide) rfl rfl rfl (Nat.le_of_ble_eq_true rfl) (by decide) (by decide) (fun v t9 M63 hv => ?_) (fun _ _ _ q => q.elim)
        obtain ⟨r63, rfl, h63, hM63, ht9, hp⟩ := hv
        replace ht9 := ht9.symm
        subst ht9
        dsimp only [Option.toList, List.cons_append, List.nil_append]
        refine xJ_if_eq hX dX8_readStatement_66 (tgt := 76) (by decide) h63 (fun c66 => ?_) (fun c66 => ?_)
        · replace hp := hp.1 c66
          refine xJ_aload_n hX dX8_readStatement_76 rfl ?_
          refine xJ_getR (b := (a + 1)) hX dX8_readStatement_77 fd_X8_12 rfl (oX8_k hL) (oX8_r0 hL) ?_
          refine xJ_ldcS 5 hX dX8_readStatement_80 (by decide +kernel) ?_
          refine xJ_callV (As := [_]) hX hB dX8_readStatement_82 lk_X8_55 im_X9_isWord se_X9_isWord rfl (by decide) (oX9_k (oX8_o0 hL)) (c_X9_isWord (oX8_o0 hL) (by decide) hM63 hp) (by decide) rfl rfl rfl (Nat.le_of_ble_eq_true rfl) (by decide) (by decide) (fun v t9 M82 hv => ?_) (fun _ _ _ q => q.elim)
          obtain ⟨r82, rfl, h82, hM82, ht9, hp⟩ := hv
          replace ht9 := ht9.symm
          subst ht9
          dsimp only [Option.toList, List.cons_append, List.nil_append]
          refine xJ_if_eq hX dX8_readStatement_85 (tgt := 124) (by decide) h82 (fun c85 => ?_) (fun c85 => ?_)
          · replace hp := hp.1 c85
            refine xJ_aload_n hX dX8_readStatement_124 rfl ?_
            refine xJ_getR (b := (a + 1)) hX dX8_readStatement_125 fd_X8_12 rfl (oX8_k hL) (oX8_r0 hL) ?_
            refine xJ_ldcS 6 hX dX8_readStatement_128 (by decide +kernel) ?_
            refine xJ_callV (As := [_]) hX hB dX8_readStatement_130 lk_X8_55 im_X9_isWord se_X9_isWord rfl (by decide) (oX9_k (oX8_o0 hL)) (c_X9_isWord (oX8_o0 hL) (by decide) hM82 hp) (by decide) rfl rfl rfl (Nat.le_of_ble_eq_true rfl) (by decide) (by decide) (fun v t9 M130 hv => ?_) (fun _ _ _ q => q.elim)
            obtain ⟨r130, rfl, h130, hM130, ht9, hp⟩ := hv
            replace ht9 := ht9.symm
            subst ht9
            dsimp only [Option.toList, List.cons_append, List.nil_append]
            refine xJ_if_eq hX dX8_readStatement_133 (tgt := 187) (by decide) h130 (fun c133 => ?_) (fun c133 => ?_)
            · replace hp := hp.1 c133
              refine xJ_aload_n hX dX8_readStatement_187 rfl ?_
              refine xJ_getR (b := (a + 1)) hX dX8_readStatement_188 fd_X8_12 rfl (oX8_k hL) (oX8_r0 hL) ?_
              refine xJ_ldcS 7 hX dX8_readStatement_191 (by decide +kernel) ?_
              refine xJ_callV (As := [_]) hX hB dX8_readStatement_193 lk_X8_55 im_X9_isWord se_X9_isWord rfl (by decide) (oX9_k (oX8_o0 hL)) (c_X9_isWord (oX8_o0 hL) (by decide) hM130 hp) (by decide) rfl rfl rfl (Nat.le_of_ble_eq_true rfl) (by decide) (by decide) (fun v t9 M193 hv => ?_) (fun _ _ _ q => q.elim)
              obtain ⟨r193, rfl, h193, hM193, ht9, hp⟩ := hv
              replace ht9 := ht9.symm
              subst ht9
              dsimp only [Option.toList, List.cons_append, List.nil_append]
              refine xJ_if_eq hX dX8_readStatement_196 (tgt := 231) (by decide) h193 (fun c196 => ?_) (fun c196 => ?_)
              · replace hp := hp.1 c196
                refine xJ_aload_n hX dX8_readStatement_231 rfl ?_
                refine xJ_bipush hX dX8_readStatement_232 rfl ?_
                refine xJ_callV (As := [_]) hX hB dX8_readStatement_234 lk_X8_65 im_X8_fail se_X8_fail rfl (by decide) (oX8_k hL) (c_X8_fail hL hM193 ⟨by decide, by decide⟩ hp) (by decide) rfl rfl rfl (Nat.le_of_ble_eq_true rfl) (by decide) (by decide) (fun v t9 M234 hv => ?_) (fun _ _ _ q => q.elim)
                obtain ⟨rfl, hM234, ht9, hp⟩ := hv
                replace ht9 := ht9.symm
                subst ht9
                dsimp only [Option.toList, List.cons_append, List.nil_append]
                refine xJ_vret hX hB dX8_readStatement_237 (by decide) (by decide) ⟨rfl, hM234, rfl, hp⟩
              · replace hp := hp.2 c196
                refine xJ_aload_n hX dX8_readStatement_199 rfl ?_
                refine xJ_getI hX dX8_readStatement_200 fd_X8_43 rfl (oX8_k hL) ?_
                refine xJ_if_ne hX dX8_readStatement_203 (tgt := 231) (by decide) (hM193 _ _) (fun c203 => ?_) (fun c203 => ?_)
                · replace hp := hp.1 c203
                  refine xJ_aload_n hX dX8_readStatement_231 rfl ?_
                  refine xJ_bipush hX dX8_readStatement_232 rfl ?_
                  refine xJ_callV (As := [_]) hX hB dX8_readStatement_234 lk_X8_65 im_X8_fail se_X8_fail rfl (by decide) (oX8_k hL) (c_X8_fail hL hM193 ⟨by decide, by decide⟩ hp) (by decide) rfl rfl rfl (Nat.le_of_ble_eq_true rfl) (by decide) (by decide) (fun v t9 M234 hv => ?_) (fun _ _ _ q => q.elim)
                  obtain ⟨rfl, hM234, ht9, hp⟩ := hv
                  replace ht9 := ht9.symm
                  subst ht9
                  dsimp only [Option.toList, List.cons_append, List.nil_append]
                  refine xJ_vret hX hB dX8_readStatement_237 (by decide) (by decide) ⟨rfl, hM234, rfl, hp⟩
                · replace hp := hp.2 c203
                  refine xJ_aload_n hX dX8_readStatement_206 rfl ?_
                  refine xJ_iconst hX dX8_readStatement_207 ?_
                  refine xJ_putIM hX dX8_readStatement_208 fd_X8_43 ft_X8 rfl rfl rfl rfl (oX8_k hL) hM193 ⟨by decide, by decide⟩ (fun M208 e208 hM208 => ?_)
                  replace hp := hp M208 e208
                  refine xJ_aload_n hX dX8_readStatement_211 rfl ?_
                  refine xJ_getR (b := (a + 1)) hX dX8_readStatement_212 fd_X8_12 rfl (oX8_k hL) (oX8_r0 hL) ?_
                  refine xJ_callV (As := []) hX hB dX8_readStatement_215 lk_X8_59 im_X9_moveOn se_X9_moveOn rfl (by decide) (oX9_k (oX8_o0 hL)) (c_X9_moveOn (oX8_o0 hL) hM208 hp) (by decide) rfl rfl rfl (Nat.le_of_ble_eq_true rfl) (by decide) (by decide) (fun v t9 M215 hv => ?_) (fun _ _ _ q => q.elim)
                  obtain ⟨rfl, hM215, ht9, hp⟩ := hv
                  replace ht9 := ht9.symm
                  subst ht9
                  dsimp only [Option.toList, List.cons_append, List.nil_append]
                  refine xJ_aload_n hX dX8_readStatement_218 rfl ?_
                  refine xJ_iconst hX dX8_readStatement_219 ?_
                  refine xJ_putIM hX dX8_readStatement_220 fd_X8_77 ft_X8 rfl rfl rfl rfl (oX8_k hL) hM215 ⟨by decide, by decide⟩ (fun M220 e220 hM220 => ?_)
                  replace hp := hp M220 e220
                  refine xJ_aload_n hX dX8_readStatement_223 rfl ?_
                  refine xJ_iconst hX dX8_readStatement_224 ?_
                  refine xJ_callV (As := [_]) hX hB dX8_readStatement_225 lk_X8_142 im_X8_readSum se_X8_readSum rfl (by decide) (oX8_k hL) (c_X8_readSumR hL 8 _ _ _  hM220 ⟨by decide, by decide⟩ hp) (by decide) rfl rfl rfl (Nat.le_of_ble_eq_true rfl) (by decide) (by decide) (fun v t9 M225 hv => ?_) (fun _ _ _ q => q.elim)
                  obtain ⟨rfl, hM225, ht9, hp⟩ := hv
                  replace ht9 := ht9.symm
                  subst ht9
                  dsimp only [Option.toList, List.cons_append, List.nil_append]
                  refine xJ_goto hX dX8_readStatement_228 (tgt := 237) (by decide) ?_
                  refine xJ_vret hX hB dX8_readStatement_237 (by decide) (by decide) ⟨rfl, hM225, rfl, hp⟩
            · replace hp := hp.2 c133
              refine xJ_aload_n hX dX8_readStatement_136 rfl ?_
              refine xJ_getI hX dX8_readStatement_137 fd_X8_40 rfl (oX8_k hL) ?_
              refine xJ_if_ne hX dX8_readStatement_140 (tgt := 187) (by decide) (hM130 _ _) (fun c140 => ?_) (fun c140 => ?_)
              · replace hp := hp.1 c140
                refine xJ_aload_n hX dX8_readStatement_187 rfl ?_
                refine xJ_getR (b := (a + 1)) hX dX8_readStatement_188 fd_X8_12 rfl (oX8_k hL) (oX8_r0 hL) ?_
                refine xJ_ldcS 7 hX dX8_readStatement_191 (by decide +kernel) ?_
                refine xJ_callV (As := [_]) hX hB dX8_readStatement_193 lk_X8_55 im_X9_isWord se_X9_isWord rfl (by decide) (oX9_k (oX8_o0 hL)) (c_X9_isWord (oX8_o0 hL) (by decide) hM130 hp) (by decide) rfl rfl rfl (Nat.le_of_ble_eq_true rfl) (by decide) (by decide) (fun v t9 M193 hv => ?_) (fun _ _ _ q => q.elim)
                obtain ⟨r193, rfl, h193, hM193, ht9, hp⟩ := hv
                replace ht9 := ht9.symm
                subst ht9
                dsimp only [Option.toList, List.cons_append, List.nil_append]
                refine xJ_if_eq hX dX8_readStatement_196 (tgt := 231) (by decide) h193 (fun c196 => ?_) (fun c196 => ?_)
                · replace hp := hp.1 c196
                  refine xJ_aload_n hX dX8_readStatement_231 rfl ?_
                  refine xJ_bipush hX dX8_readStatement_232 rfl ?_
                  refine xJ_callV (As := [_]) hX hB dX8_readStatement_234 lk_X8_65 im_X8_fail se_X8_fail rfl (by decide) (oX8_k hL) (c_X8_fail hL hM193 ⟨by decide, by decide⟩ hp) (by decide) rfl rfl rfl (Nat.le_of_ble_eq_true rfl) (by decide) (by decide) (fun v t9 M234 hv => ?_) (fun _ _ _ q => q.elim)
                  obtain ⟨rfl, hM234, ht9, hp⟩ := hv
                  replace ht9 := ht9.symm
                  subst ht9
                  dsimp only [Option.toList, List.cons_append, List.nil_append]
                  refine xJ_vret hX hB dX8_readStatement_237 (by decide) (by decide) ⟨rfl, hM234, rfl, hp⟩
                · replace hp := hp.2 c196
                  refine xJ_aload_n hX dX8_readStatement_199 rfl ?_
                  refine xJ_getI hX dX8_readStatement_200 fd_X8_43 rfl (oX8_k hL) ?_
                  refine xJ_if_ne hX dX8_readStatement_203 (tgt := 231) (by decide) (hM193 _ _) (fun c203 => ?_) (fun c203 => ?_)
                  · replace hp := hp.1 c203
                    refine xJ_aload_n hX dX8_readStatement_231 rfl ?_
                    refine xJ_bipush hX dX8_readStatement_232 rfl ?_
                    refine xJ_callV (As := [_]) hX hB dX8_readStatement_234 lk_X8_65 im_X8_fail se_X8_fail rfl (by decide) (oX8_k hL) (c_X8_fail hL hM193 ⟨by decide, by decide⟩ hp) (by decide) rfl rfl rfl (Nat.le_of_ble_eq_true rfl) (by decide) (by decide) (fun v t9 M234 hv => ?_) (fun _ _ _ q => q.elim)
                    obtain ⟨rfl, hM234, ht9, hp⟩ := hv
                    replace ht9 := ht9.symm
                    subst ht9
                    dsimp only [Option.toList, List.cons_append, List.nil_append]
                    refine xJ_vret hX hB dX8_readStatement_237 (by decide) (by decide) ⟨rfl, hM234, rfl, hp⟩
                  · replace hp := hp.2 c203
                    refine xJ_aload_n hX dX8_readStatement_206 rfl ?_
                    refine xJ_iconst hX dX8_readStatement_207 ?_
                    refine xJ_putIM hX dX8_readStatement_208 fd_X8_43 ft_X8 rfl rfl rfl rfl (oX8_k hL) hM193 ⟨by decide, by decide⟩ (fun M208 e208 hM208 => ?_)
                    replace hp := hp M208 e208
                    refine xJ_aload_n hX dX8_readStatement_211 rfl ?_
                    refine xJ_getR (b := (a + 1)) hX dX8_readStatement_212 fd_X8_12 rfl (oX8_k hL) (oX8_r0 hL) ?_
                    refine xJ_callV (As := []) hX hB dX8_readStatement_215 lk_X8_59 im_X9_moveOn se_X9_moveOn rfl (by decide) (oX9_k (oX8_o0 hL)) (c_X9_moveOn (oX8_o0 hL) hM208 hp) (by decide) rfl rfl rfl (Nat.le_of_ble_eq_true rfl) (by decide) (by decide) (fun v t9 M215 hv => ?_) (fun _ _ _ q => q.elim)
                    obtain ⟨rfl, hM215, ht9, hp⟩ := hv
                    replace ht9 := ht9.symm
                    subst ht9
                    dsimp only [Option.toList, List.cons_append, List.nil_append]
                    refine xJ_aload_n hX dX8_readStatement_218 rfl ?_
                    refine xJ_iconst hX dX8_readStatement_219 ?_
                    refine xJ_putIM hX dX8_readStatement_220 fd_X8_77 ft_X8 rfl rfl rfl rfl (oX8_k hL) hM215 ⟨by decide, by decide⟩ (fun M220 e220 hM220 => ?_)
                    replace hp := hp M220 e220
                    refine xJ_aload_n hX dX8_readStatement_223 rfl ?_
                    refine xJ_iconst hX dX8_readStatement_224 ?_
                    refine xJ_callV (As := [_]) hX hB dX8_readStatement_225 lk_X8_142 im_X8_readSum se_X8_readSum rfl (by decide) (oX8_k hL) (c_X8_readSumR hL 8 _ _ _  hM220 ⟨by decide, by decide⟩ hp) (by decide) rfl rfl rfl (Nat.le_of_ble_eq_true rfl) (by decide) (by decide) (fun v t9 M225 hv => ?_) (fun _ _ _ q => q.elim)
                    obtain ⟨rfl, hM225, ht9, hp⟩ := hv
                    replace ht9 := ht9.symm
                    subst ht9
                    dsimp only [Option.toList, List.cons_append, List.nil_append]
                    refine xJ_goto hX dX8_readStatement_228 (tgt := 237) (by decide) ?_
                    refine xJ_vret hX hB dX8_readStatement_237 (by decide) (by decide) ⟨rfl, hM225, rfl, hp⟩
              · replace hp := hp.2 c140
                refine xJ_aload_n hX dX8_readStatement_143 rfl ?_
                refine xJ_iconst hX dX8_readStatement_144 ?_
                refine xJ_putIM hX dX8_readStatement_145 fd_X8_40 ft_X8 rfl rfl rfl rfl (oX8_k hL) hM130 ⟨by decide, by decide⟩ (fun M145 e145 hM145 => ?_)
                replace hp := hp M145 e145
                refine xJ_aload_n hX dX8_readStatement_148 rfl ?_
                refine xJ_getR (b := (a + 1)) hX dX8_readStatement_149 fd_X8_12 rfl (oX8_k hL) (oX8_r0 hL) ?_
                refine xJ_callV (As := []) hX hB dX8_readStatement_152 lk_X8_59 im_X9_moveOn se_X9_moveOn rfl (by decide) (oX9_k (oX8_o0 hL)) (c_X9_moveOn (oX8_o0 hL) hM145 hp) (by decide) rfl rfl rfl (Nat.le_of_ble_eq_true rfl) (by decide) (by decide) (fun v t9 M152 hv => ?_) (fun _ _ _ q => q.elim)
                obtain ⟨rfl, hM152, ht9, hp⟩ := hv
                replace ht9 := ht9.symm
                subst ht9
                dsimp only [Option.toList, List.cons_append, List.nil_append]
                refine xJ_aload_n hX dX8_readStatement_155 rfl ?_
                refine xJ_getR (b := (a + 3)) hX dX8_readStatement_156 fd_X8_21 rfl (oX8_k hL) (oX8_r1 hL) ?_
                refine xJ_aload_n hX dX8_readStatement_159 rfl ?_
                refine xJ_iconst hX dX8_readStatement_160 ?_
                refine xJ_bipush hX dX8_readStatement_161 rfl ?_
                refine xJ_callV (As := [_, _]) hX hB dX8_readStatement_163 lk_X8_127 im_X8_takeNumber se_X8_takeNumber rfl (by decide) (oX8_k hL) (c_X8_takeNumber hL hM152 ⟨by decide, by decide⟩ ⟨by decide, by decide⟩ hp) (by decide) rfl rfl rfl (Nat.le_of_ble_eq_true rfl) (by decide) (by decide) (fun v t9 M163 hv => ?_) (fun _ _ _ q => q.elim)
                obtain ⟨r163, rfl, h163, hM163, ht9, hp⟩ := hv
                replace ht9 := ht9.symm
                subst ht9
                dsimp only [Option.toList, List.cons_append, List.nil_append]
                refine xJ_putIM hX dX8_readStatement_166 fd_X8_135 ft_X10 rfl rfl rfl rfl (oX10_k (oX8_o1 hL)) hM163 h163 (fun M166 e166 hM166 => ?_)
                replace hp := hp M166 e166
                refine xJ_aload_n hX dX8_readStatement_169 rfl ?_
                refine xJ_getR (b := (a + 3)) hX dX8_readStatement_170 fd_X8_21 rfl (oX8_k hL) (oX8_r1 hL) ?_
                refine xJ_aload_n hX dX8_readStatement_173 rfl ?_
                refine xJ_iconst hX dX8_readStatement_174 ?_
                refine xJ_sipush hX dX8_readStatement_175 rfl ?_
                refine xJ_callV (As := [_, _]) hX hB dX8_readStatement_178 lk_X8_127 im_X8_takeNumber se_X8_takeNumber rfl (by decide) (oX8_k hL) (c_X8_takeNumber hL hM166 ⟨by decide, by decide⟩ ⟨by decide, by decide⟩ hp) (by decide) rfl rfl rfl (Nat.le_of_ble_eq_true rfl) (by decide) (by decide) (fun v t9 M178 hv => ?_) (fun _ _ _ q => q.elim)
                obtain ⟨r178, rfl, h178, hM178, ht9, hp⟩ := hv
                replace ht9 := ht9.symm
                subst ht9
                dsimp only [Option.toList, List.cons_append, List.nil_append]
                refine xJ_putIM hX dX8_readStatement_181 fd_X8_138 ft_X10 rfl rfl rfl rfl (oX10_k (oX8_o1 hL)) hM178 h178 (fun M181 e181 hM181 => ?_)
                replace hp := hp M181 e181
                refine xJ_goto hX dX8_readStatement_184 (tgt := 237) (by decide) ?_
                refine xJ_vret hX hB dX8_readStatement_237 (by decide) (by decide) ⟨rfl, hM181, rfl, hp⟩
          · replace hp := hp.2 c85
            refine xJ_aload_n hX dX8_readStatement_88 rfl ?_
            refine xJ_getI hX dX8_readStatement_89 fd_X8_36 rfl (oX8_k hL) ?_
            refine xJ_if_ne hX dX8_readStatement_92 (tgt := 124) (by decide) (hM82 _ _) (fun c92 => ?_) (fun c92 => ?_)
            · replace hp := hp.1 c92
              refine xJ_aload_n hX dX8_readStatement_124 rfl ?_
              refine xJ_getR (b := (a + 1)) hX dX8_readStatement_125 fd_X8_12 rfl (oX8_k hL) (oX8_r0 hL) ?_
              refine xJ_ldcS 6 hX dX8_readStatement_128 (by decide +kernel) ?_
              refine xJ_callV (As := [_]) hX hB dX8_readStatement_130 lk_X8_55 im_X9_isWord se_X9_isWord rfl (by decide) (oX9_k (oX8_o0 hL)) (c_X9_isWord (oX8_o0 hL) (by decide) hM82 hp) (by decide) rfl rfl rfl (Nat.le_of_ble_eq_true rfl) (by decide) (by decide) (fun v t9 M130 hv => ?_) (fun _ _ _ q => q.elim)
              obtain ⟨r130, rfl, h130, hM130, ht9, hp⟩ := hv
              replace ht9 := ht9.symm
              subst ht9
              dsimp only [Option.toList, List.cons_append, List.nil_append]
              refine xJ_if_eq hX dX8_readStatement_133 (tgt := 187) (by decide) h130 (fun c133 => ?_) (fun c133 => ?_)
              · replace hp := hp.1 c133
                refine xJ_aload_n hX dX8_readStatement_187 rfl ?_
                refine xJ_getR (b := (a + 1)) hX dX8_readStatement_188 fd_X8_12 rfl (oX8_k hL) (oX8_r0 hL) ?_
                refine xJ_ldcS 7 hX dX8_readStatement_191 (by decide +kernel) ?_
                refine xJ_callV (As := [_]) hX hB dX8_readStatement_193 lk_X8_55 im_X9_isWord se_X9_isWord rfl (by decide) (oX9_k (oX8_o0 hL)) (c_X9_isWord (oX8_o0 hL) (by decide) hM130 hp) (by decide) rfl rfl rfl (Nat.le_of_ble_eq_true rfl) (by decide) (by decide) (fun v t9 M193 hv => ?_) (fun _ _ _ q => q.elim)
                obtain ⟨r193, rfl, h193, hM193, ht9, hp⟩ := hv
                replace ht9 := ht9.symm
                subst ht9
                dsimp only [Option.toList, List.cons_append, List.nil_append]
                refine xJ_if_eq hX dX8_readStatement_196 (tgt := 231) (by decide) h193 (fun c196 => ?_) (fun c196 => ?_)
                · replace hp := hp.1 c196
                  refine xJ_aload_n hX dX8_readStatement_231 rfl ?_
                  refine xJ_bipush hX dX8_readStatement_232 rfl ?_
                  refine xJ_callV (As := [_]) hX hB dX8_readStatement_234 lk_X8_65 im_X8_fail se_X8_fail rfl (by decide) (oX8_k hL) (c_X8_fail hL hM193 ⟨by decide, by decide⟩ hp) (by decide) rfl rfl rfl (Nat.le_of_ble_eq_true rfl) (by decide) (by decide) (fun v t9 M234 hv => ?_) (fun _ _ _ q => q.elim)
                  obtain ⟨rfl, hM234, ht9, hp⟩ := hv
                  replace ht9 := ht9.symm
                  subst ht9
                  dsimp only [Option.toList, List.cons_append, List.nil_append]
                  refine xJ_vret hX hB dX8_readStatement_237 (by decide) (by decide) ⟨rfl, hM234, rfl, hp⟩
                · replace hp := hp.2 c196
                  refine xJ_aload_n hX dX8_readStatement_199 rfl ?_
                  refine xJ_getI hX dX8_readStatement_200 fd_X8_43 rfl (oX8_k hL) ?_
                  refine xJ_if_ne hX dX8_readStatement_203 (tgt := 231) (by decide) (hM193 _ _) (fun c203 => ?_) (fun c203 => ?_)
                  · replace hp := hp.1 c203
                    refine xJ_aload_n hX dX8_readStatement_231 rfl ?_
                    refine xJ_bipush hX dX8_readStatement_232 rfl ?_
                    refine xJ_callV (As := [_]) hX hB dX8_readStatement_234 lk_X8_65 im_X8_fail se_X8_fail rfl (by decide) (oX8_k hL) (c_X8_fail hL hM193 ⟨by decide, by decide⟩ hp) (by decide) rfl rfl rfl (Nat.le_of_ble_eq_true rfl) (by decide) (by decide) (fun v t9 M234 hv => ?_) (fun _ _ _ q => q.elim)
                    obtain ⟨rfl, hM234, ht9, hp⟩ := hv
                    replace ht9 := ht9.symm
                    subst ht9
                    dsimp only [Option.toList, List.cons_append, List.nil_append]
                    refine xJ_vret hX hB dX8_readStatement_237 (by decide) (by decide) ⟨rfl, hM234, rfl, hp⟩
                  · replace hp := hp.2 c203
                    refine xJ_aload_n hX dX8_readStatement_206 rfl ?_
                    refine xJ_iconst hX dX8_readStatement_207 ?_
                    refine xJ_putIM hX dX8_readStatement_208 fd_X8_43 ft_X8 rfl rfl rfl rfl (oX8_k hL) hM193 ⟨by decide, by decide⟩ (fun M208 e208 hM208 => ?_)
                    replace hp := hp M208 e208
                    refine xJ_aload_n hX dX8_readStatement_211 rfl ?_
                    refine xJ_getR (b := (a + 1)) hX dX8_readStatement_212 fd_X8_12 rfl (oX8_k hL) (oX8_r0 hL) ?_
                    refine xJ_callV (As := []) hX hB dX8_readStatement_215 lk_X8_59 im_X9_moveOn se_X9_moveOn rfl (by decide) (oX9_k (oX8_o0 hL)) (c_X9_moveOn (oX8_o0 hL) hM208 hp) (by decide) rfl rfl rfl (Nat.le_of_ble_eq_true rfl) (by decide) (by decide) (fun v t9 M215 hv => ?_) (fun _ _ _ q => q.elim)
                    obtain ⟨rfl, hM215, ht9, hp⟩ := hv
                    replace ht9 := ht9.symm
                    subst ht9
                    dsimp only [Option.toList, List.cons_append, List.nil_append]
                    refine xJ_aload_n hX dX8_readStatement_218 rfl ?_
                    refine xJ_iconst hX dX8_readStatement_219 ?_
                    refine xJ_putIM hX dX8_readStatement_220 fd_X8_77 ft_X8 rfl rfl rfl rfl (oX8_k hL) hM215 ⟨by decide, by decide⟩ (fun M220 e220 hM220 => ?_)
                    replace hp := hp M220 e220
                    refine xJ_aload_n hX dX8_readStatement_223 rfl ?_
                    refine xJ_iconst hX dX8_readStatement_224 ?_
                    refine xJ_callV (As := [_]) hX hB dX8_readStatement_225 lk_X8_142 im_X8_readSum se_X8_readSum rfl (by decide) (oX8_k hL) (c_X8_readSumR hL 8 _ _ _  hM220 ⟨by decide, by decide⟩ hp) (by decide) rfl rfl rfl (Nat.le_of_ble_eq_true rfl) (by decide) (by decide) (fun v t9 M225 hv => ?_) (fun _ _ _ q => q.elim)
                    obtain ⟨rfl, hM225, ht9, hp⟩ := hv
                    replace ht9 := ht9.symm
                    subst ht9
                    dsimp only [Option.toList, List.cons_append, List.nil_append]
                    refine xJ_goto hX dX8_readStatement_228 (tgt := 237) (by decide) ?_
                    refine xJ_vret hX hB dX8_readStatement_237 (by decide) (by decide) ⟨rfl, hM225, rfl, hp⟩
              · replace hp := hp.2 c133
                refine xJ_aload_n hX dX8_readStatement_136 rfl ?_
                refine xJ_getI hX dX8_readStatement_137 fd_X8_40 rfl (oX8_k hL) ?_
                refine xJ_if_ne hX dX8_readStatement_140 (tgt := 187) (by decide) (hM130 _ _) (fun c140 => ?_) (fun c140 => ?_)
                · replace hp := hp.1 c140
                  refine xJ_aload_n hX dX8_readStatement_187 rfl ?_
                  refine xJ_getR (b := (a + 1)) hX dX8_readStatement_188 fd_X8_12 rfl (oX8_k hL) (oX8_r0 hL) ?_
                  refine xJ_ldcS 7 hX dX8_readStatement_191 (by decide +kernel) ?_
                  refine xJ_callV (As := [_]) hX hB dX8_readStatement_193 lk_X8_55 im_X9_isWord se_X9_isWord rfl (by decide) (oX9_k (oX8_o0 hL)) (c_X9_isWord (oX8_o0 hL) (by decide) hM130 hp) (by decide) rfl rfl rfl (Nat.le_of_ble_eq_true rfl) (by decide) (by decide) (fun v t9 M193 hv => ?_) (fun _ _ _ q => q.elim)
                  obtain ⟨r193, rfl, h193, hM193, ht9, hp⟩ := hv
                  replace ht9 := ht9.symm
                  subst ht9
                  dsimp only [Option.toList, List.cons_append, List.nil_append]
                  refine xJ_if_eq hX dX8_readStatement_196 (tgt := 231) (by decide) h193 (fun c196 => ?_) (fun c196 => ?_)
                  · replace hp := hp.1 c196
                    refine xJ_aload_n hX dX8_readStatement_231 rfl ?_
                    refine xJ_bipush hX dX8_readStatement_232 rfl ?_
                    refine xJ_callV (As := [_]) hX hB dX8_readStatement_234 lk_X8_65 im_X8_fail se_X8_fail rfl (by decide) (oX8_k hL) (c_X8_fail hL hM193 ⟨by decide, by decide⟩ hp) (by decide) rfl rfl rfl (Nat.le_of_ble_eq_true rfl) (by decide) (by decide) (fun v t9 M234 hv => ?_) (fun _ _ _ q => q.elim)
                    obtain ⟨rfl, hM234, ht9, hp⟩ := hv
                    replace ht9 := ht9.symm
                    subst ht9
                    dsimp only [Option.toList, List.cons_append, List.nil_append]
                    refine xJ_vret hX hB dX8_readStatement_237 (by decide) (by decide) ⟨rfl, hM234, rfl, hp⟩
                  · replace hp := hp.2 c196
                    refine xJ_aload_n hX dX8_readStatement_199 rfl ?_
                    refine xJ_getI hX dX8_readStatement_200 fd_X8_43 rfl (oX8_k hL) ?_
                    refine xJ_if_ne hX dX8_readStatement_203 (tgt := 231) (by decide) (hM193 _ _) (fun c203 => ?_) (fun c203 => ?_)
                    · replace hp := hp.1 c203
                      refine xJ_aload_n hX dX8_readStatement_231 rfl ?_
                      refine xJ_bipush hX dX8_readStatement_232 rfl ?_
                      refine xJ_callV (As := [_]) hX hB dX8_readStatement_234 lk_X8_65 im_X8_fail se_X8_fail rfl (by decide) (oX8_k hL) (c_X8_fail hL hM193 ⟨by decide, by decide⟩ hp) (by decide) rfl rfl rfl (Nat.le_of_ble_eq_true rfl) (by decide) (by decide) (fun v t9 M234 hv => ?_) (fun _ _ _ q => q.elim)
                      obtain ⟨rfl, hM234, ht9, hp⟩ := hv
                      replace ht9 := ht9.symm
                      subst ht9
                      dsimp only [Option.toList, List.cons_append, List.nil_append]
                      refine xJ_vret hX hB dX8_readStatement_237 (by decide) (by decide) ⟨rfl, hM234, rfl, hp⟩
                    · replace hp := hp.2 c203
                      refine xJ_aload_n hX dX8_readStatement_206 rfl ?_
                      refine xJ_iconst hX dX8_readStatement_207 ?_
                      refine xJ_putIM hX dX8_readStatement_208 fd_X8_43 ft_X8 rfl rfl rfl rfl (oX8_k hL) hM193 ⟨by decide, by decide⟩ (fun M208 e208 hM208 => ?_)
                      replace hp := hp M208 e208
                      refine xJ_aload_n hX dX8_readStatement_211 rfl ?_
                      refine xJ_getR (b := (a + 1)) hX dX8_readStatement_212 fd_X8_12 rfl (oX8_k hL) (oX8_r0 hL) ?_
                      refine xJ_callV (As := []) hX hB dX8_readStatement_215 lk_X8_59 im_X9_moveOn se_X9_moveOn rfl (by decide) (oX9_k (oX8_o0 hL)) (c_X9_moveOn (oX8_o0 hL) hM208 hp) (by decide) rfl rfl rfl (Nat.le_of_ble_eq_true rfl) (by decide) (by decide) (fun v t9 M215 hv => ?_) (fun _ _ _ q => q.elim)
                      obtain ⟨rfl, hM215, ht9, hp⟩ := hv
                      replace ht9 := ht9.symm
                      subst ht9
                      dsimp only [Option.toList, List.cons_append, List.nil_append]
                      refine xJ_aload_n hX dX8_readStatement_218 rfl ?_
                      refine xJ_iconst hX dX8_readStatement_219 ?_
                      refine xJ_putIM hX dX8_readStatement_220 fd_X8_77 ft_X8 rfl rfl rfl rfl (oX8_k hL) hM215 ⟨by decide, by decide⟩ (fun M220 e220 hM220 => ?_)
                      replace hp := hp M220 e220
                      refine xJ_aload_n hX dX8_readStatement_223 rfl ?_
                      refine xJ_iconst hX dX8_readStatement_224 ?_
                      refine xJ_callV (As := [_]) hX hB dX8_readStatement_225 lk_X8_142 im_X8_readSum se_X8_readSum rfl (by decide) (oX8_k hL) (c_X8_readSumR hL 8 _ _ _  hM220 ⟨by decide, by decide⟩ hp) (by decide) rfl rfl rfl (Nat.le_of_ble_eq_true rfl) (by decide) (by decide) (fun v t9 M225 hv => ?_) (fun _ _ _ q => q.elim)
                      obtain ⟨rfl, hM225, ht9, hp⟩ := hv
                      replace ht9 := ht9.symm
                      subst ht9
                      dsimp only [Option.toList, List.cons_append, List.nil_append]
                      refine xJ_goto hX dX8_readStatement_228 (tgt := 237) (by decide) ?_
                      refine xJ_vret hX hB dX8_readStatement_237 (by decide) (by decide) ⟨rfl, hM225, rfl, hp⟩
                · replace hp := hp.2 c140
                  refine xJ_aload_n hX dX8_readStatement_143 rfl ?_
                  refine xJ_iconst hX dX8_readStatement_144 ?_
                  refine xJ_putIM hX dX8_readStatement_145 fd_X8_40 ft_X8 rfl rfl rfl rfl (oX8_k hL) hM130 ⟨by decide, by decide⟩ (fun M145 e145 hM145 => ?_)
                  replace hp := hp M145 e145
                  refine xJ_aload_n hX dX8_readStatement_148 rfl ?_
                  refine xJ_getR (b := (a + 1)) hX dX8_readStatement_149 fd_X8_12 rfl (oX8_k hL) (oX8_r0 hL) ?_
                  refine xJ_callV (As := []) hX hB dX8_readStatement_152 lk_X8_59 im_X9_moveOn se_X9_moveOn rfl (by decide) (oX9_k (oX8_o0 hL)) (c_X9_moveOn (oX8_o0 hL) hM145 hp) (by decide) rfl rfl rfl (Nat.le_of_ble_eq_true rfl) (by decide) (by decide) (fun v t9 M152 hv => ?_) (fun _ _ _ q => q.elim)
                  obtain ⟨rfl, hM152, ht9, hp⟩ := hv
                  replace ht9 := ht9.symm
                  subst ht9
                  dsimp only [Option.toList, List.cons_append, List.nil_append]
                  refine xJ_aload_n hX dX8_readStatement_155 rfl ?_
                  refine xJ_getR (b := (a + 3)) hX dX8_readStatement_156 fd_X8_21 rfl (oX8_k hL) (oX8_r1 hL) ?_
                  refine xJ_aload_n hX dX8_readStatement_159 rfl ?_
                  refine xJ_iconst hX dX8_readStatement_160 ?_
                  refine xJ_bipush hX dX8_readStatement_161 rfl ?_
                  refine xJ_callV (As := [_, _]) hX hB dX8_readStatement_163 lk_X8_127 im_X8_takeNumber se_X8_takeNumber rfl (by decide) (oX8_k hL) (c_X8_takeNumber hL hM152 ⟨by decide, by decide⟩ ⟨by decide, by decide⟩ hp) (by decide) rfl rfl rfl (Nat.le_of_ble_eq_true rfl) (by decide) (by decide) (fun v t9 M163 hv => ?_) (fun _ _ _ q => q.elim)
                  obtain ⟨r163, rfl, h163, hM163, ht9, hp⟩ := hv
                  replace ht9 := ht9.symm
                  subst ht9
                  dsimp only [Option.toList, List.cons_append, List.nil_append]
                  refine xJ_putIM hX dX8_readStatement_166 fd_X8_135 ft_X10 rfl rfl rfl rfl (oX10_k (oX8_o1 hL)) hM163 h163 (fun M166 e166 hM166 => ?_)
                  replace hp := hp M166 e166
                  refine xJ_aload_n hX dX8_readStatement_169 rfl ?_
                  refine xJ_getR (b := (a + 3)) hX dX8_readStatement_170 fd_X8_21 rfl (oX8_k hL) (oX8_r1 hL) ?_
                  refine xJ_aload_n hX dX8_readStatement_173 rfl ?_
                  refine xJ_iconst hX dX8_readStatement_174 ?_
                  refine xJ_sipush hX dX8_readStatement_175 rfl ?_
                  refine xJ_callV (As := [_, _]) hX hB dX8_readStatement_178 lk_X8_127 im_X8_takeNumber se_X8_takeNumber rfl (by decide) (oX8_k hL) (c_X8_takeNumber hL hM166 ⟨by decide, by decide⟩ ⟨by decide, by decide⟩ hp) (by decide) rfl rfl rfl (Nat.le_of_ble_eq_true rfl) (by decide) (by decide) (fun v t9 M178 hv => ?_) (fun _ _ _ q => q.elim)
                  obtain ⟨r178, rfl, h178, hM178, ht9, hp⟩ := hv
                  replace ht9 := ht9.symm
                  subst ht9
                  dsimp only [Option.toList, List.cons_append, List.nil_append]
                  refine xJ_putIM hX dX8_readStatement_181 fd_X8_138 ft_X10 rfl rfl rfl rfl (oX10_k (oX8_o1 hL)) hM178 h178 (fun M181 e181 hM181 => ?_)
                  replace hp := hp M181 e181
                  refine xJ_goto hX dX8_readStatement_184 (tgt := 237) (by decide) ?_
                  refine xJ_vret hX hB dX8_readStatement_237 (by decide) (by decide) ⟨rfl, hM181, rfl, hp⟩
            · replace hp := hp.2 c92
              refine xJ_aload_n hX dX8_readStatement_95 rfl ?_
              refine xJ_iconst hX dX8_readStatement_96 ?_
              refine xJ_putIM hX dX8_readStatement_97 fd_X8_36 ft_X8 rfl rfl rfl rfl (oX8_k hL) hM82 ⟨by decide, by decide⟩ (fun M97 e97 hM97 => ?_)
              replace hp := hp M97 e97
              refine xJ_aload_n hX dX8_readStatement_100 rfl ?_
              refine xJ_getR (b := (a + 1)) hX dX8_readStatement_101 fd_X8_12 rfl (oX8_k hL) (oX8_r0 hL) ?_
              refine xJ_callV (As := []) hX hB dX8_readStatement_104 lk_X8_59 im_X9_moveOn se_X9_moveOn rfl (by decide) (oX9_k (oX8_o0 hL)) (c_X9_moveOn (oX8_o0 hL) hM97 hp) (by decide) rfl rfl rfl (Nat.le_of_ble_eq_true rfl) (by decide) (by decide) (fun v t9 M104 hv => ?_) (fun _ _ _ q => q.elim)
              obtain ⟨rfl, hM104, ht9, hp⟩ := hv
              replace ht9 := ht9.symm
              subst ht9
              dsimp only [Option.toList, List.cons_append, List.nil_append]
              refine xJ_aload_n hX dX8_readStatement_107 rfl ?_
              refine xJ_getR (b := (a + 3)) hX dX8_readStatement_108 fd_X8_21 rfl (oX8_k hL) (oX8_r1 hL) ?_
              refine xJ_aload_n hX dX8_readStatement_111 rfl ?_
              refine xJ_iconst hX dX8_readStatement_112 ?_
              refine xJ_bipush hX dX8_readStatement_113 rfl ?_
              refine xJ_callV (As := [_, _]) hX hB dX8_readStatement_115 lk_X8_127 im_X8_takeNumber se_X8_takeNumber rfl (by decide) (oX8_k hL) (c_X8_takeNumber hL hM104 ⟨by decide, by decide⟩ ⟨by decide, by decide⟩ hp) (by decide) rfl rfl rfl (Nat.le_of_ble_eq_true rfl) (by decide) (by decide) (fun v t9 M115 hv => ?_) (fun _ _ _ q => q.elim)
              obtain ⟨r115, rfl, h115, hM115, ht9, hp⟩ := hv
              replace ht9 := ht9.symm
              subst ht9
              dsimp only [Option.toList, List.cons_append, List.nil_append]
              refine xJ_putIM hX dX8_readStatement_118 fd_X8_131 ft_X10 rfl rfl rfl rfl (oX10_k (oX8_o1 hL)) hM115 h115 (fun M118 e118 hM118 => ?_)
              replace hp := hp M118 e118
              refine xJ_goto hX dX8_readStatement_121 (tgt := 237) (by decide) ?_
              refine xJ_vret hX hB dX8_readStatement_237 (by decide) (by decide) ⟨rfl, hM118, rfl, hp⟩
        · replace hp := hp.2 c66
          refine xJ_aload_n hX dX8_readStatement_69 rfl ?_
          refine xJ_callV (As := []) hX hB dX8_readStatement_70 lk_X8_122 im_X8_readCoupon se_X8_readCoupon rfl (by decide) (oX8_k hL) (c_X8_readCoupon hL hM63 hp) (by decide) rfl rfl rfl (Nat.le_of_ble_eq_true rfl) (by decide) (by decide) (fun v t9 M70 hv => ?_) (fun _ _ _ q => q.elim)
          obtain ⟨rfl, hM70, ht9, hp⟩ := hv
          replace ht9 := ht9.symm
          subst ht9
          dsimp only [Option.toList, List.cons_append, List.nil_append]
          refine xJ_goto hX dX8_readStatement_73 (tgt := 237) (by decide) ?_
          refine xJ_vret hX hB dX8_readStatement_237 (by decide) (by decide) ⟨rfl, hM70, rfl, hp⟩
      · replace hp := hp.2 c47
        refine xJ_aload_n hX dX8_readStatement_50 rfl ?_
        refine xJ_callV (As := []) hX hB dX8_readStatement_51 lk_X8_117 im_X8_readPacket se_X8_readPacket rfl (by decide) (oX8_k hL) (c_X8_readPacket hL hM44 hp) (by decide) rfl rfl rfl (Nat.le_of_ble_eq_true rfl) (by decide) (by decide) (fun v t9 M51 hv => ?_) (fun _ _ _ q => q.elim)
        obtain ⟨rfl, hM51, ht9, hp⟩ := hv
        replace ht9 := ht9.symm
        subst ht9
        dsimp only [Option.toList, List.cons_append, List.nil_append]
        refine xJ_goto hX dX8_readStatement_54 (tgt := 237) (by decide) ?_
        refine xJ_vret hX hB dX8_readStatement_237 (by decide) (by decide) ⟨rfl, hM51, rfl, hp⟩
    · replace hp := hp.2 c28
      refine xJ_aload_n hX dX8_readStatement_31 rfl ?_
      refine xJ_callV (As := []) hX hB dX8_readStatement_32 lk_X8_112 im_X8_readFlow se_X8_readFlow rfl (by decide) (oX8_k hL) (c_X8_readFlow hL hM25 hp) (by decide) rfl rfl rfl (Nat.le_of_ble_eq_true rfl) (by decide) (by decide) (fun v t9 M32 hv => ?_) (fun _ _ _ q => q.elim)
      obtain ⟨rfl, hM32, ht9, hp⟩ := hv
      replace ht9 := ht9.symm
      subst ht9
      dsimp only [Option.toList, List.cons_append, List.nil_append]
      refine xJ_goto hX dX8_readStatement_35 (tgt := 237) (by decide) ?_
      refine xJ_vret hX hB dX8_readStatement_237 (by decide) (by decide) ⟨rfl, hM32, rfl, hp⟩
  · replace hp := hp.2 c9
    refine xJ_aload_n hX dX8_readStatement_12 rfl ?_
    refine xJ_callV (As := []) hX hB dX8_readStatement_13 lk_X8_107 im_X8_readGate se_X8_readGate rfl (by decide) (oX8_k hL) (c_X8_readGate hL hM6 hp) (by decide) rfl rfl rfl (Nat.le_of_ble_eq_true rfl) (by decide) (by decide) (fun v t9 M13 hv => ?_) (fun _ _ _ q => q.elim)
    obtain ⟨rfl, hM13, ht9, hp⟩ := hv
    replace ht9 := ht9.symm
    subst ht9
    dsimp only [Option.toList, List.cons_append, List.nil_append]
    refine xJ_goto hX dX8_readStatement_16 (tgt := 237) (by decide) ?_
    refine xJ_vret hX hB dX8_readStatement_237 (by decide) (by decide) ⟨rfl, hM13, rfl, hp⟩
def p_X12_factor (F : Nat) (PS : xMe → (xMe → Prop) → Prop) (a : Nat) (M : xMe) (Q : xMe → Prop) : Prop :=
  p_X12_isGood a M (fun r1 M1 => ((r1 ≠ 0 → p_X12_next F a M1 (fun r9 M9 => ((r9 ≠ 40 → p_X12_isDigit r9 M9 (fun r79 M79 => ((r79 = 0 → p_X12_takeWord F a 9 M79 (fun r92 M92 => ((r92 = 0 → p_X12_takeWord F a 1 M92 (fun r105 M105 => ((r105 = 0 → p_X12_takeWord F a 10 M105 (fun r118 M118 => ((r118 = 0 → p_X12_takeWord F a 11 M118 (fun r131 M131 => ((r131 = 0 → p_X12_number F a 0 9999 M131 (fun r152 M152 => p_X12_emit a 0 M152 (fun M170 => p_X12_emit a r152 M170 (fun M175 => Q M175)))) ∧ (r131 ≠ 0 → p_X12_emit a 1 M131 (fun M170 => p_X12_emit a 3 M170 (fun M175 => Q M175)))))) ∧ (r118 ≠ 0 → p_X12_emit a 1 M118 (fun M170 => p_X12_emit a 2 M170 (fun M175 => Q M175)))))) ∧ (r105 ≠ 0 → p_X12_emit a 1 M105 (fun M170 => p_X12_emit a 1 M170 (fun M175 => Q M175)))))) ∧ (r92 ≠ 0 → p_X12_emit a 1 M92 (fun M170 => p_X12_emit a 0 M170 (fun M175 => Q M175)))))) ∧ (r79 ≠ 0 → p_X12_number F a 0 9999 M79 (fun r152 M152 => p_X12_emit a 0 M152 (fun M170 => p_X12_emit a r152 M170 (fun M175 => Q M175))))))) ∧ (r9 = 40 → (((M9 a 15) ≠ 4 → (xR ((M9 a 4) + 1)) ∧ (∀ M44 : xMe, M44 = xw M9 a 4 ((M9 a 4) + 1) → (xR ((M44 a 15) + 1)) ∧ (∀ M54 : xMe, M54 = xw M44 a 15 ((M44 a 15) + 1) → PS  M54 (fun M58 => p_X12_expect F a 41 M58 (fun M64 => (xR ((M64 a 15) - 1)) ∧ (∀ M74 : xMe, M74 = xw M64 a 15 ((M64 a 15) - 1) → Q M74)))))) ∧ ((M9 a 15) = 4 → p_X12_report a ((-6)) (M9 a 4) M9 (fun M34 => (xR ((M34 a 4) + 1)) ∧ (∀ M44 : xMe, M44 = xw M34 a 4 ((M34 a 4) + 1) → (xR ((M44 a 15) + 1)) ∧ (∀ M54 : xMe, M54 = xw M44 a 15 ((M44 a 15) + 1) → PS  M54 (fun M58 => p_X12_expect F a 41 M58 (fun M64 => (xR ((M64 a 15) - 1)) ∧ (∀ M74 : xMe, M74 = xw M64 a 15 ((M64 a 15) - 1) → Q M74)))))))))))) ∧ (r1 = 0 → Q M1)))
set_option maxHeartbeats 4000000 in
set_option maxRecDepth 100000 in
theorem c_X12_factor {G : xGx} {t : xTh} {M : xMe} {dn : Nat} {F : Nat} {PS : xMe → (xMe → Prop) → Prop} {a : Nat} {Q : xMe → Prop} (hPS : ∀  (M : xMe) (Q : xMe → Prop), xMR M → PS  M Q → xCt G yX12_sum cX12_sum 2 none dn 0 0 [vr a] t M (fun v t' M' => v = none ∧ xMR M' ∧ t' = t ∧ Q M') (fun _ _ _ => False)) (hL : oX12 t a) (hM : xMR M)(hp : p_X12_factor F PS a M Q) : xCt G yX12_factor cX12_factor 4 none (dn + 10) 0 0 [vr a] t M (fun v t' M' => v = none ∧ xMR M' ∧ t' = t ∧ Q M') (fun _ _ _ => False) := by
  refine xCt_of (L0 := [vr a, vU, vU, vU]) (by decide +kernel) (Nat.le_of_ble_eq_true rfl) rfl ?_
  intro X hX hB
  unfold p_X12_factor at hp
  refine xJ_aload_n hX dX12_factor_0 rfl ?_
  refine xJ_callV (As := []) hX hB dX12_factor_1 lk_X12_68 im_X12_isGood se_X12_isGood rfl (by decide) (oX12_k hL) (c_X12_isGood hL hM hp) (by omega) rfl rfl rfl (Nat.le_of_ble_eq_true rfl) (by decide) (by decide) (fun v t9 M1 hv => ?_) (fun _ _ _ q => q.elim)
  obtain ⟨r1, rfl, h1, hM1, ht9, hp⟩ := hv
  replace ht9 := ht9.symm
  subst ht9
  dsimp only [Option.toList, List.cons_append, List.nil_append]
  refine xJ_if_ne hX dX12_factor_4 (tgt := 8) (by decide) h1 (fun c4 => ?_) (fun c4 => ?_)
  · replace hp := hp.1 c4
    refine xJ_aload_n hX dX12_factor_8 rfl ?_
    refine xJ_callV (As := []) hX hB dX12_factor_9 lk_X12_72 im_X12_next se_X12_next rfl (by decide) (oX12_k hL) (c_X12_next hL hM1 hp) (by omega) rfl rfl rfl (Nat.le_of_ble_eq_true rfl) (by decide) (by decide) (fun v t9 M9 hv => ?_) (fun _ _ _ q => q.elim)
    obtain ⟨r9, rfl, h9, hM9, ht9, hp⟩ := hv
    replace ht9 := ht9.symm
    subst ht9
    dsimp only [Option.toList, List.cons_append, List.nil_append]
    refine xJ_istore_n hX dX12_factor_12 (Nat.le_of_ble_eq_true rfl) rfl ?_
    dsimp only [List.set]
    refine xJ_iload_n hX dX12_factor_13 rfl ?_
    refine xJ_bipush hX dX12_factor_14 rfl ?_
    refine xJ_icmp_ne hX dX12_factor_16 (tgt := 78) (by decide) h9 ⟨by decide, by decide⟩ (fun c16 => ?_) (fun c16 => ?_)
    · replace hp := hp.1 c16
      refine xJ_iload_n hX dX12_factor_78 rfl ?_
      refine xJ_callS (As := [_]) hX hB dX12_factor_79 lk_X12_89 sm_X12_isDigit (c_X12_isDigit  hM9 h9 hp) (by omega) rfl rfl rfl (Nat.le_of_ble_eq_true rfl) (by decide) (by decide) (fun v t9 M79 hv => ?_) (fun _ _ _ q => q.elim)
      obtain ⟨r79, rfl, h79, hM79, ht9, hp⟩ := hv
      replace ht9 := ht9.symm
      subst ht9
      dsimp only [Option.toList, List.cons_append, List.nil_append]
      refine xJ_if_eq hX dX12_factor_82 (tgt := 89) (by decide) h79 (fun c82 => ?_) (fun c82 => ?_)
      · replace hp := hp.1 c82
        refine xJ_aload_n hX dX12_factor_89 rfl ?_
        refine xJ_ldcS 9 hX dX12_factor_90 (by decide +kernel) ?_
        refine xJ_callV (As := [_]) hX hB dX12_factor_92 lk_X12_113 im_X12_takeWord se_X12_takeWord rfl (by decide) (oX12_k hL) (c_X12_takeWord hL (by decide) hM79 hp) (by omega) rfl rfl rfl (Nat.le_of_ble_eq_true rfl) (by decide) (by decide) (fun v t9 M92 hv => ?_) (fun _ _ _ q => q.elim)
        obtain ⟨r92, rfl, h92, hM92, ht9, hp⟩ := hv
        replace ht9 := ht9.symm
        subst ht9
        dsimp only [Option.toList, List.cons_append, List.nil_append]
        refine xJ_if_eq hX dX12_factor_95 (tgt := 102) (by decide) h92 (fun c95 => ?_) (fun c95 => ?_)
        · replace hp := hp.1 c95
          refine xJ_aload_n hX dX12_factor_102 rfl ?_
          refine xJ_ldcS 1 hX dX12_factor_103 (by decide +kernel) ?_
          refine xJ_callV (As := [_]) hX hB dX12_factor_105 lk_X12_113 im_X12_takeWord se_X12_takeWord rfl (by decide) (oX12_k hL) (c_X12_takeWord hL (by decide) hM92 hp) (by omega) rfl rfl rfl (Nat.le_of_ble_eq_true rfl) (by decide) (by decide) (fun v t9 M105 hv => ?_) (fun _ _ _ q => q.elim)
          obtain ⟨r105, rfl, h105, hM105, ht9, hp⟩ := hv
          replace ht9 := ht9.symm
          subst ht9
          dsimp only [Option.toList, List.cons_append, List.nil_append]
          refine xJ_if_eq hX dX12_factor_108 (tgt := 115) (by decide) h105 (fun c108 => ?_) (fun c108 => ?_)
          · replace hp := hp.1 c108
            refine xJ_aload_n hX dX12_factor_115 rfl ?_
            refine xJ_ldcS 10 hX dX12_factor_116 (by decide +kernel) ?_
            refine xJ_callV (As := [_]) hX hB dX12_factor_118 lk_X12_113 im_X12_takeWord se_X12_takeWord rfl (by decide) (oX12_k hL) (c_X12_takeWord hL (by decide) hM105 hp) (by omega) rfl rfl rfl (Nat.le_of_ble_eq_true rfl) (by decide) (by decide) (fun v t9 M118 hv => ?_) (fun _ _ _ q => q.elim)
            obtain ⟨r118, rfl, h118, hM118, ht9, hp⟩ := hv
            replace ht9 := ht9.symm
            subst ht9
            dsimp only [Option.toList, List.cons_append, List.nil_append]
            refine xJ_if_eq hX dX12_factor_121 (tgt := 128) (by decide) h118 (fun c121 => ?_) (fun c121 => ?_)
            · replace hp := hp.1 c121
              refine xJ_aload_n hX dX12_factor_128 rfl ?_
              refine xJ_ldcS 11 hX dX12_factor_129 (by decide +kernel) ?_
              refine xJ_callV (As := [_]) hX hB dX12_factor_131 lk_X12_113 im_X12_takeWord se_X12_takeWord rfl (by decide) (oX12_k hL) (c_X12_takeWord hL (by decide) hM118 hp) (by omega) rfl rfl rfl (Nat.le_of_ble_eq_true rfl) (by decide) (by decide) (fun v t9 M131 hv => ?_) (fun _ _ _ q => q.elim)
              obtain ⟨r131, rfl, h131, hM131, ht9, hp⟩ := hv
              replace ht9 := ht9.symm
              subst ht9
              dsimp only [Option.toList, List.cons_append, List.nil_append]
              refine xJ_if_eq hX dX12_factor_134 (tgt := 141) (by decide) h131 (fun c134 => ?_) (fun c134 => ?_)
              · replace hp := hp.1 c134
                refine xJ_iconst hX dX12_factor_141 ?_
                refine xJ_istore_n hX dX12_factor_142 (Nat.le_of_ble_eq_true rfl) rfl ?_
                dsimp only [List.set]
                refine xJ_iload_n hX dX12_factor_143 rfl ?_
                refine xJ_if_ge hX dX12_factor_144 (tgt := 158) (by decide) ⟨by decide, by decide⟩ (fun c144 => ?_) (fun c144 => ?_)
                · exact absurd c144 (by decide)
                refine xJ_aload_n hX dX12_factor_147 rfl ?_
                refine xJ_iconst hX dX12_factor_148 ?_
                refine xJ_sipush hX dX12_factor_149 rfl ?_
                refine xJ_callV (As := [_, _]) hX hB dX12_factor_152 lk_X12_123 im_X12_number se_X12_number rfl (by decide) (oX12_k hL) (c_X12_number hL hM131 ⟨by decide, by decide⟩ ⟨by decide, by decide⟩ hp) (by omega) rfl rfl rfl (Nat.le_of_ble_eq_true rfl) (by decide) (by decide) (fun v t9 M152 hv => ?_) (fun _ _ _ q => q.elim)
                obtain ⟨r152, rfl, h152, hM152, ht9, hp⟩ := hv
                replace ht9 := ht9.symm
                subst ht9
                dsimp only [Option.toList, List.cons_append, List.nil_append]
                refine xJ_goto hX dX12_factor_155 (tgt := 159) (by decide) ?_
                refine xJ_istore_n hX dX12_factor_159 (Nat.le_of_ble_eq_true rfl) rfl ?_
                dsimp only [List.set]
                refine xJ_aload_n hX dX12_factor_160 rfl ?_
                refine xJ_iload_n hX dX12_factor_161 rfl ?_
                refine xJ_if_ge hX dX12_factor_162 (tgt := 169) (by decide) ⟨by decide, by decide⟩ (fun c162 => ?_) (fun c162 => ?_)
                · exact absurd c162 (by decide)
                refine xJ_iconst hX dX12_factor_165 ?_
                refine xJ_goto hX dX12_factor_166 (tgt := 170) (by decide) ?_
                refine xJ_callV (As := [_]) hX hB dX12_factor_170 lk_X12_126 im_X12_emit se_X12_emit rfl (by decide) (oX12_k hL) (c_X12_emit hL hM152 ⟨by decide, by decide⟩ hp) (by omega) rfl rfl rfl (Nat.le_of_ble_eq_true rfl) (by decide) (by decide) (fun v t9 M170 hv => ?_) (fun _ _ _ q => q.elim)
                obtain ⟨rfl, hM170, ht9, hp⟩ := hv
                replace ht9 := ht9.symm
                subst ht9
                dsimp only [Option.toList, List.cons_append, List.nil_append]
                refine xJ_aload_n hX dX12_factor_173 rfl ?_
                refine xJ_iload_n hX dX12_factor_174 rfl ?_
                refine xJ_callV (As := [_]) hX hB dX12_factor_175 lk_X12_126 im_X12_emit se_X12_emit rfl (by decide) (oX12_k hL) (c_X12_emit hL hM170 h152 hp) (by omega) rfl rfl rfl (Nat.le_of_ble_eq_true rfl) (by decide) (by decide) (fun v t9 M175 hv => ?_) (fun _ _ _ q => q.elim)
                obtain ⟨rfl, hM175, ht9, hp⟩ := hv
                replace ht9 := ht9.symm
                subst ht9
                dsimp only [Option.toList, List.cons_append, List.nil_append]
                refine xJ_vret hX hB dX12_factor_178 (by decide) (by decide) ⟨rfl, hM175, rfl, hp⟩
              · replace hp := hp.2 c134
                refine xJ_iconst hX dX12_factor_137 ?_
                refine xJ_goto hX dX12_factor_138 (tgt := 142) (by decide) ?_
                refine xJ_istore_n hX dX12_factor_142 (Nat.le_of_ble_eq_true rfl) rfl ?_
                dsimp only [List.set]
                refine xJ_iload_n hX dX12_factor_143 rfl ?_
                refine xJ_if_ge hX dX12_factor_144 (tgt := 158) (by decide) ⟨by decide, by decide⟩ (fun c144 => ?_) (fun c144 => ?_)
                rotate_left 1
                · exact absurd c144 (by decide)
                refine xJ_iload_n hX dX12_factor_158 rfl ?_
                refine xJ_istore_n hX dX12_factor_159 (Nat.le_of_ble_eq_true rfl) rfl ?_
                dsimp only [List.set]
                refine xJ_aload_n hX dX12_factor_160 rfl ?_
                refine xJ_iload_n hX dX12_factor_161 rfl ?_
                refine xJ_if_ge hX dX12_factor_162 (tgt := 169) (by decide) ⟨by decide, by decide⟩ (fun c162 => ?_) (fun c162 => ?_)
                rotate_left 1
                · exact absurd c162 (by decide)
                refine xJ_iconst hX dX12_factor_169 ?_
                refine xJ_callV (As := [_]) hX hB dX12_factor_170 lk_X12_126 im_X12_emit se_X12_emit rfl (by decide) (oX12_k hL) (c_X12_emit hL hM131 ⟨by decide, by decide⟩ hp) (by omega) rfl rfl rfl (Nat.le_of_ble_eq_true rfl) (by decide) (by decide) (fun v t9 M170 hv => ?_) (fun _ _ _ q => q.elim)
                obtain ⟨rfl, hM170, ht9, hp⟩ := hv
                replace ht9 := ht9.symm
                subst ht9
                dsimp only [Option.toList, List.cons_append, List.nil_append]
                refine xJ_aload_n hX dX12_factor_173 rfl ?_
                refine xJ_iload_n hX dX12_factor_174 rfl ?_
                refine xJ_callV (As := [_]) hX hB dX12_factor_175 lk_X12_126 im_X12_emit se_X12_emit rfl (by decide) (oX12_k hL) (c_X12_emit hL hM170 ⟨by decide, by decide⟩ hp) (by omega) rfl rfl rfl (Nat.le_of_ble_eq_true rfl) (by decide) (by decide) (fun v t9 M175 hv => ?_) (fun _ _ _ q => q.elim)
                obtain ⟨rfl, hM175, ht9, hp⟩ := hv
                replace ht9 := ht9.symm
                subst ht9
                dsimp only [Option.toList, List.cons_append, List.nil_append]
                refine xJ_vret hX hB dX12_factor_178 (by decide) (by decide) ⟨rfl, hM175, rfl, hp⟩
            · replace hp := hp.2 c121
              refine xJ_iconst hX dX12_factor_124 ?_
              refine xJ_goto hX dX12_factor_125 (tgt := 142) (by decide) ?_
              refine xJ_istore_n hX dX12_factor_142 (Nat.le_of_ble_eq_true rfl) rfl ?_
              dsimp only [List.set]
              refine xJ_iload_n hX dX12_factor_143 rfl ?_
              refine xJ_if_ge hX dX12_factor_144 (tgt := 158) (by decide) ⟨by decide, by decide⟩ (fun c144 => ?_) (fun c144 => ?_)
              rotate_left 1
              · exact absurd c144 (by decide)
              refine xJ_iload_n hX dX12_factor_158 rfl ?_
              refine xJ_istore_n hX dX12_factor_159 (Nat.le_of_ble_eq_true rfl) rfl ?_
              dsimp only [List.set]
              refine xJ_aload_n hX dX12_factor_160 rfl ?_
              refine xJ_iload_n hX dX12_factor_161 rfl ?_
              refine xJ_if_ge hX dX12_factor_162 (tgt := 169) (by decide) ⟨by decide, by decide⟩ (fun c162 => ?_) (fun c162 => ?_)
              rotate_left 1
              · exact absurd c162 (by decide)
              refine xJ_iconst hX dX12_factor_169 ?_
              refine xJ_callV (As := [_]) hX hB dX12_factor_170 lk_X12_126 im_X12_emit se_X12_emit rfl (by decide) (oX12_k hL) (c_X12_emit hL hM118 ⟨by decide, by decide⟩ hp) (by omega) rfl rfl rfl (Nat.le_of_ble_eq_true rfl) (by decide) (by decide) (fun v t9 M170 hv => ?_) (fun _ _ _ q => q.elim)
              obtain ⟨rfl, hM170, ht9, hp⟩ := hv
              replace ht9 := ht9.symm
              subst ht9
              dsimp only [Option.toList, List.cons_append, List.nil_append]
              refine xJ_aload_n hX dX12_factor_173 rfl ?_
              refine xJ_iload_n hX dX12_factor_174 rfl ?_
              refine xJ_callV (As := [_]) hX hB dX12_factor_175 lk_X12_126 im_X12_emit se_X12_emit rfl (by decide) (oX12_k hL) (c_X12_emit hL hM170 ⟨by decide, by decide⟩ hp) (by omega) rfl rfl rfl (Nat.le_of_ble_eq_true rfl) (by decide) (by decide) (fun v t9 M175 hv => ?_) (fun _ _ _ q => q.elim)
              obtain ⟨rfl, hM175, ht9, hp⟩ := hv
              replace ht9 := ht9.symm
              subst ht9
              dsimp only [Option.toList, List.cons_append, List.nil_append]
              refine xJ_vret hX hB dX12_factor_178 (by decide) (by decide) ⟨rfl, hM175, rfl, hp⟩
          · replace hp := hp.2 c108
            refine xJ_iconst hX dX12_factor_111 ?_
            refine xJ_goto hX dX12_factor_112 (tgt := 142) (by decide) ?_
            refine xJ_istore_n hX dX12_factor_142 (Nat.le_of_ble_eq_true rfl) rfl ?_
            dsimp only [List.set]
            refine xJ_iload_n hX dX12_factor_143 rfl ?_
            refine xJ_if_ge hX dX12_factor_144 (tgt := 158) (by decide) ⟨by decide, by decide⟩ (fun c144 => ?_) (fun c144 => ?_)
            rotate_left 1
            · exact absurd c144 (by decide)
            refine xJ_iload_n hX dX12_factor_158 rfl ?_
            refine xJ_istore_n hX dX12_factor_159 (Nat.le_of_ble_eq_true rfl) rfl ?_
            dsimp only [List.set]
            refine xJ_aload_n hX dX12_factor_160 rfl ?_
            refine xJ_iload_n hX dX12_factor_161 rfl ?_
            refine xJ_if_ge hX dX12_factor_162 (tgt := 169) (by decide) ⟨by decide, by decide⟩ (fun c162 => ?_) (fun c162 => ?_)
            rotate_left 1
            · exact absurd c162 (by decide)
            refine xJ_iconst hX dX12_factor_169 ?_
            refine xJ_callV (As := [_]) hX hB dX12_factor_170 lk_X12_126 im_X12_emit se_X12_emit rfl (by decide) (oX12_k hL) (c_X12_emit hL hM105 ⟨by decide, by decide⟩ hp) (by omega) rfl rfl rfl (Nat.le_of_ble_eq_true rfl) (by decide) (by decide) (fun v t9 M170 hv => ?_) (fun _ _ _ q => q.elim)
            obtain ⟨rfl, hM170, ht9, hp⟩ := hv
            replace ht9 := ht9.symm
            subst ht9
            dsimp only [Option.toList, List.cons_append, List.nil_append]
            refine xJ_aload_n hX dX12_factor_173 rfl ?_
            refine xJ_iload_n hX dX12_factor_174 rfl ?_
            refine xJ_callV (As := [_]) hX hB dX12_factor_175 lk_X12_126 im_X12_emit se_X12_emit rfl (by decide) (oX12_k hL) (c_X12_emit hL hM170 ⟨by decide, by decide⟩ hp) (by omega) rfl rfl rfl (Nat.le_of_ble_eq_true rfl) (by decide) (by decide) (fun v t9 M175 hv => ?_) (fun _ _ _ q => q.elim)
            obtain ⟨rfl, hM175, ht9, hp⟩ := hv
            replace ht9 := ht9.symm
            subst ht9
            dsimp only [Option.toList, List.cons_append, List.nil_append]
            refine xJ_vret hX hB dX12_factor_178 (by decide) (by decide) ⟨rfl, hM175, rfl, hp⟩
        · replace hp := hp.2 c95
          refine xJ_iconst hX dX12_factor_98 ?_
          refine xJ_goto hX dX12_factor_99 (tgt := 142) (by decide) ?_
          refine xJ_istore_n hX dX12_factor_142 (Nat.le_of_ble_eq_true rfl) rfl ?_
          dsimp only [List.set]
          refine xJ_iload_n hX dX12_factor_143 rfl ?_
          refine xJ_if_ge hX dX12_factor_144 (tgt := 158) (by decide) ⟨by decide, by decide⟩ (fun c144 => ?_) (fun c144 => ?_)
          rotate_left 1
          · exact absurd c144 (by decide)
          refine xJ_iload_n hX dX12_factor_158 rfl ?_
          refine xJ_istore_n hX dX12_factor_159 (Nat.le_of_ble_eq_true rfl) rfl ?_
          dsimp only [List.set]
          refine xJ_aload_n hX dX12_factor_160 rfl ?_
          refine xJ_iload_n hX dX12_factor_161 rfl ?_
          refine xJ_if_ge hX dX12_factor_162 (tgt := 169) (by decide) ⟨by decide, by decide⟩ (fun c162 => ?_) (fun c162 => ?_)
          rotate_left 1
          · exact absurd c162 (by decide)
          refine xJ_iconst hX dX12_factor_169 ?_
          refine xJ_callV (As := [_]) hX hB dX12_factor_170 lk_X12_126 im_X12_emit se_X12_emit rfl (by decide) (oX12_k hL) (c_X12_emit hL hM92 ⟨by decide, by decide⟩ hp) (by omega) rfl rfl rfl (Nat.le_of_ble_eq_true rfl) (by decide) (by decide) (fun v t9 M170 hv => ?_) (fun _ _ _ q => q.elim)
          obtain ⟨rfl, hM170, ht9, hp⟩ := hv
          replace ht9 := ht9.symm
          subst ht9
          dsimp only [Option.toList, List.cons_append, List.nil_append]
          refine xJ_aload_n hX dX12_factor_173 rfl ?_
          refine xJ_iload_n hX dX12_factor_174 rfl ?_
          refine xJ_callV (As := [_]) hX hB dX12_factor_175 lk_X12_126 im_X12_emit se_X12_emit rfl (by decide) (oX12_k hL) (c_X12_emit hL hM170 ⟨by decide, by decide⟩ hp) (by omega) rfl rfl rfl (Nat.le_of_ble_eq_true rfl) (by decide) (by decide) (fun v t9 M175 hv => ?_) (fun _ _ _ q => q.elim)
          obtain ⟨rfl, hM175, ht9, hp⟩ := hv
          replace ht9 := ht9.symm
          subst ht9
          dsimp only [Option.toList, List.cons_append, List.nil_append]
          refine xJ_vret hX hB dX12_factor_178 (by decide) (by decide) ⟨rfl, hM175, rfl, hp⟩
      · replace hp := hp.2 c82
        refine xJ_iconst hX dX12_factor_85 ?_
        refine xJ_goto hX dX12_factor_86 (tgt := 142) (by decide) ?_
        refine xJ_istore_n hX dX12_factor_142 (Nat.le_of_ble_eq_true rfl) rfl ?_
        dsimp only [List.set]
        refine xJ_iload_n hX dX12_factor_143 rfl ?_
        refine xJ_if_ge hX dX12_factor_144 (tgt := 158) (by decide) ⟨by decide, by decide⟩ (fun c144 => ?_) (fun c144 => ?_)
        · exact absurd c144 (by decide)
        refine xJ_aload_n hX dX12_factor_147 rfl ?_
        refine xJ_iconst hX dX12_factor_148 ?_
        refine xJ_sipush hX dX12_factor_149 rfl ?_
        refine xJ_callV (As := [_, _]) hX hB dX12_factor_152 lk_X12_123 im_X12_number se_X12_number rfl (by decide) (oX12_k hL) (c_X12_number hL hM79 ⟨by decide, by decide⟩ ⟨by decide, by decide⟩ hp) (by omega) rfl rfl rfl (Nat.le_of_ble_eq_true rfl) (by decide) (by decide) (fun v t9 M152 hv => ?_) (fun _ _ _ q => q.elim)
        obtain ⟨r152, rfl, h152, hM152, ht9, hp⟩ := hv
        replace ht9 := ht9.symm
        subst ht9
        dsimp only [Option.toList, List.cons_append, List.nil_append]
        refine xJ_goto hX dX12_factor_155 (tgt := 159) (by decide) ?_
        refine xJ_istore_n hX dX12_factor_159 (Nat.le_of_ble_eq_true rfl) rfl ?_
        dsimp only [List.set]
        refine xJ_aload_n hX dX12_factor_160 rfl ?_
        refine xJ_iload_n hX dX12_factor_161 rfl ?_
        refine xJ_if_ge hX dX12_factor_162 (tgt := 169) (by decide) ⟨by decide, by decide⟩ (fun c162 => ?_) (fun c162 => ?_)
        · exact absurd c162 (by decide)
        refine xJ_iconst hX dX12_factor_165 ?_
        refine xJ_goto hX dX12_factor_166 (tgt := 170) (by decide) ?_
        refine xJ_callV (As := [_]) hX hB dX12_factor_170 lk_X12_126 im_X12_emit se_X12_emit rfl (by decide) (oX12_k hL) (c_X12_emit hL hM152 ⟨by decide, by decide⟩ hp) (by omega) rfl rfl rfl (Nat.le_of_ble_eq_true rfl) (by decide) (by decide) (fun v t9 M170 hv => ?_) (fun _ _ _ q => q.elim)
        obtain ⟨rfl, hM170, ht9, hp⟩ := hv
        replace ht9 := ht9.symm
        subst ht9
        dsimp only [Option.toList, List.cons_append, List.nil_append]
        refine xJ_aload_n hX dX12_factor_173 rfl ?_
        refine xJ_iload_n hX dX12_factor_174 rfl ?_
        refine xJ_callV (As := [_]) hX hB dX12_factor_175 lk_X12_126 im_X12_emit se_X12_emit rfl (by decide) (oX12_k hL) (c_X12_emit hL hM170 h152 hp) (by omega) rfl rfl rfl (Nat.le_of_ble_eq_true rfl) (by decide) (by decide) (fun v t9 M175 hv => ?_) (fun _ _ _ q => q.elim)
        obtain ⟨rfl, hM175, ht9, hp⟩ := hv
        replace ht9 := ht9.symm
        subst ht9
        dsimp only [Option.toList, List.cons_append, List.nil_append]
        refine xJ_vret hX hB dX12_factor_178 (by decide) (by decide) ⟨rfl, hM175, rfl, hp⟩
    · replace hp := hp.2 c16
      refine xJ_aload_n hX dX12_factor_19 rfl ?_
      refine xJ_getI hX dX12_factor_20 fd_X12_101 rfl (oX12_k hL) ?_
      refine xJ_iconst hX dX12_factor_23 ?_
      refine xJ_icmp_ne hX dX12_factor_24 (tgt := 37) (by decide) (hM9 _ _) ⟨by decide, by decide⟩ (fun c24 => ?_) (fun c24 => ?_)
      · replace hp := hp.1 c24
        refine xJ_aload_n hX dX12_factor_37 rfl ?_
        refine xJ_dup hX dX12_factor_38 rfl ?_
        refine xJ_getI hX dX12_factor_39 fd_X12_51 rfl (oX12_k hL) ?_
        refine xJ_iconst hX dX12_factor_42 ?_
        refine xJ_iadd hX dX12_factor_43 ?_
        obtain ⟨h43, hp⟩ := hp
        refine xJ_putIM hX dX12_factor_44 fd_X12_51 ft_X12 rfl rfl rfl rfl (oX12_k hL) hM9 h43 (fun M44 e44 hM44 => ?_)
        replace hp := hp M44 e44
        refine xJ_aload_n hX dX12_factor_47 rfl ?_
        refine xJ_dup hX dX12_factor_48 rfl ?_
        refine xJ_getI hX dX12_factor_49 fd_X12_101 rfl (oX12_k hL) ?_
        refine xJ_iconst hX dX12_factor_52 ?_
        refine xJ_iadd hX dX12_factor_53 ?_
        obtain ⟨h53, hp⟩ := hp
        refine xJ_putIM hX dX12_factor_54 fd_X12_101 ft_X12 rfl rfl rfl rfl (oX12_k hL) hM44 h53 (fun M54 e54 hM54 => ?_)
        replace hp := hp M54 e54
        refine xJ_aload_n hX dX12_factor_57 rfl ?_
        refine xJ_callV (As := []) hX hB dX12_factor_58 lk_X12_104 im_X12_sum se_X12_sum rfl (by decide) (oX12_k hL) (hPS _ _ hM54 hp) (by omega) rfl rfl rfl (Nat.le_of_ble_eq_true rfl) (by decide) (by decide) (fun v t9 M58 hv => ?_) (fun _ _ _ q => q.elim)
        obtain ⟨rfl, hM58, ht9, hp⟩ := hv
        replace ht9 := ht9.symm
        subst ht9
        dsimp only [Option.toList, List.cons_append, List.nil_append]
        refine xJ_aload_n hX dX12_factor_61 rfl ?_
        refine xJ_bipush hX dX12_factor_62 rfl ?_
        refine xJ_callV (As := [_]) hX hB dX12_factor_64 lk_X12_107 im_X12_expect se_X12_expect rfl (by decide) (oX12_k hL) (c_X12_expect hL hM58 ⟨by decide, by decide⟩ hp) (by omega) rfl rfl rfl (Nat.le_of_ble_eq_true rfl) (by decide) (by decide) (fun v t9 M64 hv => ?_) (fun _ _ _ q => q.elim)
        obtain ⟨rfl, hM64, ht9, hp⟩ := hv
        replace ht9 := ht9.symm
        subst ht9
        dsimp only [Option.toList, List.cons_append, List.nil_append]
        refine xJ_aload_n hX dX12_factor_67 rfl ?_
        refine xJ_dup hX dX12_factor_68 rfl ?_
        refine xJ_getI hX dX12_factor_69 fd_X12_101 rfl (oX12_k hL) ?_
        refine xJ_iconst hX dX12_factor_72 ?_
        refine xJ_isub hX dX12_factor_73 ?_
        obtain ⟨h73, hp⟩ := hp
        refine xJ_putIM hX dX12_factor_74 fd_X12_101 ft_X12 rfl rfl rfl rfl (oX12_k hL) hM64 h73 (fun M74 e74 hM74 => ?_)
        replace hp := hp M74 e74
        refine xJ_vret hX hB dX12_factor_77 (by decide) (by decide) ⟨rfl, hM74, rfl, hp⟩
      · replace hp := hp.2 c24
        refine xJ_aload_n hX dX12_factor_27 rfl ?_
        refine xJ_bipush hX dX12_factor_28 rfl ?_
        refine xJ_aload_n hX dX12_factor_30 rfl ?_
        refine xJ_getI hX dX12_factor_31 fd_X12_51 rfl (oX12_k hL) ?_
        refine xJ_callV (As := [_, _]) hX hB dX12_factor_34 lk_X12_85 im_X12_report se_X12_report rfl (by decide) (oX12_k hL) (c_X12_report hL hM9 ⟨by decide, by decide⟩ (hM9 _ _) hp) (by omega) rfl rfl rfl (Nat.le_of_ble_eq_true rfl) (by decide) (by decide) (fun v t9 M34 hv => ?_) (fun _ _ _ q => q.elim)
        obtain ⟨rfl, hM34, ht9, hp⟩ := hv
        replace ht9 := ht9.symm
        subst ht9
        dsimp only [Option.toList, List.cons_append, List.nil_append]
        refine xJ_aload_n hX dX12_factor_37 rfl ?_
        refine xJ_dup hX dX12_factor_38 rfl ?_
        refine xJ_getI hX dX12_factor_39 fd_X12_51 rfl (oX12_k hL) ?_
        refine xJ_iconst hX dX12_factor_42 ?_
        refine xJ_iadd hX dX12_factor_43 ?_
        obtain ⟨h43, hp⟩ := hp
        refine xJ_putIM hX dX12_factor_44 fd_X12_51 ft_X12 rfl rfl rfl rfl (oX12_k hL) hM34 h43 (fun M44 e44 hM44 => ?_)
        replace hp := hp M44 e44
        refine xJ_aload_n hX dX12_factor_47 rfl ?_
        refine xJ_dup hX dX12_factor_48 rfl ?_
        refine xJ_getI hX dX12_factor_49 fd_X12_101 rfl (oX12_k hL) ?_
        refine xJ_iconst hX dX12_factor_52 ?_
        refine xJ_iadd hX dX12_factor_53 ?_
        obtain ⟨h53, hp⟩ := hp
        refine xJ_putIM hX dX12_factor_54 fd_X12_101 ft_X12 rfl rfl rfl rfl (oX12_k hL) hM44 h53 (fun M54 e54 hM54 => ?_)
        replace hp := hp M54 e54
        refine xJ_aload_n hX dX12_factor_57 rfl ?_
        refine xJ_callV (As := []) hX hB dX12_factor_58 lk_X12_104 im_X12_sum se_X12_sum rfl (by decide) (oX12_k hL) (hPS _ _ hM54 hp) (by omega) rfl rfl rfl (Nat.le_of_ble_eq_true rfl) (by decide) (by decide) (fun v t9 M58 hv => ?_) (fun _ _ _ q => q.elim)
        obtain ⟨rfl, hM58, ht9, hp⟩ := hv
        replace ht9 := ht9.symm
        subst ht9
        dsimp only [Option.toList, List.cons_append, List.nil_append]
        refine xJ_aload_n hX dX12_factor_61 rfl ?_
        refine xJ_bipush hX dX12_factor_62 rfl ?_
        refine xJ_callV (As := [_]) hX hB dX12_factor_64 lk_X12_107 im_X12_expect se_X12_expect rfl (by decide) (oX12_k hL) (c_X12_expect hL hM58 ⟨by decide, by decide⟩ hp) (by omega) rfl rfl rfl (Nat.le_of_ble_eq_true rfl) (by decide) (by decide) (fun v t9 M64 hv => ?_) (fun _ _ _ q => q.elim)
        obtain ⟨rfl, hM64, ht9, hp⟩ := hv
        replace ht9 := ht9.symm
        subst ht9
        dsimp only [Option.toList, List.cons_append, List.nil_append]
        refine xJ_aload_n hX dX12_factor_67 rfl ?_
        refine xJ_dup hX dX12_factor_68 rfl ?_
        refine xJ_getI hX dX12_factor_69 fd_X12_101 rfl (oX12_k hL) ?_
        refine xJ_iconst hX dX12_factor_72 ?_
        refine xJ_isub hX dX12_factor_73 ?_
        obtain ⟨h73, hp⟩ := hp
        refine xJ_putIM hX dX12_factor_74 fd_X12_101 ft_X12 rfl rfl rfl rfl (oX12_k hL) hM64 h73 (fun M74 e74 hM74 => ?_)
        replace hp := hp M74 e74
        refine xJ_vret hX hB dX12_factor_77 (by decide) (by decide) ⟨rfl, hM74, rfl, hp⟩
  · replace hp := hp.2 c4
    refine xJ_vret hX hB dX12_factor_7 (by decide) (by decide) ⟨rfl, hM1, rfl, hp⟩
def p_X12_term_4 (F : Nat) (PS : xMe → (xMe → Prop) → Prop) (a : Nat) (Q : xMe → Prop) : Nat → xMe → Prop
  | 0, _ => False
  | k + 1, M =>
    p_X12_isGood a M (fun r5 M5 => ((r5 = 0 → Q M5) ∧ (r5 ≠ 0 → p_X12_next F a M5 (fun r12 M12 => ((r12 = 42 → p_X12_next F a M12 (fun r30 M30 => ((r30 ≠ 42 → (xR ((M30 a 4) + 1)) ∧ (∀ M51 : xMe, M51 = xw M30 a 4 ((M30 a 4) + 1) → p_X12_factor F PS a M51 (fun M55 => p_X12_emit a 5 M55 (fun M68 => p_X12_term_4 F PS a Q k M68)))) ∧ (r30 = 42 → (xR ((M30 a 4) + 1)) ∧ (∀ M51 : xMe, M51 = xw M30 a 4 ((M30 a 4) + 1) → p_X12_factor F PS a M51 (fun M55 => p_X12_emit a 4 M55 (fun M68 => p_X12_term_4 F PS a Q k M68))))))) ∧ (r12 ≠ 42 → p_X12_next F a M12 (fun r21 M21 => ((r21 ≠ 47 → Q M21) ∧ (r21 = 47 → p_X12_next F a M21 (fun r30 M30 => ((r30 ≠ 42 → (xR ((M30 a 4) + 1)) ∧ (∀ M51 : xMe, M51 = xw M30 a 4 ((M30 a 4) + 1) → p_X12_factor F PS a M51 (fun M55 => p_X12_emit a 5 M55 (fun M68 => p_X12_term_4 F PS a Q k M68)))) ∧ (r30 = 42 → (xR ((M30 a 4) + 1)) ∧ (∀ M51 : xMe, M51 = xw M30 a 4 ((M30 a 4) + 1) → p_X12_factor F PS a M51 (fun M55 => p_X12_emit a 4 M55 (fun M68 => p_X12_term_4 F PS a Q k M68)))))))))))))))
def p_X12_term (F : Nat) (PS : xMe → (xMe → Prop) → Prop) (a : Nat) (M : xMe) (Q : xMe → Prop) : Prop :=
  p_X12_factor F PS a M (fun M1 => p_X12_term_4 F PS a Q F M1)
set_option maxHeartbeats 4000000 in
set_option maxRecDepth 100000 in
theorem c_X12_term {G : xGx} {t : xTh} {M : xMe} {dn : Nat} {F : Nat} {PS : xMe → (xMe → Prop) → Prop} {a : Nat} {Q : xMe → Prop} (hPS : ∀  (M : xMe) (Q : xMe → Prop), xMR M → PS  M Q → xCt G yX12_sum cX12_sum 2 none dn 0 0 [vr a] t M (fun v t' M' => v = none ∧ xMR M' ∧ t' = t ∧ Q M') (fun _ _ _ => False)) (hL : oX12 t a) (hM : xMR M)(hp : p_X12_term F PS a M Q) : xCt G yX12_term cX12_term 2 none (dn + 12) 0 0 [vr a] t M (fun v t' M' => v = none ∧ xMR M' ∧ t' = t ∧ Q M') (fun _ _ _ => False) := by
  refine xCt_of (L0 := [vr a, vU]) (by decide +kernel) (Nat.le_of_ble_eq_true rfl) rfl ?_
  intro X hX hB
  unfold p_X12_term at hp
  refine xJ_aload_n hX dX12_term_0 rfl ?_
  refine xJ_callV (As := []) hX hB dX12_term_1 lk_X12_129 im_X12_factor se_X12_factor rfl (by decide) (oX12_k hL) (c_X12_factor hPS hL hM hp) (by omega) rfl rfl rfl (Nat.le_of_ble_eq_true rfl) (by decide) (by decide) (fun v t9 M1 hv => ?_) (fun _ _ _ q => q.elim)
  obtain ⟨rfl, hM1, ht9, hp⟩ := hv
  replace ht9 := ht9.symm
  subst ht9
  dsimp only [Option.toList, List.cons_append, List.nil_append]
  have lp4 : ∀ (k : Nat) (M : xMe) (hM : xMR M) (hp : p_X12_term_4 F PS a Q k M), xJ X 0 0 t M 4 [vr a, vU] [] := by
    intro k
    induction k with
    | zero => intro M hM hp; exact hp.elim
    | succ k ih =>
      intro M hM hp
      unfold p_X12_term_4 at hp
      refine xJ_aload_n hX dX12_term_4 rfl ?_
      refine xJ_callV (As := []) hX hB dX12_term_5 lk_X12_68 im_X12_isGood se_X12_isGood rfl (by decide) (oX12_k hL) (c_X12_isGood hL hM hp) (by omega) rfl rfl rfl (Nat.le_of_ble_eq_true rfl) (by decide) (by decide) (fun v t9 M5 hv => ?_) (fun _ _ _ q => q.elim)
      obtain ⟨r5, rfl, h5, hM5, ht9, hp⟩ := hv
      replace ht9 := ht9.symm
      subst ht9
      dsimp only [Option.toList, List.cons_append, List.nil_append]
      refine xJ_if_eq hX dX12_term_8 (tgt := 74) (by decide) h5 (fun c8 => ?_) (fun c8 => ?_)
      · replace hp := hp.1 c8
        refine xJ_vret hX hB dX12_term_74 (by decide) (by decide) ⟨rfl, hM5, rfl, hp⟩
      · replace hp := hp.2 c8
        refine xJ_aload_n hX dX12_term_11 rfl ?_
        refine xJ_callV (As := []) hX hB dX12_term_12 lk_X12_72 im_X12_next se_X12_next rfl (by decide) (oX12_k hL) (c_X12_next hL hM5 hp) (by omega) rfl rfl rfl (Nat.le_of_ble_eq_true rfl) (by decide) (by decide) (fun v t9 M12 hv => ?_) (fun _ _ _ q => q.elim)
        obtain ⟨r12, rfl, h12, hM12, ht9, hp⟩ := hv
        replace ht9 := ht9.symm
        subst ht9
        dsimp only [Option.toList, List.cons_append, List.nil_append]
        refine xJ_bipush hX dX12_term_15 rfl ?_
        refine xJ_icmp_eq hX dX12_term_17 (tgt := 29) (by decide) h12 ⟨by decide, by decide⟩ (fun c17 => ?_) (fun c17 => ?_)
        · replace hp := hp.1 c17
          refine xJ_aload_n hX dX12_term_29 rfl ?_
          refine xJ_callV (As := []) hX hB dX12_term_30 lk_X12_72 im_X12_next se_X12_next rfl (by decide) (oX12_k hL) (c_X12_next hL hM12 hp) (by omega) rfl rfl rfl (Nat.le_of_ble_eq_true rfl) (by decide) (by decide) (fun v t9 M30 hv => ?_) (fun _ _ _ q => q.elim)
          obtain ⟨r30, rfl, h30, hM30, ht9, hp⟩ := hv
          replace ht9 := ht9.symm
          subst ht9
          dsimp only [Option.toList, List.cons_append, List.nil_append]
          refine xJ_bipush hX dX12_term_33 rfl ?_
          refine xJ_icmp_ne hX dX12_term_35 (tgt := 42) (by decide) h30 ⟨by decide, by decide⟩ (fun c35 => ?_) (fun c35 => ?_)
          · replace hp := hp.1 c35
            refine xJ_iconst hX dX12_term_42 ?_
            refine xJ_istore_n hX dX12_term_43 (Nat.le_of_ble_eq_true rfl) rfl ?_
            dsimp only [List.set]
            refine xJ_aload_n hX dX12_term_44 rfl ?_
            refine xJ_dup hX dX12_term_45 rfl ?_
            refine xJ_getI hX dX12_term_46 fd_X12_51 rfl (oX12_k hL) ?_
            refine xJ_iconst hX dX12_term_49 ?_
            refine xJ_iadd hX dX12_term_50 ?_
            obtain ⟨h50, hp⟩ := hp
            refine xJ_putIM hX dX12_term_51 fd_X12_51 ft_X12 rfl rfl rfl rfl (oX12_k hL) hM30 h50 (fun M51 e51 hM51 => ?_)
            replace hp := hp M51 e51
            refine xJ_aload_n hX dX12_term_54 rfl ?_
            refine xJ_callV (As := []) hX hB dX12_term_55 lk_X12_129 im_X12_factor se_X12_factor rfl (by decide) (oX12_k hL) (c_X12_factor hPS hL hM51 hp) (by omega) rfl rfl rfl (Nat.le_of_ble_eq_true rfl) (by decide) (by decide) (fun v t9 M55 hv => ?_) (fun _ _ _ q => q.elim)
            obtain ⟨rfl, hM55, ht9, hp⟩ := hv
            replace ht9 := ht9.symm
            subst ht9
            dsimp only [Option.toList, List.cons_append, List.nil_append]
            refine xJ_aload_n hX dX12_term_58 rfl ?_
            refine xJ_iload_n hX dX12_term_59 rfl ?_
            refine xJ_if_eq hX dX12_term_60 (tgt := 67) (by decide) ⟨by decide, by decide⟩ (fun c60 => ?_) (fun c60 => ?_)
            rotate_left 1
            · exact absurd c60 (by decide)
            refine xJ_iconst hX dX12_term_67 ?_
            refine xJ_callV (As := [_]) hX hB dX12_term_68 lk_X12_126 im_X12_emit se_X12_emit rfl (by decide) (oX12_k hL) (c_X12_emit hL hM55 ⟨by decide, by decide⟩ hp) (by omega) rfl rfl rfl (Nat.le_of_ble_eq_true rfl) (by decide) (by decide) (fun v t9 M68 hv => ?_) (fun _ _ _ q => q.elim)
            obtain ⟨rfl, hM68, ht9, hp⟩ := hv
            replace ht9 := ht9.symm
            subst ht9
            dsimp only [Option.toList, List.cons_append, List.nil_append]
            refine xJ_goto hX dX12_term_71 (tgt := 4) (by decide) ?_
            refine xJ_fg 1 ?_
            dsimp only [List.set]
            exact ih _ hM68 hp
          · replace hp := hp.2 c35
            refine xJ_iconst hX dX12_term_38 ?_
            refine xJ_goto hX dX12_term_39 (tgt := 43) (by decide) ?_
            refine xJ_istore_n hX dX12_term_43 (Nat.le_of_ble_eq_true rfl) rfl ?_
            dsimp only [List.set]
            refine xJ_aload_n hX dX12_term_44 rfl ?_
            refine xJ_dup hX dX12_term_45 rfl ?_
            refine xJ_getI hX dX12_term_46 fd_X12_51 rfl (oX12_k hL) ?_
            refine xJ_iconst hX dX12_term_49 ?_
            refine xJ_iadd hX dX12_term_50 ?_
            obtain ⟨h50, hp⟩ := hp
            refine xJ_putIM hX dX12_term_51 fd_X12_51 ft_X12 rfl rfl rfl rfl (oX12_k hL) hM30 h50 (fun M51 e51 hM51 => ?_)
            replace hp := hp M51 e51
            refine xJ_aload_n hX dX12_term_54 rfl ?_
            refine xJ_callV (As := []) hX hB dX12_term_55 lk_X12_129 im_X12_factor se_X12_factor rfl (by decide) (oX12_k hL) (c_X12_factor hPS hL hM51 hp) (by omega) rfl rfl rfl (Nat.le_of_ble_eq_true rfl) (by decide) (by decide) (fun v t9 M55 hv => ?_) (fun _ _ _ q => q.elim)
            obtain ⟨rfl, hM55, ht9, hp⟩ := hv
            replace ht9 := ht9.symm
            subst ht9
            dsimp only [Option.toList, List.cons_append, List.nil_append]
            refine xJ_aload_n hX dX12_term_58 rfl ?_
            refine xJ_iload_n hX dX12_term_59 rfl ?_
            refine xJ_if_eq hX dX12_term_60 (tgt := 67) (by decide) ⟨by decide, by decide⟩ (fun c60 => ?_) (fun c60 => ?_)
            · exact absurd c60 (by decide)
            refine xJ_iconst hX dX12_term_63 ?_
            refine xJ_goto hX dX12_term_64 (tgt := 68) (by decide) ?_
            refine xJ_callV (As := [_]) hX hB dX12_term_68 lk_X12_126 im_X12_emit se_X12_emit rfl (by decide) (oX12_k hL) (c_X12_emit hL hM55 ⟨by decide, by decide⟩ hp) (by omega) rfl rfl rfl (Nat.le_of_ble_eq_true rfl) (by decide) (by decide) (fun v t9 M68 hv => ?_) (fun _ _ _ q => q.elim)
            obtain ⟨rfl, hM68, ht9, hp⟩ := hv
            replace ht9 := ht9.symm
            subst ht9
            dsimp only [Option.toList, List.cons_append, List.nil_append]
            refine xJ_goto hX dX12_term_71 (tgt := 4) (by decide) ?_
            refine xJ_fg 1 ?_
            dsimp only [List.set]
            exact ih _ hM68 hp
        · replace hp := hp.2 c17
          refine xJ_aload_n hX dX12_term_20 rfl ?_
          refine xJ_callV (As := []) hX hB dX12_term_21 lk_X12_72 im_X12_next se_X12_next rfl (by decide) (oX12_k hL) (c_X12_next hL hM12 hp) (by omega) rfl rfl rfl (Nat.le_of_ble_eq_true rfl) (by decide) (by decide) (fun v t9 M21 hv => ?_) (fun _ _ _ q => q.elim)
          obtain ⟨r21, rfl, h21, hM21, ht9, hp⟩ := hv
          replace ht9 := ht9.symm
          subst ht9
          dsimp only [Option.toList, List.cons_append, List.nil_append]
          refine xJ_bipush hX dX12_term_24 rfl ?_
          refine xJ_icmp_ne hX dX12_term_26 (tgt := 74) (by decide) h21 ⟨by decide, by decide⟩ (fun c26 => ?_) (fun c26 => ?_)
          · replace hp := hp.1 c26
            refine xJ_vret hX hB dX12_term_74 (by decide) (by decide) ⟨rfl, hM21, rfl, hp⟩
          · replace hp := hp.2 c26
            refine xJ_aload_n hX dX12_term_29 rfl ?_
            refine xJ_callV (As := []) hX hB dX12_term_30 lk_X12_72 im_X12_next se_X12_next rfl (by decide) (oX12_k hL) (c_X12_next hL hM21 hp) (by omega) rfl rfl rfl (Nat.le_of_ble_eq_true rfl) (by decide) (by decide) (fun v t9 M30 hv => ?_) (fun _ _ _ q => q.elim)
            obtain ⟨r30, rfl, h30, hM30, ht9, hp⟩ := hv
            replace ht9 := ht9.symm
            subst ht9
            dsimp only [Option.toList, List.cons_append, List.nil_append]
            refine xJ_bipush hX dX12_term_33 rfl ?_
            refine xJ_icmp_ne hX dX12_term_35 (tgt := 42) (by decide) h30 ⟨by decide, by decide⟩ (fun c35 => ?_) (fun c35 => ?_)
            · replace hp := hp.1 c35
              refine xJ_iconst hX dX12_term_42 ?_
              refine xJ_istore_n hX dX12_term_43 (Nat.le_of_ble_eq_true rfl) rfl ?_
              dsimp only [List.set]
              refine xJ_aload_n hX dX12_term_44 rfl ?_
              refine xJ_dup hX dX12_term_45 rfl ?_
              refine xJ_getI hX dX12_term_46 fd_X12_51 rfl (oX12_k hL) ?_
              refine xJ_iconst hX dX12_term_49 ?_
              refine xJ_iadd hX dX12_term_50 ?_
              obtain ⟨h50, hp⟩ := hp
              refine xJ_putIM hX dX12_term_51 fd_X12_51 ft_X12 rfl rfl rfl rfl (oX12_k hL) hM30 h50 (fun M51 e51 hM51 => ?_)
              replace hp := hp M51 e51
              refine xJ_aload_n hX dX12_term_54 rfl ?_
              refine xJ_callV (As := []) hX hB dX12_term_55 lk_X12_129 im_X12_factor se_X12_factor rfl (by decide) (oX12_k hL) (c_X12_factor hPS hL hM51 hp) (by omega) rfl rfl rfl (Nat.le_of_ble_eq_true rfl) (by decide) (by decide) (fun v t9 M55 hv => ?_) (fun _ _ _ q => q.elim)
              obtain ⟨rfl, hM55, ht9, hp⟩ := hv
              replace ht9 := ht9.symm
              subst ht9
              dsimp only [Option.toList, List.cons_append, List.nil_append]
              refine xJ_aload_n hX dX12_term_58 rfl ?_
              refine xJ_iload_n hX dX12_term_59 rfl ?_
              refine xJ_if_eq hX dX12_term_60 (tgt := 67) (by decide) ⟨by decide, by decide⟩ (fun c60 => ?_) (fun c60 => ?_)
              rotate_left 1
              · exact absurd c60 (by decide)
              refine xJ_iconst hX dX12_term_67 ?_
              refine xJ_callV (As := [_]) hX hB dX12_term_68 lk_X12_126 im_X12_emit se_X12_emit rfl (by decide) (oX12_k hL) (c_X12_emit hL hM55 ⟨by decide, by decide⟩ hp) (by omega) rfl rfl rfl (Nat.le_of_ble_eq_true rfl) (by decide) (by decide) (fun v t9 M68 hv => ?_) (fun _ _ _ q => q.elim)
              obtain ⟨rfl, hM68, ht9, hp⟩ := hv
              replace ht9 := ht9.symm
              subst ht9
              dsimp only [Option.toList, List.cons_append, List.nil_append]
              refine xJ_goto hX dX12_term_71 (tgt := 4) (by decide) ?_
              refine xJ_fg 1 ?_
              dsimp only [List.set]
              exact ih _ hM68 hp
            · replace hp := hp.2 c35
              refine xJ_iconst hX dX12_term_38 ?_
              refine xJ_goto hX dX12_term_39 (tgt := 43) (by decide) ?_
              refine xJ_istore_n hX dX12_term_43 (Nat.le_of_ble_eq_true rfl) rfl ?_
              dsimp only [List.set]
              refine xJ_aload_n hX dX12_term_44 rfl ?_
              refine xJ_dup hX dX12_term_45 rfl ?_
              refine xJ_getI hX dX12_term_46 fd_X12_51 rfl (oX12_k hL) ?_
              refine xJ_iconst hX dX12_term_49 ?_
              refine xJ_iadd hX dX12_term_50 ?_
              obtain ⟨h50, hp⟩ := hp
              refine xJ_putIM hX dX12_term_51 fd_X12_51 ft_X12 rfl rfl rfl rfl (oX12_k hL) hM30 h50 (fun M51 e51 hM51 => ?_)
              replace hp := hp M51 e51
              refine xJ_aload_n hX dX12_term_54 rfl ?_
              refine xJ_callV (As := []) hX hB dX12_term_55 lk_X12_129 im_X12_factor se_X12_factor rfl (by decide) (oX12_k hL) (c_X12_factor hPS hL hM51 hp) (by omega) rfl rfl rfl (Nat.le_of_ble_eq_true rfl) (by decide) (by decide) (fun v t9 M55 hv => ?_) (fun _ _ _ q => q.elim)
              obtain ⟨rfl, hM55, ht9, hp⟩ := hv
              replace ht9 := ht9.symm
              subst ht9
              dsimp only [Option.toList, List.cons_append, List.nil_append]
              refine xJ_aload_n hX dX12_term_58 rfl ?_
              refine xJ_iload_n hX dX12_term_59 rfl ?_
              refine xJ_if_eq hX dX12_term_60 (tgt := 67) (by decide) ⟨by decide, by decide⟩ (fun c60 => ?_) (fun c60 => ?_)
              · exact absurd c60 (by decide)
              refine xJ_iconst hX dX12_term_63 ?_
              refine xJ_goto hX dX12_term_64 (tgt := 68) (by decide) ?_
              refine xJ_callV (As := [_]) hX hB dX12_term_68 lk_X12_126 im_X12_emit se_X12_emit rfl (by decide) (oX12_k hL) (c_X12_emit hL hM55 ⟨by decide, by decide⟩ hp) (by omega) rfl rfl rfl (Nat.le_of_ble_eq_true rfl) (by decide) (by decide) (fun v t9 M68 hv => ?_) (fun _ _ _ q => q.elim)
              obtain ⟨rfl, hM68, ht9, hp⟩ := hv
              replace ht9 := ht9.symm
              subst ht9
              dsimp only [Option.toList, List.cons_append, List.nil_append]
              refine xJ_goto hX dX12_term_71 (tgt := 4) (by decide) ?_
              refine xJ_fg 1 ?_
              dsimp only [List.set]
              exact ih _ hM68 hp
  refine lp4 F _ hM1 hp
def p_X12_sum_4 (F : Nat) (PS : xMe → (xMe → Prop) → Prop) (a : Nat) (Q : xMe → Prop) : Nat → xMe → Prop
  | 0, _ => False
  | k + 1, M =>
    p_X12_isGood a M (fun r5 M5 => ((r5 = 0 → Q M5) ∧ (r5 ≠ 0 → p_X12_next F a M5 (fun r12 M12 => ((r12 = 43 → p_X12_next F a M12 (fun r30 M30 => ((r30 ≠ 43 → (xR ((M30 a 4) + 1)) ∧ (∀ M51 : xMe, M51 = xw M30 a 4 ((M30 a 4) + 1) → p_X12_term F PS a M51 (fun M55 => p_X12_emit a 3 M55 (fun M68 => p_X12_sum_4 F PS a Q k M68)))) ∧ (r30 = 43 → (xR ((M30 a 4) + 1)) ∧ (∀ M51 : xMe, M51 = xw M30 a 4 ((M30 a 4) + 1) → p_X12_term F PS a M51 (fun M55 => p_X12_emit a 2 M55 (fun M68 => p_X12_sum_4 F PS a Q k M68))))))) ∧ (r12 ≠ 43 → p_X12_next F a M12 (fun r21 M21 => ((r21 ≠ 45 → Q M21) ∧ (r21 = 45 → p_X12_next F a M21 (fun r30 M30 => ((r30 ≠ 43 → (xR ((M30 a 4) + 1)) ∧ (∀ M51 : xMe, M51 = xw M30 a 4 ((M30 a 4) + 1) → p_X12_term F PS a M51 (fun M55 => p_X12_emit a 3 M55 (fun M68 => p_X12_sum_4 F PS a Q k M68)))) ∧ (r30 = 43 → (xR ((M30 a 4) + 1)) ∧ (∀ M51 : xMe, M51 = xw M30 a 4 ((M30 a 4) + 1) → p_X12_term F PS a M51 (fun M55 => p_X12_emit a 2 M55 (fun M68 => p_X12_sum_4 F PS a Q k M68)))))))))))))))
def p_X12_sum (F : Nat) (PS : xMe → (xMe → Prop) → Prop) (a : Nat) (M : xMe) (Q : xMe → Prop) : Prop :=
  p_X12_term F PS a M (fun M1 => p_X12_sum_4 F PS a Q F M1)
set_option maxHeartbeats 4000000 in
set_option maxRecDepth 100000 in
theorem c_X12_sum {G : xGx} {t : xTh} {M : xMe} {dn : Nat} {F : Nat} {PS : xMe → (xMe → Prop) → Prop} {a : Nat} {Q : xMe → Prop} (hPS : ∀  (M : xMe) (Q : xMe → Prop), xMR M → PS  M Q → xCt G yX12_sum cX12_sum 2 none dn 0 0 [vr a] t M (fun v t' M' => v = none ∧ xMR M' ∧ t' = t ∧ Q M') (fun _ _ _ => False)) (hL : oX12 t a) (hM : xMR M)(hp : p_X12_sum F PS a M Q) : xCt G yX12_sum cX12_sum 2 none (dn + 14) 0 0 [vr a] t M (fun v t' M' => v = none ∧ xMR M' ∧ t' = t ∧ Q M') (fun _ _ _ => False) := by
  refine xCt_of (L0 := [vr a, vU]) (by decide +kernel) (Nat.le_of_ble_eq_true rfl) rfl ?_
  intro X hX hB
  unfold p_X12_sum at hp
  refine xJ_aload_n hX dX12_sum_0 rfl ?_
  refine xJ_callV (As := []) hX hB dX12_sum_1 lk_X12_132 im_X12_term se_X12_term rfl (by decide) (oX12_k hL) (c_X12_term hPS hL hM hp) (by omega) rfl rfl rfl (Nat.le_of_ble_eq_true rfl) (by decide) (by decide) (fun v t9 M1 hv => ?_) (fun _ _ _ q => q.elim)
  obtain ⟨rfl, hM1, ht9, hp⟩ := hv
  replace ht9 := ht9.symm
  subst ht9
  dsimp only [Option.toList, List.cons_append, List.nil_append]
  have lp4 : ∀ (k : Nat) (M : xMe) (hM : xMR M) (hp : p_X12_sum_4 F PS a Q k M), xJ X 0 0 t M 4 [vr a, vU] [] := by
    intro k
    induction k with
    | zero => intro M hM hp; exact hp.elim
    | succ k ih =>
      intro M hM hp
      unfold p_X12_sum_4 at hp
      refine xJ_aload_n hX dX12_sum_4 rfl ?_
      refine xJ_callV (As := []) hX hB dX12_sum_5 lk_X12_68 im_X12_isGood se_X12_isGood rfl (by decide) (oX12_k hL) (c_X12_isGood hL hM hp) (by omega) rfl rfl rfl (Nat.le_of_ble_eq_true rfl) (by decide) (by decide) (fun v t9 M5 hv => ?_) (fun _ _ _ q => q.elim)
      obtain ⟨r5, rfl, h5, hM5, ht9, hp⟩ := hv
      replace ht9 := ht9.symm
      subst ht9
      dsimp only [Option.toList, List.cons_append, List.nil_append]
      refine xJ_if_eq hX dX12_sum_8 (tgt := 74) (by decide) h5 (fun c8 => ?_) (fun c8 => ?_)
      · replace hp := hp.1 c8
        refine xJ_vret hX hB dX12_sum_74 (by decide) (by decide) ⟨rfl, hM5, rfl, hp⟩
      · replace hp := hp.2 c8
        refine xJ_aload_n hX dX12_sum_11 rfl ?_
        refine xJ_callV (As := []) hX hB dX12_sum_12 lk_X12_72 im_X12_next se_X12_next rfl (by decide) (oX12_k hL) (c_X12_next hL hM5 hp) (by omega) rfl rfl rfl (Nat.le_of_ble_eq_true rfl) (by decide) (by decide) (fun v t9 M12 hv => ?_) (fun _ _ _ q => q.elim)
        obtain ⟨r12, rfl, h12, hM12, ht9, hp⟩ := hv
        replace ht9 := ht9.symm
        subst ht9
        dsimp only [Option.toList, List.cons_append, List.nil_append]
        refine xJ_bipush hX dX12_sum_15 rfl ?_
        refine xJ_icmp_eq hX dX12_sum_17 (tgt := 29) (by decide) h12 ⟨by decide, by decide⟩ (fun c17 => ?_) (fun c17 => ?_)
        · replace hp := hp.1 c17
          refine xJ_aload_n hX dX12_sum_29 rfl ?_
          refine xJ_callV (As := []) hX hB dX12_sum_30 lk_X12_72 im_X12_next se_X12_next rfl (by decide) (oX12_k hL) (c_X12_next hL hM12 hp) (by omega) rfl rfl rfl (Nat.le_of_ble_eq_true rfl) (by decide) (by decide) (fun v t9 M30 hv => ?_) (fun _ _ _ q => q.elim)
          obtain ⟨r30, rfl, h30, hM30, ht9, hp⟩ := hv
          replace ht9 := ht9.symm
          subst ht9
          dsimp only [Option.toList, List.cons_append, List.nil_append]
          refine xJ_bipush hX dX12_sum_33 rfl ?_
          refine xJ_icmp_ne hX dX12_sum_35 (tgt := 42) (by decide) h30 ⟨by decide, by decide⟩ (fun c35 => ?_) (fun c35 => ?_)
          · replace hp := hp.1 c35
            refine xJ_iconst hX dX12_sum_42 ?_
            refine xJ_istore_n hX dX12_sum_43 (Nat.le_of_ble_eq_true rfl) rfl ?_
            dsimp only [List.set]
            refine xJ_aload_n hX dX12_sum_44 rfl ?_
            refine xJ_dup hX dX12_sum_45 rfl ?_
            refine xJ_getI hX dX12_sum_46 fd_X12_51 rfl (oX12_k hL) ?_
            refine xJ_iconst hX dX12_sum_49 ?_
            refine xJ_iadd hX dX12_sum_50 ?_
            obtain ⟨h50, hp⟩ := hp
            refine xJ_putIM hX dX12_sum_51 fd_X12_51 ft_X12 rfl rfl rfl rfl (oX12_k hL) hM30 h50 (fun M51 e51 hM51 => ?_)
            replace hp := hp M51 e51
            refine xJ_aload_n hX dX12_sum_54 rfl ?_
            refine xJ_callV (As := []) hX hB dX12_sum_55 lk_X12_132 im_X12_term se_X12_term rfl (by decide) (oX12_k hL) (c_X12_term hPS hL hM51 hp) (by omega) rfl rfl rfl (Nat.le_of_ble_eq_true rfl) (by decide) (by decide) (fun v t9 M55 hv => ?_) (fun _ _ _ q => q.elim)
            obtain ⟨rfl, hM55, ht9, hp⟩ := hv
            replace ht9 := ht9.symm
            subst ht9
            dsimp only [Option.toList, List.cons_append, List.nil_append]
            refine xJ_aload_n hX dX12_sum_58 rfl ?_
            refine xJ_iload_n hX dX12_sum_59 rfl ?_
            refine xJ_if_eq hX dX12_sum_60 (tgt := 67) (by decide) ⟨by decide, by decide⟩ (fun c60 => ?_) (fun c60 => ?_)
            rotate_left 1
            · exact absurd c60 (by decide)
            refine xJ_iconst hX dX12_sum_67 ?_
            refine xJ_callV (As := [_]) hX hB dX12_sum_68 lk_X12_126 im_X12_emit se_X12_emit rfl (by decide) (oX12_k hL) (c_X12_emit hL hM55 ⟨by decide, by decide⟩ hp) (by omega) rfl rfl rfl (Nat.le_of_ble_eq_true rfl) (by decide) (by decide) (fun v t9 M68 hv => ?_) (fun _ _ _ q => q.elim)
            obtain ⟨rfl, hM68, ht9, hp⟩ := hv
            replace ht9 := ht9.symm
            subst ht9
            dsimp only [Option.toList, List.cons_append, List.nil_append]
            refine xJ_goto hX dX12_sum_71 (tgt := 4) (by decide) ?_
            refine xJ_fg 1 ?_
            dsimp only [List.set]
            exact ih _ hM68 hp
          · replace hp := hp.2 c35
            refine xJ_iconst hX dX12_sum_38 ?_
            refine xJ_goto hX dX12_sum_39 (tgt := 43) (by decide) ?_
            refine xJ_istore_n hX dX12_sum_43 (Nat.le_of_ble_eq_true rfl) rfl ?_
            dsimp only [List.set]
            refine xJ_aload_n hX dX12_sum_44 rfl ?_
            refine xJ_dup hX dX12_sum_45 rfl ?_
            refine xJ_getI hX dX12_sum_46 fd_X12_51 rfl (oX12_k hL) ?_
            refine xJ_iconst hX dX12_sum_49 ?_
            refine xJ_iadd hX dX12_sum_50 ?_
            obtain ⟨h50, hp⟩ := hp
            refine xJ_putIM hX dX12_sum_51 fd_X12_51 ft_X12 rfl rfl rfl rfl (oX12_k hL) hM30 h50 (fun M51 e51 hM51 => ?_)
            replace hp := hp M51 e51
            refine xJ_aload_n hX dX12_sum_54 rfl ?_
            refine xJ_callV (As := []) hX hB dX12_sum_55 lk_X12_132 im_X12_term se_X12_term rfl (by decide) (oX12_k hL) (c_X12_term hPS hL hM51 hp) (by omega) rfl rfl rfl (Nat.le_of_ble_eq_true rfl) (by decide) (by decide) (fun v t9 M55 hv => ?_) (fun _ _ _ q => q.elim)
            obtain ⟨rfl, hM55, ht9, hp⟩ := hv
            replace ht9 := ht9.symm
            subst ht9
            dsimp only [Option.toList, List.cons_append, List.nil_append]
            refine xJ_aload_n hX dX12_sum_58 rfl ?_
            refine xJ_iload_n hX dX12_sum_59 rfl ?_
            refine xJ_if_eq hX dX12_sum_60 (tgt := 67) (by decide) ⟨by decide, by decide⟩ (fun c60 => ?_) (fun c60 => ?_)
            · exact absurd c60 (by decide)
            refine xJ_iconst hX dX12_sum_63 ?_
            refine xJ_goto hX dX12_sum_64 (tgt := 68) (by decide) ?_
            refine xJ_callV (As := [_]) hX hB dX12_sum_68 lk_X12_126 im_X12_emit se_X12_emit rfl (by decide) (oX12_k hL) (c_X12_emit hL hM55 ⟨by decide, by decide⟩ hp) (by omega) rfl rfl rfl (Nat.le_of_ble_eq_true rfl) (by decide) (by decide) (fun v t9 M68 hv => ?_) (fun _ _ _ q => q.elim)
            obtain ⟨rfl, hM68, ht9, hp⟩ := hv
            replace ht9 := ht9.symm
            subst ht9
            dsimp only [Option.toList, List.cons_append, List.nil_append]
            refine xJ_goto hX dX12_sum_71 (tgt := 4) (by decide) ?_
            refine xJ_fg 1 ?_
            dsimp only [List.set]
            exact ih _ hM68 hp
        · replace hp := hp.2 c17
          refine xJ_aload_n hX dX12_sum_20 rfl ?_
          refine xJ_callV (As := []) hX hB dX12_sum_21 lk_X12_72 im_X12_next se_X12_next rfl (by decide) (oX12_k hL) (c_X12_next hL hM12 hp) (by omega) rfl rfl rfl (Nat.le_of_ble_eq_true rfl) (by decide) (by decide) (fun v t9 M21 hv => ?_) (fun _ _ _ q => q.elim)
          obtain ⟨r21, rfl, h21, hM21, ht9, hp⟩ := hv
          replace ht9 := ht9.symm
          subst ht9
          dsimp only [Option.toList, List.cons_append, List.nil_append]
          refine xJ_bipush hX dX12_sum_24 rfl ?_
          refine xJ_icmp_ne hX dX12_sum_26 (tgt := 74) (by decide) h21 ⟨by decide, by decide⟩ (fun c26 => ?_) (fun c26 => ?_)
          · replace hp := hp.1 c26
            refine xJ_vret hX hB dX12_sum_74 (by decide) (by decide) ⟨rfl, hM21, rfl, hp⟩
          · replace hp := hp.2 c26
            refine xJ_aload_n hX dX12_sum_29 rfl ?_
            refine xJ_callV (As := []) hX hB dX12_sum_30 lk_X12_72 im_X12_next se_X12_next rfl (by decide) (oX12_k hL) (c_X12_next hL hM21 hp) (by omega) rfl rfl rfl (Nat.le_of_ble_eq_true rfl) (by decide) (by decide) (fun v t9 M30 hv => ?_) (fun _ _ _ q => q.elim)
            obtain ⟨r30, rfl, h30, hM30, ht9, hp⟩ := hv
            replace ht9 := ht9.symm
            subst ht9
            dsimp only [Option.toList, List.cons_append, List.nil_append]
            refine xJ_bipush hX dX12_sum_33 rfl ?_
            refine xJ_icmp_ne hX dX12_sum_35 (tgt := 42) (by decide) h30 ⟨by decide, by decide⟩ (fun c35 => ?_) (fun c35 => ?_)
            · replace hp := hp.1 c35
              refine xJ_iconst hX dX12_sum_42 ?_
              refine xJ_istore_n hX dX12_sum_43 (Nat.le_of_ble_eq_true rfl) rfl ?_
              dsimp only [List.set]
              refine xJ_aload_n hX dX12_sum_44 rfl ?_
              refine xJ_dup hX dX12_sum_45 rfl ?_
              refine xJ_getI hX dX12_sum_46 fd_X12_51 rfl (oX12_k hL) ?_
              refine xJ_iconst hX dX12_sum_49 ?_
              refine xJ_iadd hX dX12_sum_50 ?_
              obtain ⟨h50, hp⟩ := hp
              refine xJ_putIM hX dX12_sum_51 fd_X12_51 ft_X12 rfl rfl rfl rfl (oX12_k hL) hM30 h50 (fun M51 e51 hM51 => ?_)
              replace hp := hp M51 e51
              refine xJ_aload_n hX dX12_sum_54 rfl ?_
              refine xJ_callV (As := []) hX hB dX12_sum_55 lk_X12_132 im_X12_term se_X12_term rfl (by decide) (oX12_k hL) (c_X12_term hPS hL hM51 hp) (by omega) rfl rfl rfl (Nat.le_of_ble_eq_true rfl) (by decide) (by decide) (fun v t9 M55 hv => ?_) (fun _ _ _ q => q.elim)
              obtain ⟨rfl, hM55, ht9, hp⟩ := hv
              replace ht9 := ht9.symm
              subst ht9
              dsimp only [Option.toList, List.cons_append, List.nil_append]
              refine xJ_aload_n hX dX12_sum_58 rfl ?_
              refine xJ_iload_n hX dX12_sum_59 rfl ?_
              refine xJ_if_eq hX dX12_sum_60 (tgt := 67) (by decide) ⟨by decide, by decide⟩ (fun c60 => ?_) (fun c60 => ?_)
              rotate_left 1
              · exact absurd c60 (by decide)
              refine xJ_iconst hX dX12_sum_67 ?_
              refine xJ_callV (As := [_]) hX hB dX12_sum_68 lk_X12_126 im_X12_emit se_X12_emit rfl (by decide) (oX12_k hL) (c_X12_emit hL hM55 ⟨by decide, by decide⟩ hp) (by omega) rfl rfl rfl (Nat.le_of_ble_eq_true rfl) (by decide) (by decide) (fun v t9 M68 hv => ?_) (fun _ _ _ q => q.elim)
              obtain ⟨rfl, hM68, ht9, hp⟩ := hv
              replace ht9 := ht9.symm
              subst ht9
              dsimp only [Option.toList, List.cons_append, List.nil_append]
              refine xJ_goto hX dX12_sum_71 (tgt := 4) (by decide) ?_
              refine xJ_fg 1 ?_
              dsimp only [List.set]
              exact ih _ hM68 hp
            · replace hp := hp.2 c35
              refine xJ_iconst hX dX12_sum_38 ?_
              refine xJ_goto hX dX12_sum_39 (tgt := 43) (by decide) ?_
              refine xJ_istore_n hX dX12_sum_43 (Nat.le_of_ble_eq_true rfl) rfl ?_
              dsimp only [List.set]
              refine xJ_aload_n hX dX12_sum_44 rfl ?_
              refine xJ_dup hX dX12_sum_45 rfl ?_
              refine xJ_getI hX dX12_sum_46 fd_X12_51 rfl (oX12_k hL) ?_
              refine xJ_iconst hX dX12_sum_49 ?_
              refine xJ_iadd hX dX12_sum_50 ?_
              obtain ⟨h50, hp⟩ := hp
              refine xJ_putIM hX dX12_sum_51 fd_X12_51 ft_X12 rfl rfl rfl rfl (oX12_k hL) hM30 h50 (fun M51 e51 hM51 => ?_)
              replace hp := hp M51 e51
              refine xJ_aload_n hX dX12_sum_54 rfl ?_
              refine xJ_callV (As := []) hX hB dX12_sum_55 lk_X12_132 im_X12_term se_X12_term rfl (by decide) (oX12_k hL) (c_X12_term hPS hL hM51 hp) (by omega) rfl rfl rfl (Nat.le_of_ble_eq_true rfl) (by decide) (by decide) (fun v t9 M55 hv => ?_) (fun _ _ _ q => q.elim)
              obtain ⟨rfl, hM55, ht9, hp⟩ := hv
              replace ht9 := ht9.symm
              subst ht9
              dsimp only [Option.toList, List.cons_append, List.nil_append]
              refine xJ_aload_n hX dX12_sum_58 rfl ?_
              refine xJ_iload_n hX dX12_sum_59 rfl ?_
              refine xJ_if_eq hX dX12_sum_60 (tgt := 67) (by decide) ⟨by decide, by decide⟩ (fun c60 => ?_) (fun c60 => ?_)
              · exact absurd c60 (by decide)
              refine xJ_iconst hX dX12_sum_63 ?_
              refine xJ_goto hX dX12_sum_64 (tgt := 68) (by decide) ?_
              refine xJ_callV (As := [_]) hX hB dX12_sum_68 lk_X12_126 im_X12_emit se_X12_emit rfl (by decide) (oX12_k hL) (c_X12_emit hL hM55 ⟨by decide, by decide⟩ hp) (by omega) rfl rfl rfl (Nat.le_of_ble_eq_true rfl) (by decide) (by decide) (fun v t9 M68 hv => ?_) (fun _ _ _ q => q.elim)
              obtain ⟨rfl, hM68, ht9, hp⟩ := hv
              replace ht9 := ht9.symm
              subst ht9
              dsimp only [Option.toList, List.cons_append, List.nil_append]
              refine xJ_goto hX dX12_sum_71 (tgt := 4) (by decide) ?_
              refine xJ_fg 1 ?_
              dsimp only [List.set]
              exact ih _ hM68 hp
  refine lp4 F _ hM1 hp
def p_X12_sumR (F a : Nat) : Nat → xMe → (xMe → Prop) → Prop
  | 0, _, _ => False
  | k + 1, M, Q => p_X12_sum F (p_X12_sumR F a k) a  M Q
theorem c_X12_sumR {G : xGx} {t : xTh} {F a : Nat} (hL : oX12 t a) : ∀ (k : Nat)  (M : xMe) (Q : xMe → Prop), xMR M → p_X12_sumR F a k  M Q → xCt G yX12_sum cX12_sum 2 none (14 * k) 0 0 [vr a] t M (fun v t' M' => v = none ∧ xMR M' ∧ t' = t ∧ Q M') (fun _ _ _ => False)
  | 0, _, _, _, hp => hp.elim
  | k + 1, M, Q, hM, hp => c_X12_sum (c_X12_sumR hL k) hL hM  hp
def p_X12_statement (F : Nat) (a : Nat) (M : xMe) (Q : xMe → Prop) : Prop :=
  p_X12_next F a M (fun r1 M1 => (∀ z9 : Int, z9 = M1 a 4 → p_X12_takeWord F a 1 M1 (fun r13 M13 => ((r13 = 0 → p_X12_takeWord F a 2 M13 (fun r30 M30 => ((r30 = 0 → p_X12_takeWord F a 3 M30 (fun r47 M47 => ((r47 = 0 → p_X12_takeWord F a 4 M47 (fun r64 M64 => ((r64 = 0 → p_X12_takeWord F a 5 M64 (fun r81 M81 => ((r81 = 0 → p_X12_takeWord F a 6 M81 (fun r113 M113 => ((r113 = 0 → p_X12_takeWord F a 7 M113 (fun r160 M160 => ((r160 = 0 → p_X12_report a ((-2)) z9 M160 (fun M191 => p_X12_expect F a 59 M191 (fun M197 => Q M197))) ∧ (r160 ≠ 0 → p_X12_once a 2 z9 M160 (fun M169 => ((0 : Int) ≤ 12 ∧ (12 : Int) < 2105) ∧ (∀ M179 : xMe, M179 = xw M169 (a + 3) 12 1 → p_X12_sumR F a 8 M179 (fun M181 => p_X12_expect F a 59 M181 (fun M197 => Q M197)))))))) ∧ (r113 ≠ 0 → p_X12_once a 1 z9 M113 (fun M122 => p_X12_number F a 0 100 M122 (fun r135 M135 => ((0 : Int) ≤ 10 ∧ (10 : Int) < 2105) ∧ (∀ M138 : xMe, M138 = xw M135 (a + 3) 10 r135 → p_X12_number F a 1 999 M138 (fun r150 M150 => ((0 : Int) ≤ 11 ∧ (11 : Int) < 2105) ∧ (∀ M153 : xMe, M153 = xw M150 (a + 3) 11 r150 → p_X12_expect F a 59 M153 (fun M197 => Q M197)))))))))) ∧ (r81 ≠ 0 → p_X12_once a 0 z9 M81 (fun M90 => p_X12_number F a 0 99 M90 (fun r103 M103 => ((0 : Int) ≤ 9 ∧ (9 : Int) < 2105) ∧ (∀ M106 : xMe, M106 = xw M103 (a + 3) 9 r103 → p_X12_expect F a 59 M106 (fun M197 => Q M197)))))))) ∧ (r64 ≠ 0 → p_X12_readCoupon F a z9 M64 (fun M72 => p_X12_expect F a 59 M72 (fun M197 => Q M197)))))) ∧ (r47 ≠ 0 → p_X12_readPacket F a z9 M47 (fun M55 => p_X12_expect F a 59 M55 (fun M197 => Q M197)))))) ∧ (r30 ≠ 0 → p_X12_readFlow F a z9 M30 (fun M38 => p_X12_expect F a 59 M38 (fun M197 => Q M197)))))) ∧ (r13 ≠ 0 → p_X12_readGate F a z9 M13 (fun M21 => p_X12_expect F a 59 M21 (fun M197 => Q M197)))))))
set_option maxHeartbeats 4000000 in
set_option maxRecDepth 100000 in
theorem c_X12_statement {G : xGx} {t : xTh} {M : xMe} {F : Nat} {a : Nat} {Q : xMe → Prop} (hL : oX12 t a) (hM : xMR M)(hp : p_X12_statement F a M Q) : xCt G yX12_statement cX12_statement 2 none 113 0 0 [vr a] t M (fun v t' M' => v = none ∧ xMR M' ∧ t' = t ∧ Q M') (fun _ _ _ => False) := by
  refine xCt_of (L0 := [vr a, vU]) (by decide +kernel) (Nat.le_of_ble_eq_true rfl) rfl ?_
  intro X hX hB
  unfold p_X12_statement at hp
  refine xJ_aload_n hX dX12_statement_0 rfl ?_
  refine xJ_callV (As := []) hX hB dX12_statement_1 lk_X12_72 im_X12_next se_X12_next rfl (by decide) (oX12_k hL) (c_X12_next hL hM hp) (by decide) rfl rfl rfl (Nat.le_of_ble_eq_true rfl) (by decide) (by decide) (fun v t9 M1 hv => ?_) (fun _ _ _ q => q.elim)
  obtain ⟨r1, rfl, h1, hM1, ht9, hp⟩ := hv
  replace ht9 := ht9.symm
  subst ht9
  dsimp only [Option.toList, List.cons_append, List.nil_append]
  refine xJ_pop hX dX12_statement_4 rfl ?_
  refine xJ_aload_n hX dX12_statement_5 rfl ?_
  refine xJ_getI hX dX12_statement_6 fd_X12_51 rfl (oX12_k hL) ?_
  refine xJ_istore_n hX dX12_statement_9 (Nat.le_of_ble_eq_true rfl) rfl ?_
  dsimp only [List.set]
  replace hp := hp _ rfl
  refine xJ_aload_n hX dX12_statement_10 rfl ?_
  refine xJ_ldcS 1 hX dX12_statement_11 (by decide +kernel) ?_
  refine xJ_callV (As := [_]) hX hB dX12_statement_13 lk_X12_113 im_X12_takeWord se_X12_takeWord rfl (by decide) (oX12_k hL) (c_X12_takeWord hL (by decide) hM1 hp) (by decide) rfl rfl rfl (Nat.le_of_ble_eq_true rfl) (by decide) (by decide) (fun v t9 M13 hv => ?_) (fun _ _ _ q => q.elim)
  obtain ⟨r13, rfl, h13, hM13, ht9, hp⟩ := hv
  replace ht9 := ht9.symm
  subst ht9
  dsimp only [Option.toList, List.cons_append, List.nil_append]
  refine xJ_if_eq hX dX12_statement_16 (tgt := 27) (by decide) h13 (fun c16 => ?_) (fun c16 => ?_)
  · replace hp := hp.1 c16
    refine xJ_aload_n hX dX12_statement_27 rfl ?_
    refine xJ_ldcS 2 hX dX12_statement_28 (by decide +kernel) ?_
    refine xJ_callV (As := [_]) hX hB dX12_statement_30 lk_X12_113 im_X12_takeWord se_X12_takeWord rfl (by decide) (oX12_k hL) (c_X12_takeWord hL (by decide) hM13 hp) (by decide) rfl rfl rfl (Nat.le_of_ble_eq_true rfl) (by decide) (by decide) (fun v t9 M30 hv => ?_) (fun _ _ _ q => q.elim)
    obtain ⟨r30, rfl, h30, hM30, ht9, hp⟩ := hv
    replace ht9 := ht9.symm
    subst ht9
    dsimp only [Option.toList, List.cons_append, List.nil_append]
    refine xJ_if_eq hX dX12_statement_33 (tgt := 44) (by decide) h30 (fun c33 => ?_) (fun c33 => ?_)
    · replace hp := hp.1 c33
      refine xJ_aload_n hX dX12_statement_44 rfl ?_
      refine xJ_ldcS 3 hX dX12_statement_45 (by decide +kernel) ?_
      refine xJ_callV (As := [_]) hX hB dX12_statement_47 lk_X12_113 im_X12_takeWord se_X12_takeWord rfl (by decide) (oX12_k hL) (c_X12_takeWord hL (by decide) hM30 hp) (by decide) rfl rfl rfl (Nat.le_of_ble_eq_true rfl) (by decide) (by decide) (fun v t9 M47 hv => ?_) (fun _ _ _ q => q.elim)
      obtain ⟨r47, rfl, h47, hM47, ht9, hp⟩ := hv
      replace ht9 := ht9.symm
      subst ht9
      dsimp only [Option.toList, List.cons_append, List.nil_append]
      refine xJ_if_eq hX dX12_statement_50 (tgt := 61) (by decide) h47 (fun c50 => ?_) (fun c50 => ?_)
      · replace hp := hp.1 c50
        refine xJ_aload_n hX dX12_statement_61 rfl ?_
        refine xJ_ldcS 4 hX dX12_statement_62 (by decide +kernel) ?_
        refine xJ_callV (As := [_]) hX hB dX12_statement_64 lk_X12_113 im_X12_takeWord se_X12_takeWord rfl (by decide) (oX12_k hL) (c_X12_takeWord hL (by decide) hM47 hp) (by decide) rfl rfl rfl (Nat.le_of_ble_eq_true rfl) (by decide) (by decide) (fun v t9 M64 hv => ?_) (fun _ _ _ q => q.elim)
        obtain ⟨r64, rfl, h64, hM64, ht9, hp⟩ := hv
        replace ht9 := ht9.symm
        subst ht9
        dsimp only [Option.toList, List.cons_append, List.nil_append]
        refine xJ_if_eq hX dX12_statement_67 (tgt := 78) (by decide) h64 (fun c67 => ?_) (fun c67 => ?_)
        · replace hp := hp.1 c67
          refine xJ_aload_n hX dX12_statement_78 rfl ?_
          refine xJ_ldcS 5 hX dX12_statement_79 (by decide +kernel) ?_
          refine xJ_callV (As := [_]) hX hB dX12_statement_81 lk_X12_113 im_X12_takeWord se_X12_takeWord rfl (by decide) (oX12_k hL) (c_X12_takeWord hL (by decide) hM64 hp) (by decide) rfl rfl rfl (Nat.le_of_ble_eq_true rfl) (by decide) (by decide) (fun v t9 M81 hv => ?_) (fun _ _ _ q => q.elim)
          obtain ⟨r81, rfl, h81, hM81, ht9, hp⟩ := hv
          replace ht9 := ht9.symm
          subst ht9
          dsimp only [Option.toList, List.cons_append, List.nil_append]
          refine xJ_if_eq hX dX12_statement_84 (tgt := 110) (by decide) h81 (fun c84 => ?_) (fun c84 => ?_)
          · replace hp := hp.1 c84
            refine xJ_aload_n hX dX12_statement_110 rfl ?_
            refine xJ_ldcS 6 hX dX12_statement_111 (by decide +kernel) ?_
            refine xJ_callV (As := [_]) hX hB dX12_statement_113 lk_X12_113 im_X12_takeWord se_X12_takeWord rfl (by decide) (oX12_k hL) (c_X12_takeWord hL (by decide) hM81 hp) (by decide) rfl rfl rfl (Nat.le_of_ble_eq_true rfl) (by decide) (by decide) (fun v t9 M113 hv => ?_) (fun _ _ _ q => q.elim)
            obtain ⟨r113, rfl, h113, hM113, ht9, hp⟩ := hv
            replace ht9 := ht9.symm
            subst ht9
            dsimp only [Option.toList, List.cons_append, List.nil_append]
            refine xJ_if_eq hX dX12_statement_116 (tgt := 157) (by decide) h113 (fun c116 => ?_) (fun c116 => ?_)
            · replace hp := hp.1 c116
              refine xJ_aload_n hX dX12_statement_157 rfl ?_
              refine xJ_ldcS 7 hX dX12_statement_158 (by decide +kernel) ?_
              refine xJ_callV (As := [_]) hX hB dX12_statement_160 lk_X12_113 im_X12_takeWord se_X12_takeWord rfl (by decide) (oX12_k hL) (c_X12_takeWord hL (by decide) hM113 hp) (by decide) rfl rfl rfl (Nat.le_of_ble_eq_true rfl) (by decide) (by decide) (fun v t9 M160 hv => ?_) (fun _ _ _ q => q.elim)
              obtain ⟨r160, rfl, h160, hM160, ht9, hp⟩ := hv
              replace ht9 := ht9.symm
              subst ht9
              dsimp only [Option.toList, List.cons_append, List.nil_append]
              refine xJ_if_eq hX dX12_statement_163 (tgt := 187) (by decide) h160 (fun c163 => ?_) (fun c163 => ?_)
              · replace hp := hp.1 c163
                refine xJ_aload_n hX dX12_statement_187 rfl ?_
                refine xJ_bipush hX dX12_statement_188 rfl ?_
                refine xJ_iload_n hX dX12_statement_190 rfl ?_
                refine xJ_callV (As := [_, _]) hX hB dX12_statement_191 lk_X12_85 im_X12_report se_X12_report rfl (by decide) (oX12_k hL) (c_X12_report hL hM160 ⟨by decide, by decide⟩ (hM1 _ _) hp) (by decide) rfl rfl rfl (Nat.le_of_ble_eq_true rfl) (by decide) (by decide) (fun v t9 M191 hv => ?_) (fun _ _ _ q => q.elim)
                obtain ⟨rfl, hM191, ht9, hp⟩ := hv
                replace ht9 := ht9.symm
                subst ht9
                dsimp only [Option.toList, List.cons_append, List.nil_append]
                refine xJ_aload_n hX dX12_statement_194 rfl ?_
                refine xJ_bipush hX dX12_statement_195 rfl ?_
                refine xJ_callV (As := [_]) hX hB dX12_statement_197 lk_X12_107 im_X12_expect se_X12_expect rfl (by decide) (oX12_k hL) (c_X12_expect hL hM191 ⟨by decide, by decide⟩ hp) (by decide) rfl rfl rfl (Nat.le_of_ble_eq_true rfl) (by decide) (by decide) (fun v t9 M197 hv => ?_) (fun _ _ _ q => q.elim)
                obtain ⟨rfl, hM197, ht9, hp⟩ := hv
                replace ht9 := ht9.symm
                subst ht9
                dsimp only [Option.toList, List.cons_append, List.nil_append]
                refine xJ_vret hX hB dX12_statement_200 (by decide) (by decide) ⟨rfl, hM197, rfl, hp⟩
              · replace hp := hp.2 c163
                refine xJ_aload_n hX dX12_statement_166 rfl ?_
                refine xJ_iconst hX dX12_statement_167 ?_
                refine xJ_iload_n hX dX12_statement_168 rfl ?_
                refine xJ_callV (As := [_, _]) hX hB dX12_statement_169 lk_X12_171 im_X12_once se_X12_once rfl (by decide) (oX12_k hL) (c_X12_once hL hM160 ⟨by decide, by decide⟩ (hM1 _ _) hp) (by decide) rfl rfl rfl (Nat.le_of_ble_eq_true rfl) (by decide) (by decide) (fun v t9 M169 hv => ?_) (fun _ _ _ q => q.elim)
                obtain ⟨rfl, hM169, ht9, hp⟩ := hv
                replace ht9 := ht9.symm
                subst ht9
                dsimp only [Option.toList, List.cons_append, List.nil_append]
                refine xJ_aload_n hX dX12_statement_172 rfl ?_
                refine xJ_getR (b := (a + 3)) hX dX12_statement_173 fd_X12_20 rfl (oX12_k hL) (oX12_r9 hL) ?_
                refine xJ_bipush hX dX12_statement_176 rfl ?_
                refine xJ_iconst hX dX12_statement_178 ?_
                obtain ⟨h179, hp⟩ := hp
                refine xJ_iastM hX dX12_statement_179 (oX12_k9 hL) h179.1 (xnlt (oX12_n9 hL) h179.2) hM169 ⟨by decide, by decide⟩ (fun M179 e179 hM179 => ?_)
                replace hp := hp M179 e179
                refine xJ_aload_n hX dX12_statement_180 rfl ?_
                refine xJ_callV (As := []) hX hB dX12_statement_181 lk_X12_104 im_X12_sum se_X12_sum rfl (by decide) (oX12_k hL) (c_X12_sumR hL 8 _ _  hM179 hp) (by decide) rfl rfl rfl (Nat.le_of_ble_eq_true rfl) (by decide) (by decide) (fun v t9 M181 hv => ?_) (fun _ _ _ q => q.elim)
                obtain ⟨rfl, hM181, ht9, hp⟩ := hv
                replace ht9 := ht9.symm
                subst ht9
                dsimp only [Option.toList, List.cons_append, List.nil_append]
                refine xJ_goto hX dX12_statement_184 (tgt := 194) (by decide) ?_
                refine xJ_aload_n hX dX12_statement_194 rfl ?_
                refine xJ_bipush hX dX12_statement_195 rfl ?_
                refine xJ_callV (As := [_]) hX hB dX12_statement_197 lk_X12_107 im_X12_expect se_X12_expect rfl (by decide) (oX12_k hL) (c_X12_expect hL hM181 ⟨by decide, by decide⟩ hp) (by decide) rfl rfl rfl (Nat.le_of_ble_eq_true rfl) (by decide) (by decide) (fun v t9 M197 hv => ?_) (fun _ _ _ q => q.elim)
                obtain ⟨rfl, hM197, ht9, hp⟩ := hv
                replace ht9 := ht9.symm
                subst ht9
                dsimp only [Option.toList, List.cons_append, List.nil_append]
                refine xJ_vret hX hB dX12_statement_200 (by decide) (by decide) ⟨rfl, hM197, rfl, hp⟩
            · replace hp := hp.2 c116
              refine xJ_aload_n hX dX12_statement_119 rfl ?_
              refine xJ_iconst hX dX12_statement_120 ?_
              refine xJ_iload_n hX dX12_statement_121 rfl ?_
              refine xJ_callV (As := [_, _]) hX hB dX12_statement_122 lk_X12_171 im_X12_once se_X12_once rfl (by decide) (oX12_k hL) (c_X12_once hL hM113 ⟨by decide, by decide⟩ (hM1 _ _) hp) (by decide) rfl rfl rfl (Nat.le_of_ble_eq_true rfl) (by decide) (by decide) (fun v t9 M122 hv => ?_) (fun _ _ _ q => q.elim)
              obtain ⟨rfl, hM122, ht9, hp⟩ := hv
              replace ht9 := ht9.symm
              subst ht9
              dsimp only [Option.toList, List.cons_append, List.nil_append]
              refine xJ_aload_n hX dX12_statement_125 rfl ?_
              refine xJ_getR (b := (a + 3)) hX dX12_statement_126 fd_X12_20 rfl (oX12_k hL) (oX12_r9 hL) ?_
              refine xJ_bipush hX dX12_statement_129 rfl ?_
              refine xJ_aload_n hX dX12_statement_131 rfl ?_
              refine xJ_iconst hX dX12_statement_132 ?_
              refine xJ_bipush hX dX12_statement_133 rfl ?_
              refine xJ_callV (As := [_, _]) hX hB dX12_statement_135 lk_X12_123 im_X12_number se_X12_number rfl (by decide) (oX12_k hL) (c_X12_number hL hM122 ⟨by decide, by decide⟩ ⟨by decide, by decide⟩ hp) (by decide) rfl rfl rfl (Nat.le_of_ble_eq_true rfl) (by decide) (by decide) (fun v t9 M135 hv => ?_) (fun _ _ _ q => q.elim)
              obtain ⟨r135, rfl, h135, hM135, ht9, hp⟩ := hv
              replace ht9 := ht9.symm
              subst ht9
              dsimp only [Option.toList, List.cons_append, List.nil_append]
              obtain ⟨h138, hp⟩ := hp
              refine xJ_iastM hX dX12_statement_138 (oX12_k9 hL) h138.1 (xnlt (oX12_n9 hL) h138.2) hM135 h135 (fun M138 e138 hM138 => ?_)
              replace hp := hp M138 e138
              refine xJ_aload_n hX dX12_statement_139 rfl ?_
              refine xJ_getR (b := (a + 3)) hX dX12_statement_140 fd_X12_20 rfl (oX12_k hL) (oX12_r9 hL) ?_
              refine xJ_bipush hX dX12_statement_143 rfl ?_
              refine xJ_aload_n hX dX12_statement_145 rfl ?_
              refine xJ_iconst hX dX12_statement_146 ?_
              refine xJ_sipush hX dX12_statement_147 rfl ?_
              refine xJ_callV (As := [_, _]) hX hB dX12_statement_150 lk_X12_123 im_X12_number se_X12_number rfl (by decide) (oX12_k hL) (c_X12_number hL hM138 ⟨by decide, by decide⟩ ⟨by decide, by decide⟩ hp) (by decide) rfl rfl rfl (Nat.le_of_ble_eq_true rfl) (by decide) (by decide) (fun v t9 M150 hv => ?_) (fun _ _ _ q => q.elim)
              obtain ⟨r150, rfl, h150, hM150, ht9, hp⟩ := hv
              replace ht9 := ht9.symm
              subst ht9
              dsimp only [Option.toList, List.cons_append, List.nil_append]
              obtain ⟨h153, hp⟩ := hp
              refine xJ_iastM hX dX12_statement_153 (oX12_k9 hL) h153.1 (xnlt (oX12_n9 hL) h153.2) hM150 h150 (fun M153 e153 hM153 => ?_)
              replace hp := hp M153 e153
              refine xJ_goto hX dX12_statement_154 (tgt := 194) (by decide) ?_
              refine xJ_aload_n hX dX12_statement_194 rfl ?_
              refine xJ_bipush hX dX12_statement_195 rfl ?_
              refine xJ_callV (As := [_]) hX hB dX12_statement_197 lk_X12_107 im_X12_expect se_X12_expect rfl (by decide) (oX12_k hL) (c_X12_expect hL hM153 ⟨by decide, by decide⟩ hp) (by decide) rfl rfl rfl (Nat.le_of_ble_eq_true rfl) (by decide) (by decide) (fun v t9 M197 hv => ?_) (fun _ _ _ q => q.elim)
              obtain ⟨rfl, hM197, ht9, hp⟩ := hv
              replace ht9 := ht9.symm
              subst ht9
              dsimp only [Option.toList, List.cons_append, List.nil_append]
              refine xJ_vret hX hB dX12_statement_200 (by decide) (by decide) ⟨rfl, hM197, rfl, hp⟩
          · replace hp := hp.2 c84
            refine xJ_aload_n hX dX12_statement_87 rfl ?_
            refine xJ_iconst hX dX12_statement_88 ?_
            refine xJ_iload_n hX dX12_statement_89 rfl ?_
            refine xJ_callV (As := [_, _]) hX hB dX12_statement_90 lk_X12_171 im_X12_once se_X12_once rfl (by decide) (oX12_k hL) (c_X12_once hL hM81 ⟨by decide, by decide⟩ (hM1 _ _) hp) (by decide) rfl rfl rfl (Nat.le_of_ble_eq_true rfl) (by decide) (by decide) (fun v t9 M90 hv => ?_) (fun _ _ _ q => q.elim)
            obtain ⟨rfl, hM90, ht9, hp⟩ := hv
            replace ht9 := ht9.symm
            subst ht9
            dsimp only [Option.toList, List.cons_append, List.nil_append]
            refine xJ_aload_n hX dX12_statement_93 rfl ?_
            refine xJ_getR (b := (a + 3)) hX dX12_statement_94 fd_X12_20 rfl (oX12_k hL) (oX12_r9 hL) ?_
            refine xJ_bipush hX dX12_statement_97 rfl ?_
            refine xJ_aload_n hX dX12_statement_99 rfl ?_
            refine xJ_iconst hX dX12_statement_100 ?_
            refine xJ_bipush hX dX12_statement_101 rfl ?_
            refine xJ_callV (As := [_, _]) hX hB dX12_statement_103 lk_X12_123 im_X12_number se_X12_number rfl (by decide) (oX12_k hL) (c_X12_number hL hM90 ⟨by decide, by decide⟩ ⟨by decide, by decide⟩ hp) (by decide) rfl rfl rfl (Nat.le_of_ble_eq_true rfl) (by decide) (by decide) (fun v t9 M103 hv => ?_) (fun _ _ _ q => q.elim)
            obtain ⟨r103, rfl, h103, hM103, ht9, hp⟩ := hv
            replace ht9 := ht9.symm
            subst ht9
            dsimp only [Option.toList, List.cons_append, List.nil_append]
            obtain ⟨h106, hp⟩ := hp
            refine xJ_iastM hX dX12_statement_106 (oX12_k9 hL) h106.1 (xnlt (oX12_n9 hL) h106.2) hM103 h103 (fun M106 e106 hM106 => ?_)
            replace hp := hp M106 e106
            refine xJ_goto hX dX12_statement_107 (tgt := 194) (by decide) ?_
            refine xJ_aload_n hX dX12_statement_194 rfl ?_
            refine xJ_bipush hX dX12_statement_195 rfl ?_
            refine xJ_callV (As := [_]) hX hB dX12_statement_197 lk_X12_107 im_X12_expect se_X12_expect rfl (by decide) (oX12_k hL) (c_X12_expect hL hM106 ⟨by decide, by decide⟩ hp) (by decide) rfl rfl rfl (Nat.le_of_ble_eq_true rfl) (by decide) (by decide) (fun v t9 M197 hv => ?_) (fun _ _ _ q => q.elim)
            obtain ⟨rfl, hM197, ht9, hp⟩ := hv
            replace ht9 := ht9.symm
            subst ht9
            dsimp only [Option.toList, List.cons_append, List.nil_append]
            refine xJ_vret hX hB dX12_statement_200 (by decide) (by decide) ⟨rfl, hM197, rfl, hp⟩
        · replace hp := hp.2 c67
          refine xJ_aload_n hX dX12_statement_70 rfl ?_
          refine xJ_iload_n hX dX12_statement_71 rfl ?_
          refine xJ_callV (As := [_]) hX hB dX12_statement_72 lk_X12_166 im_X12_readCoupon se_X12_readCoupon rfl (by decide) (oX12_k hL) (c_X12_readCoupon hL hM64 (hM1 _ _) hp) (by decide) rfl rfl rfl (Nat.le_of_ble_eq_true rfl) (by decide) (by decide) (fun v t9 M72 hv => ?_) (fun _ _ _ q => q.elim)
          obtain ⟨rfl, hM72, ht9, hp⟩ := hv
          replace ht9 := ht9.symm
          subst ht9
          dsimp only [Option.toList, List.cons_append, List.nil_append]
          refine xJ_goto hX dX12_statement_75 (tgt := 194) (by decide) ?_
          refine xJ_aload_n hX dX12_statement_194 rfl ?_
          refine xJ_bipush hX dX12_statement_195 rfl ?_
          refine xJ_callV (As := [_]) hX hB dX12_statement_197 lk_X12_107 im_X12_expect se_X12_expect rfl (by decide) (oX12_k hL) (c_X12_expect hL hM72 ⟨by decide, by decide⟩ hp) (by decide) rfl rfl rfl (Nat.le_of_ble_eq_true rfl) (by decide) (by decide) (fun v t9 M197 hv => ?_) (fun _ _ _ q => q.elim)
          obtain ⟨rfl, hM197, ht9, hp⟩ := hv
          replace ht9 := ht9.symm
          subst ht9
          dsimp only [Option.toList, List.cons_append, List.nil_append]
          refine xJ_vret hX hB dX12_statement_200 (by decide) (by decide) ⟨rfl, hM197, rfl, hp⟩
      · replace hp := hp.2 c50
        refine xJ_aload_n hX dX12_statement_53 rfl ?_
        refine xJ_iload_n hX dX12_statement_54 rfl ?_
        refine xJ_callV (As := [_]) hX hB dX12_statement_55 lk_X12_161 im_X12_readPacket se_X12_readPacket rfl (by decide) (oX12_k hL) (c_X12_readPacket hL hM47 (hM1 _ _) hp) (by decide) rfl rfl rfl (Nat.le_of_ble_eq_true rfl) (by decide) (by decide) (fun v t9 M55 hv => ?_) (fun _ _ _ q => q.elim)
        obtain ⟨rfl, hM55, ht9, hp⟩ := hv
        replace ht9 := ht9.symm
        subst ht9
        dsimp only [Option.toList, List.cons_append, List.nil_append]
        refine xJ_goto hX dX12_statement_58 (tgt := 194) (by decide) ?_
        refine xJ_aload_n hX dX12_statement_194 rfl ?_
        refine xJ_bipush hX dX12_statement_195 rfl ?_
        refine xJ_callV (As := [_]) hX hB dX12_statement_197 lk_X12_107 im_X12_expect se_X12_expect rfl (by decide) (oX12_k hL) (c_X12_expect hL hM55 ⟨by decide, by decide⟩ hp) (by decide) rfl rfl rfl (Nat.le_of_ble_eq_true rfl) (by decide) (by decide) (fun v t9 M197 hv => ?_) (fun _ _ _ q => q.elim)
        obtain ⟨rfl, hM197, ht9, hp⟩ := hv
        replace ht9 := ht9.symm
        subst ht9
        dsimp only [Option.toList, List.cons_append, List.nil_append]
        refine xJ_vret hX hB dX12_statement_200 (by decide) (by decide) ⟨rfl, hM197, rfl, hp⟩
    · replace hp := hp.2 c33
      refine xJ_aload_n hX dX12_statement_36 rfl ?_
      refine xJ_iload_n hX dX12_statement_37 rfl ?_
      refine xJ_callV (As := [_]) hX hB dX12_statement_38 lk_X12_156 im_X12_readFlow se_X12_readFlow rfl (by decide) (oX12_k hL) (c_X12_readFlow hL hM30 (hM1 _ _) hp) (by decide) rfl rfl rfl (Nat.le_of_ble_eq_true rfl) (by decide) (by decide) (fun v t9 M38 hv => ?_) (fun _ _ _ q => q.elim)
      obtain ⟨rfl, hM38, ht9, hp⟩ := hv
      replace ht9 := ht9.symm
      subst ht9
      dsimp only [Option.toList, List.cons_append, List.nil_append]
      refine xJ_goto hX dX12_statement_41 (tgt := 194) (by decide) ?_
      refine xJ_aload_n hX dX12_statement_194 rfl ?_
      refine xJ_bipush hX dX12_statement_195 rfl ?_
      refine xJ_callV (As := [_]) hX hB dX12_statement_197 lk_X12_107 im_X12_expect se_X12_expect rfl (by decide) (oX12_k hL) (c_X12_expect hL hM38 ⟨by decide, by decide⟩ hp) (by decide) rfl rfl rfl (Nat.le_of_ble_eq_true rfl) (by decide) (by decide) (fun v t9 M197 hv => ?_) (fun _ _ _ q => q.elim)
      obtain ⟨rfl, hM197, ht9, hp⟩ := hv
      replace ht9 := ht9.symm
      subst ht9
      dsimp only [Option.toList, List.cons_append, List.nil_append]
      refine xJ_vret hX hB dX12_statement_200 (by decide) (by decide) ⟨rfl, hM197, rfl, hp⟩
  · replace hp := hp.2 c16
    refine xJ_aload_n hX dX12_statement_19 rfl ?_
    refine xJ_iload_n hX dX12_statement_20 rfl ?_
    refine xJ_callV (As := [_]) hX hB dX12_statement_21 lk_X12_151 im_X12_readGate se_X12_readGate rfl (by decide) (oX12_k hL) (c_X12_readGate hL hM13 (hM1 _ _) hp) (by decide) rfl rfl rfl (Nat.le_of_ble_eq_true rfl) (by decide) (by decide) (fun v t9 M21 hv => ?_) (fun _ _ _ q => q.elim)
    obtain ⟨rfl, hM21, ht9, hp⟩ := hv
    replace ht9 := ht9.symm
    subst ht9
    dsimp only [Option.toList, List.cons_append, List.nil_append]
    refine xJ_goto hX dX12_statement_24 (tgt := 194) (by decide) ?_
    refine xJ_aload_n hX dX12_statement_194 rfl ?_
    refine xJ_bipush hX dX12_statement_195 rfl ?_
    refine xJ_callV (As := [_]) hX hB dX12_statement_197 lk_X12_107 im_X12_expect se_X12_expect rfl (by decide) (oX12_k hL) (c_X12_expect hL hM21 ⟨by decide, by decide⟩ hp) (by decide) rfl rfl rfl (Nat.le_of_ble_eq_true rfl) (by decide) (by decide) (fun v t9 M197 hv => ?_) (fun _ _ _ q => q.elim)
    obtain ⟨rfl, hM197, ht9, hp⟩ := hv
    replace ht9 := ht9.symm
    subst ht9
    dsimp only [Option.toList, List.cons_append, List.nil_append]
    refine xJ_vret hX hB dX12_statement_200 (by decide) (by decide) ⟨rfl, hM197, rfl, hp⟩
def p_X12_load_99 (F : Nat) (a : Nat) (Q : Int → xMe → Prop) (K121 : xMe → Prop) : Nat → xMe → Prop
  | 0, _ => False
  | k + 1, M =>
    p_X12_isGood a M (fun r100 M100 => ((r100 = 0 → K121 M100) ∧ (r100 ≠ 0 → p_X12_next F a M100 (fun r107 M107 => ((r107 = ((-1)) → K121 M107) ∧ (r107 ≠ ((-1)) → p_X12_statement F a M107 (fun M115 => p_X12_load_99 F a Q K121 k M115)))))))
def p_X12_load_155 (F : Nat) (a : Nat) (Q : Int → xMe → Prop) (K196 : Int → xMe → Prop) : Nat → Int → Int → xMe → Prop
  | 0, _, _, _ => False
  | k + 1, x2, x3, M =>
    ((0 : Int) ≤ 2 ∧ (2 : Int) < 2105) ∧ (((M (a + 3) 2) ≤ x3 → K196 x2 M) ∧ (x3 < (M (a + 3) 2) → p_X12_pairAt x2 x3 M (fun r171 M171 => (xR (r171 + 0)) ∧ (xR (3 * x2)) ∧ (xR (15 + (3 * x2))) ∧ (xR ((15 + (3 * x2)) + 1)) ∧ ((0 : Int) ≤ ((15 + (3 * x2)) + 1) ∧ (((15 + (3 * x2)) + 1) : Int) < 2105) ∧ ((0 : Int) ≤ (r171 + 0) ∧ ((r171 + 0) : Int) < 2105) ∧ (∀ M189 : xMe, M189 = xw M171 (a + 3) (r171 + 0).toNat (M171 (a + 3) ((15 + (3 * x2)) + 1).toNat) → (xR (x3 + 1)) ∧ p_X12_load_155 F a Q K196 k x2 (x3 + 1) M189))))
def p_X12_load_143 (F : Nat) (a : Nat) (Q : Int → xMe → Prop) : Nat → Int → xMe → Prop
  | 0, _, _ => False
  | k + 1, x2, M =>
    ((0 : Int) ≤ 1 ∧ (1 : Int) < 2105) ∧ (((M (a + 3) 1) ≤ x2 → p_X12_remember F a M (fun M203 => p_X12_copy F (a + 3) 2105 (a + 2) 2105 2105 M203 (fun M217 => ((0 : Int) ≤ 3 ∧ (3 : Int) < 2105) ∧ Q (M217 (a + 2) 3) M217))) ∧ (x2 < (M (a + 3) 1) → p_X12_load_155 F a Q (fun y2 M => (xR (y2 + 1)) ∧ p_X12_load_143 F a Q k (y2 + 1) M) F x2 0 M))
def p_X12_load (F : Nat) (a : Nat) (x1 : Int) (M : xMe) (Q : Int → xMe → Prop) : Prop :=
  (∀ M2 : xMe, M2 = xw M a 0 0 → p_X12_in x1 0 (M2 a 2) M2 (fun r12 M12 => ((r12 ≠ 0 → p_X12_fails a 0 1 M12 (fun r24 M24 => ((r24 = 0 → (∀ M34 : xMe, M34 = xw M24 a 2 0 → (∀ M39 : xMe, M39 = xw M34 a 3 x1 → (∀ M44 : xMe, M44 = xw M39 a 4 0 → (∀ M49 : xMe, M49 = xw M44 a 5 0 → (∀ M54 : xMe, M54 = xw M49 a 6 ((-1)) → (∀ M59 : xMe, M59 = xw M54 a 15 0 → (∀ M64 : xMe, M64 = xw M59 a 16 0 → p_X12_layUsual F (a + 3) 2105 M64 (fun M71 => p_X12_takeWord F a 0 M71 (fun r77 M77 => ((r77 ≠ 0 → p_X12_expect F a 59 M77 (fun M96 => p_X12_load_99 F a Q (fun M => (∀ M126 : xMe, M126 = xw M a 7 (M a 6) → p_X12_isGood a M126 (fun r130 M130 => ((r130 ≠ 0 → p_X12_load_143 F a Q F 0 M130) ∧ (r130 = 0 → Q (M130 a 5) M130))))) F M96)) ∧ (r77 = 0 → p_X12_report a ((-2)) (M77 a 4) M77 (fun M90 => p_X12_expect F a 59 M90 (fun M96 => p_X12_load_99 F a Q (fun M => (∀ M126 : xMe, M126 = xw M a 7 (M a 6) → p_X12_isGood a M126 (fun r130 M130 => ((r130 ≠ 0 → p_X12_load_143 F a Q F 0 M130) ∧ (r130 = 0 → Q (M130 a 5) M130))))) F M96)))))))))))))) ∧ (r24 ≠ 0 → Q 0 M24)))) ∧ (r12 = 0 → p_X12_fails a 1 1 M12 (fun r24 M24 => ((r24 = 0 → (∀ M34 : xMe, M34 = xw M24 a 2 0 → (∀ M39 : xMe, M39 = xw M34 a 3 x1 → (∀ M44 : xMe, M44 = xw M39 a 4 0 → (∀ M49 : xMe, M49 = xw M44 a 5 0 → (∀ M54 : xMe, M54 = xw M49 a 6 ((-1)) → (∀ M59 : xMe, M59 = xw M54 a 15 0 → (∀ M64 : xMe, M64 = xw M59 a 16 0 → p_X12_layUsual F (a + 3) 2105 M64 (fun M71 => p_X12_takeWord F a 0 M71 (fun r77 M77 => ((r77 ≠ 0 → p_X12_expect F a 59 M77 (fun M96 => p_X12_load_99 F a Q (fun M => (∀ M126 : xMe, M126 = xw M a 7 (M a 6) → p_X12_isGood a M126 (fun r130 M130 => ((r130 ≠ 0 → p_X12_load_143 F a Q F 0 M130) ∧ (r130 = 0 → Q (M130 a 5) M130))))) F M96)) ∧ (r77 = 0 → p_X12_report a ((-2)) (M77 a 4) M77 (fun M90 => p_X12_expect F a 59 M90 (fun M96 => p_X12_load_99 F a Q (fun M => (∀ M126 : xMe, M126 = xw M a 7 (M a 6) → p_X12_isGood a M126 (fun r130 M130 => ((r130 ≠ 0 → p_X12_load_143 F a Q F 0 M130) ∧ (r130 = 0 → Q (M130 a 5) M130))))) F M96)))))))))))))) ∧ (r24 ≠ 0 → Q 0 M24)))))))
set_option maxHeartbeats 4000000 in
set_option maxRecDepth 100000 in
theorem c_X12_load {G : xGx} {t : xTh} {M : xMe} {F : Nat} {a : Nat} {x1 : Int} {Q : Int → xMe → Prop} (hL : oX12 t a) (hM : xMR M) (hx1 : xR x1) (hp : p_X12_load F a x1 M Q) : xCt G yX12_load cX12_load 4 (some .int) 114 0 0 [vr a, vi x1] t M (fun v t' M' => ∃ r, v = some (vi r) ∧ xR r ∧ xMR M' ∧ t' = t ∧ Q r M') (fun _ _ _ => False) := by
  refine xCt_of (L0 := [vr a, vi x1, vU, vU]) (by decide +kernel) (Nat.le_of_ble_eq_true rfl) rfl ?_
  intro X hX hB
  unfold p_X12_load at hp
  refine xJ_aload_n hX dX12_load_0 rfl ?_
  refine xJ_iconst hX dX12_load_1 ?_
  refine xJ_putIM hX dX12_load_2 fd_X12_42 ft_X12 rfl rfl rfl rfl (oX12_k hL) hM ⟨by decide, by decide⟩ (fun M2 e2 hM2 => ?_)
  replace hp := hp M2 e2
  refine xJ_aload_n hX dX12_load_5 rfl ?_
  refine xJ_iload_n hX dX12_load_6 rfl ?_
  refine xJ_iconst hX dX12_load_7 ?_
  refine xJ_aload_n hX dX12_load_8 rfl ?_
  refine xJ_getI hX dX12_load_9 fd_X12_45 rfl (oX12_k hL) ?_
  refine xJ_callS (As := [_, _, _]) hX hB dX12_load_12 lk_X12_64 sm_X12_in (c_X12_in  hM2 hx1 ⟨by decide, by decide⟩ (hM2 _ _) hp) (by decide) rfl rfl rfl (Nat.le_of_ble_eq_true rfl) (by decide) (by decide) (fun v t9 M12 hv => ?_) (fun _ _ _ q => q.elim)
  obtain ⟨r12, rfl, h12, hM12, ht9, hp⟩ := hv
  replace ht9 := ht9.symm
  subst ht9
  dsimp only [Option.toList, List.cons_append, List.nil_append]
  refine xJ_if_ne hX dX12_load_15 (tgt := 22) (by decide) h12 (fun c15 => ?_) (fun c15 => ?_)
  · replace hp := hp.1 c15
    refine xJ_iconst hX dX12_load_22 ?_
    refine xJ_iconst hX dX12_load_23 ?_
    refine xJ_callV (As := [_, _]) hX hB dX12_load_24 lk_X12_178 im_X12_fails se_X12_fails rfl (by decide) (oX12_k hL) (c_X12_fails hL hM12 ⟨by decide, by decide⟩ ⟨by decide, by decide⟩ hp) (by decide) rfl rfl rfl (Nat.le_of_ble_eq_true rfl) (by decide) (by decide) (fun v t9 M24 hv => ?_) (fun _ _ _ q => q.elim)
    obtain ⟨r24, rfl, h24, hM24, ht9, hp⟩ := hv
    replace ht9 := ht9.symm
    subst ht9
    dsimp only [Option.toList, List.cons_append, List.nil_append]
    refine xJ_if_eq hX dX12_load_27 (tgt := 32) (by decide) h24 (fun c27 => ?_) (fun c27 => ?_)
    · replace hp := hp.1 c27
      refine xJ_aload_n hX dX12_load_32 rfl ?_
      refine xJ_iconst hX dX12_load_33 ?_
      refine xJ_putIM hX dX12_load_34 fd_X12_45 ft_X12 rfl rfl rfl rfl (oX12_k hL) hM24 ⟨by decide, by decide⟩ (fun M34 e34 hM34 => ?_)
      replace hp := hp M34 e34
      refine xJ_aload_n hX dX12_load_37 rfl ?_
      refine xJ_iload_n hX dX12_load_38 rfl ?_
      refine xJ_putIM hX dX12_load_39 fd_X12_48 ft_X12 rfl rfl rfl rfl (oX12_k hL) hM34 hx1 (fun M39 e39 hM39 => ?_)
      replace hp := hp M39 e39
      refine xJ_aload_n hX dX12_load_42 rfl ?_
      refine xJ_iconst hX dX12_load_43 ?_
      refine xJ_putIM hX dX12_load_44 fd_X12_51 ft_X12 rfl rfl rfl rfl (oX12_k hL) hM39 ⟨by decide, by decide⟩ (fun M44 e44 hM44 => ?_)
      replace hp := hp M44 e44
      refine xJ_aload_n hX dX12_load_47 rfl ?_
      refine xJ_iconst hX dX12_load_48 ?_
      refine xJ_putIM hX dX12_load_49 fd_X12_58 ft_X12 rfl rfl rfl rfl (oX12_k hL) hM44 ⟨by decide, by decide⟩ (fun M49 e49 hM49 => ?_)
      replace hp := hp M49 e49
      refine xJ_aload_n hX dX12_load_52 rfl ?_
      refine xJ_iconst hX dX12_load_53 ?_
      refine xJ_putIM hX dX12_load_54 fd_X12_61 ft_X12 rfl rfl rfl rfl (oX12_k hL) hM49 ⟨by decide, by decide⟩ (fun M54 e54 hM54 => ?_)
      replace hp := hp M54 e54
      refine xJ_aload_n hX dX12_load_57 rfl ?_
      refine xJ_iconst hX dX12_load_58 ?_
      refine xJ_putIM hX dX12_load_59 fd_X12_101 ft_X12 rfl rfl rfl rfl (oX12_k hL) hM54 ⟨by decide, by decide⟩ (fun M59 e59 hM59 => ?_)
      replace hp := hp M59 e59
      refine xJ_aload_n hX dX12_load_62 rfl ?_
      refine xJ_iconst hX dX12_load_63 ?_
      refine xJ_putIM hX dX12_load_64 fd_X12_135 ft_X12 rfl rfl rfl rfl (oX12_k hL) hM59 ⟨by decide, by decide⟩ (fun M64 e64 hM64 => ?_)
      replace hp := hp M64 e64
      refine xJ_aload_n hX dX12_load_67 rfl ?_
      refine xJ_getR (b := (a + 3)) hX dX12_load_68 fd_X12_20 rfl (oX12_k hL) (oX12_r9 hL) ?_
      refine xJ_callS (As := [_]) hX hB dX12_load_71 lk_X12_38 sm_X12_layUsual (c_X12_layUsual (oX12_k9 hL) (oX12_n9 hL) ⟨by decide, by decide⟩ hM64 hp) (by decide) rfl rfl rfl (Nat.le_of_ble_eq_true rfl) (by decide) (by decide) (fun v t9 M71 hv => ?_) (fun _ _ _ q => q.elim)
      obtain ⟨rfl, hM71, ht9, hp⟩ := hv
      replace ht9 := ht9.symm
      subst ht9
      dsimp only [Option.toList, List.cons_append, List.nil_append]
      refine xJ_aload_n hX dX12_load_74 rfl ?_
      refine xJ_ldcS 0 hX dX12_load_75 (by decide +kernel) ?_
      refine xJ_callV (As := [_]) hX hB dX12_load_77 lk_X12_113 im_X12_takeWord se_X12_takeWord rfl (by decide) (oX12_k hL) (c_X12_takeWord hL (by decide) hM71 hp) (by decide) rfl rfl rfl (Nat.le_of_ble_eq_true rfl) (by decide) (by decide) (fun v t9 M77 hv => ?_) (fun _ _ _ q => q.elim)
      obtain ⟨r77, rfl, h77, hM77, ht9, hp⟩ := hv
      replace ht9 := ht9.symm
      subst ht9
      dsimp only [Option.toList, List.cons_append, List.nil_append]
      refine xJ_if_ne hX dX12_load_80 (tgt := 93) (by decide) h77 (fun c80 => ?_) (fun c80 => ?_)
      · replace hp := hp.1 c80
        refine xJ_aload_n hX dX12_load_93 rfl ?_
        refine xJ_bipush hX dX12_load_94 rfl ?_
        refine xJ_callV (As := [_]) hX hB dX12_load_96 lk_X12_107 im_X12_expect se_X12_expect rfl (by decide) (oX12_k hL) (c_X12_expect hL hM77 ⟨by decide, by decide⟩ hp) (by decide) rfl rfl rfl (Nat.le_of_ble_eq_true rfl) (by decide) (by decide) (fun v t9 M96 hv => ?_) (fun _ _ _ q => q.elim)
        obtain ⟨rfl, hM96, ht9, hp⟩ := hv
        replace ht9 := ht9.symm
        subst ht9
        dsimp only [Option.toList, List.cons_append, List.nil_append]
        refine xJ_fg 1 ?_
        dsimp only [List.set]
        have lp99 : ∀ (K121 : xMe → Prop) (hK121 : ∀ (M : xMe) (hM : xMR M) (hp : K121 M), xJ X 0 0 t M 121 [vr a, vU, vU, vU] []) (k : Nat) (M : xMe) (hM : xMR M) (hp : p_X12_load_99 F a Q K121 k M), xJ X 0 0 t M 99 [vr a, vU, vU, vU] [] := by
          intro K121 hK121 k
          induction k with
          | zero => intro M hM hp; exact hp.elim
          | succ k ih =>
            intro M hM hp
            unfold p_X12_load_99 at hp
            refine xJ_aload_n hX dX12_load_99 rfl ?_
            refine xJ_callV (As := []) hX hB dX12_load_100 lk_X12_68 im_X12_isGood se_X12_isGood rfl (by decide) (oX12_k hL) (c_X12_isGood hL hM hp) (by decide) rfl rfl rfl (Nat.le_of_ble_eq_true rfl) (by decide) (by decide) (fun v t9 M100 hv => ?_) (fun _ _ _ q => q.elim)
            obtain ⟨r100, rfl, h100, hM100, ht9, hp⟩ := hv
            replace ht9 := ht9.symm
            subst ht9
            dsimp only [Option.toList, List.cons_append, List.nil_append]
            refine xJ_if_eq hX dX12_load_103 (tgt := 121) (by decide) h100 (fun c103 => ?_) (fun c103 => ?_)
            · replace hp := hp.1 c103
              exact hK121 _ hM100 hp
            · replace hp := hp.2 c103
              refine xJ_aload_n hX dX12_load_106 rfl ?_
              refine xJ_callV (As := []) hX hB dX12_load_107 lk_X12_72 im_X12_next se_X12_next rfl (by decide) (oX12_k hL) (c_X12_next hL hM100 hp) (by decide) rfl rfl rfl (Nat.le_of_ble_eq_true rfl) (by decide) (by decide) (fun v t9 M107 hv => ?_) (fun _ _ _ q => q.elim)
              obtain ⟨r107, rfl, h107, hM107, ht9, hp⟩ := hv
              replace ht9 := ht9.symm
              subst ht9
              dsimp only [Option.toList, List.cons_append, List.nil_append]
              refine xJ_iconst hX dX12_load_110 ?_
              refine xJ_icmp_eq hX dX12_load_111 (tgt := 121) (by decide) h107 ⟨by decide, by decide⟩ (fun c111 => ?_) (fun c111 => ?_)
              · replace hp := hp.1 c111
                exact hK121 _ hM107 hp
              · replace hp := hp.2 c111
                refine xJ_aload_n hX dX12_load_114 rfl ?_
                refine xJ_callV (As := []) hX hB dX12_load_115 lk_X12_184 im_X12_statement se_X12_statement rfl (by decide) (oX12_k hL) (c_X12_statement hL hM107 hp) (by decide) rfl rfl rfl (Nat.le_of_ble_eq_true rfl) (by decide) (by decide) (fun v t9 M115 hv => ?_) (fun _ _ _ q => q.elim)
                obtain ⟨rfl, hM115, ht9, hp⟩ := hv
                replace ht9 := ht9.symm
                subst ht9
                dsimp only [Option.toList, List.cons_append, List.nil_append]
                refine xJ_goto hX dX12_load_118 (tgt := 99) (by decide) ?_
                exact ih _ hM115 hp
        refine lp99 _ (fun M hM hp => ?_) F _ hM96 hp
        · refine xJ_aload_n hX dX12_load_121 rfl ?_
          refine xJ_aload_n hX dX12_load_122 rfl ?_
          refine xJ_getI hX dX12_load_123 fd_X12_61 rfl (oX12_k hL) ?_
          refine xJ_putIM hX dX12_load_126 fd_X12_13 ft_X12 rfl rfl rfl rfl (oX12_k hL) hM (hM _ _) (fun M126 e126 hM126 => ?_)
          replace hp := hp M126 e126
          refine xJ_aload_n hX dX12_load_129 rfl ?_
          refine xJ_callV (As := []) hX hB dX12_load_130 lk_X12_68 im_X12_isGood se_X12_isGood rfl (by decide) (oX12_k hL) (c_X12_isGood hL hM126 hp) (by decide) rfl rfl rfl (Nat.le_of_ble_eq_true rfl) (by decide) (by decide) (fun v t9 M130 hv => ?_) (fun _ _ _ q => q.elim)
          obtain ⟨r130, rfl, h130, hM130, ht9, hp⟩ := hv
          replace ht9 := ht9.symm
          subst ht9
          dsimp only [Option.toList, List.cons_append, List.nil_append]
          refine xJ_if_ne hX dX12_load_133 (tgt := 141) (by decide) h130 (fun c133 => ?_) (fun c133 => ?_)
          · replace hp := hp.1 c133
            refine xJ_iconst hX dX12_load_141 ?_
            refine xJ_istore_n hX dX12_load_142 (Nat.le_of_ble_eq_true rfl) rfl ?_
            dsimp only [List.set]
            have lp143 : ∀ (k : Nat) (x2 : Int) (M : xMe) (hM : xMR M) (hx2 : xR x2) (hp : p_X12_load_143 F a Q k x2 M), xJ X 0 0 t M 143 [vr a, vU, vi x2, vU] [] := by
              intro k
              induction k with
              | zero => intro x2 M hM hx2 hp; exact hp.elim
              | succ k ih =>
                intro x2 M hM hx2 hp
                unfold p_X12_load_143 at hp
                refine xJ_iload_n hX dX12_load_143 rfl ?_
                refine xJ_aload_n hX dX12_load_144 rfl ?_
                refine xJ_getR (b := (a + 3)) hX dX12_load_145 fd_X12_20 rfl (oX12_k hL) (oX12_r9 hL) ?_
                refine xJ_iconst hX dX12_load_148 ?_
                obtain ⟨h149, hp⟩ := hp
                refine xJ_iald hX dX12_load_149 (oX12_k9 hL) h149.1 (xnlt (oX12_n9 hL) h149.2) ?_
                refine xJ_icmp_ge hX dX12_load_150 (tgt := 202) (by decide) hx2 (hM _ _) (fun c150 => ?_) (fun c150 => ?_)
                · replace hp := hp.1 c150
                  refine xJ_aload_n hX dX12_load_202 rfl ?_
                  refine xJ_callV (As := []) hX hB dX12_load_203 lk_X12_190 im_X12_remember se_X12_remember rfl (by decide) (oX12_k hL) (c_X12_remember hL hM hp) (by decide) rfl rfl rfl (Nat.le_of_ble_eq_true rfl) (by decide) (by decide) (fun v t9 M203 hv => ?_) (fun _ _ _ q => q.elim)
                  obtain ⟨rfl, hM203, ht9, hp⟩ := hv
                  replace ht9 := ht9.symm
                  subst ht9
                  dsimp only [Option.toList, List.cons_append, List.nil_append]
                  refine xJ_aload_n hX dX12_load_206 rfl ?_
                  refine xJ_getR (b := (a + 3)) hX dX12_load_207 fd_X12_20 rfl (oX12_k hL) (oX12_r9 hL) ?_
                  refine xJ_aload_n hX dX12_load_210 rfl ?_
                  refine xJ_getR (b := (a + 2)) hX dX12_load_211 fd_X12_17 rfl (oX12_k hL) (oX12_r8 hL) ?_
                  refine xJ_sipush hX dX12_load_214 rfl ?_
                  refine xJ_callS (As := [_, _, _]) hX hB dX12_load_217 lk_X12_193 sm_X12_copy (c_X12_copy (oX12_k9 hL) (oX12_n9 hL) ⟨by decide, by decide⟩ (oX12_k8 hL) (oX12_n8 hL) ⟨by decide, by decide⟩ hM203 ⟨by decide, by decide⟩ hp) (by decide) rfl rfl rfl (Nat.le_of_ble_eq_true rfl) (by decide) (by decide) (fun v t9 M217 hv => ?_) (fun _ _ _ q => q.elim)
                  obtain ⟨rfl, hM217, ht9, hp⟩ := hv
                  replace ht9 := ht9.symm
                  subst ht9
                  dsimp only [Option.toList, List.cons_append, List.nil_append]
                  refine xJ_aload_n hX dX12_load_220 rfl ?_
                  refine xJ_getR (b := (a + 2)) hX dX12_load_221 fd_X12_17 rfl (oX12_k hL) (oX12_r8 hL) ?_
                  refine xJ_iconst hX dX12_load_224 ?_
                  obtain ⟨h225, hp⟩ := hp
                  refine xJ_iald hX dX12_load_225 (oX12_k8 hL) h225.1 (xnlt (oX12_n8 hL) h225.2) ?_
                  refine xJ_iret hX hB dX12_load_226 (by decide) (by decide) ⟨_, rfl, (hM217 _ _), hM217, rfl, hp⟩
                · replace hp := hp.2 c150
                  refine xJ_iconst hX dX12_load_153 ?_
                  refine xJ_istore_n hX dX12_load_154 (Nat.le_of_ble_eq_true rfl) rfl ?_
                  dsimp only [List.set]
                  have lp155 : ∀ (K196 : Int → xMe → Prop) (hK196 : ∀ (y2 : Int) (M : xMe) (hM : xMR M) (hy2 : xR y2) (hp : K196 y2 M), xJ X 0 0 t M 196 [vr a, vU, vi y2, vU] []) (k : Nat) (x2 : Int) (x3 : Int) (M : xMe) (hM : xMR M) (hx2 : xR x2) (hx3 : xR x3) (hp : p_X12_load_155 F a Q K196 k x2 x3 M), xJ X 0 0 t M 155 [vr a, vU, vi x2, vi x3] [] := by
                    intro K196 hK196 k
                    induction k with
                    | zero => intro x2 x3 M hM hx2 hx3 hp; exact hp.elim
                    | succ k ih =>
                      intro x2 x3 M hM hx2 hx3 hp
                      unfold p_X12_load_155 at hp
                      refine xJ_iload_n hX dX12_load_155 rfl ?_
                      refine xJ_aload_n hX dX12_load_156 rfl ?_
                      refine xJ_getR (b := (a + 3)) hX dX12_load_157 fd_X12_20 rfl (oX12_k hL) (oX12_r9 hL) ?_
                      refine xJ_iconst hX dX12_load_160 ?_
                      obtain ⟨h161, hp⟩ := hp
                      refine xJ_iald hX dX12_load_161 (oX12_k9 hL) h161.1 (xnlt (oX12_n9 hL) h161.2) ?_
                      refine xJ_icmp_ge hX dX12_load_162 (tgt := 196) (by decide) hx3 (hM _ _) (fun c162 => ?_) (fun c162 => ?_)
                      · replace hp := hp.1 c162
                        refine xJ_fg 3 ?_
                        dsimp only [List.set]
                        exact hK196 _ _ hM hx2 hp
                      · replace hp := hp.2 c162
                        refine xJ_aload_n hX dX12_load_165 rfl ?_
                        refine xJ_getR (b := (a + 3)) hX dX12_load_166 fd_X12_20 rfl (oX12_k hL) (oX12_r9 hL) ?_
                        refine xJ_iload_n hX dX12_load_169 rfl ?_
                        refine xJ_iload_n hX dX12_load_170 rfl ?_
                        refine xJ_callS (As := [_, _]) hX hB dX12_load_171 lk_X12_187 sm_X12_pairAt (c_X12_pairAt  hM hx2 hx3 hp) (by decide) rfl rfl rfl (Nat.le_of_ble_eq_true rfl) (by decide) (by decide) (fun v t9 M171 hv => ?_) (fun _ _ _ q => q.elim)
                        obtain ⟨r171, rfl, h171, hM171, ht9, hp⟩ := hv
                        replace ht9 := ht9.symm
                        subst ht9
                        dsimp only [Option.toList, List.cons_append, List.nil_append]
                        refine xJ_iconst hX dX12_load_174 ?_
                        refine xJ_iadd hX dX12_load_175 ?_
                        obtain ⟨h175, hp⟩ := hp
                        refine xJ_aload_n hX dX12_load_176 rfl ?_
                        refine xJ_getR (b := (a + 3)) hX dX12_load_177 fd_X12_20 rfl (oX12_k hL) (oX12_r9 hL) ?_
                        refine xJ_bipush hX dX12_load_180 rfl ?_
                        refine xJ_iconst hX dX12_load_182 ?_
                        refine xJ_iload_n hX dX12_load_183 rfl ?_
                        refine xJ_imul hX dX12_load_184 ?_
                        obtain ⟨h184, hp⟩ := hp
                        refine xJ_iadd hX dX12_load_185 ?_
                        obtain ⟨h185, hp⟩ := hp
                        refine xJ_iconst hX dX12_load_186 ?_
                        refine xJ_iadd hX dX12_load_187 ?_
                        obtain ⟨h187, hp⟩ := hp
                        obtain ⟨h188, hp⟩ := hp
                        refine xJ_iald hX dX12_load_188 (oX12_k9 hL) h188.1 (xnlt (oX12_n9 hL) h188.2) ?_
                        obtain ⟨h189, hp⟩ := hp
                        refine xJ_iastM hX dX12_load_189 (oX12_k9 hL) h189.1 (xnlt (oX12_n9 hL) h189.2) hM171 (hM171 _ _) (fun M189 e189 hM189 => ?_)
                        replace hp := hp M189 e189
                        refine xJ_iinc hX dX12_load_190 rfl rfl ?_
                        dsimp only [List.set]
                        obtain ⟨h190, hp⟩ := hp
                        refine xJ_goto hX dX12_load_193 (tgt := 155) (by decide) ?_
                        exact ih _ _ _ hM189 hx2 h190 hp
                  refine lp155 _ (fun y2 M hM hy2 hp => ?_) F _ _ _ hM hx2 ⟨by decide, by decide⟩ hp
                  · refine xJ_iinc hX dX12_load_196 rfl rfl ?_
                    dsimp only [List.set]
                    obtain ⟨h196, hp⟩ := hp
                    refine xJ_goto hX dX12_load_199 (tgt := 143) (by decide) ?_
                    exact ih _ _ hM h196 hp
            refine lp143 F _ _ hM130 ⟨by decide, by decide⟩ hp
          · replace hp := hp.2 c133
            refine xJ_aload_n hX dX12_load_136 rfl ?_
            refine xJ_getI hX dX12_load_137 fd_X12_58 rfl (oX12_k hL) ?_
            refine xJ_iret hX hB dX12_load_140 (by decide) (by decide) ⟨_, rfl, (hM130 _ _), hM130, rfl, hp⟩
      · replace hp := hp.2 c80
        refine xJ_aload_n hX dX12_load_83 rfl ?_
        refine xJ_bipush hX dX12_load_84 rfl ?_
        refine xJ_aload_n hX dX12_load_86 rfl ?_
        refine xJ_getI hX dX12_load_87 fd_X12_51 rfl (oX12_k hL) ?_
        refine xJ_callV (As := [_, _]) hX hB dX12_load_90 lk_X12_85 im_X12_report se_X12_report rfl (by decide) (oX12_k hL) (c_X12_report hL hM77 ⟨by decide, by decide⟩ (hM77 _ _) hp) (by decide) rfl rfl rfl (Nat.le_of_ble_eq_true rfl) (by decide) (by decide) (fun v t9 M90 hv => ?_) (fun _ _ _ q => q.elim)
        obtain ⟨rfl, hM90, ht9, hp⟩ := hv
        replace ht9 := ht9.symm
        subst ht9
        dsimp only [Option.toList, List.cons_append, List.nil_append]
        refine xJ_aload_n hX dX12_load_93 rfl ?_
        refine xJ_bipush hX dX12_load_94 rfl ?_
        refine xJ_callV (As := [_]) hX hB dX12_load_96 lk_X12_107 im_X12_expect se_X12_expect rfl (by decide) (oX12_k hL) (c_X12_expect hL hM90 ⟨by decide, by decide⟩ hp) (by decide) rfl rfl rfl (Nat.le_of_ble_eq_true rfl) (by decide) (by decide) (fun v t9 M96 hv => ?_) (fun _ _ _ q => q.elim)
        obtain ⟨rfl, hM96, ht9, hp⟩ := hv
        replace ht9 := ht9.symm
        subst ht9
        dsimp only [Option.toList, List.cons_append, List.nil_append]
        refine xJ_fg 1 ?_
        dsimp only [List.set]
        have lp99 : ∀ (K121 : xMe → Prop) (hK121 : ∀ (M : xMe) (hM : xMR M) (hp : K121 M), xJ X 0 0 t M 121 [vr a, vU, vU, vU] []) (k : Nat) (M : xMe) (hM : xMR M) (hp : p_X12_load_99 F a Q K121 k M), xJ X 0 0 t M 99 [vr a, vU, vU, vU] [] := by
          intro K121 hK121 k
          induction k with
          | zero => intro M hM hp; exact hp.elim
          | succ k ih =>
            intro M hM hp
            unfold p_X12_load_99 at hp
            refine xJ_aload_n hX dX12_load_99 rfl ?_
            refine xJ_callV (As := []) hX hB dX12_load_100 lk_X12_68 im_X12_isGood se_X12_isGood rfl (by decide) (oX12_k hL) (c_X12_isGood hL hM hp) (by decide) rfl rfl rfl (Nat.le_of_ble_eq_true rfl) (by decide) (by decide) (fun v t9 M100 hv => ?_) (fun _ _ _ q => q.elim)
            obtain ⟨r100, rfl, h100, hM100, ht9, hp⟩ := hv
            replace ht9 := ht9.symm
            subst ht9
            dsimp only [Option.toList, List.cons_append, List.nil_append]
            refine xJ_if_eq hX dX12_load_103 (tgt := 121) (by decide) h100 (fun c103 => ?_) (fun c103 => ?_)
            · replace hp := hp.1 c103
              exact hK121 _ hM100 hp
            · replace hp := hp.2 c103
              refine xJ_aload_n hX dX12_load_106 rfl ?_
              refine xJ_callV (As := []) hX hB dX12_load_107 lk_X12_72 im_X12_next se_X12_next rfl (by decide) (oX12_k hL) (c_X12_next hL hM100 hp) (by decide) rfl rfl rfl (Nat.le_of_ble_eq_true rfl) (by decide) (by decide) (fun v t9 M107 hv => ?_) (fun _ _ _ q => q.elim)
              obtain ⟨r107, rfl, h107, hM107, ht9, hp⟩ := hv
              replace ht9 := ht9.symm
              subst ht9
              dsimp only [Option.toList, List.cons_append, List.nil_append]
              refine xJ_iconst hX dX12_load_110 ?_
              refine xJ_icmp_eq hX dX12_load_111 (tgt := 121) (by decide) h107 ⟨by decide, by decide⟩ (fun c111 => ?_) (fun c111 => ?_)
              · replace hp := hp.1 c111
                exact hK121 _ hM107 hp
              · replace hp := hp.2 c111
                refine xJ_aload_n hX dX12_load_114 rfl ?_
                refine xJ_callV (As := []) hX hB dX12_load_115 lk_X12_184 im_X12_statement se_X12_statement rfl (by decide) (oX12_k hL) (c_X12_statement hL hM107 hp) (by decide) rfl rfl rfl (Nat.le_of_ble_eq_true rfl) (by decide) (by decide) (fun v t9 M115 hv => ?_) (fun _ _ _ q => q.elim)
                obtain ⟨rfl, hM115, ht9, hp⟩ := hv
                replace ht9 := ht9.symm
                subst ht9
                dsimp only [Option.toList, List.cons_append, List.nil_append]
                refine xJ_goto hX dX12_load_118 (tgt := 99) (by decide) ?_
                exact ih _ hM115 hp
        refine lp99 _ (fun M hM hp => ?_) F _ hM96 hp
        · refine xJ_aload_n hX dX12_load_121 rfl ?_
          refine xJ_aload_n hX dX12_load_122 rfl ?_
          refine xJ_getI hX dX12_load_123 fd_X12_61 rfl (oX12_k hL) ?_
          refine xJ_putIM hX dX12_load_126 fd_X12_13 ft_X12 rfl rfl rfl rfl (oX12_k hL) hM (hM _ _) (fun M126 e126 hM126 => ?_)
          replace hp := hp M126 e126
          refine xJ_aload_n hX dX12_load_129 rfl ?_
          refine xJ_callV (As := []) hX hB dX12_load_130 lk_X12_68 im_X12_isGood se_X12_isGood rfl (by decide) (oX12_k hL) (c_X12_isGood hL hM126 hp) (by decide) rfl rfl rfl (Nat.le_of_ble_eq_true rfl) (by decide) (by decide) (fun v t9 M130 hv => ?_) (fun _ _ _ q => q.elim)
          obtain ⟨r130, rfl, h130, hM130, ht9, hp⟩ := hv
          replace ht9 := ht9.symm
          subst ht9
          dsimp only [Option.toList, List.cons_append, List.nil_append]
          refine xJ_if_ne hX dX12_load_133 (tgt := 141) (by decide) h130 (fun c133 => ?_) (fun c133 => ?_)
          · replace hp := hp.1 c133
            refine xJ_iconst hX dX12_load_141 ?_
            refine xJ_istore_n hX dX12_load_142 (Nat.le_of_ble_eq_true rfl) rfl ?_
            dsimp only [List.set]
            have lp143 : ∀ (k : Nat) (x2 : Int) (M : xMe) (hM : xMR M) (hx2 : xR x2) (hp : p_X12_load_143 F a Q k x2 M), xJ X 0 0 t M 143 [vr a, vU, vi x2, vU] [] := by
              intro k
              induction k with
              | zero => intro x2 M hM hx2 hp; exact hp.elim
              | succ k ih =>
                intro x2 M hM hx2 hp
                unfold p_X12_load_143 at hp
                refine xJ_iload_n hX dX12_load_143 rfl ?_
                refine xJ_aload_n hX dX12_load_144 rfl ?_
                refine xJ_getR (b := (a + 3)) hX dX12_load_145 fd_X12_20 rfl (oX12_k hL) (oX12_r9 hL) ?_
                refine xJ_iconst hX dX12_load_148 ?_
                obtain ⟨h149, hp⟩ := hp
                refine xJ_iald hX dX12_load_149 (oX12_k9 hL) h149.1 (xnlt (oX12_n9 hL) h149.2) ?_
                refine xJ_icmp_ge hX dX12_load_150 (tgt := 202) (by decide) hx2 (hM _ _) (fun c150 => ?_) (fun c150 => ?_)
                · replace hp := hp.1 c150
                  refine xJ_aload_n hX dX12_load_202 rfl ?_
                  refine xJ_callV (As := []) hX hB dX12_load_203 lk_X12_190 im_X12_remember se_X12_remember rfl (by decide) (oX12_k hL) (c_X12_remember hL hM hp) (by decide) rfl rfl rfl (Nat.le_of_ble_eq_true rfl) (by decide) (by decide) (fun v t9 M203 hv => ?_) (fun _ _ _ q => q.elim)
                  obtain ⟨rfl, hM203, ht9, hp⟩ := hv
                  replace ht9 := ht9.symm
                  subst ht9
                  dsimp only [Option.toList, List.cons_append, List.nil_append]
                  refine xJ_aload_n hX dX12_load_206 rfl ?_
                  refine xJ_getR (b := (a + 3)) hX dX12_load_207 fd_X12_20 rfl (oX12_k hL) (oX12_r9 hL) ?_
                  refine xJ_aload_n hX dX12_load_210 rfl ?_
                  refine xJ_getR (b := (a + 2)) hX dX12_load_211 fd_X12_17 rfl (oX12_k hL) (oX12_r8 hL) ?_
                  refine xJ_sipush hX dX12_load_214 rfl ?_
                  refine xJ_callS (As := [_, _, _]) hX hB dX12_load_217 lk_X12_193 sm_X12_copy (c_X12_copy (oX12_k9 hL) (oX12_n9 hL) ⟨by decide, by decide⟩ (oX12_k8 hL) (oX12_n8 hL) ⟨by decide, by decide⟩ hM203 ⟨by decide, by decide⟩ hp) (by decide) rfl rfl rfl (Nat.le_of_ble_eq_true rfl) (by decide) (by decide) (fun v t9 M217 hv => ?_) (fun _ _ _ q => q.elim)
                  obtain ⟨rfl, hM217, ht9, hp⟩ := hv
                  replace ht9 := ht9.symm
                  subst ht9
                  dsimp only [Option.toList, List.cons_append, List.nil_append]
                  refine xJ_aload_n hX dX12_load_220 rfl ?_
                  refine xJ_getR (b := (a + 2)) hX dX12_load_221 fd_X12_17 rfl (oX12_k hL) (oX12_r8 hL) ?_
                  refine xJ_iconst hX dX12_load_224 ?_
                  obtain ⟨h225, hp⟩ := hp
                  refine xJ_iald hX dX12_load_225 (oX12_k8 hL) h225.1 (xnlt (oX12_n8 hL) h225.2) ?_
                  refine xJ_iret hX hB dX12_load_226 (by decide) (by decide) ⟨_, rfl, (hM217 _ _), hM217, rfl, hp⟩
                · replace hp := hp.2 c150
                  refine xJ_iconst hX dX12_load_153 ?_
                  refine xJ_istore_n hX dX12_load_154 (Nat.le_of_ble_eq_true rfl) rfl ?_
                  dsimp only [List.set]
                  have lp155 : ∀ (K196 : Int → xMe → Prop) (hK196 : ∀ (y2 : Int) (M : xMe) (hM : xMR M) (hy2 : xR y2) (hp : K196 y2 M), xJ X 0 0 t M 196 [vr a, vU, vi y2, vU] []) (k : Nat) (x2 : Int) (x3 : Int) (M : xMe) (hM : xMR M) (hx2 : xR x2) (hx3 : xR x3) (hp : p_X12_load_155 F a Q K196 k x2 x3 M), xJ X 0 0 t M 155 [vr a, vU, vi x2, vi x3] [] := by
                    intro K196 hK196 k
                    induction k with
                    | zero => intro x2 x3 M hM hx2 hx3 hp; exact hp.elim
                    | succ k ih =>
                      intro x2 x3 M hM hx2 hx3 hp
                      unfold p_X12_load_155 at hp
                      refine xJ_iload_n hX dX12_load_155 rfl ?_
                      refine xJ_aload_n hX dX12_load_156 rfl ?_
                      refine xJ_getR (b := (a + 3)) hX dX12_load_157 fd_X12_20 rfl (oX12_k hL) (oX12_r9 hL) ?_
                      refine xJ_iconst hX dX12_load_160 ?_
                      obtain ⟨h161, hp⟩ := hp
                      refine xJ_iald hX dX12_load_161 (oX12_k9 hL) h161.1 (xnlt (oX12_n9 hL) h161.2) ?_
                      refine xJ_icmp_ge hX dX12_load_162 (tgt := 196) (by decide) hx3 (hM _ _) (fun c162 => ?_) (fun c162 => ?_)
                      · replace hp := hp.1 c162
                        refine xJ_fg 3 ?_
                        dsimp only [List.set]
                        exact hK196 _ _ hM hx2 hp
                      · replace hp := hp.2 c162
                        refine xJ_aload_n hX dX12_load_165 rfl ?_
                        refine xJ_getR (b := (a + 3)) hX dX12_load_166 fd_X12_20 rfl (oX12_k hL) (oX12_r9 hL) ?_
                        refine xJ_iload_n hX dX12_load_169 rfl ?_
                        refine xJ_iload_n hX dX12_load_170 rfl ?_
                        refine xJ_callS (As := [_, _]) hX hB dX12_load_171 lk_X12_187 sm_X12_pairAt (c_X12_pairAt  hM hx2 hx3 hp) (by decide) rfl rfl rfl (Nat.le_of_ble_eq_true rfl) (by decide) (by decide) (fun v t9 M171 hv => ?_) (fun _ _ _ q => q.elim)
                        obtain ⟨r171, rfl, h171, hM171, ht9, hp⟩ := hv
                        replace ht9 := ht9.symm
                        subst ht9
                        dsimp only [Option.toList, List.cons_append, List.nil_append]
                        refine xJ_iconst hX dX12_load_174 ?_
                        refine xJ_iadd hX dX12_load_175 ?_
                        obtain ⟨h175, hp⟩ := hp
                        refine xJ_aload_n hX dX12_load_176 rfl ?_
                        refine xJ_getR (b := (a + 3)) hX dX12_load_177 fd_X12_20 rfl (oX12_k hL) (oX12_r9 hL) ?_
                        refine xJ_bipush hX dX12_load_180 rfl ?_
                        refine xJ_iconst hX dX12_load_182 ?_
                        refine xJ_iload_n hX dX12_load_183 rfl ?_
                        refine xJ_imul hX dX12_load_184 ?_
                        obtain ⟨h184, hp⟩ := hp
                        refine xJ_iadd hX dX12_load_185 ?_
                        obtain ⟨h185, hp⟩ := hp
                        refine xJ_iconst hX dX12_load_186 ?_
                        refine xJ_iadd hX dX12_load_187 ?_
                        obtain ⟨h187, hp⟩ := hp
                        obtain ⟨h188, hp⟩ := hp
                        refine xJ_iald hX dX12_load_188 (oX12_k9 hL) h188.1 (xnlt (oX12_n9 hL) h188.2) ?_
                        obtain ⟨h189, hp⟩ := hp
                        refine xJ_iastM hX dX12_load_189 (oX12_k9 hL) h189.1 (xnlt (oX12_n9 hL) h189.2) hM171 (hM171 _ _) (fun M189 e189 hM189 => ?_)
                        replace hp := hp M189 e189
                        refine xJ_iinc hX dX12_load_190 rfl rfl ?_
                        dsimp only [List.set]
                        obtain ⟨h190, hp⟩ := hp
                        refine xJ_goto hX dX12_load_193 (tgt := 155) (by decide) ?_
                        exact ih _ _ _ hM189 hx2 h190 hp
                  refine lp155 _ (fun y2 M hM hy2 hp => ?_) F _ _ _ hM hx2 ⟨by decide, by decide⟩ hp
                  · refine xJ_iinc hX dX12_load_196 rfl rfl ?_
                    dsimp only [List.set]
                    obtain ⟨h196, hp⟩ := hp
                    refine xJ_goto hX dX12_load_199 (tgt := 143) (by decide) ?_
                    exact ih _ _ hM h196 hp
            refine lp143 F _ _ hM130 ⟨by decide, by decide⟩ hp
          · replace hp := hp.2 c133
            refine xJ_aload_n hX dX12_load_136 rfl ?_
            refine xJ_getI hX dX12_load_137 fd_X12_58 rfl (oX12_k hL) ?_
            refine xJ_iret hX hB dX12_load_140 (by decide) (by decide) ⟨_, rfl, (hM130 _ _), hM130, rfl, hp⟩
    · replace hp := hp.2 c27
      refine xJ_iconst hX dX12_load_30 ?_
      refine xJ_iret hX hB dX12_load_31 (by decide) (by decide) ⟨_, rfl, ⟨by decide, by decide⟩, hM24, rfl, hp⟩
  · replace hp := hp.2 c15
    refine xJ_iconst hX dX12_load_18 ?_
    refine xJ_goto hX dX12_load_19 (tgt := 23) (by decide) ?_
    refine xJ_iconst hX dX12_load_23 ?_
    refine xJ_callV (As := [_, _]) hX hB dX12_load_24 lk_X12_178 im_X12_fails se_X12_fails rfl (by decide) (oX12_k hL) (c_X12_fails hL hM12 ⟨by decide, by decide⟩ ⟨by decide, by decide⟩ hp) (by decide) rfl rfl rfl (Nat.le_of_ble_eq_true rfl) (by decide) (by decide) (fun v t9 M24 hv => ?_) (fun _ _ _ q => q.elim)
    obtain ⟨r24, rfl, h24, hM24, ht9, hp⟩ := hv
    replace ht9 := ht9.symm
    subst ht9
    dsimp only [Option.toList, List.cons_append, List.nil_append]
    refine xJ_if_eq hX dX12_load_27 (tgt := 32) (by decide) h24 (fun c27 => ?_) (fun c27 => ?_)
    · replace hp := hp.1 c27
      refine xJ_aload_n hX dX12_load_32 rfl ?_
      refine xJ_iconst hX dX12_load_33 ?_
      refine xJ_putIM hX dX12_load_34 fd_X12_45 ft_X12 rfl rfl rfl rfl (oX12_k hL) hM24 ⟨by decide, by decide⟩ (fun M34 e34 hM34 => ?_)
      replace hp := hp M34 e34
      refine xJ_aload_n hX dX12_load_37 rfl ?_
      refine xJ_iload_n hX dX12_load_38 rfl ?_
      refine xJ_putIM hX dX12_load_39 fd_X12_48 ft_X12 rfl rfl rfl rfl (oX12_k hL) hM34 hx1 (fun M39 e39 hM39 => ?_)
      replace hp := hp M39 e39
      refine xJ_aload_n hX dX12_load_42 rfl ?_
      refine xJ_iconst hX dX12_load_43 ?_
      refine xJ_putIM hX dX12_load_44 fd_X12_51 ft_X12 rfl rfl rfl rfl (oX12_k hL) hM39 ⟨by decide, by decide⟩ (fun M44 e44 hM44 => ?_)
      replace hp := hp M44 e44
      refine xJ_aload_n hX dX12_load_47 rfl ?_
      refine xJ_iconst hX dX12_load_48 ?_
      refine xJ_putIM hX dX12_load_49 fd_X12_58 ft_X12 rfl rfl rfl rfl (oX12_k hL) hM44 ⟨by decide, by decide⟩ (fun M49 e49 hM49 => ?_)
      replace hp := hp M49 e49
      refine xJ_aload_n hX dX12_load_52 rfl ?_
      refine xJ_iconst hX dX12_load_53 ?_
      refine xJ_putIM hX dX12_load_54 fd_X12_61 ft_X12 rfl rfl rfl rfl (oX12_k hL) hM49 ⟨by decide, by decide⟩ (fun M54 e54 hM54 => ?_)
      replace hp := hp M54 e54
      refine xJ_aload_n hX dX12_load_57 rfl ?_
      refine xJ_iconst hX dX12_load_58 ?_
      refine xJ_putIM hX dX12_load_59 fd_X12_101 ft_X12 rfl rfl rfl rfl (oX12_k hL) hM54 ⟨by decide, by decide⟩ (fun M59 e59 hM59 => ?_)
      replace hp := hp M59 e59
      refine xJ_aload_n hX dX12_load_62 rfl ?_
      refine xJ_iconst hX dX12_load_63 ?_
      refine xJ_putIM hX dX12_load_64 fd_X12_135 ft_X12 rfl rfl rfl rfl (oX12_k hL) hM59 ⟨by decide, by decide⟩ (fun M64 e64 hM64 => ?_)
      replace hp := hp M64 e64
      refine xJ_aload_n hX dX12_load_67 rfl ?_
      refine xJ_getR (b := (a + 3)) hX dX12_load_68 fd_X12_20 rfl (oX12_k hL) (oX12_r9 hL) ?_
      refine xJ_callS (As := [_]) hX hB dX12_load_71 lk_X12_38 sm_X12_layUsual (c_X12_layUsual (oX12_k9 hL) (oX12_n9 hL) ⟨by decide, by decide⟩ hM64 hp) (by decide) rfl rfl rfl (Nat.le_of_ble_eq_true rfl) (by decide) (by decide) (fun v t9 M71 hv => ?_) (fun _ _ _ q => q.elim)
      obtain ⟨rfl, hM71, ht9, hp⟩ := hv
      replace ht9 := ht9.symm
      subst ht9
      dsimp only [Option.toList, List.cons_append, List.nil_append]
      refine xJ_aload_n hX dX12_load_74 rfl ?_
      refine xJ_ldcS 0 hX dX12_load_75 (by decide +kernel) ?_
      refine xJ_callV (As := [_]) hX hB dX12_load_77 lk_X12_113 im_X12_takeWord se_X12_takeWord rfl (by decide) (oX12_k hL) (c_X12_takeWord hL (by decide) hM71 hp) (by decide) rfl rfl rfl (Nat.le_of_ble_eq_true rfl) (by decide) (by decide) (fun v t9 M77 hv => ?_) (fun _ _ _ q => q.elim)
      obtain ⟨r77, rfl, h77, hM77, ht9, hp⟩ := hv
      replace ht9 := ht9.symm
      subst ht9
      dsimp only [Option.toList, List.cons_append, List.nil_append]
      refine xJ_if_ne hX dX12_load_80 (tgt := 93) (by decide) h77 (fun c80 => ?_) (fun c80 => ?_)
      · replace hp := hp.1 c80
        refine xJ_aload_n hX dX12_load_93 rfl ?_
        refine xJ_bipush hX dX12_load_94 rfl ?_
        refine xJ_callV (As := [_]) hX hB dX12_load_96 lk_X12_107 im_X12_expect se_X12_expect rfl (by decide) (oX12_k hL) (c_X12_expect hL hM77 ⟨by decide, by decide⟩ hp) (by decide) rfl rfl rfl (Nat.le_of_ble_eq_true rfl) (by decide) (by decide) (fun v t9 M96 hv => ?_) (fun _ _ _ q => q.elim)
        obtain ⟨rfl, hM96, ht9, hp⟩ := hv
        replace ht9 := ht9.symm
        subst ht9
        dsimp only [Option.toList, List.cons_append, List.nil_append]
        refine xJ_fg 1 ?_
        dsimp only [List.set]
        have lp99 : ∀ (K121 : xMe → Prop) (hK121 : ∀ (M : xMe) (hM : xMR M) (hp : K121 M), xJ X 0 0 t M 121 [vr a, vU, vU, vU] []) (k : Nat) (M : xMe) (hM : xMR M) (hp : p_X12_load_99 F a Q K121 k M), xJ X 0 0 t M 99 [vr a, vU, vU, vU] [] := by
          intro K121 hK121 k
          induction k with
          | zero => intro M hM hp; exact hp.elim
          | succ k ih =>
            intro M hM hp
            unfold p_X12_load_99 at hp
            refine xJ_aload_n hX dX12_load_99 rfl ?_
            refine xJ_callV (As := []) hX hB dX12_load_100 lk_X12_68 im_X12_isGood se_X12_isGood rfl (by decide) (oX12_k hL) (c_X12_isGood hL hM hp) (by decide) rfl rfl rfl (Nat.le_of_ble_eq_true rfl) (by decide) (by decide) (fun v t9 M100 hv => ?_) (fun _ _ _ q => q.elim)
            obtain ⟨r100, rfl, h100, hM100, ht9, hp⟩ := hv
            replace ht9 := ht9.symm
            subst ht9
            dsimp only [Option.toList, List.cons_append, List.nil_append]
            refine xJ_if_eq hX dX12_load_103 (tgt := 121) (by decide) h100 (fun c103 => ?_) (fun c103 => ?_)
            · replace hp := hp.1 c103
              exact hK121 _ hM100 hp
            · replace hp := hp.2 c103
              refine xJ_aload_n hX dX12_load_106 rfl ?_
              refine xJ_callV (As := []) hX hB dX12_load_107 lk_X12_72 im_X12_next se_X12_next rfl (by decide) (oX12_k hL) (c_X12_next hL hM100 hp) (by decide) rfl rfl rfl (Nat.le_of_ble_eq_true rfl) (by decide) (by decide) (fun v t9 M107 hv => ?_) (fun _ _ _ q => q.elim)
              obtain ⟨r107, rfl, h107, hM107, ht9, hp⟩ := hv
              replace ht9 := ht9.symm
              subst ht9
              dsimp only [Option.toList, List.cons_append, List.nil_append]
              refine xJ_iconst hX dX12_load_110 ?_
              refine xJ_icmp_eq hX dX12_load_111 (tgt := 121) (by decide) h107 ⟨by decide, by decide⟩ (fun c111 => ?_) (fun c111 => ?_)
              · replace hp := hp.1 c111
                exact hK121 _ hM107 hp
              · replace hp := hp.2 c111
                refine xJ_aload_n hX dX12_load_114 rfl ?_
                refine xJ_callV (As := []) hX hB dX12_load_115 lk_X12_184 im_X12_statement se_X12_statement rfl (by decide) (oX12_k hL) (c_X12_statement hL hM107 hp) (by decide) rfl rfl rfl (Nat.le_of_ble_eq_true rfl) (by decide) (by decide) (fun v t9 M115 hv => ?_) (fun _ _ _ q => q.elim)
                obtain ⟨rfl, hM115, ht9, hp⟩ := hv
                replace ht9 := ht9.symm
                subst ht9
                dsimp only [Option.toList, List.cons_append, List.nil_append]
                refine xJ_goto hX dX12_load_118 (tgt := 99) (by decide) ?_
                exact ih _ hM115 hp
        refine lp99 _ (fun M hM hp => ?_) F _ hM96 hp
        · refine xJ_aload_n hX dX12_load_121 rfl ?_
          refine xJ_aload_n hX dX12_load_122 rfl ?_
          refine xJ_getI hX dX12_load_123 fd_X12_61 rfl (oX12_k hL) ?_
          refine xJ_putIM hX dX12_load_126 fd_X12_13 ft_X12 rfl rfl rfl rfl (oX12_k hL) hM (hM _ _) (fun M126 e126 hM126 => ?_)
          replace hp := hp M126 e126
          refine xJ_aload_n hX dX12_load_129 rfl ?_
          refine xJ_callV (As := []) hX hB dX12_load_130 lk_X12_68 im_X12_isGood se_X12_isGood rfl (by decide) (oX12_k hL) (c_X12_isGood hL hM126 hp) (by decide) rfl rfl rfl (Nat.le_of_ble_eq_true rfl) (by decide) (by decide) (fun v t9 M130 hv => ?_) (fun _ _ _ q => q.elim)
          obtain ⟨r130, rfl, h130, hM130, ht9, hp⟩ := hv
          replace ht9 := ht9.symm
          subst ht9
          dsimp only [Option.toList, List.cons_append, List.nil_append]
          refine xJ_if_ne hX dX12_load_133 (tgt := 141) (by decide) h130 (fun c133 => ?_) (fun c133 => ?_)
          · replace hp := hp.1 c133
            refine xJ_iconst hX dX12_load_141 ?_
            refine xJ_istore_n hX dX12_load_142 (Nat.le_of_ble_eq_true rfl) rfl ?_
            dsimp only [List.set]
            have lp143 : ∀ (k : Nat) (x2 : Int) (M : xMe) (hM : xMR M) (hx2 : xR x2) (hp : p_X12_load_143 F a Q k x2 M), xJ X 0 0 t M 143 [vr a, vU, vi x2, vU] [] := by
              intro k
              induction k with
              | zero => intro x2 M hM hx2 hp; exact hp.elim
              | succ k ih =>
                intro x2 M hM hx2 hp
                unfold p_X12_load_143 at hp
                refine xJ_iload_n hX dX12_load_143 rfl ?_
                refine xJ_aload_n hX dX12_load_144 rfl ?_
                refine xJ_getR (b := (a + 3)) hX dX12_load_145 fd_X12_20 rfl (oX12_k hL) (oX12_r9 hL) ?_
                refine xJ_iconst hX dX12_load_148 ?_
                obtain ⟨h149, hp⟩ := hp
                refine xJ_iald hX dX12_load_149 (oX12_k9 hL) h149.1 (xnlt (oX12_n9 hL) h149.2) ?_
                refine xJ_icmp_ge hX dX12_load_150 (tgt := 202) (by decide) hx2 (hM _ _) (fun c150 => ?_) (fun c150 => ?_)
                · replace hp := hp.1 c150
                  refine xJ_aload_n hX dX12_load_202 rfl ?_
                  refine xJ_callV (As := []) hX hB dX12_load_203 lk_X12_190 im_X12_remember se_X12_remember rfl (by decide) (oX12_k hL) (c_X12_remember hL hM hp) (by decide) rfl rfl rfl (Nat.le_of_ble_eq_true rfl) (by decide) (by decide) (fun v t9 M203 hv => ?_) (fun _ _ _ q => q.elim)
                  obtain ⟨rfl, hM203, ht9, hp⟩ := hv
                  replace ht9 := ht9.symm
                  subst ht9
                  dsimp only [Option.toList, List.cons_append, List.nil_append]
                  refine xJ_aload_n hX dX12_load_206 rfl ?_
                  refine xJ_getR (b := (a + 3)) hX dX12_load_207 fd_X12_20 rfl (oX12_k hL) (oX12_r9 hL) ?_
                  refine xJ_aload_n hX dX12_load_210 rfl ?_
                  refine xJ_getR (b := (a + 2)) hX dX12_load_211 fd_X12_17 rfl (oX12_k hL) (oX12_r8 hL) ?_
                  refine xJ_sipush hX dX12_load_214 rfl ?_
                  refine xJ_callS (As := [_, _, _]) hX hB dX12_load_217 lk_X12_193 sm_X12_copy (c_X12_copy (oX12_k9 hL) (oX12_n9 hL) ⟨by decide, by decide⟩ (oX12_k8 hL) (oX12_n8 hL) ⟨by decide, by decide⟩ hM203 ⟨by decide, by decide⟩ hp) (by decide) rfl rfl rfl (Nat.le_of_ble_eq_true rfl) (by decide) (by decide) (fun v t9 M217 hv => ?_) (fun _ _ _ q => q.elim)
                  obtain ⟨rfl, hM217, ht9, hp⟩ := hv
                  replace ht9 := ht9.symm
                  subst ht9
                  dsimp only [Option.toList, List.cons_append, List.nil_append]
                  refine xJ_aload_n hX dX12_load_220 rfl ?_
                  refine xJ_getR (b := (a + 2)) hX dX12_load_221 fd_X12_17 rfl (oX12_k hL) (oX12_r8 hL) ?_
                  refine xJ_iconst hX dX12_load_224 ?_
                  obtain ⟨h225, hp⟩ := hp
                  refine xJ_iald hX dX12_load_225 (oX12_k8 hL) h225.1 (xnlt (oX12_n8 hL) h225.2) ?_
                  refine xJ_iret hX hB dX12_load_226 (by decide) (by decide) ⟨_, rfl, (hM217 _ _), hM217, rfl, hp⟩
                · replace hp := hp.2 c150
                  refine xJ_iconst hX dX12_load_153 ?_
                  refine xJ_istore_n hX dX12_load_154 (Nat.le_of_ble_eq_true rfl) rfl ?_
                  dsimp only [List.set]
                  have lp155 : ∀ (K196 : Int → xMe → Prop) (hK196 : ∀ (y2 : Int) (M : xMe) (hM : xMR M) (hy2 : xR y2) (hp : K196 y2 M), xJ X 0 0 t M 196 [vr a, vU, vi y2, vU] []) (k : Nat) (x2 : Int) (x3 : Int) (M : xMe) (hM : xMR M) (hx2 : xR x2) (hx3 : xR x3) (hp : p_X12_load_155 F a Q K196 k x2 x3 M), xJ X 0 0 t M 155 [vr a, vU, vi x2, vi x3] [] := by
                    intro K196 hK196 k
                    induction k with
                    | zero => intro x2 x3 M hM hx2 hx3 hp; exact hp.elim
                    | succ k ih =>
                      intro x2 x3 M hM hx2 hx3 hp
                      unfold p_X12_load_155 at hp
                      refine xJ_iload_n hX dX12_load_155 rfl ?_
                      refine xJ_aload_n hX dX12_load_156 rfl ?_
                      refine xJ_getR (b := (a + 3)) hX dX12_load_157 fd_X12_20 rfl (oX12_k hL) (oX12_r9 hL) ?_
                      refine xJ_iconst hX dX12_load_160 ?_
                      obtain ⟨h161, hp⟩ := hp
                      refine xJ_iald hX dX12_load_161 (oX12_k9 hL) h161.1 (xnlt (oX12_n9 hL) h161.2) ?_
                      refine xJ_icmp_ge hX dX12_load_162 (tgt := 196) (by decide) hx3 (hM _ _) (fun c162 => ?_) (fun c162 => ?_)
                      · replace hp := hp.1 c162
                        refine xJ_fg 3 ?_
                        dsimp only [List.set]
                        exact hK196 _ _ hM hx2 hp
                      · replace hp := hp.2 c162
                        refine xJ_aload_n hX dX12_load_165 rfl ?_
                        refine xJ_getR (b := (a + 3)) hX dX12_load_166 fd_X12_20 rfl (oX12_k hL) (oX12_r9 hL) ?_
                        refine xJ_iload_n hX dX12_load_169 rfl ?_
                        refine xJ_iload_n hX dX12_load_170 rfl ?_
                        refine xJ_callS (As := [_, _]) hX hB dX12_load_171 lk_X12_187 sm_X12_pairAt (c_X12_pairAt  hM hx2 hx3 hp) (by decide) rfl rfl rfl (Nat.le_of_ble_eq_true rfl) (by decide) (by decide) (fun v t9 M171 hv => ?_) (fun _ _ _ q => q.elim)
                        obtain ⟨r171, rfl, h171, hM171, ht9, hp⟩ := hv
                        replace ht9 := ht9.symm
                        subst ht9
                        dsimp only [Option.toList, List.cons_append, List.nil_append]
                        refine xJ_iconst hX dX12_load_174 ?_
                        refine xJ_iadd hX dX12_load_175 ?_
                        obtain ⟨h175, hp⟩ := hp
                        refine xJ_aload_n hX dX12_load_176 rfl ?_
                        refine xJ_getR (b := (a + 3)) hX dX12_load_177 fd_X12_20 rfl (oX12_k hL) (oX12_r9 hL) ?_
                        refine xJ_bipush hX dX12_load_180 rfl ?_
                        refine xJ_iconst hX dX12_load_182 ?_
                        refine xJ_iload_n hX dX12_load_183 rfl ?_
                        refine xJ_imul hX dX12_load_184 ?_
                        obtain ⟨h184, hp⟩ := hp
                        refine xJ_iadd hX dX12_load_185 ?_
                        obtain ⟨h185, hp⟩ := hp
                        refine xJ_iconst hX dX12_load_186 ?_
                        refine xJ_iadd hX dX12_load_187 ?_
                        obtain ⟨h187, hp⟩ := hp
                        obtain ⟨h188, hp⟩ := hp
                        refine xJ_iald hX dX12_load_188 (oX12_k9 hL) h188.1 (xnlt (oX12_n9 hL) h188.2) ?_
                        obtain ⟨h189, hp⟩ := hp
                        refine xJ_iastM hX dX12_load_189 (oX12_k9 hL) h189.1 (xnlt (oX12_n9 hL) h189.2) hM171 (hM171 _ _) (fun M189 e189 hM189 => ?_)
                        replace hp := hp M189 e189
                        refine xJ_iinc hX dX12_load_190 rfl rfl ?_
                        dsimp only [List.set]
                        obtain ⟨h190, hp⟩ := hp
                        refine xJ_goto hX dX12_load_193 (tgt := 155) (by decide) ?_
                        exact ih _ _ _ hM189 hx2 h190 hp
                  refine lp155 _ (fun y2 M hM hy2 hp => ?_) F _ _ _ hM hx2 ⟨by decide, by decide⟩ hp
                  · refine xJ_iinc hX dX12_load_196 rfl rfl ?_
                    dsimp only [List.set]
                    obtain ⟨h196, hp⟩ := hp
                    refine xJ_goto hX dX12_load_199 (tgt := 143) (by decide) ?_
                    exact ih _ _ hM h196 hp
            refine lp143 F _ _ hM130 ⟨by decide, by decide⟩ hp
          · replace hp := hp.2 c133
            refine xJ_aload_n hX dX12_load_136 rfl ?_
            refine xJ_getI hX dX12_load_137 fd_X12_58 rfl (oX12_k hL) ?_
            refine xJ_iret hX hB dX12_load_140 (by decide) (by decide) ⟨_, rfl, (hM130 _ _), hM130, rfl, hp⟩
      · replace hp := hp.2 c80
        refine xJ_aload_n hX dX12_load_83 rfl ?_
        refine xJ_bipush hX dX12_load_84 rfl ?_
        refine xJ_aload_n hX dX12_load_86 rfl ?_
        refine xJ_getI hX dX12_load_87 fd_X12_51 rfl (oX12_k hL) ?_
        refine xJ_callV (As := [_, _]) hX hB dX12_load_90 lk_X12_85 im_X12_report se_X12_report rfl (by decide) (oX12_k hL) (c_X12_report hL hM77 ⟨by decide, by decide⟩ (hM77 _ _) hp) (by decide) rfl rfl rfl (Nat.le_of_ble_eq_true rfl) (by decide) (by decide) (fun v t9 M90 hv => ?_) (fun _ _ _ q => q.elim)
        obtain ⟨rfl, hM90, ht9, hp⟩ := hv
        replace ht9 := ht9.symm
        subst ht9
        dsimp only [Option.toList, List.cons_append, List.nil_append]
        refine xJ_aload_n hX dX12_load_93 rfl ?_
        refine xJ_bipush hX dX12_load_94 rfl ?_
        refine xJ_callV (As := [_]) hX hB dX12_load_96 lk_X12_107 im_X12_expect se_X12_expect rfl (by decide) (oX12_k hL) (c_X12_expect hL hM90 ⟨by decide, by decide⟩ hp) (by decide) rfl rfl rfl (Nat.le_of_ble_eq_true rfl) (by decide) (by decide) (fun v t9 M96 hv => ?_) (fun _ _ _ q => q.elim)
        obtain ⟨rfl, hM96, ht9, hp⟩ := hv
        replace ht9 := ht9.symm
        subst ht9
        dsimp only [Option.toList, List.cons_append, List.nil_append]
        refine xJ_fg 1 ?_
        dsimp only [List.set]
        have lp99 : ∀ (K121 : xMe → Prop) (hK121 : ∀ (M : xMe) (hM : xMR M) (hp : K121 M), xJ X 0 0 t M 121 [vr a, vU, vU, vU] []) (k : Nat) (M : xMe) (hM : xMR M) (hp : p_X12_load_99 F a Q K121 k M), xJ X 0 0 t M 99 [vr a, vU, vU, vU] [] := by
          intro K121 hK121 k
          induction k with
          | zero => intro M hM hp; exact hp.elim
          | succ k ih =>
            intro M hM hp
            unfold p_X12_load_99 at hp
            refine xJ_aload_n hX dX12_load_99 rfl ?_
            refine xJ_callV (As := []) hX hB dX12_load_100 lk_X12_68 im_X12_isGood se_X12_isGood rfl (by decide) (oX12_k hL) (c_X12_isGood hL hM hp) (by decide) rfl rfl rfl (Nat.le_of_ble_eq_true rfl) (by decide) (by decide) (fun v t9 M100 hv => ?_) (fun _ _ _ q => q.elim)
            obtain ⟨r100, rfl, h100, hM100, ht9, hp⟩ := hv
            replace ht9 := ht9.symm
            subst ht9
            dsimp only [Option.toList, List.cons_append, List.nil_append]
            refine xJ_if_eq hX dX12_load_103 (tgt := 121) (by decide) h100 (fun c103 => ?_) (fun c103 => ?_)
            · replace hp := hp.1 c103
              exact hK121 _ hM100 hp
            · replace hp := hp.2 c103
              refine xJ_aload_n hX dX12_load_106 rfl ?_
              refine xJ_callV (As := []) hX hB dX12_load_107 lk_X12_72 im_X12_next se_X12_next rfl (by decide) (oX12_k hL) (c_X12_next hL hM100 hp) (by decide) rfl rfl rfl (Nat.le_of_ble_eq_true rfl) (by decide) (by decide) (fun v t9 M107 hv => ?_) (fun _ _ _ q => q.elim)
              obtain ⟨r107, rfl, h107, hM107, ht9, hp⟩ := hv
              replace ht9 := ht9.symm
              subst ht9
              dsimp only [Option.toList, List.cons_append, List.nil_append]
              refine xJ_iconst hX dX12_load_110 ?_
              refine xJ_icmp_eq hX dX12_load_111 (tgt := 121) (by decide) h107 ⟨by decide, by decide⟩ (fun c111 => ?_) (fun c111 => ?_)
              · replace hp := hp.1 c111
                exact hK121 _ hM107 hp
              · replace hp := hp.2 c111
                refine xJ_aload_n hX dX12_load_114 rfl ?_
                refine xJ_callV (As := []) hX hB dX12_load_115 lk_X12_184 im_X12_statement se_X12_statement rfl (by decide) (oX12_k hL) (c_X12_statement hL hM107 hp) (by decide) rfl rfl rfl (Nat.le_of_ble_eq_true rfl) (by decide) (by decide) (fun v t9 M115 hv => ?_) (fun _ _ _ q => q.elim)
                obtain ⟨rfl, hM115, ht9, hp⟩ := hv
                replace ht9 := ht9.symm
                subst ht9
                dsimp only [Option.toList, List.cons_append, List.nil_append]
                refine xJ_goto hX dX12_load_118 (tgt := 99) (by decide) ?_
                exact ih _ hM115 hp
        refine lp99 _ (fun M hM hp => ?_) F _ hM96 hp
        · refine xJ_aload_n hX dX12_load_121 rfl ?_
          refine xJ_aload_n hX dX12_load_122 rfl ?_
          refine xJ_getI hX dX12_load_123 fd_X12_61 rfl (oX12_k hL) ?_
          refine xJ_putIM hX dX12_load_126 fd_X12_13 ft_X12 rfl rfl rfl rfl (oX12_k hL) hM (hM _ _) (fun M126 e126 hM126 => ?_)
          replace hp := hp M126 e126
          refine xJ_aload_n hX dX12_load_129 rfl ?_
          refine xJ_callV (As := []) hX hB dX12_load_130 lk_X12_68 im_X12_isGood se_X12_isGood rfl (by decide) (oX12_k hL) (c_X12_isGood hL hM126 hp) (by decide) rfl rfl rfl (Nat.le_of_ble_eq_true rfl) (by decide) (by decide) (fun v t9 M130 hv => ?_) (fun _ _ _ q => q.elim)
          obtain ⟨r130, rfl, h130, hM130, ht9, hp⟩ := hv
          replace ht9 := ht9.symm
          subst ht9
          dsimp only [Option.toList, List.cons_append, List.nil_append]
          refine xJ_if_ne hX dX12_load_133 (tgt := 141) (by decide) h130 (fun c133 => ?_) (fun c133 => ?_)
          · replace hp := hp.1 c133
            refine xJ_iconst hX dX12_load_141 ?_
            refine xJ_istore_n hX dX12_load_142 (Nat.le_of_ble_eq_true rfl) rfl ?_
            dsimp only [List.set]
            have lp143 : ∀ (k : Nat) (x2 : Int) (M : xMe) (hM : xMR M) (hx2 : xR x2) (hp : p_X12_load_143 F a Q k x2 M), xJ X 0 0 t M 143 [vr a, vU, vi x2, vU] [] := by
              intro k
              induction k with
              | zero => intro x2 M hM hx2 hp; exact hp.elim
              | succ k ih =>
                intro x2 M hM hx2 hp
                unfold p_X12_load_143 at hp
                refine xJ_iload_n hX dX12_load_143 rfl ?_
                refine xJ_aload_n hX dX12_load_144 rfl ?_
                refine xJ_getR (b := (a + 3)) hX dX12_load_145 fd_X12_20 rfl (oX12_k hL) (oX12_r9 hL) ?_
                refine xJ_iconst hX dX12_load_148 ?_
                obtain ⟨h149, hp⟩ := hp
                refine xJ_iald hX dX12_load_149 (oX12_k9 hL) h149.1 (xnlt (oX12_n9 hL) h149.2) ?_
                refine xJ_icmp_ge hX dX12_load_150 (tgt := 202) (by decide) hx2 (hM _ _) (fun c150 => ?_) (fun c150 => ?_)
                · replace hp := hp.1 c150
                  refine xJ_aload_n hX dX12_load_202 rfl ?_
                  refine xJ_callV (As := []) hX hB dX12_load_203 lk_X12_190 im_X12_remember se_X12_remember rfl (by decide) (oX12_k hL) (c_X12_remember hL hM hp) (by decide) rfl rfl rfl (Nat.le_of_ble_eq_true rfl) (by decide) (by decide) (fun v t9 M203 hv => ?_) (fun _ _ _ q => q.elim)
                  obtain ⟨rfl, hM203, ht9, hp⟩ := hv
                  replace ht9 := ht9.symm
                  subst ht9
                  dsimp only [Option.toList, List.cons_append, List.nil_append]
                  refine xJ_aload_n hX dX12_load_206 rfl ?_
                  refine xJ_getR (b := (a + 3)) hX dX12_load_207 fd_X12_20 rfl (oX12_k hL) (oX12_r9 hL) ?_
                  refine xJ_aload_n hX dX12_load_210 rfl ?_
                  refine xJ_getR (b := (a + 2)) hX dX12_load_211 fd_X12_17 rfl (oX12_k hL) (oX12_r8 hL) ?_
                  refine xJ_sipush hX dX12_load_214 rfl ?_
                  refine xJ_callS (As := [_, _, _]) hX hB dX12_load_217 lk_X12_193 sm_X12_copy (c_X12_copy (oX12_k9 hL) (oX12_n9 hL) ⟨by decide, by decide⟩ (oX12_k8 hL) (oX12_n8 hL) ⟨by decide, by decide⟩ hM203 ⟨by decide, by decide⟩ hp) (by decide) rfl rfl rfl (Nat.le_of_ble_eq_true rfl) (by decide) (by decide) (fun v t9 M217 hv => ?_) (fun _ _ _ q => q.elim)
                  obtain ⟨rfl, hM217, ht9, hp⟩ := hv
                  replace ht9 := ht9.symm
                  subst ht9
                  dsimp only [Option.toList, List.cons_append, List.nil_append]
                  refine xJ_aload_n hX dX12_load_220 rfl ?_
                  refine xJ_getR (b := (a + 2)) hX dX12_load_221 fd_X12_17 rfl (oX12_k hL) (oX12_r8 hL) ?_
                  refine xJ_iconst hX dX12_load_224 ?_
                  obtain ⟨h225, hp⟩ := hp
                  refine xJ_iald hX dX12_load_225 (oX12_k8 hL) h225.1 (xnlt (oX12_n8 hL) h225.2) ?_
                  refine xJ_iret hX hB dX12_load_226 (by decide) (by decide) ⟨_, rfl, (hM217 _ _), hM217, rfl, hp⟩
                · replace hp := hp.2 c150
                  refine xJ_iconst hX dX12_load_153 ?_
                  refine xJ_istore_n hX dX12_load_154 (Nat.le_of_ble_eq_true rfl) rfl ?_
                  dsimp only [List.set]
                  have lp155 : ∀ (K196 : Int → xMe → Prop) (hK196 : ∀ (y2 : Int) (M : xMe) (hM : xMR M) (hy2 : xR y2) (hp : K196 y2 M), xJ X 0 0 t M 196 [vr a, vU, vi y2, vU] []) (k : Nat) (x2 : Int) (x3 : Int) (M : xMe) (hM : xMR M) (hx2 : xR x2) (hx3 : xR x3) (hp : p_X12_load_155 F a Q K196 k x2 x3 M), xJ X 0 0 t M 155 [vr a, vU, vi x2, vi x3] [] := by
                    intro K196 hK196 k
                    induction k with
                    | zero => intro x2 x3 M hM hx2 hx3 hp; exact hp.elim
                    | succ k ih =>
                      intro x2 x3 M hM hx2 hx3 hp
                      unfold p_X12_load_155 at hp
                      refine xJ_iload_n hX dX12_load_155 rfl ?_
                      refine xJ_aload_n hX dX12_load_156 rfl ?_
                      refine xJ_getR (b := (a + 3)) hX dX12_load_157 fd_X12_20 rfl (oX12_k hL) (oX12_r9 hL) ?_
                      refine xJ_iconst hX dX12_load_160 ?_
                      obtain ⟨h161, hp⟩ := hp
                      refine xJ_iald hX dX12_load_161 (oX12_k9 hL) h161.1 (xnlt (oX12_n9 hL) h161.2) ?_
                      refine xJ_icmp_ge hX dX12_load_162 (tgt := 196) (by decide) hx3 (hM _ _) (fun c162 => ?_) (fun c162 => ?_)
                      · replace hp := hp.1 c162
                        refine xJ_fg 3 ?_
                        dsimp only [List.set]
                        exact hK196 _ _ hM hx2 hp
                      · replace hp := hp.2 c162
                        refine xJ_aload_n hX dX12_load_165 rfl ?_
                        refine xJ_getR (b := (a + 3)) hX dX12_load_166 fd_X12_20 rfl (oX12_k hL) (oX12_r9 hL) ?_
                        refine xJ_iload_n hX dX12_load_169 rfl ?_
                        refine xJ_iload_n hX dX12_load_170 rfl ?_
                        refine xJ_callS (As := [_, _]) hX hB dX12_load_171 lk_X12_187 sm_X12_pairAt (c_X12_pairAt  hM hx2 hx3 hp) (by decide) rfl rfl rfl (Nat.le_of_ble_eq_true rfl) (by decide) (by decide) (fun v t9 M171 hv => ?_) (fun _ _ _ q => q.elim)
                        obtain ⟨r171, rfl, h171, hM171, ht9, hp⟩ := hv
                        replace ht9 := ht9.symm
                        subst ht9
                        dsimp only [Option.toList, List.cons_append, List.nil_append]
                        refine xJ_iconst hX dX12_load_174 ?_
                        refine xJ_iadd hX dX12_load_175 ?_
                        obtain ⟨h175, hp⟩ := hp
                        refine xJ_aload_n hX dX12_load_176 rfl ?_
                        refine xJ_getR (b := (a + 3)) hX dX12_load_177 fd_X12_20 rfl (oX12_k hL) (oX12_r9 hL) ?_
                        refine xJ_bipush hX dX12_load_180 rfl ?_
                        refine xJ_iconst hX dX12_load_182 ?_
                        refine xJ_iload_n hX dX12_load_183 rfl ?_
                        refine xJ_imul hX dX12_load_184 ?_
                        obtain ⟨h184, hp⟩ := hp
                        refine xJ_iadd hX dX12_load_185 ?_
                        obtain ⟨h185, hp⟩ := hp
                        refine xJ_iconst hX dX12_load_186 ?_
                        refine xJ_iadd hX dX12_load_187 ?_
                        obtain ⟨h187, hp⟩ := hp
                        obtain ⟨h188, hp⟩ := hp
                        refine xJ_iald hX dX12_load_188 (oX12_k9 hL) h188.1 (xnlt (oX12_n9 hL) h188.2) ?_
                        obtain ⟨h189, hp⟩ := hp
                        refine xJ_iastM hX dX12_load_189 (oX12_k9 hL) h189.1 (xnlt (oX12_n9 hL) h189.2) hM171 (hM171 _ _) (fun M189 e189 hM189 => ?_)
                        replace hp := hp M189 e189
                        refine xJ_iinc hX dX12_load_190 rfl rfl ?_
                        dsimp only [List.set]
                        obtain ⟨h190, hp⟩ := hp
                        refine xJ_goto hX dX12_load_193 (tgt := 155) (by decide) ?_
                        exact ih _ _ _ hM189 hx2 h190 hp
                  refine lp155 _ (fun y2 M hM hy2 hp => ?_) F _ _ _ hM hx2 ⟨by decide, by decide⟩ hp
                  · refine xJ_iinc hX dX12_load_196 rfl rfl ?_
                    dsimp only [List.set]
                    obtain ⟨h196, hp⟩ := hp
                    refine xJ_goto hX dX12_load_199 (tgt := 143) (by decide) ?_
                    exact ih _ _ hM h196 hp
            refine lp143 F _ _ hM130 ⟨by decide, by decide⟩ hp
          · replace hp := hp.2 c133
            refine xJ_aload_n hX dX12_load_136 rfl ?_
            refine xJ_getI hX dX12_load_137 fd_X12_58 rfl (oX12_k hL) ?_
            refine xJ_iret hX hB dX12_load_140 (by decide) (by decide) ⟨_, rfl, (hM130 _ _), hM130, rfl, hp⟩
    · replace hp := hp.2 c27
      refine xJ_iconst hX dX12_load_30 ?_
      refine xJ_iret hX hB dX12_load_31 (by decide) (by decide) ⟨_, rfl, ⟨by decide, by decide⟩, hM24, rfl, hp⟩
