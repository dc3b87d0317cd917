def p_X13_init (F : Nat) (n : Nat) (tE : xTh) (x0 : Nat) (x1 : Int) (ME : xMe) (Q : xTh → xMe → Prop) : Prop :=
  (∀ M6 : xMe, M6 = xw ME x0 0 x1 → Q tE M6)
set_option maxHeartbeats 8000000 in
set_option maxRecDepth 100000 in
theorem c_X13_init {G : xGx} {tE : xTh} {ME : xMe} {F nE : Nat} {x0 : Nat} {x1 : Int} {Q : xTh → xMe → Prop} (hME : xMR ME) (hkx0 : xk tE x0 = 19) (hx1 : xR x1) (hp : p_X13_init F nE tE x0 x1 ME Q) : xCt G yX13_init cX13_init 2 none 2 nE (64 * nE) [vr x0, vi x1] tE ME (fun v t' M' => v = none ∧ xMR M' ∧ xke tE t' ∧ Q t' M') (fun _ _ _ => False) := by
  refine xCt_of (L0 := [vr x0, vi x1]) (by decide +kernel) (Nat.le_of_ble_eq_true rfl) rfl ?_
  intro X hX hB
  unfold p_X13_init at hp
  refine xJ_aload_n hX dX13_init_0 rfl ?_
  refine xJ_objInit hX hB dX13_init_1 lj_X13_1 jw_obj_im jw_obj_co rfl (by decide) (Nat.le_of_ble_eq_true rfl) ?_
  refine xJ_aload_n hX dX13_init_4 rfl ?_
  refine xJ_iload_n hX dX13_init_5 rfl ?_
  refine xJ_putIM hX dX13_init_6 fd_X13_7 ft_X13 rfl rfl rfl rfl hkx0 hME hx1 (fun M6 e6 hM6 => ?_)
  replace hp := hp M6 e6
  exact xJ_vret hX hB dX13_init_9 (by omega) (by omega) ⟨rfl, hM6, (xke_refl _), hp⟩
def p_X13_below (F : Nat) (n : Nat) (tE : xTh) (x0 : Nat) (x1 : Int) (ME : xMe) (Q : Int → xTh → xMe → Prop) : Prop :=
  (∀ M12 : xMe, M12 = xw ME x0 0 (Int.bmod ((Int.bmod (1103515245 * (ME x0 0)) 4294967296) + 12345) 4294967296) → (x1 ≠ (0 : Int) ∧ xR (Int.tmod ((M12 x0 0) % 4294967296 / 65536) x1)) ∧ Q (Int.tmod ((M12 x0 0) % 4294967296 / 65536) x1) tE M12)
set_option maxHeartbeats 8000000 in
set_option maxRecDepth 100000 in
theorem c_X13_below {G : xGx} {tE : xTh} {ME : xMe} {F nE : Nat} {x0 : Nat} {x1 : Int} {Q : Int → xTh → xMe → Prop} (hME : xMR ME) (hkx0 : xk tE x0 = 19) (hx1 : xR x1) (hp : p_X13_below F nE tE x0 x1 ME Q) : xCt G yX13_below cX13_below 2 (some .int) 1 nE (64 * nE) [vr x0, vi x1] tE ME (fun v t' M' => ∃ r, v = some (vi r) ∧ xR r ∧ xMR M' ∧ xke tE t' ∧ Q r t' M') (fun _ _ _ => False) := by
  refine xCt_of (L0 := [vr x0, vi x1]) (by decide +kernel) (Nat.le_of_ble_eq_true rfl) rfl ?_
  intro X hX hB
  unfold p_X13_below at hp
  refine xJ_aload_n hX dX13_below_0 rfl ?_
  refine xJ_ldc (1103515245) hX dX13_below_1 kc_X13_13 ?_
  refine xJ_aload_n hX dX13_below_3 rfl ?_
  refine xJ_getI hX dX13_below_4 fd_X13_7 rfl hkx0 ?_
  refine xJ_imulW hX dX13_below_7 ?_
  refine xJ_sipush hX dX13_below_8 rfl ?_
  refine xJ_iaddW hX dX13_below_11 ?_
  refine xJ_putIM hX dX13_below_12 fd_X13_7 ft_X13 rfl rfl rfl rfl hkx0 hME (xR_bm32 _) (fun M12 e12 hM12 => ?_)
  replace hp := hp M12 e12
  refine xJ_aload_n hX dX13_below_15 rfl ?_
  refine xJ_getI hX dX13_below_16 fd_X13_7 rfl hkx0 ?_
  refine xJ_bipush hX dX13_below_19 rfl ?_
  refine xJ_iushr16 hX dX13_below_21 ?_
  refine xJ_iload_n hX dX13_below_22 rfl ?_
  obtain ⟨h23, hp⟩ := hp
  refine xJ_irem hX dX13_below_23 (xR_us _) hx1 h23.1 ?_
  exact xJ_iret hX hB dX13_below_24 (by omega) (by omega) ⟨_, rfl, h23.2, hM12, (xke_refl _), hp⟩
def p_X12_init (F : Nat) (n : Nat) (tE : xTh) (x0 : Nat) (ME : xMe) (Q : xTh → xMe → Prop) : Prop :=
  Q tE ME
set_option maxHeartbeats 8000000 in
set_option maxRecDepth 100000 in
theorem c_X12_init {G : xGx} {tE : xTh} {ME : xMe} {F nE : Nat} {x0 : Nat} {Q : xTh → xMe → Prop} (hME : xMR ME) (hkx0 : xk tE x0 = 12)  (hp : p_X12_init F nE tE x0 ME Q) : xCt G yX12_init cX12_init 1 none 2 nE (64 * nE) [vr x0] tE ME (fun v t' M' => v = none ∧ xMR M' ∧ xke tE t' ∧ Q t' M') (fun _ _ _ => False) := by
  refine xCt_of (L0 := [vr x0]) (by decide +kernel) (Nat.le_of_ble_eq_true rfl) rfl ?_
  intro X hX hB
  unfold p_X12_init at hp
  refine xJ_aload_n hX dX12_init_0 rfl ?_
  refine xJ_objInit hX hB dX12_init_1 lj_X12_1 jw_obj_im jw_obj_co rfl (by decide) (Nat.le_of_ble_eq_true rfl) ?_
  exact xJ_vret hX hB dX12_init_4 (by omega) (by omega) ⟨rfl, hME, (xke_refl _), hp⟩
def p_X12_random_67 (F : Nat) (PS : Nat → xTh → Nat → Int → xMe → (Nat → xTh → xMe → Prop) → Prop) (Q : Nat → xTh → xMe → Prop) (n : Nat) (x0 : Nat) (x1 : Int) (x2 : Nat) (y0 : Int) (y1 : Nat) (t : xTh) (M : xMe) : Prop :=
    (∀ M67 : xMe, M67 = xw M y1 1 y0 → (((M67 x2 0) ≤ 1 → Q x2 t M67) ∧ (1 < (M67 x2 0) → (xR (x1 - 1)) ∧ (∃ k83 : Nat, k83 ≤ n ∧ PS k83 t x0 (x1 - 1) M67 (fun r83 t83 M83 => (∀ t86 : xTh, t86 = xwr t83 x2 2 (some r83) → (xR (x1 - 1)) ∧ (∃ k94 : Nat, k94 ≤ (n - k83) ∧ PS k94 t86 x0 (x1 - 1) M83 (fun r94 t94 M94 => (∀ t97 : xTh, t97 = xwr t94 x2 3 (some r94) → Q x2 t97 M94)))))))))
def p_X12_random_27 (F : Nat) (PS : Nat → xTh → Nat → Int → xMe → (Nat → xTh → xMe → Prop) → Prop) (Q : Nat → xTh → xMe → Prop) (n : Nat) (x0 : Nat) (x1 : Int) (x2 : Nat) (y0 : Int) (y1 : Nat) (t : xTh) (M : xMe) : Prop :=
    (∀ M27 : xMe, M27 = xw M y1 0 y0 → (((M27 x2 0) ≠ 0 → (∃ k64 : Nat, k64 ≤ n ∧ p_X13_below F k64 t x0 4 M27 (fun r64 t64 M64 => p_X12_random_67 F PS Q ((n - k64)) x0 x1 x2 r64 x2 t64 M64))) ∧ ((M27 x2 0) = 0 → (∃ k42 : Nat, k42 ≤ n ∧ p_X13_below F k42 t x0 8 M27 (fun r42 t42 M42 => ((r42 ≠ 0 → (∃ k56 : Nat, k56 ≤ (n - k42) ∧ p_X13_below F k56 t42 x0 9 M42 (fun r56 t56 M56 => p_X12_random_67 F PS Q (((n - k42) - k56)) x0 x1 x2 r56 x2 t56 M56))) ∧ (r42 = 0 → (∃ k56 : Nat, k56 ≤ (n - k42) ∧ p_X13_below F k56 t42 x0 10000 M42 (fun r56 t56 M56 => p_X12_random_67 F PS Q (((n - k42) - k56)) x0 x1 x2 r56 x2 t56 M56)))))))))
def p_X12_random (F : Nat) (PS : Nat → xTh → Nat → Int → xMe → (Nat → xTh → xMe → Prop) → Prop) (n : Nat) (tE : xTh) (x0 : Nat) (x1 : Int) (ME : xMe) (Q : Nat → xTh → xMe → Prop) : Prop :=
  (1 ≤ n) ∧ (∀ (a0 : Nat) (t0 : xTh) (M0 : xMe), a0 = xz tE → t0 = xnw tE 12 0 → M0 = xw0 ME a0 → (∃ k4 : Nat, k4 ≤ (n - 1) ∧ p_X12_init F k4 t0 a0 M0 (fun t4 M4 => ((x1 ≠ 0 → (∃ k24 : Nat, k24 ≤ ((n - 1) - k4) ∧ p_X13_below F k24 t4 x0 6 M4 (fun r24 t24 M24 => p_X12_random_27 F PS Q ((((n - 1) - k4) - k24)) x0 x1 a0 r24 a0 t24 M24))) ∧ (x1 = 0 → (∃ k15 : Nat, k15 ≤ ((n - 1) - k4) ∧ p_X13_below F k15 t4 x0 2 M4 (fun r15 t15 M15 => p_X12_random_27 F PS Q ((((n - 1) - k4) - k15)) x0 x1 a0 r15 a0 t15 M15)))))))
set_option maxHeartbeats 8000000 in
set_option maxRecDepth 100000 in
theorem c_X12_random {G : xGx} {tE : xTh} {ME : xMe} {F nE : Nat} {PS : Nat → xTh → Nat → Int → xMe → (Nat → xTh → xMe → Prop) → Prop} {dn : Nat} {x0 : Nat} {x1 : Int} {Q : Nat → xTh → xMe → Prop} (hPS : ∀ (n : Nat) {tE : xTh} {ME : xMe} {x0 : Nat} {x1 : Int} (Q : Nat → xTh → xMe → Prop), xMR ME → xk tE x0 = 19 → xR x1 → PS n tE x0 x1 ME Q → xCt G yX12_random cX12_random 3 (some (.object "PacketTollLaw$Node")) dn n (64 * n) [vr x0, vi x1] tE ME (fun v t' M' => ∃ r, v = some (vr r) ∧ xk t' r = 12 ∧ xMR M' ∧ xke tE t' ∧ Q r t' M') (fun _ _ _ => False)) (hdn : 3 ≤ dn) (hME : xMR ME) (hkx0 : xk tE x0 = 19) (hx1 : xR x1) (hp : p_X12_random F PS nE tE x0 x1 ME Q) : xCt G yX12_random cX12_random 3 (some (.object "PacketTollLaw$Node")) (dn + 1) nE (64 * nE) [vr x0, vi x1] tE ME (fun v t' M' => ∃ r, v = some (vr r) ∧ xk t' r = 12 ∧ xMR M' ∧ xke tE t' ∧ Q r t' M') (fun _ _ _ => False) := by
  refine xCt_of (L0 := [vr x0, vi x1, vU]) (by decide +kernel) (Nat.le_of_ble_eq_true rfl) rfl ?_
  intro X hX hB
  unfold p_X12_random at hp
  obtain ⟨hn0, hp⟩ := hp
  refine xJ_newE (ci := 12) hX hB hME dX12_random_0 rfl (by decide) ft_X12 uw_X12 kl_X12_7 is_X12 in_X12 rfl (by decide) (by omega) (by omega) (fun a0 t0 M0 ea0 et0 e0 hM0 hq0 hka0 => ?_)
  replace hp := hp a0 t0 M0 ea0 et0 e0
  refine xJ_dup hX dX12_random_3 rfl ?_
  obtain ⟨k4, hn4, hp⟩ := hp
  refine xJ_callI (As := []) hX hB dX12_random_4 lk_X12_9 im_X12_init rfl (c_X12_init hM0 hka0 hp) (by omega) rfl rfl rfl (Nat.le_of_ble_eq_true rfl) (by omega) (by omega) (fun v t4 M4 hv => ?_)
  clear hp
  obtain ⟨rfl, hM4, hq4, hp⟩ := hv
  dsimp only [Option.toList, List.cons_append, List.nil_append]
  refine xJ_astore_n hX dX12_random_7 (Nat.le_of_ble_eq_true rfl) rfl ?_
  dsimp only [List.set]
  refine xJ_aload_n hX dX12_random_8 rfl ?_
  refine xJ_iload_n hX dX12_random_9 rfl ?_
  have l27 : ∀ (c s n : Nat) (x0 : Nat) (x1 : Int) (x2 : Nat) (y0 : Int) (y1 : Nat) (t : xTh) (M : xMe) (hc : c + n ≤ nE) (hs : s + 64 * n ≤ 64 * nE) (hM : xMR M) (hqE : xke tE t) (hkx0 : xk t x0 = 19) (hx1 : xR x1) (hkx2 : xk t x2 = 12) (hy0 : xR y0) (hky1 : xk t y1 = 12) (hp : p_X12_random_27 F PS Q n x0 x1 x2 y0 y1 t M), xJ X c s t M 27 [vr x0, vi x1, vr x2] [vi y0, vr y1] := by
    intro c s n x0 x1 x2 y0 y1 t M hc hs hM hqE hkx0 hx1 hkx2 hy0 hky1 hp
    unfold p_X12_random_27 at hp
    refine xJ_putIM hX dX12_random_27 fd_X12_16 ft_X12 rfl rfl rfl rfl hky1 hM hy0 (fun M27 e27 hM27 => ?_)
    replace hp := hp M27 e27
    refine xJ_aload_n hX dX12_random_30 rfl ?_
    refine xJ_aload_n hX dX12_random_31 rfl ?_
    refine xJ_getI hX dX12_random_32 fd_X12_16 rfl hkx2 ?_
    have l67 : ∀ (c s n : Nat) (x0 : Nat) (x1 : Int) (x2 : Nat) (y0 : Int) (y1 : Nat) (t : xTh) (M : xMe) (hc : c + n ≤ nE) (hs : s + 64 * n ≤ 64 * nE) (hM : xMR M) (hqE : xke tE t) (hkx0 : xk t x0 = 19) (hx1 : xR x1) (hkx2 : xk t x2 = 12) (hy0 : xR y0) (hky1 : xk t y1 = 12) (hp : p_X12_random_67 F PS Q n x0 x1 x2 y0 y1 t M), xJ X c s t M 67 [vr x0, vi x1, vr x2] [vi y0, vr y1] := by
      intro c s n x0 x1 x2 y0 y1 t M hc hs hM hqE hkx0 hx1 hkx2 hy0 hky1 hp
      unfold p_X12_random_67 at hp
      refine xJ_putIM hX dX12_random_67 fd_X12_20 ft_X12 rfl rfl rfl rfl hky1 hM hy0 (fun M67 e67 hM67 => ?_)
      replace hp := hp M67 e67
      refine xJ_aload_n hX dX12_random_70 rfl ?_
      refine xJ_getI hX dX12_random_71 fd_X12_16 rfl hkx2 ?_
      refine xJ_iconst hX dX12_random_74 ?_
      refine xJ_icmp_le hX dX12_random_75 (tgt := 100) (by decide) (hM67 _ _) ⟨by decide, by decide⟩ (fun c75 => ?_) (fun c75 => ?_)
      · replace hp := hp.1 c75
        refine xJ_aload_n hX dX12_random_100 rfl ?_
        exact xJ_aret hX hB dX12_random_101 (Or.inl ⟨_, rfl⟩) (Or.inr ⟨_, rfl⟩) (by omega) (by omega) ⟨_, rfl, hkx2, hM67, hqE, hp⟩
      · replace hp := hp.2 c75
        refine xJ_aload_n hX dX12_random_78 rfl ?_
        refine xJ_aload_n hX dX12_random_79 rfl ?_
        refine xJ_iload_n hX dX12_random_80 rfl ?_
        refine xJ_iconst hX dX12_random_81 ?_
        refine xJ_isub hX dX12_random_82 ?_
        obtain ⟨h82, hp⟩ := hp
        obtain ⟨k83, hn83, hp⟩ := hp
        refine xJ_callS (As := [_, _]) hX hB dX12_random_83 lk_X12_23 sm_X12_random (hPS _ _ hM67 hkx0 h82 hp) (by omega) rfl rfl rfl (Nat.le_of_ble_eq_true rfl) (by omega) (by omega) (fun v t83 M83 hv => ?_) (fun _ _ _ q => q.elim)
        clear hp
        obtain ⟨r83, rfl, hk83, hM83, hq83, hp⟩ := hv
        dsimp only [Option.toList, List.cons_append, List.nil_append]
        refine xJ_putRE (x := (some r83)) hX dX12_random_86 fd_X12_27 ft_X12 rfl rfl rfl rfl (xke_k hq83 hkx2 (by decide)) (fun t86 et86 hq86 => ?_)
        replace hp := hp t86 et86
        refine xJ_aload_n hX dX12_random_89 rfl ?_
        refine xJ_aload_n hX dX12_random_90 rfl ?_
        refine xJ_iload_n hX dX12_random_91 rfl ?_
        refine xJ_iconst hX dX12_random_92 ?_
        refine xJ_isub hX dX12_random_93 ?_
        obtain ⟨h93, hp⟩ := hp
        obtain ⟨k94, hn94, hp⟩ := hp
        refine xJ_callS (As := [_, _]) hX hB dX12_random_94 lk_X12_23 sm_X12_random (hPS _ _ hM83 (xke_k hq86 (xke_k hq83 hkx0 (by decide)) (by decide)) h93 hp) (by omega) rfl rfl rfl (Nat.le_of_ble_eq_true rfl) (by omega) (by omega) (fun v t94 M94 hv => ?_) (fun _ _ _ q => q.elim)
        clear hp
        obtain ⟨r94, rfl, hk94, hM94, hq94, hp⟩ := hv
        dsimp only [Option.toList, List.cons_append, List.nil_append]
        refine xJ_putRE (x := (some r94)) hX dX12_random_97 fd_X12_31 ft_X12 rfl rfl rfl rfl (xke_k hq94 (xke_k hq86 (xke_k hq83 hkx2 (by decide)) (by decide)) (by decide)) (fun t97 et97 hq97 => ?_)
        replace hp := hp t97 et97
        refine xJ_aload_n hX dX12_random_100 rfl ?_
        exact xJ_aret hX hB dX12_random_101 (Or.inl ⟨_, rfl⟩) (Or.inr ⟨_, rfl⟩) (by omega) (by omega) ⟨_, rfl, (xke_k hq97 (xke_k hq94 (xke_k hq86 (xke_k hq83 hkx2 (by decide)) (by decide)) (by decide)) (by decide)), hM94, (xke_trans (xke_trans (xke_trans (xke_trans hqE hq83) hq86) hq94) hq97), hp⟩
    refine xJ_if_ne hX dX12_random_35 (tgt := 62) (by decide) (hM27 _ _) (fun c35 => ?_) (fun c35 => ?_)
    · replace hp := hp.1 c35
      refine xJ_aload_n hX dX12_random_62 rfl ?_
      refine xJ_iconst hX dX12_random_63 ?_
      obtain ⟨k64, hn64, hp⟩ := hp
      refine xJ_callV (As := [_]) hX hB dX12_random_64 lk_X12_10 im_X13_below se_X13_below rfl (by decide) hkx0 (c_X13_below hM27 hkx0 ⟨by decide, by decide⟩ hp) (by omega) rfl rfl rfl (Nat.le_of_ble_eq_true rfl) (by omega) (by omega) (fun v t64 M64 hv => ?_) (fun _ _ _ q => q.elim)
      clear hp
      obtain ⟨r64, rfl, h64, hM64, hq64, hp⟩ := hv
      dsimp only [Option.toList, List.cons_append, List.nil_append]
      exact l67 _ _ _ _ _ _ _ _ _ _ (by omega) (by omega) hM64 (xke_trans hqE hq64) (xke_k hq64 hkx0 (by decide)) hx1 (xke_k hq64 hkx2 (by decide)) h64 (xke_k hq64 hkx2 (by decide)) hp
    · replace hp := hp.2 c35
      refine xJ_aload_n hX dX12_random_38 rfl ?_
      refine xJ_aload_n hX dX12_random_39 rfl ?_
      refine xJ_bipush hX dX12_random_40 rfl ?_
      obtain ⟨k42, hn42, hp⟩ := hp
      refine xJ_callV (As := [_]) hX hB dX12_random_42 lk_X12_10 im_X13_below se_X13_below rfl (by decide) hkx0 (c_X13_below hM27 hkx0 ⟨by decide, by decide⟩ hp) (by omega) rfl rfl rfl (Nat.le_of_ble_eq_true rfl) (by omega) (by omega) (fun v t42 M42 hv => ?_) (fun _ _ _ q => q.elim)
      clear hp
      obtain ⟨r42, rfl, h42, hM42, hq42, hp⟩ := hv
      dsimp only [Option.toList, List.cons_append, List.nil_append]
      refine xJ_if_ne hX dX12_random_45 (tgt := 54) (by decide) h42 (fun c45 => ?_) (fun c45 => ?_)
      · replace hp := hp.1 c45
        refine xJ_bipush hX dX12_random_54 rfl ?_
        obtain ⟨k56, hn56, hp⟩ := hp
        refine xJ_callV (As := [_]) hX hB dX12_random_56 lk_X12_10 im_X13_below se_X13_below rfl (by decide) (xke_k hq42 hkx0 (by decide)) (c_X13_below hM42 (xke_k hq42 hkx0 (by decide)) ⟨by decide, by decide⟩ hp) (by omega) rfl rfl rfl (Nat.le_of_ble_eq_true rfl) (by omega) (by omega) (fun v t56 M56 hv => ?_) (fun _ _ _ q => q.elim)
        clear hp
        obtain ⟨r56, rfl, h56, hM56, hq56, hp⟩ := hv
        dsimp only [Option.toList, List.cons_append, List.nil_append]
        refine xJ_goto hX dX12_random_59 (tgt := 67) (by decide) ?_
        exact l67 _ _ _ _ _ _ _ _ _ _ (by omega) (by omega) hM56 (xke_trans (xke_trans hqE hq42) hq56) (xke_k hq56 (xke_k hq42 hkx0 (by decide)) (by decide)) hx1 (xke_k hq56 (xke_k hq42 hkx2 (by decide)) (by decide)) h56 (xke_k hq56 (xke_k hq42 hkx2 (by decide)) (by decide)) hp
      · replace hp := hp.2 c45
        refine xJ_sipush hX dX12_random_48 rfl ?_
        refine xJ_goto hX dX12_random_51 (tgt := 56) (by decide) ?_
        obtain ⟨k56, hn56, hp⟩ := hp
        refine xJ_callV (As := [_]) hX hB dX12_random_56 lk_X12_10 im_X13_below se_X13_below rfl (by decide) (xke_k hq42 hkx0 (by decide)) (c_X13_below hM42 (xke_k hq42 hkx0 (by decide)) ⟨by decide, by decide⟩ hp) (by omega) rfl rfl rfl (Nat.le_of_ble_eq_true rfl) (by omega) (by omega) (fun v t56 M56 hv => ?_) (fun _ _ _ q => q.elim)
        clear hp
        obtain ⟨r56, rfl, h56, hM56, hq56, hp⟩ := hv
        dsimp only [Option.toList, List.cons_append, List.nil_append]
        refine xJ_goto hX dX12_random_59 (tgt := 67) (by decide) ?_
        exact l67 _ _ _ _ _ _ _ _ _ _ (by omega) (by omega) hM56 (xke_trans (xke_trans hqE hq42) hq56) (xke_k hq56 (xke_k hq42 hkx0 (by decide)) (by decide)) hx1 (xke_k hq56 (xke_k hq42 hkx2 (by decide)) (by decide)) h56 (xke_k hq56 (xke_k hq42 hkx2 (by decide)) (by decide)) hp
  refine xJ_if_ne hX dX12_random_10 (tgt := 21) (by decide) hx1 (fun c10 => ?_) (fun c10 => ?_)
  · replace hp := hp.1 c10
    refine xJ_aload_n hX dX12_random_21 rfl ?_
    refine xJ_bipush hX dX12_random_22 rfl ?_
    obtain ⟨k24, hn24, hp⟩ := hp
    refine xJ_callV (As := [_]) hX hB dX12_random_24 lk_X12_10 im_X13_below se_X13_below rfl (by decide) (xke_k hq4 (xke_k hq0 hkx0 (by decide)) (by decide)) (c_X13_below hM4 (xke_k hq4 (xke_k hq0 hkx0 (by decide)) (by decide)) ⟨by decide, by decide⟩ hp) (by omega) rfl rfl rfl (Nat.le_of_ble_eq_true rfl) (by omega) (by omega) (fun v t24 M24 hv => ?_) (fun _ _ _ q => q.elim)
    clear hp
    obtain ⟨r24, rfl, h24, hM24, hq24, hp⟩ := hv
    dsimp only [Option.toList, List.cons_append, List.nil_append]
    exact l27 _ _ _ _ _ _ _ _ _ _ (by omega) (by omega) hM24 (xke_trans (xke_trans (xke_trans (xke_refl _) hq0) hq4) hq24) (xke_k hq24 (xke_k hq4 (xke_k hq0 hkx0 (by decide)) (by decide)) (by decide)) hx1 (xke_k hq24 (xke_k hq4 hka0 (by decide)) (by decide)) h24 (xke_k hq24 (xke_k hq4 hka0 (by decide)) (by decide)) hp
  · replace hp := hp.2 c10
    refine xJ_aload_n hX dX12_random_13 rfl ?_
    refine xJ_iconst hX dX12_random_14 ?_
    obtain ⟨k15, hn15, hp⟩ := hp
    refine xJ_callV (As := [_]) hX hB dX12_random_15 lk_X12_10 im_X13_below se_X13_below rfl (by decide) (xke_k hq4 (xke_k hq0 hkx0 (by decide)) (by decide)) (c_X13_below hM4 (xke_k hq4 (xke_k hq0 hkx0 (by decide)) (by decide)) ⟨by decide, by decide⟩ hp) (by omega) rfl rfl rfl (Nat.le_of_ble_eq_true rfl) (by omega) (by omega) (fun v t15 M15 hv => ?_) (fun _ _ _ q => q.elim)
    clear hp
    obtain ⟨r15, rfl, h15, hM15, hq15, hp⟩ := hv
    dsimp only [Option.toList, List.cons_append, List.nil_append]
    refine xJ_goto hX dX12_random_18 (tgt := 27) (by decide) ?_
    exact l27 _ _ _ _ _ _ _ _ _ _ (by omega) (by omega) hM15 (xke_trans (xke_trans (xke_trans (xke_refl _) hq0) hq4) hq15) (xke_k hq15 (xke_k hq4 (xke_k hq0 hkx0 (by decide)) (by decide)) (by decide)) hx1 (xke_k hq15 (xke_k hq4 hka0 (by decide)) (by decide)) h15 (xke_k hq15 (xke_k hq4 hka0 (by decide)) (by decide)) hp
def p_X12_randomR (F : Nat) : Nat → Nat → xTh → Nat → Int → xMe → (Nat → xTh → xMe → Prop) → Prop
  | 0, _, _, _, _, _, _ => False
  | k + 1, n, t, x0, x1, M, Q => p_X12_random F (p_X12_randomR F k) n t x0 x1 M Q
theorem c_X12_randomR {G : xGx} {F : Nat} : ∀ (k : Nat) {nE : Nat} {tE : xTh} {ME : xMe} {x0 : Nat} {x1 : Int} {Q : Nat → xTh → xMe → Prop}, xMR ME → xk tE x0 = 19 → xR x1 → p_X12_randomR F k nE tE x0 x1 ME Q → xCt G yX12_random cX12_random 3 (some (.object "PacketTollLaw$Node")) (k + 3) nE (64 * nE) [vr x0, vi x1] tE ME (fun v t' M' => ∃ r, v = some (vr r) ∧ xk t' r = 12 ∧ xMR M' ∧ xke tE t' ∧ Q r t' M') (fun _ _ _ => False)
  | 0 => by intro hM hkx0 hx1 hp; exact hp.elim
  | k + 1 => by
    intro hM hkx0 hx1 hp
    exact c_X12_random (dn := k + 3) (fun n _ _ _ _ Q q1 qhkx0 qhx1 qp => c_X12_randomR k q1 qhkx0 qhx1 qp) (by omega) hM hkx0 hx1 hp
def p_X12_value_109 (F : Nat) (PS : Nat → xTh → Nat → Nat → xMe → (Int → xTh → xMe → Prop) → Prop) (Q : Int → xTh → xMe → Prop) (n : Nat) (y0 : Int) (t : xTh) (M : xMe) : Prop :=
    Q (max ((-1000000)) (min 1000000 y0)) t M
def p_X12_value (F : Nat) (PS : Nat → xTh → Nat → Nat → xMe → (Int → xTh → xMe → Prop) → Prop) (n : Nat) (tE : xTh) (x0 : Nat) (x1 : Nat) (ME : xMe) (Q : Int → xTh → xMe → Prop) : Prop :=
  ((2 ≤ (ME x0 0) → (∃ b31 : Nat, xr tE x0 2 = some b31 ∧ xk tE b31 = 12 ∧ (∃ k35 : Nat, k35 ≤ n ∧ PS k35 tE b31 x1 ME (fun r35 t35 M35 => (∃ b40 : Nat, xr t35 x0 3 = some b40 ∧ xk t35 b40 = 12 ∧ (∃ k44 : Nat, k44 ≤ (n - k35) ∧ PS k44 t35 b40 x1 M35 (fun r44 t44 M44 => (((M44 x0 0) ≠ 2 → (((M44 x0 0) ≠ 3 → (((M44 x0 0) ≠ 4 → (((xcmp r44 0) ≠ 0 → (r44 ≠ (0 : Int) ∧ xRl (Int.tdiv r35 r44)) ∧ p_X12_value_109 F PS Q (((n - k35) - k44)) (Int.tdiv r35 r44) t44 M44) ∧ ((xcmp r44 0) = 0 → p_X12_value_109 F PS Q (((n - k35) - k44)) 0 t44 M44))) ∧ ((M44 x0 0) = 4 → (xRl (r35 * r44)) ∧ p_X12_value_109 F PS Q (((n - k35) - k44)) (r35 * r44) t44 M44))) ∧ ((M44 x0 0) = 3 → (xRl (r35 - r44)) ∧ p_X12_value_109 F PS Q (((n - k35) - k44)) (r35 - r44) t44 M44))) ∧ ((M44 x0 0) = 2 → (xRl (r35 + r44)) ∧ p_X12_value_109 F PS Q (((n - k35) - k44)) (r35 + r44) t44 M44))))))))) ∧ ((ME x0 0) < 2 → (((ME x0 0) ≠ 0 → ((0 : Int) ≤ (ME x0 1) ∧ (ME x0 1) < (xn tE x1 : Int)) ∧ Q (ME x1 (ME x0 1).toNat) tE ME) ∧ ((ME x0 0) = 0 → Q (ME x0 1) tE ME))))
set_option maxHeartbeats 8000000 in
set_option maxRecDepth 100000 in
theorem c_X12_value {G : xGx} {tE : xTh} {ME : xMe} {F nE : Nat} {PS : Nat → xTh → Nat → Nat → xMe → (Int → xTh → xMe → Prop) → Prop} {dn : Nat} {x0 : Nat} {x1 : Nat} {Q : Int → xTh → xMe → Prop} (hPS : ∀ (n : Nat) {tE : xTh} {ME : xMe} {x0 : Nat} {x1 : Nat} (Q : Int → xTh → xMe → Prop), xMR ME → xk tE x0 = 12 → xk tE x1 = 15 → PS n tE x0 x1 ME Q → xCt G yX12_value cX12_value 8 (some .long) dn n (64 * n) [vr x0, vr x1] tE ME (fun v t' M' => ∃ r, v = some (vl r) ∧ xRl r ∧ xMR M' ∧ xke tE t' ∧ Q r t' M') (fun _ _ _ => False)) (hdn : 2 ≤ dn) (hME : xMR ME) (hkx0 : xk tE x0 = 12) (hkx1 : xk tE x1 = 15)  (hp : p_X12_value F PS nE tE x0 x1 ME Q) : xCt G yX12_value cX12_value 8 (some .long) (dn + 1) nE (64 * nE) [vr x0, vr x1] tE ME (fun v t' M' => ∃ r, v = some (vl r) ∧ xRl r ∧ xMR M' ∧ xke tE t' ∧ Q r t' M') (fun _ _ _ => False) := by
  refine xCt_of (L0 := [vr x0, vr x1, vU, vU, vU, vU, vU, vU]) (by decide +kernel) (Nat.le_of_ble_eq_true rfl) rfl ?_
  intro X hX hB
  unfold p_X12_value at hp
  refine xJ_aload_n hX dX12_value_0 rfl ?_
  refine xJ_getI hX dX12_value_1 fd_X12_16 rfl hkx0 ?_
  refine xJ_iconst hX dX12_value_4 ?_
  refine xJ_icmp_ge hX dX12_value_5 (tgt := 30) (by decide) (hME _ _) ⟨by decide, by decide⟩ (fun c5 => ?_) (fun c5 => ?_)
  · replace hp := hp.1 c5
    refine xJ_aload_n hX dX12_value_30 rfl ?_
    obtain ⟨b31, e31, hkb31, hp⟩ := hp
    refine xJ_getR (b := b31) hX dX12_value_31 fd_X12_27 rfl hkx0 e31 ?_
    refine xJ_aload_n hX dX12_value_34 rfl ?_
    obtain ⟨k35, hn35, hp⟩ := hp
    refine xJ_callV (As := [_]) hX hB dX12_value_35 lk_X12_72 im_X12_value se_X12_value rfl (by decide) hkb31 (hPS _ _ hME hkb31 hkx1 hp) (by omega) rfl rfl rfl (Nat.le_of_ble_eq_true rfl) (by omega) (by omega) (fun v t35 M35 hv => ?_) (fun _ _ _ q => q.elim)
    clear hp
    obtain ⟨r35, rfl, h35, hM35, hq35, hp⟩ := hv
    dsimp only [Option.toList, List.cons_append, List.nil_append]
    refine xJ_lstore_n hX dX12_value_38 (Nat.le_of_ble_eq_true rfl) rfl ?_
    dsimp only [List.set]
    refine xJ_aload_n hX dX12_value_39 rfl ?_
    obtain ⟨b40, e40, hkb40, hp⟩ := hp
    refine xJ_getR (b := b40) hX dX12_value_40 fd_X12_31 rfl (xke_k hq35 hkx0 (by decide)) e40 ?_
    refine xJ_aload_n hX dX12_value_43 rfl ?_
    obtain ⟨k44, hn44, hp⟩ := hp
    refine xJ_callV (As := [_]) hX hB dX12_value_44 lk_X12_72 im_X12_value se_X12_value rfl (by decide) hkb40 (hPS _ _ hM35 hkb40 (xke_k hq35 hkx1 (by decide)) hp) (by omega) rfl rfl rfl (Nat.le_of_ble_eq_true rfl) (by omega) (by omega) (fun v t44 M44 hv => ?_) (fun _ _ _ q => q.elim)
    clear hp
    obtain ⟨r44, rfl, h44, hM44, hq44, hp⟩ := hv
    dsimp only [Option.toList, List.cons_append, List.nil_append]
    refine xJ_lstore hX dX12_value_47 (Nat.le_of_ble_eq_true rfl) rfl ?_
    dsimp only [List.set]
    refine xJ_aload_n hX dX12_value_49 rfl ?_
    refine xJ_getI hX dX12_value_50 fd_X12_16 rfl (xke_k hq44 (xke_k hq35 hkx0 (by decide)) (by decide)) ?_
    refine xJ_iconst hX dX12_value_53 ?_
    have l109 : ∀ (c s n : Nat) (y0 : Int) (t : xTh) (M : xMe) (hc : c + n ≤ nE) (hs : s + 64 * n ≤ 64 * nE) (hM : xMR M) (hqE : xke tE t) (hy0 : xRl y0) (hp : p_X12_value_109 F PS Q n y0 t M), xJ X c s t M 109 [vU, vU, vU, vU, vU, vU, vU, vU] [vl y0] := by
      intro c s n y0 t M hc hs hM hqE hy0 hp
      unfold p_X12_value_109 at hp
      refine xJ_lstore hX dX12_value_109 (Nat.le_of_ble_eq_true rfl) rfl ?_
      dsimp only [List.set]
      refine xJ_ldc2 (-1000000) hX dX12_value_111 kc_X12_76 ?_
      refine xJ_ldc2 (1000000) hX dX12_value_114 kc_X12_78 ?_
      refine xJ_lload hX dX12_value_117 rfl ?_
      refine xJ_mminL hX hB dX12_value_119 lj_X12_80 jw_minL_st jw_ma_in jw_minL_co rfl (by omega) (Nat.le_of_ble_eq_true rfl) (by omega) (by omega) ⟨by decide, by decide⟩ hy0 ?_
      refine xJ_mmaxL hX hB dX12_value_122 lj_X12_86 jw_maxL_st jw_ma_in jw_maxL_co rfl (by omega) (Nat.le_of_ble_eq_true rfl) (by omega) (by omega) ⟨by decide, by decide⟩ (xRl_min ⟨by decide, by decide⟩ hy0) ?_
      exact xJ_lret hX hB dX12_value_125 (by omega) (by omega) ⟨_, rfl, (xRl_max ⟨by decide, by decide⟩ (xRl_min ⟨by decide, by decide⟩ hy0)), hM, hqE, hp⟩
    refine xJ_icmp_ne hX dX12_value_54 (tgt := 64) (by decide) (hM44 _ _) ⟨by decide, by decide⟩ (fun c54 => ?_) (fun c54 => ?_)
    · replace hp := hp.1 c54
      refine xJ_aload_n hX dX12_value_64 rfl ?_
      refine xJ_getI hX dX12_value_65 fd_X12_16 rfl (xke_k hq44 (xke_k hq35 hkx0 (by decide)) (by decide)) ?_
      refine xJ_iconst hX dX12_value_68 ?_
      refine xJ_icmp_ne hX dX12_value_69 (tgt := 79) (by decide) (hM44 _ _) ⟨by decide, by decide⟩ (fun c69 => ?_) (fun c69 => ?_)
      · replace hp := hp.1 c69
        refine xJ_aload_n hX dX12_value_79 rfl ?_
        refine xJ_getI hX dX12_value_80 fd_X12_16 rfl (xke_k hq44 (xke_k hq35 hkx0 (by decide)) (by decide)) ?_
        refine xJ_iconst hX dX12_value_83 ?_
        refine xJ_icmp_ne hX dX12_value_84 (tgt := 94) (by decide) (hM44 _ _) ⟨by decide, by decide⟩ (fun c84 => ?_) (fun c84 => ?_)
        · replace hp := hp.1 c84
          refine xJ_lload hX dX12_value_94 rfl ?_
          refine xJ_lconst hX dX12_value_96 ?_
          refine xJ_lcmp hX dX12_value_97 h44 ⟨by decide, by decide⟩ ?_
          refine xJ_if_ne hX dX12_value_98 (tgt := 105) (by decide) (xR_cmp _ _) (fun c98 => ?_) (fun c98 => ?_)
          · replace hp := hp.1 c98
            refine xJ_lload_n hX dX12_value_105 rfl ?_
            refine xJ_lload hX dX12_value_106 rfl ?_
            obtain ⟨h108, hp⟩ := hp
            refine xJ_ldiv hX dX12_value_108 h35 h44 h108.1 ?_
            refine xJ_fg 0 ?_
            dsimp only [List.set]
            refine xJ_fg 1 ?_
            dsimp only [List.set]
            refine xJ_fg 2 ?_
            dsimp only [List.set]
            refine xJ_fg 4 ?_
            dsimp only [List.set]
            exact l109 _ _ _ _ _ _ (by omega) (by omega) hM44 (xke_trans (xke_trans (xke_refl _) hq35) hq44) h108.2 hp
          · replace hp := hp.2 c98
            refine xJ_lconst hX dX12_value_101 ?_
            refine xJ_goto hX dX12_value_102 (tgt := 109) (by decide) ?_
            refine xJ_fg 0 ?_
            dsimp only [List.set]
            refine xJ_fg 1 ?_
            dsimp only [List.set]
            refine xJ_fg 2 ?_
            dsimp only [List.set]
            refine xJ_fg 4 ?_
            dsimp only [List.set]
            exact l109 _ _ _ _ _ _ (by omega) (by omega) hM44 (xke_trans (xke_trans (xke_refl _) hq35) hq44) ⟨by decide, by decide⟩ hp
        · replace hp := hp.2 c84
          refine xJ_lload_n hX dX12_value_87 rfl ?_
          refine xJ_lload hX dX12_value_88 rfl ?_
          refine xJ_lmul hX dX12_value_90 ?_
          obtain ⟨h90, hp⟩ := hp
          refine xJ_goto hX dX12_value_91 (tgt := 109) (by decide) ?_
          refine xJ_fg 0 ?_
          dsimp only [List.set]
          refine xJ_fg 1 ?_
          dsimp only [List.set]
          refine xJ_fg 2 ?_
          dsimp only [List.set]
          refine xJ_fg 4 ?_
          dsimp only [List.set]
          exact l109 _ _ _ _ _ _ (by omega) (by omega) hM44 (xke_trans (xke_trans (xke_refl _) hq35) hq44) h90 hp
      · replace hp := hp.2 c69
        refine xJ_lload_n hX dX12_value_72 rfl ?_
        refine xJ_lload hX dX12_value_73 rfl ?_
        refine xJ_lsub hX dX12_value_75 ?_
        obtain ⟨h75, hp⟩ := hp
        refine xJ_goto hX dX12_value_76 (tgt := 109) (by decide) ?_
        refine xJ_fg 0 ?_
        dsimp only [List.set]
        refine xJ_fg 1 ?_
        dsimp only [List.set]
        refine xJ_fg 2 ?_
        dsimp only [List.set]
        refine xJ_fg 4 ?_
        dsimp only [List.set]
        exact l109 _ _ _ _ _ _ (by omega) (by omega) hM44 (xke_trans (xke_trans (xke_refl _) hq35) hq44) h75 hp
    · replace hp := hp.2 c54
      refine xJ_lload_n hX dX12_value_57 rfl ?_
      refine xJ_lload hX dX12_value_58 rfl ?_
      refine xJ_ladd hX dX12_value_60 ?_
      obtain ⟨h60, hp⟩ := hp
      refine xJ_goto hX dX12_value_61 (tgt := 109) (by decide) ?_
      refine xJ_fg 0 ?_
      dsimp only [List.set]
      refine xJ_fg 1 ?_
      dsimp only [List.set]
      refine xJ_fg 2 ?_
      dsimp only [List.set]
      refine xJ_fg 4 ?_
      dsimp only [List.set]
      exact l109 _ _ _ _ _ _ (by omega) (by omega) hM44 (xke_trans (xke_trans (xke_refl _) hq35) hq44) h60 hp
  · replace hp := hp.2 c5
    refine xJ_aload_n hX dX12_value_8 rfl ?_
    refine xJ_getI hX dX12_value_9 fd_X12_16 rfl hkx0 ?_
    refine xJ_if_ne hX dX12_value_12 (tgt := 23) (by decide) (hME _ _) (fun c12 => ?_) (fun c12 => ?_)
    · replace hp := hp.1 c12
      refine xJ_aload_n hX dX12_value_23 rfl ?_
      refine xJ_aload_n hX dX12_value_24 rfl ?_
      refine xJ_getI hX dX12_value_25 fd_X12_20 rfl hkx0 ?_
      obtain ⟨h28, hp⟩ := hp
      refine xJ_lald hX dX12_value_28 hkx1 h28.1 h28.2 ?_
      exact xJ_lret hX hB dX12_value_29 (by omega) (by omega) ⟨_, rfl, (xRl_of (hME _ _)), hME, (xke_refl _), hp⟩
    · replace hp := hp.2 c12
      refine xJ_aload_n hX dX12_value_15 rfl ?_
      refine xJ_getI hX dX12_value_16 fd_X12_20 rfl hkx0 ?_
      refine xJ_i2l hX dX12_value_19 (hME _ _) ?_
      refine xJ_goto hX dX12_value_20 (tgt := 29) (by decide) ?_
      exact xJ_lret hX hB dX12_value_29 (by omega) (by omega) ⟨_, rfl, (xRl_of (hME _ _)), hME, (xke_refl _), hp⟩
def p_X12_valueR (F : Nat) : Nat → Nat → xTh → Nat → Nat → xMe → (Int → xTh → xMe → Prop) → Prop
  | 0, _, _, _, _, _, _ => False
  | k + 1, n, t, x0, x1, M, Q => p_X12_value F (p_X12_valueR F k) n t x0 x1 M Q
theorem c_X12_valueR {G : xGx} {F : Nat} : ∀ (k : Nat) {nE : Nat} {tE : xTh} {ME : xMe} {x0 : Nat} {x1 : Nat} {Q : Int → xTh → xMe → Prop}, xMR ME → xk tE x0 = 12 → xk tE x1 = 15 → p_X12_valueR F k nE tE x0 x1 ME Q → xCt G yX12_value cX12_value 8 (some .long) (k + 2) nE (64 * nE) [vr x0, vr x1] tE ME (fun v t' M' => ∃ r, v = some (vl r) ∧ xRl r ∧ xMR M' ∧ xke tE t' ∧ Q r t' M') (fun _ _ _ => False)
  | 0 => by intro hM hkx0 hkx1 hp; exact hp.elim
  | k + 1 => by
    intro hM hkx0 hkx1 hp
    exact c_X12_value (dn := k + 2) (fun n _ _ _ _ Q q1 qhkx0 qhkx1 qp => c_X12_valueR k q1 qhkx0 qhkx1 qp) (by omega) hM hkx0 hkx1 hp
def p_L_with_28 (F : Nat) (Q : Nat → xTh → xMe → Prop) (n : Nat) (x0 : Nat) (x1 : Nat) (x2 : Nat) (t : xTh) (M : xMe) : Prop :=
    (xR ((xn t x0 : Nat) : Int)) ∧ ((0 : Int) ≤ (((xn t x0 : Nat) : Int)) ∧ (((xn t x0 : Nat) : Int)) < (xn t x2 : Int)) ∧ (∀ t32 : xTh, t32 = xwr t x2 (((xn t x0 : Nat) : Int)).toNat (some x1) → Q x2 t32 M)
def p_L_with_10 (F : Nat) (Q : Nat → xTh → xMe → Prop) (K28 : Nat → Nat → Nat → Nat → xTh → xMe → Prop) : Nat → Nat → Nat → Nat → Nat → Int → xTh → xMe → Prop
  | 0, _, _, _, _, _, _, _ => False
  | k + 1, n, x0, x1, x2, x3, t, M =>
    (xR ((xn t x0 : Nat) : Int)) ∧ (((((xn t x0 : Nat) : Int)) ≤ x3 → K28 n x0 x1 x2 t M) ∧ (x3 < (((xn t x0 : Nat) : Int)) → ((0 : Int) ≤ x3 ∧ x3 < (xn t x0 : Int)) ∧ (∃ b20 : Nat, xr t x0 x3.toNat = some b20 ∧ xk t b20 = 14 ∧ ((0 : Int) ≤ x3 ∧ x3 < (xn t x2 : Int)) ∧ (∀ t21 : xTh, t21 = xwr t x2 x3.toNat (some b20) → (xR (x3 + 1)) ∧ p_L_with_10 F Q K28 k n x0 x1 x2 (x3 + 1) t21 M))))
def p_L_with (F : Nat) (n : Nat) (tE : xTh) (x0 : Nat) (x1 : Nat) (ME : xMe) (Q : Nat → xTh → xMe → Prop) : Prop :=
  (xR ((xn tE x0 : Nat) : Int)) ∧ (xR ((((xn tE x0 : Nat) : Int)) + 1)) ∧ ((0 : Int) ≤ ((((xn tE x0 : Nat) : Int)) + 1) ∧ ((((xn tE x0 : Nat) : Int)) + 1) ≤ 64) ∧ (1 ≤ n) ∧ (∀ (a4 : Nat) (t4 : xTh) (M4 : xMe), a4 = xz tE → t4 = xnw tE 17 ((((xn tE x0 : Nat) : Int)) + 1).toNat → M4 = xw0 ME a4 → p_L_with_10 F Q (p_L_with_28 F Q) F ((n - 1)) x0 x1 a4 0 t4 M4)
set_option maxHeartbeats 8000000 in
set_option maxRecDepth 100000 in
theorem c_L_with {G : xGx} {tE : xTh} {ME : xMe} {F nE : Nat} {x0 : Nat} {x1 : Nat} {Q : Nat → xTh → xMe → Prop} (hME : xMR ME) (hkx0 : xk tE x0 = 17) (hkx1 : xk tE x1 = 14)  (hp : p_L_with F nE tE x0 x1 ME Q) : xCt G yL_with cL_with 4 (some (.array (.array .int))) 1 nE (64 * nE) [vr x0, vr x1] tE ME (fun v t' M' => ∃ r, v = some (vr r) ∧ xk t' r = 17 ∧ xMR M' ∧ xke tE t' ∧ Q r t' M') (fun _ _ _ => False) := by
  refine xCt_of (L0 := [vr x0, vr x1, vU, vU]) (by decide +kernel) (Nat.le_of_ble_eq_true rfl) rfl ?_
  intro X hX hB
  unfold p_L_with at hp
  refine xJ_aload_n hX dL_with_0 rfl ?_
  refine xJ_alen hX dL_with_1 (by rw [hkx0]; decide) (by rw [hkx0]; decide) ?_
  obtain ⟨h1, hp⟩ := hp
  refine xJ_iconst hX dL_with_2 ?_
  refine xJ_iadd hX dL_with_3 ?_
  obtain ⟨h3, hp⟩ := hp
  obtain ⟨hl4, hp⟩ := hp
  obtain ⟨hn4, hp⟩ := hp
  refine xJ_newAE hX hB hME dL_with_4 kl_L_108 hl4.1 (by omega) (by omega) (by omega) (fun a4 t4 M4 ea4 et4 e4 hM4 hq4 hka4 => ?_)
  replace hp := hp a4 t4 M4 ea4 et4 e4
  refine xJ_astore_n hX dL_with_7 (Nat.le_of_ble_eq_true rfl) rfl ?_
  dsimp only [List.set]
  refine xJ_iconst hX dL_with_8 ?_
  refine xJ_istore_n hX dL_with_9 (Nat.le_of_ble_eq_true rfl) rfl ?_
  dsimp only [List.set]
  have l28 : ∀ (c s n : Nat) (x0 : Nat) (x1 : Nat) (x2 : Nat) (t : xTh) (M : xMe) (hc : c + n ≤ nE) (hs : s + 64 * n ≤ 64 * nE) (hM : xMR M) (hqE : xke tE t) (hkx0 : xk t x0 = 17) (hkx1 : xk t x1 = 14) (hkx2 : xk t x2 = 17) (hp : p_L_with_28 F Q n x0 x1 x2 t M), xJ X c s t M 28 [vr x0, vr x1, vr x2, vU] [] := by
    intro c s n x0 x1 x2 t M hc hs hM hqE hkx0 hkx1 hkx2 hp
    unfold p_L_with_28 at hp
    refine xJ_aload_n hX dL_with_28 rfl ?_
    refine xJ_aload_n hX dL_with_29 rfl ?_
    refine xJ_alen hX dL_with_30 (by rw [hkx0]; decide) (by rw [hkx0]; decide) ?_
    obtain ⟨h30, hp⟩ := hp
    refine xJ_aload_n hX dL_with_31 rfl ?_
    obtain ⟨h32, hp⟩ := hp
    refine xJ_aastIE hX dL_with_32 hkx2 hkx1 h32.1 h32.2 (fun t32 et32 hq32 => ?_)
    replace hp := hp t32 et32
    refine xJ_aload_n hX dL_with_33 rfl ?_
    exact xJ_aret hX hB dL_with_34 (Or.inr ⟨_, rfl⟩) (Or.inr ⟨_, rfl⟩) (by omega) (by omega) ⟨_, rfl, (xke_k hq32 hkx2 (by decide)), hM, (xke_trans hqE hq32), hp⟩
  have l10 : ∀ (k10 : Nat) (c s n : Nat) (x0 : Nat) (x1 : Nat) (x2 : Nat) (x3 : Int) (t : xTh) (M : xMe) (hc : c + n ≤ nE) (hs : s + 64 * n ≤ 64 * nE) (hM : xMR M) (hqE : xke tE t) (hkx0 : xk t x0 = 17) (hkx1 : xk t x1 = 14) (hkx2 : xk t x2 = 17) (hx3 : xR x3) (hp : p_L_with_10 F Q (p_L_with_28 F Q) k10 n x0 x1 x2 x3 t M), xJ X c s t M 10 [vr x0, vr x1, vr x2, vi x3] [] := by
    intro k10
    induction k10 with
    | zero => intro c s n x0 x1 x2 x3 t M hc hs hM hqE hkx0 hkx1 hkx2 hx3 hp; exact hp.elim
    | succ k10 ih10 =>
      intro c s n x0 x1 x2 x3 t M hc hs hM hqE hkx0 hkx1 hkx2 hx3 hp
      unfold p_L_with_10 at hp
      refine xJ_iload_n hX dL_with_10 rfl ?_
      refine xJ_aload_n hX dL_with_11 rfl ?_
      refine xJ_alen hX dL_with_12 (by rw [hkx0]; decide) (by rw [hkx0]; decide) ?_
      obtain ⟨h12, hp⟩ := hp
      refine xJ_icmp_ge hX dL_with_13 (tgt := 28) (by decide) hx3 h12 (fun c13 => ?_) (fun c13 => ?_)
      · replace hp := hp.1 c13
        refine xJ_fg 3 ?_
        dsimp only [List.set]
        exact l28 _ _ _ _ _ _ _ _ (by omega) (by omega) hM hqE hkx0 hkx1 hkx2 hp
      · replace hp := hp.2 c13
        refine xJ_aload_n hX dL_with_16 rfl ?_
        refine xJ_iload_n hX dL_with_17 rfl ?_
        refine xJ_aload_n hX dL_with_18 rfl ?_
        refine xJ_iload_n hX dL_with_19 rfl ?_
        obtain ⟨h20, hp⟩ := hp
        obtain ⟨b20, e20, hkb20, hp⟩ := hp
        refine xJ_aaldOb hX dL_with_20 hkx0 h20.1 h20.2 e20 ?_
        obtain ⟨h21, hp⟩ := hp
        refine xJ_aastIE hX dL_with_21 hkx2 hkb20 h21.1 h21.2 (fun t21 et21 hq21 => ?_)
        replace hp := hp t21 et21
        refine xJ_iinc hX dL_with_22 rfl rfl ?_
        dsimp only [List.set]
        obtain ⟨h22, hp⟩ := hp
        refine xJ_goto hX dL_with_25 (tgt := 10) (by decide) ?_
        exact ih10 _ _ _ _ _ _ _ _ _ (by omega) (by omega) hM (xke_trans hqE hq21) (xke_k hq21 hkx0 (by decide)) (xke_k hq21 hkx1 (by decide)) (xke_k hq21 hkx2 (by decide)) h22 hp
  exact l10 F _ _ _ _ _ _ _ _ _ (by omega) (by omega) hM4 (xke_trans (xke_refl _) hq4) (xke_k hq4 hkx0 (by decide)) (xke_k hq4 hkx1 (by decide)) hka4 ⟨by decide, by decide⟩ hp
def p_L_without_10 (F : Nat) (Q : Nat → xTh → xMe → Prop) : Nat → Nat → Nat → Int → Nat → Int → xTh → xMe → Prop
  | 0, _, _, _, _, _, _, _ => False
  | k + 1, n, x0, x1, x2, x3, t, M =>
    (xR ((xn t x2 : Nat) : Int)) ∧ (((((xn t x2 : Nat) : Int)) ≤ x3 → Q x2 t M) ∧ (x3 < (((xn t x2 : Nat) : Int)) → ((x1 ≤ x3 → (xR (x3 + 1)) ∧ ((0 : Int) ≤ (x3 + 1) ∧ (x3 + 1) < (xn t x0 : Int)) ∧ (∃ b31 : Nat, xr t x0 (x3 + 1).toNat = some b31 ∧ xk t b31 = 14 ∧ ((0 : Int) ≤ x3 ∧ x3 < (xn t x2 : Int)) ∧ (∀ t32 : xTh, t32 = xwr t x2 x3.toNat (some b31) → (xR (x3 + 1)) ∧ p_L_without_10 F Q k n x0 x1 x2 (x3 + 1) t32 M))) ∧ (x3 < x1 → ((0 : Int) ≤ x3 ∧ x3 < (xn t x0 : Int)) ∧ (∃ b31 : Nat, xr t x0 x3.toNat = some b31 ∧ xk t b31 = 14 ∧ ((0 : Int) ≤ x3 ∧ x3 < (xn t x2 : Int)) ∧ (∀ t32 : xTh, t32 = xwr t x2 x3.toNat (some b31) → (xR (x3 + 1)) ∧ p_L_without_10 F Q k n x0 x1 x2 (x3 + 1) t32 M))))))
def p_L_without (F : Nat) (n : Nat) (tE : xTh) (x0 : Nat) (x1 : Int) (ME : xMe) (Q : Nat → xTh → xMe → Prop) : Prop :=
  (xR ((xn tE x0 : Nat) : Int)) ∧ (xR ((((xn tE x0 : Nat) : Int)) - 1)) ∧ ((0 : Int) ≤ ((((xn tE x0 : Nat) : Int)) - 1) ∧ ((((xn tE x0 : Nat) : Int)) - 1) ≤ 64) ∧ (1 ≤ n) ∧ (∀ (a4 : Nat) (t4 : xTh) (M4 : xMe), a4 = xz tE → t4 = xnw tE 17 ((((xn tE x0 : Nat) : Int)) - 1).toNat → M4 = xw0 ME a4 → p_L_without_10 F Q F ((n - 1)) x0 x1 a4 0 t4 M4)
set_option maxHeartbeats 8000000 in
set_option maxRecDepth 100000 in
theorem c_L_without {G : xGx} {tE : xTh} {ME : xMe} {F nE : Nat} {x0 : Nat} {x1 : Int} {Q : Nat → xTh → xMe → Prop} (hME : xMR ME) (hkx0 : xk tE x0 = 17) (hx1 : xR x1) (hp : p_L_without F nE tE x0 x1 ME Q) : xCt G yL_without cL_without 4 (some (.array (.array .int))) 1 nE (64 * nE) [vr x0, vi x1] tE ME (fun v t' M' => ∃ r, v = some (vr r) ∧ xk t' r = 17 ∧ xMR M' ∧ xke tE t' ∧ Q r t' M') (fun _ _ _ => False) := by
  refine xCt_of (L0 := [vr x0, vi x1, vU, vU]) (by decide +kernel) (Nat.le_of_ble_eq_true rfl) rfl ?_
  intro X hX hB
  unfold p_L_without at hp
  refine xJ_aload_n hX dL_without_0 rfl ?_
  refine xJ_alen hX dL_without_1 (by rw [hkx0]; decide) (by rw [hkx0]; decide) ?_
  obtain ⟨h1, hp⟩ := hp
  refine xJ_iconst hX dL_without_2 ?_
  refine xJ_isub hX dL_without_3 ?_
  obtain ⟨h3, hp⟩ := hp
  obtain ⟨hl4, hp⟩ := hp
  obtain ⟨hn4, hp⟩ := hp
  refine xJ_newAE hX hB hME dL_without_4 kl_L_108 hl4.1 (by omega) (by omega) (by omega) (fun a4 t4 M4 ea4 et4 e4 hM4 hq4 hka4 => ?_)
  replace hp := hp a4 t4 M4 ea4 et4 e4
  refine xJ_astore_n hX dL_without_7 (Nat.le_of_ble_eq_true rfl) rfl ?_
  dsimp only [List.set]
  refine xJ_iconst hX dL_without_8 ?_
  refine xJ_istore_n hX dL_without_9 (Nat.le_of_ble_eq_true rfl) rfl ?_
  dsimp only [List.set]
  have l10 : ∀ (k10 : Nat) (c s n : Nat) (x0 : Nat) (x1 : Int) (x2 : Nat) (x3 : Int) (t : xTh) (M : xMe) (hc : c + n ≤ nE) (hs : s + 64 * n ≤ 64 * nE) (hM : xMR M) (hqE : xke tE t) (hkx0 : xk t x0 = 17) (hx1 : xR x1) (hkx2 : xk t x2 = 17) (hx3 : xR x3) (hp : p_L_without_10 F Q k10 n x0 x1 x2 x3 t M), xJ X c s t M 10 [vr x0, vi x1, vr x2, vi x3] [] := by
    intro k10
    induction k10 with
    | zero => intro c s n x0 x1 x2 x3 t M hc hs hM hqE hkx0 hx1 hkx2 hx3 hp; exact hp.elim
    | succ k10 ih10 =>
      intro c s n x0 x1 x2 x3 t M hc hs hM hqE hkx0 hx1 hkx2 hx3 hp
      unfold p_L_without_10 at hp
      refine xJ_iload_n hX dL_without_10 rfl ?_
      refine xJ_aload_n hX dL_without_11 rfl ?_
      refine xJ_alen hX dL_without_12 (by rw [hkx2]; decide) (by rw [hkx2]; decide) ?_
      obtain ⟨h12, hp⟩ := hp
      refine xJ_icmp_ge hX dL_without_13 (tgt := 39) (by decide) hx3 h12 (fun c13 => ?_) (fun c13 => ?_)
      · replace hp := hp.1 c13
        refine xJ_aload_n hX dL_without_39 rfl ?_
        exact xJ_aret hX hB dL_without_40 (Or.inr ⟨_, rfl⟩) (Or.inr ⟨_, rfl⟩) (by omega) (by omega) ⟨_, rfl, hkx2, hM, hqE, hp⟩
      · replace hp := hp.2 c13
        refine xJ_aload_n hX dL_without_16 rfl ?_
        refine xJ_iload_n hX dL_without_17 rfl ?_
        refine xJ_aload_n hX dL_without_18 rfl ?_
        refine xJ_iload_n hX dL_without_19 rfl ?_
        refine xJ_iload_n hX dL_without_20 rfl ?_
        refine xJ_icmp_ge hX dL_without_21 (tgt := 28) (by decide) hx3 hx1 (fun c21 => ?_) (fun c21 => ?_)
        · replace hp := hp.1 c21
          refine xJ_iload_n hX dL_without_28 rfl ?_
          refine xJ_iconst hX dL_without_29 ?_
          refine xJ_iadd hX dL_without_30 ?_
          obtain ⟨h30, hp⟩ := hp
          obtain ⟨h31, hp⟩ := hp
          obtain ⟨b31, e31, hkb31, hp⟩ := hp
          refine xJ_aaldOb hX dL_without_31 hkx0 h31.1 h31.2 e31 ?_
          obtain ⟨h32, hp⟩ := hp
          refine xJ_aastIE hX dL_without_32 hkx2 hkb31 h32.1 h32.2 (fun t32 et32 hq32 => ?_)
          replace hp := hp t32 et32
          refine xJ_iinc hX dL_without_33 rfl rfl ?_
          dsimp only [List.set]
          obtain ⟨h33, hp⟩ := hp
          refine xJ_goto hX dL_without_36 (tgt := 10) (by decide) ?_
          exact ih10 _ _ _ _ _ _ _ _ _ (by omega) (by omega) hM (xke_trans hqE hq32) (xke_k hq32 hkx0 (by decide)) hx1 (xke_k hq32 hkx2 (by decide)) h33 hp
        · replace hp := hp.2 c21
          refine xJ_iload_n hX dL_without_24 rfl ?_
          refine xJ_goto hX dL_without_25 (tgt := 31) (by decide) ?_
          obtain ⟨h31, hp⟩ := hp
          obtain ⟨b31, e31, hkb31, hp⟩ := hp
          refine xJ_aaldOb hX dL_without_31 hkx0 h31.1 h31.2 e31 ?_
          obtain ⟨h32, hp⟩ := hp
          refine xJ_aastIE hX dL_without_32 hkx2 hkb31 h32.1 h32.2 (fun t32 et32 hq32 => ?_)
          replace hp := hp t32 et32
          refine xJ_iinc hX dL_without_33 rfl rfl ?_
          dsimp only [List.set]
          obtain ⟨h33, hp⟩ := hp
          refine xJ_goto hX dL_without_36 (tgt := 10) (by decide) ?_
          exact ih10 _ _ _ _ _ _ _ _ _ (by omega) (by omega) hM (xke_trans hqE hq32) (xke_k hq32 hkx0 (by decide)) hx1 (xke_k hq32 hkx2 (by decide)) h33 hp
  exact l10 F _ _ _ _ _ _ _ _ _ (by omega) (by omega) hM4 (xke_trans (xke_refl _) hq4) (xke_k hq4 hkx0 (by decide)) hx1 hka4 ⟨by decide, by decide⟩ hp
def p_L_copied_8 (F : Nat) (Q : Nat → xTh → xMe → Prop) : Nat → Nat → Nat → Nat → Int → xTh → xMe → Prop
  | 0, _, _, _, _, _, _ => False
  | k + 1, n, x0, x1, x2, t, M =>
    (xR ((xn t x0 : Nat) : Int)) ∧ (((((xn t x0 : Nat) : Int)) ≤ x2 → Q x1 t M) ∧ (x2 < (((xn t x0 : Nat) : Int)) → ((0 : Int) ≤ x2 ∧ x2 < (xn t x0 : Int)) ∧ (∃ b18 : Nat, xr t x0 x2.toNat = some b18 ∧ xk t b18 = 14 ∧ (xn t b18 ≤ 64 ∧ 1 ≤ n) ∧ (∀ (a19 : Nat) (t19 : xTh) (M19 : xMe), a19 = xz t → t19 = xnw t 14 (xn t b18) → M19 = xcl M b18 a19 → ((0 : Int) ≤ x2 ∧ x2 < (xn t19 x1 : Int)) ∧ (∀ t25 : xTh, t25 = xwr t19 x1 x2.toNat (some a19) → (xR (x2 + 1)) ∧ p_L_copied_8 F Q k ((n - 1)) x0 x1 (x2 + 1) t25 M19)))))
def p_L_copied (F : Nat) (n : Nat) (tE : xTh) (x0 : Nat) (ME : xMe) (Q : Nat → xTh → xMe → Prop) : Prop :=
  (xR ((xn tE x0 : Nat) : Int)) ∧ ((0 : Int) ≤ (((xn tE x0 : Nat) : Int)) ∧ (((xn tE x0 : Nat) : Int)) ≤ 64) ∧ (1 ≤ n) ∧ (∀ (a2 : Nat) (t2 : xTh) (M2 : xMe), a2 = xz tE → t2 = xnw tE 17 (((xn tE x0 : Nat) : Int)).toNat → M2 = xw0 ME a2 → p_L_copied_8 F Q F ((n - 1)) x0 a2 0 t2 M2)
set_option maxHeartbeats 8000000 in
set_option maxRecDepth 100000 in
theorem c_L_copied {G : xGx} {tE : xTh} {ME : xMe} {F nE : Nat} {x0 : Nat} {Q : Nat → xTh → xMe → Prop} (hME : xMR ME) (hkx0 : xk tE x0 = 17)  (hp : p_L_copied F nE tE x0 ME Q) : xCt G yL_copied cL_copied 3 (some (.array (.array .int))) 1 nE (64 * nE) [vr x0] tE ME (fun v t' M' => ∃ r, v = some (vr r) ∧ xk t' r = 17 ∧ xMR M' ∧ xke tE t' ∧ Q r t' M') (fun _ _ _ => False) := by
  refine xCt_of (L0 := [vr x0, vU, vU]) (by decide +kernel) (Nat.le_of_ble_eq_true rfl) rfl ?_
  intro X hX hB
  unfold p_L_copied at hp
  refine xJ_aload_n hX dL_copied_0 rfl ?_
  refine xJ_alen hX dL_copied_1 (by rw [hkx0]; decide) (by rw [hkx0]; decide) ?_
  obtain ⟨h1, hp⟩ := hp
  obtain ⟨hl2, hp⟩ := hp
  obtain ⟨hn2, hp⟩ := hp
  refine xJ_newAE hX hB hME dL_copied_2 kl_L_108 hl2.1 (by omega) (by omega) (by omega) (fun a2 t2 M2 ea2 et2 e2 hM2 hq2 hka2 => ?_)
  replace hp := hp a2 t2 M2 ea2 et2 e2
  refine xJ_astore_n hX dL_copied_5 (Nat.le_of_ble_eq_true rfl) rfl ?_
  dsimp only [List.set]
  refine xJ_iconst hX dL_copied_6 ?_
  refine xJ_istore_n hX dL_copied_7 (Nat.le_of_ble_eq_true rfl) rfl ?_
  dsimp only [List.set]
  have l8 : ∀ (k8 : Nat) (c s n : Nat) (x0 : Nat) (x1 : Nat) (x2 : Int) (t : xTh) (M : xMe) (hc : c + n ≤ nE) (hs : s + 64 * n ≤ 64 * nE) (hM : xMR M) (hqE : xke tE t) (hkx0 : xk t x0 = 17) (hkx1 : xk t x1 = 17) (hx2 : xR x2) (hp : p_L_copied_8 F Q k8 n x0 x1 x2 t M), xJ X c s t M 8 [vr x0, vr x1, vi x2] [] := by
    intro k8
    induction k8 with
    | zero => intro c s n x0 x1 x2 t M hc hs hM hqE hkx0 hkx1 hx2 hp; exact hp.elim
    | succ k8 ih8 =>
      intro c s n x0 x1 x2 t M hc hs hM hqE hkx0 hkx1 hx2 hp
      unfold p_L_copied_8 at hp
      refine xJ_iload_n hX dL_copied_8 rfl ?_
      refine xJ_aload_n hX dL_copied_9 rfl ?_
      refine xJ_alen hX dL_copied_10 (by rw [hkx0]; decide) (by rw [hkx0]; decide) ?_
      obtain ⟨h10, hp⟩ := hp
      refine xJ_icmp_ge hX dL_copied_11 (tgt := 32) (by decide) hx2 h10 (fun c11 => ?_) (fun c11 => ?_)
      · replace hp := hp.1 c11
        refine xJ_aload_n hX dL_copied_32 rfl ?_
        exact xJ_aret hX hB dL_copied_33 (Or.inr ⟨_, rfl⟩) (Or.inr ⟨_, rfl⟩) (by omega) (by omega) ⟨_, rfl, hkx1, hM, hqE, hp⟩
      · replace hp := hp.2 c11
        refine xJ_aload_n hX dL_copied_14 rfl ?_
        refine xJ_iload_n hX dL_copied_15 rfl ?_
        refine xJ_aload_n hX dL_copied_16 rfl ?_
        refine xJ_iload_n hX dL_copied_17 rfl ?_
        obtain ⟨h18, hp⟩ := hp
        obtain ⟨b18, e18, hkb18, hp⟩ := hp
        refine xJ_aaldOb hX dL_copied_18 hkx0 h18.1 h18.2 e18 ?_
        obtain ⟨hn19, hp⟩ := hp
        refine xJ_cloneE hX hB hM dL_copied_19 wcl_link wcl_same wcl_nat wcl_inst wcl_sel rfl (by decide) (Nat.le_of_ble_eq_true rfl) hkb18 (by omega) (by omega) (fun a19 t19 M19 ea19 et19 e19 hM19 hq19 hka19 => ?_)
        replace hp := hp a19 t19 M19 ea19 et19 e19
        refine xJ_ccA hX dL_copied_22 kl_L_108 hka19 ?_
        obtain ⟨h25, hp⟩ := hp
        refine xJ_aastIE hX dL_copied_25 (xke_k hq19 hkx1 (by decide)) hka19 h25.1 h25.2 (fun t25 et25 hq25 => ?_)
        replace hp := hp t25 et25
        refine xJ_iinc hX dL_copied_26 rfl rfl ?_
        dsimp only [List.set]
        obtain ⟨h26, hp⟩ := hp
        refine xJ_goto hX dL_copied_29 (tgt := 8) (by decide) ?_
        exact ih8 _ _ _ _ _ _ _ _ (by omega) (by omega) hM19 (xke_trans (xke_trans hqE hq19) hq25) (xke_k hq25 (xke_k hq19 hkx0 (by decide)) (by decide)) (xke_k hq25 (xke_k hq19 hkx1 (by decide)) (by decide)) h26 hp
  exact l8 F _ _ _ _ _ _ _ _ (by omega) (by omega) hM2 (xke_trans (xke_refl _) hq2) (xke_k hq2 hkx0 (by decide)) hka2 ⟨by decide, by decide⟩ hp
def p_X14_init (F : Nat) (n : Nat) (tE : xTh) (x0 : Nat) (ME : xMe) (Q : xTh → xMe → Prop) : Prop :=
  (1 ≤ n) ∧ (∀ (a6 : Nat) (t6 : xTh) (M6 : xMe), a6 = xz tE → t6 = xnw tE 17 0 → M6 = xw0 ME a6 → (∀ t9 : xTh, t9 = xwr t6 x0 1 (some a6) → (1 ≤ (n - 1)) ∧ (∀ (a14 : Nat) (t14 : xTh) (M14 : xMe), a14 = xz t9 → t14 = xnw t9 17 0 → M14 = xw0 M6 a14 → (∀ t17 : xTh, t17 = xwr t14 x0 2 (some a14) → (1 ≤ ((n - 1) - 1)) ∧ (∀ (a22 : Nat) (t22 : xTh) (M22 : xMe), a22 = xz t17 → t22 = xnw t17 17 0 → M22 = xw0 M14 a22 → (∀ t25 : xTh, t25 = xwr t22 x0 3 (some a22) → (1 ≤ (((n - 1) - 1) - 1)) ∧ (∀ (a30 : Nat) (t30 : xTh) (M30 : xMe), a30 = xz t25 → t30 = xnw t25 17 0 → M30 = xw0 M22 a30 → (∀ t33 : xTh, t33 = xwr t30 x0 4 (some a30) → (1 ≤ ((((n - 1) - 1) - 1) - 1)) ∧ (∀ (a38 : Nat) (t38 : xTh) (M38 : xMe), a38 = xz t33 → t38 = xnw t33 17 0 → M38 = xw0 M30 a38 → (∀ t41 : xTh, t41 = xwr t38 x0 5 (some a38) → (1 ≤ (((((n - 1) - 1) - 1) - 1) - 1)) ∧ (∀ (a46 : Nat) (t46 : xTh) (M46 : xMe), a46 = xz t41 → t46 = xnw t41 17 0 → M46 = xw0 M38 a46 → (∀ t49 : xTh, t49 = xwr t46 x0 6 (some a46) → (7 ≤ ((((((n - 1) - 1) - 1) - 1) - 1) - 1)) ∧ (∀ (a57 : Nat) (t57 : xTh) (M57 : xMe), a57 = xz t49 → t57 = xmn t49 6 6 → M57 = xm0 M46 a57 6 → (∀ t61 : xTh, t61 = xwr t57 x0 7 (some a57) → (∀ M66 : xMe, M66 = xw M57 x0 10 1 → (∀ M72 : xMe, M72 = xw M66 x0 11 50 → (∀ M78 : xMe, M78 = xw M72 x0 12 10 → Q t61 M78)))))))))))))))))
set_option maxHeartbeats 8000000 in
set_option maxRecDepth 100000 in
theorem c_X14_init {G : xGx} {tE : xTh} {ME : xMe} {F nE : Nat} {x0 : Nat} {Q : xTh → xMe → Prop} (hME : xMR ME) (hkx0 : xk tE x0 = 20)  (hp : p_X14_init F nE tE x0 ME Q) : xCt G yX14_init cX14_init 1 none 2 nE (64 * nE) [vr x0] tE ME (fun v t' M' => v = none ∧ xMR M' ∧ xke tE t' ∧ Q t' M') (fun _ _ _ => False) := by
  refine xCt_of (L0 := [vr x0]) (by decide +kernel) (Nat.le_of_ble_eq_true rfl) rfl ?_
  intro X hX hB
  unfold p_X14_init at hp
  refine xJ_aload_n hX dX14_init_0 rfl ?_
  refine xJ_objInit hX hB dX14_init_1 lj_X14_1 jw_obj_im jw_obj_co rfl (by decide) (Nat.le_of_ble_eq_true rfl) ?_
  refine xJ_aload_n hX dX14_init_4 rfl ?_
  refine xJ_iconst hX dX14_init_5 ?_
  obtain ⟨hn6, hp⟩ := hp
  refine xJ_newAE hX hB hME dX14_init_6 kl_X14_7 (by decide) (by decide) (by omega) (by omega) (fun a6 t6 M6 ea6 et6 e6 hM6 hq6 hka6 => ?_)
  replace hp := hp a6 t6 M6 ea6 et6 e6
  refine xJ_putRE (x := (some a6)) hX dX14_init_9 fd_X14_9 ft_X14 rfl rfl rfl rfl (xke_k hq6 hkx0 (by decide)) (fun t9 et9 hq9 => ?_)
  replace hp := hp t9 et9
  refine xJ_aload_n hX dX14_init_12 rfl ?_
  refine xJ_iconst hX dX14_init_13 ?_
  obtain ⟨hn14, hp⟩ := hp
  refine xJ_newAE hX hB hM6 dX14_init_14 kl_X14_7 (by decide) (by decide) (by omega) (by omega) (fun a14 t14 M14 ea14 et14 e14 hM14 hq14 hka14 => ?_)
  replace hp := hp a14 t14 M14 ea14 et14 e14
  refine xJ_putRE (x := (some a14)) hX dX14_init_17 fd_X14_15 ft_X14 rfl rfl rfl rfl (xke_k hq14 (xke_k hq9 (xke_k hq6 hkx0 (by decide)) (by decide)) (by decide)) (fun t17 et17 hq17 => ?_)
  replace hp := hp t17 et17
  refine xJ_aload_n hX dX14_init_20 rfl ?_
  refine xJ_iconst hX dX14_init_21 ?_
  obtain ⟨hn22, hp⟩ := hp
  refine xJ_newAE hX hB hM14 dX14_init_22 kl_X14_7 (by decide) (by decide) (by omega) (by omega) (fun a22 t22 M22 ea22 et22 e22 hM22 hq22 hka22 => ?_)
  replace hp := hp a22 t22 M22 ea22 et22 e22
  refine xJ_putRE (x := (some a22)) hX dX14_init_25 fd_X14_18 ft_X14 rfl rfl rfl rfl (xke_k hq22 (xke_k hq17 (xke_k hq14 (xke_k hq9 (xke_k hq6 hkx0 (by decide)) (by decide)) (by decide)) (by decide)) (by decide)) (fun t25 et25 hq25 => ?_)
  replace hp := hp t25 et25
  refine xJ_aload_n hX dX14_init_28 rfl ?_
  refine xJ_iconst hX dX14_init_29 ?_
  obtain ⟨hn30, hp⟩ := hp
  refine xJ_newAE hX hB hM22 dX14_init_30 kl_X14_7 (by decide) (by decide) (by omega) (by omega) (fun a30 t30 M30 ea30 et30 e30 hM30 hq30 hka30 => ?_)
  replace hp := hp a30 t30 M30 ea30 et30 e30
  refine xJ_putRE (x := (some a30)) hX dX14_init_33 fd_X14_21 ft_X14 rfl rfl rfl rfl (xke_k hq30 (xke_k hq25 (xke_k hq22 (xke_k hq17 (xke_k hq14 (xke_k hq9 (xke_k hq6 hkx0 (by decide)) (by decide)) (by decide)) (by decide)) (by decide)) (by decide)) (by decide)) (fun t33 et33 hq33 => ?_)
  replace hp := hp t33 et33
  refine xJ_aload_n hX dX14_init_36 rfl ?_
  refine xJ_iconst hX dX14_init_37 ?_
  obtain ⟨hn38, hp⟩ := hp
  refine xJ_newAE hX hB hM30 dX14_init_38 kl_X14_7 (by decide) (by decide) (by omega) (by omega) (fun a38 t38 M38 ea38 et38 e38 hM38 hq38 hka38 => ?_)
  replace hp := hp a38 t38 M38 ea38 et38 e38
  refine xJ_putRE (x := (some a38)) hX dX14_init_41 fd_X14_24 ft_X14 rfl rfl rfl rfl (xke_k hq38 (xke_k hq33 (xke_k hq30 (xke_k hq25 (xke_k hq22 (xke_k hq17 (xke_k hq14 (xke_k hq9 (xke_k hq6 hkx0 (by decide)) (by decide)) (by decide)) (by decide)) (by decide)) (by decide)) (by decide)) (by decide)) (by decide)) (fun t41 et41 hq41 => ?_)
  replace hp := hp t41 et41
  refine xJ_aload_n hX dX14_init_44 rfl ?_
  refine xJ_iconst hX dX14_init_45 ?_
  obtain ⟨hn46, hp⟩ := hp
  refine xJ_newAE hX hB hM38 dX14_init_46 kl_X14_7 (by decide) (by decide) (by omega) (by omega) (fun a46 t46 M46 ea46 et46 e46 hM46 hq46 hka46 => ?_)
  replace hp := hp a46 t46 M46 ea46 et46 e46
  refine xJ_putRE (x := (some a46)) hX dX14_init_49 fd_X14_27 ft_X14 rfl rfl rfl rfl (xke_k hq46 (xke_k hq41 (xke_k hq38 (xke_k hq33 (xke_k hq30 (xke_k hq25 (xke_k hq22 (xke_k hq17 (xke_k hq14 (xke_k hq9 (xke_k hq6 hkx0 (by decide)) (by decide)) (by decide)) (by decide)) (by decide)) (by decide)) (by decide)) (by decide)) (by decide)) (by decide)) (by decide)) (fun t49 et49 hq49 => ?_)
  replace hp := hp t49 et49
  refine xJ_aload_n hX dX14_init_52 rfl ?_
  refine xJ_bipush hX dX14_init_53 rfl ?_
  refine xJ_bipush hX dX14_init_55 rfl ?_
  obtain ⟨hn57, hp⟩ := hp
  refine xJ_mnaE hX hB hM46 dX14_init_57 kl_X14_30 (by omega) (by omega) (fun a57 t57 M57 ea57 et57 e57 hM57 hq57 hka57 => ?_)
  replace hp := hp a57 t57 M57 ea57 et57 e57
  refine xJ_putRE (x := (some a57)) hX dX14_init_61 fd_X14_31 ft_X14 rfl rfl rfl rfl (xke_k hq57 (xke_k hq49 (xke_k hq46 (xke_k hq41 (xke_k hq38 (xke_k hq33 (xke_k hq30 (xke_k hq25 (xke_k hq22 (xke_k hq17 (xke_k hq14 (xke_k hq9 (xke_k hq6 hkx0 (by decide)) (by decide)) (by decide)) (by decide)) (by decide)) (by decide)) (by decide)) (by decide)) (by decide)) (by decide)) (by decide)) (by decide)) (by decide)) (fun t61 et61 hq61 => ?_)
  replace hp := hp t61 et61
  refine xJ_aload_n hX dX14_init_64 rfl ?_
  refine xJ_iconst hX dX14_init_65 ?_
  refine xJ_putIM hX dX14_init_66 fd_X14_34 ft_X14 rfl rfl rfl rfl (xke_k hq61 (xke_k hq57 (xke_k hq49 (xke_k hq46 (xke_k hq41 (xke_k hq38 (xke_k hq33 (xke_k hq30 (xke_k hq25 (xke_k hq22 (xke_k hq17 (xke_k hq14 (xke_k hq9 (xke_k hq6 hkx0 (by decide)) (by decide)) (by decide)) (by decide)) (by decide)) (by decide)) (by decide)) (by decide)) (by decide)) (by decide)) (by decide)) (by decide)) (by decide)) (by decide)) hM57 ⟨by decide, by decide⟩ (fun M66 e66 hM66 => ?_)
  replace hp := hp M66 e66
  refine xJ_aload_n hX dX14_init_69 rfl ?_
  refine xJ_bipush hX dX14_init_70 rfl ?_
  refine xJ_putIM hX dX14_init_72 fd_X14_38 ft_X14 rfl rfl rfl rfl (xke_k hq61 (xke_k hq57 (xke_k hq49 (xke_k hq46 (xke_k hq41 (xke_k hq38 (xke_k hq33 (xke_k hq30 (xke_k hq25 (xke_k hq22 (xke_k hq17 (xke_k hq14 (xke_k hq9 (xke_k hq6 hkx0 (by decide)) (by decide)) (by decide)) (by decide)) (by decide)) (by decide)) (by decide)) (by decide)) (by decide)) (by decide)) (by decide)) (by decide)) (by decide)) (by decide)) hM66 ⟨by decide, by decide⟩ (fun M72 e72 hM72 => ?_)
  replace hp := hp M72 e72
  refine xJ_aload_n hX dX14_init_75 rfl ?_
  refine xJ_bipush hX dX14_init_76 rfl ?_
  refine xJ_putIM hX dX14_init_78 fd_X14_41 ft_X14 rfl rfl rfl rfl (xke_k hq61 (xke_k hq57 (xke_k hq49 (xke_k hq46 (xke_k hq41 (xke_k hq38 (xke_k hq33 (xke_k hq30 (xke_k hq25 (xke_k hq22 (xke_k hq17 (xke_k hq14 (xke_k hq9 (xke_k hq6 hkx0 (by decide)) (by decide)) (by decide)) (by decide)) (by decide)) (by decide)) (by decide)) (by decide)) (by decide)) (by decide)) (by decide)) (by decide)) (by decide)) (by decide)) hM72 ⟨by decide, by decide⟩ (fun M78 e78 hM78 => ?_)
  replace hp := hp M78 e78
  exact xJ_vret hX hB dX14_init_81 (by omega) (by omega) ⟨rfl, hM78, (xke_trans (xke_trans (xke_trans (xke_trans (xke_trans (xke_trans (xke_trans (xke_trans (xke_trans (xke_trans (xke_trans (xke_trans (xke_trans (xke_trans (xke_refl _) hq6) hq9) hq14) hq17) hq22) hq25) hq30) hq33) hq38) hq41) hq46) hq49) hq57) hq61), hp⟩
def p_X14_copy (F : Nat) (n : Nat) (tE : xTh) (x0 : Nat) (ME : xMe) (Q : Nat → xTh → xMe → Prop) : Prop :=
  (1 ≤ n) ∧ (∀ (a0 : Nat) (t0 : xTh) (M0 : xMe), a0 = xz tE → t0 = xnw tE 20 0 → M0 = xw0 ME a0 → (∃ k4 : Nat, k4 ≤ (n - 1) ∧ p_X14_init F k4 t0 a0 M0 (fun t4 M4 => (∀ M13 : xMe, M13 = xw M4 a0 0 (M4 x0 0) → (∃ b18 : Nat, xr t4 x0 1 = some b18 ∧ xk t4 b18 = 17 ∧ (∀ t21 : xTh, t21 = xwr t4 a0 1 (some b18) → (∃ b26 : Nat, xr t21 x0 3 = some b26 ∧ xk t21 b26 = 17 ∧ (∀ t29 : xTh, t29 = xwr t21 a0 3 (some b26) → (∃ b34 : Nat, xr t29 x0 2 = some b34 ∧ xk t29 b34 = 17 ∧ (∃ k37 : Nat, k37 ≤ ((n - 1) - k4) ∧ p_L_copied F k37 t29 b34 M13 (fun r37 t37 M37 => (∀ t40 : xTh, t40 = xwr t37 a0 2 (some r37) → (∃ b45 : Nat, xr t40 x0 4 = some b45 ∧ xk t40 b45 = 17 ∧ (∃ k48 : Nat, k48 ≤ (((n - 1) - k4) - k37) ∧ p_L_copied F k48 t40 b45 M37 (fun r48 t48 M48 => (∀ t51 : xTh, t51 = xwr t48 a0 4 (some r48) → (∃ b56 : Nat, xr t51 x0 5 = some b56 ∧ xk t51 b56 = 17 ∧ (∃ k59 : Nat, k59 ≤ ((((n - 1) - k4) - k37) - k48) ∧ p_L_copied F k59 t51 b56 M48 (fun r59 t59 M59 => (∀ t62 : xTh, t62 = xwr t59 a0 5 (some r59) → (∃ b67 : Nat, xr t62 x0 6 = some b67 ∧ xk t62 b67 = 17 ∧ (∀ t70 : xTh, t70 = xwr t62 a0 6 (some b67) → (∃ b75 : Nat, xr t70 x0 7 = some b75 ∧ xk t70 b75 = 17 ∧ (∃ k78 : Nat, k78 ≤ (((((n - 1) - k4) - k37) - k48) - k59) ∧ p_L_copied F k78 t70 b75 M59 (fun r78 t78 M78 => (∀ t81 : xTh, t81 = xwr t78 a0 7 (some r78) → (∀ M89 : xMe, M89 = xw M78 a0 8 (M78 x0 8) → (∀ M97 : xMe, M97 = xw M89 a0 9 (M89 x0 9) → (∀ M105 : xMe, M105 = xw M97 a0 10 (M97 x0 10) → (∀ M113 : xMe, M113 = xw M105 a0 11 (M105 x0 11) → (∀ M121 : xMe, M121 = xw M113 a0 12 (M113 x0 12) → (∀ b, xr t81 x0 13 = some b → xk t81 b = 12) ∧ (∀ t129 : xTh, t129 = xwr t81 a0 13 (xr t81 x0 13) → Q a0 t129 M121))))))))))))))))))))))))))))))))
set_option maxHeartbeats 8000000 in
set_option maxRecDepth 100000 in
theorem c_X14_copy {G : xGx} {tE : xTh} {ME : xMe} {F nE : Nat} {x0 : Nat} {Q : Nat → xTh → xMe → Prop} (hME : xMR ME) (hkx0 : xk tE x0 = 20)  (hp : p_X14_copy F nE tE x0 ME Q) : xCt G yX14_copy cX14_copy 2 (some (.object "PacketTollLaw$Road")) 3 nE (64 * nE) [vr x0] tE ME (fun v t' M' => ∃ r, v = some (vr r) ∧ xk t' r = 20 ∧ xMR M' ∧ xke tE t' ∧ Q r t' M') (fun _ _ _ => False) := by
  refine xCt_of (L0 := [vr x0, vU]) (by decide +kernel) (Nat.le_of_ble_eq_true rfl) rfl ?_
  intro X hX hB
  unfold p_X14_copy at hp
  obtain ⟨hn0, hp⟩ := hp
  refine xJ_newE (ci := 20) hX hB hME dX14_copy_0 rfl (by decide) ft_X14 uw_X14 kl_X14_10 is_X14 in_X14 rfl (by decide) (by omega) (by omega) (fun a0 t0 M0 ea0 et0 e0 hM0 hq0 hka0 => ?_)
  replace hp := hp a0 t0 M0 ea0 et0 e0
  refine xJ_dup hX dX14_copy_3 rfl ?_
  obtain ⟨k4, hn4, hp⟩ := hp
  refine xJ_callI (As := []) hX hB dX14_copy_4 lk_X14_44 im_X14_init rfl (c_X14_init hM0 hka0 hp) (by decide) rfl rfl rfl (Nat.le_of_ble_eq_true rfl) (by omega) (by omega) (fun v t4 M4 hv => ?_)
  clear hp
  obtain ⟨rfl, hM4, hq4, hp⟩ := hv
  dsimp only [Option.toList, List.cons_append, List.nil_append]
  refine xJ_astore_n hX dX14_copy_7 (Nat.le_of_ble_eq_true rfl) rfl ?_
  dsimp only [List.set]
  refine xJ_aload_n hX dX14_copy_8 rfl ?_
  refine xJ_aload_n hX dX14_copy_9 rfl ?_
  refine xJ_getI hX dX14_copy_10 fd_X14_45 rfl (xke_k hq4 (xke_k hq0 hkx0 (by decide)) (by decide)) ?_
  refine xJ_putIM hX dX14_copy_13 fd_X14_45 ft_X14 rfl rfl rfl rfl (xke_k hq4 hka0 (by decide)) hM4 (hM4 _ _) (fun M13 e13 hM13 => ?_)
  replace hp := hp M13 e13
  refine xJ_aload_n hX dX14_copy_16 rfl ?_
  refine xJ_aload_n hX dX14_copy_17 rfl ?_
  obtain ⟨b18, e18, hkb18, hp⟩ := hp
  refine xJ_getR (b := b18) hX dX14_copy_18 fd_X14_9 rfl (xke_k hq4 (xke_k hq0 hkx0 (by decide)) (by decide)) e18 ?_
  refine xJ_putRE (x := (some b18)) hX dX14_copy_21 fd_X14_9 ft_X14 rfl rfl rfl rfl (xke_k hq4 hka0 (by decide)) (fun t21 et21 hq21 => ?_)
  replace hp := hp t21 et21
  refine xJ_aload_n hX dX14_copy_24 rfl ?_
  refine xJ_aload_n hX dX14_copy_25 rfl ?_
  obtain ⟨b26, e26, hkb26, hp⟩ := hp
  refine xJ_getR (b := b26) hX dX14_copy_26 fd_X14_18 rfl (xke_k hq21 (xke_k hq4 (xke_k hq0 hkx0 (by decide)) (by decide)) (by decide)) e26 ?_
  refine xJ_putRE (x := (some b26)) hX dX14_copy_29 fd_X14_18 ft_X14 rfl rfl rfl rfl (xke_k hq21 (xke_k hq4 hka0 (by decide)) (by decide)) (fun t29 et29 hq29 => ?_)
  replace hp := hp t29 et29
  refine xJ_aload_n hX dX14_copy_32 rfl ?_
  refine xJ_aload_n hX dX14_copy_33 rfl ?_
  obtain ⟨b34, e34, hkb34, hp⟩ := hp
  refine xJ_getR (b := b34) hX dX14_copy_34 fd_X14_15 rfl (xke_k hq29 (xke_k hq21 (xke_k hq4 (xke_k hq0 hkx0 (by decide)) (by decide)) (by decide)) (by decide)) e34 ?_
  obtain ⟨k37, hn37, hp⟩ := hp
  refine xJ_callSN (As := [_]) hX hB dX14_copy_37 ln_X14_48 sm_L_copied (c_L_copied hM13 hkb34 hp) (by decide) rfl rfl rfl (Nat.le_of_ble_eq_true rfl) (by omega) (by omega) (fun v t37 M37 hv => ?_)
  clear hp
  obtain ⟨r37, rfl, hk37, hM37, hq37, hp⟩ := hv
  dsimp only [Option.toList, List.cons_append, List.nil_append]
  refine xJ_putRE (x := (some r37)) hX dX14_copy_40 fd_X14_15 ft_X14 rfl rfl rfl rfl (xke_k hq37 (xke_k hq29 (xke_k hq21 (xke_k hq4 hka0 (by decide)) (by decide)) (by decide)) (by decide)) (fun t40 et40 hq40 => ?_)
  replace hp := hp t40 et40
  refine xJ_aload_n hX dX14_copy_43 rfl ?_
  refine xJ_aload_n hX dX14_copy_44 rfl ?_
  obtain ⟨b45, e45, hkb45, hp⟩ := hp
  refine xJ_getR (b := b45) hX dX14_copy_45 fd_X14_21 rfl (xke_k hq40 (xke_k hq37 (xke_k hq29 (xke_k hq21 (xke_k hq4 (xke_k hq0 hkx0 (by decide)) (by decide)) (by decide)) (by decide)) (by decide)) (by decide)) e45 ?_
  obtain ⟨k48, hn48, hp⟩ := hp
  refine xJ_callSN (As := [_]) hX hB dX14_copy_48 ln_X14_48 sm_L_copied (c_L_copied hM37 hkb45 hp) (by decide) rfl rfl rfl (Nat.le_of_ble_eq_true rfl) (by omega) (by omega) (fun v t48 M48 hv => ?_)
  clear hp
  obtain ⟨r48, rfl, hk48, hM48, hq48, hp⟩ := hv
  dsimp only [Option.toList, List.cons_append, List.nil_append]
  refine xJ_putRE (x := (some r48)) hX dX14_copy_51 fd_X14_21 ft_X14 rfl rfl rfl rfl (xke_k hq48 (xke_k hq40 (xke_k hq37 (xke_k hq29 (xke_k hq21 (xke_k hq4 hka0 (by decide)) (by decide)) (by decide)) (by decide)) (by decide)) (by decide)) (fun t51 et51 hq51 => ?_)
  replace hp := hp t51 et51
  refine xJ_aload_n hX dX14_copy_54 rfl ?_
  refine xJ_aload_n hX dX14_copy_55 rfl ?_
  obtain ⟨b56, e56, hkb56, hp⟩ := hp
  refine xJ_getR (b := b56) hX dX14_copy_56 fd_X14_24 rfl (xke_k hq51 (xke_k hq48 (xke_k hq40 (xke_k hq37 (xke_k hq29 (xke_k hq21 (xke_k hq4 (xke_k hq0 hkx0 (by decide)) (by decide)) (by decide)) (by decide)) (by decide)) (by decide)) (by decide)) (by decide)) e56 ?_
  obtain ⟨k59, hn59, hp⟩ := hp
  refine xJ_callSN (As := [_]) hX hB dX14_copy_59 ln_X14_48 sm_L_copied (c_L_copied hM48 hkb56 hp) (by decide) rfl rfl rfl (Nat.le_of_ble_eq_true rfl) (by omega) (by omega) (fun v t59 M59 hv => ?_)
  clear hp
  obtain ⟨r59, rfl, hk59, hM59, hq59, hp⟩ := hv
  dsimp only [Option.toList, List.cons_append, List.nil_append]
  refine xJ_putRE (x := (some r59)) hX dX14_copy_62 fd_X14_24 ft_X14 rfl rfl rfl rfl (xke_k hq59 (xke_k hq51 (xke_k hq48 (xke_k hq40 (xke_k hq37 (xke_k hq29 (xke_k hq21 (xke_k hq4 hka0 (by decide)) (by decide)) (by decide)) (by decide)) (by decide)) (by decide)) (by decide)) (by decide)) (fun t62 et62 hq62 => ?_)
  replace hp := hp t62 et62
  refine xJ_aload_n hX dX14_copy_65 rfl ?_
  refine xJ_aload_n hX dX14_copy_66 rfl ?_
  obtain ⟨b67, e67, hkb67, hp⟩ := hp
  refine xJ_getR (b := b67) hX dX14_copy_67 fd_X14_27 rfl (xke_k hq62 (xke_k hq59 (xke_k hq51 (xke_k hq48 (xke_k hq40 (xke_k hq37 (xke_k hq29 (xke_k hq21 (xke_k hq4 (xke_k hq0 hkx0 (by decide)) (by decide)) (by decide)) (by decide)) (by decide)) (by decide)) (by decide)) (by decide)) (by decide)) (by decide)) e67 ?_
  refine xJ_putRE (x := (some b67)) hX dX14_copy_70 fd_X14_27 ft_X14 rfl rfl rfl rfl (xke_k hq62 (xke_k hq59 (xke_k hq51 (xke_k hq48 (xke_k hq40 (xke_k hq37 (xke_k hq29 (xke_k hq21 (xke_k hq4 hka0 (by decide)) (by decide)) (by decide)) (by decide)) (by decide)) (by decide)) (by decide)) (by decide)) (by decide)) (fun t70 et70 hq70 => ?_)
  replace hp := hp t70 et70
  refine xJ_aload_n hX dX14_copy_73 rfl ?_
  refine xJ_aload_n hX dX14_copy_74 rfl ?_
  obtain ⟨b75, e75, hkb75, hp⟩ := hp
  refine xJ_getR (b := b75) hX dX14_copy_75 fd_X14_31 rfl (xke_k hq70 (xke_k hq62 (xke_k hq59 (xke_k hq51 (xke_k hq48 (xke_k hq40 (xke_k hq37 (xke_k hq29 (xke_k hq21 (xke_k hq4 (xke_k hq0 hkx0 (by decide)) (by decide)) (by decide)) (by decide)) (by decide)) (by decide)) (by decide)) (by decide)) (by decide)) (by decide)) (by decide)) e75 ?_
  obtain ⟨k78, hn78, hp⟩ := hp
  refine xJ_callSN (As := [_]) hX hB dX14_copy_78 ln_X14_48 sm_L_copied (c_L_copied hM59 hkb75 hp) (by decide) rfl rfl rfl (Nat.le_of_ble_eq_true rfl) (by omega) (by omega) (fun v t78 M78 hv => ?_)
  clear hp
  obtain ⟨r78, rfl, hk78, hM78, hq78, hp⟩ := hv
  dsimp only [Option.toList, List.cons_append, List.nil_append]
  refine xJ_putRE (x := (some r78)) hX dX14_copy_81 fd_X14_31 ft_X14 rfl rfl rfl rfl (xke_k hq78 (xke_k hq70 (xke_k hq62 (xke_k hq59 (xke_k hq51 (xke_k hq48 (xke_k hq40 (xke_k hq37 (xke_k hq29 (xke_k hq21 (xke_k hq4 hka0 (by decide)) (by decide)) (by decide)) (by decide)) (by decide)) (by decide)) (by decide)) (by decide)) (by decide)) (by decide)) (by decide)) (fun t81 et81 hq81 => ?_)
  replace hp := hp t81 et81
  refine xJ_aload_n hX dX14_copy_84 rfl ?_
  refine xJ_aload_n hX dX14_copy_85 rfl ?_
  refine xJ_getI hX dX14_copy_86 fd_X14_54 rfl (xke_k hq81 (xke_k hq78 (xke_k hq70 (xke_k hq62 (xke_k hq59 (xke_k hq51 (xke_k hq48 (xke_k hq40 (xke_k hq37 (xke_k hq29 (xke_k hq21 (xke_k hq4 (xke_k hq0 hkx0 (by decide)) (by decide)) (by decide)) (by decide)) (by decide)) (by decide)) (by decide)) (by decide)) (by decide)) (by decide)) (by decide)) (by decide)) (by decide)) ?_
  refine xJ_putIM hX dX14_copy_89 fd_X14_54 ft_X14 rfl rfl rfl rfl (xke_k hq81 (xke_k hq78 (xke_k hq70 (xke_k hq62 (xke_k hq59 (xke_k hq51 (xke_k hq48 (xke_k hq40 (xke_k hq37 (xke_k hq29 (xke_k hq21 (xke_k hq4 hka0 (by decide)) (by decide)) (by decide)) (by decide)) (by decide)) (by decide)) (by decide)) (by decide)) (by decide)) (by decide)) (by decide)) (by decide)) hM78 (hM78 _ _) (fun M89 e89 hM89 => ?_)
  replace hp := hp M89 e89
  refine xJ_aload_n hX dX14_copy_92 rfl ?_
  refine xJ_aload_n hX dX14_copy_93 rfl ?_
  refine xJ_getI hX dX14_copy_94 fd_X14_57 rfl (xke_k hq81 (xke_k hq78 (xke_k hq70 (xke_k hq62 (xke_k hq59 (xke_k hq51 (xke_k hq48 (xke_k hq40 (xke_k hq37 (xke_k hq29 (xke_k hq21 (xke_k hq4 (xke_k hq0 hkx0 (by decide)) (by decide)) (by decide)) (by decide)) (by decide)) (by decide)) (by decide)) (by decide)) (by decide)) (by decide)) (by decide)) (by decide)) (by decide)) ?_
  refine xJ_putIM hX dX14_copy_97 fd_X14_57 ft_X14 rfl rfl rfl rfl (xke_k hq81 (xke_k hq78 (xke_k hq70 (xke_k hq62 (xke_k hq59 (xke_k hq51 (xke_k hq48 (xke_k hq40 (xke_k hq37 (xke_k hq29 (xke_k hq21 (xke_k hq4 hka0 (by decide)) (by decide)) (by decide)) (by decide)) (by decide)) (by decide)) (by decide)) (by decide)) (by decide)) (by decide)) (by decide)) (by decide)) hM89 (hM89 _ _) (fun M97 e97 hM97 => ?_)
  replace hp := hp M97 e97
  refine xJ_aload_n hX dX14_copy_100 rfl ?_
  refine xJ_aload_n hX dX14_copy_101 rfl ?_
  refine xJ_getI hX dX14_copy_102 fd_X14_34 rfl (xke_k hq81 (xke_k hq78 (xke_k hq70 (xke_k hq62 (xke_k hq59 (xke_k hq51 (xke_k hq48 (xke_k hq40 (xke_k hq37 (xke_k hq29 (xke_k hq21 (xke_k hq4 (xke_k hq0 hkx0 (by decide)) (by decide)) (by decide)) (by decide)) (by decide)) (by decide)) (by decide)) (by decide)) (by decide)) (by decide)) (by decide)) (by decide)) (by decide)) ?_
  refine xJ_putIM hX dX14_copy_105 fd_X14_34 ft_X14 rfl rfl rfl rfl (xke_k hq81 (xke_k hq78 (xke_k hq70 (xke_k hq62 (xke_k hq59 (xke_k hq51 (xke_k hq48 (xke_k hq40 (xke_k hq37 (xke_k hq29 (xke_k hq21 (xke_k hq4 hka0 (by decide)) (by decide)) (by decide)) (by decide)) (by decide)) (by decide)) (by decide)) (by decide)) (by decide)) (by decide)) (by decide)) (by decide)) hM97 (hM97 _ _) (fun M105 e105 hM105 => ?_)
  replace hp := hp M105 e105
  refine xJ_aload_n hX dX14_copy_108 rfl ?_
  refine xJ_aload_n hX dX14_copy_109 rfl ?_
  refine xJ_getI hX dX14_copy_110 fd_X14_38 rfl (xke_k hq81 (xke_k hq78 (xke_k hq70 (xke_k hq62 (xke_k hq59 (xke_k hq51 (xke_k hq48 (xke_k hq40 (xke_k hq37 (xke_k hq29 (xke_k hq21 (xke_k hq4 (xke_k hq0 hkx0 (by decide)) (by decide)) (by decide)) (by decide)) (by decide)) (by decide)) (by decide)) (by decide)) (by decide)) (by decide)) (by decide)) (by decide)) (by decide)) ?_
  refine xJ_putIM hX dX14_copy_113 fd_X14_38 ft_X14 rfl rfl rfl rfl (xke_k hq81 (xke_k hq78 (xke_k hq70 (xke_k hq62 (xke_k hq59 (xke_k hq51 (xke_k hq48 (xke_k hq40 (xke_k hq37 (xke_k hq29 (xke_k hq21 (xke_k hq4 hka0 (by decide)) (by decide)) (by decide)) (by decide)) (by decide)) (by decide)) (by decide)) (by decide)) (by decide)) (by decide)) (by decide)) (by decide)) hM105 (hM105 _ _) (fun M113 e113 hM113 => ?_)
  replace hp := hp M113 e113
  refine xJ_aload_n hX dX14_copy_116 rfl ?_
  refine xJ_aload_n hX dX14_copy_117 rfl ?_
  refine xJ_getI hX dX14_copy_118 fd_X14_41 rfl (xke_k hq81 (xke_k hq78 (xke_k hq70 (xke_k hq62 (xke_k hq59 (xke_k hq51 (xke_k hq48 (xke_k hq40 (xke_k hq37 (xke_k hq29 (xke_k hq21 (xke_k hq4 (xke_k hq0 hkx0 (by decide)) (by decide)) (by decide)) (by decide)) (by decide)) (by decide)) (by decide)) (by decide)) (by decide)) (by decide)) (by decide)) (by decide)) (by decide)) ?_
  refine xJ_putIM hX dX14_copy_121 fd_X14_41 ft_X14 rfl rfl rfl rfl (xke_k hq81 (xke_k hq78 (xke_k hq70 (xke_k hq62 (xke_k hq59 (xke_k hq51 (xke_k hq48 (xke_k hq40 (xke_k hq37 (xke_k hq29 (xke_k hq21 (xke_k hq4 hka0 (by decide)) (by decide)) (by decide)) (by decide)) (by decide)) (by decide)) (by decide)) (by decide)) (by decide)) (by decide)) (by decide)) (by decide)) hM113 (hM113 _ _) (fun M121 e121 hM121 => ?_)
  replace hp := hp M121 e121
  refine xJ_aload_n hX dX14_copy_124 rfl ?_
  refine xJ_aload_n hX dX14_copy_125 rfl ?_
  refine xJ_getO hX dX14_copy_126 fd_X14_60 rfl (xke_k hq81 (xke_k hq78 (xke_k hq70 (xke_k hq62 (xke_k hq59 (xke_k hq51 (xke_k hq48 (xke_k hq40 (xke_k hq37 (xke_k hq29 (xke_k hq21 (xke_k hq4 (xke_k hq0 hkx0 (by decide)) (by decide)) (by decide)) (by decide)) (by decide)) (by decide)) (by decide)) (by decide)) (by decide)) (by decide)) (by decide)) (by decide)) (by decide)) ?_
  obtain ⟨hk126, hp⟩ := hp
  refine xJ_putRE (x := (xr t81 x0 13)) hX dX14_copy_129 fd_X14_60 ft_X14 rfl rfl (xnr_ob _ _) (xft_ob _ _) (xke_k hq81 (xke_k hq78 (xke_k hq70 (xke_k hq62 (xke_k hq59 (xke_k hq51 (xke_k hq48 (xke_k hq40 (xke_k hq37 (xke_k hq29 (xke_k hq21 (xke_k hq4 hka0 (by decide)) (by decide)) (by decide)) (by decide)) (by decide)) (by decide)) (by decide)) (by decide)) (by decide)) (by decide)) (by decide)) (by decide)) (fun t129 et129 hq129 => ?_)
  replace hp := hp t129 et129
  refine xJ_aload_n hX dX14_copy_132 rfl ?_
  exact xJ_aret hX hB dX14_copy_133 (Or.inl ⟨_, rfl⟩) (Or.inr ⟨_, rfl⟩) (by omega) (by omega) ⟨_, rfl, (xke_k hq129 (xke_k hq81 (xke_k hq78 (xke_k hq70 (xke_k hq62 (xke_k hq59 (xke_k hq51 (xke_k hq48 (xke_k hq40 (xke_k hq37 (xke_k hq29 (xke_k hq21 (xke_k hq4 hka0 (by decide)) (by decide)) (by decide)) (by decide)) (by decide)) (by decide)) (by decide)) (by decide)) (by decide)) (by decide)) (by decide)) (by decide)) (by decide)), hM121, (xke_trans (xke_trans (xke_trans (xke_trans (xke_trans (xke_trans (xke_trans (xke_trans (xke_trans (xke_trans (xke_trans (xke_trans (xke_trans (xke_trans (xke_refl _) hq0) hq4) hq21) hq29) hq37) hq40) hq48) hq51) hq59) hq62) hq70) hq78) hq81) hq129), hp⟩
def p_X14_gateOf (F : Nat) (n : Nat) (tE : xTh) (x0 : Nat) (x1 : Nat) (ME : xMe) (Q : Int → xTh → xMe → Prop) : Prop :=
  (∃ b1 : Nat, xr tE x0 3 = some b1 ∧ xk tE b1 = 17 ∧ ((0 : Int) ≤ 0 ∧ 0 < (xn tE x1 : Int)) ∧ ((0 : Int) ≤ (ME x1 0) ∧ (ME x1 0) < (xn tE b1 : Int)) ∧ (∃ b7 : Nat, xr tE b1 (ME x1 0).toNat = some b7 ∧ xk tE b7 = 14 ∧ ((0 : Int) ≤ 4 ∧ 4 < (xn tE x1 : Int)) ∧ ((0 : Int) ≤ (ME x1 4) ∧ (ME x1 4) < (xn tE b7 : Int)) ∧ Q (ME b7 (ME x1 4).toNat) tE ME))
set_option maxHeartbeats 8000000 in
set_option maxRecDepth 100000 in
theorem c_X14_gateOf {G : xGx} {tE : xTh} {ME : xMe} {F nE : Nat} {x0 : Nat} {x1 : Nat} {Q : Int → xTh → xMe → Prop} (hME : xMR ME) (hkx0 : xk tE x0 = 20) (hkx1 : xk tE x1 = 14)  (hp : p_X14_gateOf F nE tE x0 x1 ME Q) : xCt G yX14_gateOf cX14_gateOf 2 (some .int) 1 nE (64 * nE) [vr x0, vr x1] tE ME (fun v t' M' => ∃ r, v = some (vi r) ∧ xR r ∧ xMR M' ∧ xke tE t' ∧ Q r t' M') (fun _ _ _ => False) := by
  refine xCt_of (L0 := [vr x0, vr x1]) (by decide +kernel) (Nat.le_of_ble_eq_true rfl) rfl ?_
  intro X hX hB
  unfold p_X14_gateOf at hp
  refine xJ_aload_n hX dX14_gateOf_0 rfl ?_
  obtain ⟨b1, e1, hkb1, hp⟩ := hp
  refine xJ_getR (b := b1) hX dX14_gateOf_1 fd_X14_18 rfl hkx0 e1 ?_
  refine xJ_aload_n hX dX14_gateOf_4 rfl ?_
  refine xJ_iconst hX dX14_gateOf_5 ?_
  obtain ⟨h6, hp⟩ := hp
  refine xJ_iald hX dX14_gateOf_6 hkx1 h6.1 h6.2 ?_
  obtain ⟨h7, hp⟩ := hp
  obtain ⟨b7, e7, hkb7, hp⟩ := hp
  refine xJ_aaldOb hX dX14_gateOf_7 hkb1 h7.1 h7.2 e7 ?_
  refine xJ_aload_n hX dX14_gateOf_8 rfl ?_
  refine xJ_iconst hX dX14_gateOf_9 ?_
  obtain ⟨h10, hp⟩ := hp
  refine xJ_iald hX dX14_gateOf_10 hkx1 h10.1 h10.2 ?_
  obtain ⟨h11, hp⟩ := hp
  refine xJ_iald hX dX14_gateOf_11 hkb7 h11.1 h11.2 ?_
  exact xJ_iret hX hB dX14_gateOf_12 (by omega) (by omega) ⟨_, rfl, (hME _ _), hME, (xke_refl _), hp⟩
def p_X14_queue_16 (F : Nat) (Q : Int → xTh → xMe → Prop) : Nat → Nat → Nat → Int → Int → Int → Nat → Int → Int → xTh → xMe → Prop
  | 0, _, _, _, _, _, _, _, _, _, _ => False
  | k + 1, n, x0, x1, x2, x3, x4, x5, x6, t, M =>
    ((x5 ≤ x6 → Q x3 t M) ∧ (x6 < x5 → ((0 : Int) ≤ x6 ∧ x6 < (xn t x4 : Int)) ∧ (∃ b27 : Nat, xr t x4 x6.toNat = some b27 ∧ xk t b27 = 14 ∧ ((0 : Int) ≤ 3 ∧ 3 < (xn t b27 : Int)) ∧ (((M b27 3) ≠ 1 → (xR (x6 + 1)) ∧ p_X14_queue_16 F Q k n x0 x1 x2 x3 x4 x5 (x6 + 1) t M) ∧ ((M b27 3) = 1 → ((0 : Int) ≤ 0 ∧ 0 < (xn t b27 : Int)) ∧ (((M b27 0) ≠ x2 → (xR (x6 + 1)) ∧ p_X14_queue_16 F Q k n x0 x1 x2 x3 x4 x5 (x6 + 1) t M) ∧ ((M b27 0) = x2 → (∃ k49 : Nat, k49 ≤ n ∧ p_X14_gateOf F k49 t x0 b27 M (fun r49 t49 M49 => ((r49 ≠ x1 → (xR (x6 + 1)) ∧ p_X14_queue_16 F Q k ((n - k49)) x0 x1 x2 x3 x4 x5 (x6 + 1) t49 M49) ∧ (r49 = x1 → (xR (x3 + 1)) ∧ (xR (x6 + 1)) ∧ p_X14_queue_16 F Q k ((n - k49)) x0 x1 x2 (x3 + 1) x4 x5 (x6 + 1) t49 M49)))))))))))
def p_X14_queue (F : Nat) (n : Nat) (tE : xTh) (x0 : Nat) (x1 : Int) (x2 : Int) (ME : xMe) (Q : Int → xTh → xMe → Prop) : Prop :=
  (∃ b3 : Nat, xr tE x0 4 = some b3 ∧ xk tE b3 = 17 ∧ (xR ((xn tE b3 : Nat) : Int)) ∧ (∀ z11 : Int, z11 = ((xn tE b3 : Nat) : Int) → p_X14_queue_16 F Q F n x0 x1 x2 0 b3 z11 0 tE ME))
set_option maxHeartbeats 8000000 in
set_option maxRecDepth 100000 in
theorem c_X14_queue {G : xGx} {tE : xTh} {ME : xMe} {F nE : Nat} {x0 : Nat} {x1 : Int} {x2 : Int} {Q : Int → xTh → xMe → Prop} (hME : xMR ME) (hkx0 : xk tE x0 = 20) (hx1 : xR x1) (hx2 : xR x2) (hp : p_X14_queue F nE tE x0 x1 x2 ME Q) : xCt G yX14_queue cX14_queue 8 (some .int) 2 nE (64 * nE) [vr x0, vi x1, vi x2] tE ME (fun v t' M' => ∃ r, v = some (vi r) ∧ xR r ∧ xMR M' ∧ xke tE t' ∧ Q r t' M') (fun _ _ _ => False) := by
  refine xCt_of (L0 := [vr x0, vi x1, vi x2, vU, vU, vU, vU, vU]) (by decide +kernel) (Nat.le_of_ble_eq_true rfl) rfl ?_
  intro X hX hB
  unfold p_X14_queue at hp
  refine xJ_iconst hX dX14_queue_0 ?_
  refine xJ_istore_n hX dX14_queue_1 (Nat.le_of_ble_eq_true rfl) rfl ?_
  dsimp only [List.set]
  refine xJ_aload_n hX dX14_queue_2 rfl ?_
  obtain ⟨b3, e3, hkb3, hp⟩ := hp
  refine xJ_getR (b := b3) hX dX14_queue_3 fd_X14_21 rfl hkx0 e3 ?_
  refine xJ_astore hX dX14_queue_6 (Nat.le_of_ble_eq_true rfl) rfl ?_
  dsimp only [List.set]
  refine xJ_aload hX dX14_queue_8 rfl ?_
  refine xJ_alen hX dX14_queue_10 (by rw [hkb3]; decide) (by rw [hkb3]; decide) ?_
  obtain ⟨h10, hp⟩ := hp
  refine xJ_istore hX dX14_queue_11 (Nat.le_of_ble_eq_true rfl) rfl ?_
  dsimp only [List.set]
  replace hp := hp _ rfl
  refine xJ_iconst hX dX14_queue_13 ?_
  refine xJ_istore hX dX14_queue_14 (Nat.le_of_ble_eq_true rfl) rfl ?_
  dsimp only [List.set]
  have l16 : ∀ (k16 : Nat) (c s n : Nat) (x0 : Nat) (x1 : Int) (x2 : Int) (x3 : Int) (x4 : Nat) (x5 : Int) (x6 : Int) (t : xTh) (M : xMe) (hc : c + n ≤ nE) (hs : s + 64 * n ≤ 64 * nE) (hM : xMR M) (hqE : xke tE t) (hkx0 : xk t x0 = 20) (hx1 : xR x1) (hx2 : xR x2) (hx3 : xR x3) (hkx4 : xk t x4 = 17) (hx5 : xR x5) (hx6 : xR x6) (hp : p_X14_queue_16 F Q k16 n x0 x1 x2 x3 x4 x5 x6 t M), xJ X c s t M 16 [vr x0, vi x1, vi x2, vi x3, vr x4, vi x5, vi x6, vU] [] := by
    intro k16
    induction k16 with
    | zero => intro c s n x0 x1 x2 x3 x4 x5 x6 t M hc hs hM hqE hkx0 hx1 hx2 hx3 hkx4 hx5 hx6 hp; exact hp.elim
    | succ k16 ih16 =>
      intro c s n x0 x1 x2 x3 x4 x5 x6 t M hc hs hM hqE hkx0 hx1 hx2 hx3 hkx4 hx5 hx6 hp
      unfold p_X14_queue_16 at hp
      refine xJ_iload hX dX14_queue_16 rfl ?_
      refine xJ_iload hX dX14_queue_18 rfl ?_
      refine xJ_icmp_ge hX dX14_queue_20 (tgt := 65) (by decide) hx6 hx5 (fun c20 => ?_) (fun c20 => ?_)
      · replace hp := hp.1 c20
        refine xJ_iload_n hX dX14_queue_65 rfl ?_
        exact xJ_iret hX hB dX14_queue_66 (by omega) (by omega) ⟨_, rfl, hx3, hM, hqE, hp⟩
      · replace hp := hp.2 c20
        refine xJ_aload hX dX14_queue_23 rfl ?_
        refine xJ_iload hX dX14_queue_25 rfl ?_
        obtain ⟨h27, hp⟩ := hp
        obtain ⟨b27, e27, hkb27, hp⟩ := hp
        refine xJ_aaldOb hX dX14_queue_27 hkx4 h27.1 h27.2 e27 ?_
        refine xJ_astore hX dX14_queue_28 (Nat.le_of_ble_eq_true rfl) rfl ?_
        dsimp only [List.set]
        refine xJ_aload hX dX14_queue_30 rfl ?_
        refine xJ_iconst hX dX14_queue_32 ?_
        obtain ⟨h33, hp⟩ := hp
        refine xJ_iald hX dX14_queue_33 hkb27 h33.1 h33.2 ?_
        refine xJ_iconst hX dX14_queue_34 ?_
        refine xJ_icmp_ne hX dX14_queue_35 (tgt := 59) (by decide) (hM _ _) ⟨by decide, by decide⟩ (fun c35 => ?_) (fun c35 => ?_)
        · replace hp := hp.1 c35
          refine xJ_iinc hX dX14_queue_59 rfl rfl ?_
          dsimp only [List.set]
          obtain ⟨h59, hp⟩ := hp
          refine xJ_goto hX dX14_queue_62 (tgt := 16) (by decide) ?_
          refine xJ_fg 7 ?_
          dsimp only [List.set]
          exact ih16 _ _ _ _ _ _ _ _ _ _ _ _ (by omega) (by omega) hM hqE hkx0 hx1 hx2 hx3 hkx4 hx5 h59 hp
        · replace hp := hp.2 c35
          refine xJ_aload hX dX14_queue_38 rfl ?_
          refine xJ_iconst hX dX14_queue_40 ?_
          obtain ⟨h41, hp⟩ := hp
          refine xJ_iald hX dX14_queue_41 hkb27 h41.1 h41.2 ?_
          refine xJ_iload_n hX dX14_queue_42 rfl ?_
          refine xJ_icmp_ne hX dX14_queue_43 (tgt := 59) (by decide) (hM _ _) hx2 (fun c43 => ?_) (fun c43 => ?_)
          · replace hp := hp.1 c43
            refine xJ_iinc hX dX14_queue_59 rfl rfl ?_
            dsimp only [List.set]
            obtain ⟨h59, hp⟩ := hp
            refine xJ_goto hX dX14_queue_62 (tgt := 16) (by decide) ?_
            refine xJ_fg 7 ?_
            dsimp only [List.set]
            exact ih16 _ _ _ _ _ _ _ _ _ _ _ _ (by omega) (by omega) hM hqE hkx0 hx1 hx2 hx3 hkx4 hx5 h59 hp
          · replace hp := hp.2 c43
            refine xJ_aload_n hX dX14_queue_46 rfl ?_
            refine xJ_aload hX dX14_queue_47 rfl ?_
            obtain ⟨k49, hn49, hp⟩ := hp
            refine xJ_callV (As := [_]) hX hB dX14_queue_49 lk_X14_64 im_X14_gateOf se_X14_gateOf rfl (by decide) hkx0 (c_X14_gateOf hM hkx0 hkb27 hp) (by decide) rfl rfl rfl (Nat.le_of_ble_eq_true rfl) (by omega) (by omega) (fun v t49 M49 hv => ?_) (fun _ _ _ q => q.elim)
            clear hp
            obtain ⟨r49, rfl, h49, hM49, hq49, hp⟩ := hv
            dsimp only [Option.toList, List.cons_append, List.nil_append]
            refine xJ_iload_n hX dX14_queue_52 rfl ?_
            refine xJ_icmp_ne hX dX14_queue_53 (tgt := 59) (by decide) h49 hx1 (fun c53 => ?_) (fun c53 => ?_)
            · replace hp := hp.1 c53
              refine xJ_iinc hX dX14_queue_59 rfl rfl ?_
              dsimp only [List.set]
              obtain ⟨h59, hp⟩ := hp
              refine xJ_goto hX dX14_queue_62 (tgt := 16) (by decide) ?_
              refine xJ_fg 7 ?_
              dsimp only [List.set]
              exact ih16 _ _ _ _ _ _ _ _ _ _ _ _ (by omega) (by omega) hM49 (xke_trans hqE hq49) (xke_k hq49 hkx0 (by decide)) hx1 hx2 hx3 (xke_k hq49 hkx4 (by decide)) hx5 h59 hp
            · replace hp := hp.2 c53
              refine xJ_iinc hX dX14_queue_56 rfl rfl ?_
              dsimp only [List.set]
              obtain ⟨h56, hp⟩ := hp
              refine xJ_iinc hX dX14_queue_59 rfl rfl ?_
              dsimp only [List.set]
              obtain ⟨h59, hp⟩ := hp
              refine xJ_goto hX dX14_queue_62 (tgt := 16) (by decide) ?_
              refine xJ_fg 7 ?_
              dsimp only [List.set]
              exact ih16 _ _ _ _ _ _ _ _ _ _ _ _ (by omega) (by omega) hM49 (xke_trans hqE hq49) (xke_k hq49 hkx0 (by decide)) hx1 hx2 h56 (xke_k hq49 hkx4 (by decide)) hx5 h59 hp
  exact l16 F _ _ _ _ _ _ _ _ _ _ _ _ (by omega) (by omega) hME (xke_refl _) hkx0 hx1 hx2 ⟨by decide, by decide⟩ hkb3 h10 ⟨by decide, by decide⟩ hp
def p_X14_sum_14 (F : Nat) (Q : Int → xTh → xMe → Prop) : Nat → Nat → Int → Int → Nat → Int → Int → xTh → xMe → Prop
  | 0, _, _, _, _, _, _, _, _ => False
  | k + 1, n, x1, x2, x3, x4, x5, t, M =>
    ((x4 ≤ x5 → Q x2 t M) ∧ (x5 < x4 → ((0 : Int) ≤ x5 ∧ x5 < (xn t x3 : Int)) ∧ (∃ b24 : Nat, xr t x3 x5.toNat = some b24 ∧ xk t b24 = 14 ∧ ((0 : Int) ≤ 0 ∧ 0 < (xn t b24 : Int)) ∧ (((M b24 0) ≠ x1 → (xR (x5 + 1)) ∧ p_X14_sum_14 F Q k n x1 x2 x3 x4 (x5 + 1) t M) ∧ ((M b24 0) = x1 → ((0 : Int) ≤ 1 ∧ 1 < (xn t b24 : Int)) ∧ (xR (x2 + (M b24 1))) ∧ (∀ z41 : Int, z41 = x2 + (M b24 1) → (xR (x5 + 1)) ∧ p_X14_sum_14 F Q k n x1 z41 x3 x4 (x5 + 1) t M))))))
def p_X14_sum (F : Nat) (n : Nat) (tE : xTh) (x0 : Nat) (x1 : Int) (ME : xMe) (Q : Int → xTh → xMe → Prop) : Prop :=
  (∃ b3 : Nat, xr tE x0 5 = some b3 ∧ xk tE b3 = 17 ∧ (xR ((xn tE b3 : Nat) : Int)) ∧ (∀ z9 : Int, z9 = ((xn tE b3 : Nat) : Int) → p_X14_sum_14 F Q F n x1 0 b3 z9 0 tE ME))
set_option maxHeartbeats 8000000 in
set_option maxRecDepth 100000 in
theorem c_X14_sum {G : xGx} {tE : xTh} {ME : xMe} {F nE : Nat} {x0 : Nat} {x1 : Int} {Q : Int → xTh → xMe → Prop} (hME : xMR ME) (hkx0 : xk tE x0 = 20) (hx1 : xR x1) (hp : p_X14_sum F nE tE x0 x1 ME Q) : xCt G yX14_sum cX14_sum 7 (some .int) 1 nE (64 * nE) [vr x0, vi x1] tE ME (fun v t' M' => ∃ r, v = some (vi r) ∧ xR r ∧ xMR M' ∧ xke tE t' ∧ Q r t' M') (fun _ _ _ => False) := by
  refine xCt_of (L0 := [vr x0, vi x1, vU, vU, vU, vU, vU]) (by decide +kernel) (Nat.le_of_ble_eq_true rfl) rfl ?_
  intro X hX hB
  unfold p_X14_sum at hp
  refine xJ_iconst hX dX14_sum_0 ?_
  refine xJ_istore_n hX dX14_sum_1 (Nat.le_of_ble_eq_true rfl) rfl ?_
  dsimp only [List.set]
  refine xJ_aload_n hX dX14_sum_2 rfl ?_
  obtain ⟨b3, e3, hkb3, hp⟩ := hp
  refine xJ_getR (b := b3) hX dX14_sum_3 fd_X14_24 rfl hkx0 e3 ?_
  refine xJ_astore_n hX dX14_sum_6 (Nat.le_of_ble_eq_true rfl) rfl ?_
  dsimp only [List.set]
  refine xJ_aload_n hX dX14_sum_7 rfl ?_
  refine xJ_alen hX dX14_sum_8 (by rw [hkb3]; decide) (by rw [hkb3]; decide) ?_
  obtain ⟨h8, hp⟩ := hp
  refine xJ_istore hX dX14_sum_9 (Nat.le_of_ble_eq_true rfl) rfl ?_
  dsimp only [List.set]
  replace hp := hp _ rfl
  refine xJ_iconst hX dX14_sum_11 ?_
  refine xJ_istore hX dX14_sum_12 (Nat.le_of_ble_eq_true rfl) rfl ?_
  dsimp only [List.set]
  have l14 : ∀ (k14 : Nat) (c s n : Nat) (x1 : Int) (x2 : Int) (x3 : Nat) (x4 : Int) (x5 : Int) (t : xTh) (M : xMe) (hc : c + n ≤ nE) (hs : s + 64 * n ≤ 64 * nE) (hM : xMR M) (hqE : xke tE t) (hx1 : xR x1) (hx2 : xR x2) (hkx3 : xk t x3 = 17) (hx4 : xR x4) (hx5 : xR x5) (hp : p_X14_sum_14 F Q k14 n x1 x2 x3 x4 x5 t M), xJ X c s t M 14 [vU, vi x1, vi x2, vr x3, vi x4, vi x5, vU] [] := by
    intro k14
    induction k14 with
    | zero => intro c s n x1 x2 x3 x4 x5 t M hc hs hM hqE hx1 hx2 hkx3 hx4 hx5 hp; exact hp.elim
    | succ k14 ih14 =>
      intro c s n x1 x2 x3 x4 x5 t M hc hs hM hqE hx1 hx2 hkx3 hx4 hx5 hp
      unfold p_X14_sum_14 at hp
      refine xJ_iload hX dX14_sum_14 rfl ?_
      refine xJ_iload hX dX14_sum_16 rfl ?_
      refine xJ_icmp_ge hX dX14_sum_18 (tgt := 48) (by decide) hx5 hx4 (fun c18 => ?_) (fun c18 => ?_)
      · replace hp := hp.1 c18
        refine xJ_iload_n hX dX14_sum_48 rfl ?_
        exact xJ_iret hX hB dX14_sum_49 (by omega) (by omega) ⟨_, rfl, hx2, hM, hqE, hp⟩
      · replace hp := hp.2 c18
        refine xJ_aload_n hX dX14_sum_21 rfl ?_
        refine xJ_iload hX dX14_sum_22 rfl ?_
        obtain ⟨h24, hp⟩ := hp
        obtain ⟨b24, e24, hkb24, hp⟩ := hp
        refine xJ_aaldOb hX dX14_sum_24 hkx3 h24.1 h24.2 e24 ?_
        refine xJ_astore hX dX14_sum_25 (Nat.le_of_ble_eq_true rfl) rfl ?_
        dsimp only [List.set]
        refine xJ_aload hX dX14_sum_27 rfl ?_
        refine xJ_iconst hX dX14_sum_29 ?_
        obtain ⟨h30, hp⟩ := hp
        refine xJ_iald hX dX14_sum_30 hkb24 h30.1 h30.2 ?_
        refine xJ_iload_n hX dX14_sum_31 rfl ?_
        refine xJ_icmp_ne hX dX14_sum_32 (tgt := 42) (by decide) (hM _ _) hx1 (fun c32 => ?_) (fun c32 => ?_)
        · replace hp := hp.1 c32
          refine xJ_iinc hX dX14_sum_42 rfl rfl ?_
          dsimp only [List.set]
          obtain ⟨h42, hp⟩ := hp
          refine xJ_goto hX dX14_sum_45 (tgt := 14) (by decide) ?_
          refine xJ_fg 6 ?_
          dsimp only [List.set]
          exact ih14 _ _ _ _ _ _ _ _ _ _ (by omega) (by omega) hM hqE hx1 hx2 hkx3 hx4 h42 hp
        · replace hp := hp.2 c32
          refine xJ_iload_n hX dX14_sum_35 rfl ?_
          refine xJ_aload hX dX14_sum_36 rfl ?_
          refine xJ_iconst hX dX14_sum_38 ?_
          obtain ⟨h39, hp⟩ := hp
          refine xJ_iald hX dX14_sum_39 hkb24 h39.1 h39.2 ?_
          refine xJ_iadd hX dX14_sum_40 ?_
          obtain ⟨h40, hp⟩ := hp
          refine xJ_istore_n hX dX14_sum_41 (Nat.le_of_ble_eq_true rfl) rfl ?_
          dsimp only [List.set]
          replace hp := hp _ rfl
          refine xJ_iinc hX dX14_sum_42 rfl rfl ?_
          dsimp only [List.set]
          obtain ⟨h42, hp⟩ := hp
          refine xJ_goto hX dX14_sum_45 (tgt := 14) (by decide) ?_
          refine xJ_fg 6 ?_
          dsimp only [List.set]
          exact ih14 _ _ _ _ _ _ _ _ _ _ (by omega) (by omega) hM hqE hx1 h40 hkx3 hx4 h42 hp
  refine xJ_fg 0 ?_
  dsimp only [List.set]
  exact l14 F _ _ _ _ _ _ _ _ _ _ (by omega) (by omega) hME (xke_refl _) hx1 ⟨by decide, by decide⟩ hkb3 h8 ⟨by decide, by decide⟩ hp
def p_X14_arrives (F : Nat) (n : Nat) (tE : xTh) (x0 : Nat) (x1 : Nat) (ME : xMe) (Q : xTh → xMe → Prop) : Prop :=
  (∃ k3 : Nat, k3 ≤ n ∧ p_X14_gateOf F k3 tE x0 x1 ME (fun r3 t3 M3 => ((0 : Int) ≤ 0 ∧ 0 < (xn t3 x1 : Int)) ∧ (∃ k9 : Nat, k9 ≤ (n - k3) ∧ p_X14_queue F k9 t3 x0 r3 (M3 x1 0) M3 (fun r9 t9 M9 => (∃ b13 : Nat, xr t9 x0 1 = some b13 ∧ xk t9 b13 = 17 ∧ (∃ k18 : Nat, k18 ≤ ((n - k3) - k9) ∧ p_X14_gateOf F k18 t9 x0 x1 M9 (fun r18 t18 M18 => ((0 : Int) ≤ r18 ∧ r18 < (xn t18 b13 : Int)) ∧ (∃ b21 : Nat, xr t18 b13 r18.toNat = some b21 ∧ xk t18 b21 = 14 ∧ ((0 : Int) ≤ 2 ∧ 2 < (xn t18 b21 : Int)) ∧ ((r9 ≠ (M18 b21 2) → ((0 : Int) ≤ 3 ∧ 3 < (xn t18 x1 : Int)) ∧ (∀ M115 : xMe, M115 = xw M18 x1 3 1 → ((0 : Int) ≤ 7 ∧ 7 < (xn t18 x1 : Int)) ∧ (∀ M123 : xMe, M123 = xw M115 x1 7 (M115 x0 0) → Q t18 M123))) ∧ (r9 = (M18 b21 2) → ((0 : Int) ≤ 3 ∧ 3 < (xn t18 x1 : Int)) ∧ (∀ M30 : xMe, M30 = xw M18 x1 3 4 → ((0 : Int) ≤ 6 ∧ 6 < (xn t18 x1 : Int)) ∧ (∀ M38 : xMe, M38 = xw M30 x1 6 (M30 x0 0) → ((0 : Int) ≤ 5 ∧ 5 < (xn t18 x1 : Int)) ∧ (xR ((M38 x1 5) * (M38 x0 11))) ∧ (100 ≠ (0 : Int) ∧ xR (Int.tdiv ((M38 x1 5) * (M38 x0 11)) 100)) ∧ (∀ z50 : Int, z50 = Int.tdiv ((M38 x1 5) * (M38 x0 11)) 100 → ((z50 ≤ 0 → Q t18 M38) ∧ (0 < z50 → (∃ b56 : Nat, xr t18 x0 5 = some b56 ∧ xk t18 b56 = 17 ∧ (xR ((xn t18 b56 : Nat) : Int)) ∧ ((30 ≤ (((xn t18 b56 : Nat) : Int)) → Q t18 M38) ∧ ((((xn t18 b56 : Nat) : Int)) < 30 → (1 ≤ (((n - k3) - k9) - k18)) ∧ (∀ (a71 : Nat) (t71 : xTh) (M71 : xMe), a71 = xz t18 → t71 = xnw t18 14 4 → M71 = xw0 M38 a71 → ((0 : Int) ≤ 0 ∧ 0 < (xn t71 x1 : Int)) ∧ ((0 : Int) ≤ 0 ∧ 0 < (xn t71 a71 : Int)) ∧ (∀ M78 : xMe, M78 = xw M71 a71 0 (M71 x1 0) → ((0 : Int) ≤ 1 ∧ 1 < (xn t71 a71 : Int)) ∧ (∀ M88 : xMe, M88 = xw M78 a71 1 (min 9999 z50) → (xR ((M88 x0 0) + (M88 x0 12))) ∧ ((0 : Int) ≤ 2 ∧ 2 < (xn t71 a71 : Int)) ∧ (∀ M100 : xMe, M100 = xw M88 a71 2 ((M88 x0 0) + (M88 x0 12)) → ((0 : Int) ≤ 3 ∧ 3 < (xn t71 a71 : Int)) ∧ (∀ M104 : xMe, M104 = xw M100 a71 3 0 → (∃ k105 : Nat, k105 ≤ ((((n - k3) - k9) - k18) - 1) ∧ p_L_with F k105 t71 b56 a71 M104 (fun r105 t105 M105 => (∀ t108 : xTh, t108 = xwr t105 x0 5 (some r105) → Q t108 M105))))))))))))))))))))))))))
set_option maxHeartbeats 8000000 in
set_option maxRecDepth 100000 in
theorem c_X14_arrives {G : xGx} {tE : xTh} {ME : xMe} {F nE : Nat} {x0 : Nat} {x1 : Nat} {Q : xTh → xMe → Prop} (hME : xMR ME) (hkx0 : xk tE x0 = 20) (hkx1 : xk tE x1 = 14)  (hp : p_X14_arrives F nE tE x0 x1 ME Q) : xCt G yX14_arrives cX14_arrives 3 none 3 nE (64 * nE) [vr x0, vr x1] tE ME (fun v t' M' => v = none ∧ xMR M' ∧ xke tE t' ∧ Q t' M') (fun _ _ _ => False) := by
  refine xCt_of (L0 := [vr x0, vr x1, vU]) (by decide +kernel) (Nat.le_of_ble_eq_true rfl) rfl ?_
  intro X hX hB
  unfold p_X14_arrives at hp
  refine xJ_aload_n hX dX14_arrives_0 rfl ?_
  refine xJ_aload_n hX dX14_arrives_1 rfl ?_
  refine xJ_aload_n hX dX14_arrives_2 rfl ?_
  obtain ⟨k3, hn3, hp⟩ := hp
  refine xJ_callV (As := [_]) hX hB dX14_arrives_3 lk_X14_64 im_X14_gateOf se_X14_gateOf rfl (by decide) hkx0 (c_X14_gateOf hME hkx0 hkx1 hp) (by decide) rfl rfl rfl (Nat.le_of_ble_eq_true rfl) (by omega) (by omega) (fun v t3 M3 hv => ?_) (fun _ _ _ q => q.elim)
  clear hp
  obtain ⟨r3, rfl, h3, hM3, hq3, hp⟩ := hv
  dsimp only [Option.toList, List.cons_append, List.nil_append]
  refine xJ_aload_n hX dX14_arrives_6 rfl ?_
  refine xJ_iconst hX dX14_arrives_7 ?_
  obtain ⟨h8, hp⟩ := hp
  refine xJ_iald hX dX14_arrives_8 (xke_k hq3 hkx1 (by decide)) h8.1 h8.2 ?_
  obtain ⟨k9, hn9, hp⟩ := hp
  refine xJ_callV (As := [_, _]) hX hB dX14_arrives_9 lk_X14_68 im_X14_queue se_X14_queue rfl (by decide) (xke_k hq3 hkx0 (by decide)) (c_X14_queue hM3 (xke_k hq3 hkx0 (by decide)) h3 (hM3 _ _) hp) (by decide) rfl rfl rfl (Nat.le_of_ble_eq_true rfl) (by omega) (by omega) (fun v t9 M9 hv => ?_) (fun _ _ _ q => q.elim)
  clear hp
  obtain ⟨r9, rfl, h9, hM9, hq9, hp⟩ := hv
  dsimp only [Option.toList, List.cons_append, List.nil_append]
  refine xJ_aload_n hX dX14_arrives_12 rfl ?_
  obtain ⟨b13, e13, hkb13, hp⟩ := hp
  refine xJ_getR (b := b13) hX dX14_arrives_13 fd_X14_9 rfl (xke_k hq9 (xke_k hq3 hkx0 (by decide)) (by decide)) e13 ?_
  refine xJ_aload_n hX dX14_arrives_16 rfl ?_
  refine xJ_aload_n hX dX14_arrives_17 rfl ?_
  obtain ⟨k18, hn18, hp⟩ := hp
  refine xJ_callV (As := [_]) hX hB dX14_arrives_18 lk_X14_64 im_X14_gateOf se_X14_gateOf rfl (by decide) (xke_k hq9 (xke_k hq3 hkx0 (by decide)) (by decide)) (c_X14_gateOf hM9 (xke_k hq9 (xke_k hq3 hkx0 (by decide)) (by decide)) (xke_k hq9 (xke_k hq3 hkx1 (by decide)) (by decide)) hp) (by decide) rfl rfl rfl (Nat.le_of_ble_eq_true rfl) (by omega) (by omega) (fun v t18 M18 hv => ?_) (fun _ _ _ q => q.elim)
  clear hp
  obtain ⟨r18, rfl, h18, hM18, hq18, hp⟩ := hv
  dsimp only [Option.toList, List.cons_append, List.nil_append]
  obtain ⟨h21, hp⟩ := hp
  obtain ⟨b21, e21, hkb21, hp⟩ := hp
  refine xJ_aaldOb hX dX14_arrives_21 (xke_k hq18 hkb13 (by decide)) h21.1 h21.2 e21 ?_
  refine xJ_iconst hX dX14_arrives_22 ?_
  obtain ⟨h23, hp⟩ := hp
  refine xJ_iald hX dX14_arrives_23 hkb21 h23.1 h23.2 ?_
  refine xJ_icmp_ne hX dX14_arrives_24 (tgt := 112) (by decide) h9 (hM18 _ _) (fun c24 => ?_) (fun c24 => ?_)
  · replace hp := hp.1 c24
    refine xJ_aload_n hX dX14_arrives_112 rfl ?_
    refine xJ_iconst hX dX14_arrives_113 ?_
    refine xJ_iconst hX dX14_arrives_114 ?_
    obtain ⟨h115, hp⟩ := hp
    refine xJ_iastM hX dX14_arrives_115 (xke_k hq18 (xke_k hq9 (xke_k hq3 hkx1 (by decide)) (by decide)) (by decide)) h115.1 h115.2 hM18 ⟨by decide, by decide⟩ (fun M115 e115 hM115 => ?_)
    replace hp := hp M115 e115
    refine xJ_aload_n hX dX14_arrives_116 rfl ?_
    refine xJ_bipush hX dX14_arrives_117 rfl ?_
    refine xJ_aload_n hX dX14_arrives_119 rfl ?_
    refine xJ_getI hX dX14_arrives_120 fd_X14_45 rfl (xke_k hq18 (xke_k hq9 (xke_k hq3 hkx0 (by decide)) (by decide)) (by decide)) ?_
    obtain ⟨h123, hp⟩ := hp
    refine xJ_iastM hX dX14_arrives_123 (xke_k hq18 (xke_k hq9 (xke_k hq3 hkx1 (by decide)) (by decide)) (by decide)) h123.1 h123.2 hM115 (hM115 _ _) (fun M123 e123 hM123 => ?_)
    replace hp := hp M123 e123
    exact xJ_vret hX hB dX14_arrives_124 (by omega) (by omega) ⟨rfl, hM123, (xke_trans (xke_trans (xke_trans (xke_refl _) hq3) hq9) hq18), hp⟩
  · replace hp := hp.2 c24
    refine xJ_aload_n hX dX14_arrives_27 rfl ?_
    refine xJ_iconst hX dX14_arrives_28 ?_
    refine xJ_iconst hX dX14_arrives_29 ?_
    obtain ⟨h30, hp⟩ := hp
    refine xJ_iastM hX dX14_arrives_30 (xke_k hq18 (xke_k hq9 (xke_k hq3 hkx1 (by decide)) (by decide)) (by decide)) h30.1 h30.2 hM18 ⟨by decide, by decide⟩ (fun M30 e30 hM30 => ?_)
    replace hp := hp M30 e30
    refine xJ_aload_n hX dX14_arrives_31 rfl ?_
    refine xJ_bipush hX dX14_arrives_32 rfl ?_
    refine xJ_aload_n hX dX14_arrives_34 rfl ?_
    refine xJ_getI hX dX14_arrives_35 fd_X14_45 rfl (xke_k hq18 (xke_k hq9 (xke_k hq3 hkx0 (by decide)) (by decide)) (by decide)) ?_
    obtain ⟨h38, hp⟩ := hp
    refine xJ_iastM hX dX14_arrives_38 (xke_k hq18 (xke_k hq9 (xke_k hq3 hkx1 (by decide)) (by decide)) (by decide)) h38.1 h38.2 hM30 (hM30 _ _) (fun M38 e38 hM38 => ?_)
    replace hp := hp M38 e38
    refine xJ_aload_n hX dX14_arrives_39 rfl ?_
    refine xJ_iconst hX dX14_arrives_40 ?_
    obtain ⟨h41, hp⟩ := hp
    refine xJ_iald hX dX14_arrives_41 (xke_k hq18 (xke_k hq9 (xke_k hq3 hkx1 (by decide)) (by decide)) (by decide)) h41.1 h41.2 ?_
    refine xJ_aload_n hX dX14_arrives_42 rfl ?_
    refine xJ_getI hX dX14_arrives_43 fd_X14_38 rfl (xke_k hq18 (xke_k hq9 (xke_k hq3 hkx0 (by decide)) (by decide)) (by decide)) ?_
    refine xJ_imul hX dX14_arrives_46 ?_
    obtain ⟨h46, hp⟩ := hp
    refine xJ_bipush hX dX14_arrives_47 rfl ?_
    obtain ⟨h49, hp⟩ := hp
    refine xJ_idiv hX dX14_arrives_49 h46 ⟨by decide, by decide⟩ h49.1 ?_
    refine xJ_istore_n hX dX14_arrives_50 (Nat.le_of_ble_eq_true rfl) rfl ?_
    dsimp only [List.set]
    replace hp := hp _ rfl
    refine xJ_iload_n hX dX14_arrives_51 rfl ?_
    refine xJ_if_le hX dX14_arrives_52 (tgt := 111) (by decide) h49.2 (fun c52 => ?_) (fun c52 => ?_)
    · replace hp := hp.1 c52
      exact xJ_vret hX hB dX14_arrives_111 (by omega) (by omega) ⟨rfl, hM38, (xke_trans (xke_trans (xke_trans (xke_refl _) hq3) hq9) hq18), hp⟩
    · replace hp := hp.2 c52
      refine xJ_aload_n hX dX14_arrives_55 rfl ?_
      obtain ⟨b56, e56, hkb56, hp⟩ := hp
      refine xJ_getR (b := b56) hX dX14_arrives_56 fd_X14_24 rfl (xke_k hq18 (xke_k hq9 (xke_k hq3 hkx0 (by decide)) (by decide)) (by decide)) e56 ?_
      refine xJ_alen hX dX14_arrives_59 (by rw [hkb56]; decide) (by rw [hkb56]; decide) ?_
      obtain ⟨h59, hp⟩ := hp
      refine xJ_bipush hX dX14_arrives_60 rfl ?_
      refine xJ_icmp_ge hX dX14_arrives_62 (tgt := 111) (by decide) h59 ⟨by decide, by decide⟩ (fun c62 => ?_) (fun c62 => ?_)
      · replace hp := hp.1 c62
        exact xJ_vret hX hB dX14_arrives_111 (by omega) (by omega) ⟨rfl, hM38, (xke_trans (xke_trans (xke_trans (xke_refl _) hq3) hq9) hq18), hp⟩
      · replace hp := hp.2 c62
        refine xJ_aload_n hX dX14_arrives_65 rfl ?_
        refine xJ_aload_n hX dX14_arrives_66 rfl ?_
        refine xJ_getR (b := b56) hX dX14_arrives_67 fd_X14_24 rfl (xke_k hq18 (xke_k hq9 (xke_k hq3 hkx0 (by decide)) (by decide)) (by decide)) e56 ?_
        refine xJ_iconst hX dX14_arrives_70 ?_
        obtain ⟨hn71, hp⟩ := hp
        refine xJ_newIE hX hB hM38 dX14_arrives_71 ac_int (by decide) (by decide) (by omega) (by omega) (fun a71 t71 M71 ea71 et71 e71 hM71 hq71 hka71 => ?_)
        replace hp := hp a71 t71 M71 ea71 et71 e71
        refine xJ_dup hX dX14_arrives_73 rfl ?_
        refine xJ_iconst hX dX14_arrives_74 ?_
        refine xJ_aload_n hX dX14_arrives_75 rfl ?_
        refine xJ_iconst hX dX14_arrives_76 ?_
        obtain ⟨h77, hp⟩ := hp
        refine xJ_iald hX dX14_arrives_77 (xke_k hq71 (xke_k hq18 (xke_k hq9 (xke_k hq3 hkx1 (by decide)) (by decide)) (by decide)) (by decide)) h77.1 h77.2 ?_
        obtain ⟨h78, hp⟩ := hp
        refine xJ_iastM hX dX14_arrives_78 hka71 h78.1 h78.2 hM71 (hM71 _ _) (fun M78 e78 hM78 => ?_)
        replace hp := hp M78 e78
        refine xJ_dup hX dX14_arrives_79 rfl ?_
        refine xJ_iconst hX dX14_arrives_80 ?_
        refine xJ_sipush hX dX14_arrives_81 rfl ?_
        refine xJ_iload_n hX dX14_arrives_84 rfl ?_
        refine xJ_mmin hX hB dX14_arrives_85 lj_X14_72 jw_min_st jw_ma_in jw_min_co rfl (by decide) (Nat.le_of_ble_eq_true rfl) (by omega) (by omega) ⟨by decide, by decide⟩ h49.2 ?_
        obtain ⟨h88, hp⟩ := hp
        refine xJ_iastM hX dX14_arrives_88 hka71 h88.1 h88.2 hM78 (xR_min ⟨by decide, by decide⟩ h49.2) (fun M88 e88 hM88 => ?_)
        replace hp := hp M88 e88
        refine xJ_dup hX dX14_arrives_89 rfl ?_
        refine xJ_iconst hX dX14_arrives_90 ?_
        refine xJ_aload_n hX dX14_arrives_91 rfl ?_
        refine xJ_getI hX dX14_arrives_92 fd_X14_45 rfl (xke_k hq71 (xke_k hq18 (xke_k hq9 (xke_k hq3 hkx0 (by decide)) (by decide)) (by decide)) (by decide)) ?_
        refine xJ_aload_n hX dX14_arrives_95 rfl ?_
        refine xJ_getI hX dX14_arrives_96 fd_X14_41 rfl (xke_k hq71 (xke_k hq18 (xke_k hq9 (xke_k hq3 hkx0 (by decide)) (by decide)) (by decide)) (by decide)) ?_
        refine xJ_iadd hX dX14_arrives_99 ?_
        obtain ⟨h99, hp⟩ := hp
        obtain ⟨h100, hp⟩ := hp
        refine xJ_iastM hX dX14_arrives_100 hka71 h100.1 h100.2 hM88 h99 (fun M100 e100 hM100 => ?_)
        replace hp := hp M100 e100
        refine xJ_dup hX dX14_arrives_101 rfl ?_
        refine xJ_iconst hX dX14_arrives_102 ?_
        refine xJ_iconst hX dX14_arrives_103 ?_
        obtain ⟨h104, hp⟩ := hp
        refine xJ_iastM hX dX14_arrives_104 hka71 h104.1 h104.2 hM100 ⟨by decide, by decide⟩ (fun M104 e104 hM104 => ?_)
        replace hp := hp M104 e104
        obtain ⟨k105, hn105, hp⟩ := hp
        refine xJ_callSN (As := [_, _]) hX hB dX14_arrives_105 ln_X14_77 sm_L_with (c_L_with hM104 (xke_k hq71 hkb56 (by decide)) hka71 hp) (by decide) rfl rfl rfl (Nat.le_of_ble_eq_true rfl) (by omega) (by omega) (fun v t105 M105 hv => ?_)
        clear hp
        obtain ⟨r105, rfl, hk105, hM105, hq105, hp⟩ := hv
        dsimp only [Option.toList, List.cons_append, List.nil_append]
        refine xJ_putRE (x := (some r105)) hX dX14_arrives_108 fd_X14_24 ft_X14 rfl rfl rfl rfl (xke_k hq105 (xke_k hq71 (xke_k hq18 (xke_k hq9 (xke_k hq3 hkx0 (by decide)) (by decide)) (by decide)) (by decide)) (by decide)) (fun t108 et108 hq108 => ?_)
        replace hp := hp t108 et108
        exact xJ_vret hX hB dX14_arrives_111 (by omega) (by omega) ⟨rfl, hM105, (xke_trans (xke_trans (xke_trans (xke_trans (xke_trans (xke_trans (xke_refl _) hq3) hq9) hq18) hq71) hq105) hq108), hp⟩
def p_X14_first_16 (F : Nat) (Q : Option Nat → xTh → xMe → Prop) : Nat → Nat → Nat → Int → Int → Option Nat → Nat → Int → Int → xTh → xMe → Prop
  | 0, _, _, _, _, _, _, _, _, _, _ => False
  | k + 1, n, x0, x1, x2, x3, x4, x5, x6, t, M =>
    ((x5 ≤ x6 → Q x3 t M) ∧ (x6 < x5 → ((0 : Int) ≤ x6 ∧ x6 < (xn t x4 : Int)) ∧ (∃ b27 : Nat, xr t x4 x6.toNat = some b27 ∧ xk t b27 = 14 ∧ ((0 : Int) ≤ 3 ∧ 3 < (xn t b27 : Int)) ∧ (((M b27 3) ≠ 1 → (xR (x6 + 1)) ∧ p_X14_first_16 F Q k n x0 x1 x2 x3 x4 x5 (x6 + 1) t M) ∧ ((M b27 3) = 1 → ((0 : Int) ≤ 0 ∧ 0 < (xn t b27 : Int)) ∧ (((M b27 0) ≠ x2 → (xR (x6 + 1)) ∧ p_X14_first_16 F Q k n x0 x1 x2 x3 x4 x5 (x6 + 1) t M) ∧ ((M b27 0) = x2 → (∃ k49 : Nat, k49 ≤ n ∧ p_X14_gateOf F k49 t x0 b27 M (fun r49 t49 M49 => ((r49 ≠ x1 → (xR (x6 + 1)) ∧ p_X14_first_16 F Q k ((n - k49)) x0 x1 x2 x3 x4 x5 (x6 + 1) t49 M49) ∧ (r49 = x1 → ((x3 = none → (xR (x6 + 1)) ∧ p_X14_first_16 F Q k ((n - k49)) x0 x1 x2 (some b27) x4 x5 (x6 + 1) t49 M49) ∧ (∀ b57 : Nat, x3 = some b57 → ((0 : Int) ≤ 7 ∧ 7 < (xn t49 b27 : Int)) ∧ ((0 : Int) ≤ 7 ∧ 7 < (xn t49 b57 : Int)) ∧ (((M49 b57 7) ≤ (M49 b27 7) → (xR (x6 + 1)) ∧ p_X14_first_16 F Q k ((n - k49)) x0 x1 x2 (some b57) x4 x5 (x6 + 1) t49 M49) ∧ ((M49 b27 7) < (M49 b57 7) → (xR (x6 + 1)) ∧ p_X14_first_16 F Q k ((n - k49)) x0 x1 x2 (some b27) x4 x5 (x6 + 1) t49 M49)))))))))))))))
def p_X14_first (F : Nat) (n : Nat) (tE : xTh) (x0 : Nat) (x1 : Int) (x2 : Int) (ME : xMe) (Q : Option Nat → xTh → xMe → Prop) : Prop :=
  (∃ b3 : Nat, xr tE x0 4 = some b3 ∧ xk tE b3 = 17 ∧ (xR ((xn tE b3 : Nat) : Int)) ∧ (∀ z11 : Int, z11 = ((xn tE b3 : Nat) : Int) → p_X14_first_16 F Q F n x0 x1 x2 none b3 z11 0 tE ME))
set_option maxHeartbeats 8000000 in
set_option maxRecDepth 100000 in
theorem c_X14_first {G : xGx} {tE : xTh} {ME : xMe} {F nE : Nat} {x0 : Nat} {x1 : Int} {x2 : Int} {Q : Option Nat → xTh → xMe → Prop} (hME : xMR ME) (hkx0 : xk tE x0 = 20) (hx1 : xR x1) (hx2 : xR x2) (hp : p_X14_first F nE tE x0 x1 x2 ME Q) : xCt G yX14_first cX14_first 8 (some (.array .int)) 2 nE (64 * nE) [vr x0, vi x1, vi x2] tE ME (fun v t' M' => ∃ r, v = some (va_rf r) ∧ (∀ b, r = some b → xk t' b = 14) ∧ xMR M' ∧ xke tE t' ∧ Q r t' M') (fun _ _ _ => False) := by
  refine xCt_of (L0 := [vr x0, vi x1, vi x2, vU, vU, vU, vU, vU]) (by decide +kernel) (Nat.le_of_ble_eq_true rfl) rfl ?_
  intro X hX hB
  unfold p_X14_first at hp
  refine xJ_null hX dX14_first_0 ?_
  refine xJ_astore_nN hX dX14_first_1 (Nat.le_of_ble_eq_true rfl) rfl ?_
  dsimp only [List.set]
  refine xJ_aload_n hX dX14_first_2 rfl ?_
  obtain ⟨b3, e3, hkb3, hp⟩ := hp
  refine xJ_getR (b := b3) hX dX14_first_3 fd_X14_21 rfl hkx0 e3 ?_
  refine xJ_astore hX dX14_first_6 (Nat.le_of_ble_eq_true rfl) rfl ?_
  dsimp only [List.set]
  refine xJ_aload hX dX14_first_8 rfl ?_
  refine xJ_alen hX dX14_first_10 (by rw [hkb3]; decide) (by rw [hkb3]; decide) ?_
  obtain ⟨h10, hp⟩ := hp
  refine xJ_istore hX dX14_first_11 (Nat.le_of_ble_eq_true rfl) rfl ?_
  dsimp only [List.set]
  replace hp := hp _ rfl
  refine xJ_iconst hX dX14_first_13 ?_
  refine xJ_istore hX dX14_first_14 (Nat.le_of_ble_eq_true rfl) rfl ?_
  dsimp only [List.set]
  have l16 : ∀ (k16 : Nat) (c s n : Nat) (x0 : Nat) (x1 : Int) (x2 : Int) (x3 : Option Nat) (x4 : Nat) (x5 : Int) (x6 : Int) (t : xTh) (M : xMe) (hc : c + n ≤ nE) (hs : s + 64 * n ≤ 64 * nE) (hM : xMR M) (hqE : xke tE t) (hkx0 : xk t x0 = 20) (hx1 : xR x1) (hx2 : xR x2) (hkx3 : ∀ b, x3 = some b → xk t b = 14) (hkx4 : xk t x4 = 17) (hx5 : xR x5) (hx6 : xR x6) (hp : p_X14_first_16 F Q k16 n x0 x1 x2 x3 x4 x5 x6 t M), xJ X c s t M 16 [vr x0, vi x1, vi x2, va_rf x3, vr x4, vi x5, vi x6, vU] [] := by
    intro k16
    induction k16 with
    | zero => intro c s n x0 x1 x2 x3 x4 x5 x6 t M hc hs hM hqE hkx0 hx1 hx2 hkx3 hkx4 hx5 hx6 hp; exact hp.elim
    | succ k16 ih16 =>
      intro c s n x0 x1 x2 x3 x4 x5 x6 t M hc hs hM hqE hkx0 hx1 hx2 hkx3 hkx4 hx5 hx6 hp
      unfold p_X14_first_16 at hp
      refine xJ_iload hX dX14_first_16 rfl ?_
      refine xJ_iload hX dX14_first_18 rfl ?_
      refine xJ_icmp_ge hX dX14_first_20 (tgt := 81) (by decide) hx6 hx5 (fun c20 => ?_) (fun c20 => ?_)
      · replace hp := hp.1 c20
        refine xJ_aload_nO hX dX14_first_81 rfl ?_
        exact xJ_aretO (x := x3) hX hB dX14_first_82 (Or.inr ⟨_, rfl⟩) (by omega) (by omega) ⟨_, rfl, hkx3, hM, hqE, hp⟩
      · replace hp := hp.2 c20
        refine xJ_aload hX dX14_first_23 rfl ?_
        refine xJ_iload hX dX14_first_25 rfl ?_
        obtain ⟨h27, hp⟩ := hp
        obtain ⟨b27, e27, hkb27, hp⟩ := hp
        refine xJ_aaldOb hX dX14_first_27 hkx4 h27.1 h27.2 e27 ?_
        refine xJ_astore hX dX14_first_28 (Nat.le_of_ble_eq_true rfl) rfl ?_
        dsimp only [List.set]
        refine xJ_aload hX dX14_first_30 rfl ?_
        refine xJ_iconst hX dX14_first_32 ?_
        obtain ⟨h33, hp⟩ := hp
        refine xJ_iald hX dX14_first_33 hkb27 h33.1 h33.2 ?_
        refine xJ_iconst hX dX14_first_34 ?_
        refine xJ_icmp_ne hX dX14_first_35 (tgt := 75) (by decide) (hM _ _) ⟨by decide, by decide⟩ (fun c35 => ?_) (fun c35 => ?_)
        · replace hp := hp.1 c35
          refine xJ_iinc hX dX14_first_75 rfl rfl ?_
          dsimp only [List.set]
          obtain ⟨h75, hp⟩ := hp
          refine xJ_goto hX dX14_first_78 (tgt := 16) (by decide) ?_
          refine xJ_fg 7 ?_
          dsimp only [List.set]
          exact ih16 _ _ _ _ _ _ x3 _ _ _ _ _ (by omega) (by omega) hM hqE hkx0 hx1 hx2 hkx3 hkx4 hx5 h75 hp
        · replace hp := hp.2 c35
          refine xJ_aload hX dX14_first_38 rfl ?_
          refine xJ_iconst hX dX14_first_40 ?_
          obtain ⟨h41, hp⟩ := hp
          refine xJ_iald hX dX14_first_41 hkb27 h41.1 h41.2 ?_
          refine xJ_iload_n hX dX14_first_42 rfl ?_
          refine xJ_icmp_ne hX dX14_first_43 (tgt := 75) (by decide) (hM _ _) hx2 (fun c43 => ?_) (fun c43 => ?_)
          · replace hp := hp.1 c43
            refine xJ_iinc hX dX14_first_75 rfl rfl ?_
            dsimp only [List.set]
            obtain ⟨h75, hp⟩ := hp
            refine xJ_goto hX dX14_first_78 (tgt := 16) (by decide) ?_
            refine xJ_fg 7 ?_
            dsimp only [List.set]
            exact ih16 _ _ _ _ _ _ x3 _ _ _ _ _ (by omega) (by omega) hM hqE hkx0 hx1 hx2 hkx3 hkx4 hx5 h75 hp
          · replace hp := hp.2 c43
            refine xJ_aload_n hX dX14_first_46 rfl ?_
            refine xJ_aload hX dX14_first_47 rfl ?_
            obtain ⟨k49, hn49, hp⟩ := hp
            refine xJ_callV (As := [_]) hX hB dX14_first_49 lk_X14_64 im_X14_gateOf se_X14_gateOf rfl (by decide) hkx0 (c_X14_gateOf hM hkx0 hkb27 hp) (by decide) rfl rfl rfl (Nat.le_of_ble_eq_true rfl) (by omega) (by omega) (fun v t49 M49 hv => ?_) (fun _ _ _ q => q.elim)
            clear hp
            obtain ⟨r49, rfl, h49, hM49, hq49, hp⟩ := hv
            dsimp only [Option.toList, List.cons_append, List.nil_append]
            refine xJ_iload_n hX dX14_first_52 rfl ?_
            refine xJ_icmp_ne hX dX14_first_53 (tgt := 75) (by decide) h49 hx1 (fun c53 => ?_) (fun c53 => ?_)
            · replace hp := hp.1 c53
              refine xJ_iinc hX dX14_first_75 rfl rfl ?_
              dsimp only [List.set]
              obtain ⟨h75, hp⟩ := hp
              refine xJ_goto hX dX14_first_78 (tgt := 16) (by decide) ?_
              refine xJ_fg 7 ?_
              dsimp only [List.set]
              exact ih16 _ _ _ _ _ _ x3 _ _ _ _ _ (by omega) (by omega) hM49 (xke_trans hqE hq49) (xke_k hq49 hkx0 (by decide)) hx1 hx2 (fun b e => (xke_k hq49 (hkx3 b e) (by decide))) (xke_k hq49 hkx4 (by decide)) hx5 h75 hp
            · replace hp := hp.2 c53
              refine xJ_aload_nO hX dX14_first_56 rfl ?_
              refine xJ_ifnullO hX dX14_first_57 (tgt := 72) (by decide) (fun e57 => ?_) (fun b57 e57 => ?_)
              · replace hp := hp.1 e57
                refine xJ_aload hX dX14_first_72 rfl ?_
                refine xJ_astore_n hX dX14_first_74 (Nat.le_of_ble_eq_true rfl) rfl ?_
                dsimp only [List.set]
                refine xJ_iinc hX dX14_first_75 rfl rfl ?_
                dsimp only [List.set]
                obtain ⟨h75, hp⟩ := hp
                refine xJ_goto hX dX14_first_78 (tgt := 16) (by decide) ?_
                refine xJ_fg 7 ?_
                dsimp only [List.set]
                exact ih16 _ _ _ _ _ _ (some b27) _ _ _ _ _ (by omega) (by omega) hM49 (xke_trans hqE hq49) (xke_k hq49 hkx0 (by decide)) hx1 hx2 (fun b e => by cases e; exact (xke_k hq49 hkb27 (by decide))) (xke_k hq49 hkx4 (by decide)) hx5 h75 hp
              · replace hp := hp.2 b57 e57
                have hkb57 := hkx3 b57 e57
                subst e57
                refine xJ_aload hX dX14_first_60 rfl ?_
                refine xJ_bipush hX dX14_first_62 rfl ?_
                obtain ⟨h64, hp⟩ := hp
                refine xJ_iald hX dX14_first_64 (xke_k hq49 hkb27 (by decide)) h64.1 h64.2 ?_
                refine xJ_aload_n hX dX14_first_65 rfl ?_
                refine xJ_bipush hX dX14_first_66 rfl ?_
                obtain ⟨h68, hp⟩ := hp
                refine xJ_iald hX dX14_first_68 (xke_k hq49 hkb57 (by decide)) h68.1 h68.2 ?_
                refine xJ_icmp_ge hX dX14_first_69 (tgt := 75) (by decide) (hM49 _ _) (hM49 _ _) (fun c69 => ?_) (fun c69 => ?_)
                · replace hp := hp.1 c69
                  refine xJ_iinc hX dX14_first_75 rfl rfl ?_
                  dsimp only [List.set]
                  obtain ⟨h75, hp⟩ := hp
                  refine xJ_goto hX dX14_first_78 (tgt := 16) (by decide) ?_
                  refine xJ_fg 7 ?_
                  dsimp only [List.set]
                  exact ih16 _ _ _ _ _ _ (some b57) _ _ _ _ _ (by omega) (by omega) hM49 (xke_trans hqE hq49) (xke_k hq49 hkx0 (by decide)) hx1 hx2 (fun b e => by cases e; exact (xke_k hq49 hkb57 (by decide))) (xke_k hq49 hkx4 (by decide)) hx5 h75 hp
                · replace hp := hp.2 c69
                  refine xJ_aload hX dX14_first_72 rfl ?_
                  refine xJ_astore_n hX dX14_first_74 (Nat.le_of_ble_eq_true rfl) rfl ?_
                  dsimp only [List.set]
                  refine xJ_iinc hX dX14_first_75 rfl rfl ?_
                  dsimp only [List.set]
                  obtain ⟨h75, hp⟩ := hp
                  refine xJ_goto hX dX14_first_78 (tgt := 16) (by decide) ?_
                  refine xJ_fg 7 ?_
                  dsimp only [List.set]
                  exact ih16 _ _ _ _ _ _ (some b27) _ _ _ _ _ (by omega) (by omega) hM49 (xke_trans hqE hq49) (xke_k hq49 hkx0 (by decide)) hx1 hx2 (fun b e => by cases e; exact (xke_k hq49 hkb27 (by decide))) (xke_k hq49 hkx4 (by decide)) hx5 h75 hp
  exact l16 F _ _ _ _ _ _ none _ _ _ _ _ (by omega) (by omega) hME (xke_refl _) hkx0 hx1 hx2 (fun b e => by cases e) hkb3 h10 ⟨by decide, by decide⟩ hp
def p_X14_passes_410 (F : Nat) (Q : Int → xTh → xMe → Prop) (n : Nat) (x0 : Nat) (x2 : Int) (x3 : Nat) (t : xTh) (M : xMe) : Prop :=
    ((0 : Int) ≤ 4 ∧ 4 < (xn t x3 : Int)) ∧ (xR ((M x3 4) + 1)) ∧ ((0 : Int) ≤ 4 ∧ 4 < (xn t x3 : Int)) ∧ (∀ M416 : xMe, M416 = xw M x3 4 ((M x3 4) + 1) → ((0 : Int) ≤ 3 ∧ 3 < (xn t x3 : Int)) ∧ (∀ M420 : xMe, M420 = xw M416 x3 3 2 → ((0 : Int) ≤ 4 ∧ 4 < (xn t x3 : Int)) ∧ (∃ b425 : Nat, xr t x0 3 = some b425 ∧ xk t b425 = 17 ∧ ((0 : Int) ≤ x2 ∧ x2 < (xn t b425 : Int)) ∧ (∃ b429 : Nat, xr t b425 x2.toNat = some b429 ∧ xk t b429 = 14 ∧ (xR ((xn t b429 : Nat) : Int)) ∧ (((M420 x3 4) ≠ (((xn t b429 : Nat) : Int)) → Q 1 t M420) ∧ ((M420 x3 4) = (((xn t b429 : Nat) : Int)) → ((0 : Int) ≤ 3 ∧ 3 < (xn t x3 : Int)) ∧ (∀ M437 : xMe, M437 = xw M420 x3 3 3 → ((0 : Int) ≤ 6 ∧ 6 < (xn t x3 : Int)) ∧ (∀ M445 : xMe, M445 = xw M437 x3 6 (M437 x0 0) → (∃ b447 : Nat, xr t x0 2 = some b447 ∧ xk t b447 = 17 ∧ ((0 : Int) ≤ x2 ∧ x2 < (xn t b447 : Int)) ∧ (∃ b451 : Nat, xr t b447 x2.toNat = some b451 ∧ xk t b451 = 14 ∧ ((0 : Int) ≤ 2 ∧ 2 < (xn t b451 : Int)) ∧ ((0 : Int) ≤ 2 ∧ 2 < (xn t x3 : Int)) ∧ (xR ((M445 b451 2) + (M445 x3 2))) ∧ ((0 : Int) ≤ 2 ∧ 2 < (xn t b451 : Int)) ∧ (∀ M459 : xMe, M459 = xw M445 b451 2 ((M445 b451 2) + (M445 x3 2)) → Q 1 t M459)))))))))))
def p_X14_passes_345 (F : Nat) (Q : Int → xTh → xMe → Prop) (K275 : Nat → Nat → Int → Nat → Int → xTh → xMe → Prop) (K410 : Nat → Nat → Int → Nat → xTh → xMe → Prop) (n : Nat) (x0 : Nat) (x2 : Int) (x3 : Nat) (x9 : Int) (x10 : Int) (t : xTh) (M : xMe) : Prop :=
    (∃ b348 : Nat, xr t x0 5 = some b348 ∧ xk t b348 = 17 ∧ ((0 : Int) ≤ x10 ∧ x10 < (xn t b348 : Int)) ∧ (∃ b353 : Nat, xr t b348 x10.toNat = some b353 ∧ xk t b353 = 14 ∧ ((0 : Int) ≤ 1 ∧ 1 < (xn t b353 : Int)) ∧ (∀ z359 : Int, z359 = min x9 (M b353 1) → (xR (x9 - z359)) ∧ (∀ z366 : Int, z366 = x9 - z359 → ((0 : Int) ≤ x10 ∧ x10 < (xn t b348 : Int)) ∧ (∃ b374 : Nat, xr t b348 x10.toNat = some b374 ∧ xk t b374 = 14 ∧ ((0 : Int) ≤ 1 ∧ 1 < (xn t b374 : Int)) ∧ (xR ((M b374 1) - z359)) ∧ ((0 : Int) ≤ 1 ∧ 1 < (xn t b374 : Int)) ∧ (∀ M381 : xMe, M381 = xw M b374 1 ((M b374 1) - z359) → ((0 : Int) ≤ x10 ∧ x10 < (xn t b348 : Int)) ∧ (∃ b388 : Nat, xr t b348 x10.toNat = some b388 ∧ xk t b388 = 14 ∧ ((0 : Int) ≤ 1 ∧ 1 < (xn t b388 : Int)) ∧ (((M381 b388 1) ≠ 0 → K275 n x0 x2 x3 z366 t M381) ∧ ((M381 b388 1) = 0 → (∃ k401 : Nat, k401 ≤ n ∧ p_L_without F k401 t b348 x10 M381 (fun r401 t401 M401 => (∀ t404 : xTh, t404 = xwr t401 x0 5 (some r401) → K275 ((n - k401)) x0 x2 x3 z366 t404 M401))))))))))))
def p_X14_passes_286 (F : Nat) (Q : Int → xTh → xMe → Prop) (K275 : Nat → Nat → Int → Nat → Int → xTh → xMe → Prop) (K345 : Nat → Nat → Int → Nat → Int → Int → xTh → xMe → Prop) (K410 : Nat → Nat → Int → Nat → xTh → xMe → Prop) : Nat → Nat → Nat → Int → Nat → Int → Int → Int → xTh → xMe → Prop
  | 0, _, _, _, _, _, _, _, _, _ => False
  | k + 1, n, x0, x2, x3, x9, x10, x11, t, M =>
    (∃ b289 : Nat, xr t x0 5 = some b289 ∧ xk t b289 = 17 ∧ (xR ((xn t b289 : Nat) : Int)) ∧ (((((xn t b289 : Nat) : Int)) ≤ x11 → K345 n x0 x2 x3 x9 x10 t M) ∧ (x11 < (((xn t b289 : Nat) : Int)) → ((0 : Int) ≤ x11 ∧ x11 < (xn t b289 : Int)) ∧ (∃ b302 : Nat, xr t b289 x11.toNat = some b302 ∧ xk t b302 = 14 ∧ ((0 : Int) ≤ 0 ∧ 0 < (xn t b302 : Int)) ∧ (((M b302 0) ≠ x2 → (xR (x11 + 1)) ∧ p_X14_passes_286 F Q K275 K345 K410 k n x0 x2 x3 x9 x10 (x11 + 1) t M) ∧ ((M b302 0) = x2 → ((x10 < 0 → (xR (x11 + 1)) ∧ p_X14_passes_286 F Q K275 K345 K410 k n x0 x2 x3 x9 x11 (x11 + 1) t M) ∧ (0 ≤ x10 → ((0 : Int) ≤ x11 ∧ x11 < (xn t b289 : Int)) ∧ (∃ b320 : Nat, xr t b289 x11.toNat = some b320 ∧ xk t b320 = 14 ∧ ((0 : Int) ≤ 2 ∧ 2 < (xn t b320 : Int)) ∧ ((0 : Int) ≤ x10 ∧ x10 < (xn t b289 : Int)) ∧ (∃ b329 : Nat, xr t b289 x10.toNat = some b329 ∧ xk t b329 = 14 ∧ ((0 : Int) ≤ 2 ∧ 2 < (xn t b329 : Int)) ∧ (((M b329 2) ≤ (M b320 2) → (xR (x11 + 1)) ∧ p_X14_passes_286 F Q K275 K345 K410 k n x0 x2 x3 x9 x10 (x11 + 1) t M) ∧ ((M b320 2) < (M b329 2) → (xR (x11 + 1)) ∧ p_X14_passes_286 F Q K275 K345 K410 k n x0 x2 x3 x9 x11 (x11 + 1) t M))))))))))))
def p_X14_passes_275 (F : Nat) (Q : Int → xTh → xMe → Prop) (K410 : Nat → Nat → Int → Nat → xTh → xMe → Prop) : Nat → Nat → Nat → Int → Nat → Int → xTh → xMe → Prop
  | 0, _, _, _, _, _, _, _ => False
  | k + 1, n, x0, x2, x3, x9, t, M =>
    ((x9 ≤ 0 → K410 n x0 x2 x3 t M) ∧ (0 < x9 → p_X14_passes_286 F Q (p_X14_passes_275 F Q K410 k) (p_X14_passes_345 F Q (p_X14_passes_275 F Q K410 k) K410) K410 F n x0 x2 x3 x9 ((-1)) 0 t M))
def p_X14_passes_271 (F : Nat) (Q : Int → xTh → xMe → Prop) (n : Nat) (x0 : Nat) (x2 : Int) (x3 : Nat) (x6 : Int) (t : xTh) (M : xMe) : Prop :=
    p_X14_passes_275 F Q (p_X14_passes_410 F Q) F n x0 x2 x3 x6 t M
def p_X14_passes_183 (F : Nat) (Q : Int → xTh → xMe → Prop) (n : Nat) (x0 : Nat) (x1 : Int) (x2 : Int) (x3 : Nat) (x6 : Int) (y0 : Int) (t : xTh) (M : xMe) : Prop :=
    (∃ b186 : Nat, xr t x0 2 = some b186 ∧ xk t b186 = 17 ∧ ((0 : Int) ≤ x2 ∧ x2 < (xn t b186 : Int)) ∧ (∃ b190 : Nat, xr t b186 x2.toNat = some b190 ∧ xk t b190 = 14 ∧ ((0 : Int) ≤ 1 ∧ 1 < (xn t b190 : Int)) ∧ (xR (max 0 (min 9999 y0))) ∧ (xR ((M b190 1) + (max 0 (min 9999 y0)))) ∧ ((0 : Int) ≤ 1 ∧ 1 < (xn t b190 : Int)) ∧ (∀ M208 : xMe, M208 = xw M b190 1 ((M b190 1) + (max 0 (min 9999 y0))) → (∃ b211 : Nat, xr t x0 6 = some b211 ∧ xk t b211 = 17 ∧ (1 ≤ n) ∧ (∀ (a215 : Nat) (t215 : xTh) (M215 : xMe), a215 = xz t → t215 = xnw t 14 5 → M215 = xw0 M208 a215 → ((0 : Int) ≤ 0 ∧ 0 < (xn t215 a215 : Int)) ∧ (∀ M223 : xMe, M223 = xw M215 a215 0 (M215 x0 0) → ((0 : Int) ≤ 1 ∧ 1 < (xn t215 a215 : Int)) ∧ (∀ M227 : xMe, M227 = xw M223 a215 1 x1 → ((0 : Int) ≤ 2 ∧ 2 < (xn t215 a215 : Int)) ∧ (∀ M231 : xMe, M231 = xw M227 a215 2 x2 → ((0 : Int) ≤ 2 ∧ 2 < (xn t215 x3 : Int)) ∧ ((0 : Int) ≤ 3 ∧ 3 < (xn t215 a215 : Int)) ∧ (∀ M237 : xMe, M237 = xw M231 a215 3 (M231 x3 2) → ((0 : Int) ≤ 4 ∧ 4 < (xn t215 a215 : Int)) ∧ (∀ M242 : xMe, M242 = xw M237 a215 4 x6 → (∃ k243 : Nat, k243 ≤ (n - 1) ∧ p_L_with F k243 t215 b211 a215 M242 (fun r243 t243 M243 => (∀ t246 : xTh, t246 = xwr t243 x0 6 (some r243) → (∃ b250 : Nat, xr t246 x0 6 = some b250 ∧ xk t246 b250 = 17 ∧ (xR ((xn t246 b250 : Nat) : Int)) ∧ (((((xn t246 b250 : Nat) : Int)) ≤ 40 → p_X14_passes_271 F Q (((n - 1) - k243)) x0 x2 x3 x6 t246 M243) ∧ (40 < (((xn t246 b250 : Nat) : Int)) → (∃ k265 : Nat, k265 ≤ ((n - 1) - k243) ∧ p_L_without F k265 t246 b250 0 M243 (fun r265 t265 M265 => (∀ t268 : xTh, t268 = xwr t265 x0 6 (some r265) → p_X14_passes_271 F Q ((((n - 1) - k243) - k265)) x0 x2 x3 x6 t268 M265)))))))))))))))))))
def p_X14_passes_62 (F : Nat) (Q : Int → xTh → xMe → Prop) (n : Nat) (x0 : Nat) (x1 : Int) (x2 : Int) (x3 : Nat) (x4 : Int) (y0 : Int) (t : xTh) (M : xMe) : Prop :=
    ((0 : Int) ≤ 2 ∧ 2 < (xn t x3 : Int)) ∧ (((M x3 2) ≤ x4 → ((0 : Int) ≤ 2 ∧ 2 < (xn t x3 : Int)) ∧ (xR ((M x3 2) - x4)) ∧ (∀ z89 : Int, z89 = max 0 ((M x3 2) - x4) → (∃ b92 : Nat, xr t x0 7 = some b92 ∧ xk t b92 = 17 ∧ ((0 : Int) ≤ x1 ∧ x1 < (xn t b92 : Int)) ∧ (∃ b96 : Nat, xr t b92 x1.toNat = some b96 ∧ xk t b96 = 14 ∧ ((0 : Int) ≤ 2 ∧ 2 < (xn t x3 : Int)) ∧ (xR (x4 - (M x3 2))) ∧ ((0 : Int) ≤ x2 ∧ x2 < (xn t b96 : Int)) ∧ (∀ M108 : xMe, M108 = xw M b96 x2.toNat (max 0 (x4 - (M x3 2))) → ((0 : Int) ≤ 5 ∧ 5 < (xn t x3 : Int)) ∧ (xR ((M108 x3 5) + z89)) ∧ ((0 : Int) ≤ 5 ∧ 5 < (xn t x3 : Int)) ∧ (∀ M116 : xMe, M116 = xw M108 x3 5 ((M108 x3 5) + z89) → (xR ((M116 x0 9) + z89)) ∧ (∀ M125 : xMe, M125 = xw M116 x0 9 ((M116 x0 9) + z89) → (∀ b, xr t x0 13 = some b → xk t b = 12) ∧ ((xr t x0 13 = none → ((0 : Int) ≤ 2 ∧ 2 < (xn t x3 : Int)) ∧ p_X14_passes_183 F Q n x0 x1 x2 x3 z89 (M125 x3 2) t M125) ∧ (∀ b132 : Nat, xr t x0 13 = some b132 → (1 ≤ n) ∧ (∀ (a147 : Nat) (t147 : xTh) (M147 : xMe), a147 = xz t → t147 = xnw t 15 4 → M147 = xw0 M125 a147 → ((0 : Int) ≤ 2 ∧ 2 < (xn t147 x3 : Int)) ∧ ((0 : Int) ≤ 0 ∧ 0 < (xn t147 a147 : Int)) ∧ (xR (M147 x3 2)) ∧ (∀ M155 : xMe, M155 = xw M147 a147 0 (M147 x3 2) → ((0 : Int) ≤ 1 ∧ 1 < (xn t147 a147 : Int)) ∧ (xR (x1)) ∧ (∀ M160 : xMe, M160 = xw M155 a147 1 x1 → ((0 : Int) ≤ 2 ∧ 2 < (xn t147 a147 : Int)) ∧ (xR (z89)) ∧ (∀ M166 : xMe, M166 = xw M160 a147 2 z89 → ((0 : Int) ≤ 7 ∧ 7 < (xn t147 x3 : Int)) ∧ (xR ((M166 x0 0) - (M166 x3 7))) ∧ ((0 : Int) ≤ 3 ∧ 3 < (xn t147 a147 : Int)) ∧ (xR ((M166 x0 0) - (M166 x3 7))) ∧ (∀ M179 : xMe, M179 = xw M166 a147 3 ((M166 x0 0) - (M166 x3 7)) → (∃ k180 : Nat, k180 ≤ (n - 1) ∧ p_X12_valueR F 3 k180 t147 b132 a147 M179 (fun r180 t180 M180 => p_X14_passes_183 F Q (((n - 1) - k180)) x0 x1 x2 x3 z89 r180 t180 M180)))))))))))))))) ∧ (x4 < (M x3 2) → ((y0 ≠ 0 → ((0 : Int) ≤ 2 ∧ 2 < (xn t x3 : Int)) ∧ (xR ((M x3 2) - x4)) ∧ (∀ z89 : Int, z89 = max 0 ((M x3 2) - x4) → (∃ b92 : Nat, xr t x0 7 = some b92 ∧ xk t b92 = 17 ∧ ((0 : Int) ≤ x1 ∧ x1 < (xn t b92 : Int)) ∧ (∃ b96 : Nat, xr t b92 x1.toNat = some b96 ∧ xk t b96 = 14 ∧ ((0 : Int) ≤ 2 ∧ 2 < (xn t x3 : Int)) ∧ (xR (x4 - (M x3 2))) ∧ ((0 : Int) ≤ x2 ∧ x2 < (xn t b96 : Int)) ∧ (∀ M108 : xMe, M108 = xw M b96 x2.toNat (max 0 (x4 - (M x3 2))) → ((0 : Int) ≤ 5 ∧ 5 < (xn t x3 : Int)) ∧ (xR ((M108 x3 5) + z89)) ∧ ((0 : Int) ≤ 5 ∧ 5 < (xn t x3 : Int)) ∧ (∀ M116 : xMe, M116 = xw M108 x3 5 ((M108 x3 5) + z89) → (xR ((M116 x0 9) + z89)) ∧ (∀ M125 : xMe, M125 = xw M116 x0 9 ((M116 x0 9) + z89) → (∀ b, xr t x0 13 = some b → xk t b = 12) ∧ ((xr t x0 13 = none → ((0 : Int) ≤ 2 ∧ 2 < (xn t x3 : Int)) ∧ p_X14_passes_183 F Q n x0 x1 x2 x3 z89 (M125 x3 2) t M125) ∧ (∀ b132 : Nat, xr t x0 13 = some b132 → (1 ≤ n) ∧ (∀ (a147 : Nat) (t147 : xTh) (M147 : xMe), a147 = xz t → t147 = xnw t 15 4 → M147 = xw0 M125 a147 → ((0 : Int) ≤ 2 ∧ 2 < (xn t147 x3 : Int)) ∧ ((0 : Int) ≤ 0 ∧ 0 < (xn t147 a147 : Int)) ∧ (xR (M147 x3 2)) ∧ (∀ M155 : xMe, M155 = xw M147 a147 0 (M147 x3 2) → ((0 : Int) ≤ 1 ∧ 1 < (xn t147 a147 : Int)) ∧ (xR (x1)) ∧ (∀ M160 : xMe, M160 = xw M155 a147 1 x1 → ((0 : Int) ≤ 2 ∧ 2 < (xn t147 a147 : Int)) ∧ (xR (z89)) ∧ (∀ M166 : xMe, M166 = xw M160 a147 2 z89 → ((0 : Int) ≤ 7 ∧ 7 < (xn t147 x3 : Int)) ∧ (xR ((M166 x0 0) - (M166 x3 7))) ∧ ((0 : Int) ≤ 3 ∧ 3 < (xn t147 a147 : Int)) ∧ (xR ((M166 x0 0) - (M166 x3 7))) ∧ (∀ M179 : xMe, M179 = xw M166 a147 3 ((M166 x0 0) - (M166 x3 7)) → (∃ k180 : Nat, k180 ≤ (n - 1) ∧ p_X12_valueR F 3 k180 t147 b132 a147 M179 (fun r180 t180 M180 => p_X14_passes_183 F Q (((n - 1) - k180)) x0 x1 x2 x3 z89 r180 t180 M180)))))))))))))))) ∧ (y0 = 0 → Q 0 t M))))
def p_X14_passes (F : Nat) (n : Nat) (tE : xTh) (x0 : Nat) (x1 : Int) (x2 : Int) (ME : xMe) (Q : Int → xTh → xMe → Prop) : Prop :=
  (∃ k3 : Nat, k3 ≤ n ∧ p_X14_first F k3 tE x0 x1 x2 ME (fun r3 t3 M3 => ((r3 = none → Q 0 t3 M3) ∧ (∀ b8 : Nat, r3 = some b8 → (∃ b14 : Nat, xr t3 x0 7 = some b14 ∧ xk t3 b14 = 17 ∧ ((0 : Int) ≤ x1 ∧ x1 < (xn t3 b14 : Int)) ∧ (∃ b18 : Nat, xr t3 b14 x1.toNat = some b18 ∧ xk t3 b18 = 14 ∧ ((0 : Int) ≤ x2 ∧ x2 < (xn t3 b18 : Int)) ∧ (∀ z21 : Int, z21 = M3 b18 x2.toNat → ((0 : Int) ≤ 7 ∧ 7 < (xn t3 b8 : Int)) ∧ (xR ((M3 x0 0) - (M3 b8 7))) ∧ (∃ b33 : Nat, xr t3 x0 2 = some b33 ∧ xk t3 b33 = 17 ∧ ((0 : Int) ≤ x2 ∧ x2 < (xn t3 b33 : Int)) ∧ (∃ b37 : Nat, xr t3 b33 x2.toNat = some b37 ∧ xk t3 b37 = 14 ∧ ((0 : Int) ≤ 0 ∧ 0 < (xn t3 b37 : Int)) ∧ ((((M3 x0 0) - (M3 b8 7)) < (M3 b37 0) → p_X14_passes_62 F Q ((n - k3)) x0 x1 x2 b8 z21 0 t3 M3) ∧ ((M3 b37 0) ≤ ((M3 x0 0) - (M3 b8 7)) → ((0 : Int) ≤ 2 ∧ 2 < (xn t3 b8 : Int)) ∧ (∃ k50 : Nat, k50 ≤ (n - k3) ∧ p_X14_sum F k50 t3 x0 x2 M3 (fun r50 t50 M50 => (xR (z21 + r50)) ∧ (((z21 + r50) < (M3 b8 2) → p_X14_passes_62 F Q (((n - k3) - k50)) x0 x1 x2 b8 z21 0 t50 M50) ∧ ((M3 b8 2) ≤ (z21 + r50) → p_X14_passes_62 F Q (((n - k3) - k50)) x0 x1 x2 b8 z21 1 t50 M50)))))))))))))))
set_option maxHeartbeats 8000000 in
set_option maxRecDepth 100000 in
theorem c_X14_passes {G : xGx} {tE : xTh} {ME : xMe} {F nE : Nat} {x0 : Nat} {x1 : Int} {x2 : Int} {Q : Int → xTh → xMe → Prop} (hME : xMR ME) (hkx0 : xk tE x0 = 20) (hx1 : xR x1) (hx2 : xR x2) (hp : p_X14_passes F nE tE x0 x1 x2 ME Q) : xCt G yX14_passes cX14_passes 12 (some .boolean) 6 nE (64 * nE) [vr x0, vi x1, vi x2] tE ME (fun v t' M' => ∃ r, v = some (vi r) ∧ xR r ∧ xMR M' ∧ xke tE t' ∧ Q r t' M') (fun _ _ _ => False) := by
  refine xCt_of (L0 := [vr x0, vi x1, vi x2, vU, vU, vU, vU, vU, vU, vU, vU, vU]) (by decide +kernel) (Nat.le_of_ble_eq_true rfl) rfl ?_
  intro X hX hB
  unfold p_X14_passes at hp
  refine xJ_aload_n hX dX14_passes_0 rfl ?_
  refine xJ_iload_n hX dX14_passes_1 rfl ?_
  refine xJ_iload_n hX dX14_passes_2 rfl ?_
  obtain ⟨k3, hn3, hp⟩ := hp
  refine xJ_callV (As := [_, _]) hX hB dX14_passes_3 lk_X14_81 im_X14_first se_X14_first rfl (by decide) hkx0 (c_X14_first hME hkx0 hx1 hx2 hp) (by decide) rfl rfl rfl (Nat.le_of_ble_eq_true rfl) (by omega) (by omega) (fun v t3 M3 hv => ?_) (fun _ _ _ q => q.elim)
  clear hp
  obtain ⟨r3, rfl, hk3, hM3, hq3, hp⟩ := hv
  dsimp only [Option.toList, List.cons_append, List.nil_append]
  refine xJ_astore_nO hX dX14_passes_6 (Nat.le_of_ble_eq_true rfl) rfl ?_
  dsimp only [List.set]
  refine xJ_aload_nO hX dX14_passes_7 rfl ?_
  refine xJ_ifnonnullO hX dX14_passes_8 (tgt := 13) (by decide) (fun e8 => ?_) (fun b8 e8 => ?_)
  · replace hp := hp.1 e8
    refine xJ_iconst hX dX14_passes_11 ?_
    exact xJ_zret hX hB dX14_passes_12 rfl (by omega) (by omega) ⟨_, rfl, ⟨by decide, by decide⟩, hM3, (xke_trans (xke_refl _) hq3), hp⟩
  · replace hp := hp.2 b8 e8
    have hkb8 := hk3 b8 e8
    subst e8
    refine xJ_aload_n hX dX14_passes_13 rfl ?_
    obtain ⟨b14, e14, hkb14, hp⟩ := hp
    refine xJ_getR (b := b14) hX dX14_passes_14 fd_X14_31 rfl (xke_k hq3 hkx0 (by decide)) e14 ?_
    refine xJ_iload_n hX dX14_passes_17 rfl ?_
    obtain ⟨h18, hp⟩ := hp
    obtain ⟨b18, e18, hkb18, hp⟩ := hp
    refine xJ_aaldOb hX dX14_passes_18 hkb14 h18.1 h18.2 e18 ?_
    refine xJ_iload_n hX dX14_passes_19 rfl ?_
    obtain ⟨h20, hp⟩ := hp
    refine xJ_iald hX dX14_passes_20 hkb18 h20.1 h20.2 ?_
    refine xJ_istore hX dX14_passes_21 (Nat.le_of_ble_eq_true rfl) rfl ?_
    dsimp only [List.set]
    replace hp := hp _ rfl
    refine xJ_aload_n hX dX14_passes_23 rfl ?_
    refine xJ_getI hX dX14_passes_24 fd_X14_45 rfl (xke_k hq3 hkx0 (by decide)) ?_
    refine xJ_aload_n hX dX14_passes_27 rfl ?_
    refine xJ_bipush hX dX14_passes_28 rfl ?_
    obtain ⟨h30, hp⟩ := hp
    refine xJ_iald hX dX14_passes_30 hkb8 h30.1 h30.2 ?_
    refine xJ_isub hX dX14_passes_31 ?_
    obtain ⟨h31, hp⟩ := hp
    refine xJ_aload_n hX dX14_passes_32 rfl ?_
    obtain ⟨b33, e33, hkb33, hp⟩ := hp
    refine xJ_getR (b := b33) hX dX14_passes_33 fd_X14_15 rfl (xke_k hq3 hkx0 (by decide)) e33 ?_
    refine xJ_iload_n hX dX14_passes_36 rfl ?_
    obtain ⟨h37, hp⟩ := hp
    obtain ⟨b37, e37, hkb37, hp⟩ := hp
    refine xJ_aaldOb hX dX14_passes_37 hkb33 h37.1 h37.2 e37 ?_
    refine xJ_iconst hX dX14_passes_38 ?_
    obtain ⟨h39, hp⟩ := hp
    refine xJ_iald hX dX14_passes_39 hkb37 h39.1 h39.2 ?_
    have l62 : ∀ (c s n : Nat) (x0 : Nat) (x1 : Int) (x2 : Int) (x3 : Nat) (x4 : Int) (y0 : Int) (t : xTh) (M : xMe) (hc : c + n ≤ nE) (hs : s + 64 * n ≤ 64 * nE) (hM : xMR M) (hqE : xke tE t) (hkx0 : xk t x0 = 20) (hx1 : xR x1) (hx2 : xR x2) (hkx3 : xk t x3 = 14) (hx4 : xR x4) (hy0 : xR y0) (hp : p_X14_passes_62 F Q n x0 x1 x2 x3 x4 y0 t M), xJ X c s t M 62 [vr x0, vi x1, vi x2, vr x3, vi x4, vU, vU, vU, vU, vU, vU, vU] [vi y0] := by
      intro c s n x0 x1 x2 x3 x4 y0 t M hc hs hM hqE hkx0 hx1 hx2 hkx3 hx4 hy0 hp
      unfold p_X14_passes_62 at hp
      refine xJ_istore hX dX14_passes_62 (Nat.le_of_ble_eq_true rfl) rfl ?_
      dsimp only [List.set]
      refine xJ_aload_n hX dX14_passes_64 rfl ?_
      refine xJ_iconst hX dX14_passes_65 ?_
      obtain ⟨h66, hp⟩ := hp
      refine xJ_iald hX dX14_passes_66 hkx3 h66.1 h66.2 ?_
      refine xJ_iload hX dX14_passes_67 rfl ?_
      refine xJ_icmp_le hX dX14_passes_69 (tgt := 79) (by decide) (hM _ _) hx4 (fun c69 => ?_) (fun c69 => ?_)
      · replace hp := hp.1 c69
        refine xJ_iconst hX dX14_passes_79 ?_
        refine xJ_aload_n hX dX14_passes_80 rfl ?_
        refine xJ_iconst hX dX14_passes_81 ?_
        obtain ⟨h82, hp⟩ := hp
        refine xJ_iald hX dX14_passes_82 hkx3 h82.1 h82.2 ?_
        refine xJ_iload hX dX14_passes_83 rfl ?_
        refine xJ_isub hX dX14_passes_85 ?_
        obtain ⟨h85, hp⟩ := hp
        refine xJ_mmax hX hB dX14_passes_86 lj_X14_89 jw_max_st jw_ma_in jw_max_co rfl (by decide) (Nat.le_of_ble_eq_true rfl) (by omega) (by omega) ⟨by decide, by decide⟩ h85 ?_
        refine xJ_istore hX dX14_passes_89 (Nat.le_of_ble_eq_true rfl) rfl ?_
        dsimp only [List.set]
        replace hp := hp _ rfl
        refine xJ_aload_n hX dX14_passes_91 rfl ?_
        obtain ⟨b92, e92, hkb92, hp⟩ := hp
        refine xJ_getR (b := b92) hX dX14_passes_92 fd_X14_31 rfl hkx0 e92 ?_
        refine xJ_iload_n hX dX14_passes_95 rfl ?_
        obtain ⟨h96, hp⟩ := hp
        obtain ⟨b96, e96, hkb96, hp⟩ := hp
        refine xJ_aaldOb hX dX14_passes_96 hkb92 h96.1 h96.2 e96 ?_
        refine xJ_iload_n hX dX14_passes_97 rfl ?_
        refine xJ_iconst hX dX14_passes_98 ?_
        refine xJ_iload hX dX14_passes_99 rfl ?_
        refine xJ_aload_n hX dX14_passes_101 rfl ?_
        refine xJ_iconst hX dX14_passes_102 ?_
        obtain ⟨h103, hp⟩ := hp
        refine xJ_iald hX dX14_passes_103 hkx3 h103.1 h103.2 ?_
        refine xJ_isub hX dX14_passes_104 ?_
        obtain ⟨h104, hp⟩ := hp
        refine xJ_mmax hX hB dX14_passes_105 lj_X14_89 jw_max_st jw_ma_in jw_max_co rfl (by decide) (Nat.le_of_ble_eq_true rfl) (by omega) (by omega) ⟨by decide, by decide⟩ h104 ?_
        obtain ⟨h108, hp⟩ := hp
        refine xJ_iastM hX dX14_passes_108 hkb96 h108.1 h108.2 hM (xR_max ⟨by decide, by decide⟩ h104) (fun M108 e108 hM108 => ?_)
        replace hp := hp M108 e108
        refine xJ_aload_n hX dX14_passes_109 rfl ?_
        refine xJ_iconst hX dX14_passes_110 ?_
        refine xJ_dup2 hX dX14_passes_111 rfl rfl ?_
        obtain ⟨h112, hp⟩ := hp
        refine xJ_iald hX dX14_passes_112 hkx3 h112.1 h112.2 ?_
        refine xJ_iload hX dX14_passes_113 rfl ?_
        refine xJ_iadd hX dX14_passes_115 ?_
        obtain ⟨h115, hp⟩ := hp
        obtain ⟨h116, hp⟩ := hp
        refine xJ_iastM hX dX14_passes_116 hkx3 h116.1 h116.2 hM108 h115 (fun M116 e116 hM116 => ?_)
        replace hp := hp M116 e116
        refine xJ_aload_n hX dX14_passes_117 rfl ?_
        refine xJ_dup hX dX14_passes_118 rfl ?_
        refine xJ_getI hX dX14_passes_119 fd_X14_57 rfl hkx0 ?_
        refine xJ_iload hX dX14_passes_122 rfl ?_
        refine xJ_iadd hX dX14_passes_124 ?_
        obtain ⟨h124, hp⟩ := hp
        refine xJ_putIM hX dX14_passes_125 fd_X14_57 ft_X14 rfl rfl rfl rfl hkx0 hM116 h124 (fun M125 e125 hM125 => ?_)
        replace hp := hp M125 e125
        refine xJ_aload_n hX dX14_passes_128 rfl ?_
        refine xJ_getO hX dX14_passes_129 fd_X14_60 rfl hkx0 ?_
        obtain ⟨hk129, hp⟩ := hp
        have l183 : ∀ (c s n : Nat) (x0 : Nat) (x1 : Int) (x2 : Int) (x3 : Nat) (x6 : Int) (y0 : Int) (t : xTh) (M : xMe) (hc : c + n ≤ nE) (hs : s + 64 * n ≤ 64 * nE) (hM : xMR M) (hqE : xke tE t) (hkx0 : xk t x0 = 20) (hx1 : xR x1) (hx2 : xR x2) (hkx3 : xk t x3 = 14) (hx6 : xR x6) (hy0 : xRl y0) (hp : p_X14_passes_183 F Q n x0 x1 x2 x3 x6 y0 t M), xJ X c s t M 183 [vr x0, vi x1, vi x2, vr x3, vU, vU, vi x6, vU, vU, vU, vU, vU] [vl y0] := by
          intro c s n x0 x1 x2 x3 x6 y0 t M hc hs hM hqE hkx0 hx1 hx2 hkx3 hx6 hy0 hp
          unfold p_X14_passes_183 at hp
          refine xJ_lstore hX dX14_passes_183 (Nat.le_of_ble_eq_true rfl) rfl ?_
          dsimp only [List.set]
          refine xJ_aload_n hX dX14_passes_185 rfl ?_
          obtain ⟨b186, e186, hkb186, hp⟩ := hp
          refine xJ_getR (b := b186) hX dX14_passes_186 fd_X14_15 rfl hkx0 e186 ?_
          refine xJ_iload_n hX dX14_passes_189 rfl ?_
          obtain ⟨h190, hp⟩ := hp
          obtain ⟨b190, e190, hkb190, hp⟩ := hp
          refine xJ_aaldOb hX dX14_passes_190 hkb186 h190.1 h190.2 e190 ?_
          refine xJ_iconst hX dX14_passes_191 ?_
          refine xJ_dup2 hX dX14_passes_192 rfl rfl ?_
          obtain ⟨h193, hp⟩ := hp
          refine xJ_iald hX dX14_passes_193 hkb190 h193.1 h193.2 ?_
          refine xJ_lconst hX dX14_passes_194 ?_
          refine xJ_ldc2 (9999) hX dX14_passes_195 kc_X14_98 ?_
          refine xJ_lload hX dX14_passes_198 rfl ?_
          refine xJ_mminL hX hB dX14_passes_200 lj_X14_100 jw_minL_st jw_ma_in jw_minL_co rfl (by decide) (Nat.le_of_ble_eq_true rfl) (by omega) (by omega) ⟨by decide, by decide⟩ hy0 ?_
          refine xJ_mmaxL hX hB dX14_passes_203 lj_X14_103 jw_maxL_st jw_ma_in jw_maxL_co rfl (by decide) (Nat.le_of_ble_eq_true rfl) (by omega) (by omega) ⟨by decide, by decide⟩ (xRl_min ⟨by decide, by decide⟩ hy0) ?_
          obtain ⟨h206, hp⟩ := hp
          refine xJ_l2i hX dX14_passes_206 ?_
          refine xJ_iadd hX dX14_passes_207 ?_
          obtain ⟨h207, hp⟩ := hp
          obtain ⟨h208, hp⟩ := hp
          refine xJ_iastM hX dX14_passes_208 hkb190 h208.1 h208.2 hM h207 (fun M208 e208 hM208 => ?_)
          replace hp := hp M208 e208
          refine xJ_aload_n hX dX14_passes_209 rfl ?_
          refine xJ_aload_n hX dX14_passes_210 rfl ?_
          obtain ⟨b211, e211, hkb211, hp⟩ := hp
          refine xJ_getR (b := b211) hX dX14_passes_211 fd_X14_27 rfl hkx0 e211 ?_
          refine xJ_iconst hX dX14_passes_214 ?_
          obtain ⟨hn215, hp⟩ := hp
          refine xJ_newIE hX hB hM208 dX14_passes_215 ac_int (by decide) (by decide) (by omega) (by omega) (fun a215 t215 M215 ea215 et215 e215 hM215 hq215 hka215 => ?_)
          replace hp := hp a215 t215 M215 ea215 et215 e215
          refine xJ_dup hX dX14_passes_217 rfl ?_
          refine xJ_iconst hX dX14_passes_218 ?_
          refine xJ_aload_n hX dX14_passes_219 rfl ?_
          refine xJ_getI hX dX14_passes_220 fd_X14_45 rfl (xke_k hq215 hkx0 (by decide)) ?_
          obtain ⟨h223, hp⟩ := hp
          refine xJ_iastM hX dX14_passes_223 hka215 h223.1 h223.2 hM215 (hM215 _ _) (fun M223 e223 hM223 => ?_)
          replace hp := hp M223 e223
          refine xJ_dup hX dX14_passes_224 rfl ?_
          refine xJ_iconst hX dX14_passes_225 ?_
          refine xJ_iload_n hX dX14_passes_226 rfl ?_
          obtain ⟨h227, hp⟩ := hp
          refine xJ_iastM hX dX14_passes_227 hka215 h227.1 h227.2 hM223 hx1 (fun M227 e227 hM227 => ?_)
          replace hp := hp M227 e227
          refine xJ_dup hX dX14_passes_228 rfl ?_
          refine xJ_iconst hX dX14_passes_229 ?_
          refine xJ_iload_n hX dX14_passes_230 rfl ?_
          obtain ⟨h231, hp⟩ := hp
          refine xJ_iastM hX dX14_passes_231 hka215 h231.1 h231.2 hM227 hx2 (fun M231 e231 hM231 => ?_)
          replace hp := hp M231 e231
          refine xJ_dup hX dX14_passes_232 rfl ?_
          refine xJ_iconst hX dX14_passes_233 ?_
          refine xJ_aload_n hX dX14_passes_234 rfl ?_
          refine xJ_iconst hX dX14_passes_235 ?_
          obtain ⟨h236, hp⟩ := hp
          refine xJ_iald hX dX14_passes_236 (xke_k hq215 hkx3 (by decide)) h236.1 h236.2 ?_
          obtain ⟨h237, hp⟩ := hp
          refine xJ_iastM hX dX14_passes_237 hka215 h237.1 h237.2 hM231 (hM231 _ _) (fun M237 e237 hM237 => ?_)
          replace hp := hp M237 e237
          refine xJ_dup hX dX14_passes_238 rfl ?_
          refine xJ_iconst hX dX14_passes_239 ?_
          refine xJ_iload hX dX14_passes_240 rfl ?_
          obtain ⟨h242, hp⟩ := hp
          refine xJ_iastM hX dX14_passes_242 hka215 h242.1 h242.2 hM237 hx6 (fun M242 e242 hM242 => ?_)
          replace hp := hp M242 e242
          obtain ⟨k243, hn243, hp⟩ := hp
          refine xJ_callSN (As := [_, _]) hX hB dX14_passes_243 ln_X14_77 sm_L_with (c_L_with hM242 (xke_k hq215 hkb211 (by decide)) hka215 hp) (by decide) rfl rfl rfl (Nat.le_of_ble_eq_true rfl) (by omega) (by omega) (fun v t243 M243 hv => ?_)
          clear hp
          obtain ⟨r243, rfl, hk243, hM243, hq243, hp⟩ := hv
          dsimp only [Option.toList, List.cons_append, List.nil_append]
          refine xJ_putRE (x := (some r243)) hX dX14_passes_246 fd_X14_27 ft_X14 rfl rfl rfl rfl (xke_k hq243 (xke_k hq215 hkx0 (by decide)) (by decide)) (fun t246 et246 hq246 => ?_)
          replace hp := hp t246 et246
          refine xJ_aload_n hX dX14_passes_249 rfl ?_
          obtain ⟨b250, e250, hkb250, hp⟩ := hp
          refine xJ_getR (b := b250) hX dX14_passes_250 fd_X14_27 rfl (xke_k hq246 (xke_k hq243 (xke_k hq215 hkx0 (by decide)) (by decide)) (by decide)) e250 ?_
          refine xJ_alen hX dX14_passes_253 (by rw [hkb250]; decide) (by rw [hkb250]; decide) ?_
          obtain ⟨h253, hp⟩ := hp
          refine xJ_bipush hX dX14_passes_254 rfl ?_
          have l271 : ∀ (c s n : Nat) (x0 : Nat) (x2 : Int) (x3 : Nat) (x6 : Int) (t : xTh) (M : xMe) (hc : c + n ≤ nE) (hs : s + 64 * n ≤ 64 * nE) (hM : xMR M) (hqE : xke tE t) (hkx0 : xk t x0 = 20) (hx2 : xR x2) (hkx3 : xk t x3 = 14) (hx6 : xR x6) (hp : p_X14_passes_271 F Q n x0 x2 x3 x6 t M), xJ X c s t M 271 [vr x0, vU, vi x2, vr x3, vU, vU, vi x6, vU, vU, vU, vU, vU] [] := by
            intro c s n x0 x2 x3 x6 t M hc hs hM hqE hkx0 hx2 hkx3 hx6 hp
            unfold p_X14_passes_271 at hp
            refine xJ_iload hX dX14_passes_271 rfl ?_
            refine xJ_istore hX dX14_passes_273 (Nat.le_of_ble_eq_true rfl) rfl ?_
            dsimp only [List.set]
            have l410 : ∀ (c s n : Nat) (x0 : Nat) (x2 : Int) (x3 : Nat) (t : xTh) (M : xMe) (hc : c + n ≤ nE) (hs : s + 64 * n ≤ 64 * nE) (hM : xMR M) (hqE : xke tE t) (hkx0 : xk t x0 = 20) (hx2 : xR x2) (hkx3 : xk t x3 = 14) (hp : p_X14_passes_410 F Q n x0 x2 x3 t M), xJ X c s t M 410 [vr x0, vU, vi x2, vr x3, vU, vU, vU, vU, vU, vU, vU, vU] [] := by
              intro c s n x0 x2 x3 t M hc hs hM hqE hkx0 hx2 hkx3 hp
              unfold p_X14_passes_410 at hp
              refine xJ_aload_n hX dX14_passes_410 rfl ?_
              refine xJ_iconst hX dX14_passes_411 ?_
              refine xJ_dup2 hX dX14_passes_412 rfl rfl ?_
              obtain ⟨h413, hp⟩ := hp
              refine xJ_iald hX dX14_passes_413 hkx3 h413.1 h413.2 ?_
              refine xJ_iconst hX dX14_passes_414 ?_
              refine xJ_iadd hX dX14_passes_415 ?_
              obtain ⟨h415, hp⟩ := hp
              obtain ⟨h416, hp⟩ := hp
              refine xJ_iastM hX dX14_passes_416 hkx3 h416.1 h416.2 hM h415 (fun M416 e416 hM416 => ?_)
              replace hp := hp M416 e416
              refine xJ_aload_n hX dX14_passes_417 rfl ?_
              refine xJ_iconst hX dX14_passes_418 ?_
              refine xJ_iconst hX dX14_passes_419 ?_
              obtain ⟨h420, hp⟩ := hp
              refine xJ_iastM hX dX14_passes_420 hkx3 h420.1 h420.2 hM416 ⟨by decide, by decide⟩ (fun M420 e420 hM420 => ?_)
              replace hp := hp M420 e420
              refine xJ_aload_n hX dX14_passes_421 rfl ?_
              refine xJ_iconst hX dX14_passes_422 ?_
              obtain ⟨h423, hp⟩ := hp
              refine xJ_iald hX dX14_passes_423 hkx3 h423.1 h423.2 ?_
              refine xJ_aload_n hX dX14_passes_424 rfl ?_
              obtain ⟨b425, e425, hkb425, hp⟩ := hp
              refine xJ_getR (b := b425) hX dX14_passes_425 fd_X14_18 rfl hkx0 e425 ?_
              refine xJ_iload_n hX dX14_passes_428 rfl ?_
              obtain ⟨h429, hp⟩ := hp
              obtain ⟨b429, e429, hkb429, hp⟩ := hp
              refine xJ_aaldOb hX dX14_passes_429 hkb425 h429.1 h429.2 e429 ?_
              refine xJ_alen hX dX14_passes_430 (by rw [hkb429]; decide) (by rw [hkb429]; decide) ?_
              obtain ⟨h430, hp⟩ := hp
              refine xJ_icmp_ne hX dX14_passes_431 (tgt := 460) (by decide) (hM420 _ _) h430 (fun c431 => ?_) (fun c431 => ?_)
              · replace hp := hp.1 c431
                refine xJ_iconst hX dX14_passes_460 ?_
                exact xJ_zret hX hB dX14_passes_461 rfl (by omega) (by omega) ⟨_, rfl, ⟨by decide, by decide⟩, hM420, hqE, hp⟩
              · replace hp := hp.2 c431
                refine xJ_aload_n hX dX14_passes_434 rfl ?_
                refine xJ_iconst hX dX14_passes_435 ?_
                refine xJ_iconst hX dX14_passes_436 ?_
                obtain ⟨h437, hp⟩ := hp
                refine xJ_iastM hX dX14_passes_437 hkx3 h437.1 h437.2 hM420 ⟨by decide, by decide⟩ (fun M437 e437 hM437 => ?_)
                replace hp := hp M437 e437
                refine xJ_aload_n hX dX14_passes_438 rfl ?_
                refine xJ_bipush hX dX14_passes_439 rfl ?_
                refine xJ_aload_n hX dX14_passes_441 rfl ?_
                refine xJ_getI hX dX14_passes_442 fd_X14_45 rfl hkx0 ?_
                obtain ⟨h445, hp⟩ := hp
                refine xJ_iastM hX dX14_passes_445 hkx3 h445.1 h445.2 hM437 (hM437 _ _) (fun M445 e445 hM445 => ?_)
                replace hp := hp M445 e445
                refine xJ_aload_n hX dX14_passes_446 rfl ?_
                obtain ⟨b447, e447, hkb447, hp⟩ := hp
                refine xJ_getR (b := b447) hX dX14_passes_447 fd_X14_15 rfl hkx0 e447 ?_
                refine xJ_iload_n hX dX14_passes_450 rfl ?_
                obtain ⟨h451, hp⟩ := hp
                obtain ⟨b451, e451, hkb451, hp⟩ := hp
                refine xJ_aaldOb hX dX14_passes_451 hkb447 h451.1 h451.2 e451 ?_
                refine xJ_iconst hX dX14_passes_452 ?_
                refine xJ_dup2 hX dX14_passes_453 rfl rfl ?_
                obtain ⟨h454, hp⟩ := hp
                refine xJ_iald hX dX14_passes_454 hkb451 h454.1 h454.2 ?_
                refine xJ_aload_n hX dX14_passes_455 rfl ?_
                refine xJ_iconst hX dX14_passes_456 ?_
                obtain ⟨h457, hp⟩ := hp
                refine xJ_iald hX dX14_passes_457 hkx3 h457.1 h457.2 ?_
                refine xJ_iadd hX dX14_passes_458 ?_
                obtain ⟨h458, hp⟩ := hp
                obtain ⟨h459, hp⟩ := hp
                refine xJ_iastM hX dX14_passes_459 hkb451 h459.1 h459.2 hM445 h458 (fun M459 e459 hM459 => ?_)
                replace hp := hp M459 e459
                refine xJ_iconst hX dX14_passes_460 ?_
                exact xJ_zret hX hB dX14_passes_461 rfl (by omega) (by omega) ⟨_, rfl, ⟨by decide, by decide⟩, hM459, hqE, hp⟩
            have l275 : ∀ (k275 : Nat) (c s n : Nat) (x0 : Nat) (x2 : Int) (x3 : Nat) (x9 : Int) (t : xTh) (M : xMe) (hc : c + n ≤ nE) (hs : s + 64 * n ≤ 64 * nE) (hM : xMR M) (hqE : xke tE t) (hkx0 : xk t x0 = 20) (hx2 : xR x2) (hkx3 : xk t x3 = 14) (hx9 : xR x9) (hp : p_X14_passes_275 F Q (p_X14_passes_410 F Q) k275 n x0 x2 x3 x9 t M), xJ X c s t M 275 [vr x0, vU, vi x2, vr x3, vU, vU, vU, vU, vU, vi x9, vU, vU] [] := by
              intro k275
              induction k275 with
              | zero => intro c s n x0 x2 x3 x9 t M hc hs hM hqE hkx0 hx2 hkx3 hx9 hp; exact hp.elim
              | succ k275 ih275 =>
                intro c s n x0 x2 x3 x9 t M hc hs hM hqE hkx0 hx2 hkx3 hx9 hp
                unfold p_X14_passes_275 at hp
                refine xJ_iload hX dX14_passes_275 rfl ?_
                refine xJ_if_le hX dX14_passes_277 (tgt := 410) (by decide) hx9 (fun c277 => ?_) (fun c277 => ?_)
                · replace hp := hp.1 c277
                  refine xJ_fg 9 ?_
                  dsimp only [List.set]
                  exact l410 _ _ _ _ _ _ _ _ (by omega) (by omega) hM hqE hkx0 hx2 hkx3 hp
                · replace hp := hp.2 c277
                  refine xJ_iconst hX dX14_passes_280 ?_
                  refine xJ_istore hX dX14_passes_281 (Nat.le_of_ble_eq_true rfl) rfl ?_
                  dsimp only [List.set]
                  refine xJ_iconst hX dX14_passes_283 ?_
                  refine xJ_istore hX dX14_passes_284 (Nat.le_of_ble_eq_true rfl) rfl ?_
                  dsimp only [List.set]
                  have l345 : ∀ (c s n : Nat) (x0 : Nat) (x2 : Int) (x3 : Nat) (x9 : Int) (x10 : Int) (t : xTh) (M : xMe) (hc : c + n ≤ nE) (hs : s + 64 * n ≤ 64 * nE) (hM : xMR M) (hqE : xke tE t) (hkx0 : xk t x0 = 20) (hx2 : xR x2) (hkx3 : xk t x3 = 14) (hx9 : xR x9) (hx10 : xR x10) (hp : p_X14_passes_345 F Q (p_X14_passes_275 F Q (p_X14_passes_410 F Q) k275) (p_X14_passes_410 F Q) n x0 x2 x3 x9 x10 t M), xJ X c s t M 345 [vr x0, vU, vi x2, vr x3, vU, vU, vU, vU, vU, vi x9, vi x10, vU] [] := by
                    intro c s n x0 x2 x3 x9 x10 t M hc hs hM hqE hkx0 hx2 hkx3 hx9 hx10 hp
                    unfold p_X14_passes_345 at hp
                    refine xJ_iload hX dX14_passes_345 rfl ?_
                    refine xJ_aload_n hX dX14_passes_347 rfl ?_
                    obtain ⟨b348, e348, hkb348, hp⟩ := hp
                    refine xJ_getR (b := b348) hX dX14_passes_348 fd_X14_24 rfl hkx0 e348 ?_
                    refine xJ_iload hX dX14_passes_351 rfl ?_
                    obtain ⟨h353, hp⟩ := hp
                    obtain ⟨b353, e353, hkb353, hp⟩ := hp
                    refine xJ_aaldOb hX dX14_passes_353 hkb348 h353.1 h353.2 e353 ?_
                    refine xJ_iconst hX dX14_passes_354 ?_
                    obtain ⟨h355, hp⟩ := hp
                    refine xJ_iald hX dX14_passes_355 hkb353 h355.1 h355.2 ?_
                    refine xJ_mmin hX hB dX14_passes_356 lj_X14_72 jw_min_st jw_ma_in jw_min_co rfl (by decide) (Nat.le_of_ble_eq_true rfl) (by omega) (by omega) hx9 (hM _ _) ?_
                    refine xJ_istore hX dX14_passes_359 (Nat.le_of_ble_eq_true rfl) rfl ?_
                    dsimp only [List.set]
                    replace hp := hp _ rfl
                    refine xJ_iload hX dX14_passes_361 rfl ?_
                    refine xJ_iload hX dX14_passes_363 rfl ?_
                    refine xJ_isub hX dX14_passes_365 ?_
                    obtain ⟨h365, hp⟩ := hp
                    refine xJ_istore hX dX14_passes_366 (Nat.le_of_ble_eq_true rfl) rfl ?_
                    dsimp only [List.set]
                    replace hp := hp _ rfl
                    refine xJ_aload_n hX dX14_passes_368 rfl ?_
                    refine xJ_getR (b := b348) hX dX14_passes_369 fd_X14_24 rfl hkx0 e348 ?_
                    refine xJ_iload hX dX14_passes_372 rfl ?_
                    obtain ⟨h374, hp⟩ := hp
                    obtain ⟨b374, e374, hkb374, hp⟩ := hp
                    refine xJ_aaldOb hX dX14_passes_374 hkb348 h374.1 h374.2 e374 ?_
                    refine xJ_iconst hX dX14_passes_375 ?_
                    refine xJ_dup2 hX dX14_passes_376 rfl rfl ?_
                    obtain ⟨h377, hp⟩ := hp
                    refine xJ_iald hX dX14_passes_377 hkb374 h377.1 h377.2 ?_
                    refine xJ_iload hX dX14_passes_378 rfl ?_
                    refine xJ_isub hX dX14_passes_380 ?_
                    obtain ⟨h380, hp⟩ := hp
                    obtain ⟨h381, hp⟩ := hp
                    refine xJ_iastM hX dX14_passes_381 hkb374 h381.1 h381.2 hM h380 (fun M381 e381 hM381 => ?_)
                    replace hp := hp M381 e381
                    refine xJ_aload_n hX dX14_passes_382 rfl ?_
                    refine xJ_getR (b := b348) hX dX14_passes_383 fd_X14_24 rfl hkx0 e348 ?_
                    refine xJ_iload hX dX14_passes_386 rfl ?_
                    obtain ⟨h388, hp⟩ := hp
                    obtain ⟨b388, e388, hkb388, hp⟩ := hp
                    refine xJ_aaldOb hX dX14_passes_388 hkb348 h388.1 h388.2 e388 ?_
                    refine xJ_iconst hX dX14_passes_389 ?_
                    obtain ⟨h390, hp⟩ := hp
                    refine xJ_iald hX dX14_passes_390 hkb388 h390.1 h390.2 ?_
                    refine xJ_if_ne hX dX14_passes_391 (tgt := 407) (by decide) (hM381 _ _) (fun c391 => ?_) (fun c391 => ?_)
                    · replace hp := hp.1 c391
                      refine xJ_goto hX dX14_passes_407 (tgt := 275) (by decide) ?_
                      refine xJ_fg 10 ?_
                      dsimp only [List.set]
                      refine xJ_fg 11 ?_
                      dsimp only [List.set]
                      exact ih275 _ _ _ _ _ _ _ _ _ (by omega) (by omega) hM381 hqE hkx0 hx2 hkx3 h365 hp
                    · replace hp := hp.2 c391
                      refine xJ_aload_n hX dX14_passes_394 rfl ?_
                      refine xJ_aload_n hX dX14_passes_395 rfl ?_
                      refine xJ_getR (b := b348) hX dX14_passes_396 fd_X14_24 rfl hkx0 e348 ?_
                      refine xJ_iload hX dX14_passes_399 rfl ?_
                      obtain ⟨k401, hn401, hp⟩ := hp
                      refine xJ_callSN (As := [_, _]) hX hB dX14_passes_401 ln_X14_105 sm_L_without (c_L_without hM381 hkb348 hx10 hp) (by decide) rfl rfl rfl (Nat.le_of_ble_eq_true rfl) (by omega) (by omega) (fun v t401 M401 hv => ?_)
                      clear hp
                      obtain ⟨r401, rfl, hk401, hM401, hq401, hp⟩ := hv
                      dsimp only [Option.toList, List.cons_append, List.nil_append]
                      refine xJ_putRE (x := (some r401)) hX dX14_passes_404 fd_X14_24 ft_X14 rfl rfl rfl rfl (xke_k hq401 hkx0 (by decide)) (fun t404 et404 hq404 => ?_)
                      replace hp := hp t404 et404
                      refine xJ_goto hX dX14_passes_407 (tgt := 275) (by decide) ?_
                      refine xJ_fg 10 ?_
                      dsimp only [List.set]
                      refine xJ_fg 11 ?_
                      dsimp only [List.set]
                      exact ih275 _ _ _ _ _ _ _ _ _ (by omega) (by omega) hM401 (xke_trans (xke_trans hqE hq401) hq404) (xke_k hq404 (xke_k hq401 hkx0 (by decide)) (by decide)) hx2 (xke_k hq404 (xke_k hq401 hkx3 (by decide)) (by decide)) h365 hp
                  have l286 : ∀ (k286 : Nat) (c s n : Nat) (x0 : Nat) (x2 : Int) (x3 : Nat) (x9 : Int) (x10 : Int) (x11 : Int) (t : xTh) (M : xMe) (hc : c + n ≤ nE) (hs : s + 64 * n ≤ 64 * nE) (hM : xMR M) (hqE : xke tE t) (hkx0 : xk t x0 = 20) (hx2 : xR x2) (hkx3 : xk t x3 = 14) (hx9 : xR x9) (hx10 : xR x10) (hx11 : xR x11) (hp : p_X14_passes_286 F Q (p_X14_passes_275 F Q (p_X14_passes_410 F Q) k275) (p_X14_passes_345 F Q (p_X14_passes_275 F Q (p_X14_passes_410 F Q) k275) (p_X14_passes_410 F Q)) (p_X14_passes_410 F Q) k286 n x0 x2 x3 x9 x10 x11 t M), xJ X c s t M 286 [vr x0, vU, vi x2, vr x3, vU, vU, vU, vU, vU, vi x9, vi x10, vi x11] [] := by
                    intro k286
                    induction k286 with
                    | zero => intro c s n x0 x2 x3 x9 x10 x11 t M hc hs hM hqE hkx0 hx2 hkx3 hx9 hx10 hx11 hp; exact hp.elim
                    | succ k286 ih286 =>
                      intro c s n x0 x2 x3 x9 x10 x11 t M hc hs hM hqE hkx0 hx2 hkx3 hx9 hx10 hx11 hp
                      unfold p_X14_passes_286 at hp
                      refine xJ_iload hX dX14_passes_286 rfl ?_
                      refine xJ_aload_n hX dX14_passes_288 rfl ?_
                      obtain ⟨b289, e289, hkb289, hp⟩ := hp
                      refine xJ_getR (b := b289) hX dX14_passes_289 fd_X14_24 rfl hkx0 e289 ?_
                      refine xJ_alen hX dX14_passes_292 (by rw [hkb289]; decide) (by rw [hkb289]; decide) ?_
                      obtain ⟨h292, hp⟩ := hp
                      refine xJ_icmp_ge hX dX14_passes_293 (tgt := 345) (by decide) hx11 h292 (fun c293 => ?_) (fun c293 => ?_)
                      · replace hp := hp.1 c293
                        refine xJ_fg 11 ?_
                        dsimp only [List.set]
                        exact l345 _ _ _ _ _ _ _ _ _ _ (by omega) (by omega) hM hqE hkx0 hx2 hkx3 hx9 hx10 hp
                      · replace hp := hp.2 c293
                        refine xJ_aload_n hX dX14_passes_296 rfl ?_
                        refine xJ_getR (b := b289) hX dX14_passes_297 fd_X14_24 rfl hkx0 e289 ?_
                        refine xJ_iload hX dX14_passes_300 rfl ?_
                        obtain ⟨h302, hp⟩ := hp
                        obtain ⟨b302, e302, hkb302, hp⟩ := hp
                        refine xJ_aaldOb hX dX14_passes_302 hkb289 h302.1 h302.2 e302 ?_
                        refine xJ_iconst hX dX14_passes_303 ?_
                        obtain ⟨h304, hp⟩ := hp
                        refine xJ_iald hX dX14_passes_304 hkb302 h304.1 h304.2 ?_
                        refine xJ_iload_n hX dX14_passes_305 rfl ?_
                        refine xJ_icmp_ne hX dX14_passes_306 (tgt := 339) (by decide) (hM _ _) hx2 (fun c306 => ?_) (fun c306 => ?_)
                        · replace hp := hp.1 c306
                          refine xJ_iinc hX dX14_passes_339 rfl rfl ?_
                          dsimp only [List.set]
                          obtain ⟨h339, hp⟩ := hp
                          refine xJ_goto hX dX14_passes_342 (tgt := 286) (by decide) ?_
                          exact ih286 _ _ _ _ _ _ _ _ _ _ _ (by omega) (by omega) hM hqE hkx0 hx2 hkx3 hx9 hx10 h339 hp
                        · replace hp := hp.2 c306
                          refine xJ_iload hX dX14_passes_309 rfl ?_
                          refine xJ_if_lt hX dX14_passes_311 (tgt := 335) (by decide) hx10 (fun c311 => ?_) (fun c311 => ?_)
                          · replace hp := hp.1 c311
                            refine xJ_iload hX dX14_passes_335 rfl ?_
                            refine xJ_istore hX dX14_passes_337 (Nat.le_of_ble_eq_true rfl) rfl ?_
                            dsimp only [List.set]
                            refine xJ_iinc hX dX14_passes_339 rfl rfl ?_
                            dsimp only [List.set]
                            obtain ⟨h339, hp⟩ := hp
                            refine xJ_goto hX dX14_passes_342 (tgt := 286) (by decide) ?_
                            exact ih286 _ _ _ _ _ _ _ _ _ _ _ (by omega) (by omega) hM hqE hkx0 hx2 hkx3 hx9 hx11 h339 hp
                          · replace hp := hp.2 c311
                            refine xJ_aload_n hX dX14_passes_314 rfl ?_
                            refine xJ_getR (b := b289) hX dX14_passes_315 fd_X14_24 rfl hkx0 e289 ?_
                            refine xJ_iload hX dX14_passes_318 rfl ?_
                            obtain ⟨h320, hp⟩ := hp
                            obtain ⟨b320, e320, hkb320, hp⟩ := hp
                            refine xJ_aaldOb hX dX14_passes_320 hkb289 h320.1 h320.2 e320 ?_
                            refine xJ_iconst hX dX14_passes_321 ?_
                            obtain ⟨h322, hp⟩ := hp
                            refine xJ_iald hX dX14_passes_322 hkb320 h322.1 h322.2 ?_
                            refine xJ_aload_n hX dX14_passes_323 rfl ?_
                            refine xJ_getR (b := b289) hX dX14_passes_324 fd_X14_24 rfl hkx0 e289 ?_
                            refine xJ_iload hX dX14_passes_327 rfl ?_
                            obtain ⟨h329, hp⟩ := hp
                            obtain ⟨b329, e329, hkb329, hp⟩ := hp
                            refine xJ_aaldOb hX dX14_passes_329 hkb289 h329.1 h329.2 e329 ?_
                            refine xJ_iconst hX dX14_passes_330 ?_
                            obtain ⟨h331, hp⟩ := hp
                            refine xJ_iald hX dX14_passes_331 hkb329 h331.1 h331.2 ?_
                            refine xJ_icmp_ge hX dX14_passes_332 (tgt := 339) (by decide) (hM _ _) (hM _ _) (fun c332 => ?_) (fun c332 => ?_)
                            · replace hp := hp.1 c332
                              refine xJ_iinc hX dX14_passes_339 rfl rfl ?_
                              dsimp only [List.set]
                              obtain ⟨h339, hp⟩ := hp
                              refine xJ_goto hX dX14_passes_342 (tgt := 286) (by decide) ?_
                              exact ih286 _ _ _ _ _ _ _ _ _ _ _ (by omega) (by omega) hM hqE hkx0 hx2 hkx3 hx9 hx10 h339 hp
                            · replace hp := hp.2 c332
                              refine xJ_iload hX dX14_passes_335 rfl ?_
                              refine xJ_istore hX dX14_passes_337 (Nat.le_of_ble_eq_true rfl) rfl ?_
                              dsimp only [List.set]
                              refine xJ_iinc hX dX14_passes_339 rfl rfl ?_
                              dsimp only [List.set]
                              obtain ⟨h339, hp⟩ := hp
                              refine xJ_goto hX dX14_passes_342 (tgt := 286) (by decide) ?_
                              exact ih286 _ _ _ _ _ _ _ _ _ _ _ (by omega) (by omega) hM hqE hkx0 hx2 hkx3 hx9 hx11 h339 hp
                  exact l286 F _ _ _ _ _ _ _ _ _ _ _ (by omega) (by omega) hM hqE hkx0 hx2 hkx3 hx9 ⟨by decide, by decide⟩ ⟨by decide, by decide⟩ hp
            refine xJ_fg 6 ?_
            dsimp only [List.set]
            exact l275 F _ _ _ _ _ _ _ _ _ (by omega) (by omega) hM hqE hkx0 hx2 hkx3 hx6 hp
          refine xJ_icmp_le hX dX14_passes_256 (tgt := 271) (by decide) h253 ⟨by decide, by decide⟩ (fun c256 => ?_) (fun c256 => ?_)
          · replace hp := hp.1 c256
            refine xJ_fg 1 ?_
            dsimp only [List.set]
            refine xJ_fg 7 ?_
            dsimp only [List.set]
            exact l271 _ _ _ _ _ _ _ _ _ (by omega) (by omega) hM243 (xke_trans (xke_trans (xke_trans hqE hq215) hq243) hq246) (xke_k hq246 (xke_k hq243 (xke_k hq215 hkx0 (by decide)) (by decide)) (by decide)) hx2 (xke_k hq246 (xke_k hq243 (xke_k hq215 hkx3 (by decide)) (by decide)) (by decide)) hx6 hp
          · replace hp := hp.2 c256
            refine xJ_aload_n hX dX14_passes_259 rfl ?_
            refine xJ_aload_n hX dX14_passes_260 rfl ?_
            refine xJ_getR (b := b250) hX dX14_passes_261 fd_X14_27 rfl (xke_k hq246 (xke_k hq243 (xke_k hq215 hkx0 (by decide)) (by decide)) (by decide)) e250 ?_
            refine xJ_iconst hX dX14_passes_264 ?_
            obtain ⟨k265, hn265, hp⟩ := hp
            refine xJ_callSN (As := [_, _]) hX hB dX14_passes_265 ln_X14_105 sm_L_without (c_L_without hM243 hkb250 ⟨by decide, by decide⟩ hp) (by decide) rfl rfl rfl (Nat.le_of_ble_eq_true rfl) (by omega) (by omega) (fun v t265 M265 hv => ?_)
            clear hp
            obtain ⟨r265, rfl, hk265, hM265, hq265, hp⟩ := hv
            dsimp only [Option.toList, List.cons_append, List.nil_append]
            refine xJ_putRE (x := (some r265)) hX dX14_passes_268 fd_X14_27 ft_X14 rfl rfl rfl rfl (xke_k hq265 (xke_k hq246 (xke_k hq243 (xke_k hq215 hkx0 (by decide)) (by decide)) (by decide)) (by decide)) (fun t268 et268 hq268 => ?_)
            replace hp := hp t268 et268
            refine xJ_fg 1 ?_
            dsimp only [List.set]
            refine xJ_fg 7 ?_
            dsimp only [List.set]
            exact l271 _ _ _ _ _ _ _ _ _ (by omega) (by omega) hM265 (xke_trans (xke_trans (xke_trans (xke_trans (xke_trans hqE hq215) hq243) hq246) hq265) hq268) (xke_k hq268 (xke_k hq265 (xke_k hq246 (xke_k hq243 (xke_k hq215 hkx0 (by decide)) (by decide)) (by decide)) (by decide)) (by decide)) hx2 (xke_k hq268 (xke_k hq265 (xke_k hq246 (xke_k hq243 (xke_k hq215 hkx3 (by decide)) (by decide)) (by decide)) (by decide)) (by decide)) hx6 hp
        refine xJ_ifnonnullO hX dX14_passes_132 (tgt := 142) (by decide) (fun e132 => ?_) (fun b132 e132 => ?_)
        · replace hp := hp.1 e132
          refine xJ_aload_n hX dX14_passes_135 rfl ?_
          refine xJ_iconst hX dX14_passes_136 ?_
          obtain ⟨h137, hp⟩ := hp
          refine xJ_iald hX dX14_passes_137 hkx3 h137.1 h137.2 ?_
          refine xJ_i2l hX dX14_passes_138 (hM125 _ _) ?_
          refine xJ_goto hX dX14_passes_139 (tgt := 183) (by decide) ?_
          refine xJ_fg 4 ?_
          dsimp only [List.set]
          refine xJ_fg 5 ?_
          dsimp only [List.set]
          exact l183 _ _ _ _ _ _ _ _ _ _ _ (by omega) (by omega) hM125 hqE hkx0 hx1 hx2 hkx3 (xR_max ⟨by decide, by decide⟩ h85) (xRl_of (hM125 _ _)) hp
        · replace hp := hp.2 b132 e132
          have hkb132 := hk129 b132 e132
          refine xJ_aload_n hX dX14_passes_142 rfl ?_
          refine xJ_getR (b := b132) hX dX14_passes_143 fd_X14_60 rfl hkx0 e132 ?_
          refine xJ_iconst hX dX14_passes_146 ?_
          obtain ⟨hn147, hp⟩ := hp
          refine xJ_newJE hX hB hM125 dX14_passes_147 ac_long (by decide) (by decide) (by omega) (by omega) (fun a147 t147 M147 ea147 et147 e147 hM147 hq147 hka147 => ?_)
          replace hp := hp a147 t147 M147 ea147 et147 e147
          refine xJ_dup hX dX14_passes_149 rfl ?_
          refine xJ_iconst hX dX14_passes_150 ?_
          refine xJ_aload_n hX dX14_passes_151 rfl ?_
          refine xJ_iconst hX dX14_passes_152 ?_
          obtain ⟨h153, hp⟩ := hp
          refine xJ_iald hX dX14_passes_153 (xke_k hq147 hkx3 (by decide)) h153.1 h153.2 ?_
          refine xJ_i2l hX dX14_passes_154 (hM147 _ _) ?_
          obtain ⟨h155, hp⟩ := hp
          obtain ⟨h155v, hp⟩ := hp
          refine xJ_lastM hX dX14_passes_155 hka147 h155.1 h155.2 hM147 h155v (fun M155 e155 hM155 => ?_)
          replace hp := hp M155 e155
          refine xJ_dup hX dX14_passes_156 rfl ?_
          refine xJ_iconst hX dX14_passes_157 ?_
          refine xJ_iload_n hX dX14_passes_158 rfl ?_
          refine xJ_i2l hX dX14_passes_159 hx1 ?_
          obtain ⟨h160, hp⟩ := hp
          obtain ⟨h160v, hp⟩ := hp
          refine xJ_lastM hX dX14_passes_160 hka147 h160.1 h160.2 hM155 h160v (fun M160 e160 hM160 => ?_)
          replace hp := hp M160 e160
          refine xJ_dup hX dX14_passes_161 rfl ?_
          refine xJ_iconst hX dX14_passes_162 ?_
          refine xJ_iload hX dX14_passes_163 rfl ?_
          refine xJ_i2l hX dX14_passes_165 (xR_max ⟨by decide, by decide⟩ h85) ?_
          obtain ⟨h166, hp⟩ := hp
          obtain ⟨h166v, hp⟩ := hp
          refine xJ_lastM hX dX14_passes_166 hka147 h166.1 h166.2 hM160 h166v (fun M166 e166 hM166 => ?_)
          replace hp := hp M166 e166
          refine xJ_dup hX dX14_passes_167 rfl ?_
          refine xJ_iconst hX dX14_passes_168 ?_
          refine xJ_aload_n hX dX14_passes_169 rfl ?_
          refine xJ_getI hX dX14_passes_170 fd_X14_45 rfl (xke_k hq147 hkx0 (by decide)) ?_
          refine xJ_aload_n hX dX14_passes_173 rfl ?_
          refine xJ_bipush hX dX14_passes_174 rfl ?_
          obtain ⟨h176, hp⟩ := hp
          refine xJ_iald hX dX14_passes_176 (xke_k hq147 hkx3 (by decide)) h176.1 h176.2 ?_
          refine xJ_isub hX dX14_passes_177 ?_
          obtain ⟨h177, hp⟩ := hp
          refine xJ_i2l hX dX14_passes_178 h177 ?_
          obtain ⟨h179, hp⟩ := hp
          obtain ⟨h179v, hp⟩ := hp
          refine xJ_lastM hX dX14_passes_179 hka147 h179.1 h179.2 hM166 h179v (fun M179 e179 hM179 => ?_)
          replace hp := hp M179 e179
          obtain ⟨k180, hn180, hp⟩ := hp
          refine xJ_callV (As := [_]) hX hB dX14_passes_180 lk_X14_92 im_X12_value se_X12_value rfl (by decide) (xke_k hq147 hkb132 (by decide)) (c_X12_valueR 3 hM179 (xke_k hq147 hkb132 (by decide)) hka147 hp) (by decide) rfl rfl rfl (Nat.le_of_ble_eq_true rfl) (by omega) (by omega) (fun v t180 M180 hv => ?_) (fun _ _ _ q => q.elim)
          clear hp
          obtain ⟨r180, rfl, h180, hM180, hq180, hp⟩ := hv
          dsimp only [Option.toList, List.cons_append, List.nil_append]
          refine xJ_fg 4 ?_
          dsimp only [List.set]
          refine xJ_fg 5 ?_
          dsimp only [List.set]
          exact l183 _ _ _ _ _ _ _ _ _ _ _ (by omega) (by omega) hM180 (xke_trans (xke_trans hqE hq147) hq180) (xke_k hq180 (xke_k hq147 hkx0 (by decide)) (by decide)) hx1 hx2 (xke_k hq180 (xke_k hq147 hkx3 (by decide)) (by decide)) (xR_max ⟨by decide, by decide⟩ h85) h180 hp
      · replace hp := hp.2 c69
        refine xJ_iload hX dX14_passes_72 rfl ?_
        refine xJ_if_ne hX dX14_passes_74 (tgt := 79) (by decide) hy0 (fun c74 => ?_) (fun c74 => ?_)
        · replace hp := hp.1 c74
          refine xJ_iconst hX dX14_passes_79 ?_
          refine xJ_aload_n hX dX14_passes_80 rfl ?_
          refine xJ_iconst hX dX14_passes_81 ?_
          obtain ⟨h82, hp⟩ := hp
          refine xJ_iald hX dX14_passes_82 hkx3 h82.1 h82.2 ?_
          refine xJ_iload hX dX14_passes_83 rfl ?_
          refine xJ_isub hX dX14_passes_85 ?_
          obtain ⟨h85, hp⟩ := hp
          refine xJ_mmax hX hB dX14_passes_86 lj_X14_89 jw_max_st jw_ma_in jw_max_co rfl (by decide) (Nat.le_of_ble_eq_true rfl) (by omega) (by omega) ⟨by decide, by decide⟩ h85 ?_
          refine xJ_istore hX dX14_passes_89 (Nat.le_of_ble_eq_true rfl) rfl ?_
          dsimp only [List.set]
          replace hp := hp _ rfl
          refine xJ_aload_n hX dX14_passes_91 rfl ?_
          obtain ⟨b92, e92, hkb92, hp⟩ := hp
          refine xJ_getR (b := b92) hX dX14_passes_92 fd_X14_31 rfl hkx0 e92 ?_
          refine xJ_iload_n hX dX14_passes_95 rfl ?_
          obtain ⟨h96, hp⟩ := hp
          obtain ⟨b96, e96, hkb96, hp⟩ := hp
          refine xJ_aaldOb hX dX14_passes_96 hkb92 h96.1 h96.2 e96 ?_
          refine xJ_iload_n hX dX14_passes_97 rfl ?_
          refine xJ_iconst hX dX14_passes_98 ?_
          refine xJ_iload hX dX14_passes_99 rfl ?_
          refine xJ_aload_n hX dX14_passes_101 rfl ?_
          refine xJ_iconst hX dX14_passes_102 ?_
          obtain ⟨h103, hp⟩ := hp
          refine xJ_iald hX dX14_passes_103 hkx3 h103.1 h103.2 ?_
          refine xJ_isub hX dX14_passes_104 ?_
          obtain ⟨h104, hp⟩ := hp
          refine xJ_mmax hX hB dX14_passes_105 lj_X14_89 jw_max_st jw_ma_in jw_max_co rfl (by decide) (Nat.le_of_ble_eq_true rfl) (by omega) (by omega) ⟨by decide, by decide⟩ h104 ?_
          obtain ⟨h108, hp⟩ := hp
          refine xJ_iastM hX dX14_passes_108 hkb96 h108.1 h108.2 hM (xR_max ⟨by decide, by decide⟩ h104) (fun M108 e108 hM108 => ?_)
          replace hp := hp M108 e108
          refine xJ_aload_n hX dX14_passes_109 rfl ?_
          refine xJ_iconst hX dX14_passes_110 ?_
          refine xJ_dup2 hX dX14_passes_111 rfl rfl ?_
          obtain ⟨h112, hp⟩ := hp
          refine xJ_iald hX dX14_passes_112 hkx3 h112.1 h112.2 ?_
          refine xJ_iload hX dX14_passes_113 rfl ?_
          refine xJ_iadd hX dX14_passes_115 ?_
          obtain ⟨h115, hp⟩ := hp
          obtain ⟨h116, hp⟩ := hp
          refine xJ_iastM hX dX14_passes_116 hkx3 h116.1 h116.2 hM108 h115 (fun M116 e116 hM116 => ?_)
          replace hp := hp M116 e116
          refine xJ_aload_n hX dX14_passes_117 rfl ?_
          refine xJ_dup hX dX14_passes_118 rfl ?_
          refine xJ_getI hX dX14_passes_119 fd_X14_57 rfl hkx0 ?_
          refine xJ_iload hX dX14_passes_122 rfl ?_
          refine xJ_iadd hX dX14_passes_124 ?_
          obtain ⟨h124, hp⟩ := hp
          refine xJ_putIM hX dX14_passes_125 fd_X14_57 ft_X14 rfl rfl rfl rfl hkx0 hM116 h124 (fun M125 e125 hM125 => ?_)
          replace hp := hp M125 e125
          refine xJ_aload_n hX dX14_passes_128 rfl ?_
          refine xJ_getO hX dX14_passes_129 fd_X14_60 rfl hkx0 ?_
          obtain ⟨hk129, hp⟩ := hp
          have l183 : ∀ (c s n : Nat) (x0 : Nat) (x1 : Int) (x2 : Int) (x3 : Nat) (x6 : Int) (y0 : Int) (t : xTh) (M : xMe) (hc : c + n ≤ nE) (hs : s + 64 * n ≤ 64 * nE) (hM : xMR M) (hqE : xke tE t) (hkx0 : xk t x0 = 20) (hx1 : xR x1) (hx2 : xR x2) (hkx3 : xk t x3 = 14) (hx6 : xR x6) (hy0 : xRl y0) (hp : p_X14_passes_183 F Q n x0 x1 x2 x3 x6 y0 t M), xJ X c s t M 183 [vr x0, vi x1, vi x2, vr x3, vU, vU, vi x6, vU, vU, vU, vU, vU] [vl y0] := by
            intro c s n x0 x1 x2 x3 x6 y0 t M hc hs hM hqE hkx0 hx1 hx2 hkx3 hx6 hy0 hp
            unfold p_X14_passes_183 at hp
            refine xJ_lstore hX dX14_passes_183 (Nat.le_of_ble_eq_true rfl) rfl ?_
            dsimp only [List.set]
            refine xJ_aload_n hX dX14_passes_185 rfl ?_
            obtain ⟨b186, e186, hkb186, hp⟩ := hp
            refine xJ_getR (b := b186) hX dX14_passes_186 fd_X14_15 rfl hkx0 e186 ?_
            refine xJ_iload_n hX dX14_passes_189 rfl ?_
            obtain ⟨h190, hp⟩ := hp
            obtain ⟨b190, e190, hkb190, hp⟩ := hp
            refine xJ_aaldOb hX dX14_passes_190 hkb186 h190.1 h190.2 e190 ?_
            refine xJ_iconst hX dX14_passes_191 ?_
            refine xJ_dup2 hX dX14_passes_192 rfl rfl ?_
            obtain ⟨h193, hp⟩ := hp
            refine xJ_iald hX dX14_passes_193 hkb190 h193.1 h193.2 ?_
            refine xJ_lconst hX dX14_passes_194 ?_
            refine xJ_ldc2 (9999) hX dX14_passes_195 kc_X14_98 ?_
            refine xJ_lload hX dX14_passes_198 rfl ?_
            refine xJ_mminL hX hB dX14_passes_200 lj_X14_100 jw_minL_st jw_ma_in jw_minL_co rfl (by decide) (Nat.le_of_ble_eq_true rfl) (by omega) (by omega) ⟨by decide, by decide⟩ hy0 ?_
            refine xJ_mmaxL hX hB dX14_passes_203 lj_X14_103 jw_maxL_st jw_ma_in jw_maxL_co rfl (by decide) (Nat.le_of_ble_eq_true rfl) (by omega) (by omega) ⟨by decide, by decide⟩ (xRl_min ⟨by decide, by decide⟩ hy0) ?_
            obtain ⟨h206, hp⟩ := hp
            refine xJ_l2i hX dX14_passes_206 ?_
            refine xJ_iadd hX dX14_passes_207 ?_
            obtain ⟨h207, hp⟩ := hp
            obtain ⟨h208, hp⟩ := hp
            refine xJ_iastM hX dX14_passes_208 hkb190 h208.1 h208.2 hM h207 (fun M208 e208 hM208 => ?_)
            replace hp := hp M208 e208
            refine xJ_aload_n hX dX14_passes_209 rfl ?_
            refine xJ_aload_n hX dX14_passes_210 rfl ?_
            obtain ⟨b211, e211, hkb211, hp⟩ := hp
            refine xJ_getR (b := b211) hX dX14_passes_211 fd_X14_27 rfl hkx0 e211 ?_
            refine xJ_iconst hX dX14_passes_214 ?_
            obtain ⟨hn215, hp⟩ := hp
            refine xJ_newIE hX hB hM208 dX14_passes_215 ac_int (by decide) (by decide) (by omega) (by omega) (fun a215 t215 M215 ea215 et215 e215 hM215 hq215 hka215 => ?_)
            replace hp := hp a215 t215 M215 ea215 et215 e215
            refine xJ_dup hX dX14_passes_217 rfl ?_
            refine xJ_iconst hX dX14_passes_218 ?_
            refine xJ_aload_n hX dX14_passes_219 rfl ?_
            refine xJ_getI hX dX14_passes_220 fd_X14_45 rfl (xke_k hq215 hkx0 (by decide)) ?_
            obtain ⟨h223, hp⟩ := hp
            refine xJ_iastM hX dX14_passes_223 hka215 h223.1 h223.2 hM215 (hM215 _ _) (fun M223 e223 hM223 => ?_)
            replace hp := hp M223 e223
            refine xJ_dup hX dX14_passes_224 rfl ?_
            refine xJ_iconst hX dX14_passes_225 ?_
            refine xJ_iload_n hX dX14_passes_226 rfl ?_
            obtain ⟨h227, hp⟩ := hp
            refine xJ_iastM hX dX14_passes_227 hka215 h227.1 h227.2 hM223 hx1 (fun M227 e227 hM227 => ?_)
            replace hp := hp M227 e227
            refine xJ_dup hX dX14_passes_228 rfl ?_
            refine xJ_iconst hX dX14_passes_229 ?_
            refine xJ_iload_n hX dX14_passes_230 rfl ?_
            obtain ⟨h231, hp⟩ := hp
            refine xJ_iastM hX dX14_passes_231 hka215 h231.1 h231.2 hM227 hx2 (fun M231 e231 hM231 => ?_)
            replace hp := hp M231 e231
            refine xJ_dup hX dX14_passes_232 rfl ?_
            refine xJ_iconst hX dX14_passes_233 ?_
            refine xJ_aload_n hX dX14_passes_234 rfl ?_
            refine xJ_iconst hX dX14_passes_235 ?_
            obtain ⟨h236, hp⟩ := hp
            refine xJ_iald hX dX14_passes_236 (xke_k hq215 hkx3 (by decide)) h236.1 h236.2 ?_
            obtain ⟨h237, hp⟩ := hp
            refine xJ_iastM hX dX14_passes_237 hka215 h237.1 h237.2 hM231 (hM231 _ _) (fun M237 e237 hM237 => ?_)
            replace hp := hp M237 e237
            refine xJ_dup hX dX14_passes_238 rfl ?_
            refine xJ_iconst hX dX14_passes_239 ?_
            refine xJ_iload hX dX14_passes_240 rfl ?_
            obtain ⟨h242, hp⟩ := hp
            refine xJ_iastM hX dX14_passes_242 hka215 h242.1 h242.2 hM237 hx6 (fun M242 e242 hM242 => ?_)
            replace hp := hp M242 e242
            obtain ⟨k243, hn243, hp⟩ := hp
            refine xJ_callSN (As := [_, _]) hX hB dX14_passes_243 ln_X14_77 sm_L_with (c_L_with hM242 (xke_k hq215 hkb211 (by decide)) hka215 hp) (by decide) rfl rfl rfl (Nat.le_of_ble_eq_true rfl) (by omega) (by omega) (fun v t243 M243 hv => ?_)
            clear hp
            obtain ⟨r243, rfl, hk243, hM243, hq243, hp⟩ := hv
            dsimp only [Option.toList, List.cons_append, List.nil_append]
            refine xJ_putRE (x := (some r243)) hX dX14_passes_246 fd_X14_27 ft_X14 rfl rfl rfl rfl (xke_k hq243 (xke_k hq215 hkx0 (by decide)) (by decide)) (fun t246 et246 hq246 => ?_)
            replace hp := hp t246 et246
            refine xJ_aload_n hX dX14_passes_249 rfl ?_
            obtain ⟨b250, e250, hkb250, hp⟩ := hp
            refine xJ_getR (b := b250) hX dX14_passes_250 fd_X14_27 rfl (xke_k hq246 (xke_k hq243 (xke_k hq215 hkx0 (by decide)) (by decide)) (by decide)) e250 ?_
            refine xJ_alen hX dX14_passes_253 (by rw [hkb250]; decide) (by rw [hkb250]; decide) ?_
            obtain ⟨h253, hp⟩ := hp
            refine xJ_bipush hX dX14_passes_254 rfl ?_
            have l271 : ∀ (c s n : Nat) (x0 : Nat) (x2 : Int) (x3 : Nat) (x6 : Int) (t : xTh) (M : xMe) (hc : c + n ≤ nE) (hs : s + 64 * n ≤ 64 * nE) (hM : xMR M) (hqE : xke tE t) (hkx0 : xk t x0 = 20) (hx2 : xR x2) (hkx3 : xk t x3 = 14) (hx6 : xR x6) (hp : p_X14_passes_271 F Q n x0 x2 x3 x6 t M), xJ X c s t M 271 [vr x0, vU, vi x2, vr x3, vU, vU, vi x6, vU, vU, vU, vU, vU] [] := by
              intro c s n x0 x2 x3 x6 t M hc hs hM hqE hkx0 hx2 hkx3 hx6 hp
              unfold p_X14_passes_271 at hp
              refine xJ_iload hX dX14_passes_271 rfl ?_
              refine xJ_istore hX dX14_passes_273 (Nat.le_of_ble_eq_true rfl) rfl ?_
              dsimp only [List.set]
              have l410 : ∀ (c s n : Nat) (x0 : Nat) (x2 : Int) (x3 : Nat) (t : xTh) (M : xMe) (hc : c + n ≤ nE) (hs : s + 64 * n ≤ 64 * nE) (hM : xMR M) (hqE : xke tE t) (hkx0 : xk t x0 = 20) (hx2 : xR x2) (hkx3 : xk t x3 = 14) (hp : p_X14_passes_410 F Q n x0 x2 x3 t M), xJ X c s t M 410 [vr x0, vU, vi x2, vr x3, vU, vU, vU, vU, vU, vU, vU, vU] [] := by
                intro c s n x0 x2 x3 t M hc hs hM hqE hkx0 hx2 hkx3 hp
                unfold p_X14_passes_410 at hp
                refine xJ_aload_n hX dX14_passes_410 rfl ?_
                refine xJ_iconst hX dX14_passes_411 ?_
                refine xJ_dup2 hX dX14_passes_412 rfl rfl ?_
                obtain ⟨h413, hp⟩ := hp
                refine xJ_iald hX dX14_passes_413 hkx3 h413.1 h413.2 ?_
                refine xJ_iconst hX dX14_passes_414 ?_
                refine xJ_iadd hX dX14_passes_415 ?_
                obtain ⟨h415, hp⟩ := hp
                obtain ⟨h416, hp⟩ := hp
                refine xJ_iastM hX dX14_passes_416 hkx3 h416.1 h416.2 hM h415 (fun M416 e416 hM416 => ?_)
                replace hp := hp M416 e416
                refine xJ_aload_n hX dX14_passes_417 rfl ?_
                refine xJ_iconst hX dX14_passes_418 ?_
                refine xJ_iconst hX dX14_passes_419 ?_
                obtain ⟨h420, hp⟩ := hp
                refine xJ_iastM hX dX14_passes_420 hkx3 h420.1 h420.2 hM416 ⟨by decide, by decide⟩ (fun M420 e420 hM420 => ?_)
                replace hp := hp M420 e420
                refine xJ_aload_n hX dX14_passes_421 rfl ?_
                refine xJ_iconst hX dX14_passes_422 ?_
                obtain ⟨h423, hp⟩ := hp
                refine xJ_iald hX dX14_passes_423 hkx3 h423.1 h423.2 ?_
                refine xJ_aload_n hX dX14_passes_424 rfl ?_
                obtain ⟨b425, e425, hkb425, hp⟩ := hp
                refine xJ_getR (b := b425) hX dX14_passes_425 fd_X14_18 rfl hkx0 e425 ?_
                refine xJ_iload_n hX dX14_passes_428 rfl ?_
                obtain ⟨h429, hp⟩ := hp
                obtain ⟨b429, e429, hkb429, hp⟩ := hp
                refine xJ_aaldOb hX dX14_passes_429 hkb425 h429.1 h429.2 e429 ?_
                refine xJ_alen hX dX14_passes_430 (by rw [hkb429]; decide) (by rw [hkb429]; decide) ?_
                obtain ⟨h430, hp⟩ := hp
                refine xJ_icmp_ne hX dX14_passes_431 (tgt := 460) (by decide) (hM420 _ _) h430 (fun c431 => ?_) (fun c431 => ?_)
                · replace hp := hp.1 c431
                  refine xJ_iconst hX dX14_passes_460 ?_
                  exact xJ_zret hX hB dX14_passes_461 rfl (by omega) (by omega) ⟨_, rfl, ⟨by decide, by decide⟩, hM420, hqE, hp⟩
                · replace hp := hp.2 c431
                  refine xJ_aload_n hX dX14_passes_434 rfl ?_
                  refine xJ_iconst hX dX14_passes_435 ?_
                  refine xJ_iconst hX dX14_passes_436 ?_
                  obtain ⟨h437, hp⟩ := hp
                  refine xJ_iastM hX dX14_passes_437 hkx3 h437.1 h437.2 hM420 ⟨by decide, by decide⟩ (fun M437 e437 hM437 => ?_)
                  replace hp := hp M437 e437
                  refine xJ_aload_n hX dX14_passes_438 rfl ?_
                  refine xJ_bipush hX dX14_passes_439 rfl ?_
                  refine xJ_aload_n hX dX14_passes_441 rfl ?_
                  refine xJ_getI hX dX14_passes_442 fd_X14_45 rfl hkx0 ?_
                  obtain ⟨h445, hp⟩ := hp
                  refine xJ_iastM hX dX14_passes_445 hkx3 h445.1 h445.2 hM437 (hM437 _ _) (fun M445 e445 hM445 => ?_)
                  replace hp := hp M445 e445
                  refine xJ_aload_n hX dX14_passes_446 rfl ?_
                  obtain ⟨b447, e447, hkb447, hp⟩ := hp
                  refine xJ_getR (b := b447) hX dX14_passes_447 fd_X14_15 rfl hkx0 e447 ?_
                  refine xJ_iload_n hX dX14_passes_450 rfl ?_
                  obtain ⟨h451, hp⟩ := hp
                  obtain ⟨b451, e451, hkb451, hp⟩ := hp
                  refine xJ_aaldOb hX dX14_passes_451 hkb447 h451.1 h451.2 e451 ?_
                  refine xJ_iconst hX dX14_passes_452 ?_
                  refine xJ_dup2 hX dX14_passes_453 rfl rfl ?_
                  obtain ⟨h454, hp⟩ := hp
                  refine xJ_iald hX dX14_passes_454 hkb451 h454.1 h454.2 ?_
                  refine xJ_aload_n hX dX14_passes_455 rfl ?_
                  refine xJ_iconst hX dX14_passes_456 ?_
                  obtain ⟨h457, hp⟩ := hp
                  refine xJ_iald hX dX14_passes_457 hkx3 h457.1 h457.2 ?_
                  refine xJ_iadd hX dX14_passes_458 ?_
                  obtain ⟨h458, hp⟩ := hp
                  obtain ⟨h459, hp⟩ := hp
                  refine xJ_iastM hX dX14_passes_459 hkb451 h459.1 h459.2 hM445 h458 (fun M459 e459 hM459 => ?_)
                  replace hp := hp M459 e459
                  refine xJ_iconst hX dX14_passes_460 ?_
                  exact xJ_zret hX hB dX14_passes_461 rfl (by omega) (by omega) ⟨_, rfl, ⟨by decide, by decide⟩, hM459, hqE, hp⟩
              have l275 : ∀ (k275 : Nat) (c s n : Nat) (x0 : Nat) (x2 : Int) (x3 : Nat) (x9 : Int) (t : xTh) (M : xMe) (hc : c + n ≤ nE) (hs : s + 64 * n ≤ 64 * nE) (hM : xMR M) (hqE : xke tE t) (hkx0 : xk t x0 = 20) (hx2 : xR x2) (hkx3 : xk t x3 = 14) (hx9 : xR x9) (hp : p_X14_passes_275 F Q (p_X14_passes_410 F Q) k275 n x0 x2 x3 x9 t M), xJ X c s t M 275 [vr x0, vU, vi x2, vr x3, vU, vU, vU, vU, vU, vi x9, vU, vU] [] := by
                intro k275
                induction k275 with
                | zero => intro c s n x0 x2 x3 x9 t M hc hs hM hqE hkx0 hx2 hkx3 hx9 hp; exact hp.elim
                | succ k275 ih275 =>
                  intro c s n x0 x2 x3 x9 t M hc hs hM hqE hkx0 hx2 hkx3 hx9 hp
                  unfold p_X14_passes_275 at hp
                  refine xJ_iload hX dX14_passes_275 rfl ?_
                  refine xJ_if_le hX dX14_passes_277 (tgt := 410) (by decide) hx9 (fun c277 => ?_) (fun c277 => ?_)
                  · replace hp := hp.1 c277
                    refine xJ_fg 9 ?_
                    dsimp only [List.set]
                    exact l410 _ _ _ _ _ _ _ _ (by omega) (by omega) hM hqE hkx0 hx2 hkx3 hp
                  · replace hp := hp.2 c277
                    refine xJ_iconst hX dX14_passes_280 ?_
                    refine xJ_istore hX dX14_passes_281 (Nat.le_of_ble_eq_true rfl) rfl ?_
                    dsimp only [List.set]
                    refine xJ_iconst hX dX14_passes_283 ?_
                    refine xJ_istore hX dX14_passes_284 (Nat.le_of_ble_eq_true rfl) rfl ?_
                    dsimp only [List.set]
                    have l345 : ∀ (c s n : Nat) (x0 : Nat) (x2 : Int) (x3 : Nat) (x9 : Int) (x10 : Int) (t : xTh) (M : xMe) (hc : c + n ≤ nE) (hs : s + 64 * n ≤ 64 * nE) (hM : xMR M) (hqE : xke tE t) (hkx0 : xk t x0 = 20) (hx2 : xR x2) (hkx3 : xk t x3 = 14) (hx9 : xR x9) (hx10 : xR x10) (hp : p_X14_passes_345 F Q (p_X14_passes_275 F Q (p_X14_passes_410 F Q) k275) (p_X14_passes_410 F Q) n x0 x2 x3 x9 x10 t M), xJ X c s t M 345 [vr x0, vU, vi x2, vr x3, vU, vU, vU, vU, vU, vi x9, vi x10, vU] [] := by
                      intro c s n x0 x2 x3 x9 x10 t M hc hs hM hqE hkx0 hx2 hkx3 hx9 hx10 hp
                      unfold p_X14_passes_345 at hp
                      refine xJ_iload hX dX14_passes_345 rfl ?_
                      refine xJ_aload_n hX dX14_passes_347 rfl ?_
                      obtain ⟨b348, e348, hkb348, hp⟩ := hp
                      refine xJ_getR (b := b348) hX dX14_passes_348 fd_X14_24 rfl hkx0 e348 ?_
                      refine xJ_iload hX dX14_passes_351 rfl ?_
                      obtain ⟨h353, hp⟩ := hp
                      obtain ⟨b353, e353, hkb353, hp⟩ := hp
                      refine xJ_aaldOb hX dX14_passes_353 hkb348 h353.1 h353.2 e353 ?_
                      refine xJ_iconst hX dX14_passes_354 ?_
                      obtain ⟨h355, hp⟩ := hp
                      refine xJ_iald hX dX14_passes_355 hkb353 h355.1 h355.2 ?_
                      refine xJ_mmin hX hB dX14_passes_356 lj_X14_72 jw_min_st jw_ma_in jw_min_co rfl (by decide) (Nat.le_of_ble_eq_true rfl) (by omega) (by omega) hx9 (hM _ _) ?_
                      refine xJ_istore hX dX14_passes_359 (Nat.le_of_ble_eq_true rfl) rfl ?_
                      dsimp only [List.set]
                      replace hp := hp _ rfl
                      refine xJ_iload hX dX14_passes_361 rfl ?_
                      refine xJ_iload hX dX14_passes_363 rfl ?_
                      refine xJ_isub hX dX14_passes_365 ?_
                      obtain ⟨h365, hp⟩ := hp
                      refine xJ_istore hX dX14_passes_366 (Nat.le_of_ble_eq_true rfl) rfl ?_
                      dsimp only [List.set]
                      replace hp := hp _ rfl
                      refine xJ_aload_n hX dX14_passes_368 rfl ?_
                      refine xJ_getR (b := b348) hX dX14_passes_369 fd_X14_24 rfl hkx0 e348 ?_
                      refine xJ_iload hX dX14_passes_372 rfl ?_
                      obtain ⟨h374, hp⟩ := hp
                      obtain ⟨b374, e374, hkb374, hp⟩ := hp
                      refine xJ_aaldOb hX dX14_passes_374 hkb348 h374.1 h374.2 e374 ?_
                      refine xJ_iconst hX dX14_passes_375 ?_
                      refine xJ_dup2 hX dX14_passes_376 rfl rfl ?_
                      obtain ⟨h377, hp⟩ := hp
                      refine xJ_iald hX dX14_passes_377 hkb374 h377.1 h377.2 ?_
                      refine xJ_iload hX dX14_passes_378 rfl ?_
                      refine xJ_isub hX dX14_passes_380 ?_
                      obtain ⟨h380, hp⟩ := hp
                      obtain ⟨h381, hp⟩ := hp
                      refine xJ_iastM hX dX14_passes_381 hkb374 h381.1 h381.2 hM h380 (fun M381 e381 hM381 => ?_)
                      replace hp := hp M381 e381
                      refine xJ_aload_n hX dX14_passes_382 rfl ?_
                      refine xJ_getR (b := b348) hX dX14_passes_383 fd_X14_24 rfl hkx0 e348 ?_
                      refine xJ_iload hX dX14_passes_386 rfl ?_
                      obtain ⟨h388, hp⟩ := hp
                      obtain ⟨b388, e388, hkb388, hp⟩ := hp
                      refine xJ_aaldOb hX dX14_passes_388 hkb348 h388.1 h388.2 e388 ?_
                      refine xJ_iconst hX dX14_passes_389 ?_
                      obtain ⟨h390, hp⟩ := hp
                      refine xJ_iald hX dX14_passes_390 hkb388 h390.1 h390.2 ?_
                      refine xJ_if_ne hX dX14_passes_391 (tgt := 407) (by decide) (hM381 _ _) (fun c391 => ?_) (fun c391 => ?_)
                      · replace hp := hp.1 c391
                        refine xJ_goto hX dX14_passes_407 (tgt := 275) (by decide) ?_
                        refine xJ_fg 10 ?_
                        dsimp only [List.set]
                        refine xJ_fg 11 ?_
                        dsimp only [List.set]
                        exact ih275 _ _ _ _ _ _ _ _ _ (by omega) (by omega) hM381 hqE hkx0 hx2 hkx3 h365 hp
                      · replace hp := hp.2 c391
                        refine xJ_aload_n hX dX14_passes_394 rfl ?_
                        refine xJ_aload_n hX dX14_passes_395 rfl ?_
                        refine xJ_getR (b := b348) hX dX14_passes_396 fd_X14_24 rfl hkx0 e348 ?_
                        refine xJ_iload hX dX14_passes_399 rfl ?_
                        obtain ⟨k401, hn401, hp⟩ := hp
                        refine xJ_callSN (As := [_, _]) hX hB dX14_passes_401 ln_X14_105 sm_L_without (c_L_without hM381 hkb348 hx10 hp) (by decide) rfl rfl rfl (Nat.le_of_ble_eq_true rfl) (by omega) (by omega) (fun v t401 M401 hv => ?_)
                        clear hp
                        obtain ⟨r401, rfl, hk401, hM401, hq401, hp⟩ := hv
                        dsimp only [Option.toList, List.cons_append, List.nil_append]
                        refine xJ_putRE (x := (some r401)) hX dX14_passes_404 fd_X14_24 ft_X14 rfl rfl rfl rfl (xke_k hq401 hkx0 (by decide)) (fun t404 et404 hq404 => ?_)
                        replace hp := hp t404 et404
                        refine xJ_goto hX dX14_passes_407 (tgt := 275) (by decide) ?_
                        refine xJ_fg 10 ?_
                        dsimp only [List.set]
                        refine xJ_fg 11 ?_
                        dsimp only [List.set]
                        exact ih275 _ _ _ _ _ _ _ _ _ (by omega) (by omega) hM401 (xke_trans (xke_trans hqE hq401) hq404) (xke_k hq404 (xke_k hq401 hkx0 (by decide)) (by decide)) hx2 (xke_k hq404 (xke_k hq401 hkx3 (by decide)) (by decide)) h365 hp
                    have l286 : ∀ (k286 : Nat) (c s n : Nat) (x0 : Nat) (x2 : Int) (x3 : Nat) (x9 : Int) (x10 : Int) (x11 : Int) (t : xTh) (M : xMe) (hc : c + n ≤ nE) (hs : s + 64 * n ≤ 64 * nE) (hM : xMR M) (hqE : xke tE t) (hkx0 : xk t x0 = 20) (hx2 : xR x2) (hkx3 : xk t x3 = 14) (hx9 : xR x9) (hx10 : xR x10) (hx11 : xR x11) (hp : p_X14_passes_286 F Q (p_X14_passes_275 F Q (p_X14_passes_410 F Q) k275) (p_X14_passes_345 F Q (p_X14_passes_275 F Q (p_X14_passes_410 F Q) k275) (p_X14_passes_410 F Q)) (p_X14_passes_410 F Q) k286 n x0 x2 x3 x9 x10 x11 t M), xJ X c s t M 286 [vr x0, vU, vi x2, vr x3, vU, vU, vU, vU, vU, vi x9, vi x10, vi x11] [] := by
                      intro k286
                      induction k286 with
                      | zero => intro c s n x0 x2 x3 x9 x10 x11 t M hc hs hM hqE hkx0 hx2 hkx3 hx9 hx10 hx11 hp; exact hp.elim
                      | succ k286 ih286 =>
                        intro c s n x0 x2 x3 x9 x10 x11 t M hc hs hM hqE hkx0 hx2 hkx3 hx9 hx10 hx11 hp
                        unfold p_X14_passes_286 at hp
                        refine xJ_iload hX dX14_passes_286 rfl ?_
                        refine xJ_aload_n hX dX14_passes_288 rfl ?_
                        obtain ⟨b289, e289, hkb289, hp⟩ := hp
                        refine xJ_getR (b := b289) hX dX14_passes_289 fd_X14_24 rfl hkx0 e289 ?_
                        refine xJ_alen hX dX14_passes_292 (by rw [hkb289]; decide) (by rw [hkb289]; decide) ?_
                        obtain ⟨h292, hp⟩ := hp
                        refine xJ_icmp_ge hX dX14_passes_293 (tgt := 345) (by decide) hx11 h292 (fun c293 => ?_) (fun c293 => ?_)
                        · replace hp := hp.1 c293
                          refine xJ_fg 11 ?_
                          dsimp only [List.set]
                          exact l345 _ _ _ _ _ _ _ _ _ _ (by omega) (by omega) hM hqE hkx0 hx2 hkx3 hx9 hx10 hp
                        · replace hp := hp.2 c293
                          refine xJ_aload_n hX dX14_passes_296 rfl ?_
                          refine xJ_getR (b := b289) hX dX14_passes_297 fd_X14_24 rfl hkx0 e289 ?_
                          refine xJ_iload hX dX14_passes_300 rfl ?_
                          obtain ⟨h302, hp⟩ := hp
                          obtain ⟨b302, e302, hkb302, hp⟩ := hp
                          refine xJ_aaldOb hX dX14_passes_302 hkb289 h302.1 h302.2 e302 ?_
                          refine xJ_iconst hX dX14_passes_303 ?_
                          obtain ⟨h304, hp⟩ := hp
                          refine xJ_iald hX dX14_passes_304 hkb302 h304.1 h304.2 ?_
                          refine xJ_iload_n hX dX14_passes_305 rfl ?_
                          refine xJ_icmp_ne hX dX14_passes_306 (tgt := 339) (by decide) (hM _ _) hx2 (fun c306 => ?_) (fun c306 => ?_)
                          · replace hp := hp.1 c306
                            refine xJ_iinc hX dX14_passes_339 rfl rfl ?_
                            dsimp only [List.set]
                            obtain ⟨h339, hp⟩ := hp
                            refine xJ_goto hX dX14_passes_342 (tgt := 286) (by decide) ?_
                            exact ih286 _ _ _ _ _ _ _ _ _ _ _ (by omega) (by omega) hM hqE hkx0 hx2 hkx3 hx9 hx10 h339 hp
                          · replace hp := hp.2 c306
                            refine xJ_iload hX dX14_passes_309 rfl ?_
                            refine xJ_if_lt hX dX14_passes_311 (tgt := 335) (by decide) hx10 (fun c311 => ?_) (fun c311 => ?_)
                            · replace hp := hp.1 c311
                              refine xJ_iload hX dX14_passes_335 rfl ?_
                              refine xJ_istore hX dX14_passes_337 (Nat.le_of_ble_eq_true rfl) rfl ?_
                              dsimp only [List.set]
                              refine xJ_iinc hX dX14_passes_339 rfl rfl ?_
                              dsimp only [List.set]
                              obtain ⟨h339, hp⟩ := hp
                              refine xJ_goto hX dX14_passes_342 (tgt := 286) (by decide) ?_
                              exact ih286 _ _ _ _ _ _ _ _ _ _ _ (by omega) (by omega) hM hqE hkx0 hx2 hkx3 hx9 hx11 h339 hp
                            · replace hp := hp.2 c311
                              refine xJ_aload_n hX dX14_passes_314 rfl ?_
                              refine xJ_getR (b := b289) hX dX14_passes_315 fd_X14_24 rfl hkx0 e289 ?_
                              refine xJ_iload hX dX14_passes_318 rfl ?_
                              obtain ⟨h320, hp⟩ := hp
                              obtain ⟨b320, e320, hkb320, hp⟩ := hp
                              refine xJ_aaldOb hX dX14_passes_320 hkb289 h320.1 h320.2 e320 ?_
                              refine xJ_iconst hX dX14_passes_321 ?_
                              obtain ⟨h322, hp⟩ := hp
                              refine xJ_iald hX dX14_passes_322 hkb320 h322.1 h322.2 ?_
                              refine xJ_aload_n hX dX14_passes_323 rfl ?_
                              refine xJ_getR (b := b289) hX dX14_passes_324 fd_X14_24 rfl hkx0 e289 ?_
                              refine xJ_iload hX dX14_passes_327 rfl ?_
                              obtain ⟨h329, hp⟩ := hp
                              obtain ⟨b329, e329, hkb329, hp⟩ := hp
                              refine xJ_aaldOb hX dX14_passes_329 hkb289 h329.1 h329.2 e329 ?_
                              refine xJ_iconst hX dX14_passes_330 ?_
                              obtain ⟨h331, hp⟩ := hp
                              refine xJ_iald hX dX14_passes_331 hkb329 h331.1 h331.2 ?_
                              refine xJ_icmp_ge hX dX14_passes_332 (tgt := 339) (by decide) (hM _ _) (hM _ _) (fun c332 => ?_) (fun c332 => ?_)
                              · replace hp := hp.1 c332
                                refine xJ_iinc hX dX14_passes_339 rfl rfl ?_
                                dsimp only [List.set]
                                obtain ⟨h339, hp⟩ := hp
                                refine xJ_goto hX dX14_passes_342 (tgt := 286) (by decide) ?_
                                exact ih286 _ _ _ _ _ _ _ _ _ _ _ (by omega) (by omega) hM hqE hkx0 hx2 hkx3 hx9 hx10 h339 hp
                              · replace hp := hp.2 c332
                                refine xJ_iload hX dX14_passes_335 rfl ?_
                                refine xJ_istore hX dX14_passes_337 (Nat.le_of_ble_eq_true rfl) rfl ?_
                                dsimp only [List.set]
                                refine xJ_iinc hX dX14_passes_339 rfl rfl ?_
                                dsimp only [List.set]
                                obtain ⟨h339, hp⟩ := hp
                                refine xJ_goto hX dX14_passes_342 (tgt := 286) (by decide) ?_
                                exact ih286 _ _ _ _ _ _ _ _ _ _ _ (by omega) (by omega) hM hqE hkx0 hx2 hkx3 hx9 hx11 h339 hp
                    exact l286 F _ _ _ _ _ _ _ _ _ _ _ (by omega) (by omega) hM hqE hkx0 hx2 hkx3 hx9 ⟨by decide, by decide⟩ ⟨by decide, by decide⟩ hp
              refine xJ_fg 6 ?_
              dsimp only [List.set]
              exact l275 F _ _ _ _ _ _ _ _ _ (by omega) (by omega) hM hqE hkx0 hx2 hkx3 hx6 hp
            refine xJ_icmp_le hX dX14_passes_256 (tgt := 271) (by decide) h253 ⟨by decide, by decide⟩ (fun c256 => ?_) (fun c256 => ?_)
            · replace hp := hp.1 c256
              refine xJ_fg 1 ?_
              dsimp only [List.set]
              refine xJ_fg 7 ?_
              dsimp only [List.set]
              exact l271 _ _ _ _ _ _ _ _ _ (by omega) (by omega) hM243 (xke_trans (xke_trans (xke_trans hqE hq215) hq243) hq246) (xke_k hq246 (xke_k hq243 (xke_k hq215 hkx0 (by decide)) (by decide)) (by decide)) hx2 (xke_k hq246 (xke_k hq243 (xke_k hq215 hkx3 (by decide)) (by decide)) (by decide)) hx6 hp
            · replace hp := hp.2 c256
              refine xJ_aload_n hX dX14_passes_259 rfl ?_
              refine xJ_aload_n hX dX14_passes_260 rfl ?_
              refine xJ_getR (b := b250) hX dX14_passes_261 fd_X14_27 rfl (xke_k hq246 (xke_k hq243 (xke_k hq215 hkx0 (by decide)) (by decide)) (by decide)) e250 ?_
              refine xJ_iconst hX dX14_passes_264 ?_
              obtain ⟨k265, hn265, hp⟩ := hp
              refine xJ_callSN (As := [_, _]) hX hB dX14_passes_265 ln_X14_105 sm_L_without (c_L_without hM243 hkb250 ⟨by decide, by decide⟩ hp) (by decide) rfl rfl rfl (Nat.le_of_ble_eq_true rfl) (by omega) (by omega) (fun v t265 M265 hv => ?_)
              clear hp
              obtain ⟨r265, rfl, hk265, hM265, hq265, hp⟩ := hv
              dsimp only [Option.toList, List.cons_append, List.nil_append]
              refine xJ_putRE (x := (some r265)) hX dX14_passes_268 fd_X14_27 ft_X14 rfl rfl rfl rfl (xke_k hq265 (xke_k hq246 (xke_k hq243 (xke_k hq215 hkx0 (by decide)) (by decide)) (by decide)) (by decide)) (fun t268 et268 hq268 => ?_)
              replace hp := hp t268 et268
              refine xJ_fg 1 ?_
              dsimp only [List.set]
              refine xJ_fg 7 ?_
              dsimp only [List.set]
              exact l271 _ _ _ _ _ _ _ _ _ (by omega) (by omega) hM265 (xke_trans (xke_trans (xke_trans (xke_trans (xke_trans hqE hq215) hq243) hq246) hq265) hq268) (xke_k hq268 (xke_k hq265 (xke_k hq246 (xke_k hq243 (xke_k hq215 hkx0 (by decide)) (by decide)) (by decide)) (by decide)) (by decide)) hx2 (xke_k hq268 (xke_k hq265 (xke_k hq246 (xke_k hq243 (xke_k hq215 hkx3 (by decide)) (by decide)) (by decide)) (by decide)) (by decide)) hx6 hp
          refine xJ_ifnonnullO hX dX14_passes_132 (tgt := 142) (by decide) (fun e132 => ?_) (fun b132 e132 => ?_)
          · replace hp := hp.1 e132
            refine xJ_aload_n hX dX14_passes_135 rfl ?_
            refine xJ_iconst hX dX14_passes_136 ?_
            obtain ⟨h137, hp⟩ := hp
            refine xJ_iald hX dX14_passes_137 hkx3 h137.1 h137.2 ?_
            refine xJ_i2l hX dX14_passes_138 (hM125 _ _) ?_
            refine xJ_goto hX dX14_passes_139 (tgt := 183) (by decide) ?_
            refine xJ_fg 4 ?_
            dsimp only [List.set]
            refine xJ_fg 5 ?_
            dsimp only [List.set]
            exact l183 _ _ _ _ _ _ _ _ _ _ _ (by omega) (by omega) hM125 hqE hkx0 hx1 hx2 hkx3 (xR_max ⟨by decide, by decide⟩ h85) (xRl_of (hM125 _ _)) hp
          · replace hp := hp.2 b132 e132
            have hkb132 := hk129 b132 e132
            refine xJ_aload_n hX dX14_passes_142 rfl ?_
            refine xJ_getR (b := b132) hX dX14_passes_143 fd_X14_60 rfl hkx0 e132 ?_
            refine xJ_iconst hX dX14_passes_146 ?_
            obtain ⟨hn147, hp⟩ := hp
            refine xJ_newJE hX hB hM125 dX14_passes_147 ac_long (by decide) (by decide) (by omega) (by omega) (fun a147 t147 M147 ea147 et147 e147 hM147 hq147 hka147 => ?_)
            replace hp := hp a147 t147 M147 ea147 et147 e147
            refine xJ_dup hX dX14_passes_149 rfl ?_
            refine xJ_iconst hX dX14_passes_150 ?_
            refine xJ_aload_n hX dX14_passes_151 rfl ?_
            refine xJ_iconst hX dX14_passes_152 ?_
            obtain ⟨h153, hp⟩ := hp
            refine xJ_iald hX dX14_passes_153 (xke_k hq147 hkx3 (by decide)) h153.1 h153.2 ?_
            refine xJ_i2l hX dX14_passes_154 (hM147 _ _) ?_
            obtain ⟨h155, hp⟩ := hp
            obtain ⟨h155v, hp⟩ := hp
            refine xJ_lastM hX dX14_passes_155 hka147 h155.1 h155.2 hM147 h155v (fun M155 e155 hM155 => ?_)
            replace hp := hp M155 e155
            refine xJ_dup hX dX14_passes_156 rfl ?_
            refine xJ_iconst hX dX14_passes_157 ?_
            refine xJ_iload_n hX dX14_passes_158 rfl ?_
            refine xJ_i2l hX dX14_passes_159 hx1 ?_
            obtain ⟨h160, hp⟩ := hp
            obtain ⟨h160v, hp⟩ := hp
            refine xJ_lastM hX dX14_passes_160 hka147 h160.1 h160.2 hM155 h160v (fun M160 e160 hM160 => ?_)
            replace hp := hp M160 e160
            refine xJ_dup hX dX14_passes_161 rfl ?_
            refine xJ_iconst hX dX14_passes_162 ?_
            refine xJ_iload hX dX14_passes_163 rfl ?_
            refine xJ_i2l hX dX14_passes_165 (xR_max ⟨by decide, by decide⟩ h85) ?_
            obtain ⟨h166, hp⟩ := hp
            obtain ⟨h166v, hp⟩ := hp
            refine xJ_lastM hX dX14_passes_166 hka147 h166.1 h166.2 hM160 h166v (fun M166 e166 hM166 => ?_)
            replace hp := hp M166 e166
            refine xJ_dup hX dX14_passes_167 rfl ?_
            refine xJ_iconst hX dX14_passes_168 ?_
            refine xJ_aload_n hX dX14_passes_169 rfl ?_
            refine xJ_getI hX dX14_passes_170 fd_X14_45 rfl (xke_k hq147 hkx0 (by decide)) ?_
            refine xJ_aload_n hX dX14_passes_173 rfl ?_
            refine xJ_bipush hX dX14_passes_174 rfl ?_
            obtain ⟨h176, hp⟩ := hp
            refine xJ_iald hX dX14_passes_176 (xke_k hq147 hkx3 (by decide)) h176.1 h176.2 ?_
            refine xJ_isub hX dX14_passes_177 ?_
            obtain ⟨h177, hp⟩ := hp
            refine xJ_i2l hX dX14_passes_178 h177 ?_
            obtain ⟨h179, hp⟩ := hp
            obtain ⟨h179v, hp⟩ := hp
            refine xJ_lastM hX dX14_passes_179 hka147 h179.1 h179.2 hM166 h179v (fun M179 e179 hM179 => ?_)
            replace hp := hp M179 e179
            obtain ⟨k180, hn180, hp⟩ := hp
            refine xJ_callV (As := [_]) hX hB dX14_passes_180 lk_X14_92 im_X12_value se_X12_value rfl (by decide) (xke_k hq147 hkb132 (by decide)) (c_X12_valueR 3 hM179 (xke_k hq147 hkb132 (by decide)) hka147 hp) (by decide) rfl rfl rfl (Nat.le_of_ble_eq_true rfl) (by omega) (by omega) (fun v t180 M180 hv => ?_) (fun _ _ _ q => q.elim)
            clear hp
            obtain ⟨r180, rfl, h180, hM180, hq180, hp⟩ := hv
            dsimp only [Option.toList, List.cons_append, List.nil_append]
            refine xJ_fg 4 ?_
            dsimp only [List.set]
            refine xJ_fg 5 ?_
            dsimp only [List.set]
            exact l183 _ _ _ _ _ _ _ _ _ _ _ (by omega) (by omega) hM180 (xke_trans (xke_trans hqE hq147) hq180) (xke_k hq180 (xke_k hq147 hkx0 (by decide)) (by decide)) hx1 hx2 (xke_k hq180 (xke_k hq147 hkx3 (by decide)) (by decide)) (xR_max ⟨by decide, by decide⟩ h85) h180 hp
        · replace hp := hp.2 c74
          refine xJ_iconst hX dX14_passes_77 ?_
          exact xJ_zret hX hB dX14_passes_78 rfl (by omega) (by omega) ⟨_, rfl, ⟨by decide, by decide⟩, hM, hqE, hp⟩
    refine xJ_icmp_lt hX dX14_passes_40 (tgt := 61) (by decide) h31 (hM3 _ _) (fun c40 => ?_) (fun c40 => ?_)
    · replace hp := hp.1 c40
      refine xJ_iconst hX dX14_passes_61 ?_
      exact l62 _ _ _ _ _ _ _ _ _ _ _ (by omega) (by omega) hM3 (xke_trans (xke_refl _) hq3) (xke_k hq3 hkx0 (by decide)) hx1 hx2 hkb8 (hM3 _ _) ⟨by decide, by decide⟩ hp
    · replace hp := hp.2 c40
      refine xJ_aload_n hX dX14_passes_43 rfl ?_
      refine xJ_iconst hX dX14_passes_44 ?_
      obtain ⟨h45, hp⟩ := hp
      refine xJ_iald hX dX14_passes_45 hkb8 h45.1 h45.2 ?_
      refine xJ_iload hX dX14_passes_46 rfl ?_
      refine xJ_aload_n hX dX14_passes_48 rfl ?_
      refine xJ_iload_n hX dX14_passes_49 rfl ?_
      obtain ⟨k50, hn50, hp⟩ := hp
      refine xJ_callV (As := [_]) hX hB dX14_passes_50 lk_X14_85 im_X14_sum se_X14_sum rfl (by decide) (xke_k hq3 hkx0 (by decide)) (c_X14_sum hM3 (xke_k hq3 hkx0 (by decide)) hx2 hp) (by decide) rfl rfl rfl (Nat.le_of_ble_eq_true rfl) (by omega) (by omega) (fun v t50 M50 hv => ?_) (fun _ _ _ q => q.elim)
      clear hp
      obtain ⟨r50, rfl, h50, hM50, hq50, hp⟩ := hv
      dsimp only [Option.toList, List.cons_append, List.nil_append]
      refine xJ_iadd hX dX14_passes_53 ?_
      obtain ⟨h53, hp⟩ := hp
      refine xJ_icmp_gt hX dX14_passes_54 (tgt := 61) (by decide) (hM3 _ _) h53 (fun c54 => ?_) (fun c54 => ?_)
      · replace hp := hp.1 c54
        refine xJ_iconst hX dX14_passes_61 ?_
        exact l62 _ _ _ _ _ _ _ _ _ _ _ (by omega) (by omega) hM50 (xke_trans (xke_trans (xke_refl _) hq3) hq50) (xke_k hq50 (xke_k hq3 hkx0 (by decide)) (by decide)) hx1 hx2 (xke_k hq50 hkb8 (by decide)) (hM3 _ _) ⟨by decide, by decide⟩ hp
      · replace hp := hp.2 c54
        refine xJ_iconst hX dX14_passes_57 ?_
        refine xJ_goto hX dX14_passes_58 (tgt := 62) (by decide) ?_
        exact l62 _ _ _ _ _ _ _ _ _ _ _ (by omega) (by omega) hM50 (xke_trans (xke_trans (xke_refl _) hq3) hq50) (xke_k hq50 (xke_k hq3 hkx0 (by decide)) (by decide)) hx1 hx2 (xke_k hq50 hkb8 (by decide)) (hM3 _ _) ⟨by decide, by decide⟩ hp
def p_X14_tick_236 (F : Nat) (Q : xTh → xMe → Prop) (n : Nat) (x0 : Nat) (t : xTh) (M : xMe) : Prop :=
    (xR ((M x0 0) + 1)) ∧ (∀ M243 : xMe, M243 = xw M x0 0 ((M x0 0) + 1) → Q t M243)
def p_X14_tick_230 (F : Nat) (Q : xTh → xMe → Prop) (K188 : Nat → Nat → Int → xTh → xMe → Prop) (K236 : Nat → Nat → xTh → xMe → Prop) (n : Nat) (x0 : Nat) (x1 : Int) (t : xTh) (M : xMe) : Prop :=
    (xR (x1 + 1)) ∧ K188 n x0 (x1 + 1) t M
def p_X14_tick_224 (F : Nat) (Q : xTh → xMe → Prop) (K188 : Nat → Nat → Int → xTh → xMe → Prop) (K199 : Nat → Nat → Int → Int → xTh → xMe → Prop) (K230 : Nat → Nat → Int → xTh → xMe → Prop) (K236 : Nat → Nat → xTh → xMe → Prop) (n : Nat) (x0 : Nat) (x1 : Int) (x2 : Int) (t : xTh) (M : xMe) : Prop :=
    (xR (x2 + 1)) ∧ K199 n x0 x1 (x2 + 1) t M
def p_X14_tick_210 (F : Nat) (Q : xTh → xMe → Prop) (K188 : Nat → Nat → Int → xTh → xMe → Prop) (K199 : Nat → Nat → Int → Int → xTh → xMe → Prop) (K224 : Nat → Nat → Int → Int → xTh → xMe → Prop) (K230 : Nat → Nat → Int → xTh → xMe → Prop) (K236 : Nat → Nat → xTh → xMe → Prop) : Nat → Nat → Nat → Int → Int → Int → xTh → xMe → Prop
  | 0, _, _, _, _, _, _, _ => False
  | k + 1, n, x0, x1, x2, x3, t, M =>
    ((x3 = 0 → K224 n x0 x1 x2 t M) ∧ (x3 ≠ 0 → (∃ k217 : Nat, k217 ≤ n ∧ p_X14_passes F k217 t x0 x1 x2 M (fun r217 t217 M217 => p_X14_tick_210 F Q K188 K199 K224 K230 K236 k ((n - k217)) x0 x1 x2 r217 t217 M217))))
def p_X14_tick_199 (F : Nat) (Q : xTh → xMe → Prop) (K188 : Nat → Nat → Int → xTh → xMe → Prop) (K230 : Nat → Nat → Int → xTh → xMe → Prop) (K236 : Nat → Nat → xTh → xMe → Prop) : Nat → Nat → Nat → Int → Int → xTh → xMe → Prop
  | 0, _, _, _, _, _, _ => False
  | k + 1, n, x0, x1, x2, t, M =>
    (∃ b201 : Nat, xr t x0 2 = some b201 ∧ xk t b201 = 17 ∧ (xR ((xn t b201 : Nat) : Int)) ∧ (((((xn t b201 : Nat) : Int)) ≤ x2 → K230 n x0 x1 t M) ∧ (x2 < (((xn t b201 : Nat) : Int)) → p_X14_tick_210 F Q K188 (p_X14_tick_199 F Q K188 K230 K236 k) (p_X14_tick_224 F Q K188 (p_X14_tick_199 F Q K188 K230 K236 k) K230 K236) K230 K236 F n x0 x1 x2 1 t M)))
def p_X14_tick_188 (F : Nat) (Q : xTh → xMe → Prop) (K236 : Nat → Nat → xTh → xMe → Prop) : Nat → Nat → Nat → Int → xTh → xMe → Prop
  | 0, _, _, _, _, _ => False
  | k + 1, n, x0, x1, t, M =>
    (∃ b190 : Nat, xr t x0 1 = some b190 ∧ xk t b190 = 17 ∧ (xR ((xn t b190 : Nat) : Int)) ∧ (((((xn t b190 : Nat) : Int)) ≤ x1 → K236 n x0 t M) ∧ (x1 < (((xn t b190 : Nat) : Int)) → p_X14_tick_199 F Q (p_X14_tick_188 F Q K236 k) (p_X14_tick_230 F Q (p_X14_tick_188 F Q K236 k) K236) K236 F n x0 x1 0 t M)))
def p_X14_tick_186 (F : Nat) (Q : xTh → xMe → Prop) (n : Nat) (x0 : Nat) (t : xTh) (M : xMe) : Prop :=
    p_X14_tick_188 F Q (p_X14_tick_236 F Q) F n x0 0 t M
def p_X14_tick_138 (F : Nat) (Q : xTh → xMe → Prop) (K186 : Nat → Nat → xTh → xMe → Prop) : Nat → Nat → Nat → Nat → Int → Int → xTh → xMe → Prop
  | 0, _, _, _, _, _, _, _ => False
  | k + 1, n, x0, x1, x2, x3, t, M =>
    ((x2 ≤ x3 → K186 n x0 t M) ∧ (x3 < x2 → ((0 : Int) ≤ x3 ∧ x3 < (xn t x1 : Int)) ∧ (∃ b145 : Nat, xr t x1 x3.toNat = some b145 ∧ xk t b145 = 14 ∧ ((0 : Int) ≤ 3 ∧ 3 < (xn t b145 : Int)) ∧ (((M b145 3) = 2 → (∃ k177 : Nat, k177 ≤ n ∧ p_X14_arrives F k177 t x0 b145 M (fun t177 M177 => (xR (x3 + 1)) ∧ p_X14_tick_138 F Q K186 k ((n - k177)) x0 x1 x2 (x3 + 1) t177 M177))) ∧ ((M b145 3) ≠ 2 → ((0 : Int) ≤ 3 ∧ 3 < (xn t b145 : Int)) ∧ (((M b145 3) ≠ 0 → (xR (x3 + 1)) ∧ p_X14_tick_138 F Q K186 k n x0 x1 x2 (x3 + 1) t M) ∧ ((M b145 3) = 0 → ((0 : Int) ≤ 1 ∧ 1 < (xn t b145 : Int)) ∧ (((M b145 1) ≠ (M x0 0) → (xR (x3 + 1)) ∧ p_X14_tick_138 F Q K186 k n x0 x1 x2 (x3 + 1) t M) ∧ ((M b145 1) = (M x0 0) → (∃ k177 : Nat, k177 ≤ n ∧ p_X14_arrives F k177 t x0 b145 M (fun t177 M177 => (xR (x3 + 1)) ∧ p_X14_tick_138 F Q K186 k ((n - k177)) x0 x1 x2 (x3 + 1) t177 M177)))))))))))
def p_X14_tick_128 (F : Nat) (Q : xTh → xMe → Prop) (n : Nat) (x0 : Nat) (t : xTh) (M : xMe) : Prop :=
    (∃ b129 : Nat, xr t x0 4 = some b129 ∧ xk t b129 = 17 ∧ (xR ((xn t b129 : Nat) : Int)) ∧ (∀ z135 : Int, z135 = ((xn t b129 : Nat) : Int) → p_X14_tick_138 F Q (p_X14_tick_186 F Q) F n x0 b129 z135 0 t M))
def p_X14_tick_78 (F : Nat) (Q : xTh → xMe → Prop) (K128 : Nat → Nat → xTh → xMe → Prop) : Nat → Nat → Nat → Int → xTh → xMe → Prop
  | 0, _, _, _, _, _ => False
  | k + 1, n, x0, x1, t, M =>
    ((x1 < 0 → K128 n x0 t M) ∧ (0 ≤ x1 → (∃ b83 : Nat, xr t x0 5 = some b83 ∧ xk t b83 = 17 ∧ ((0 : Int) ≤ x1 ∧ x1 < (xn t b83 : Int)) ∧ (∃ b87 : Nat, xr t b83 x1.toNat = some b87 ∧ xk t b87 = 14 ∧ ((0 : Int) ≤ 2 ∧ 2 < (xn t b87 : Int)) ∧ (((M b87 2) = (M x0 0) → (∃ k106 : Nat, k106 ≤ n ∧ p_L_without F k106 t b83 x1 M (fun r106 t106 M106 => (∀ t109 : xTh, t109 = xwr t106 x0 5 (some r106) → (xR ((M106 x0 8) + 1)) ∧ (∀ M119 : xMe, M119 = xw M106 x0 8 ((M106 x0 8) + 1) → (xR (x1 + (-1))) ∧ p_X14_tick_78 F Q K128 k ((n - k106)) x0 (x1 + (-1)) t109 M119))))) ∧ ((M b87 2) ≠ (M x0 0) → (xR (x1 + (-1))) ∧ p_X14_tick_78 F Q K128 k n x0 (x1 + (-1)) t M))))))
def p_X14_tick_70 (F : Nat) (Q : xTh → xMe → Prop) (n : Nat) (x0 : Nat) (t : xTh) (M : xMe) : Prop :=
    (∃ b71 : Nat, xr t x0 5 = some b71 ∧ xk t b71 = 17 ∧ (xR ((xn t b71 : Nat) : Int)) ∧ (xR ((((xn t b71 : Nat) : Int)) - 1)) ∧ (∀ z77 : Int, z77 = (((xn t b71 : Nat) : Int)) - 1 → p_X14_tick_78 F Q (p_X14_tick_128 F Q) F n x0 z77 t M))
def p_X14_tick_64 (F : Nat) (Q : xTh → xMe → Prop) (K2 : Nat → Nat → Int → xTh → xMe → Prop) (K70 : Nat → Nat → xTh → xMe → Prop) (n : Nat) (x0 : Nat) (x1 : Int) (t : xTh) (M : xMe) : Prop :=
    (xR (x1 + 1)) ∧ K2 n x0 (x1 + 1) t M
def p_X14_tick_13 (F : Nat) (Q : xTh → xMe → Prop) (K2 : Nat → Nat → Int → xTh → xMe → Prop) (K64 : Nat → Nat → Int → xTh → xMe → Prop) (K70 : Nat → Nat → xTh → xMe → Prop) : Nat → Nat → Nat → Int → Int → xTh → xMe → Prop
  | 0, _, _, _, _, _, _ => False
  | k + 1, n, x0, x1, x2, t, M =>
    (∃ b15 : Nat, xr t x0 2 = some b15 ∧ xk t b15 = 17 ∧ (xR ((xn t b15 : Nat) : Int)) ∧ (((((xn t b15 : Nat) : Int)) ≤ x2 → K64 n x0 x1 t M) ∧ (x2 < (((xn t b15 : Nat) : Int)) → (∃ b23 : Nat, xr t x0 7 = some b23 ∧ xk t b23 = 17 ∧ ((0 : Int) ≤ x1 ∧ x1 < (xn t b23 : Int)) ∧ (∃ b27 : Nat, xr t b23 x1.toNat = some b27 ∧ xk t b27 = 14 ∧ (∃ b30 : Nat, xr t x0 1 = some b30 ∧ xk t b30 = 17 ∧ ((0 : Int) ≤ x1 ∧ x1 < (xn t b30 : Int)) ∧ (∃ b34 : Nat, xr t b30 x1.toNat = some b34 ∧ xk t b34 = 14 ∧ ((0 : Int) ≤ 1 ∧ 1 < (xn t b34 : Int)) ∧ ((0 : Int) ≤ x1 ∧ x1 < (xn t b23 : Int)) ∧ (∃ b42 : Nat, xr t b23 x1.toNat = some b42 ∧ xk t b42 = 14 ∧ ((0 : Int) ≤ x2 ∧ x2 < (xn t b42 : Int)) ∧ ((0 : Int) ≤ x1 ∧ x1 < (xn t b30 : Int)) ∧ (∃ b50 : Nat, xr t b30 x1.toNat = some b50 ∧ xk t b50 = 14 ∧ ((0 : Int) ≤ 0 ∧ 0 < (xn t b50 : Int)) ∧ (xR ((M b42 x2.toNat) + (M b50 0))) ∧ ((0 : Int) ≤ x2 ∧ x2 < (xn t b27 : Int)) ∧ (∀ M57 : xMe, M57 = xw M b27 x2.toNat (min (M b34 1) ((M b42 x2.toNat) + (M b50 0))) → (xR (x2 + 1)) ∧ p_X14_tick_13 F Q K2 K64 K70 k n x0 x1 (x2 + 1) t M57))))))))))
def p_X14_tick_2 (F : Nat) (Q : xTh → xMe → Prop) (K70 : Nat → Nat → xTh → xMe → Prop) : Nat → Nat → Nat → Int → xTh → xMe → Prop
  | 0, _, _, _, _, _ => False
  | k + 1, n, x0, x1, t, M =>
    (∃ b4 : Nat, xr t x0 1 = some b4 ∧ xk t b4 = 17 ∧ (xR ((xn t b4 : Nat) : Int)) ∧ (((((xn t b4 : Nat) : Int)) ≤ x1 → K70 n x0 t M) ∧ (x1 < (((xn t b4 : Nat) : Int)) → p_X14_tick_13 F Q (p_X14_tick_2 F Q K70 k) (p_X14_tick_64 F Q (p_X14_tick_2 F Q K70 k) K70) K70 F n x0 x1 0 t M)))
def p_X14_tick (F : Nat) (n : Nat) (tE : xTh) (x0 : Nat) (ME : xMe) (Q : xTh → xMe → Prop) : Prop :=
  p_X14_tick_2 F Q (p_X14_tick_70 F Q) F n x0 0 tE ME
set_option maxHeartbeats 8000000 in
set_option maxRecDepth 100000 in
theorem c_X14_tick {G : xGx} {tE : xTh} {ME : xMe} {F nE : Nat} {x0 : Nat} {Q : xTh → xMe → Prop} (hME : xMR ME) (hkx0 : xk tE x0 = 20)  (hp : p_X14_tick F nE tE x0 ME Q) : xCt G yX14_tick cX14_tick 5 none 7 nE (64 * nE) [vr x0] tE ME (fun v t' M' => v = none ∧ xMR M' ∧ xke tE t' ∧ Q t' M') (fun _ _ _ => False) := by
  refine xCt_of (L0 := [vr x0, vU, vU, vU, vU]) (by decide +kernel) (Nat.le_of_ble_eq_true rfl) rfl ?_
  intro X hX hB
  unfold p_X14_tick at hp
  refine xJ_iconst hX dX14_tick_0 ?_
  refine xJ_istore_n hX dX14_tick_1 (Nat.le_of_ble_eq_true rfl) rfl ?_
  dsimp only [List.set]
  have l70 : ∀ (c s n : Nat) (x0 : Nat) (t : xTh) (M : xMe) (hc : c + n ≤ nE) (hs : s + 64 * n ≤ 64 * nE) (hM : xMR M) (hqE : xke tE t) (hkx0 : xk t x0 = 20) (hp : p_X14_tick_70 F Q n x0 t M), xJ X c s t M 70 [vr x0, vU, vU, vU, vU] [] := by
    intro c s n x0 t M hc hs hM hqE hkx0 hp
    unfold p_X14_tick_70 at hp
    refine xJ_aload_n hX dX14_tick_70 rfl ?_
    obtain ⟨b71, e71, hkb71, hp⟩ := hp
    refine xJ_getR (b := b71) hX dX14_tick_71 fd_X14_24 rfl hkx0 e71 ?_
    refine xJ_alen hX dX14_tick_74 (by rw [hkb71]; decide) (by rw [hkb71]; decide) ?_
    obtain ⟨h74, hp⟩ := hp
    refine xJ_iconst hX dX14_tick_75 ?_
    refine xJ_isub hX dX14_tick_76 ?_
    obtain ⟨h76, hp⟩ := hp
    refine xJ_istore_n hX dX14_tick_77 (Nat.le_of_ble_eq_true rfl) rfl ?_
    dsimp only [List.set]
    replace hp := hp _ rfl
    have l128 : ∀ (c s n : Nat) (x0 : Nat) (t : xTh) (M : xMe) (hc : c + n ≤ nE) (hs : s + 64 * n ≤ 64 * nE) (hM : xMR M) (hqE : xke tE t) (hkx0 : xk t x0 = 20) (hp : p_X14_tick_128 F Q n x0 t M), xJ X c s t M 128 [vr x0, vU, vU, vU, vU] [] := by
      intro c s n x0 t M hc hs hM hqE hkx0 hp
      unfold p_X14_tick_128 at hp
      refine xJ_aload_n hX dX14_tick_128 rfl ?_
      obtain ⟨b129, e129, hkb129, hp⟩ := hp
      refine xJ_getR (b := b129) hX dX14_tick_129 fd_X14_21 rfl hkx0 e129 ?_
      refine xJ_astore_n hX dX14_tick_132 (Nat.le_of_ble_eq_true rfl) rfl ?_
      dsimp only [List.set]
      refine xJ_aload_n hX dX14_tick_133 rfl ?_
      refine xJ_alen hX dX14_tick_134 (by rw [hkb129]; decide) (by rw [hkb129]; decide) ?_
      obtain ⟨h134, hp⟩ := hp
      refine xJ_istore_n hX dX14_tick_135 (Nat.le_of_ble_eq_true rfl) rfl ?_
      dsimp only [List.set]
      replace hp := hp _ rfl
      refine xJ_iconst hX dX14_tick_136 ?_
      refine xJ_istore_n hX dX14_tick_137 (Nat.le_of_ble_eq_true rfl) rfl ?_
      dsimp only [List.set]
      have l186 : ∀ (c s n : Nat) (x0 : Nat) (t : xTh) (M : xMe) (hc : c + n ≤ nE) (hs : s + 64 * n ≤ 64 * nE) (hM : xMR M) (hqE : xke tE t) (hkx0 : xk t x0 = 20) (hp : p_X14_tick_186 F Q n x0 t M), xJ X c s t M 186 [vr x0, vU, vU, vU, vU] [] := by
        intro c s n x0 t M hc hs hM hqE hkx0 hp
        unfold p_X14_tick_186 at hp
        refine xJ_iconst hX dX14_tick_186 ?_
        refine xJ_istore_n hX dX14_tick_187 (Nat.le_of_ble_eq_true rfl) rfl ?_
        dsimp only [List.set]
        have l236 : ∀ (c s n : Nat) (x0 : Nat) (t : xTh) (M : xMe) (hc : c + n ≤ nE) (hs : s + 64 * n ≤ 64 * nE) (hM : xMR M) (hqE : xke tE t) (hkx0 : xk t x0 = 20) (hp : p_X14_tick_236 F Q n x0 t M), xJ X c s t M 236 [vr x0, vU, vU, vU, vU] [] := by
          intro c s n x0 t M hc hs hM hqE hkx0 hp
          unfold p_X14_tick_236 at hp
          refine xJ_aload_n hX dX14_tick_236 rfl ?_
          refine xJ_dup hX dX14_tick_237 rfl ?_
          refine xJ_getI hX dX14_tick_238 fd_X14_45 rfl hkx0 ?_
          refine xJ_iconst hX dX14_tick_241 ?_
          refine xJ_iadd hX dX14_tick_242 ?_
          obtain ⟨h242, hp⟩ := hp
          refine xJ_putIM hX dX14_tick_243 fd_X14_45 ft_X14 rfl rfl rfl rfl hkx0 hM h242 (fun M243 e243 hM243 => ?_)
          replace hp := hp M243 e243
          exact xJ_vret hX hB dX14_tick_246 (by omega) (by omega) ⟨rfl, hM243, hqE, hp⟩
        have l188 : ∀ (k188 : Nat) (c s n : Nat) (x0 : Nat) (x1 : Int) (t : xTh) (M : xMe) (hc : c + n ≤ nE) (hs : s + 64 * n ≤ 64 * nE) (hM : xMR M) (hqE : xke tE t) (hkx0 : xk t x0 = 20) (hx1 : xR x1) (hp : p_X14_tick_188 F Q (p_X14_tick_236 F Q) k188 n x0 x1 t M), xJ X c s t M 188 [vr x0, vi x1, vU, vU, vU] [] := by
          intro k188
          induction k188 with
          | zero => intro c s n x0 x1 t M hc hs hM hqE hkx0 hx1 hp; exact hp.elim
          | succ k188 ih188 =>
            intro c s n x0 x1 t M hc hs hM hqE hkx0 hx1 hp
            unfold p_X14_tick_188 at hp
            refine xJ_iload_n hX dX14_tick_188 rfl ?_
            refine xJ_aload_n hX dX14_tick_189 rfl ?_
            obtain ⟨b190, e190, hkb190, hp⟩ := hp
            refine xJ_getR (b := b190) hX dX14_tick_190 fd_X14_9 rfl hkx0 e190 ?_
            refine xJ_alen hX dX14_tick_193 (by rw [hkb190]; decide) (by rw [hkb190]; decide) ?_
            obtain ⟨h193, hp⟩ := hp
            refine xJ_icmp_ge hX dX14_tick_194 (tgt := 236) (by decide) hx1 h193 (fun c194 => ?_) (fun c194 => ?_)
            · replace hp := hp.1 c194
              refine xJ_fg 1 ?_
              dsimp only [List.set]
              exact l236 _ _ _ _ _ _ (by omega) (by omega) hM hqE hkx0 hp
            · replace hp := hp.2 c194
              refine xJ_iconst hX dX14_tick_197 ?_
              refine xJ_istore_n hX dX14_tick_198 (Nat.le_of_ble_eq_true rfl) rfl ?_
              dsimp only [List.set]
              have l230 : ∀ (c s n : Nat) (x0 : Nat) (x1 : Int) (t : xTh) (M : xMe) (hc : c + n ≤ nE) (hs : s + 64 * n ≤ 64 * nE) (hM : xMR M) (hqE : xke tE t) (hkx0 : xk t x0 = 20) (hx1 : xR x1) (hp : p_X14_tick_230 F Q (p_X14_tick_188 F Q (p_X14_tick_236 F Q) k188) (p_X14_tick_236 F Q) n x0 x1 t M), xJ X c s t M 230 [vr x0, vi x1, vU, vU, vU] [] := by
                intro c s n x0 x1 t M hc hs hM hqE hkx0 hx1 hp
                unfold p_X14_tick_230 at hp
                refine xJ_iinc hX dX14_tick_230 rfl rfl ?_
                dsimp only [List.set]
                obtain ⟨h230, hp⟩ := hp
                refine xJ_goto hX dX14_tick_233 (tgt := 188) (by decide) ?_
                exact ih188 _ _ _ _ _ _ _ (by omega) (by omega) hM hqE hkx0 h230 hp
              have l199 : ∀ (k199 : Nat) (c s n : Nat) (x0 : Nat) (x1 : Int) (x2 : Int) (t : xTh) (M : xMe) (hc : c + n ≤ nE) (hs : s + 64 * n ≤ 64 * nE) (hM : xMR M) (hqE : xke tE t) (hkx0 : xk t x0 = 20) (hx1 : xR x1) (hx2 : xR x2) (hp : p_X14_tick_199 F Q (p_X14_tick_188 F Q (p_X14_tick_236 F Q) k188) (p_X14_tick_230 F Q (p_X14_tick_188 F Q (p_X14_tick_236 F Q) k188) (p_X14_tick_236 F Q)) (p_X14_tick_236 F Q) k199 n x0 x1 x2 t M), xJ X c s t M 199 [vr x0, vi x1, vi x2, vU, vU] [] := by
                intro k199
                induction k199 with
                | zero => intro c s n x0 x1 x2 t M hc hs hM hqE hkx0 hx1 hx2 hp; exact hp.elim
                | succ k199 ih199 =>
                  intro c s n x0 x1 x2 t M hc hs hM hqE hkx0 hx1 hx2 hp
                  unfold p_X14_tick_199 at hp
                  refine xJ_iload_n hX dX14_tick_199 rfl ?_
                  refine xJ_aload_n hX dX14_tick_200 rfl ?_
                  obtain ⟨b201, e201, hkb201, hp⟩ := hp
                  refine xJ_getR (b := b201) hX dX14_tick_201 fd_X14_15 rfl hkx0 e201 ?_
                  refine xJ_alen hX dX14_tick_204 (by rw [hkb201]; decide) (by rw [hkb201]; decide) ?_
                  obtain ⟨h204, hp⟩ := hp
                  refine xJ_icmp_ge hX dX14_tick_205 (tgt := 230) (by decide) hx2 h204 (fun c205 => ?_) (fun c205 => ?_)
                  · replace hp := hp.1 c205
                    refine xJ_fg 2 ?_
                    dsimp only [List.set]
                    exact l230 _ _ _ _ _ _ _ (by omega) (by omega) hM hqE hkx0 hx1 hp
                  · replace hp := hp.2 c205
                    refine xJ_iconst hX dX14_tick_208 ?_
                    refine xJ_istore_n hX dX14_tick_209 (Nat.le_of_ble_eq_true rfl) rfl ?_
                    dsimp only [List.set]
                    have l224 : ∀ (c s n : Nat) (x0 : Nat) (x1 : Int) (x2 : Int) (t : xTh) (M : xMe) (hc : c + n ≤ nE) (hs : s + 64 * n ≤ 64 * nE) (hM : xMR M) (hqE : xke tE t) (hkx0 : xk t x0 = 20) (hx1 : xR x1) (hx2 : xR x2) (hp : p_X14_tick_224 F Q (p_X14_tick_188 F Q (p_X14_tick_236 F Q) k188) (p_X14_tick_199 F Q (p_X14_tick_188 F Q (p_X14_tick_236 F Q) k188) (p_X14_tick_230 F Q (p_X14_tick_188 F Q (p_X14_tick_236 F Q) k188) (p_X14_tick_236 F Q)) (p_X14_tick_236 F Q) k199) (p_X14_tick_230 F Q (p_X14_tick_188 F Q (p_X14_tick_236 F Q) k188) (p_X14_tick_236 F Q)) (p_X14_tick_236 F Q) n x0 x1 x2 t M), xJ X c s t M 224 [vr x0, vi x1, vi x2, vU, vU] [] := by
                      intro c s n x0 x1 x2 t M hc hs hM hqE hkx0 hx1 hx2 hp
                      unfold p_X14_tick_224 at hp
                      refine xJ_iinc hX dX14_tick_224 rfl rfl ?_
                      dsimp only [List.set]
                      obtain ⟨h224, hp⟩ := hp
                      refine xJ_goto hX dX14_tick_227 (tgt := 199) (by decide) ?_
                      exact ih199 _ _ _ _ _ _ _ _ (by omega) (by omega) hM hqE hkx0 hx1 h224 hp
                    have l210 : ∀ (k210 : Nat) (c s n : Nat) (x0 : Nat) (x1 : Int) (x2 : Int) (x3 : Int) (t : xTh) (M : xMe) (hc : c + n ≤ nE) (hs : s + 64 * n ≤ 64 * nE) (hM : xMR M) (hqE : xke tE t) (hkx0 : xk t x0 = 20) (hx1 : xR x1) (hx2 : xR x2) (hx3 : xR x3) (hp : p_X14_tick_210 F Q (p_X14_tick_188 F Q (p_X14_tick_236 F Q) k188) (p_X14_tick_199 F Q (p_X14_tick_188 F Q (p_X14_tick_236 F Q) k188) (p_X14_tick_230 F Q (p_X14_tick_188 F Q (p_X14_tick_236 F Q) k188) (p_X14_tick_236 F Q)) (p_X14_tick_236 F Q) k199) (p_X14_tick_224 F Q (p_X14_tick_188 F Q (p_X14_tick_236 F Q) k188) (p_X14_tick_199 F Q (p_X14_tick_188 F Q (p_X14_tick_236 F Q) k188) (p_X14_tick_230 F Q (p_X14_tick_188 F Q (p_X14_tick_236 F Q) k188) (p_X14_tick_236 F Q)) (p_X14_tick_236 F Q) k199) (p_X14_tick_230 F Q (p_X14_tick_188 F Q (p_X14_tick_236 F Q) k188) (p_X14_tick_236 F Q)) (p_X14_tick_236 F Q)) (p_X14_tick_230 F Q (p_X14_tick_188 F Q (p_X14_tick_236 F Q) k188) (p_X14_tick_236 F Q)) (p_X14_tick_236 F Q) k210 n x0 x1 x2 x3 t M), xJ X c s t M 210 [vr x0, vi x1, vi x2, vi x3, vU] [] := by
                      intro k210
                      induction k210 with
                      | zero => intro c s n x0 x1 x2 x3 t M hc hs hM hqE hkx0 hx1 hx2 hx3 hp; exact hp.elim
                      | succ k210 ih210 =>
                        intro c s n x0 x1 x2 x3 t M hc hs hM hqE hkx0 hx1 hx2 hx3 hp
                        unfold p_X14_tick_210 at hp
                        refine xJ_iload_n hX dX14_tick_210 rfl ?_
                        refine xJ_if_eq hX dX14_tick_211 (tgt := 224) (by decide) hx3 (fun c211 => ?_) (fun c211 => ?_)
                        · replace hp := hp.1 c211
                          refine xJ_fg 3 ?_
                          dsimp only [List.set]
                          exact l224 _ _ _ _ _ _ _ _ (by omega) (by omega) hM hqE hkx0 hx1 hx2 hp
                        · replace hp := hp.2 c211
                          refine xJ_aload_n hX dX14_tick_214 rfl ?_
                          refine xJ_iload_n hX dX14_tick_215 rfl ?_
                          refine xJ_iload_n hX dX14_tick_216 rfl ?_
                          obtain ⟨k217, hn217, hp⟩ := hp
                          refine xJ_callV (As := [_, _]) hX hB dX14_tick_217 lk_X14_113 im_X14_passes se_X14_passes rfl (by decide) hkx0 (c_X14_passes hM hkx0 hx1 hx2 hp) (by decide) rfl rfl rfl (Nat.le_of_ble_eq_true rfl) (by omega) (by omega) (fun v t217 M217 hv => ?_) (fun _ _ _ q => q.elim)
                          clear hp
                          obtain ⟨r217, rfl, h217, hM217, hq217, hp⟩ := hv
                          dsimp only [Option.toList, List.cons_append, List.nil_append]
                          refine xJ_istore_n hX dX14_tick_220 (Nat.le_of_ble_eq_true rfl) rfl ?_
                          dsimp only [List.set]
                          refine xJ_goto hX dX14_tick_221 (tgt := 210) (by decide) ?_
                          exact ih210 _ _ _ _ _ _ _ _ _ (by omega) (by omega) hM217 (xke_trans hqE hq217) (xke_k hq217 hkx0 (by decide)) hx1 hx2 h217 hp
                    exact l210 F _ _ _ _ _ _ _ _ _ (by omega) (by omega) hM hqE hkx0 hx1 hx2 ⟨by decide, by decide⟩ hp
              exact l199 F _ _ _ _ _ _ _ _ (by omega) (by omega) hM hqE hkx0 hx1 ⟨by decide, by decide⟩ hp
        exact l188 F _ _ _ _ _ _ _ (by omega) (by omega) hM hqE hkx0 ⟨by decide, by decide⟩ hp
      have l138 : ∀ (k138 : Nat) (c s n : Nat) (x0 : Nat) (x1 : Nat) (x2 : Int) (x3 : Int) (t : xTh) (M : xMe) (hc : c + n ≤ nE) (hs : s + 64 * n ≤ 64 * nE) (hM : xMR M) (hqE : xke tE t) (hkx0 : xk t x0 = 20) (hkx1 : xk t x1 = 17) (hx2 : xR x2) (hx3 : xR x3) (hp : p_X14_tick_138 F Q (p_X14_tick_186 F Q) k138 n x0 x1 x2 x3 t M), xJ X c s t M 138 [vr x0, vr x1, vi x2, vi x3, vU] [] := by
        intro k138
        induction k138 with
        | zero => intro c s n x0 x1 x2 x3 t M hc hs hM hqE hkx0 hkx1 hx2 hx3 hp; exact hp.elim
        | succ k138 ih138 =>
          intro c s n x0 x1 x2 x3 t M hc hs hM hqE hkx0 hkx1 hx2 hx3 hp
          unfold p_X14_tick_138 at hp
          refine xJ_iload_n hX dX14_tick_138 rfl ?_
          refine xJ_iload_n hX dX14_tick_139 rfl ?_
          refine xJ_icmp_ge hX dX14_tick_140 (tgt := 186) (by decide) hx3 hx2 (fun c140 => ?_) (fun c140 => ?_)
          · replace hp := hp.1 c140
            refine xJ_fg 1 ?_
            dsimp only [List.set]
            refine xJ_fg 2 ?_
            dsimp only [List.set]
            refine xJ_fg 3 ?_
            dsimp only [List.set]
            exact l186 _ _ _ _ _ _ (by omega) (by omega) hM hqE hkx0 hp
          · replace hp := hp.2 c140
            refine xJ_aload_n hX dX14_tick_143 rfl ?_
            refine xJ_iload_n hX dX14_tick_144 rfl ?_
            obtain ⟨h145, hp⟩ := hp
            obtain ⟨b145, e145, hkb145, hp⟩ := hp
            refine xJ_aaldOb hX dX14_tick_145 hkx1 h145.1 h145.2 e145 ?_
            refine xJ_astore hX dX14_tick_146 (Nat.le_of_ble_eq_true rfl) rfl ?_
            dsimp only [List.set]
            refine xJ_aload hX dX14_tick_148 rfl ?_
            refine xJ_iconst hX dX14_tick_150 ?_
            obtain ⟨h151, hp⟩ := hp
            refine xJ_iald hX dX14_tick_151 hkb145 h151.1 h151.2 ?_
            refine xJ_iconst hX dX14_tick_152 ?_
            refine xJ_icmp_eq hX dX14_tick_153 (tgt := 174) (by decide) (hM _ _) ⟨by decide, by decide⟩ (fun c153 => ?_) (fun c153 => ?_)
            · replace hp := hp.1 c153
              refine xJ_aload_n hX dX14_tick_174 rfl ?_
              refine xJ_aload hX dX14_tick_175 rfl ?_
              obtain ⟨k177, hn177, hp⟩ := hp
              refine xJ_callV (As := [_]) hX hB dX14_tick_177 lk_X14_109 im_X14_arrives se_X14_arrives rfl (by decide) hkx0 (c_X14_arrives hM hkx0 hkb145 hp) (by decide) rfl rfl rfl (Nat.le_of_ble_eq_true rfl) (by omega) (by omega) (fun v t177 M177 hv => ?_) (fun _ _ _ q => q.elim)
              clear hp
              obtain ⟨rfl, hM177, hq177, hp⟩ := hv
              dsimp only [Option.toList, List.cons_append, List.nil_append]
              refine xJ_iinc hX dX14_tick_180 rfl rfl ?_
              dsimp only [List.set]
              obtain ⟨h180, hp⟩ := hp
              refine xJ_goto hX dX14_tick_183 (tgt := 138) (by decide) ?_
              refine xJ_fg 4 ?_
              dsimp only [List.set]
              exact ih138 _ _ _ _ _ _ _ _ _ (by omega) (by omega) hM177 (xke_trans hqE hq177) (xke_k hq177 hkx0 (by decide)) (xke_k hq177 hkx1 (by decide)) hx2 h180 hp
            · replace hp := hp.2 c153
              refine xJ_aload hX dX14_tick_156 rfl ?_
              refine xJ_iconst hX dX14_tick_158 ?_
              obtain ⟨h159, hp⟩ := hp
              refine xJ_iald hX dX14_tick_159 hkb145 h159.1 h159.2 ?_
              refine xJ_if_ne hX dX14_tick_160 (tgt := 180) (by decide) (hM _ _) (fun c160 => ?_) (fun c160 => ?_)
              · replace hp := hp.1 c160
                refine xJ_iinc hX dX14_tick_180 rfl rfl ?_
                dsimp only [List.set]
                obtain ⟨h180, hp⟩ := hp
                refine xJ_goto hX dX14_tick_183 (tgt := 138) (by decide) ?_
                refine xJ_fg 4 ?_
                dsimp only [List.set]
                exact ih138 _ _ _ _ _ _ _ _ _ (by omega) (by omega) hM hqE hkx0 hkx1 hx2 h180 hp
              · replace hp := hp.2 c160
                refine xJ_aload hX dX14_tick_163 rfl ?_
                refine xJ_iconst hX dX14_tick_165 ?_
                obtain ⟨h166, hp⟩ := hp
                refine xJ_iald hX dX14_tick_166 hkb145 h166.1 h166.2 ?_
                refine xJ_aload_n hX dX14_tick_167 rfl ?_
                refine xJ_getI hX dX14_tick_168 fd_X14_45 rfl hkx0 ?_
                refine xJ_icmp_ne hX dX14_tick_171 (tgt := 180) (by decide) (hM _ _) (hM _ _) (fun c171 => ?_) (fun c171 => ?_)
                · replace hp := hp.1 c171
                  refine xJ_iinc hX dX14_tick_180 rfl rfl ?_
                  dsimp only [List.set]
                  obtain ⟨h180, hp⟩ := hp
                  refine xJ_goto hX dX14_tick_183 (tgt := 138) (by decide) ?_
                  refine xJ_fg 4 ?_
                  dsimp only [List.set]
                  exact ih138 _ _ _ _ _ _ _ _ _ (by omega) (by omega) hM hqE hkx0 hkx1 hx2 h180 hp
                · replace hp := hp.2 c171
                  refine xJ_aload_n hX dX14_tick_174 rfl ?_
                  refine xJ_aload hX dX14_tick_175 rfl ?_
                  obtain ⟨k177, hn177, hp⟩ := hp
                  refine xJ_callV (As := [_]) hX hB dX14_tick_177 lk_X14_109 im_X14_arrives se_X14_arrives rfl (by decide) hkx0 (c_X14_arrives hM hkx0 hkb145 hp) (by decide) rfl rfl rfl (Nat.le_of_ble_eq_true rfl) (by omega) (by omega) (fun v t177 M177 hv => ?_) (fun _ _ _ q => q.elim)
                  clear hp
                  obtain ⟨rfl, hM177, hq177, hp⟩ := hv
                  dsimp only [Option.toList, List.cons_append, List.nil_append]
                  refine xJ_iinc hX dX14_tick_180 rfl rfl ?_
                  dsimp only [List.set]
                  obtain ⟨h180, hp⟩ := hp
                  refine xJ_goto hX dX14_tick_183 (tgt := 138) (by decide) ?_
                  refine xJ_fg 4 ?_
                  dsimp only [List.set]
                  exact ih138 _ _ _ _ _ _ _ _ _ (by omega) (by omega) hM177 (xke_trans hqE hq177) (xke_k hq177 hkx0 (by decide)) (xke_k hq177 hkx1 (by decide)) hx2 h180 hp
      exact l138 F _ _ _ _ _ _ _ _ _ (by omega) (by omega) hM hqE hkx0 hkb129 h134 ⟨by decide, by decide⟩ hp
    have l78 : ∀ (k78 : Nat) (c s n : Nat) (x0 : Nat) (x1 : Int) (t : xTh) (M : xMe) (hc : c + n ≤ nE) (hs : s + 64 * n ≤ 64 * nE) (hM : xMR M) (hqE : xke tE t) (hkx0 : xk t x0 = 20) (hx1 : xR x1) (hp : p_X14_tick_78 F Q (p_X14_tick_128 F Q) k78 n x0 x1 t M), xJ X c s t M 78 [vr x0, vi x1, vU, vU, vU] [] := by
      intro k78
      induction k78 with
      | zero => intro c s n x0 x1 t M hc hs hM hqE hkx0 hx1 hp; exact hp.elim
      | succ k78 ih78 =>
        intro c s n x0 x1 t M hc hs hM hqE hkx0 hx1 hp
        unfold p_X14_tick_78 at hp
        refine xJ_iload_n hX dX14_tick_78 rfl ?_
        refine xJ_if_lt hX dX14_tick_79 (tgt := 128) (by decide) hx1 (fun c79 => ?_) (fun c79 => ?_)
        · replace hp := hp.1 c79
          refine xJ_fg 1 ?_
          dsimp only [List.set]
          exact l128 _ _ _ _ _ _ (by omega) (by omega) hM hqE hkx0 hp
        · replace hp := hp.2 c79
          refine xJ_aload_n hX dX14_tick_82 rfl ?_
          obtain ⟨b83, e83, hkb83, hp⟩ := hp
          refine xJ_getR (b := b83) hX dX14_tick_83 fd_X14_24 rfl hkx0 e83 ?_
          refine xJ_iload_n hX dX14_tick_86 rfl ?_
          obtain ⟨h87, hp⟩ := hp
          obtain ⟨b87, e87, hkb87, hp⟩ := hp
          refine xJ_aaldOb hX dX14_tick_87 hkb83 h87.1 h87.2 e87 ?_
          refine xJ_iconst hX dX14_tick_88 ?_
          obtain ⟨h89, hp⟩ := hp
          refine xJ_iald hX dX14_tick_89 hkb87 h89.1 h89.2 ?_
          refine xJ_aload_n hX dX14_tick_90 rfl ?_
          refine xJ_getI hX dX14_tick_91 fd_X14_45 rfl hkx0 ?_
          refine xJ_icmp_eq hX dX14_tick_94 (tgt := 100) (by decide) (hM _ _) (hM _ _) (fun c94 => ?_) (fun c94 => ?_)
          · replace hp := hp.1 c94
            refine xJ_aload_n hX dX14_tick_100 rfl ?_
            refine xJ_aload_n hX dX14_tick_101 rfl ?_
            refine xJ_getR (b := b83) hX dX14_tick_102 fd_X14_24 rfl hkx0 e83 ?_
            refine xJ_iload_n hX dX14_tick_105 rfl ?_
            obtain ⟨k106, hn106, hp⟩ := hp
            refine xJ_callSN (As := [_, _]) hX hB dX14_tick_106 ln_X14_105 sm_L_without (c_L_without hM hkb83 hx1 hp) (by decide) rfl rfl rfl (Nat.le_of_ble_eq_true rfl) (by omega) (by omega) (fun v t106 M106 hv => ?_)
            clear hp
            obtain ⟨r106, rfl, hk106, hM106, hq106, hp⟩ := hv
            dsimp only [Option.toList, List.cons_append, List.nil_append]
            refine xJ_putRE (x := (some r106)) hX dX14_tick_109 fd_X14_24 ft_X14 rfl rfl rfl rfl (xke_k hq106 hkx0 (by decide)) (fun t109 et109 hq109 => ?_)
            replace hp := hp t109 et109
            refine xJ_aload_n hX dX14_tick_112 rfl ?_
            refine xJ_dup hX dX14_tick_113 rfl ?_
            refine xJ_getI hX dX14_tick_114 fd_X14_54 rfl (xke_k hq109 (xke_k hq106 hkx0 (by decide)) (by decide)) ?_
            refine xJ_iconst hX dX14_tick_117 ?_
            refine xJ_iadd hX dX14_tick_118 ?_
            obtain ⟨h118, hp⟩ := hp
            refine xJ_putIM hX dX14_tick_119 fd_X14_54 ft_X14 rfl rfl rfl rfl (xke_k hq109 (xke_k hq106 hkx0 (by decide)) (by decide)) hM106 h118 (fun M119 e119 hM119 => ?_)
            replace hp := hp M119 e119
            refine xJ_iinc hX dX14_tick_122 rfl rfl ?_
            dsimp only [List.set]
            obtain ⟨h122, hp⟩ := hp
            refine xJ_goto hX dX14_tick_125 (tgt := 78) (by decide) ?_
            exact ih78 _ _ _ _ _ _ _ (by omega) (by omega) hM119 (xke_trans (xke_trans hqE hq106) hq109) (xke_k hq109 (xke_k hq106 hkx0 (by decide)) (by decide)) h122 hp
          · replace hp := hp.2 c94
            refine xJ_goto hX dX14_tick_97 (tgt := 122) (by decide) ?_
            refine xJ_iinc hX dX14_tick_122 rfl rfl ?_
            dsimp only [List.set]
            obtain ⟨h122, hp⟩ := hp
            refine xJ_goto hX dX14_tick_125 (tgt := 78) (by decide) ?_
            exact ih78 _ _ _ _ _ _ _ (by omega) (by omega) hM hqE hkx0 h122 hp
    exact l78 F _ _ _ _ _ _ _ (by omega) (by omega) hM hqE hkx0 h76 hp
  have l2 : ∀ (k2 : Nat) (c s n : Nat) (x0 : Nat) (x1 : Int) (t : xTh) (M : xMe) (hc : c + n ≤ nE) (hs : s + 64 * n ≤ 64 * nE) (hM : xMR M) (hqE : xke tE t) (hkx0 : xk t x0 = 20) (hx1 : xR x1) (hp : p_X14_tick_2 F Q (p_X14_tick_70 F Q) k2 n x0 x1 t M), xJ X c s t M 2 [vr x0, vi x1, vU, vU, vU] [] := by
    intro k2
    induction k2 with
    | zero => intro c s n x0 x1 t M hc hs hM hqE hkx0 hx1 hp; exact hp.elim
    | succ k2 ih2 =>
      intro c s n x0 x1 t M hc hs hM hqE hkx0 hx1 hp
      unfold p_X14_tick_2 at hp
      refine xJ_iload_n hX dX14_tick_2 rfl ?_
      refine xJ_aload_n hX dX14_tick_3 rfl ?_
      obtain ⟨b4, e4, hkb4, hp⟩ := hp
      refine xJ_getR (b := b4) hX dX14_tick_4 fd_X14_9 rfl hkx0 e4 ?_
      refine xJ_alen hX dX14_tick_7 (by rw [hkb4]; decide) (by rw [hkb4]; decide) ?_
      obtain ⟨h7, hp⟩ := hp
      refine xJ_icmp_ge hX dX14_tick_8 (tgt := 70) (by decide) hx1 h7 (fun c8 => ?_) (fun c8 => ?_)
      · replace hp := hp.1 c8
        refine xJ_fg 1 ?_
        dsimp only [List.set]
        exact l70 _ _ _ _ _ _ (by omega) (by omega) hM hqE hkx0 hp
      · replace hp := hp.2 c8
        refine xJ_iconst hX dX14_tick_11 ?_
        refine xJ_istore_n hX dX14_tick_12 (Nat.le_of_ble_eq_true rfl) rfl ?_
        dsimp only [List.set]
        have l64 : ∀ (c s n : Nat) (x0 : Nat) (x1 : Int) (t : xTh) (M : xMe) (hc : c + n ≤ nE) (hs : s + 64 * n ≤ 64 * nE) (hM : xMR M) (hqE : xke tE t) (hkx0 : xk t x0 = 20) (hx1 : xR x1) (hp : p_X14_tick_64 F Q (p_X14_tick_2 F Q (p_X14_tick_70 F Q) k2) (p_X14_tick_70 F Q) n x0 x1 t M), xJ X c s t M 64 [vr x0, vi x1, vU, vU, vU] [] := by
          intro c s n x0 x1 t M hc hs hM hqE hkx0 hx1 hp
          unfold p_X14_tick_64 at hp
          refine xJ_iinc hX dX14_tick_64 rfl rfl ?_
          dsimp only [List.set]
          obtain ⟨h64, hp⟩ := hp
          refine xJ_goto hX dX14_tick_67 (tgt := 2) (by decide) ?_
          exact ih2 _ _ _ _ _ _ _ (by omega) (by omega) hM hqE hkx0 h64 hp
        have l13 : ∀ (k13 : Nat) (c s n : Nat) (x0 : Nat) (x1 : Int) (x2 : Int) (t : xTh) (M : xMe) (hc : c + n ≤ nE) (hs : s + 64 * n ≤ 64 * nE) (hM : xMR M) (hqE : xke tE t) (hkx0 : xk t x0 = 20) (hx1 : xR x1) (hx2 : xR x2) (hp : p_X14_tick_13 F Q (p_X14_tick_2 F Q (p_X14_tick_70 F Q) k2) (p_X14_tick_64 F Q (p_X14_tick_2 F Q (p_X14_tick_70 F Q) k2) (p_X14_tick_70 F Q)) (p_X14_tick_70 F Q) k13 n x0 x1 x2 t M), xJ X c s t M 13 [vr x0, vi x1, vi x2, vU, vU] [] := by
          intro k13
          induction k13 with
          | zero => intro c s n x0 x1 x2 t M hc hs hM hqE hkx0 hx1 hx2 hp; exact hp.elim
          | succ k13 ih13 =>
            intro c s n x0 x1 x2 t M hc hs hM hqE hkx0 hx1 hx2 hp
            unfold p_X14_tick_13 at hp
            refine xJ_iload_n hX dX14_tick_13 rfl ?_
            refine xJ_aload_n hX dX14_tick_14 rfl ?_
            obtain ⟨b15, e15, hkb15, hp⟩ := hp
            refine xJ_getR (b := b15) hX dX14_tick_15 fd_X14_15 rfl hkx0 e15 ?_
            refine xJ_alen hX dX14_tick_18 (by rw [hkb15]; decide) (by rw [hkb15]; decide) ?_
            obtain ⟨h18, hp⟩ := hp
            refine xJ_icmp_ge hX dX14_tick_19 (tgt := 64) (by decide) hx2 h18 (fun c19 => ?_) (fun c19 => ?_)
            · replace hp := hp.1 c19
              refine xJ_fg 2 ?_
              dsimp only [List.set]
              exact l64 _ _ _ _ _ _ _ (by omega) (by omega) hM hqE hkx0 hx1 hp
            · replace hp := hp.2 c19
              refine xJ_aload_n hX dX14_tick_22 rfl ?_
              obtain ⟨b23, e23, hkb23, hp⟩ := hp
              refine xJ_getR (b := b23) hX dX14_tick_23 fd_X14_31 rfl hkx0 e23 ?_
              refine xJ_iload_n hX dX14_tick_26 rfl ?_
              obtain ⟨h27, hp⟩ := hp
              obtain ⟨b27, e27, hkb27, hp⟩ := hp
              refine xJ_aaldOb hX dX14_tick_27 hkb23 h27.1 h27.2 e27 ?_
              refine xJ_iload_n hX dX14_tick_28 rfl ?_
              refine xJ_aload_n hX dX14_tick_29 rfl ?_
              obtain ⟨b30, e30, hkb30, hp⟩ := hp
              refine xJ_getR (b := b30) hX dX14_tick_30 fd_X14_9 rfl hkx0 e30 ?_
              refine xJ_iload_n hX dX14_tick_33 rfl ?_
              obtain ⟨h34, hp⟩ := hp
              obtain ⟨b34, e34, hkb34, hp⟩ := hp
              refine xJ_aaldOb hX dX14_tick_34 hkb30 h34.1 h34.2 e34 ?_
              refine xJ_iconst hX dX14_tick_35 ?_
              obtain ⟨h36, hp⟩ := hp
              refine xJ_iald hX dX14_tick_36 hkb34 h36.1 h36.2 ?_
              refine xJ_aload_n hX dX14_tick_37 rfl ?_
              refine xJ_getR (b := b23) hX dX14_tick_38 fd_X14_31 rfl hkx0 e23 ?_
              refine xJ_iload_n hX dX14_tick_41 rfl ?_
              obtain ⟨h42, hp⟩ := hp
              obtain ⟨b42, e42, hkb42, hp⟩ := hp
              refine xJ_aaldOb hX dX14_tick_42 hkb23 h42.1 h42.2 e42 ?_
              refine xJ_iload_n hX dX14_tick_43 rfl ?_
              obtain ⟨h44, hp⟩ := hp
              refine xJ_iald hX dX14_tick_44 hkb42 h44.1 h44.2 ?_
              refine xJ_aload_n hX dX14_tick_45 rfl ?_
              refine xJ_getR (b := b30) hX dX14_tick_46 fd_X14_9 rfl hkx0 e30 ?_
              refine xJ_iload_n hX dX14_tick_49 rfl ?_
              obtain ⟨h50, hp⟩ := hp
              obtain ⟨b50, e50, hkb50, hp⟩ := hp
              refine xJ_aaldOb hX dX14_tick_50 hkb30 h50.1 h50.2 e50 ?_
              refine xJ_iconst hX dX14_tick_51 ?_
              obtain ⟨h52, hp⟩ := hp
              refine xJ_iald hX dX14_tick_52 hkb50 h52.1 h52.2 ?_
              refine xJ_iadd hX dX14_tick_53 ?_
              obtain ⟨h53, hp⟩ := hp
              refine xJ_mmin hX hB dX14_tick_54 lj_X14_72 jw_min_st jw_ma_in jw_min_co rfl (by decide) (Nat.le_of_ble_eq_true rfl) (by omega) (by omega) (hM _ _) h53 ?_
              obtain ⟨h57, hp⟩ := hp
              refine xJ_iastM hX dX14_tick_57 hkb27 h57.1 h57.2 hM (xR_min (hM _ _) h53) (fun M57 e57 hM57 => ?_)
              replace hp := hp M57 e57
              refine xJ_iinc hX dX14_tick_58 rfl rfl ?_
              dsimp only [List.set]
              obtain ⟨h58, hp⟩ := hp
              refine xJ_goto hX dX14_tick_61 (tgt := 13) (by decide) ?_
              exact ih13 _ _ _ _ _ _ _ _ (by omega) (by omega) hM57 hqE hkx0 hx1 h58 hp
        exact l13 F _ _ _ _ _ _ _ _ (by omega) (by omega) hM hqE hkx0 hx1 ⟨by decide, by decide⟩ hp
  exact l2 F _ _ _ _ _ _ _ (by omega) (by omega) hME (xke_refl _) hkx0 ⟨by decide, by decide⟩ hp
def p_X14_count_14 (F : Nat) (Q : Int → xTh → xMe → Prop) : Nat → Nat → Int → Int → Nat → Int → Int → xTh → xMe → Prop
  | 0, _, _, _, _, _, _, _, _ => False
  | k + 1, n, x1, x2, x3, x4, x5, t, M =>
    ((x4 ≤ x5 → Q x2 t M) ∧ (x5 < x4 → ((0 : Int) ≤ x5 ∧ x5 < (xn t x3 : Int)) ∧ (∃ b24 : Nat, xr t x3 x5.toNat = some b24 ∧ xk t b24 = 14 ∧ ((0 : Int) ≤ 3 ∧ 3 < (xn t b24 : Int)) ∧ (((M b24 3) ≠ x1 → (xR (x5 + 1)) ∧ p_X14_count_14 F Q k n x1 x2 x3 x4 (x5 + 1) t M) ∧ ((M b24 3) = x1 → (xR (x2 + 1)) ∧ (xR (x5 + 1)) ∧ p_X14_count_14 F Q k n x1 (x2 + 1) x3 x4 (x5 + 1) t M)))))
def p_X14_count (F : Nat) (n : Nat) (tE : xTh) (x0 : Nat) (x1 : Int) (ME : xMe) (Q : Int → xTh → xMe → Prop) : Prop :=
  (∃ b3 : Nat, xr tE x0 4 = some b3 ∧ xk tE b3 = 17 ∧ (xR ((xn tE b3 : Nat) : Int)) ∧ (∀ z9 : Int, z9 = ((xn tE b3 : Nat) : Int) → p_X14_count_14 F Q F n x1 0 b3 z9 0 tE ME))
set_option maxHeartbeats 8000000 in
set_option maxRecDepth 100000 in
theorem c_X14_count {G : xGx} {tE : xTh} {ME : xMe} {F nE : Nat} {x0 : Nat} {x1 : Int} {Q : Int → xTh → xMe → Prop} (hME : xMR ME) (hkx0 : xk tE x0 = 20) (hx1 : xR x1) (hp : p_X14_count F nE tE x0 x1 ME Q) : xCt G yX14_count cX14_count 7 (some .int) 1 nE (64 * nE) [vr x0, vi x1] tE ME (fun v t' M' => ∃ r, v = some (vi r) ∧ xR r ∧ xMR M' ∧ xke tE t' ∧ Q r t' M') (fun _ _ _ => False) := by
  refine xCt_of (L0 := [vr x0, vi x1, vU, vU, vU, vU, vU]) (by decide +kernel) (Nat.le_of_ble_eq_true rfl) rfl ?_
  intro X hX hB
  unfold p_X14_count at hp
  refine xJ_iconst hX dX14_count_0 ?_
  refine xJ_istore_n hX dX14_count_1 (Nat.le_of_ble_eq_true rfl) rfl ?_
  dsimp only [List.set]
  refine xJ_aload_n hX dX14_count_2 rfl ?_
  obtain ⟨b3, e3, hkb3, hp⟩ := hp
  refine xJ_getR (b := b3) hX dX14_count_3 fd_X14_21 rfl hkx0 e3 ?_
  refine xJ_astore_n hX dX14_count_6 (Nat.le_of_ble_eq_true rfl) rfl ?_
  dsimp only [List.set]
  refine xJ_aload_n hX dX14_count_7 rfl ?_
  refine xJ_alen hX dX14_count_8 (by rw [hkb3]; decide) (by rw [hkb3]; decide) ?_
  obtain ⟨h8, hp⟩ := hp
  refine xJ_istore hX dX14_count_9 (Nat.le_of_ble_eq_true rfl) rfl ?_
  dsimp only [List.set]
  replace hp := hp _ rfl
  refine xJ_iconst hX dX14_count_11 ?_
  refine xJ_istore hX dX14_count_12 (Nat.le_of_ble_eq_true rfl) rfl ?_
  dsimp only [List.set]
  have l14 : ∀ (k14 : Nat) (c s n : Nat) (x1 : Int) (x2 : Int) (x3 : Nat) (x4 : Int) (x5 : Int) (t : xTh) (M : xMe) (hc : c + n ≤ nE) (hs : s + 64 * n ≤ 64 * nE) (hM : xMR M) (hqE : xke tE t) (hx1 : xR x1) (hx2 : xR x2) (hkx3 : xk t x3 = 17) (hx4 : xR x4) (hx5 : xR x5) (hp : p_X14_count_14 F Q k14 n x1 x2 x3 x4 x5 t M), xJ X c s t M 14 [vU, vi x1, vi x2, vr x3, vi x4, vi x5, vU] [] := by
    intro k14
    induction k14 with
    | zero => intro c s n x1 x2 x3 x4 x5 t M hc hs hM hqE hx1 hx2 hkx3 hx4 hx5 hp; exact hp.elim
    | succ k14 ih14 =>
      intro c s n x1 x2 x3 x4 x5 t M hc hs hM hqE hx1 hx2 hkx3 hx4 hx5 hp
      unfold p_X14_count_14 at hp
      refine xJ_iload hX dX14_count_14 rfl ?_
      refine xJ_iload hX dX14_count_16 rfl ?_
      refine xJ_icmp_ge hX dX14_count_18 (tgt := 44) (by decide) hx5 hx4 (fun c18 => ?_) (fun c18 => ?_)
      · replace hp := hp.1 c18
        refine xJ_iload_n hX dX14_count_44 rfl ?_
        exact xJ_iret hX hB dX14_count_45 (by omega) (by omega) ⟨_, rfl, hx2, hM, hqE, hp⟩
      · replace hp := hp.2 c18
        refine xJ_aload_n hX dX14_count_21 rfl ?_
        refine xJ_iload hX dX14_count_22 rfl ?_
        obtain ⟨h24, hp⟩ := hp
        obtain ⟨b24, e24, hkb24, hp⟩ := hp
        refine xJ_aaldOb hX dX14_count_24 hkx3 h24.1 h24.2 e24 ?_
        refine xJ_astore hX dX14_count_25 (Nat.le_of_ble_eq_true rfl) rfl ?_
        dsimp only [List.set]
        refine xJ_aload hX dX14_count_27 rfl ?_
        refine xJ_iconst hX dX14_count_29 ?_
        obtain ⟨h30, hp⟩ := hp
        refine xJ_iald hX dX14_count_30 hkb24 h30.1 h30.2 ?_
        refine xJ_iload_n hX dX14_count_31 rfl ?_
        refine xJ_icmp_ne hX dX14_count_32 (tgt := 38) (by decide) (hM _ _) hx1 (fun c32 => ?_) (fun c32 => ?_)
        · replace hp := hp.1 c32
          refine xJ_iinc hX dX14_count_38 rfl rfl ?_
          dsimp only [List.set]
          obtain ⟨h38, hp⟩ := hp
          refine xJ_goto hX dX14_count_41 (tgt := 14) (by decide) ?_
          refine xJ_fg 6 ?_
          dsimp only [List.set]
          exact ih14 _ _ _ _ _ _ _ _ _ _ (by omega) (by omega) hM hqE hx1 hx2 hkx3 hx4 h38 hp
        · replace hp := hp.2 c32
          refine xJ_iinc hX dX14_count_35 rfl rfl ?_
          dsimp only [List.set]
          obtain ⟨h35, hp⟩ := hp
          refine xJ_iinc hX dX14_count_38 rfl rfl ?_
          dsimp only [List.set]
          obtain ⟨h38, hp⟩ := hp
          refine xJ_goto hX dX14_count_41 (tgt := 14) (by decide) ?_
          refine xJ_fg 6 ?_
          dsimp only [List.set]
          exact ih14 _ _ _ _ _ _ _ _ _ _ (by omega) (by omega) hM hqE hx1 h35 hkx3 hx4 h38 hp
  refine xJ_fg 0 ?_
  dsimp only [List.set]
  exact l14 F _ _ _ _ _ _ _ _ _ _ (by omega) (by omega) hME (xke_refl _) hx1 ⟨by decide, by decide⟩ hkb3 h8 ⟨by decide, by decide⟩ hp
def p_X14_told (F : Nat) (n : Nat) (tE : xTh) (x0 : Nat) (x1 : Int) (ME : xMe) (Q : Int → xTh → xMe → Prop) : Prop :=
  ((x1 ≠ 0 → ((x1 ≠ 1 → ((x1 ≠ 2 → ((x1 ≠ 3 → ((x1 ≠ 4 → ((x1 ≠ 5 → ((x1 ≠ 6 → ((x1 ≠ 7 → ((x1 ≠ 8 → Q (ME x0 10) tE ME) ∧ (x1 = 8 → Q (ME x0 9) tE ME))) ∧ (x1 = 7 → Q (ME x0 8) tE ME))) ∧ (x1 = 6 → (∃ k84 : Nat, k84 ≤ n ∧ p_X14_count F k84 tE x0 4 ME (fun r84 t84 M84 => Q r84 t84 M84))))) ∧ (x1 = 5 → (∃ k70 : Nat, k70 ≤ n ∧ p_X14_count F k70 tE x0 3 ME (fun r70 t70 M70 => Q r70 t70 M70))))) ∧ (x1 = 4 → (∃ b56 : Nat, xr tE x0 5 = some b56 ∧ xk tE b56 = 17 ∧ (xR ((xn tE b56 : Nat) : Int)) ∧ Q (((xn tE b56 : Nat) : Int)) tE ME)))) ∧ (x1 = 3 → (∃ b43 : Nat, xr tE x0 4 = some b43 ∧ xk tE b43 = 17 ∧ (xR ((xn tE b43 : Nat) : Int)) ∧ Q (((xn tE b43 : Nat) : Int)) tE ME)))) ∧ (x1 = 2 → (∃ b30 : Nat, xr tE x0 2 = some b30 ∧ xk tE b30 = 17 ∧ (xR ((xn tE b30 : Nat) : Int)) ∧ Q (((xn tE b30 : Nat) : Int)) tE ME)))) ∧ (x1 = 1 → (∃ b17 : Nat, xr tE x0 1 = some b17 ∧ xk tE b17 = 17 ∧ (xR ((xn tE b17 : Nat) : Int)) ∧ Q (((xn tE b17 : Nat) : Int)) tE ME)))) ∧ (x1 = 0 → Q (ME x0 0) tE ME))
set_option maxHeartbeats 8000000 in
set_option maxRecDepth 100000 in
theorem c_X14_told {G : xGx} {tE : xTh} {ME : xMe} {F nE : Nat} {x0 : Nat} {x1 : Int} {Q : Int → xTh → xMe → Prop} (hME : xMR ME) (hkx0 : xk tE x0 = 20) (hx1 : xR x1) (hp : p_X14_told F nE tE x0 x1 ME Q) : xCt G yX14_told cX14_told 2 (some .int) 2 nE (64 * nE) [vr x0, vi x1] tE ME (fun v t' M' => ∃ r, v = some (vi r) ∧ xR r ∧ xMR M' ∧ xke tE t' ∧ Q r t' M') (fun _ _ _ => False) := by
  refine xCt_of (L0 := [vr x0, vi x1]) (by decide +kernel) (Nat.le_of_ble_eq_true rfl) rfl ?_
  intro X hX hB
  unfold p_X14_told at hp
  refine xJ_iload_n hX dX14_told_0 rfl ?_
  refine xJ_if_ne hX dX14_told_1 (tgt := 11) (by decide) hx1 (fun c1 => ?_) (fun c1 => ?_)
  · replace hp := hp.1 c1
    refine xJ_iload_n hX dX14_told_11 rfl ?_
    refine xJ_iconst hX dX14_told_12 ?_
    refine xJ_icmp_ne hX dX14_told_13 (tgt := 24) (by decide) hx1 ⟨by decide, by decide⟩ (fun c13 => ?_) (fun c13 => ?_)
    · replace hp := hp.1 c13
      refine xJ_iload_n hX dX14_told_24 rfl ?_
      refine xJ_iconst hX dX14_told_25 ?_
      refine xJ_icmp_ne hX dX14_told_26 (tgt := 37) (by decide) hx1 ⟨by decide, by decide⟩ (fun c26 => ?_) (fun c26 => ?_)
      · replace hp := hp.1 c26
        refine xJ_iload_n hX dX14_told_37 rfl ?_
        refine xJ_iconst hX dX14_told_38 ?_
        refine xJ_icmp_ne hX dX14_told_39 (tgt := 50) (by decide) hx1 ⟨by decide, by decide⟩ (fun c39 => ?_) (fun c39 => ?_)
        · replace hp := hp.1 c39
          refine xJ_iload_n hX dX14_told_50 rfl ?_
          refine xJ_iconst hX dX14_told_51 ?_
          refine xJ_icmp_ne hX dX14_told_52 (tgt := 63) (by decide) hx1 ⟨by decide, by decide⟩ (fun c52 => ?_) (fun c52 => ?_)
          · replace hp := hp.1 c52
            refine xJ_iload_n hX dX14_told_63 rfl ?_
            refine xJ_iconst hX dX14_told_64 ?_
            refine xJ_icmp_ne hX dX14_told_65 (tgt := 76) (by decide) hx1 ⟨by decide, by decide⟩ (fun c65 => ?_) (fun c65 => ?_)
            · replace hp := hp.1 c65
              refine xJ_iload_n hX dX14_told_76 rfl ?_
              refine xJ_bipush hX dX14_told_77 rfl ?_
              refine xJ_icmp_ne hX dX14_told_79 (tgt := 90) (by decide) hx1 ⟨by decide, by decide⟩ (fun c79 => ?_) (fun c79 => ?_)
              · replace hp := hp.1 c79
                refine xJ_iload_n hX dX14_told_90 rfl ?_
                refine xJ_bipush hX dX14_told_91 rfl ?_
                refine xJ_icmp_ne hX dX14_told_93 (tgt := 103) (by decide) hx1 ⟨by decide, by decide⟩ (fun c93 => ?_) (fun c93 => ?_)
                · replace hp := hp.1 c93
                  refine xJ_iload_n hX dX14_told_103 rfl ?_
                  refine xJ_bipush hX dX14_told_104 rfl ?_
                  refine xJ_icmp_ne hX dX14_told_106 (tgt := 116) (by decide) hx1 ⟨by decide, by decide⟩ (fun c106 => ?_) (fun c106 => ?_)
                  · replace hp := hp.1 c106
                    refine xJ_aload_n hX dX14_told_116 rfl ?_
                    refine xJ_getI hX dX14_told_117 fd_X14_34 rfl hkx0 ?_
                    exact xJ_iret hX hB dX14_told_120 (by omega) (by omega) ⟨_, rfl, (hME _ _), hME, (xke_refl _), hp⟩
                  · replace hp := hp.2 c106
                    refine xJ_aload_n hX dX14_told_109 rfl ?_
                    refine xJ_getI hX dX14_told_110 fd_X14_57 rfl hkx0 ?_
                    refine xJ_goto hX dX14_told_113 (tgt := 120) (by decide) ?_
                    exact xJ_iret hX hB dX14_told_120 (by omega) (by omega) ⟨_, rfl, (hME _ _), hME, (xke_refl _), hp⟩
                · replace hp := hp.2 c93
                  refine xJ_aload_n hX dX14_told_96 rfl ?_
                  refine xJ_getI hX dX14_told_97 fd_X14_54 rfl hkx0 ?_
                  refine xJ_goto hX dX14_told_100 (tgt := 120) (by decide) ?_
                  exact xJ_iret hX hB dX14_told_120 (by omega) (by omega) ⟨_, rfl, (hME _ _), hME, (xke_refl _), hp⟩
              · replace hp := hp.2 c79
                refine xJ_aload_n hX dX14_told_82 rfl ?_
                refine xJ_iconst hX dX14_told_83 ?_
                obtain ⟨k84, hn84, hp⟩ := hp
                refine xJ_callV (As := [_]) hX hB dX14_told_84 lk_X14_124 im_X14_count se_X14_count rfl (by decide) hkx0 (c_X14_count hME hkx0 ⟨by decide, by decide⟩ hp) (by decide) rfl rfl rfl (Nat.le_of_ble_eq_true rfl) (by omega) (by omega) (fun v t84 M84 hv => ?_) (fun _ _ _ q => q.elim)
                clear hp
                obtain ⟨r84, rfl, h84, hM84, hq84, hp⟩ := hv
                dsimp only [Option.toList, List.cons_append, List.nil_append]
                refine xJ_goto hX dX14_told_87 (tgt := 120) (by decide) ?_
                exact xJ_iret hX hB dX14_told_120 (by omega) (by omega) ⟨_, rfl, h84, hM84, (xke_trans (xke_refl _) hq84), hp⟩
            · replace hp := hp.2 c65
              refine xJ_aload_n hX dX14_told_68 rfl ?_
              refine xJ_iconst hX dX14_told_69 ?_
              obtain ⟨k70, hn70, hp⟩ := hp
              refine xJ_callV (As := [_]) hX hB dX14_told_70 lk_X14_124 im_X14_count se_X14_count rfl (by decide) hkx0 (c_X14_count hME hkx0 ⟨by decide, by decide⟩ hp) (by decide) rfl rfl rfl (Nat.le_of_ble_eq_true rfl) (by omega) (by omega) (fun v t70 M70 hv => ?_) (fun _ _ _ q => q.elim)
              clear hp
              obtain ⟨r70, rfl, h70, hM70, hq70, hp⟩ := hv
              dsimp only [Option.toList, List.cons_append, List.nil_append]
              refine xJ_goto hX dX14_told_73 (tgt := 120) (by decide) ?_
              exact xJ_iret hX hB dX14_told_120 (by omega) (by omega) ⟨_, rfl, h70, hM70, (xke_trans (xke_refl _) hq70), hp⟩
          · replace hp := hp.2 c52
            refine xJ_aload_n hX dX14_told_55 rfl ?_
            obtain ⟨b56, e56, hkb56, hp⟩ := hp
            refine xJ_getR (b := b56) hX dX14_told_56 fd_X14_24 rfl hkx0 e56 ?_
            refine xJ_alen hX dX14_told_59 (by rw [hkb56]; decide) (by rw [hkb56]; decide) ?_
            obtain ⟨h59, hp⟩ := hp
            refine xJ_goto hX dX14_told_60 (tgt := 120) (by decide) ?_
            exact xJ_iret hX hB dX14_told_120 (by omega) (by omega) ⟨_, rfl, h59, hME, (xke_refl _), hp⟩
        · replace hp := hp.2 c39
          refine xJ_aload_n hX dX14_told_42 rfl ?_
          obtain ⟨b43, e43, hkb43, hp⟩ := hp
          refine xJ_getR (b := b43) hX dX14_told_43 fd_X14_21 rfl hkx0 e43 ?_
          refine xJ_alen hX dX14_told_46 (by rw [hkb43]; decide) (by rw [hkb43]; decide) ?_
          obtain ⟨h46, hp⟩ := hp
          refine xJ_goto hX dX14_told_47 (tgt := 120) (by decide) ?_
          exact xJ_iret hX hB dX14_told_120 (by omega) (by omega) ⟨_, rfl, h46, hME, (xke_refl _), hp⟩
      · replace hp := hp.2 c26
        refine xJ_aload_n hX dX14_told_29 rfl ?_
        obtain ⟨b30, e30, hkb30, hp⟩ := hp
        refine xJ_getR (b := b30) hX dX14_told_30 fd_X14_15 rfl hkx0 e30 ?_
        refine xJ_alen hX dX14_told_33 (by rw [hkb30]; decide) (by rw [hkb30]; decide) ?_
        obtain ⟨h33, hp⟩ := hp
        refine xJ_goto hX dX14_told_34 (tgt := 120) (by decide) ?_
        exact xJ_iret hX hB dX14_told_120 (by omega) (by omega) ⟨_, rfl, h33, hME, (xke_refl _), hp⟩
    · replace hp := hp.2 c13
      refine xJ_aload_n hX dX14_told_16 rfl ?_
      obtain ⟨b17, e17, hkb17, hp⟩ := hp
      refine xJ_getR (b := b17) hX dX14_told_17 fd_X14_9 rfl hkx0 e17 ?_
      refine xJ_alen hX dX14_told_20 (by rw [hkb17]; decide) (by rw [hkb17]; decide) ?_
      obtain ⟨h20, hp⟩ := hp
      refine xJ_goto hX dX14_told_21 (tgt := 120) (by decide) ?_
      exact xJ_iret hX hB dX14_told_120 (by omega) (by omega) ⟨_, rfl, h20, hME, (xke_refl _), hp⟩
  · replace hp := hp.2 c1
    refine xJ_aload_n hX dX14_told_4 rfl ?_
    refine xJ_getI hX dX14_told_5 fd_X14_45 rfl hkx0 ?_
    refine xJ_goto hX dX14_told_8 (tgt := 120) (by decide) ?_
    exact xJ_iret hX hB dX14_told_120 (by omega) (by omega) ⟨_, rfl, (hME _ _), hME, (xke_refl _), hp⟩
def p_X14_flow_47 (F : Nat) (Q : Int → xTh → xMe → Prop) (n : Nat) (x0 : Nat) (x1 : Int) (x2 : Int) (x3 : Int) (t : xTh) (M : xMe) : Prop :=
    ((x2 ≠ 0 → ((x2 ≠ 1 → ((x2 ≠ 2 → ((x2 ≠ 3 → ((x2 ≠ 4 → (∃ b116 : Nat, xr t x0 2 = some b116 ∧ xk t b116 = 17 ∧ ((0 : Int) ≤ x1 ∧ x1 < (xn t b116 : Int)) ∧ (∃ b120 : Nat, xr t b116 x1.toNat = some b120 ∧ xk t b120 = 14 ∧ ((0 : Int) ≤ 2 ∧ 2 < (xn t b120 : Int)) ∧ Q (M b120 2) t M))) ∧ (x2 = 4 → (∃ k109 : Nat, k109 ≤ n ∧ p_X14_sum F k109 t x0 x1 M (fun r109 t109 M109 => Q r109 t109 M109))))) ∧ (x2 = 3 → Q x3 t M))) ∧ (x2 = 2 → (∃ b83 : Nat, xr t x0 2 = some b83 ∧ xk t b83 = 17 ∧ ((0 : Int) ≤ x1 ∧ x1 < (xn t b83 : Int)) ∧ (∃ b87 : Nat, xr t b83 x1.toNat = some b87 ∧ xk t b87 = 14 ∧ ((0 : Int) ≤ 1 ∧ 1 < (xn t b87 : Int)) ∧ Q (M b87 1) t M))))) ∧ (x2 = 1 → (∃ b67 : Nat, xr t x0 2 = some b67 ∧ xk t b67 = 17 ∧ ((0 : Int) ≤ x1 ∧ x1 < (xn t b67 : Int)) ∧ (∃ b71 : Nat, xr t b67 x1.toNat = some b71 ∧ xk t b71 = 14 ∧ ((0 : Int) ≤ 0 ∧ 0 < (xn t b71 : Int)) ∧ Q (M b71 0) t M))))) ∧ (x2 = 0 → (∃ b52 : Nat, xr t x0 3 = some b52 ∧ xk t b52 = 17 ∧ ((0 : Int) ≤ x1 ∧ x1 < (xn t b52 : Int)) ∧ (∃ b56 : Nat, xr t b52 x1.toNat = some b56 ∧ xk t b56 = 14 ∧ (xR ((xn t b56 : Nat) : Int)) ∧ Q (((xn t b56 : Nat) : Int)) t M))))
def p_X14_flow_16 (F : Nat) (Q : Int → xTh → xMe → Prop) (K47 : Nat → Nat → Int → Int → Int → xTh → xMe → Prop) : Nat → Nat → Nat → Int → Int → Int → Nat → Int → Int → xTh → xMe → Prop
  | 0, _, _, _, _, _, _, _, _, _, _ => False
  | k + 1, n, x0, x1, x2, x3, x4, x5, x6, t, M =>
    ((x5 ≤ x6 → K47 n x0 x1 x2 x3 t M) ∧ (x6 < x5 → ((0 : Int) ≤ x6 ∧ x6 < (xn t x4 : Int)) ∧ (∃ b27 : Nat, xr t x4 x6.toNat = some b27 ∧ xk t b27 = 14 ∧ ((0 : Int) ≤ 0 ∧ 0 < (xn t b27 : Int)) ∧ (((M b27 0) ≠ x1 → (xR (x6 + 1)) ∧ p_X14_flow_16 F Q K47 k n x0 x1 x2 x3 x4 x5 (x6 + 1) t M) ∧ ((M b27 0) = x1 → (xR (x3 + 1)) ∧ (xR (x6 + 1)) ∧ p_X14_flow_16 F Q K47 k n x0 x1 x2 (x3 + 1) x4 x5 (x6 + 1) t M)))))
def p_X14_flow (F : Nat) (n : Nat) (tE : xTh) (x0 : Nat) (x1 : Int) (x2 : Int) (ME : xMe) (Q : Int → xTh → xMe → Prop) : Prop :=
  (∃ b3 : Nat, xr tE x0 5 = some b3 ∧ xk tE b3 = 17 ∧ (xR ((xn tE b3 : Nat) : Int)) ∧ (∀ z11 : Int, z11 = ((xn tE b3 : Nat) : Int) → p_X14_flow_16 F Q (p_X14_flow_47 F Q) F n x0 x1 x2 0 b3 z11 0 tE ME))
set_option maxHeartbeats 8000000 in
set_option maxRecDepth 100000 in
theorem c_X14_flow {G : xGx} {tE : xTh} {ME : xMe} {F nE : Nat} {x0 : Nat} {x1 : Int} {x2 : Int} {Q : Int → xTh → xMe → Prop} (hME : xMR ME) (hkx0 : xk tE x0 = 20) (hx1 : xR x1) (hx2 : xR x2) (hp : p_X14_flow F nE tE x0 x1 x2 ME Q) : xCt G yX14_flow cX14_flow 8 (some .int) 2 nE (64 * nE) [vr x0, vi x1, vi x2] tE ME (fun v t' M' => ∃ r, v = some (vi r) ∧ xR r ∧ xMR M' ∧ xke tE t' ∧ Q r t' M') (fun _ _ _ => False) := by
  refine xCt_of (L0 := [vr x0, vi x1, vi x2, vU, vU, vU, vU, vU]) (by decide +kernel) (Nat.le_of_ble_eq_true rfl) rfl ?_
  intro X hX hB
  unfold p_X14_flow at hp
  refine xJ_iconst hX dX14_flow_0 ?_
  refine xJ_istore_n hX dX14_flow_1 (Nat.le_of_ble_eq_true rfl) rfl ?_
  dsimp only [List.set]
  refine xJ_aload_n hX dX14_flow_2 rfl ?_
  obtain ⟨b3, e3, hkb3, hp⟩ := hp
  refine xJ_getR (b := b3) hX dX14_flow_3 fd_X14_24 rfl hkx0 e3 ?_
  refine xJ_astore hX dX14_flow_6 (Nat.le_of_ble_eq_true rfl) rfl ?_
  dsimp only [List.set]
  refine xJ_aload hX dX14_flow_8 rfl ?_
  refine xJ_alen hX dX14_flow_10 (by rw [hkb3]; decide) (by rw [hkb3]; decide) ?_
  obtain ⟨h10, hp⟩ := hp
  refine xJ_istore hX dX14_flow_11 (Nat.le_of_ble_eq_true rfl) rfl ?_
  dsimp only [List.set]
  replace hp := hp _ rfl
  refine xJ_iconst hX dX14_flow_13 ?_
  refine xJ_istore hX dX14_flow_14 (Nat.le_of_ble_eq_true rfl) rfl ?_
  dsimp only [List.set]
  have l47 : ∀ (c s n : Nat) (x0 : Nat) (x1 : Int) (x2 : Int) (x3 : Int) (t : xTh) (M : xMe) (hc : c + n ≤ nE) (hs : s + 64 * n ≤ 64 * nE) (hM : xMR M) (hqE : xke tE t) (hkx0 : xk t x0 = 20) (hx1 : xR x1) (hx2 : xR x2) (hx3 : xR x3) (hp : p_X14_flow_47 F Q n x0 x1 x2 x3 t M), xJ X c s t M 47 [vr x0, vi x1, vi x2, vi x3, vU, vU, vU, vU] [] := by
    intro c s n x0 x1 x2 x3 t M hc hs hM hqE hkx0 hx1 hx2 hx3 hp
    unfold p_X14_flow_47 at hp
    refine xJ_iload_n hX dX14_flow_47 rfl ?_
    refine xJ_if_ne hX dX14_flow_48 (tgt := 61) (by decide) hx2 (fun c48 => ?_) (fun c48 => ?_)
    · replace hp := hp.1 c48
      refine xJ_iload_n hX dX14_flow_61 rfl ?_
      refine xJ_iconst hX dX14_flow_62 ?_
      refine xJ_icmp_ne hX dX14_flow_63 (tgt := 77) (by decide) hx2 ⟨by decide, by decide⟩ (fun c63 => ?_) (fun c63 => ?_)
      · replace hp := hp.1 c63
        refine xJ_iload_n hX dX14_flow_77 rfl ?_
        refine xJ_iconst hX dX14_flow_78 ?_
        refine xJ_icmp_ne hX dX14_flow_79 (tgt := 93) (by decide) hx2 ⟨by decide, by decide⟩ (fun c79 => ?_) (fun c79 => ?_)
        · replace hp := hp.1 c79
          refine xJ_iload_n hX dX14_flow_93 rfl ?_
          refine xJ_iconst hX dX14_flow_94 ?_
          refine xJ_icmp_ne hX dX14_flow_95 (tgt := 102) (by decide) hx2 ⟨by decide, by decide⟩ (fun c95 => ?_) (fun c95 => ?_)
          · replace hp := hp.1 c95
            refine xJ_iload_n hX dX14_flow_102 rfl ?_
            refine xJ_iconst hX dX14_flow_103 ?_
            refine xJ_icmp_ne hX dX14_flow_104 (tgt := 115) (by decide) hx2 ⟨by decide, by decide⟩ (fun c104 => ?_) (fun c104 => ?_)
            · replace hp := hp.1 c104
              refine xJ_aload_n hX dX14_flow_115 rfl ?_
              obtain ⟨b116, e116, hkb116, hp⟩ := hp
              refine xJ_getR (b := b116) hX dX14_flow_116 fd_X14_15 rfl hkx0 e116 ?_
              refine xJ_iload_n hX dX14_flow_119 rfl ?_
              obtain ⟨h120, hp⟩ := hp
              obtain ⟨b120, e120, hkb120, hp⟩ := hp
              refine xJ_aaldOb hX dX14_flow_120 hkb116 h120.1 h120.2 e120 ?_
              refine xJ_iconst hX dX14_flow_121 ?_
              obtain ⟨h122, hp⟩ := hp
              refine xJ_iald hX dX14_flow_122 hkb120 h122.1 h122.2 ?_
              exact xJ_iret hX hB dX14_flow_123 (by omega) (by omega) ⟨_, rfl, (hM _ _), hM, hqE, hp⟩
            · replace hp := hp.2 c104
              refine xJ_aload_n hX dX14_flow_107 rfl ?_
              refine xJ_iload_n hX dX14_flow_108 rfl ?_
              obtain ⟨k109, hn109, hp⟩ := hp
              refine xJ_callV (As := [_]) hX hB dX14_flow_109 lk_X14_85 im_X14_sum se_X14_sum rfl (by decide) hkx0 (c_X14_sum hM hkx0 hx1 hp) (by decide) rfl rfl rfl (Nat.le_of_ble_eq_true rfl) (by omega) (by omega) (fun v t109 M109 hv => ?_) (fun _ _ _ q => q.elim)
              clear hp
              obtain ⟨r109, rfl, h109, hM109, hq109, hp⟩ := hv
              dsimp only [Option.toList, List.cons_append, List.nil_append]
              refine xJ_goto hX dX14_flow_112 (tgt := 123) (by decide) ?_
              exact xJ_iret hX hB dX14_flow_123 (by omega) (by omega) ⟨_, rfl, h109, hM109, (xke_trans hqE hq109), hp⟩
          · replace hp := hp.2 c95
            refine xJ_iload_n hX dX14_flow_98 rfl ?_
            refine xJ_goto hX dX14_flow_99 (tgt := 123) (by decide) ?_
            exact xJ_iret hX hB dX14_flow_123 (by omega) (by omega) ⟨_, rfl, hx3, hM, hqE, hp⟩
        · replace hp := hp.2 c79
          refine xJ_aload_n hX dX14_flow_82 rfl ?_
          obtain ⟨b83, e83, hkb83, hp⟩ := hp
          refine xJ_getR (b := b83) hX dX14_flow_83 fd_X14_15 rfl hkx0 e83 ?_
          refine xJ_iload_n hX dX14_flow_86 rfl ?_
          obtain ⟨h87, hp⟩ := hp
          obtain ⟨b87, e87, hkb87, hp⟩ := hp
          refine xJ_aaldOb hX dX14_flow_87 hkb83 h87.1 h87.2 e87 ?_
          refine xJ_iconst hX dX14_flow_88 ?_
          obtain ⟨h89, hp⟩ := hp
          refine xJ_iald hX dX14_flow_89 hkb87 h89.1 h89.2 ?_
          refine xJ_goto hX dX14_flow_90 (tgt := 123) (by decide) ?_
          exact xJ_iret hX hB dX14_flow_123 (by omega) (by omega) ⟨_, rfl, (hM _ _), hM, hqE, hp⟩
      · replace hp := hp.2 c63
        refine xJ_aload_n hX dX14_flow_66 rfl ?_
        obtain ⟨b67, e67, hkb67, hp⟩ := hp
        refine xJ_getR (b := b67) hX dX14_flow_67 fd_X14_15 rfl hkx0 e67 ?_
        refine xJ_iload_n hX dX14_flow_70 rfl ?_
        obtain ⟨h71, hp⟩ := hp
        obtain ⟨b71, e71, hkb71, hp⟩ := hp
        refine xJ_aaldOb hX dX14_flow_71 hkb67 h71.1 h71.2 e71 ?_
        refine xJ_iconst hX dX14_flow_72 ?_
        obtain ⟨h73, hp⟩ := hp
        refine xJ_iald hX dX14_flow_73 hkb71 h73.1 h73.2 ?_
        refine xJ_goto hX dX14_flow_74 (tgt := 123) (by decide) ?_
        exact xJ_iret hX hB dX14_flow_123 (by omega) (by omega) ⟨_, rfl, (hM _ _), hM, hqE, hp⟩
    · replace hp := hp.2 c48
      refine xJ_aload_n hX dX14_flow_51 rfl ?_
      obtain ⟨b52, e52, hkb52, hp⟩ := hp
      refine xJ_getR (b := b52) hX dX14_flow_52 fd_X14_18 rfl hkx0 e52 ?_
      refine xJ_iload_n hX dX14_flow_55 rfl ?_
      obtain ⟨h56, hp⟩ := hp
      obtain ⟨b56, e56, hkb56, hp⟩ := hp
      refine xJ_aaldOb hX dX14_flow_56 hkb52 h56.1 h56.2 e56 ?_
      refine xJ_alen hX dX14_flow_57 (by rw [hkb56]; decide) (by rw [hkb56]; decide) ?_
      obtain ⟨h57, hp⟩ := hp
      refine xJ_goto hX dX14_flow_58 (tgt := 123) (by decide) ?_
      exact xJ_iret hX hB dX14_flow_123 (by omega) (by omega) ⟨_, rfl, h57, hM, hqE, hp⟩
  have l16 : ∀ (k16 : Nat) (c s n : Nat) (x0 : Nat) (x1 : Int) (x2 : Int) (x3 : Int) (x4 : Nat) (x5 : Int) (x6 : Int) (t : xTh) (M : xMe) (hc : c + n ≤ nE) (hs : s + 64 * n ≤ 64 * nE) (hM : xMR M) (hqE : xke tE t) (hkx0 : xk t x0 = 20) (hx1 : xR x1) (hx2 : xR x2) (hx3 : xR x3) (hkx4 : xk t x4 = 17) (hx5 : xR x5) (hx6 : xR x6) (hp : p_X14_flow_16 F Q (p_X14_flow_47 F Q) k16 n x0 x1 x2 x3 x4 x5 x6 t M), xJ X c s t M 16 [vr x0, vi x1, vi x2, vi x3, vr x4, vi x5, vi x6, vU] [] := by
    intro k16
    induction k16 with
    | zero => intro c s n x0 x1 x2 x3 x4 x5 x6 t M hc hs hM hqE hkx0 hx1 hx2 hx3 hkx4 hx5 hx6 hp; exact hp.elim
    | succ k16 ih16 =>
      intro c s n x0 x1 x2 x3 x4 x5 x6 t M hc hs hM hqE hkx0 hx1 hx2 hx3 hkx4 hx5 hx6 hp
      unfold p_X14_flow_16 at hp
      refine xJ_iload hX dX14_flow_16 rfl ?_
      refine xJ_iload hX dX14_flow_18 rfl ?_
      refine xJ_icmp_ge hX dX14_flow_20 (tgt := 47) (by decide) hx6 hx5 (fun c20 => ?_) (fun c20 => ?_)
      · replace hp := hp.1 c20
        refine xJ_fg 4 ?_
        dsimp only [List.set]
        refine xJ_fg 5 ?_
        dsimp only [List.set]
        refine xJ_fg 6 ?_
        dsimp only [List.set]
        exact l47 _ _ _ _ _ _ _ _ _ (by omega) (by omega) hM hqE hkx0 hx1 hx2 hx3 hp
      · replace hp := hp.2 c20
        refine xJ_aload hX dX14_flow_23 rfl ?_
        refine xJ_iload hX dX14_flow_25 rfl ?_
        obtain ⟨h27, hp⟩ := hp
        obtain ⟨b27, e27, hkb27, hp⟩ := hp
        refine xJ_aaldOb hX dX14_flow_27 hkx4 h27.1 h27.2 e27 ?_
        refine xJ_astore hX dX14_flow_28 (Nat.le_of_ble_eq_true rfl) rfl ?_
        dsimp only [List.set]
        refine xJ_aload hX dX14_flow_30 rfl ?_
        refine xJ_iconst hX dX14_flow_32 ?_
        obtain ⟨h33, hp⟩ := hp
        refine xJ_iald hX dX14_flow_33 hkb27 h33.1 h33.2 ?_
        refine xJ_iload_n hX dX14_flow_34 rfl ?_
        refine xJ_icmp_ne hX dX14_flow_35 (tgt := 41) (by decide) (hM _ _) hx1 (fun c35 => ?_) (fun c35 => ?_)
        · replace hp := hp.1 c35
          refine xJ_iinc hX dX14_flow_41 rfl rfl ?_
          dsimp only [List.set]
          obtain ⟨h41, hp⟩ := hp
          refine xJ_goto hX dX14_flow_44 (tgt := 16) (by decide) ?_
          refine xJ_fg 7 ?_
          dsimp only [List.set]
          exact ih16 _ _ _ _ _ _ _ _ _ _ _ _ (by omega) (by omega) hM hqE hkx0 hx1 hx2 hx3 hkx4 hx5 h41 hp
        · replace hp := hp.2 c35
          refine xJ_iinc hX dX14_flow_38 rfl rfl ?_
          dsimp only [List.set]
          obtain ⟨h38, hp⟩ := hp
          refine xJ_iinc hX dX14_flow_41 rfl rfl ?_
          dsimp only [List.set]
          obtain ⟨h41, hp⟩ := hp
          refine xJ_goto hX dX14_flow_44 (tgt := 16) (by decide) ?_
          refine xJ_fg 7 ?_
          dsimp only [List.set]
          exact ih16 _ _ _ _ _ _ _ _ _ _ _ _ (by omega) (by omega) hM hqE hkx0 hx1 hx2 h38 hkx4 hx5 h41 hp
  exact l16 F _ _ _ _ _ _ _ _ _ _ _ _ (by omega) (by omega) hME (xke_refl _) hkx0 hx1 hx2 ⟨by decide, by decide⟩ hkb3 h10 ⟨by decide, by decide⟩ hp
def p_X14_packet (F : Nat) (n : Nat) (tE : xTh) (x0 : Nat) (x1 : Int) (x2 : Int) (ME : xMe) (Q : Int → xTh → xMe → Prop) : Prop :=
  (∃ b1 : Nat, xr tE x0 4 = some b1 ∧ xk tE b1 = 17 ∧ ((0 : Int) ≤ x1 ∧ x1 < (xn tE b1 : Int)) ∧ (∃ b5 : Nat, xr tE b1 x1.toNat = some b5 ∧ xk tE b5 = 14 ∧ ((4 ≤ x2 → ((x2 ≠ 4 → ((x2 ≠ 5 → ((0 : Int) ≤ 6 ∧ 6 < (xn tE b5 : Int)) ∧ Q (ME b5 6) tE ME) ∧ (x2 = 5 → ((0 : Int) ≤ 5 ∧ 5 < (xn tE b5 : Int)) ∧ Q (ME b5 5) tE ME))) ∧ (x2 = 4 → ((0 : Int) ≤ 3 ∧ 3 < (xn tE b5 : Int)) ∧ (((ME b5 3) = 1 → (∃ k39 : Nat, k39 ≤ n ∧ p_X14_gateOf F k39 tE x0 b5 ME (fun r39 t39 M39 => Q r39 t39 M39))) ∧ ((ME b5 3) ≠ 1 → ((0 : Int) ≤ 3 ∧ 3 < (xn tE b5 : Int)) ∧ (((ME b5 3) ≠ 2 → Q ((-1)) tE ME) ∧ ((ME b5 3) = 2 → (∃ k39 : Nat, k39 ≤ n ∧ p_X14_gateOf F k39 tE x0 b5 ME (fun r39 t39 M39 => Q r39 t39 M39))))))))) ∧ (x2 < 4 → ((0 : Int) ≤ x2 ∧ x2 < (xn tE b5 : Int)) ∧ Q (ME b5 x2.toNat) tE ME))))
set_option maxHeartbeats 8000000 in
set_option maxRecDepth 100000 in
theorem c_X14_packet {G : xGx} {tE : xTh} {ME : xMe} {F nE : Nat} {x0 : Nat} {x1 : Int} {x2 : Int} {Q : Int → xTh → xMe → Prop} (hME : xMR ME) (hkx0 : xk tE x0 = 20) (hx1 : xR x1) (hx2 : xR x2) (hp : p_X14_packet F nE tE x0 x1 x2 ME Q) : xCt G yX14_packet cX14_packet 4 (some .int) 2 nE (64 * nE) [vr x0, vi x1, vi x2] tE ME (fun v t' M' => ∃ r, v = some (vi r) ∧ xR r ∧ xMR M' ∧ xke tE t' ∧ Q r t' M') (fun _ _ _ => False) := by
  refine xCt_of (L0 := [vr x0, vi x1, vi x2, vU]) (by decide +kernel) (Nat.le_of_ble_eq_true rfl) rfl ?_
  intro X hX hB
  unfold p_X14_packet at hp
  refine xJ_aload_n hX dX14_packet_0 rfl ?_
  obtain ⟨b1, e1, hkb1, hp⟩ := hp
  refine xJ_getR (b := b1) hX dX14_packet_1 fd_X14_21 rfl hkx0 e1 ?_
  refine xJ_iload_n hX dX14_packet_4 rfl ?_
  obtain ⟨h5, hp⟩ := hp
  obtain ⟨b5, e5, hkb5, hp⟩ := hp
  refine xJ_aaldOb hX dX14_packet_5 hkb1 h5.1 h5.2 e5 ?_
  refine xJ_astore_n hX dX14_packet_6 (Nat.le_of_ble_eq_true rfl) rfl ?_
  dsimp only [List.set]
  refine xJ_iload_n hX dX14_packet_7 rfl ?_
  refine xJ_iconst hX dX14_packet_8 ?_
  refine xJ_icmp_ge hX dX14_packet_9 (tgt := 18) (by decide) hx2 ⟨by decide, by decide⟩ (fun c9 => ?_) (fun c9 => ?_)
  · replace hp := hp.1 c9
    refine xJ_iload_n hX dX14_packet_18 rfl ?_
    refine xJ_iconst hX dX14_packet_19 ?_
    refine xJ_icmp_ne hX dX14_packet_20 (tgt := 49) (by decide) hx2 ⟨by decide, by decide⟩ (fun c20 => ?_) (fun c20 => ?_)
    · replace hp := hp.1 c20
      refine xJ_iload_n hX dX14_packet_49 rfl ?_
      refine xJ_iconst hX dX14_packet_50 ?_
      refine xJ_icmp_ne hX dX14_packet_51 (tgt := 60) (by decide) hx2 ⟨by decide, by decide⟩ (fun c51 => ?_) (fun c51 => ?_)
      · replace hp := hp.1 c51
        refine xJ_aload_n hX dX14_packet_60 rfl ?_
        refine xJ_bipush hX dX14_packet_61 rfl ?_
        obtain ⟨h63, hp⟩ := hp
        refine xJ_iald hX dX14_packet_63 hkb5 h63.1 h63.2 ?_
        exact xJ_iret hX hB dX14_packet_64 (by omega) (by omega) ⟨_, rfl, (hME _ _), hME, (xke_refl _), hp⟩
      · replace hp := hp.2 c51
        refine xJ_aload_n hX dX14_packet_54 rfl ?_
        refine xJ_iconst hX dX14_packet_55 ?_
        obtain ⟨h56, hp⟩ := hp
        refine xJ_iald hX dX14_packet_56 hkb5 h56.1 h56.2 ?_
        refine xJ_goto hX dX14_packet_57 (tgt := 64) (by decide) ?_
        exact xJ_iret hX hB dX14_packet_64 (by omega) (by omega) ⟨_, rfl, (hME _ _), hME, (xke_refl _), hp⟩
    · replace hp := hp.2 c20
      refine xJ_aload_n hX dX14_packet_23 rfl ?_
      refine xJ_iconst hX dX14_packet_24 ?_
      obtain ⟨h25, hp⟩ := hp
      refine xJ_iald hX dX14_packet_25 hkb5 h25.1 h25.2 ?_
      refine xJ_iconst hX dX14_packet_26 ?_
      refine xJ_icmp_eq hX dX14_packet_27 (tgt := 37) (by decide) (hME _ _) ⟨by decide, by decide⟩ (fun c27 => ?_) (fun c27 => ?_)
      · replace hp := hp.1 c27
        refine xJ_aload_n hX dX14_packet_37 rfl ?_
        refine xJ_aload_n hX dX14_packet_38 rfl ?_
        obtain ⟨k39, hn39, hp⟩ := hp
        refine xJ_callV (As := [_]) hX hB dX14_packet_39 lk_X14_64 im_X14_gateOf se_X14_gateOf rfl (by decide) hkx0 (c_X14_gateOf hME hkx0 hkb5 hp) (by decide) rfl rfl rfl (Nat.le_of_ble_eq_true rfl) (by omega) (by omega) (fun v t39 M39 hv => ?_) (fun _ _ _ q => q.elim)
        clear hp
        obtain ⟨r39, rfl, h39, hM39, hq39, hp⟩ := hv
        dsimp only [Option.toList, List.cons_append, List.nil_append]
        refine xJ_goto hX dX14_packet_42 (tgt := 64) (by decide) ?_
        exact xJ_iret hX hB dX14_packet_64 (by omega) (by omega) ⟨_, rfl, h39, hM39, (xke_trans (xke_refl _) hq39), hp⟩
      · replace hp := hp.2 c27
        refine xJ_aload_n hX dX14_packet_30 rfl ?_
        refine xJ_iconst hX dX14_packet_31 ?_
        obtain ⟨h32, hp⟩ := hp
        refine xJ_iald hX dX14_packet_32 hkb5 h32.1 h32.2 ?_
        refine xJ_iconst hX dX14_packet_33 ?_
        refine xJ_icmp_ne hX dX14_packet_34 (tgt := 45) (by decide) (hME _ _) ⟨by decide, by decide⟩ (fun c34 => ?_) (fun c34 => ?_)
        · replace hp := hp.1 c34
          refine xJ_iconst hX dX14_packet_45 ?_
          refine xJ_goto hX dX14_packet_46 (tgt := 64) (by decide) ?_
          exact xJ_iret hX hB dX14_packet_64 (by omega) (by omega) ⟨_, rfl, ⟨by decide, by decide⟩, hME, (xke_refl _), hp⟩
        · replace hp := hp.2 c34
          refine xJ_aload_n hX dX14_packet_37 rfl ?_
          refine xJ_aload_n hX dX14_packet_38 rfl ?_
          obtain ⟨k39, hn39, hp⟩ := hp
          refine xJ_callV (As := [_]) hX hB dX14_packet_39 lk_X14_64 im_X14_gateOf se_X14_gateOf rfl (by decide) hkx0 (c_X14_gateOf hME hkx0 hkb5 hp) (by decide) rfl rfl rfl (Nat.le_of_ble_eq_true rfl) (by omega) (by omega) (fun v t39 M39 hv => ?_) (fun _ _ _ q => q.elim)
          clear hp
          obtain ⟨r39, rfl, h39, hM39, hq39, hp⟩ := hv
          dsimp only [Option.toList, List.cons_append, List.nil_append]
          refine xJ_goto hX dX14_packet_42 (tgt := 64) (by decide) ?_
          exact xJ_iret hX hB dX14_packet_64 (by omega) (by omega) ⟨_, rfl, h39, hM39, (xke_trans (xke_refl _) hq39), hp⟩
  · replace hp := hp.2 c9
    refine xJ_aload_n hX dX14_packet_12 rfl ?_
    refine xJ_iload_n hX dX14_packet_13 rfl ?_
    obtain ⟨h14, hp⟩ := hp
    refine xJ_iald hX dX14_packet_14 hkb5 h14.1 h14.2 ?_
    refine xJ_goto hX dX14_packet_15 (tgt := 64) (by decide) ?_
    exact xJ_iret hX hB dX14_packet_64 (by omega) (by omega) ⟨_, rfl, (hME _ _), hME, (xke_refl _), hp⟩
def p_X14_checksum_258 (F : Nat) (Q : Int → xTh → xMe → Prop) (K200 : Nat → Nat → Int → Int → xTh → xMe → Prop) (n : Nat) (x0 : Nat) (x1 : Int) (x3 : Int) (t : xTh) (M : xMe) : Prop :=
    (xR (x3 + 1)) ∧ K200 n x0 x1 (x3 + 1) t M
def p_X14_checksum_212 (F : Nat) (Q : Int → xTh → xMe → Prop) (K200 : Nat → Nat → Int → Int → xTh → xMe → Prop) (K258 : Nat → Nat → Int → Int → xTh → xMe → Prop) : Nat → Nat → Nat → Int → Int → Int → xTh → xMe → Prop
  | 0, _, _, _, _, _, _, _ => False
  | k + 1, n, x0, x1, x3, x4, t, M =>
    (∃ b215 : Nat, xr t x0 2 = some b215 ∧ xk t b215 = 17 ∧ (xR ((xn t b215 : Nat) : Int)) ∧ (((((xn t b215 : Nat) : Int)) ≤ x4 → K258 n x0 x1 x3 t M) ∧ (x4 < (((xn t b215 : Nat) : Int)) → (∃ b231 : Nat, xr t x0 7 = some b231 ∧ xk t b231 = 17 ∧ ((0 : Int) ≤ x3 ∧ x3 < (xn t b231 : Int)) ∧ (∃ b235 : Nat, xr t b231 x3.toNat = some b235 ∧ xk t b235 = 14 ∧ ((0 : Int) ≤ x4 ∧ x4 < (xn t b235 : Int)) ∧ (∃ k246 : Nat, k246 ≤ n ∧ p_X14_queue F k246 t x0 x3 x4 M (fun r246 t246 M246 => (xR (x4 + 1)) ∧ p_X14_checksum_212 F Q K200 K258 k ((n - k246)) x0 ((31 * ((31 * x1) + (M b235 x4.toNat))) + r246) x3 (x4 + 1) t246 M246)))))))
def p_X14_checksum_200 (F : Nat) (Q : Int → xTh → xMe → Prop) : Nat → Nat → Nat → Int → Int → xTh → xMe → Prop
  | 0, _, _, _, _, _, _ => False
  | k + 1, n, x0, x1, x3, t, M =>
    (∃ b202 : Nat, xr t x0 1 = some b202 ∧ xk t b202 = 17 ∧ (xR ((xn t b202 : Nat) : Int)) ∧ (((((xn t b202 : Nat) : Int)) ≤ x3 → Q x1 t M) ∧ (x3 < (((xn t b202 : Nat) : Int)) → p_X14_checksum_212 F Q (p_X14_checksum_200 F Q k) (p_X14_checksum_258 F Q (p_X14_checksum_200 F Q k)) F n x0 x1 x3 0 t M)))
def p_X14_checksum_198 (F : Nat) (Q : Int → xTh → xMe → Prop) (n : Nat) (x0 : Nat) (x1 : Int) (t : xTh) (M : xMe) : Prop :=
    p_X14_checksum_200 F Q F n x0 x1 0 t M
def p_X14_checksum_192 (F : Nat) (Q : Int → xTh → xMe → Prop) (K137 : Nat → Nat → Int → Nat → Int → Int → xTh → xMe → Prop) (K198 : Nat → Nat → Int → xTh → xMe → Prop) (n : Nat) (x0 : Nat) (x1 : Int) (x3 : Nat) (x4 : Int) (x5 : Int) (t : xTh) (M : xMe) : Prop :=
    (xR (x5 + 1)) ∧ K137 n x0 x1 x3 x4 (x5 + 1) t M
def p_X14_checksum_162 (F : Nat) (Q : Int → xTh → xMe → Prop) (K137 : Nat → Nat → Int → Nat → Int → Int → xTh → xMe → Prop) (K192 : Nat → Nat → Int → Nat → Int → Int → xTh → xMe → Prop) (K198 : Nat → Nat → Int → xTh → xMe → Prop) : Nat → Nat → Nat → Int → Nat → Int → Int → Nat → Int → Int → xTh → xMe → Prop
  | 0, _, _, _, _, _, _, _, _, _, _, _ => False
  | k + 1, n, x0, x1, x3, x4, x5, x7, x8, x9, t, M =>
    ((x8 ≤ x9 → K192 n x0 x1 x3 x4 x5 t M) ∧ (x9 < x8 → ((0 : Int) ≤ x9 ∧ x9 < (xn t x7 : Int)) ∧ (∀ z174 : Int, z174 = M x7 x9.toNat → (xR (x9 + 1)) ∧ p_X14_checksum_162 F Q K137 K192 K198 k n x0 ((31 * x1) + z174) x3 x4 x5 x7 x8 (x9 + 1) t M)))
def p_X14_checksum_137 (F : Nat) (Q : Int → xTh → xMe → Prop) (K198 : Nat → Nat → Int → xTh → xMe → Prop) : Nat → Nat → Nat → Int → Nat → Int → Int → xTh → xMe → Prop
  | 0, _, _, _, _, _, _, _, _ => False
  | k + 1, n, x0, x1, x3, x4, x5, t, M =>
    ((x4 ≤ x5 → K198 n x0 x1 t M) ∧ (x5 < x4 → ((0 : Int) ≤ x5 ∧ x5 < (xn t x3 : Int)) ∧ (∃ b147 : Nat, xr t x3 x5.toNat = some b147 ∧ xk t b147 = 14 ∧ (xR ((xn t b147 : Nat) : Int)) ∧ (∀ z157 : Int, z157 = ((xn t b147 : Nat) : Int) → p_X14_checksum_162 F Q (p_X14_checksum_137 F Q K198 k) (p_X14_checksum_192 F Q (p_X14_checksum_137 F Q K198 k) K198) K198 F n x0 x1 x3 x4 x5 b147 z157 0 t M))))
def p_X14_checksum_125 (F : Nat) (Q : Int → xTh → xMe → Prop) (n : Nat) (x0 : Nat) (x1 : Int) (t : xTh) (M : xMe) : Prop :=
    (∃ b126 : Nat, xr t x0 5 = some b126 ∧ xk t b126 = 17 ∧ (xR ((xn t b126 : Nat) : Int)) ∧ (∀ z132 : Int, z132 = ((xn t b126 : Nat) : Int) → p_X14_checksum_137 F Q (p_X14_checksum_198 F Q) F n x0 x1 b126 z132 0 t M))
def p_X14_checksum_119 (F : Nat) (Q : Int → xTh → xMe → Prop) (K79 : Nat → Nat → Int → Int → xTh → xMe → Prop) (K125 : Nat → Nat → Int → xTh → xMe → Prop) (n : Nat) (x0 : Nat) (x1 : Int) (x3 : Int) (t : xTh) (M : xMe) : Prop :=
    (xR (x3 + 1)) ∧ K79 n x0 x1 (x3 + 1) t M
def p_X14_checksum_91 (F : Nat) (Q : Int → xTh → xMe → Prop) (K79 : Nat → Nat → Int → Int → xTh → xMe → Prop) (K119 : Nat → Nat → Int → Int → xTh → xMe → Prop) (K125 : Nat → Nat → Int → xTh → xMe → Prop) : Nat → Nat → Nat → Int → Int → Int → xTh → xMe → Prop
  | 0, _, _, _, _, _, _, _ => False
  | k + 1, n, x0, x1, x3, x4, t, M =>
    ((7 ≤ x4 → K119 n x0 x1 x3 t M) ∧ (x4 < 7 → (∃ k107 : Nat, k107 ≤ n ∧ p_X14_packet F k107 t x0 x3 x4 M (fun r107 t107 M107 => (xR (x4 + 1)) ∧ p_X14_checksum_91 F Q K79 K119 K125 k ((n - k107)) x0 ((31 * x1) + r107) x3 (x4 + 1) t107 M107))))
def p_X14_checksum_79 (F : Nat) (Q : Int → xTh → xMe → Prop) (K125 : Nat → Nat → Int → xTh → xMe → Prop) : Nat → Nat → Nat → Int → Int → xTh → xMe → Prop
  | 0, _, _, _, _, _, _ => False
  | k + 1, n, x0, x1, x3, t, M =>
    (∃ b81 : Nat, xr t x0 4 = some b81 ∧ xk t b81 = 17 ∧ (xR ((xn t b81 : Nat) : Int)) ∧ (((((xn t b81 : Nat) : Int)) ≤ x3 → K125 n x0 x1 t M) ∧ (x3 < (((xn t b81 : Nat) : Int)) → p_X14_checksum_91 F Q (p_X14_checksum_79 F Q K125 k) (p_X14_checksum_119 F Q (p_X14_checksum_79 F Q K125 k) K125) K125 F n x0 x1 x3 0 t M)))
def p_X14_checksum_77 (F : Nat) (Q : Int → xTh → xMe → Prop) (n : Nat) (x0 : Nat) (x1 : Int) (t : xTh) (M : xMe) : Prop :=
    p_X14_checksum_79 F Q (p_X14_checksum_125 F Q) F n x0 x1 0 t M
def p_X14_checksum_71 (F : Nat) (Q : Int → xTh → xMe → Prop) (K31 : Nat → Nat → Int → Int → xTh → xMe → Prop) (K77 : Nat → Nat → Int → xTh → xMe → Prop) (n : Nat) (x0 : Nat) (x1 : Int) (x3 : Int) (t : xTh) (M : xMe) : Prop :=
    (xR (x3 + 1)) ∧ K31 n x0 x1 (x3 + 1) t M
def p_X14_checksum_43 (F : Nat) (Q : Int → xTh → xMe → Prop) (K31 : Nat → Nat → Int → Int → xTh → xMe → Prop) (K71 : Nat → Nat → Int → Int → xTh → xMe → Prop) (K77 : Nat → Nat → Int → xTh → xMe → Prop) : Nat → Nat → Nat → Int → Int → Int → xTh → xMe → Prop
  | 0, _, _, _, _, _, _, _ => False
  | k + 1, n, x0, x1, x3, x4, t, M =>
    ((6 ≤ x4 → K71 n x0 x1 x3 t M) ∧ (x4 < 6 → (∃ k59 : Nat, k59 ≤ n ∧ p_X14_flow F k59 t x0 x3 x4 M (fun r59 t59 M59 => (xR (x4 + 1)) ∧ p_X14_checksum_43 F Q K31 K71 K77 k ((n - k59)) x0 ((31 * x1) + r59) x3 (x4 + 1) t59 M59))))
def p_X14_checksum_31 (F : Nat) (Q : Int → xTh → xMe → Prop) (K77 : Nat → Nat → Int → xTh → xMe → Prop) : Nat → Nat → Nat → Int → Int → xTh → xMe → Prop
  | 0, _, _, _, _, _, _ => False
  | k + 1, n, x0, x1, x3, t, M =>
    (∃ b33 : Nat, xr t x0 2 = some b33 ∧ xk t b33 = 17 ∧ (xR ((xn t b33 : Nat) : Int)) ∧ (((((xn t b33 : Nat) : Int)) ≤ x3 → K77 n x0 x1 t M) ∧ (x3 < (((xn t b33 : Nat) : Int)) → p_X14_checksum_43 F Q (p_X14_checksum_31 F Q K77 k) (p_X14_checksum_71 F Q (p_X14_checksum_31 F Q K77 k) K77) K77 F n x0 x1 x3 0 t M)))
def p_X14_checksum_29 (F : Nat) (Q : Int → xTh → xMe → Prop) (n : Nat) (x0 : Nat) (x1 : Int) (t : xTh) (M : xMe) : Prop :=
    p_X14_checksum_31 F Q (p_X14_checksum_77 F Q) F n x0 x1 0 t M
def p_X14_checksum_4 (F : Nat) (Q : Int → xTh → xMe → Prop) (K29 : Nat → Nat → Int → xTh → xMe → Prop) : Nat → Nat → Nat → Int → Int → xTh → xMe → Prop
  | 0, _, _, _, _, _, _ => False
  | k + 1, n, x0, x1, x3, t, M =>
    ((10 ≤ x3 → K29 n x0 x1 t M) ∧ (x3 < 10 → (∃ k17 : Nat, k17 ≤ n ∧ p_X14_told F k17 t x0 x3 M (fun r17 t17 M17 => (xR (x3 + 1)) ∧ p_X14_checksum_4 F Q K29 k ((n - k17)) x0 ((31 * x1) + r17) (x3 + 1) t17 M17))))
def p_X14_checksum (F : Nat) (n : Nat) (tE : xTh) (x0 : Nat) (ME : xMe) (Q : Int → xTh → xMe → Prop) : Prop :=
  p_X14_checksum_4 F Q (p_X14_checksum_29 F Q) F n x0 0 0 tE ME
set_option maxHeartbeats 8000000 in
set_option maxRecDepth 100000 in
theorem c_X14_checksum {G : xGx} {tE : xTh} {ME : xMe} {F nE : Nat} {x0 : Nat} {Q : Int → xTh → xMe → Prop} (hME : xMR ME) (hkx0 : xk tE x0 = 20)  (hp : p_X14_checksum F nE tE x0 ME Q) : xCt G yX14_checksum cX14_checksum 11 (some .long) 3 nE (64 * nE) [vr x0] tE ME (fun v t' M' => ∃ r, v = some (vl r) ∧ xMR M' ∧ xke tE t' ∧ Q r t' M') (fun _ _ _ => False) := by
  refine xCt_of (L0 := [vr x0, vU, vU, vU, vU, vU, vU, vU, vU, vU, vU]) (by decide +kernel) (Nat.le_of_ble_eq_true rfl) rfl ?_
  intro X hX hB
  unfold p_X14_checksum at hp
  refine xJ_lconst hX dX14_checksum_0 ?_
  refine xJ_lstore_n hX dX14_checksum_1 (Nat.le_of_ble_eq_true rfl) rfl ?_
  dsimp only [List.set]
  refine xJ_iconst hX dX14_checksum_2 ?_
  refine xJ_istore_n hX dX14_checksum_3 (Nat.le_of_ble_eq_true rfl) rfl ?_
  dsimp only [List.set]
  have l29 : ∀ (c s n : Nat) (x0 : Nat) (x1 : Int) (t : xTh) (M : xMe) (hc : c + n ≤ nE) (hs : s + 64 * n ≤ 64 * nE) (hM : xMR M) (hqE : xke tE t) (hkx0 : xk t x0 = 20) (hp : p_X14_checksum_29 F Q n x0 x1 t M), xJ X c s t M 29 [vr x0, vl x1, vU, vU, vU, vU, vU, vU, vU, vU, vU] [] := by
    intro c s n x0 x1 t M hc hs hM hqE hkx0 hp
    unfold p_X14_checksum_29 at hp
    refine xJ_iconst hX dX14_checksum_29 ?_
    refine xJ_istore_n hX dX14_checksum_30 (Nat.le_of_ble_eq_true rfl) rfl ?_
    dsimp only [List.set]
    have l77 : ∀ (c s n : Nat) (x0 : Nat) (x1 : Int) (t : xTh) (M : xMe) (hc : c + n ≤ nE) (hs : s + 64 * n ≤ 64 * nE) (hM : xMR M) (hqE : xke tE t) (hkx0 : xk t x0 = 20) (hp : p_X14_checksum_77 F Q n x0 x1 t M), xJ X c s t M 77 [vr x0, vl x1, vU, vU, vU, vU, vU, vU, vU, vU, vU] [] := by
      intro c s n x0 x1 t M hc hs hM hqE hkx0 hp
      unfold p_X14_checksum_77 at hp
      refine xJ_iconst hX dX14_checksum_77 ?_
      refine xJ_istore_n hX dX14_checksum_78 (Nat.le_of_ble_eq_true rfl) rfl ?_
      dsimp only [List.set]
      have l125 : ∀ (c s n : Nat) (x0 : Nat) (x1 : Int) (t : xTh) (M : xMe) (hc : c + n ≤ nE) (hs : s + 64 * n ≤ 64 * nE) (hM : xMR M) (hqE : xke tE t) (hkx0 : xk t x0 = 20) (hp : p_X14_checksum_125 F Q n x0 x1 t M), xJ X c s t M 125 [vr x0, vl x1, vU, vU, vU, vU, vU, vU, vU, vU, vU] [] := by
        intro c s n x0 x1 t M hc hs hM hqE hkx0 hp
        unfold p_X14_checksum_125 at hp
        refine xJ_aload_n hX dX14_checksum_125 rfl ?_
        obtain ⟨b126, e126, hkb126, hp⟩ := hp
        refine xJ_getR (b := b126) hX dX14_checksum_126 fd_X14_24 rfl hkx0 e126 ?_
        refine xJ_astore_n hX dX14_checksum_129 (Nat.le_of_ble_eq_true rfl) rfl ?_
        dsimp only [List.set]
        refine xJ_aload_n hX dX14_checksum_130 rfl ?_
        refine xJ_alen hX dX14_checksum_131 (by rw [hkb126]; decide) (by rw [hkb126]; decide) ?_
        obtain ⟨h131, hp⟩ := hp
        refine xJ_istore hX dX14_checksum_132 (Nat.le_of_ble_eq_true rfl) rfl ?_
        dsimp only [List.set]
        replace hp := hp _ rfl
        refine xJ_iconst hX dX14_checksum_134 ?_
        refine xJ_istore hX dX14_checksum_135 (Nat.le_of_ble_eq_true rfl) rfl ?_
        dsimp only [List.set]
        have l198 : ∀ (c s n : Nat) (x0 : Nat) (x1 : Int) (t : xTh) (M : xMe) (hc : c + n ≤ nE) (hs : s + 64 * n ≤ 64 * nE) (hM : xMR M) (hqE : xke tE t) (hkx0 : xk t x0 = 20) (hp : p_X14_checksum_198 F Q n x0 x1 t M), xJ X c s t M 198 [vr x0, vl x1, vU, vU, vU, vU, vU, vU, vU, vU, vU] [] := by
          intro c s n x0 x1 t M hc hs hM hqE hkx0 hp
          unfold p_X14_checksum_198 at hp
          refine xJ_iconst hX dX14_checksum_198 ?_
          refine xJ_istore_n hX dX14_checksum_199 (Nat.le_of_ble_eq_true rfl) rfl ?_
          dsimp only [List.set]
          have l200 : ∀ (k200 : Nat) (c s n : Nat) (x0 : Nat) (x1 : Int) (x3 : Int) (t : xTh) (M : xMe) (hc : c + n ≤ nE) (hs : s + 64 * n ≤ 64 * nE) (hM : xMR M) (hqE : xke tE t) (hkx0 : xk t x0 = 20) (hx3 : xR x3) (hp : p_X14_checksum_200 F Q k200 n x0 x1 x3 t M), xJ X c s t M 200 [vr x0, vl x1, vU, vi x3, vU, vU, vU, vU, vU, vU, vU] [] := by
            intro k200
            induction k200 with
            | zero => intro c s n x0 x1 x3 t M hc hs hM hqE hkx0 hx3 hp; exact hp.elim
            | succ k200 ih200 =>
              intro c s n x0 x1 x3 t M hc hs hM hqE hkx0 hx3 hp
              unfold p_X14_checksum_200 at hp
              refine xJ_iload_n hX dX14_checksum_200 rfl ?_
              refine xJ_aload_n hX dX14_checksum_201 rfl ?_
              obtain ⟨b202, e202, hkb202, hp⟩ := hp
              refine xJ_getR (b := b202) hX dX14_checksum_202 fd_X14_9 rfl hkx0 e202 ?_
              refine xJ_alen hX dX14_checksum_205 (by rw [hkb202]; decide) (by rw [hkb202]; decide) ?_
              obtain ⟨h205, hp⟩ := hp
              refine xJ_icmp_ge hX dX14_checksum_206 (tgt := 264) (by decide) hx3 h205 (fun c206 => ?_) (fun c206 => ?_)
              · replace hp := hp.1 c206
                refine xJ_lload_n hX dX14_checksum_264 rfl ?_
                exact xJ_lret hX hB dX14_checksum_265 (by omega) (by omega) ⟨_, rfl, hM, hqE, hp⟩
              · replace hp := hp.2 c206
                refine xJ_iconst hX dX14_checksum_209 ?_
                refine xJ_istore hX dX14_checksum_210 (Nat.le_of_ble_eq_true rfl) rfl ?_
                dsimp only [List.set]
                have l258 : ∀ (c s n : Nat) (x0 : Nat) (x1 : Int) (x3 : Int) (t : xTh) (M : xMe) (hc : c + n ≤ nE) (hs : s + 64 * n ≤ 64 * nE) (hM : xMR M) (hqE : xke tE t) (hkx0 : xk t x0 = 20) (hx3 : xR x3) (hp : p_X14_checksum_258 F Q (p_X14_checksum_200 F Q k200) n x0 x1 x3 t M), xJ X c s t M 258 [vr x0, vl x1, vU, vi x3, vU, vU, vU, vU, vU, vU, vU] [] := by
                  intro c s n x0 x1 x3 t M hc hs hM hqE hkx0 hx3 hp
                  unfold p_X14_checksum_258 at hp
                  refine xJ_iinc hX dX14_checksum_258 rfl rfl ?_
                  dsimp only [List.set]
                  obtain ⟨h258, hp⟩ := hp
                  refine xJ_goto hX dX14_checksum_261 (tgt := 200) (by decide) ?_
                  exact ih200 _ _ _ _ _ _ _ _ (by omega) (by omega) hM hqE hkx0 h258 hp
                have l212 : ∀ (k212 : Nat) (c s n : Nat) (x0 : Nat) (x1 : Int) (x3 : Int) (x4 : Int) (t : xTh) (M : xMe) (hc : c + n ≤ nE) (hs : s + 64 * n ≤ 64 * nE) (hM : xMR M) (hqE : xke tE t) (hkx0 : xk t x0 = 20) (hx3 : xR x3) (hx4 : xR x4) (hp : p_X14_checksum_212 F Q (p_X14_checksum_200 F Q k200) (p_X14_checksum_258 F Q (p_X14_checksum_200 F Q k200)) k212 n x0 x1 x3 x4 t M), xJ X c s t M 212 [vr x0, vl x1, vU, vi x3, vi x4, vU, vU, vU, vU, vU, vU] [] := by
                  intro k212
                  induction k212 with
                  | zero => intro c s n x0 x1 x3 x4 t M hc hs hM hqE hkx0 hx3 hx4 hp; exact hp.elim
                  | succ k212 ih212 =>
                    intro c s n x0 x1 x3 x4 t M hc hs hM hqE hkx0 hx3 hx4 hp
                    unfold p_X14_checksum_212 at hp
                    refine xJ_iload hX dX14_checksum_212 rfl ?_
                    refine xJ_aload_n hX dX14_checksum_214 rfl ?_
                    obtain ⟨b215, e215, hkb215, hp⟩ := hp
                    refine xJ_getR (b := b215) hX dX14_checksum_215 fd_X14_15 rfl hkx0 e215 ?_
                    refine xJ_alen hX dX14_checksum_218 (by rw [hkb215]; decide) (by rw [hkb215]; decide) ?_
                    obtain ⟨h218, hp⟩ := hp
                    refine xJ_icmp_ge hX dX14_checksum_219 (tgt := 258) (by decide) hx4 h218 (fun c219 => ?_) (fun c219 => ?_)
                    · replace hp := hp.1 c219
                      refine xJ_fg 4 ?_
                      dsimp only [List.set]
                      exact l258 _ _ _ _ _ _ _ _ (by omega) (by omega) hM hqE hkx0 hx3 hp
                    · replace hp := hp.2 c219
                      refine xJ_ldc2 (31) hX dX14_checksum_222 kc_X14_127 ?_
                      refine xJ_ldc2 (31) hX dX14_checksum_225 kc_X14_127 ?_
                      refine xJ_lload_n hX dX14_checksum_228 rfl ?_
                      refine xJ_lmul hX dX14_checksum_229 ?_
                      refine xJ_aload_n hX dX14_checksum_230 rfl ?_
                      obtain ⟨b231, e231, hkb231, hp⟩ := hp
                      refine xJ_getR (b := b231) hX dX14_checksum_231 fd_X14_31 rfl hkx0 e231 ?_
                      refine xJ_iload_n hX dX14_checksum_234 rfl ?_
                      obtain ⟨h235, hp⟩ := hp
                      obtain ⟨b235, e235, hkb235, hp⟩ := hp
                      refine xJ_aaldOb hX dX14_checksum_235 hkb231 h235.1 h235.2 e235 ?_
                      refine xJ_iload hX dX14_checksum_236 rfl ?_
                      obtain ⟨h238, hp⟩ := hp
                      refine xJ_iald hX dX14_checksum_238 hkb235 h238.1 h238.2 ?_
                      refine xJ_i2l hX dX14_checksum_239 (hM _ _) ?_
                      refine xJ_ladd hX dX14_checksum_240 ?_
                      refine xJ_lmul hX dX14_checksum_241 ?_
                      refine xJ_aload_n hX dX14_checksum_242 rfl ?_
                      refine xJ_iload_n hX dX14_checksum_243 rfl ?_
                      refine xJ_iload hX dX14_checksum_244 rfl ?_
                      obtain ⟨k246, hn246, hp⟩ := hp
                      refine xJ_callV (As := [_, _]) hX hB dX14_checksum_246 lk_X14_68 im_X14_queue se_X14_queue rfl (by decide) hkx0 (c_X14_queue hM hkx0 hx3 hx4 hp) (by decide) rfl rfl rfl (Nat.le_of_ble_eq_true rfl) (by omega) (by omega) (fun v t246 M246 hv => ?_) (fun _ _ _ q => q.elim)
                      clear hp
                      obtain ⟨r246, rfl, h246, hM246, hq246, hp⟩ := hv
                      dsimp only [Option.toList, List.cons_append, List.nil_append]
                      refine xJ_i2l hX dX14_checksum_249 h246 ?_
                      refine xJ_ladd hX dX14_checksum_250 ?_
                      refine xJ_lstore_n hX dX14_checksum_251 (Nat.le_of_ble_eq_true rfl) rfl ?_
                      dsimp only [List.set]
                      refine xJ_iinc hX dX14_checksum_252 rfl rfl ?_
                      dsimp only [List.set]
                      obtain ⟨h252, hp⟩ := hp
                      refine xJ_goto hX dX14_checksum_255 (tgt := 212) (by decide) ?_
                      exact ih212 _ _ _ _ _ _ _ _ _ (by omega) (by omega) hM246 (xke_trans hqE hq246) (xke_k hq246 hkx0 (by decide)) hx3 h252 hp
                exact l212 F _ _ _ _ _ _ _ _ _ (by omega) (by omega) hM hqE hkx0 hx3 ⟨by decide, by decide⟩ hp
          exact l200 F _ _ _ _ _ _ _ _ (by omega) (by omega) hM hqE hkx0 ⟨by decide, by decide⟩ hp
        have l137 : ∀ (k137 : Nat) (c s n : Nat) (x0 : Nat) (x1 : Int) (x3 : Nat) (x4 : Int) (x5 : Int) (t : xTh) (M : xMe) (hc : c + n ≤ nE) (hs : s + 64 * n ≤ 64 * nE) (hM : xMR M) (hqE : xke tE t) (hkx0 : xk t x0 = 20) (hkx3 : xk t x3 = 17) (hx4 : xR x4) (hx5 : xR x5) (hp : p_X14_checksum_137 F Q (p_X14_checksum_198 F Q) k137 n x0 x1 x3 x4 x5 t M), xJ X c s t M 137 [vr x0, vl x1, vU, vr x3, vi x4, vi x5, vU, vU, vU, vU, vU] [] := by
          intro k137
          induction k137 with
          | zero => intro c s n x0 x1 x3 x4 x5 t M hc hs hM hqE hkx0 hkx3 hx4 hx5 hp; exact hp.elim
          | succ k137 ih137 =>
            intro c s n x0 x1 x3 x4 x5 t M hc hs hM hqE hkx0 hkx3 hx4 hx5 hp
            unfold p_X14_checksum_137 at hp
            refine xJ_iload hX dX14_checksum_137 rfl ?_
            refine xJ_iload hX dX14_checksum_139 rfl ?_
            refine xJ_icmp_ge hX dX14_checksum_141 (tgt := 198) (by decide) hx5 hx4 (fun c141 => ?_) (fun c141 => ?_)
            · replace hp := hp.1 c141
              refine xJ_fg 3 ?_
              dsimp only [List.set]
              refine xJ_fg 4 ?_
              dsimp only [List.set]
              refine xJ_fg 5 ?_
              dsimp only [List.set]
              exact l198 _ _ _ _ _ _ _ (by omega) (by omega) hM hqE hkx0 hp
            · replace hp := hp.2 c141
              refine xJ_aload_n hX dX14_checksum_144 rfl ?_
              refine xJ_iload hX dX14_checksum_145 rfl ?_
              obtain ⟨h147, hp⟩ := hp
              obtain ⟨b147, e147, hkb147, hp⟩ := hp
              refine xJ_aaldOb hX dX14_checksum_147 hkx3 h147.1 h147.2 e147 ?_
              refine xJ_astore hX dX14_checksum_148 (Nat.le_of_ble_eq_true rfl) rfl ?_
              dsimp only [List.set]
              refine xJ_aload hX dX14_checksum_150 rfl ?_
              refine xJ_astore hX dX14_checksum_152 (Nat.le_of_ble_eq_true rfl) rfl ?_
              dsimp only [List.set]
              refine xJ_aload hX dX14_checksum_154 rfl ?_
              refine xJ_alen hX dX14_checksum_156 (by rw [hkb147]; decide) (by rw [hkb147]; decide) ?_
              obtain ⟨h156, hp⟩ := hp
              refine xJ_istore hX dX14_checksum_157 (Nat.le_of_ble_eq_true rfl) rfl ?_
              dsimp only [List.set]
              replace hp := hp _ rfl
              refine xJ_iconst hX dX14_checksum_159 ?_
              refine xJ_istore hX dX14_checksum_160 (Nat.le_of_ble_eq_true rfl) rfl ?_
              dsimp only [List.set]
              have l192 : ∀ (c s n : Nat) (x0 : Nat) (x1 : Int) (x3 : Nat) (x4 : Int) (x5 : Int) (t : xTh) (M : xMe) (hc : c + n ≤ nE) (hs : s + 64 * n ≤ 64 * nE) (hM : xMR M) (hqE : xke tE t) (hkx0 : xk t x0 = 20) (hkx3 : xk t x3 = 17) (hx4 : xR x4) (hx5 : xR x5) (hp : p_X14_checksum_192 F Q (p_X14_checksum_137 F Q (p_X14_checksum_198 F Q) k137) (p_X14_checksum_198 F Q) n x0 x1 x3 x4 x5 t M), xJ X c s t M 192 [vr x0, vl x1, vU, vr x3, vi x4, vi x5, vU, vU, vU, vU, vU] [] := by
                intro c s n x0 x1 x3 x4 x5 t M hc hs hM hqE hkx0 hkx3 hx4 hx5 hp
                unfold p_X14_checksum_192 at hp
                refine xJ_iinc hX dX14_checksum_192 rfl rfl ?_
                dsimp only [List.set]
                obtain ⟨h192, hp⟩ := hp
                refine xJ_goto hX dX14_checksum_195 (tgt := 137) (by decide) ?_
                exact ih137 _ _ _ _ _ _ _ _ _ _ (by omega) (by omega) hM hqE hkx0 hkx3 hx4 h192 hp
              have l162 : ∀ (k162 : Nat) (c s n : Nat) (x0 : Nat) (x1 : Int) (x3 : Nat) (x4 : Int) (x5 : Int) (x7 : Nat) (x8 : Int) (x9 : Int) (t : xTh) (M : xMe) (hc : c + n ≤ nE) (hs : s + 64 * n ≤ 64 * nE) (hM : xMR M) (hqE : xke tE t) (hkx0 : xk t x0 = 20) (hkx3 : xk t x3 = 17) (hx4 : xR x4) (hx5 : xR x5) (hkx7 : xk t x7 = 14) (hx8 : xR x8) (hx9 : xR x9) (hp : p_X14_checksum_162 F Q (p_X14_checksum_137 F Q (p_X14_checksum_198 F Q) k137) (p_X14_checksum_192 F Q (p_X14_checksum_137 F Q (p_X14_checksum_198 F Q) k137) (p_X14_checksum_198 F Q)) (p_X14_checksum_198 F Q) k162 n x0 x1 x3 x4 x5 x7 x8 x9 t M), xJ X c s t M 162 [vr x0, vl x1, vU, vr x3, vi x4, vi x5, vU, vr x7, vi x8, vi x9, vU] [] := by
                intro k162
                induction k162 with
                | zero => intro c s n x0 x1 x3 x4 x5 x7 x8 x9 t M hc hs hM hqE hkx0 hkx3 hx4 hx5 hkx7 hx8 hx9 hp; exact hp.elim
                | succ k162 ih162 =>
                  intro c s n x0 x1 x3 x4 x5 x7 x8 x9 t M hc hs hM hqE hkx0 hkx3 hx4 hx5 hkx7 hx8 hx9 hp
                  unfold p_X14_checksum_162 at hp
                  refine xJ_iload hX dX14_checksum_162 rfl ?_
                  refine xJ_iload hX dX14_checksum_164 rfl ?_
                  refine xJ_icmp_ge hX dX14_checksum_166 (tgt := 192) (by decide) hx9 hx8 (fun c166 => ?_) (fun c166 => ?_)
                  · replace hp := hp.1 c166
                    refine xJ_fg 7 ?_
                    dsimp only [List.set]
                    refine xJ_fg 8 ?_
                    dsimp only [List.set]
                    refine xJ_fg 9 ?_
                    dsimp only [List.set]
                    exact l192 _ _ _ _ _ _ _ _ _ _ (by omega) (by omega) hM hqE hkx0 hkx3 hx4 hx5 hp
                  · replace hp := hp.2 c166
                    refine xJ_aload hX dX14_checksum_169 rfl ?_
                    refine xJ_iload hX dX14_checksum_171 rfl ?_
                    obtain ⟨h173, hp⟩ := hp
                    refine xJ_iald hX dX14_checksum_173 hkx7 h173.1 h173.2 ?_
                    refine xJ_istore hX dX14_checksum_174 (Nat.le_of_ble_eq_true rfl) rfl ?_
                    dsimp only [List.set]
                    replace hp := hp _ rfl
                    refine xJ_ldc2 (31) hX dX14_checksum_176 kc_X14_127 ?_
                    refine xJ_lload_n hX dX14_checksum_179 rfl ?_
                    refine xJ_lmul hX dX14_checksum_180 ?_
                    refine xJ_iload hX dX14_checksum_181 rfl ?_
                    refine xJ_i2l hX dX14_checksum_183 (hM _ _) ?_
                    refine xJ_ladd hX dX14_checksum_184 ?_
                    refine xJ_lstore_n hX dX14_checksum_185 (Nat.le_of_ble_eq_true rfl) rfl ?_
                    dsimp only [List.set]
                    refine xJ_iinc hX dX14_checksum_186 rfl rfl ?_
                    dsimp only [List.set]
                    obtain ⟨h186, hp⟩ := hp
                    refine xJ_goto hX dX14_checksum_189 (tgt := 162) (by decide) ?_
                    refine xJ_fg 10 ?_
                    dsimp only [List.set]
                    exact ih162 _ _ _ _ _ _ _ _ _ _ _ _ _ (by omega) (by omega) hM hqE hkx0 hkx3 hx4 hx5 hkx7 hx8 h186 hp
              refine xJ_fg 6 ?_
              dsimp only [List.set]
              exact l162 F _ _ _ _ _ _ _ _ _ _ _ _ _ (by omega) (by omega) hM hqE hkx0 hkx3 hx4 hx5 hkb147 h156 ⟨by decide, by decide⟩ hp
        exact l137 F _ _ _ _ _ _ _ _ _ _ (by omega) (by omega) hM hqE hkx0 hkb126 h131 ⟨by decide, by decide⟩ hp
      have l79 : ∀ (k79 : Nat) (c s n : Nat) (x0 : Nat) (x1 : Int) (x3 : Int) (t : xTh) (M : xMe) (hc : c + n ≤ nE) (hs : s + 64 * n ≤ 64 * nE) (hM : xMR M) (hqE : xke tE t) (hkx0 : xk t x0 = 20) (hx3 : xR x3) (hp : p_X14_checksum_79 F Q (p_X14_checksum_125 F Q) k79 n x0 x1 x3 t M), xJ X c s t M 79 [vr x0, vl x1, vU, vi x3, vU, vU, vU, vU, vU, vU, vU] [] := by
        intro k79
        induction k79 with
        | zero => intro c s n x0 x1 x3 t M hc hs hM hqE hkx0 hx3 hp; exact hp.elim
        | succ k79 ih79 =>
          intro c s n x0 x1 x3 t M hc hs hM hqE hkx0 hx3 hp
          unfold p_X14_checksum_79 at hp
          refine xJ_iload_n hX dX14_checksum_79 rfl ?_
          refine xJ_aload_n hX dX14_checksum_80 rfl ?_
          obtain ⟨b81, e81, hkb81, hp⟩ := hp
          refine xJ_getR (b := b81) hX dX14_checksum_81 fd_X14_21 rfl hkx0 e81 ?_
          refine xJ_alen hX dX14_checksum_84 (by rw [hkb81]; decide) (by rw [hkb81]; decide) ?_
          obtain ⟨h84, hp⟩ := hp
          refine xJ_icmp_ge hX dX14_checksum_85 (tgt := 125) (by decide) hx3 h84 (fun c85 => ?_) (fun c85 => ?_)
          · replace hp := hp.1 c85
            refine xJ_fg 3 ?_
            dsimp only [List.set]
            exact l125 _ _ _ _ _ _ _ (by omega) (by omega) hM hqE hkx0 hp
          · replace hp := hp.2 c85
            refine xJ_iconst hX dX14_checksum_88 ?_
            refine xJ_istore hX dX14_checksum_89 (Nat.le_of_ble_eq_true rfl) rfl ?_
            dsimp only [List.set]
            have l119 : ∀ (c s n : Nat) (x0 : Nat) (x1 : Int) (x3 : Int) (t : xTh) (M : xMe) (hc : c + n ≤ nE) (hs : s + 64 * n ≤ 64 * nE) (hM : xMR M) (hqE : xke tE t) (hkx0 : xk t x0 = 20) (hx3 : xR x3) (hp : p_X14_checksum_119 F Q (p_X14_checksum_79 F Q (p_X14_checksum_125 F Q) k79) (p_X14_checksum_125 F Q) n x0 x1 x3 t M), xJ X c s t M 119 [vr x0, vl x1, vU, vi x3, vU, vU, vU, vU, vU, vU, vU] [] := by
              intro c s n x0 x1 x3 t M hc hs hM hqE hkx0 hx3 hp
              unfold p_X14_checksum_119 at hp
              refine xJ_iinc hX dX14_checksum_119 rfl rfl ?_
              dsimp only [List.set]
              obtain ⟨h119, hp⟩ := hp
              refine xJ_goto hX dX14_checksum_122 (tgt := 79) (by decide) ?_
              exact ih79 _ _ _ _ _ _ _ _ (by omega) (by omega) hM hqE hkx0 h119 hp
            have l91 : ∀ (k91 : Nat) (c s n : Nat) (x0 : Nat) (x1 : Int) (x3 : Int) (x4 : Int) (t : xTh) (M : xMe) (hc : c + n ≤ nE) (hs : s + 64 * n ≤ 64 * nE) (hM : xMR M) (hqE : xke tE t) (hkx0 : xk t x0 = 20) (hx3 : xR x3) (hx4 : xR x4) (hp : p_X14_checksum_91 F Q (p_X14_checksum_79 F Q (p_X14_checksum_125 F Q) k79) (p_X14_checksum_119 F Q (p_X14_checksum_79 F Q (p_X14_checksum_125 F Q) k79) (p_X14_checksum_125 F Q)) (p_X14_checksum_125 F Q) k91 n x0 x1 x3 x4 t M), xJ X c s t M 91 [vr x0, vl x1, vU, vi x3, vi x4, vU, vU, vU, vU, vU, vU] [] := by
              intro k91
              induction k91 with
              | zero => intro c s n x0 x1 x3 x4 t M hc hs hM hqE hkx0 hx3 hx4 hp; exact hp.elim
              | succ k91 ih91 =>
                intro c s n x0 x1 x3 x4 t M hc hs hM hqE hkx0 hx3 hx4 hp
                unfold p_X14_checksum_91 at hp
                refine xJ_iload hX dX14_checksum_91 rfl ?_
                refine xJ_bipush hX dX14_checksum_93 rfl ?_
                refine xJ_icmp_ge hX dX14_checksum_95 (tgt := 119) (by decide) hx4 ⟨by decide, by decide⟩ (fun c95 => ?_) (fun c95 => ?_)
                · replace hp := hp.1 c95
                  refine xJ_fg 4 ?_
                  dsimp only [List.set]
                  exact l119 _ _ _ _ _ _ _ _ (by omega) (by omega) hM hqE hkx0 hx3 hp
                · replace hp := hp.2 c95
                  refine xJ_ldc2 (31) hX dX14_checksum_98 kc_X14_127 ?_
                  refine xJ_lload_n hX dX14_checksum_101 rfl ?_
                  refine xJ_lmul hX dX14_checksum_102 ?_
                  refine xJ_aload_n hX dX14_checksum_103 rfl ?_
                  refine xJ_iload_n hX dX14_checksum_104 rfl ?_
                  refine xJ_iload hX dX14_checksum_105 rfl ?_
                  obtain ⟨k107, hn107, hp⟩ := hp
                  refine xJ_callV (As := [_, _]) hX hB dX14_checksum_107 lk_X14_135 im_X14_packet se_X14_packet rfl (by decide) hkx0 (c_X14_packet hM hkx0 hx3 hx4 hp) (by decide) rfl rfl rfl (Nat.le_of_ble_eq_true rfl) (by omega) (by omega) (fun v t107 M107 hv => ?_) (fun _ _ _ q => q.elim)
                  clear hp
                  obtain ⟨r107, rfl, h107, hM107, hq107, hp⟩ := hv
                  dsimp only [Option.toList, List.cons_append, List.nil_append]
                  refine xJ_i2l hX dX14_checksum_110 h107 ?_
                  refine xJ_ladd hX dX14_checksum_111 ?_
                  refine xJ_lstore_n hX dX14_checksum_112 (Nat.le_of_ble_eq_true rfl) rfl ?_
                  dsimp only [List.set]
                  refine xJ_iinc hX dX14_checksum_113 rfl rfl ?_
                  dsimp only [List.set]
                  obtain ⟨h113, hp⟩ := hp
                  refine xJ_goto hX dX14_checksum_116 (tgt := 91) (by decide) ?_
                  exact ih91 _ _ _ _ _ _ _ _ _ (by omega) (by omega) hM107 (xke_trans hqE hq107) (xke_k hq107 hkx0 (by decide)) hx3 h113 hp
            exact l91 F _ _ _ _ _ _ _ _ _ (by omega) (by omega) hM hqE hkx0 hx3 ⟨by decide, by decide⟩ hp
      exact l79 F _ _ _ _ _ _ _ _ (by omega) (by omega) hM hqE hkx0 ⟨by decide, by decide⟩ hp
    have l31 : ∀ (k31 : Nat) (c s n : Nat) (x0 : Nat) (x1 : Int) (x3 : Int) (t : xTh) (M : xMe) (hc : c + n ≤ nE) (hs : s + 64 * n ≤ 64 * nE) (hM : xMR M) (hqE : xke tE t) (hkx0 : xk t x0 = 20) (hx3 : xR x3) (hp : p_X14_checksum_31 F Q (p_X14_checksum_77 F Q) k31 n x0 x1 x3 t M), xJ X c s t M 31 [vr x0, vl x1, vU, vi x3, vU, vU, vU, vU, vU, vU, vU] [] := by
      intro k31
      induction k31 with
      | zero => intro c s n x0 x1 x3 t M hc hs hM hqE hkx0 hx3 hp; exact hp.elim
      | succ k31 ih31 =>
        intro c s n x0 x1 x3 t M hc hs hM hqE hkx0 hx3 hp
        unfold p_X14_checksum_31 at hp
        refine xJ_iload_n hX dX14_checksum_31 rfl ?_
        refine xJ_aload_n hX dX14_checksum_32 rfl ?_
        obtain ⟨b33, e33, hkb33, hp⟩ := hp
        refine xJ_getR (b := b33) hX dX14_checksum_33 fd_X14_15 rfl hkx0 e33 ?_
        refine xJ_alen hX dX14_checksum_36 (by rw [hkb33]; decide) (by rw [hkb33]; decide) ?_
        obtain ⟨h36, hp⟩ := hp
        refine xJ_icmp_ge hX dX14_checksum_37 (tgt := 77) (by decide) hx3 h36 (fun c37 => ?_) (fun c37 => ?_)
        · replace hp := hp.1 c37
          refine xJ_fg 3 ?_
          dsimp only [List.set]
          exact l77 _ _ _ _ _ _ _ (by omega) (by omega) hM hqE hkx0 hp
        · replace hp := hp.2 c37
          refine xJ_iconst hX dX14_checksum_40 ?_
          refine xJ_istore hX dX14_checksum_41 (Nat.le_of_ble_eq_true rfl) rfl ?_
          dsimp only [List.set]
          have l71 : ∀ (c s n : Nat) (x0 : Nat) (x1 : Int) (x3 : Int) (t : xTh) (M : xMe) (hc : c + n ≤ nE) (hs : s + 64 * n ≤ 64 * nE) (hM : xMR M) (hqE : xke tE t) (hkx0 : xk t x0 = 20) (hx3 : xR x3) (hp : p_X14_checksum_71 F Q (p_X14_checksum_31 F Q (p_X14_checksum_77 F Q) k31) (p_X14_checksum_77 F Q) n x0 x1 x3 t M), xJ X c s t M 71 [vr x0, vl x1, vU, vi x3, vU, vU, vU, vU, vU, vU, vU] [] := by
            intro c s n x0 x1 x3 t M hc hs hM hqE hkx0 hx3 hp
            unfold p_X14_checksum_71 at hp
            refine xJ_iinc hX dX14_checksum_71 rfl rfl ?_
            dsimp only [List.set]
            obtain ⟨h71, hp⟩ := hp
            refine xJ_goto hX dX14_checksum_74 (tgt := 31) (by decide) ?_
            exact ih31 _ _ _ _ _ _ _ _ (by omega) (by omega) hM hqE hkx0 h71 hp
          have l43 : ∀ (k43 : Nat) (c s n : Nat) (x0 : Nat) (x1 : Int) (x3 : Int) (x4 : Int) (t : xTh) (M : xMe) (hc : c + n ≤ nE) (hs : s + 64 * n ≤ 64 * nE) (hM : xMR M) (hqE : xke tE t) (hkx0 : xk t x0 = 20) (hx3 : xR x3) (hx4 : xR x4) (hp : p_X14_checksum_43 F Q (p_X14_checksum_31 F Q (p_X14_checksum_77 F Q) k31) (p_X14_checksum_71 F Q (p_X14_checksum_31 F Q (p_X14_checksum_77 F Q) k31) (p_X14_checksum_77 F Q)) (p_X14_checksum_77 F Q) k43 n x0 x1 x3 x4 t M), xJ X c s t M 43 [vr x0, vl x1, vU, vi x3, vi x4, vU, vU, vU, vU, vU, vU] [] := by
            intro k43
            induction k43 with
            | zero => intro c s n x0 x1 x3 x4 t M hc hs hM hqE hkx0 hx3 hx4 hp; exact hp.elim
            | succ k43 ih43 =>
              intro c s n x0 x1 x3 x4 t M hc hs hM hqE hkx0 hx3 hx4 hp
              unfold p_X14_checksum_43 at hp
              refine xJ_iload hX dX14_checksum_43 rfl ?_
              refine xJ_bipush hX dX14_checksum_45 rfl ?_
              refine xJ_icmp_ge hX dX14_checksum_47 (tgt := 71) (by decide) hx4 ⟨by decide, by decide⟩ (fun c47 => ?_) (fun c47 => ?_)
              · replace hp := hp.1 c47
                refine xJ_fg 4 ?_
                dsimp only [List.set]
                exact l71 _ _ _ _ _ _ _ _ (by omega) (by omega) hM hqE hkx0 hx3 hp
              · replace hp := hp.2 c47
                refine xJ_ldc2 (31) hX dX14_checksum_50 kc_X14_127 ?_
                refine xJ_lload_n hX dX14_checksum_53 rfl ?_
                refine xJ_lmul hX dX14_checksum_54 ?_
                refine xJ_aload_n hX dX14_checksum_55 rfl ?_
                refine xJ_iload_n hX dX14_checksum_56 rfl ?_
                refine xJ_iload hX dX14_checksum_57 rfl ?_
                obtain ⟨k59, hn59, hp⟩ := hp
                refine xJ_callV (As := [_, _]) hX hB dX14_checksum_59 lk_X14_132 im_X14_flow se_X14_flow rfl (by decide) hkx0 (c_X14_flow hM hkx0 hx3 hx4 hp) (by decide) rfl rfl rfl (Nat.le_of_ble_eq_true rfl) (by omega) (by omega) (fun v t59 M59 hv => ?_) (fun _ _ _ q => q.elim)
                clear hp
                obtain ⟨r59, rfl, h59, hM59, hq59, hp⟩ := hv
                dsimp only [Option.toList, List.cons_append, List.nil_append]
                refine xJ_i2l hX dX14_checksum_62 h59 ?_
                refine xJ_ladd hX dX14_checksum_63 ?_
                refine xJ_lstore_n hX dX14_checksum_64 (Nat.le_of_ble_eq_true rfl) rfl ?_
                dsimp only [List.set]
                refine xJ_iinc hX dX14_checksum_65 rfl rfl ?_
                dsimp only [List.set]
                obtain ⟨h65, hp⟩ := hp
                refine xJ_goto hX dX14_checksum_68 (tgt := 43) (by decide) ?_
                exact ih43 _ _ _ _ _ _ _ _ _ (by omega) (by omega) hM59 (xke_trans hqE hq59) (xke_k hq59 hkx0 (by decide)) hx3 h65 hp
          exact l43 F _ _ _ _ _ _ _ _ _ (by omega) (by omega) hM hqE hkx0 hx3 ⟨by decide, by decide⟩ hp
    exact l31 F _ _ _ _ _ _ _ _ (by omega) (by omega) hM hqE hkx0 ⟨by decide, by decide⟩ hp
  have l4 : ∀ (k4 : Nat) (c s n : Nat) (x0 : Nat) (x1 : Int) (x3 : Int) (t : xTh) (M : xMe) (hc : c + n ≤ nE) (hs : s + 64 * n ≤ 64 * nE) (hM : xMR M) (hqE : xke tE t) (hkx0 : xk t x0 = 20) (hx3 : xR x3) (hp : p_X14_checksum_4 F Q (p_X14_checksum_29 F Q) k4 n x0 x1 x3 t M), xJ X c s t M 4 [vr x0, vl x1, vU, vi x3, vU, vU, vU, vU, vU, vU, vU] [] := by
    intro k4
    induction k4 with
    | zero => intro c s n x0 x1 x3 t M hc hs hM hqE hkx0 hx3 hp; exact hp.elim
    | succ k4 ih4 =>
      intro c s n x0 x1 x3 t M hc hs hM hqE hkx0 hx3 hp
      unfold p_X14_checksum_4 at hp
      refine xJ_iload_n hX dX14_checksum_4 rfl ?_
      refine xJ_bipush hX dX14_checksum_5 rfl ?_
      refine xJ_icmp_ge hX dX14_checksum_7 (tgt := 29) (by decide) hx3 ⟨by decide, by decide⟩ (fun c7 => ?_) (fun c7 => ?_)
      · replace hp := hp.1 c7
        refine xJ_fg 3 ?_
        dsimp only [List.set]
        exact l29 _ _ _ _ _ _ _ (by omega) (by omega) hM hqE hkx0 hp
      · replace hp := hp.2 c7
        refine xJ_ldc2 (31) hX dX14_checksum_10 kc_X14_127 ?_
        refine xJ_lload_n hX dX14_checksum_13 rfl ?_
        refine xJ_lmul hX dX14_checksum_14 ?_
        refine xJ_aload_n hX dX14_checksum_15 rfl ?_
        refine xJ_iload_n hX dX14_checksum_16 rfl ?_
        obtain ⟨k17, hn17, hp⟩ := hp
        refine xJ_callV (As := [_]) hX hB dX14_checksum_17 lk_X14_129 im_X14_told se_X14_told rfl (by decide) hkx0 (c_X14_told hM hkx0 hx3 hp) (by decide) rfl rfl rfl (Nat.le_of_ble_eq_true rfl) (by omega) (by omega) (fun v t17 M17 hv => ?_) (fun _ _ _ q => q.elim)
        clear hp
        obtain ⟨r17, rfl, h17, hM17, hq17, hp⟩ := hv
        dsimp only [Option.toList, List.cons_append, List.nil_append]
        refine xJ_i2l hX dX14_checksum_20 h17 ?_
        refine xJ_ladd hX dX14_checksum_21 ?_
        refine xJ_lstore_n hX dX14_checksum_22 (Nat.le_of_ble_eq_true rfl) rfl ?_
        dsimp only [List.set]
        refine xJ_iinc hX dX14_checksum_23 rfl rfl ?_
        dsimp only [List.set]
        obtain ⟨h23, hp⟩ := hp
        refine xJ_goto hX dX14_checksum_26 (tgt := 4) (by decide) ?_
        exact ih4 _ _ _ _ _ _ _ _ (by omega) (by omega) hM17 (xke_trans hqE hq17) (xke_k hq17 hkx0 (by decide)) h23 hp
  exact l4 F _ _ _ _ _ _ _ _ (by omega) (by omega) hME (xke_refl _) hkx0 ⟨by decide, by decide⟩ hp
