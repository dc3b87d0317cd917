def p_L_flush_22 (F : Nat) (Q : xTh → xMe → Prop) : Nat → Nat → Nat → Int → xTh → xMe → Prop
  | 0, _, _, _, _, _ => False
  | k + 1, n, x1, x2, t, M =>
    ((6 ≤ x2 → Q t M) ∧ (x2 < 6 → ((0 : Int) ≤ x2 ∧ x2 < (xn t x1 : Int)) ∧ (∀ M31 : xMe, M31 = xw M x1 x2.toNat 0 → (xR (x2 + 1)) ∧ p_L_flush_22 F Q k n x1 (x2 + 1) t M31)))
def p_L_flush (F : Nat) (n : Nat) (tE : xTh) (x0 : Nat) (x1 : Nat) (ME : xMe) (Q : xTh → xMe → Prop) : Prop :=
  ((0 : Int) ≤ 1 ∧ 1 < (xn tE x1 : Int)) ∧ ((0 : Int) ≤ 2 ∧ 2 < (xn tE x1 : Int)) ∧ ((0 : Int) ≤ 3 ∧ 3 < (xn tE x1 : Int)) ∧ ((0 : Int) ≤ 4 ∧ 4 < (xn tE x1 : Int)) ∧ ((0 : Int) ≤ 5 ∧ 5 < (xn tE x1 : Int)) ∧ (oX11 tE x0 ∧ oXQ tE x0) ∧ p_X11_append F x0 (ME x1 1) (ME x1 2) (ME x1 3) (ME x1 4) (ME x1 5) ME (fun r16 M16 => p_L_flush_22 F Q F n x1 1 tE M16)
set_option maxHeartbeats 8000000 in
set_option maxRecDepth 100000 in
theorem c_L_flush {G : xGx} {tE : xTh} {ME : xMe} {F nE : Nat} {x0 : Nat} {x1 : Nat} {Q : xTh → xMe → Prop} (hME : xMR ME) (hkx1 : xk tE x1 = 14)  (hp : p_L_flush F nE tE x0 x1 ME Q) : xCt G yL_flush cL_flush 3 none 2 nE (64 * nE) [vr x0, vr x1] tE ME (fun v t' M' => v = none ∧ xMR M' ∧ xke tE t' ∧ Q t' M') (fun _ _ _ => False) := by
  refine xCt_of (L0 := [vr x0, vr x1, vU]) (by decide +kernel) (Nat.le_of_ble_eq_true rfl) rfl ?_
  intro X hX hB
  unfold p_L_flush at hp
  refine xJ_aload_n hX dL_flush_0 rfl ?_
  refine xJ_aload_n hX dL_flush_1 rfl ?_
  refine xJ_iconst hX dL_flush_2 ?_
  obtain ⟨h3, hp⟩ := hp
  refine xJ_iald hX dL_flush_3 hkx1 h3.1 h3.2 ?_
  refine xJ_aload_n hX dL_flush_4 rfl ?_
  refine xJ_iconst hX dL_flush_5 ?_
  obtain ⟨h6, hp⟩ := hp
  refine xJ_iald hX dL_flush_6 hkx1 h6.1 h6.2 ?_
  refine xJ_aload_n hX dL_flush_7 rfl ?_
  refine xJ_iconst hX dL_flush_8 ?_
  obtain ⟨h9, hp⟩ := hp
  refine xJ_iald hX dL_flush_9 hkx1 h9.1 h9.2 ?_
  refine xJ_aload_n hX dL_flush_10 rfl ?_
  refine xJ_iconst hX dL_flush_11 ?_
  obtain ⟨h12, hp⟩ := hp
  refine xJ_iald hX dL_flush_12 hkx1 h12.1 h12.2 ?_
  refine xJ_aload_n hX dL_flush_13 rfl ?_
  refine xJ_iconst hX dL_flush_14 ?_
  obtain ⟨h15, hp⟩ := hp
  refine xJ_iald hX dL_flush_15 hkx1 h15.1 h15.2 ?_
  obtain ⟨hw16, hp⟩ := hp
  refine xJ_callV (As := [_, _, _, _, _]) hX hB dL_flush_16 lk_L_13 im_X11_append se_X11_append rfl (by decide) (oX11_k hw16.1) (c_X11_append hw16.1 hME (hME _ _) (hME _ _) (hME _ _) (hME _ _) (hME _ _) hp) (by decide) rfl rfl rfl (Nat.le_of_ble_eq_true rfl) (by omega) (by omega) (fun v t16 M16 hv => ?_) (fun _ _ _ q => q.elim)
  clear hp
  obtain ⟨r16, rfl, h16, hM16, ht9, hp⟩ := hv
  replace ht9 := ht9.symm
  subst ht9
  dsimp only [Option.toList, List.cons_append, List.nil_append]
  refine xJ_pop hX dL_flush_19 rfl ?_
  refine xJ_iconst hX dL_flush_20 ?_
  refine xJ_istore_n hX dL_flush_21 (Nat.le_of_ble_eq_true rfl) rfl ?_
  dsimp only [List.set]
  have l22 : ∀ (k22 : Nat) (c s n : Nat) (x1 : Nat) (x2 : Int) (t : xTh) (M : xMe) (hc : c + n ≤ nE) (hs : s + 64 * n ≤ 64 * nE) (hM : xMR M) (hqE : xke tE t) (hkx1 : xk t x1 = 14) (hx2 : xR x2) (hp : p_L_flush_22 F Q k22 n x1 x2 t M), xJ X c s t M 22 [vU, vr x1, vi x2] [] := by
    intro k22
    induction k22 with
    | zero => intro c s n x1 x2 t M hc hs hM hqE hkx1 hx2 hp; exact hp.elim
    | succ k22 ih22 =>
      intro c s n x1 x2 t M hc hs hM hqE hkx1 hx2 hp
      unfold p_L_flush_22 at hp
      refine xJ_iload_n hX dL_flush_22 rfl ?_
      refine xJ_bipush hX dL_flush_23 rfl ?_
      refine xJ_icmp_ge hX dL_flush_25 (tgt := 38) (by decide) hx2 ⟨by decide, by decide⟩ (fun c25 => ?_) (fun c25 => ?_)
      · replace hp := hp.1 c25
        exact xJ_vret hX hB dL_flush_38 (by omega) (by omega) ⟨rfl, hM, hqE, hp⟩
      · replace hp := hp.2 c25
        refine xJ_aload_n hX dL_flush_28 rfl ?_
        refine xJ_iload_n hX dL_flush_29 rfl ?_
        refine xJ_iconst hX dL_flush_30 ?_
        obtain ⟨h31, hp⟩ := hp
        refine xJ_iastM hX dL_flush_31 hkx1 h31.1 h31.2 hM ⟨by decide, by decide⟩ (fun M31 e31 hM31 => ?_)
        replace hp := hp M31 e31
        refine xJ_iinc hX dL_flush_32 rfl rfl ?_
        dsimp only [List.set]
        obtain ⟨h32, hp⟩ := hp
        refine xJ_goto hX dL_flush_35 (tgt := 22) (by decide) ?_
        exact ih22 _ _ _ _ _ _ _ (by omega) (by omega) hM31 hqE hkx1 h32 hp
  refine xJ_fg 0 ?_
  dsimp only [List.set]
  exact l22 F _ _ _ _ _ _ _ (by omega) (by omega) hM16 (xke_refl _) hkx1 ⟨by decide, by decide⟩ hp
def p_L_put (F : Nat) (n : Nat) (tE : xTh) (x0 : Nat) (x1 : Nat) (x2 : Int) (ME : xMe) (Q : xTh → xMe → Prop) : Prop :=
  ((0 : Int) ≤ 0 ∧ 0 < (xn tE x1 : Int)) ∧ (20 ≠ (0 : Int) ∧ xR (Int.tmod (ME x1 0) 20)) ∧ (4 ≠ (0 : Int) ∧ xR (Int.tdiv (Int.tmod (ME x1 0) 20) 4)) ∧ (xR (1 + (Int.tdiv (Int.tmod (ME x1 0) 20) 4))) ∧ ((0 : Int) ≤ (1 + (Int.tdiv (Int.tmod (ME x1 0) 20) 4)) ∧ (1 + (Int.tdiv (Int.tmod (ME x1 0) 20) 4)) < (xn tE x1 : Int)) ∧ ((0 : Int) ≤ 0 ∧ 0 < (xn tE x1 : Int)) ∧ (4 ≠ (0 : Int) ∧ xR (Int.tmod (ME x1 0) 4)) ∧ (xR (8 * (Int.tmod (ME x1 0) 4))) ∧ (xR (24 - (8 * (Int.tmod (ME x1 0) 4)))) ∧ (((0 : Int) ≤ (24 - (8 * (Int.tmod (ME x1 0) 4))) ∧ (24 - (8 * (Int.tmod (ME x1 0) 4))) < 32) ∧ xR (x2 * 2 ^ (24 - (8 * (Int.tmod (ME x1 0) 4))).toNat)) ∧ (∃ j26 : Nat, (j26 ≤ 31 ∧ (0 : Int) ≤ (ME x1 (1 + (Int.tdiv (Int.tmod (ME x1 0) 20) 4)).toNat) ∧ (ME x1 (1 + (Int.tdiv (Int.tmod (ME x1 0) 20) 4)).toNat) % 2 ^ j26 = 0 ∧ (0 : Int) ≤ (x2 * 2 ^ (24 - (8 * (Int.tmod (ME x1 0) 4))).toNat) ∧ (x2 * 2 ^ (24 - (8 * (Int.tmod (ME x1 0) 4))).toNat) < 2 ^ j26 ∧ xR ((ME x1 (1 + (Int.tdiv (Int.tmod (ME x1 0) 20) 4)).toNat) + (x2 * 2 ^ (24 - (8 * (Int.tmod (ME x1 0) 4))).toNat))) ∧ ((0 : Int) ≤ (1 + (Int.tdiv (Int.tmod (ME x1 0) 20) 4)) ∧ (1 + (Int.tdiv (Int.tmod (ME x1 0) 20) 4)) < (xn tE x1 : Int)) ∧ (∀ M27 : xMe, M27 = xw ME x1 (1 + (Int.tdiv (Int.tmod (ME x1 0) 20) 4)).toNat ((ME x1 (1 + (Int.tdiv (Int.tmod (ME x1 0) 20) 4)).toNat) + (x2 * 2 ^ (24 - (8 * (Int.tmod (ME x1 0) 4))).toNat)) → ((0 : Int) ≤ 0 ∧ 0 < (xn tE x1 : Int)) ∧ (xR ((M27 x1 0) + 1)) ∧ ((0 : Int) ≤ 0 ∧ 0 < (xn tE x1 : Int)) ∧ (∀ M34 : xMe, M34 = xw M27 x1 0 ((M27 x1 0) + 1) → ((0 : Int) ≤ 0 ∧ 0 < (xn tE x1 : Int)) ∧ (20 ≠ (0 : Int) ∧ xR (Int.tmod (M34 x1 0) 20)) ∧ (((Int.tmod (M34 x1 0) 20) ≠ 0 → Q tE M34) ∧ ((Int.tmod (M34 x1 0) 20) = 0 → (∃ k46 : Nat, k46 ≤ n ∧ p_L_flush F k46 tE x0 x1 M34 (fun t46 M46 => Q t46 M46)))))))
set_option maxHeartbeats 8000000 in
set_option maxRecDepth 100000 in
theorem c_L_put {G : xGx} {tE : xTh} {ME : xMe} {F nE : Nat} {x0 : Nat} {x1 : Nat} {x2 : Int} {Q : xTh → xMe → Prop} (hME : xMR ME) (hkx1 : xk tE x1 = 14) (hx2 : xR x2) (hp : p_L_put F nE tE x0 x1 x2 ME Q) : xCt G yL_put cL_put 3 none 3 nE (64 * nE) [vr x0, vr x1, vi x2] tE ME (fun v t' M' => v = none ∧ xMR M' ∧ xke tE t' ∧ Q t' M') (fun _ _ _ => False) := by
  refine xCt_of (L0 := [vr x0, vr x1, vi x2]) (by decide +kernel) (Nat.le_of_ble_eq_true rfl) rfl ?_
  intro X hX hB
  unfold p_L_put at hp
  refine xJ_aload_n hX dL_put_0 rfl ?_
  refine xJ_iconst hX dL_put_1 ?_
  refine xJ_aload_n hX dL_put_2 rfl ?_
  refine xJ_iconst hX dL_put_3 ?_
  obtain ⟨h4, hp⟩ := hp
  refine xJ_iald hX dL_put_4 hkx1 h4.1 h4.2 ?_
  refine xJ_bipush hX dL_put_5 rfl ?_
  obtain ⟨h7, hp⟩ := hp
  refine xJ_irem hX dL_put_7 (hME _ _) ⟨by decide, by decide⟩ h7.1 ?_
  refine xJ_iconst hX dL_put_8 ?_
  obtain ⟨h9, hp⟩ := hp
  refine xJ_idiv hX dL_put_9 h7.2 ⟨by decide, by decide⟩ h9.1 ?_
  refine xJ_iadd hX dL_put_10 ?_
  obtain ⟨h10, hp⟩ := hp
  refine xJ_dup2 hX dL_put_11 rfl rfl ?_
  obtain ⟨h12, hp⟩ := hp
  refine xJ_iald hX dL_put_12 hkx1 h12.1 h12.2 ?_
  refine xJ_iload_n hX dL_put_13 rfl ?_
  refine xJ_bipush hX dL_put_14 rfl ?_
  refine xJ_bipush hX dL_put_16 rfl ?_
  refine xJ_aload_n hX dL_put_18 rfl ?_
  refine xJ_iconst hX dL_put_19 ?_
  obtain ⟨h20, hp⟩ := hp
  refine xJ_iald hX dL_put_20 hkx1 h20.1 h20.2 ?_
  refine xJ_iconst hX dL_put_21 ?_
  obtain ⟨h22, hp⟩ := hp
  refine xJ_irem hX dL_put_22 (hME _ _) ⟨by decide, by decide⟩ h22.1 ?_
  refine xJ_imul hX dL_put_23 ?_
  obtain ⟨h23, hp⟩ := hp
  refine xJ_isub hX dL_put_24 ?_
  obtain ⟨h24, hp⟩ := hp
  obtain ⟨h25, hp⟩ := hp
  refine xJ_ishlA hX dL_put_25 h25.1.1 h25.1.2 ?_
  obtain ⟨j26, h26, hp⟩ := hp
  refine xJ_iorA hX dL_put_26 h26.1 h26.2.1 h26.2.2.1 h26.2.2.2.1 h26.2.2.2.2.1 h26.2.2.2.2.2 ?_
  obtain ⟨h27, hp⟩ := hp
  refine xJ_iastM hX dL_put_27 hkx1 h27.1 h27.2 hME h26.2.2.2.2.2 (fun M27 e27 hM27 => ?_)
  replace hp := hp M27 e27
  refine xJ_aload_n hX dL_put_28 rfl ?_
  refine xJ_iconst hX dL_put_29 ?_
  refine xJ_dup2 hX dL_put_30 rfl rfl ?_
  obtain ⟨h31, hp⟩ := hp
  refine xJ_iald hX dL_put_31 hkx1 h31.1 h31.2 ?_
  refine xJ_iconst hX dL_put_32 ?_
  refine xJ_iadd hX dL_put_33 ?_
  obtain ⟨h33, hp⟩ := hp
  obtain ⟨h34, hp⟩ := hp
  refine xJ_iastM hX dL_put_34 hkx1 h34.1 h34.2 hM27 h33 (fun M34 e34 hM34 => ?_)
  replace hp := hp M34 e34
  refine xJ_aload_n hX dL_put_35 rfl ?_
  refine xJ_iconst hX dL_put_36 ?_
  obtain ⟨h37, hp⟩ := hp
  refine xJ_iald hX dL_put_37 hkx1 h37.1 h37.2 ?_
  refine xJ_bipush hX dL_put_38 rfl ?_
  obtain ⟨h40, hp⟩ := hp
  refine xJ_irem hX dL_put_40 (hM34 _ _) ⟨by decide, by decide⟩ h40.1 ?_
  refine xJ_if_ne hX dL_put_41 (tgt := 49) (by decide) h40.2 (fun c41 => ?_) (fun c41 => ?_)
  · replace hp := hp.1 c41
    exact xJ_vret hX hB dL_put_49 (by omega) (by omega) ⟨rfl, hM34, (xke_refl _), hp⟩
  · replace hp := hp.2 c41
    refine xJ_aload_n hX dL_put_44 rfl ?_
    refine xJ_aload_n hX dL_put_45 rfl ?_
    obtain ⟨k46, hn46, hp⟩ := hp
    refine xJ_callS (As := [_, _]) hX hB dL_put_46 lk_L_7 sm_L_flush (c_L_flush hM34 hkx1 hp) (by decide) rfl rfl rfl (Nat.le_of_ble_eq_true rfl) (by omega) (by omega) (fun v t46 M46 hv => ?_) (fun _ _ _ q => q.elim)
    clear hp
    obtain ⟨rfl, hM46, hq46, hp⟩ := hv
    dsimp only [Option.toList, List.cons_append, List.nil_append]
    exact xJ_vret hX hB dL_put_49 (by omega) (by omega) ⟨rfl, hM46, (xke_trans (xke_refl _) hq46), hp⟩
def p_L_loadText_16 (F : Nat) (Q : Int → xTh → xMe → Prop) (n : Nat) (x0 : Nat) (x1 : Nat) (x2 : Int) (t : xTh) (M : xMe) : Prop :=
    ((0 : Int) ≤ 0 ∧ 0 < (xn t x1 : Int)) ∧ (∀ M19 : xMe, M19 = xw M x1 0 0 → (17 ≤ n ∧ oX11 t x0 ∧ oXQ t x0) ∧ p_L_load F t x0 x2 M19 (fun r22 t22 M22 => xqw t t22 → xlive t22 → Q r22 t22 M22))
def p_L_loadText (F : Nat) (n : Nat) (tE : xTh) (x0 : Nat) (x1 : Nat) (ME : xMe) (Q : Int → xTh → xMe → Prop) : Prop :=
  ((0 : Int) ≤ 0 ∧ 0 < (xn tE x1 : Int)) ∧ (∀ z3 : Int, z3 = ME x1 0 → (20 ≠ (0 : Int) ∧ xR (Int.tmod z3 20)) ∧ (((Int.tmod z3 20) ≤ 0 → p_L_loadText_16 F Q n x0 x1 z3 tE ME) ∧ (0 < (Int.tmod z3 20) → (∃ k13 : Nat, k13 ≤ n ∧ p_L_flush F k13 tE x0 x1 ME (fun t13 M13 => p_L_loadText_16 F Q ((n - k13)) x0 x1 z3 t13 M13)))))
set_option maxHeartbeats 8000000 in
set_option maxRecDepth 100000 in
theorem c_L_loadText {G : xGx} {tE : xTh} {ME : xMe} {F nE : Nat} {x0 : Nat} {x1 : Nat} {Q : Int → xTh → xMe → Prop} (hME : xMR ME) (hkx1 : xk tE x1 = 14)  (hp : p_L_loadText F nE tE x0 x1 ME Q) : xCt G yL_loadText cL_loadText 3 (some .int) 117 nE (64 * nE) [vr x0, vr x1] tE ME (fun v t' M' => ∃ r, v = some (vi r) ∧ xR r ∧ xMR M' ∧ xke tE t' ∧ Q r t' M') (fun _ _ _ => False) := by
  refine xCt_of (L0 := [vr x0, vr x1, vU]) (by decide +kernel) (Nat.le_of_ble_eq_true rfl) rfl ?_
  intro X hX hB
  unfold p_L_loadText at hp
  refine xJ_aload_n hX dL_loadText_0 rfl ?_
  refine xJ_iconst hX dL_loadText_1 ?_
  obtain ⟨h2, hp⟩ := hp
  refine xJ_iald hX dL_loadText_2 hkx1 h2.1 h2.2 ?_
  refine xJ_istore_n hX dL_loadText_3 (Nat.le_of_ble_eq_true rfl) rfl ?_
  dsimp only [List.set]
  replace hp := hp _ rfl
  refine xJ_iload_n hX dL_loadText_4 rfl ?_
  refine xJ_bipush hX dL_loadText_5 rfl ?_
  obtain ⟨h7, hp⟩ := hp
  refine xJ_irem hX dL_loadText_7 (hME _ _) ⟨by decide, by decide⟩ h7.1 ?_
  have l16 : ∀ (c s n : Nat) (x0 : Nat) (x1 : Nat) (x2 : Int) (t : xTh) (M : xMe) (hc : c + n ≤ nE) (hs : s + 64 * n ≤ 64 * nE) (hM : xMR M) (hqE : xke tE t) (hkx1 : xk t x1 = 14) (hx2 : xR x2) (hp : p_L_loadText_16 F Q n x0 x1 x2 t M), xJ X c s t M 16 [vr x0, vr x1, vi x2] [] := by
    intro c s n x0 x1 x2 t M hc hs hM hqE hkx1 hx2 hp
    unfold p_L_loadText_16 at hp
    refine xJ_aload_n hX dL_loadText_16 rfl ?_
    refine xJ_iconst hX dL_loadText_17 ?_
    refine xJ_iconst hX dL_loadText_18 ?_
    obtain ⟨h19, hp⟩ := hp
    refine xJ_iastM hX dL_loadText_19 hkx1 h19.1 h19.2 hM ⟨by decide, by decide⟩ (fun M19 e19 hM19 => ?_)
    replace hp := hp M19 e19
    refine xJ_aload_n hX dL_loadText_20 rfl ?_
    refine xJ_iload_n hX dL_loadText_21 rfl ?_
    obtain ⟨hw22, hp⟩ := hp
    have hn22 := hw22.1
    refine xJ_callSW (As := [_, _]) hX hB dL_loadText_22 lkw_L_load sm_L_load (c_L_load hw22.2.1 hw22.2.2 hM19 hx2 hp) (by decide) rfl rfl rfl (Nat.le_of_ble_eq_true rfl) (by omega) (by omega) (fun v t22 M22 hv => ?_)
    clear hp
    obtain ⟨r22, rfl, h22, hM22, hqw22, hp⟩ := hv
    have hq22 := xke_qw hqw22
    refine xJ_live fun hlv22 => ?_
    replace hp := hp hqw22 hlv22
    dsimp only [Option.toList, List.cons_append, List.nil_append]
    exact xJ_iret hX hB dL_loadText_25 (by omega) (by omega) ⟨_, rfl, h22, hM22, (xke_trans hqE hq22), hp⟩
  refine xJ_if_le hX dL_loadText_8 (tgt := 16) (by decide) h7.2 (fun c8 => ?_) (fun c8 => ?_)
  · replace hp := hp.1 c8
    exact l16 _ _ _ _ _ _ _ _ (by omega) (by omega) hME (xke_refl _) hkx1 (hME _ _) hp
  · replace hp := hp.2 c8
    refine xJ_aload_n hX dL_loadText_11 rfl ?_
    refine xJ_aload_n hX dL_loadText_12 rfl ?_
    obtain ⟨k13, hn13, hp⟩ := hp
    refine xJ_callS (As := [_, _]) hX hB dL_loadText_13 lk_L_7 sm_L_flush (c_L_flush hME hkx1 hp) (by decide) rfl rfl rfl (Nat.le_of_ble_eq_true rfl) (by omega) (by omega) (fun v t13 M13 hv => ?_) (fun _ _ _ q => q.elim)
    clear hp
    obtain ⟨rfl, hM13, hq13, hp⟩ := hv
    dsimp only [Option.toList, List.cons_append, List.nil_append]
    exact l16 _ _ _ _ _ _ _ _ (by omega) (by omega) hM13 (xke_trans (xke_refl _) hq13) (xke_k hq13 hkx1 (by decide)) (hME _ _) hp
def p_L_write_2 (F : Nat) (G : xGx) (Q : xTh → xMe → Prop) : Nat → Nat → Nat → Nat → Nat → Int → xTh → xMe → Prop
  | 0, _, _, _, _, _, _, _ => False
  | k + 1, n, x0, x1, x2, x3, t, M =>
    (∃ (w4 : Nat) (f4 : Nat → Int), xIsT G t M x2 w4 f4 ∧ ((((w4 : Int)) ≤ x3 → Q t M) ∧ (x3 < ((w4 : Int)) → (∃ (w14 : Nat) (f14 : Nat → Int), xIsT G t M x2 w14 f14 ∧ ((0 : Int) ≤ x3 ∧ x3 < (w14 : Int)) ∧ (∃ k17 : Nat, k17 ≤ n ∧ p_L_put F k17 t x0 x1 (f14 x3.toNat) M (fun t17 M17 => (xR (x3 + 1)) ∧ p_L_write_2 F G Q k ((n - k17)) x0 x1 x2 (x3 + 1) t17 M17))))))
def p_L_write (F : Nat) (G : xGx) (n : Nat) (tE : xTh) (x0 : Nat) (x1 : Nat) (x2 : Nat) (ME : xMe) (Q : xTh → xMe → Prop) : Prop :=
  p_L_write_2 F G Q F n x0 x1 x2 0 tE ME
set_option maxHeartbeats 8000000 in
set_option maxRecDepth 100000 in
theorem c_L_write {G : xGx} {tE : xTh} {ME : xMe} {F nE : Nat} {x0 : Nat} {x1 : Nat} {x2 : Nat} {Q : xTh → xMe → Prop} (hME : xMR ME) (hkx1 : xk tE x1 = 14)  (hp : p_L_write F G nE tE x0 x1 x2 ME Q) : xCt G yL_write cL_write 4 none 10 nE (64 * nE) [vr x0, vr x1, vr x2] tE ME (fun v t' M' => v = none ∧ xMR M' ∧ xke tE t' ∧ Q t' M') (fun _ _ _ => False) := by
  refine xCt_of (L0 := [vr x0, vr x1, vr x2, vU]) (by decide +kernel) (Nat.le_of_ble_eq_true rfl) rfl ?_
  intro X hX hB
  unfold p_L_write at hp
  refine xJ_iconst hX dL_write_0 ?_
  refine xJ_istore_n hX dL_write_1 (Nat.le_of_ble_eq_true rfl) rfl ?_
  dsimp only [List.set]
  have l2 : ∀ (k2 : Nat) (c s n : Nat) (x0 : Nat) (x1 : Nat) (x2 : Nat) (x3 : Int) (t : xTh) (M : xMe) (hc : c + n ≤ nE) (hs : s + 64 * n ≤ 64 * nE) (hM : xMR M) (hqE : xke tE t) (hkx1 : xk t x1 = 14) (hx3 : xR x3) (hp : p_L_write_2 F G Q k2 n x0 x1 x2 x3 t M), xJ X c s t M 2 [vr x0, vr x1, vr x2, vi x3] [] := by
    intro k2
    induction k2 with
    | zero => intro c s n x0 x1 x2 x3 t M hc hs hM hqE hkx1 hx3 hp; exact hp.elim
    | succ k2 ih2 =>
      intro c s n x0 x1 x2 x3 t M hc hs hM hqE hkx1 hx3 hp
      unfold p_L_write_2 at hp
      refine xJ_iload_n hX dL_write_2 rfl ?_
      refine xJ_aload_n hX dL_write_3 rfl ?_
      obtain ⟨w4, f4, hT4, hp⟩ := hp
      refine xJ_tlen hX hB dL_write_4 lk_L_23 rfl (by decide) (Nat.le_of_ble_eq_true rfl) hT4 (by omega) (by omega) ?_
      refine xJ_icmp_ge hX dL_write_7 (tgt := 26) (by decide) hx3 (xIsT_R hT4) (fun c7 => ?_) (fun c7 => ?_)
      · replace hp := hp.1 c7
        exact xJ_vret hX hB dL_write_26 (by omega) (by omega) ⟨rfl, hM, hqE, hp⟩
      · replace hp := hp.2 c7
        refine xJ_aload_n hX dL_write_10 rfl ?_
        refine xJ_aload_n hX dL_write_11 rfl ?_
        refine xJ_aload_n hX dL_write_12 rfl ?_
        refine xJ_iload_n hX dL_write_13 rfl ?_
        obtain ⟨w14, f14, hT14, h14, hp⟩ := hp
        refine xJ_tchar hX hB dL_write_14 lk_L_29 rfl (by decide) (Nat.le_of_ble_eq_true rfl) hT14 hx3 h14.1 h14.2 (by omega) (by omega) ?_
        obtain ⟨k17, hn17, hp⟩ := hp
        refine xJ_callS (As := [_, _, _]) hX hB dL_write_17 lk_L_33 sm_L_put (c_L_put hM hkx1 (xIsT_c hT14 (by omega)) hp) (by decide) rfl rfl rfl (Nat.le_of_ble_eq_true rfl) (by omega) (by omega) (fun v t17 M17 hv => ?_) (fun _ _ _ q => q.elim)
        clear hp
        obtain ⟨rfl, hM17, hq17, hp⟩ := hv
        dsimp only [Option.toList, List.cons_append, List.nil_append]
        refine xJ_iinc hX dL_write_20 rfl rfl ?_
        dsimp only [List.set]
        obtain ⟨h20, hp⟩ := hp
        refine xJ_goto hX dL_write_23 (tgt := 2) (by decide) ?_
        exact ih2 _ _ _ _ _ _ _ _ _ (by omega) (by omega) hM17 (xke_trans hqE hq17) (xke_k hq17 hkx1 (by decide)) h20 hp
  exact l2 F _ _ _ _ _ _ _ _ _ (by omega) (by omega) hME (xke_refl _) hkx1 ⟨by decide, by decide⟩ hp
def p_L_writeNumber_18 (F : Nat) (Q : xTh → xMe → Prop) : Nat → Nat → Nat → Nat → Int → Int → xTh → xMe → Prop
  | 0, _, _, _, _, _, _, _ => False
  | k + 1, n, x0, x1, x2, x3, t, M =>
    ((x3 ≤ 0 → Q t M) ∧ (0 < x3 → (x3 ≠ (0 : Int) ∧ xR (Int.tdiv x2 x3)) ∧ (10 ≠ (0 : Int) ∧ xR (Int.tmod (Int.tdiv x2 x3) 10)) ∧ (xR (48 + (Int.tmod (Int.tdiv x2 x3) 10))) ∧ (∃ k33 : Nat, k33 ≤ n ∧ p_L_put F k33 t x0 x1 (48 + (Int.tmod (Int.tdiv x2 x3) 10)) M (fun t33 M33 => (10 ≠ (0 : Int) ∧ xR (Int.tdiv x3 10)) ∧ (∀ z40 : Int, z40 = Int.tdiv x3 10 → p_L_writeNumber_18 F Q k ((n - k33)) x0 x1 x2 z40 t33 M33)))))
def p_L_writeNumber_2 (F : Nat) (Q : xTh → xMe → Prop) (K18 : Nat → Nat → Nat → Int → Int → xTh → xMe → Prop) : Nat → Nat → Nat → Nat → Int → Int → xTh → xMe → Prop
  | 0, _, _, _, _, _, _, _ => False
  | k + 1, n, x0, x1, x2, x3, t, M =>
    (10 ≠ (0 : Int) ∧ xR (Int.tdiv x2 10)) ∧ (((Int.tdiv x2 10) < x3 → K18 n x0 x1 x2 x3 t M) ∧ (x3 ≤ (Int.tdiv x2 10) → (xR (x3 * 10)) ∧ (∀ z14 : Int, z14 = x3 * 10 → p_L_writeNumber_2 F Q K18 k n x0 x1 x2 z14 t M)))
def p_L_writeNumber (F : Nat) (n : Nat) (tE : xTh) (x0 : Nat) (x1 : Nat) (x2 : Int) (ME : xMe) (Q : xTh → xMe → Prop) : Prop :=
  p_L_writeNumber_2 F Q (p_L_writeNumber_18 F Q F) F n x0 x1 x2 1 tE ME
set_option maxHeartbeats 8000000 in
set_option maxRecDepth 100000 in
theorem c_L_writeNumber {G : xGx} {tE : xTh} {ME : xMe} {F nE : Nat} {x0 : Nat} {x1 : Nat} {x2 : Int} {Q : xTh → xMe → Prop} (hME : xMR ME) (hkx1 : xk tE x1 = 14) (hx2 : xR x2) (hp : p_L_writeNumber F nE tE x0 x1 x2 ME Q) : xCt G yL_writeNumber cL_writeNumber 4 none 4 nE (64 * nE) [vr x0, vr x1, vi x2] tE ME (fun v t' M' => v = none ∧ xMR M' ∧ xke tE t' ∧ Q t' M') (fun _ _ _ => False) := by
  refine xCt_of (L0 := [vr x0, vr x1, vi x2, vU]) (by decide +kernel) (Nat.le_of_ble_eq_true rfl) rfl ?_
  intro X hX hB
  unfold p_L_writeNumber at hp
  refine xJ_iconst hX dL_writeNumber_0 ?_
  refine xJ_istore_n hX dL_writeNumber_1 (Nat.le_of_ble_eq_true rfl) rfl ?_
  dsimp only [List.set]
  have l18 : ∀ (k18 : Nat) (c s n : Nat) (x0 : Nat) (x1 : Nat) (x2 : Int) (x3 : Int) (t : xTh) (M : xMe) (hc : c + n ≤ nE) (hs : s + 64 * n ≤ 64 * nE) (hM : xMR M) (hqE : xke tE t) (hkx1 : xk t x1 = 14) (hx2 : xR x2) (hx3 : xR x3) (hp : p_L_writeNumber_18 F Q k18 n x0 x1 x2 x3 t M), xJ X c s t M 18 [vr x0, vr x1, vi x2, vi x3] [] := by
    intro k18
    induction k18 with
    | zero => intro c s n x0 x1 x2 x3 t M hc hs hM hqE hkx1 hx2 hx3 hp; exact hp.elim
    | succ k18 ih18 =>
      intro c s n x0 x1 x2 x3 t M hc hs hM hqE hkx1 hx2 hx3 hp
      unfold p_L_writeNumber_18 at hp
      refine xJ_iload_n hX dL_writeNumber_18 rfl ?_
      refine xJ_if_le hX dL_writeNumber_19 (tgt := 44) (by decide) hx3 (fun c19 => ?_) (fun c19 => ?_)
      · replace hp := hp.1 c19
        exact xJ_vret hX hB dL_writeNumber_44 (by omega) (by omega) ⟨rfl, hM, hqE, hp⟩
      · replace hp := hp.2 c19
        refine xJ_aload_n hX dL_writeNumber_22 rfl ?_
        refine xJ_aload_n hX dL_writeNumber_23 rfl ?_
        refine xJ_bipush hX dL_writeNumber_24 rfl ?_
        refine xJ_iload_n hX dL_writeNumber_26 rfl ?_
        refine xJ_iload_n hX dL_writeNumber_27 rfl ?_
        obtain ⟨h28, hp⟩ := hp
        refine xJ_idiv hX dL_writeNumber_28 hx2 hx3 h28.1 ?_
        refine xJ_bipush hX dL_writeNumber_29 rfl ?_
        obtain ⟨h31, hp⟩ := hp
        refine xJ_irem hX dL_writeNumber_31 h28.2 ⟨by decide, by decide⟩ h31.1 ?_
        refine xJ_iadd hX dL_writeNumber_32 ?_
        obtain ⟨h32, hp⟩ := hp
        obtain ⟨k33, hn33, hp⟩ := hp
        refine xJ_callS (As := [_, _, _]) hX hB dL_writeNumber_33 lk_L_33 sm_L_put (c_L_put hM hkx1 h32 hp) (by decide) rfl rfl rfl (Nat.le_of_ble_eq_true rfl) (by omega) (by omega) (fun v t33 M33 hv => ?_) (fun _ _ _ q => q.elim)
        clear hp
        obtain ⟨rfl, hM33, hq33, hp⟩ := hv
        dsimp only [Option.toList, List.cons_append, List.nil_append]
        refine xJ_iload_n hX dL_writeNumber_36 rfl ?_
        refine xJ_bipush hX dL_writeNumber_37 rfl ?_
        obtain ⟨h39, hp⟩ := hp
        refine xJ_idiv hX dL_writeNumber_39 hx3 ⟨by decide, by decide⟩ h39.1 ?_
        refine xJ_istore_n hX dL_writeNumber_40 (Nat.le_of_ble_eq_true rfl) rfl ?_
        dsimp only [List.set]
        replace hp := hp _ rfl
        refine xJ_goto hX dL_writeNumber_41 (tgt := 18) (by decide) ?_
        exact ih18 _ _ _ _ _ _ _ _ _ (by omega) (by omega) hM33 (xke_trans hqE hq33) (xke_k hq33 hkx1 (by decide)) hx2 h39.2 hp
  have l2 : ∀ (k2 : Nat) (c s n : Nat) (x0 : Nat) (x1 : Nat) (x2 : Int) (x3 : Int) (t : xTh) (M : xMe) (hc : c + n ≤ nE) (hs : s + 64 * n ≤ 64 * nE) (hM : xMR M) (hqE : xke tE t) (hkx1 : xk t x1 = 14) (hx2 : xR x2) (hx3 : xR x3) (hp : p_L_writeNumber_2 F Q (p_L_writeNumber_18 F Q F) k2 n x0 x1 x2 x3 t M), xJ X c s t M 2 [vr x0, vr x1, vi x2, vi x3] [] := by
    intro k2
    induction k2 with
    | zero => intro c s n x0 x1 x2 x3 t M hc hs hM hqE hkx1 hx2 hx3 hp; exact hp.elim
    | succ k2 ih2 =>
      intro c s n x0 x1 x2 x3 t M hc hs hM hqE hkx1 hx2 hx3 hp
      unfold p_L_writeNumber_2 at hp
      refine xJ_iload_n hX dL_writeNumber_2 rfl ?_
      refine xJ_iload_n hX dL_writeNumber_3 rfl ?_
      refine xJ_bipush hX dL_writeNumber_4 rfl ?_
      obtain ⟨h6, hp⟩ := hp
      refine xJ_idiv hX dL_writeNumber_6 hx2 ⟨by decide, by decide⟩ h6.1 ?_
      refine xJ_icmp_gt hX dL_writeNumber_7 (tgt := 18) (by decide) hx3 h6.2 (fun c7 => ?_) (fun c7 => ?_)
      · replace hp := hp.1 c7
        exact l18 F _ _ _ _ _ _ _ _ _ (by omega) (by omega) hM hqE hkx1 hx2 hx3 hp
      · replace hp := hp.2 c7
        refine xJ_iload_n hX dL_writeNumber_10 rfl ?_
        refine xJ_bipush hX dL_writeNumber_11 rfl ?_
        refine xJ_imul hX dL_writeNumber_13 ?_
        obtain ⟨h13, hp⟩ := hp
        refine xJ_istore_n hX dL_writeNumber_14 (Nat.le_of_ble_eq_true rfl) rfl ?_
        dsimp only [List.set]
        replace hp := hp _ rfl
        refine xJ_goto hX dL_writeNumber_15 (tgt := 2) (by decide) ?_
        exact ih2 _ _ _ _ _ _ _ _ _ (by omega) (by omega) hM hqE hkx1 hx2 h13 hp
  exact l2 F _ _ _ _ _ _ _ _ _ (by omega) (by omega) hME (xke_refl _) hkx1 hx2 ⟨by decide, by decide⟩ hp
def p_L_writeNumbers_17 (F : Nat) (G : xGx) (Q : xTh → xMe → Prop) : Nat → Nat → Nat → Nat → Nat → Int → Int → xTh → xMe → Prop
  | 0, _, _, _, _, _, _, _, _ => False
  | k + 1, n, x0, x1, x4, x5, x6, t, M =>
    ((x5 ≤ x6 → Q t M) ∧ (x6 < x5 → ((0 : Int) ≤ x6 ∧ x6 < (xn t x4 : Int)) ∧ (∀ z29 : Int, z29 = M x4 x6.toNat → (∃ k35 : Nat, k35 ≤ n ∧ p_L_write F G k35 t x0 x1 ((G.2.2.2.1 19)) M (fun t35 M35 => (∃ k42 : Nat, k42 ≤ (n - k35) ∧ p_L_writeNumber F k42 t35 x0 x1 z29 M35 (fun t42 M42 => (xR (x6 + 1)) ∧ p_L_writeNumbers_17 F G Q k (((n - k35) - k42)) x0 x1 x4 x5 (x6 + 1) t42 M42)))))))
def p_L_writeNumbers (F : Nat) (G : xGx) (n : Nat) (tE : xTh) (x0 : Nat) (x1 : Nat) (x2 : Nat) (x3 : Nat) (ME : xMe) (Q : xTh → xMe → Prop) : Prop :=
  (∃ k3 : Nat, k3 ≤ n ∧ p_L_write F G k3 tE x0 x1 x2 ME (fun t3 M3 => (xR ((xn t3 x3 : Nat) : Int)) ∧ (∀ z12 : Int, z12 = ((xn t3 x3 : Nat) : Int) → p_L_writeNumbers_17 F G Q F ((n - k3)) x0 x1 x3 z12 0 t3 M3)))
set_option maxHeartbeats 8000000 in
set_option maxRecDepth 100000 in
theorem c_L_writeNumbers {G : xGx} {tE : xTh} {ME : xMe} {F nE : Nat} {x0 : Nat} {x1 : Nat} {x2 : Nat} {x3 : Nat} {Q : xTh → xMe → Prop} (hME : xMR ME) (hkx1 : xk tE x1 = 14) (hkx3 : xk tE x3 = 14)  (hp : p_L_writeNumbers F G nE tE x0 x1 x2 x3 ME Q) : xCt G yL_writeNumbers cL_writeNumbers 8 none 11 nE (64 * nE) [vr x0, vr x1, vr x2, vr x3] tE ME (fun v t' M' => v = none ∧ xMR M' ∧ xke tE t' ∧ Q t' M') (fun _ _ _ => False) := by
  refine xCt_of (L0 := [vr x0, vr x1, vr x2, vr x3, vU, vU, vU, vU]) (by decide +kernel) (Nat.le_of_ble_eq_true rfl) rfl ?_
  intro X hX hB
  unfold p_L_writeNumbers at hp
  refine xJ_aload_n hX dL_writeNumbers_0 rfl ?_
  refine xJ_aload_n hX dL_writeNumbers_1 rfl ?_
  refine xJ_aload_n hX dL_writeNumbers_2 rfl ?_
  obtain ⟨k3, hn3, hp⟩ := hp
  refine xJ_callS (As := [_, _, _]) hX hB dL_writeNumbers_3 lk_L_114 sm_L_write (c_L_write hME hkx1 hp) (by decide) rfl rfl rfl (Nat.le_of_ble_eq_true rfl) (by omega) (by omega) (fun v t3 M3 hv => ?_) (fun _ _ _ q => q.elim)
  clear hp
  obtain ⟨rfl, hM3, hq3, hp⟩ := hv
  dsimp only [Option.toList, List.cons_append, List.nil_append]
  refine xJ_aload_n hX dL_writeNumbers_6 rfl ?_
  refine xJ_astore hX dL_writeNumbers_7 (Nat.le_of_ble_eq_true rfl) rfl ?_
  dsimp only [List.set]
  refine xJ_aload hX dL_writeNumbers_9 rfl ?_
  refine xJ_alen hX dL_writeNumbers_11 (by rw [(xke_k hq3 hkx3 (by decide))]; decide) (by rw [(xke_k hq3 hkx3 (by decide))]; decide) ?_
  obtain ⟨h11, hp⟩ := hp
  refine xJ_istore hX dL_writeNumbers_12 (Nat.le_of_ble_eq_true rfl) rfl ?_
  dsimp only [List.set]
  replace hp := hp _ rfl
  refine xJ_iconst hX dL_writeNumbers_14 ?_
  refine xJ_istore hX dL_writeNumbers_15 (Nat.le_of_ble_eq_true rfl) rfl ?_
  dsimp only [List.set]
  have l17 : ∀ (k17 : Nat) (c s n : Nat) (x0 : Nat) (x1 : Nat) (x4 : Nat) (x5 : Int) (x6 : Int) (t : xTh) (M : xMe) (hc : c + n ≤ nE) (hs : s + 64 * n ≤ 64 * nE) (hM : xMR M) (hqE : xke tE t) (hkx1 : xk t x1 = 14) (hkx4 : xk t x4 = 14) (hx5 : xR x5) (hx6 : xR x6) (hp : p_L_writeNumbers_17 F G Q k17 n x0 x1 x4 x5 x6 t M), xJ X c s t M 17 [vr x0, vr x1, vU, vU, vr x4, vi x5, vi x6, vU] [] := by
    intro k17
    induction k17 with
    | zero => intro c s n x0 x1 x4 x5 x6 t M hc hs hM hqE hkx1 hkx4 hx5 hx6 hp; exact hp.elim
    | succ k17 ih17 =>
      intro c s n x0 x1 x4 x5 x6 t M hc hs hM hqE hkx1 hkx4 hx5 hx6 hp
      unfold p_L_writeNumbers_17 at hp
      refine xJ_iload hX dL_writeNumbers_17 rfl ?_
      refine xJ_iload hX dL_writeNumbers_19 rfl ?_
      refine xJ_icmp_ge hX dL_writeNumbers_21 (tgt := 51) (by decide) hx6 hx5 (fun c21 => ?_) (fun c21 => ?_)
      · replace hp := hp.1 c21
        exact xJ_vret hX hB dL_writeNumbers_51 (by omega) (by omega) ⟨rfl, hM, hqE, hp⟩
      · replace hp := hp.2 c21
        refine xJ_aload hX dL_writeNumbers_24 rfl ?_
        refine xJ_iload hX dL_writeNumbers_26 rfl ?_
        obtain ⟨h28, hp⟩ := hp
        refine xJ_iald hX dL_writeNumbers_28 hkx4 h28.1 h28.2 ?_
        refine xJ_istore hX dL_writeNumbers_29 (Nat.le_of_ble_eq_true rfl) rfl ?_
        dsimp only [List.set]
        replace hp := hp _ rfl
        refine xJ_aload_n hX dL_writeNumbers_31 rfl ?_
        refine xJ_aload_n hX dL_writeNumbers_32 rfl ?_
        refine xJ_ldcS 19 hX dL_writeNumbers_33 (by decide +kernel) ?_
        obtain ⟨k35, hn35, hp⟩ := hp
        refine xJ_callS (As := [_, _, _]) hX hB dL_writeNumbers_35 lk_L_114 sm_L_write (c_L_write hM hkx1 hp) (by decide) rfl rfl rfl (Nat.le_of_ble_eq_true rfl) (by omega) (by omega) (fun v t35 M35 hv => ?_) (fun _ _ _ q => q.elim)
        clear hp
        obtain ⟨rfl, hM35, hq35, hp⟩ := hv
        dsimp only [Option.toList, List.cons_append, List.nil_append]
        refine xJ_aload_n hX dL_writeNumbers_38 rfl ?_
        refine xJ_aload_n hX dL_writeNumbers_39 rfl ?_
        refine xJ_iload hX dL_writeNumbers_40 rfl ?_
        obtain ⟨k42, hn42, hp⟩ := hp
        refine xJ_callS (As := [_, _, _]) hX hB dL_writeNumbers_42 lk_L_120 sm_L_writeNumber (c_L_writeNumber hM35 (xke_k hq35 hkx1 (by decide)) (hM _ _) hp) (by decide) rfl rfl rfl (Nat.le_of_ble_eq_true rfl) (by omega) (by omega) (fun v t42 M42 hv => ?_) (fun _ _ _ q => q.elim)
        clear hp
        obtain ⟨rfl, hM42, hq42, hp⟩ := hv
        dsimp only [Option.toList, List.cons_append, List.nil_append]
        refine xJ_iinc hX dL_writeNumbers_45 rfl rfl ?_
        dsimp only [List.set]
        obtain ⟨h45, hp⟩ := hp
        refine xJ_goto hX dL_writeNumbers_48 (tgt := 17) (by decide) ?_
        refine xJ_fg 7 ?_
        dsimp only [List.set]
        exact ih17 _ _ _ _ _ _ _ _ _ _ (by omega) (by omega) hM42 (xke_trans (xke_trans hqE hq35) hq42) (xke_k hq42 (xke_k hq35 hkx1 (by decide)) (by decide)) (xke_k hq42 (xke_k hq35 hkx4 (by decide)) (by decide)) hx5 h45 hp
  refine xJ_fg 2 ?_
  dsimp only [List.set]
  refine xJ_fg 3 ?_
  dsimp only [List.set]
  exact l17 F _ _ _ _ _ _ _ _ _ _ (by omega) (by omega) hM3 (xke_trans (xke_refl _) hq3) (xke_k hq3 hkx1 (by decide)) (xke_k hq3 hkx3 (by decide)) h11 ⟨by decide, by decide⟩ hp
