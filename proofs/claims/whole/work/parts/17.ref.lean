def p_X12_thrown (a : Nat) (M : xMe) (Q : Int → xMe → Prop) : Prop :=
  Q (M a 0) M
set_option maxHeartbeats 4000000 in
set_option maxRecDepth 100000 in
theorem c_X12_thrown {G : xGx} {t : xTh} {M : xMe} {a : Nat} {Q : Int → xMe → Prop} (hL : oX12 t a) (hM : xMR M)(hp : p_X12_thrown a M Q) : xCt G yX12_thrown cX12_thrown 1 (some .int) 0 0 0 [vr a] t M (fun v t' M' => ∃ r, v = some (vi r) ∧ xR r ∧ xMR M' ∧ t' = t ∧ Q r M') (fun _ _ _ => False) := by
  refine xCt_of (L0 := [vr a]) (by decide +kernel) (Nat.le_of_ble_eq_true rfl) rfl ?_
  intro X hX hB
  unfold p_X12_thrown at hp
  refine xJ_aload_n hX dX12_thrown_0 rfl ?_
  refine xJ_getI hX dX12_thrown_1 fd_X12_42 rfl (oX12_k hL) ?_
  refine xJ_iret hX hB dX12_thrown_4 (by decide) (by decide) ⟨_, rfl, (hM _ _), hM, rfl, hp⟩
def p_X12_fails (a : Nat) (x1 : Int) (x2 : Int) (M : xMe) (Q : Int → xMe → Prop) : Prop :=
  ((x1 = 0 → (((M a 0) = 0 → Q 0 M) ∧ ((M a 0) ≠ 0 → Q 1 M))) ∧ (x1 ≠ 0 → (((M a 0) ≠ 0 → (((M a 0) = 0 → Q 0 M) ∧ ((M a 0) ≠ 0 → Q 1 M))) ∧ ((M a 0) = 0 → (∀ M13 : xMe, M13 = xw M a 0 x2 → (((M13 a 0) = 0 → Q 0 M13) ∧ ((M13 a 0) ≠ 0 → Q 1 M13)))))))
set_option maxHeartbeats 4000000 in
set_option maxRecDepth 100000 in
theorem c_X12_fails {G : xGx} {t : xTh} {M : xMe} {a : Nat} {x1 : Int} {x2 : Int} {Q : Int → xMe → Prop} (hL : oX12 t a) (hM : xMR M) (hx1 : xR x1) (hx2 : xR x2) (hp : p_X12_fails a x1 x2 M Q) : xCt G yX12_fails cX12_fails 3 (some .boolean) 0 0 0 [vr a, vi x1, vi x2] t M (fun v t' M' => ∃ r, v = some (vi r) ∧ xR r ∧ xMR M' ∧ t' = t ∧ Q r M') (fun _ _ _ => False) := by
  refine xCt_of (L0 := [vr a, vi x1, vi x2]) (by decide +kernel) (Nat.le_of_ble_eq_true rfl) rfl ?_
  intro X hX hB
  unfold p_X12_fails at hp
  refine xJ_iload_n hX dX12_fails_0 rfl ?_
  refine xJ_if_eq hX dX12_fails_1 (tgt := 16) (by decide) hx1 (fun c1 => ?_) (fun c1 => ?_)
  · replace hp := hp.1 c1
    refine xJ_aload_n hX dX12_fails_16 rfl ?_
    refine xJ_getI hX dX12_fails_17 fd_X12_42 rfl (oX12_k hL) ?_
    refine xJ_if_eq hX dX12_fails_20 (tgt := 27) (by decide) (hM _ _) (fun c20 => ?_) (fun c20 => ?_)
    · replace hp := hp.1 c20
      refine xJ_iconst hX dX12_fails_27 ?_
      refine xJ_zret hX hB dX12_fails_28 rfl (by decide) (by decide) ⟨_, rfl, ⟨by decide, by decide⟩, hM, rfl, hp⟩
    · replace hp := hp.2 c20
      refine xJ_iconst hX dX12_fails_23 ?_
      refine xJ_goto hX dX12_fails_24 (tgt := 28) (by decide) ?_
      refine xJ_zret hX hB dX12_fails_28 rfl (by decide) (by decide) ⟨_, rfl, ⟨by decide, by decide⟩, hM, rfl, hp⟩
  · replace hp := hp.2 c1
    refine xJ_aload_n hX dX12_fails_4 rfl ?_
    refine xJ_getI hX dX12_fails_5 fd_X12_42 rfl (oX12_k hL) ?_
    refine xJ_if_ne hX dX12_fails_8 (tgt := 16) (by decide) (hM _ _) (fun c8 => ?_) (fun c8 => ?_)
    · replace hp := hp.1 c8
      refine xJ_aload_n hX dX12_fails_16 rfl ?_
      refine xJ_getI hX dX12_fails_17 fd_X12_42 rfl (oX12_k hL) ?_
      refine xJ_if_eq hX dX12_fails_20 (tgt := 27) (by decide) (hM _ _) (fun c20 => ?_) (fun c20 => ?_)
      · replace hp := hp.1 c20
        refine xJ_iconst hX dX12_fails_27 ?_
        refine xJ_zret hX hB dX12_fails_28 rfl (by decide) (by decide) ⟨_, rfl, ⟨by decide, by decide⟩, hM, rfl, hp⟩
      · replace hp := hp.2 c20
        refine xJ_iconst hX dX12_fails_23 ?_
        refine xJ_goto hX dX12_fails_24 (tgt := 28) (by decide) ?_
        refine xJ_zret hX hB dX12_fails_28 rfl (by decide) (by decide) ⟨_, rfl, ⟨by decide, by decide⟩, hM, rfl, hp⟩
    · replace hp := hp.2 c8
      refine xJ_aload_n hX dX12_fails_11 rfl ?_
      refine xJ_iload_n hX dX12_fails_12 rfl ?_
      refine xJ_putIM hX dX12_fails_13 fd_X12_42 ft_X12 rfl rfl rfl rfl (oX12_k hL) hM hx2 (fun M13 e13 hM13 => ?_)
      replace hp := hp M13 e13
      refine xJ_aload_n hX dX12_fails_16 rfl ?_
      refine xJ_getI hX dX12_fails_17 fd_X12_42 rfl (oX12_k hL) ?_
      refine xJ_if_eq hX dX12_fails_20 (tgt := 27) (by decide) (hM13 _ _) (fun c20 => ?_) (fun c20 => ?_)
      · replace hp := hp.1 c20
        refine xJ_iconst hX dX12_fails_27 ?_
        refine xJ_zret hX hB dX12_fails_28 rfl (by decide) (by decide) ⟨_, rfl, ⟨by decide, by decide⟩, hM13, rfl, hp⟩
      · replace hp := hp.2 c20
        refine xJ_iconst hX dX12_fails_23 ?_
        refine xJ_goto hX dX12_fails_24 (tgt := 28) (by decide) ?_
        refine xJ_zret hX hB dX12_fails_28 rfl (by decide) (by decide) ⟨_, rfl, ⟨by decide, by decide⟩, hM13, rfl, hp⟩
def p_X12_in (x0 : Int) (x1 : Int) (x2 : Int) (M : xMe) (Q : Int → xMe → Prop) : Prop :=
  ((x0 < x1 → Q 0 M) ∧ (x1 ≤ x0 → ((x2 < x0 → Q 0 M) ∧ (x0 ≤ x2 → Q 1 M))))
set_option maxHeartbeats 4000000 in
set_option maxRecDepth 100000 in
theorem c_X12_in {G : xGx} {t : xTh} {M : xMe} {x0 : Int} {x1 : Int} {x2 : Int} {Q : Int → xMe → Prop}  (hM : xMR M) (hx0 : xR x0) (hx1 : xR x1) (hx2 : xR x2) (hp : p_X12_in x0 x1 x2 M Q) : xCt G yX12_in cX12_in 3 (some .boolean) 0 0 0 [vi x0, vi x1, vi x2] t M (fun v t' M' => ∃ r, v = some (vi r) ∧ xR r ∧ xMR M' ∧ t' = t ∧ Q r M') (fun _ _ _ => False) := by
  refine xCt_of (L0 := [vi x0, vi x1, vi x2]) (by decide +kernel) (Nat.le_of_ble_eq_true rfl) rfl ?_
  intro X hX hB
  unfold p_X12_in at hp
  refine xJ_iload_n hX dX12_in_0 rfl ?_
  refine xJ_iload_n hX dX12_in_1 rfl ?_
  refine xJ_icmp_lt hX dX12_in_2 (tgt := 14) (by decide) hx0 hx1 (fun c2 => ?_) (fun c2 => ?_)
  · replace hp := hp.1 c2
    refine xJ_iconst hX dX12_in_14 ?_
    refine xJ_zret hX hB dX12_in_15 rfl (by decide) (by decide) ⟨_, rfl, ⟨by decide, by decide⟩, hM, rfl, hp⟩
  · replace hp := hp.2 c2
    refine xJ_iload_n hX dX12_in_5 rfl ?_
    refine xJ_iload_n hX dX12_in_6 rfl ?_
    refine xJ_icmp_gt hX dX12_in_7 (tgt := 14) (by decide) hx0 hx2 (fun c7 => ?_) (fun c7 => ?_)
    · replace hp := hp.1 c7
      refine xJ_iconst hX dX12_in_14 ?_
      refine xJ_zret hX hB dX12_in_15 rfl (by decide) (by decide) ⟨_, rfl, ⟨by decide, by decide⟩, hM, rfl, hp⟩
    · replace hp := hp.2 c7
      refine xJ_iconst hX dX12_in_10 ?_
      refine xJ_goto hX dX12_in_11 (tgt := 15) (by decide) ?_
      refine xJ_zret hX hB dX12_in_15 rfl (by decide) (by decide) ⟨_, rfl, ⟨by decide, by decide⟩, hM, rfl, hp⟩
def p_X12_min (x0 : Int) (x1 : Int) (M : xMe) (Q : Int → xMe → Prop) : Prop :=
  ((x1 ≤ x0 → Q x1 M) ∧ (x0 < x1 → Q x0 M))
set_option maxHeartbeats 4000000 in
set_option maxRecDepth 100000 in
theorem c_X12_min {G : xGx} {t : xTh} {M : xMe} {x0 : Int} {x1 : Int} {Q : Int → xMe → Prop}  (hM : xMR M) (hx0 : xR x0) (hx1 : xR x1) (hp : p_X12_min x0 x1 M Q) : xCt G yX12_min cX12_min 2 (some .int) 0 0 0 [vi x0, vi x1] t M (fun v t' M' => ∃ r, v = some (vi r) ∧ xR r ∧ xMR M' ∧ t' = t ∧ Q r M') (fun _ _ _ => False) := by
  refine xCt_of (L0 := [vi x0, vi x1]) (by decide +kernel) (Nat.le_of_ble_eq_true rfl) rfl ?_
  intro X hX hB
  unfold p_X12_min at hp
  refine xJ_iload_n hX dX12_min_0 rfl ?_
  refine xJ_iload_n hX dX12_min_1 rfl ?_
  refine xJ_icmp_ge hX dX12_min_2 (tgt := 9) (by decide) hx0 hx1 (fun c2 => ?_) (fun c2 => ?_)
  · replace hp := hp.1 c2
    refine xJ_iload_n hX dX12_min_9 rfl ?_
    refine xJ_iret hX hB dX12_min_10 (by decide) (by decide) ⟨_, rfl, hx1, hM, rfl, hp⟩
  · replace hp := hp.2 c2
    refine xJ_iload_n hX dX12_min_5 rfl ?_
    refine xJ_goto hX dX12_min_6 (tgt := 10) (by decide) ?_
    refine xJ_iret hX hB dX12_min_10 (by decide) (by decide) ⟨_, rfl, hx0, hM, rfl, hp⟩
def p_X12_copy_2 (F : Nat) (b0 : Nat) (n0 : Nat) (b1 : Nat) (n1 : Nat) (Q : xMe → Prop) : Nat → Int → Int → xMe → Prop
  | 0, _, _, _ => False
  | k + 1, x2, x3, M =>
    ((x2 ≤ x3 → Q M) ∧ (x3 < x2 → ((0 : Int) ≤ x3 ∧ (x3 : Int) < n0) ∧ ((0 : Int) ≤ x3 ∧ (x3 : Int) < n1) ∧ (∀ M12 : xMe, M12 = xw M b1 x3.toNat (M b0 x3.toNat) → (xR (x3 + 1)) ∧ p_X12_copy_2 F b0 n0 b1 n1 Q k x2 (x3 + 1) M12)))
def p_X12_copy (F : Nat) (b0 : Nat) (n0 : Nat) (b1 : Nat) (n1 : Nat) (x2 : Int) (M : xMe) (Q : xMe → Prop) : Prop :=
  p_X12_copy_2 F b0 n0 b1 n1 Q F x2 0 M
set_option maxHeartbeats 4000000 in
set_option maxRecDepth 100000 in
theorem c_X12_copy {G : xGx} {t : xTh} {M : xMe} {F : Nat} {b0 : Nat} {n0 : Nat} {b1 : Nat} {n1 : Nat} {x2 : Int} {Q : xMe → Prop} (hk0 : xk t b0 = 14) (hn0 : xn t b0 = n0) (hn0R : xR (n0 : Int)) (hk1 : xk t b1 = 14) (hn1 : xn t b1 = n1) (hn1R : xR (n1 : Int)) (hM : xMR M) (hx2 : xR x2) (hp : p_X12_copy F b0 n0 b1 n1 x2 M Q) : xCt G yX12_copy cX12_copy 4 none 0 0 0 [vr b0, vr b1, vi x2] t M (fun v t' M' => v = none ∧ xMR M' ∧ t' = t ∧ Q M') (fun _ _ _ => False) := by
  refine xCt_of (L0 := [vr b0, vr b1, vi x2, vU]) (by decide +kernel) (Nat.le_of_ble_eq_true rfl) rfl ?_
  intro X hX hB
  unfold p_X12_copy at hp
  refine xJ_iconst hX dX12_copy_0 ?_
  refine xJ_istore_n hX dX12_copy_1 (Nat.le_of_ble_eq_true rfl) rfl ?_
  dsimp only [List.set]
  have lp2 : ∀ (k : Nat) (x2 : Int) (x3 : Int) (M : xMe) (hM : xMR M) (hx2 : xR x2) (hx3 : xR x3) (hp : p_X12_copy_2 F b0 n0 b1 n1 Q k x2 x3 M), xJ X 0 0 t M 2 [vr b0, vr b1, vi x2, vi x3] [] := by
    intro k
    induction k with
    | zero => intro x2 x3 M hM hx2 hx3 hp; exact hp.elim
    | succ k ih =>
      intro x2 x3 M hM hx2 hx3 hp
      unfold p_X12_copy_2 at hp
      refine xJ_iload_n hX dX12_copy_2 rfl ?_
      refine xJ_iload_n hX dX12_copy_3 rfl ?_
      refine xJ_icmp_ge hX dX12_copy_4 (tgt := 19) (by decide) hx3 hx2 (fun c4 => ?_) (fun c4 => ?_)
      · replace hp := hp.1 c4
        refine xJ_vret hX hB dX12_copy_19 (by decide) (by decide) ⟨rfl, hM, rfl, hp⟩
      · replace hp := hp.2 c4
        refine xJ_aload_n hX dX12_copy_7 rfl ?_
        refine xJ_iload_n hX dX12_copy_8 rfl ?_
        refine xJ_aload_n hX dX12_copy_9 rfl ?_
        refine xJ_iload_n hX dX12_copy_10 rfl ?_
        obtain ⟨h11, hp⟩ := hp
        refine xJ_iald hX dX12_copy_11 hk0 h11.1 (xnlt hn0 h11.2) ?_
        obtain ⟨h12, hp⟩ := hp
        refine xJ_iastM hX dX12_copy_12 hk1 h12.1 (xnlt hn1 h12.2) hM (hM _ _) (fun M12 e12 hM12 => ?_)
        replace hp := hp M12 e12
        refine xJ_iinc hX dX12_copy_13 rfl rfl ?_
        dsimp only [List.set]
        obtain ⟨h13, hp⟩ := hp
        refine xJ_goto hX dX12_copy_16 (tgt := 2) (by decide) ?_
        exact ih _ _ _ hM12 hx2 h13 hp
  refine lp2 F _ _ _ hM hx2 ⟨by decide, by decide⟩ hp
def p_X12_layUsual_2 (F : Nat) (b0 : Nat) (n0 : Nat) (Q : xMe → Prop) : Nat → Int → xMe → Prop
  | 0, _, _ => False
  | k + 1, x1, M =>
    ((2105 ≤ x1 → ((0 : Int) ≤ 9 ∧ (9 : Int) < n0) ∧ (∀ M23 : xMe, M23 = xw M b0 9 1 → ((0 : Int) ≤ 10 ∧ (10 : Int) < n0) ∧ (∀ M29 : xMe, M29 = xw M23 b0 10 50 → ((0 : Int) ≤ 11 ∧ (11 : Int) < n0) ∧ (∀ M35 : xMe, M35 = xw M29 b0 11 10 → Q M35)))) ∧ (x1 < 2105 → ((0 : Int) ≤ x1 ∧ (x1 : Int) < n0) ∧ (∀ M12 : xMe, M12 = xw M b0 x1.toNat 0 → (xR (x1 + 1)) ∧ p_X12_layUsual_2 F b0 n0 Q k (x1 + 1) M12)))
def p_X12_layUsual (F : Nat) (b0 : Nat) (n0 : Nat) (M : xMe) (Q : xMe → Prop) : Prop :=
  p_X12_layUsual_2 F b0 n0 Q F 0 M
set_option maxHeartbeats 4000000 in
set_option maxRecDepth 100000 in
theorem c_X12_layUsual {G : xGx} {t : xTh} {M : xMe} {F : Nat} {b0 : Nat} {n0 : Nat} {Q : xMe → Prop} (hk0 : xk t b0 = 14) (hn0 : xn t b0 = n0) (hn0R : xR (n0 : Int)) (hM : xMR M)(hp : p_X12_layUsual F b0 n0 M Q) : xCt G yX12_layUsual cX12_layUsual 2 none 0 0 0 [vr b0] t M (fun v t' M' => v = none ∧ xMR M' ∧ t' = t ∧ Q M') (fun _ _ _ => False) := by
  refine xCt_of (L0 := [vr b0, vU]) (by decide +kernel) (Nat.le_of_ble_eq_true rfl) rfl ?_
  intro X hX hB
  unfold p_X12_layUsual at hp
  refine xJ_iconst hX dX12_layUsual_0 ?_
  refine xJ_istore_n hX dX12_layUsual_1 (Nat.le_of_ble_eq_true rfl) rfl ?_
  dsimp only [List.set]
  have lp2 : ∀ (k : Nat) (x1 : Int) (M : xMe) (hM : xMR M) (hx1 : xR x1) (hp : p_X12_layUsual_2 F b0 n0 Q k x1 M), xJ X 0 0 t M 2 [vr b0, vi x1] [] := by
    intro k
    induction k with
    | zero => intro x1 M hM hx1 hp; exact hp.elim
    | succ k ih =>
      intro x1 M hM hx1 hp
      unfold p_X12_layUsual_2 at hp
      refine xJ_iload_n hX dX12_layUsual_2 rfl ?_
      refine xJ_sipush hX dX12_layUsual_3 rfl ?_
      refine xJ_icmp_ge hX dX12_layUsual_6 (tgt := 19) (by decide) hx1 ⟨by decide, by decide⟩ (fun c6 => ?_) (fun c6 => ?_)
      · replace hp := hp.1 c6
        refine xJ_aload_n hX dX12_layUsual_19 rfl ?_
        refine xJ_bipush hX dX12_layUsual_20 rfl ?_
        refine xJ_iconst hX dX12_layUsual_22 ?_
        obtain ⟨h23, hp⟩ := hp
        refine xJ_iastM hX dX12_layUsual_23 hk0 h23.1 (xnlt hn0 h23.2) hM ⟨by decide, by decide⟩ (fun M23 e23 hM23 => ?_)
        replace hp := hp M23 e23
        refine xJ_aload_n hX dX12_layUsual_24 rfl ?_
        refine xJ_bipush hX dX12_layUsual_25 rfl ?_
        refine xJ_bipush hX dX12_layUsual_27 rfl ?_
        obtain ⟨h29, hp⟩ := hp
        refine xJ_iastM hX dX12_layUsual_29 hk0 h29.1 (xnlt hn0 h29.2) hM23 ⟨by decide, by decide⟩ (fun M29 e29 hM29 => ?_)
        replace hp := hp M29 e29
        refine xJ_aload_n hX dX12_layUsual_30 rfl ?_
        refine xJ_bipush hX dX12_layUsual_31 rfl ?_
        refine xJ_bipush hX dX12_layUsual_33 rfl ?_
        obtain ⟨h35, hp⟩ := hp
        refine xJ_iastM hX dX12_layUsual_35 hk0 h35.1 (xnlt hn0 h35.2) hM29 ⟨by decide, by decide⟩ (fun M35 e35 hM35 => ?_)
        replace hp := hp M35 e35
        refine xJ_vret hX hB dX12_layUsual_36 (by decide) (by decide) ⟨rfl, hM35, rfl, hp⟩
      · replace hp := hp.2 c6
        refine xJ_aload_n hX dX12_layUsual_9 rfl ?_
        refine xJ_iload_n hX dX12_layUsual_10 rfl ?_
        refine xJ_iconst hX dX12_layUsual_11 ?_
        obtain ⟨h12, hp⟩ := hp
        refine xJ_iastM hX dX12_layUsual_12 hk0 h12.1 (xnlt hn0 h12.2) hM ⟨by decide, by decide⟩ (fun M12 e12 hM12 => ?_)
        replace hp := hp M12 e12
        refine xJ_iinc hX dX12_layUsual_13 rfl rfl ?_
        dsimp only [List.set]
        obtain ⟨h13, hp⟩ := hp
        refine xJ_goto hX dX12_layUsual_16 (tgt := 2) (by decide) ?_
        exact ih _ _ hM12 h13 hp
  refine lp2 F _ _ hM ⟨by decide, by decide⟩ hp
def p_X12_append_23 (F : Nat) (a : Nat) (Q : Int → xMe → Prop) : Nat → Int → Int → Int → Int → Int → Int → xMe → Prop
  | 0, _, _, _, _, _, _, _ => False
  | k + 1, x1, x2, x3, x4, x5, x6, M =>
    ((20 ≤ x6 → Q (M a 2) M) ∧ (x6 < 20 → ((4 ≤ x6 → ((8 ≤ x6 → ((12 ≤ x6 → ((16 ≤ x6 → (4 ≠ (0 : Int) ∧ xR (Int.tmod x6 4)) ∧ (xR (8 * (Int.tmod x6 4))) ∧ (xR (24 - (8 * (Int.tmod x6 4)))) ∧ ((0 : Int) ≤ (24 - (8 * (Int.tmod x6 4))) ∧ (24 - (8 * (Int.tmod x6 4))) < 32) ∧ ((0 : Int) ≤ (M a 2) ∧ ((M a 2) : Int) < 700) ∧ (∀ M103 : xMe, M103 = xw M (a + 1) (M a 2).toNat ((x5 / 2 ^ (24 - (8 * (Int.tmod x6 4))).toNat) % 2 ^ 8) → (xR ((M103 a 2) + 1)) ∧ (∀ M111 : xMe, M111 = xw M103 a 2 ((M103 a 2) + 1) → (xR (x6 + 1)) ∧ p_X12_append_23 F a Q k x1 x2 x3 x4 x5 (x6 + 1) M111))) ∧ (x6 < 16 → (4 ≠ (0 : Int) ∧ xR (Int.tmod x6 4)) ∧ (xR (8 * (Int.tmod x6 4))) ∧ (xR (24 - (8 * (Int.tmod x6 4)))) ∧ ((0 : Int) ≤ (24 - (8 * (Int.tmod x6 4))) ∧ (24 - (8 * (Int.tmod x6 4))) < 32) ∧ ((0 : Int) ≤ (M a 2) ∧ ((M a 2) : Int) < 700) ∧ (∀ M103 : xMe, M103 = xw M (a + 1) (M a 2).toNat ((x4 / 2 ^ (24 - (8 * (Int.tmod x6 4))).toNat) % 2 ^ 8) → (xR ((M103 a 2) + 1)) ∧ (∀ M111 : xMe, M111 = xw M103 a 2 ((M103 a 2) + 1) → (xR (x6 + 1)) ∧ p_X12_append_23 F a Q k x1 x2 x3 x4 x5 (x6 + 1) M111))))) ∧ (x6 < 12 → (4 ≠ (0 : Int) ∧ xR (Int.tmod x6 4)) ∧ (xR (8 * (Int.tmod x6 4))) ∧ (xR (24 - (8 * (Int.tmod x6 4)))) ∧ ((0 : Int) ≤ (24 - (8 * (Int.tmod x6 4))) ∧ (24 - (8 * (Int.tmod x6 4))) < 32) ∧ ((0 : Int) ≤ (M a 2) ∧ ((M a 2) : Int) < 700) ∧ (∀ M103 : xMe, M103 = xw M (a + 1) (M a 2).toNat ((x3 / 2 ^ (24 - (8 * (Int.tmod x6 4))).toNat) % 2 ^ 8) → (xR ((M103 a 2) + 1)) ∧ (∀ M111 : xMe, M111 = xw M103 a 2 ((M103 a 2) + 1) → (xR (x6 + 1)) ∧ p_X12_append_23 F a Q k x1 x2 x3 x4 x5 (x6 + 1) M111))))) ∧ (x6 < 8 → (4 ≠ (0 : Int) ∧ xR (Int.tmod x6 4)) ∧ (xR (8 * (Int.tmod x6 4))) ∧ (xR (24 - (8 * (Int.tmod x6 4)))) ∧ ((0 : Int) ≤ (24 - (8 * (Int.tmod x6 4))) ∧ (24 - (8 * (Int.tmod x6 4))) < 32) ∧ ((0 : Int) ≤ (M a 2) ∧ ((M a 2) : Int) < 700) ∧ (∀ M103 : xMe, M103 = xw M (a + 1) (M a 2).toNat ((x2 / 2 ^ (24 - (8 * (Int.tmod x6 4))).toNat) % 2 ^ 8) → (xR ((M103 a 2) + 1)) ∧ (∀ M111 : xMe, M111 = xw M103 a 2 ((M103 a 2) + 1) → (xR (x6 + 1)) ∧ p_X12_append_23 F a Q k x1 x2 x3 x4 x5 (x6 + 1) M111))))) ∧ (x6 < 4 → (4 ≠ (0 : Int) ∧ xR (Int.tmod x6 4)) ∧ (xR (8 * (Int.tmod x6 4))) ∧ (xR (24 - (8 * (Int.tmod x6 4)))) ∧ ((0 : Int) ≤ (24 - (8 * (Int.tmod x6 4))) ∧ (24 - (8 * (Int.tmod x6 4))) < 32) ∧ ((0 : Int) ≤ (M a 2) ∧ ((M a 2) : Int) < 700) ∧ (∀ M103 : xMe, M103 = xw M (a + 1) (M a 2).toNat ((x1 / 2 ^ (24 - (8 * (Int.tmod x6 4))).toNat) % 2 ^ 8) → (xR ((M103 a 2) + 1)) ∧ (∀ M111 : xMe, M111 = xw M103 a 2 ((M103 a 2) + 1) → (xR (x6 + 1)) ∧ p_X12_append_23 F a Q k x1 x2 x3 x4 x5 (x6 + 1) M111))))))
def p_X12_append (F : Nat) (a : Nat) (x1 : Int) (x2 : Int) (x3 : Int) (x4 : Int) (x5 : Int) (M : xMe) (Q : Int → xMe → Prop) : Prop :=
  (∀ M2 : xMe, M2 = xw M a 0 0 → (xR ((M2 a 2) + 20)) ∧ ((((M2 a 2) + 20) ≤ 700 → p_X12_append_23 F a Q F x1 x2 x3 x4 x5 0 M2) ∧ (700 < ((M2 a 2) + 20) → Q ((-1)) M2)))
set_option maxHeartbeats 4000000 in
set_option maxRecDepth 100000 in
theorem c_X12_append {G : xGx} {t : xTh} {M : xMe} {F : Nat} {a : Nat} {x1 : Int} {x2 : Int} {x3 : Int} {x4 : Int} {x5 : Int} {Q : Int → xMe → Prop} (hL : oX12 t a) (hM : xMR M) (hx1 : xR x1) (hx2 : xR x2) (hx3 : xR x3) (hx4 : xR x4) (hx5 : xR x5) (hp : p_X12_append F a x1 x2 x3 x4 x5 M Q) : xCt G yX12_append cX12_append 8 (some .int) 0 0 0 [vr a, vi x1, vi x2, vi x3, vi x4, vi x5] t M (fun v t' M' => ∃ r, v = some (vi r) ∧ xR r ∧ xMR M' ∧ t' = t ∧ Q r M') (fun _ _ _ => False) := by
  refine xCt_of (L0 := [vr a, vi x1, vi x2, vi x3, vi x4, vi x5, vU, vU]) (by decide +kernel) (Nat.le_of_ble_eq_true rfl) rfl ?_
  intro X hX hB
  unfold p_X12_append at hp
  refine xJ_aload_n hX dX12_append_0 rfl ?_
  refine xJ_iconst hX dX12_append_1 ?_
  refine xJ_putIM hX dX12_append_2 fd_X12_42 ft_X12 rfl rfl rfl rfl (oX12_k hL) hM ⟨by decide, by decide⟩ (fun M2 e2 hM2 => ?_)
  replace hp := hp M2 e2
  refine xJ_aload_n hX dX12_append_5 rfl ?_
  refine xJ_getI hX dX12_append_6 fd_X12_45 rfl (oX12_k hL) ?_
  refine xJ_bipush hX dX12_append_9 rfl ?_
  refine xJ_iadd hX dX12_append_11 ?_
  obtain ⟨h11, hp⟩ := hp
  refine xJ_sipush hX dX12_append_12 rfl ?_
  refine xJ_icmp_le hX dX12_append_15 (tgt := 20) (by decide) h11 ⟨by decide, by decide⟩ (fun c15 => ?_) (fun c15 => ?_)
  · replace hp := hp.1 c15
    refine xJ_iconst hX dX12_append_20 ?_
    refine xJ_istore hX dX12_append_21 (Nat.le_of_ble_eq_true rfl) rfl ?_
    dsimp only [List.set]
    have lp23 : ∀ (k : Nat) (x1 : Int) (x2 : Int) (x3 : Int) (x4 : Int) (x5 : Int) (x6 : Int) (M : xMe) (hM : xMR M) (hx1 : xR x1) (hx2 : xR x2) (hx3 : xR x3) (hx4 : xR x4) (hx5 : xR x5) (hx6 : xR x6) (hp : p_X12_append_23 F a Q k x1 x2 x3 x4 x5 x6 M), xJ X 0 0 t M 23 [vr a, vi x1, vi x2, vi x3, vi x4, vi x5, vi x6, vU] [] := by
      intro k
      induction k with
      | zero => intro x1 x2 x3 x4 x5 x6 M hM hx1 hx2 hx3 hx4 hx5 hx6 hp; exact hp.elim
      | succ k ih =>
        intro x1 x2 x3 x4 x5 x6 M hM hx1 hx2 hx3 hx4 hx5 hx6 hp
        unfold p_X12_append_23 at hp
        refine xJ_iload hX dX12_append_23 rfl ?_
        refine xJ_bipush hX dX12_append_25 rfl ?_
        refine xJ_icmp_ge hX dX12_append_27 (tgt := 120) (by decide) hx6 ⟨by decide, by decide⟩ (fun c27 => ?_) (fun c27 => ?_)
        · replace hp := hp.1 c27
          refine xJ_aload_n hX dX12_append_120 rfl ?_
          refine xJ_getI hX dX12_append_121 fd_X12_45 rfl (oX12_k hL) ?_
          refine xJ_iret hX hB dX12_append_124 (by decide) (by decide) ⟨_, rfl, (hM _ _), hM, rfl, hp⟩
        · replace hp := hp.2 c27
          refine xJ_iload hX dX12_append_30 rfl ?_
          refine xJ_iconst hX dX12_append_32 ?_
          refine xJ_icmp_ge hX dX12_append_33 (tgt := 40) (by decide) hx6 ⟨by decide, by decide⟩ (fun c33 => ?_) (fun c33 => ?_)
          · replace hp := hp.1 c33
            refine xJ_iload hX dX12_append_40 rfl ?_
            refine xJ_bipush hX dX12_append_42 rfl ?_
            refine xJ_icmp_ge hX dX12_append_44 (tgt := 51) (by decide) hx6 ⟨by decide, by decide⟩ (fun c44 => ?_) (fun c44 => ?_)
            · replace hp := hp.1 c44
              refine xJ_iload hX dX12_append_51 rfl ?_
              refine xJ_bipush hX dX12_append_53 rfl ?_
              refine xJ_icmp_ge hX dX12_append_55 (tgt := 62) (by decide) hx6 ⟨by decide, by decide⟩ (fun c55 => ?_) (fun c55 => ?_)
              · replace hp := hp.1 c55
                refine xJ_iload hX dX12_append_62 rfl ?_
                refine xJ_bipush hX dX12_append_64 rfl ?_
                refine xJ_icmp_ge hX dX12_append_66 (tgt := 74) (by decide) hx6 ⟨by decide, by decide⟩ (fun c66 => ?_) (fun c66 => ?_)
                · replace hp := hp.1 c66
                  refine xJ_iload hX dX12_append_74 rfl ?_
                  refine xJ_istore hX dX12_append_76 (Nat.le_of_ble_eq_true rfl) rfl ?_
                  dsimp only [List.set]
                  refine xJ_aload_n hX dX12_append_78 rfl ?_
                  refine xJ_getR (b := (a + 1)) hX dX12_append_79 fd_X12_9 rfl (oX12_k hL) (oX12_r1 hL) ?_
                  refine xJ_aload_n hX dX12_append_82 rfl ?_
                  refine xJ_getI hX dX12_append_83 fd_X12_45 rfl (oX12_k hL) ?_
                  refine xJ_iload hX dX12_append_86 rfl ?_
                  refine xJ_bipush hX dX12_append_88 rfl ?_
                  refine xJ_bipush hX dX12_append_90 rfl ?_
                  refine xJ_iload hX dX12_append_92 rfl ?_
                  refine xJ_iconst hX dX12_append_94 ?_
                  obtain ⟨h95, hp⟩ := hp
                  refine xJ_irem hX dX12_append_95 hx6 ⟨by decide, by decide⟩ h95.1 ?_
                  refine xJ_imul hX dX12_append_96 ?_
                  obtain ⟨h96, hp⟩ := hp
                  refine xJ_isub hX dX12_append_97 ?_
                  obtain ⟨h97, hp⟩ := hp
                  obtain ⟨h98, hp⟩ := hp
                  refine xJ_ishrI hX dX12_append_98 hx5 h98.1 h98.2 ?_
                  refine xJ_sipush hX dX12_append_99 rfl ?_
                  refine xJ_iand 8 hX dX12_append_102 (by decide) (by decide) ?_
                  obtain ⟨h103, hp⟩ := hp
                  refine xJ_iastM hX dX12_append_103 (oX12_k1 hL) h103.1 (xnlt (oX12_n1 hL) h103.2) hM (xR_mod 8 (by decide)) (fun M103 e103 hM103 => ?_)
                  replace hp := hp M103 e103
                  refine xJ_aload_n hX dX12_append_104 rfl ?_
                  refine xJ_dup hX dX12_append_105 rfl ?_
                  refine xJ_getI hX dX12_append_106 fd_X12_45 rfl (oX12_k hL) ?_
                  refine xJ_iconst hX dX12_append_109 ?_
                  refine xJ_iadd hX dX12_append_110 ?_
                  obtain ⟨h110, hp⟩ := hp
                  refine xJ_putIM hX dX12_append_111 fd_X12_45 ft_X12 rfl rfl rfl rfl (oX12_k hL) hM103 h110 (fun M111 e111 hM111 => ?_)
                  replace hp := hp M111 e111
                  refine xJ_iinc hX dX12_append_114 rfl rfl ?_
                  dsimp only [List.set]
                  obtain ⟨h114, hp⟩ := hp
                  refine xJ_goto hX dX12_append_117 (tgt := 23) (by decide) ?_
                  refine xJ_fg 7 ?_
                  dsimp only [List.set]
                  exact ih _ _ _ _ _ _ _ hM111 hx1 hx2 hx3 hx4 hx5 h114 hp
                · replace hp := hp.2 c66
                  refine xJ_iload hX dX12_append_69 rfl ?_
                  refine xJ_goto hX dX12_append_71 (tgt := 76) (by decide) ?_
                  refine xJ_istore hX dX12_append_76 (Nat.le_of_ble_eq_true rfl) rfl ?_
                  dsimp only [List.set]
                  refine xJ_aload_n hX dX12_append_78 rfl ?_
                  refine xJ_getR (b := (a + 1)) hX dX12_append_79 fd_X12_9 rfl (oX12_k hL) (oX12_r1 hL) ?_
                  refine xJ_aload_n hX dX12_append_82 rfl ?_
                  refine xJ_getI hX dX12_append_83 fd_X12_45 rfl (oX12_k hL) ?_
                  refine xJ_iload hX dX12_append_86 rfl ?_
                  refine xJ_bipush hX dX12_append_88 rfl ?_
                  refine xJ_bipush hX dX12_append_90 rfl ?_
                  refine xJ_iload hX dX12_append_92 rfl ?_
                  refine xJ_iconst hX dX12_append_94 ?_
                  obtain ⟨h95, hp⟩ := hp
                  refine xJ_irem hX dX12_append_95 hx6 ⟨by decide, by decide⟩ h95.1 ?_
                  refine xJ_imul hX dX12_append_96 ?_
                  obtain ⟨h96, hp⟩ := hp
                  refine xJ_isub hX dX12_append_97 ?_
                  obtain ⟨h97, hp⟩ := hp
                  obtain ⟨h98, hp⟩ := hp
                  refine xJ_ishrI hX dX12_append_98 hx4 h98.1 h98.2 ?_
                  refine xJ_sipush hX dX12_append_99 rfl ?_
                  refine xJ_iand 8 hX dX12_append_102 (by decide) (by decide) ?_
                  obtain ⟨h103, hp⟩ := hp
                  refine xJ_iastM hX dX12_append_103 (oX12_k1 hL) h103.1 (xnlt (oX12_n1 hL) h103.2) hM (xR_mod 8 (by decide)) (fun M103 e103 hM103 => ?_)
                  replace hp := hp M103 e103
                  refine xJ_aload_n hX dX12_append_104 rfl ?_
                  refine xJ_dup hX dX12_append_105 rfl ?_
                  refine xJ_getI hX dX12_append_106 fd_X12_45 rfl (oX12_k hL) ?_
                  refine xJ_iconst hX dX12_append_109 ?_
                  refine xJ_iadd hX dX12_append_110 ?_
                  obtain ⟨h110, hp⟩ := hp
                  refine xJ_putIM hX dX12_append_111 fd_X12_45 ft_X12 rfl rfl rfl rfl (oX12_k hL) hM103 h110 (fun M111 e111 hM111 => ?_)
                  replace hp := hp M111 e111
                  refine xJ_iinc hX dX12_append_114 rfl rfl ?_
                  dsimp only [List.set]
                  obtain ⟨h114, hp⟩ := hp
                  refine xJ_goto hX dX12_append_117 (tgt := 23) (by decide) ?_
                  refine xJ_fg 7 ?_
                  dsimp only [List.set]
                  exact ih _ _ _ _ _ _ _ hM111 hx1 hx2 hx3 hx4 hx5 h114 hp
              · replace hp := hp.2 c55
                refine xJ_iload_n hX dX12_append_58 rfl ?_
                refine xJ_goto hX dX12_append_59 (tgt := 76) (by decide) ?_
                refine xJ_istore hX dX12_append_76 (Nat.le_of_ble_eq_true rfl) rfl ?_
                dsimp only [List.set]
                refine xJ_aload_n hX dX12_append_78 rfl ?_
                refine xJ_getR (b := (a + 1)) hX dX12_append_79 fd_X12_9 rfl (oX12_k hL) (oX12_r1 hL) ?_
                refine xJ_aload_n hX dX12_append_82 rfl ?_
                refine xJ_getI hX dX12_append_83 fd_X12_45 rfl (oX12_k hL) ?_
                refine xJ_iload hX dX12_append_86 rfl ?_
                refine xJ_bipush hX dX12_append_88 rfl ?_
                refine xJ_bipush hX dX12_append_90 rfl ?_
                refine xJ_iload hX dX12_append_92 rfl ?_
                refine xJ_iconst hX dX12_append_94 ?_
                obtain ⟨h95, hp⟩ := hp
                refine xJ_irem hX dX12_append_95 hx6 ⟨by decide, by decide⟩ h95.1 ?_
                refine xJ_imul hX dX12_append_96 ?_
                obtain ⟨h96, hp⟩ := hp
                refine xJ_isub hX dX12_append_97 ?_
                obtain ⟨h97, hp⟩ := hp
                obtain ⟨h98, hp⟩ := hp
                refine xJ_ishrI hX dX12_append_98 hx3 h98.1 h98.2 ?_
                refine xJ_sipush hX dX12_append_99 rfl ?_
                refine xJ_iand 8 hX dX12_append_102 (by decide) (by decide) ?_
                obtain ⟨h103, hp⟩ := hp
                refine xJ_iastM hX dX12_append_103 (oX12_k1 hL) h103.1 (xnlt (oX12_n1 hL) h103.2) hM (xR_mod 8 (by decide)) (fun M103 e103 hM103 => ?_)
                replace hp := hp M103 e103
                refine xJ_aload_n hX dX12_append_104 rfl ?_
                refine xJ_dup hX dX12_append_105 rfl ?_
                refine xJ_getI hX dX12_append_106 fd_X12_45 rfl (oX12_k hL) ?_
                refine xJ_iconst hX dX12_append_109 ?_
                refine xJ_iadd hX dX12_append_110 ?_
                obtain ⟨h110, hp⟩ := hp
                refine xJ_putIM hX dX12_append_111 fd_X12_45 ft_X12 rfl rfl rfl rfl (oX12_k hL) hM103 h110 (fun M111 e111 hM111 => ?_)
                replace hp := hp M111 e111
                refine xJ_iinc hX dX12_append_114 rfl rfl ?_
                dsimp only [List.set]
                obtain ⟨h114, hp⟩ := hp
                refine xJ_goto hX dX12_append_117 (tgt := 23) (by decide) ?_
                refine xJ_fg 7 ?_
                dsimp only [List.set]
                exact ih _ _ _ _ _ _ _ hM111 hx1 hx2 hx3 hx4 hx5 h114 hp
            · replace hp := hp.2 c44
              refine xJ_iload_n hX dX12_append_47 rfl ?_
              refine xJ_goto hX dX12_append_48 (tgt := 76) (by decide) ?_
              refine xJ_istore hX dX12_append_76 (Nat.le_of_ble_eq_true rfl) rfl ?_
              dsimp only [List.set]
              refine xJ_aload_n hX dX12_append_78 rfl ?_
              refine xJ_getR (b := (a + 1)) hX dX12_append_79 fd_X12_9 rfl (oX12_k hL) (oX12_r1 hL) ?_
              refine xJ_aload_n hX dX12_append_82 rfl ?_
              refine xJ_getI hX dX12_append_83 fd_X12_45 rfl (oX12_k hL) ?_
              refine xJ_iload hX dX12_append_86 rfl ?_
              refine xJ_bipush hX dX12_append_88 rfl ?_
              refine xJ_bipush hX dX12_append_90 rfl ?_
              refine xJ_iload hX dX12_append_92 rfl ?_
              refine xJ_iconst hX dX12_append_94 ?_
              obtain ⟨h95, hp⟩ := hp
              refine xJ_irem hX dX12_append_95 hx6 ⟨by decide, by decide⟩ h95.1 ?_
              refine xJ_imul hX dX12_append_96 ?_
              obtain ⟨h96, hp⟩ := hp
              refine xJ_isub hX dX12_append_97 ?_
              obtain ⟨h97, hp⟩ := hp
              obtain ⟨h98, hp⟩ := hp
              refine xJ_ishrI hX dX12_append_98 hx2 h98.1 h98.2 ?_
              refine xJ_sipush hX dX12_append_99 rfl ?_
              refine xJ_iand 8 hX dX12_append_102 (by decide) (by decide) ?_
              obtain ⟨h103, hp⟩ := hp
              refine xJ_iastM hX dX12_append_103 (oX12_k1 hL) h103.1 (xnlt (oX12_n1 hL) h103.2) hM (xR_mod 8 (by decide)) (fun M103 e103 hM103 => ?_)
              replace hp := hp M103 e103
              refine xJ_aload_n hX dX12_append_104 rfl ?_
              refine xJ_dup hX dX12_append_105 rfl ?_
              refine xJ_getI hX dX12_append_106 fd_X12_45 rfl (oX12_k hL) ?_
              refine xJ_iconst hX dX12_append_109 ?_
              refine xJ_iadd hX dX12_append_110 ?_
              obtain ⟨h110, hp⟩ := hp
              refine xJ_putIM hX dX12_append_111 fd_X12_45 ft_X12 rfl rfl rfl rfl (oX12_k hL) hM103 h110 (fun M111 e111 hM111 => ?_)
              replace hp := hp M111 e111
              refine xJ_iinc hX dX12_append_114 rfl rfl ?_
              dsimp only [List.set]
              obtain ⟨h114, hp⟩ := hp
              refine xJ_goto hX dX12_append_117 (tgt := 23) (by decide) ?_
              refine xJ_fg 7 ?_
              dsimp only [List.set]
              exact ih _ _ _ _ _ _ _ hM111 hx1 hx2 hx3 hx4 hx5 h114 hp
          · replace hp := hp.2 c33
            refine xJ_iload_n hX dX12_append_36 rfl ?_
            refine xJ_goto hX dX12_append_37 (tgt := 76) (by decide) ?_
            refine xJ_istore hX dX12_append_76 (Nat.le_of_ble_eq_true rfl) rfl ?_
            dsimp only [List.set]
            refine xJ_aload_n hX dX12_append_78 rfl ?_
            refine xJ_getR (b := (a + 1)) hX dX12_append_79 fd_X12_9 rfl (oX12_k hL) (oX12_r1 hL) ?_
            refine xJ_aload_n hX dX12_append_82 rfl ?_
            refine xJ_getI hX dX12_append_83 fd_X12_45 rfl (oX12_k hL) ?_
            refine xJ_iload hX dX12_append_86 rfl ?_
            refine xJ_bipush hX dX12_append_88 rfl ?_
            refine xJ_bipush hX dX12_append_90 rfl ?_
            refine xJ_iload hX dX12_append_92 rfl ?_
            refine xJ_iconst hX dX12_append_94 ?_
            obtain ⟨h95, hp⟩ := hp
            refine xJ_irem hX dX12_append_95 hx6 ⟨by decide, by decide⟩ h95.1 ?_
            refine xJ_imul hX dX12_append_96 ?_
            obtain ⟨h96, hp⟩ := hp
            refine xJ_isub hX dX12_append_97 ?_
            obtain ⟨h97, hp⟩ := hp
            obtain ⟨h98, hp⟩ := hp
            refine xJ_ishrI hX dX12_append_98 hx1 h98.1 h98.2 ?_
            refine xJ_sipush hX dX12_append_99 rfl ?_
            refine xJ_iand 8 hX dX12_append_102 (by decide) (by decide) ?_
            obtain ⟨h103, hp⟩ := hp
            refine xJ_iastM hX dX12_append_103 (oX12_k1 hL) h103.1 (xnlt (oX12_n1 hL) h103.2) hM (xR_mod 8 (by decide)) (fun M103 e103 hM103 => ?_)
            replace hp := hp M103 e103
            refine xJ_aload_n hX dX12_append_104 rfl ?_
            refine xJ_dup hX dX12_append_105 rfl ?_
            refine xJ_getI hX dX12_append_106 fd_X12_45 rfl (oX12_k hL) ?_
            refine xJ_iconst hX dX12_append_109 ?_
            refine xJ_iadd hX dX12_append_110 ?_
            obtain ⟨h110, hp⟩ := hp
            refine xJ_putIM hX dX12_append_111 fd_X12_45 ft_X12 rfl rfl rfl rfl (oX12_k hL) hM103 h110 (fun M111 e111 hM111 => ?_)
            replace hp := hp M111 e111
            refine xJ_iinc hX dX12_append_114 rfl rfl ?_
            dsimp only [List.set]
            obtain ⟨h114, hp⟩ := hp
            refine xJ_goto hX dX12_append_117 (tgt := 23) (by decide) ?_
            refine xJ_fg 7 ?_
            dsimp only [List.set]
            exact ih _ _ _ _ _ _ _ hM111 hx1 hx2 hx3 hx4 hx5 h114 hp
    refine lp23 F _ _ _ _ _ _ _ hM2 hx1 hx2 hx3 hx4 hx5 ⟨by decide, by decide⟩ hp
  · replace hp := hp.2 c15
    refine xJ_iconst hX dX12_append_18 ?_
    refine xJ_iret hX hB dX12_append_19 (by decide) (by decide) ⟨_, rfl, ⟨by decide, by decide⟩, hM2, rfl, hp⟩
def p_X12_byteAt (a : Nat) (x1 : Int) (M : xMe) (Q : Int → xMe → Prop) : Prop :=
  (((M a 3) ≤ x1 → Q ((-1)) M) ∧ (x1 < (M a 3) → ((0 : Int) ≤ x1 ∧ (x1 : Int) < 700) ∧ Q (M (a + 1) x1.toNat) M))
set_option maxHeartbeats 4000000 in
set_option maxRecDepth 100000 in
theorem c_X12_byteAt {G : xGx} {t : xTh} {M : xMe} {a : Nat} {x1 : Int} {Q : Int → xMe → Prop} (hL : oX12 t a) (hM : xMR M) (hx1 : xR x1) (hp : p_X12_byteAt a x1 M Q) : xCt G yX12_byteAt cX12_byteAt 2 (some .int) 0 0 0 [vr a, vi x1] t M (fun v t' M' => ∃ r, v = some (vi r) ∧ xR r ∧ xMR M' ∧ t' = t ∧ Q r M') (fun _ _ _ => False) := by
  refine xCt_of (L0 := [vr a, vi x1]) (by decide +kernel) (Nat.le_of_ble_eq_true rfl) rfl ?_
  intro X hX hB
  unfold p_X12_byteAt at hp
  refine xJ_iload_n hX dX12_byteAt_0 rfl ?_
  refine xJ_aload_n hX dX12_byteAt_1 rfl ?_
  refine xJ_getI hX dX12_byteAt_2 fd_X12_48 rfl (oX12_k hL) ?_
  refine xJ_icmp_ge hX dX12_byteAt_5 (tgt := 17) (by decide) hx1 (hM _ _) (fun c5 => ?_) (fun c5 => ?_)
  · replace hp := hp.1 c5
    refine xJ_iconst hX dX12_byteAt_17 ?_
    refine xJ_iret hX hB dX12_byteAt_18 (by decide) (by decide) ⟨_, rfl, ⟨by decide, by decide⟩, hM, rfl, hp⟩
  · replace hp := hp.2 c5
    refine xJ_aload_n hX dX12_byteAt_8 rfl ?_
    refine xJ_getR (b := (a + 1)) hX dX12_byteAt_9 fd_X12_9 rfl (oX12_k hL) (oX12_r1 hL) ?_
    refine xJ_iload_n hX dX12_byteAt_12 rfl ?_
    obtain ⟨h13, hp⟩ := hp
    refine xJ_iald hX dX12_byteAt_13 (oX12_k1 hL) h13.1 (xnlt (oX12_n1 hL) h13.2) ?_
    refine xJ_goto hX dX12_byteAt_14 (tgt := 18) (by decide) ?_
    refine xJ_iret hX hB dX12_byteAt_18 (by decide) (by decide) ⟨_, rfl, (hM _ _), hM, rfl, hp⟩
def p_X12_next_0 (F : Nat) (a : Nat) (Q : Int → xMe → Prop) : Nat → xMe → Prop
  | 0, _ => False
  | k + 1, M =>
    p_X12_byteAt a (M a 4) M (fun r5 M5 => ((r5 ≠ 32 → p_X12_byteAt a (M5 a 4) M5 (fun r31 M31 => Q r31 M31)) ∧ (r5 = 32 → (xR ((M5 a 4) + 1)) ∧ (∀ M20 : xMe, M20 = xw M5 a 4 ((M5 a 4) + 1) → p_X12_next_0 F a Q k M20))))
def p_X12_next (F : Nat) (a : Nat) (M : xMe) (Q : Int → xMe → Prop) : Prop :=
  p_X12_next_0 F a Q F M
set_option maxHeartbeats 4000000 in
set_option maxRecDepth 100000 in
theorem c_X12_next {G : xGx} {t : xTh} {M : xMe} {F : Nat} {a : Nat} {Q : Int → xMe → Prop} (hL : oX12 t a) (hM : xMR M)(hp : p_X12_next F a M Q) : xCt G yX12_next cX12_next 1 (some .int) 1 0 0 [vr a] t M (fun v t' M' => ∃ r, v = some (vi r) ∧ xR r ∧ xMR M' ∧ t' = t ∧ Q r M') (fun _ _ _ => False) := by
  refine xCt_of (L0 := [vr a]) (by decide +kernel) (Nat.le_of_ble_eq_true rfl) rfl ?_
  intro X hX hB
  unfold p_X12_next at hp
  have lp0 : ∀ (k : Nat) (M : xMe) (hM : xMR M) (hp : p_X12_next_0 F a Q k M), xJ X 0 0 t M 0 [vr a] [] := by
    intro k
    induction k with
    | zero => intro M hM hp; exact hp.elim
    | succ k ih =>
      intro M hM hp
      unfold p_X12_next_0 at hp
      refine xJ_aload_n hX dX12_next_0 rfl ?_
      refine xJ_aload_n hX dX12_next_1 rfl ?_
      refine xJ_getI hX dX12_next_2 fd_X12_51 rfl (oX12_k hL) ?_
      refine xJ_callV (As := [_]) hX hB dX12_next_5 lk_X12_54 im_X12_byteAt se_X12_byteAt rfl (by decide) (oX12_k hL) (c_X12_byteAt hL hM (hM _ _) hp) (by decide) rfl rfl rfl (Nat.le_of_ble_eq_true rfl) (by decide) (by decide) (fun v t9 M5 hv => ?_) (fun _ _ _ q => q.elim)
      obtain ⟨r5, rfl, h5, hM5, ht9, hp⟩ := hv
      replace ht9 := ht9.symm
      subst ht9
      dsimp only [Option.toList, List.cons_append, List.nil_append]
      refine xJ_bipush hX dX12_next_8 rfl ?_
      refine xJ_icmp_ne hX dX12_next_10 (tgt := 26) (by decide) h5 ⟨by decide, by decide⟩ (fun c10 => ?_) (fun c10 => ?_)
      · replace hp := hp.1 c10
        refine xJ_aload_n hX dX12_next_26 rfl ?_
        refine xJ_aload_n hX dX12_next_27 rfl ?_
        refine xJ_getI hX dX12_next_28 fd_X12_51 rfl (oX12_k hL) ?_
        refine xJ_callV (As := [_]) hX hB dX12_next_31 lk_X12_54 im_X12_byteAt se_X12_byteAt rfl (by decide) (oX12_k hL) (c_X12_byteAt hL hM5 (hM5 _ _) hp) (by decide) rfl rfl rfl (Nat.le_of_ble_eq_true rfl) (by decide) (by decide) (fun v t9 M31 hv => ?_) (fun _ _ _ q => q.elim)
        obtain ⟨r31, rfl, h31, hM31, ht9, hp⟩ := hv
        replace ht9 := ht9.symm
        subst ht9
        dsimp only [Option.toList, List.cons_append, List.nil_append]
        refine xJ_iret hX hB dX12_next_34 (by decide) (by decide) ⟨_, rfl, h31, hM31, rfl, hp⟩
      · replace hp := hp.2 c10
        refine xJ_aload_n hX dX12_next_13 rfl ?_
        refine xJ_dup hX dX12_next_14 rfl ?_
        refine xJ_getI hX dX12_next_15 fd_X12_51 rfl (oX12_k hL) ?_
        refine xJ_iconst hX dX12_next_18 ?_
        refine xJ_iadd hX dX12_next_19 ?_
        obtain ⟨h19, hp⟩ := hp
        refine xJ_putIM hX dX12_next_20 fd_X12_51 ft_X12 rfl rfl rfl rfl (oX12_k hL) hM5 h19 (fun M20 e20 hM20 => ?_)
        replace hp := hp M20 e20
        refine xJ_goto hX dX12_next_23 (tgt := 0) (by decide) ?_
        exact ih _ hM20 hp
  refine lp0 F _ hM hp
def p_X12_isGood (a : Nat) (M : xMe) (Q : Int → xMe → Prop) : Prop :=
  (((M a 5) ≠ 0 → Q 0 M) ∧ ((M a 5) = 0 → Q 1 M))
set_option maxHeartbeats 4000000 in
set_option maxRecDepth 100000 in
theorem c_X12_isGood {G : xGx} {t : xTh} {M : xMe} {a : Nat} {Q : Int → xMe → Prop} (hL : oX12 t a) (hM : xMR M)(hp : p_X12_isGood a M Q) : xCt G yX12_isGood cX12_isGood 1 (some .boolean) 0 0 0 [vr a] t M (fun v t' M' => ∃ r, v = some (vi r) ∧ xR r ∧ xMR M' ∧ t' = t ∧ Q r M') (fun _ _ _ => False) := by
  refine xCt_of (L0 := [vr a]) (by decide +kernel) (Nat.le_of_ble_eq_true rfl) rfl ?_
  intro X hX hB
  unfold p_X12_isGood at hp
  refine xJ_aload_n hX dX12_isGood_0 rfl ?_
  refine xJ_getI hX dX12_isGood_1 fd_X12_58 rfl (oX12_k hL) ?_
  refine xJ_if_ne hX dX12_isGood_4 (tgt := 11) (by decide) (hM _ _) (fun c4 => ?_) (fun c4 => ?_)
  · replace hp := hp.1 c4
    refine xJ_iconst hX dX12_isGood_11 ?_
    refine xJ_zret hX hB dX12_isGood_12 rfl (by decide) (by decide) ⟨_, rfl, ⟨by decide, by decide⟩, hM, rfl, hp⟩
  · replace hp := hp.2 c4
    refine xJ_iconst hX dX12_isGood_7 ?_
    refine xJ_goto hX dX12_isGood_8 (tgt := 12) (by decide) ?_
    refine xJ_zret hX hB dX12_isGood_12 rfl (by decide) (by decide) ⟨_, rfl, ⟨by decide, by decide⟩, hM, rfl, hp⟩
def p_X12_report (a : Nat) (x1 : Int) (x2 : Int) (M : xMe) (Q : xMe → Prop) : Prop :=
  (((M a 5) = 0 → (∀ M10 : xMe, M10 = xw M a 5 x1 → (∀ M15 : xMe, M15 = xw M10 a 6 x2 → Q M15))) ∧ ((M a 5) ≠ 0 → Q M))
set_option maxHeartbeats 4000000 in
set_option maxRecDepth 100000 in
theorem c_X12_report {G : xGx} {t : xTh} {M : xMe} {a : Nat} {x1 : Int} {x2 : Int} {Q : xMe → Prop} (hL : oX12 t a) (hM : xMR M) (hx1 : xR x1) (hx2 : xR x2) (hp : p_X12_report a x1 x2 M Q) : xCt G yX12_report cX12_report 3 none 0 0 0 [vr a, vi x1, vi x2] t M (fun v t' M' => v = none ∧ xMR M' ∧ t' = t ∧ Q M') (fun _ _ _ => False) := by
  refine xCt_of (L0 := [vr a, vi x1, vi x2]) (by decide +kernel) (Nat.le_of_ble_eq_true rfl) rfl ?_
  intro X hX hB
  unfold p_X12_report at hp
  refine xJ_aload_n hX dX12_report_0 rfl ?_
  refine xJ_getI hX dX12_report_1 fd_X12_58 rfl (oX12_k hL) ?_
  refine xJ_if_eq hX dX12_report_4 (tgt := 8) (by decide) (hM _ _) (fun c4 => ?_) (fun c4 => ?_)
  · replace hp := hp.1 c4
    refine xJ_aload_n hX dX12_report_8 rfl ?_
    refine xJ_iload_n hX dX12_report_9 rfl ?_
    refine xJ_putIM hX dX12_report_10 fd_X12_58 ft_X12 rfl rfl rfl rfl (oX12_k hL) hM hx1 (fun M10 e10 hM10 => ?_)
    replace hp := hp M10 e10
    refine xJ_aload_n hX dX12_report_13 rfl ?_
    refine xJ_iload_n hX dX12_report_14 rfl ?_
    refine xJ_putIM hX dX12_report_15 fd_X12_61 ft_X12 rfl rfl rfl rfl (oX12_k hL) hM10 hx2 (fun M15 e15 hM15 => ?_)
    replace hp := hp M15 e15
    refine xJ_vret hX hB dX12_report_18 (by decide) (by decide) ⟨rfl, hM15, rfl, hp⟩
  · replace hp := hp.2 c4
    refine xJ_vret hX hB dX12_report_7 (by decide) (by decide) ⟨rfl, hM, rfl, hp⟩
def p_X12_isDigit (x0 : Int) (M : xMe) (Q : Int → xMe → Prop) : Prop :=
  p_X12_in x0 48 57 M (fun r5 M5 => (r5 = 0 ∨ r5 = 1) ∧ Q r5 M5)
set_option maxHeartbeats 4000000 in
set_option maxRecDepth 100000 in
theorem c_X12_isDigit {G : xGx} {t : xTh} {M : xMe} {x0 : Int} {Q : Int → xMe → Prop}  (hM : xMR M) (hx0 : xR x0) (hp : p_X12_isDigit x0 M Q) : xCt G yX12_isDigit cX12_isDigit 1 (some .boolean) 1 0 0 [vi x0] t M (fun v t' M' => ∃ r, v = some (vi r) ∧ xR r ∧ xMR M' ∧ t' = t ∧ Q r M') (fun _ _ _ => False) := by
  refine xCt_of (L0 := [vi x0]) (by decide +kernel) (Nat.le_of_ble_eq_true rfl) rfl ?_
  intro X hX hB
  unfold p_X12_isDigit at hp
  refine xJ_iload_n hX dX12_isDigit_0 rfl ?_
  refine xJ_bipush hX dX12_isDigit_1 rfl ?_
  refine xJ_bipush hX dX12_isDigit_3 rfl ?_
  refine xJ_callS (As := [_, _, _]) hX hB dX12_isDigit_5 lk_X12_64 sm_X12_in (c_X12_in  hM hx0 ⟨by decide, by decide⟩ ⟨by decide, by decide⟩ hp) (by decide) rfl rfl rfl (Nat.le_of_ble_eq_true rfl) (by decide) (by decide) (fun v t9 M5 hv => ?_) (fun _ _ _ q => q.elim)
  obtain ⟨r5, rfl, h5, hM5, ht9, hp⟩ := hv
  replace ht9 := ht9.symm
  subst ht9
  dsimp only [Option.toList, List.cons_append, List.nil_append]
  obtain ⟨h8, hp⟩ := hp
  refine xJ_zret hX hB dX12_isDigit_8 (xnz h8) (by decide) (by decide) ⟨_, rfl, h5, hM5, rfl, hp⟩
def p_X12_takeWord_16 (F : Nat) (a : Nat) (s1 : Nat) (Q : Int → xMe → Prop) : Nat → Int → xMe → Prop
  | 0, _, _ => False
  | k + 1, x2, M =>
    (((xSl s1) ≤ x2 → ((x2 < (xSl s1) → Q 0 M) ∧ ((xSl s1) ≤ x2 → (xR ((M a 4) + x2)) ∧ p_X12_byteAt a ((M a 4) + x2) M (fun r63 M63 => p_X12_in r63 97 122 M63 (fun r70 M70 => ((r70 = 0 → (xR ((M70 a 4) + x2)) ∧ (∀ M85 : xMe, M85 = xw M70 a 4 ((M70 a 4) + x2) → Q 1 M85)) ∧ (r70 ≠ 0 → Q 0 M70))))))) ∧ (x2 < (xSl s1) → (xR ((M a 4) + x2)) ∧ p_X12_byteAt a ((M a 4) + x2) M (fun r31 M31 => ((0 : Int) ≤ x2 ∧ (x2 : Int) < xSl s1) ∧ ((r31 ≠ (xSc s1 x2.toNat) → ((x2 < (xSl s1) → Q 0 M31) ∧ ((xSl s1) ≤ x2 → (xR ((M31 a 4) + x2)) ∧ p_X12_byteAt a ((M31 a 4) + x2) M31 (fun r63 M63 => p_X12_in r63 97 122 M63 (fun r70 M70 => ((r70 = 0 → (xR ((M70 a 4) + x2)) ∧ (∀ M85 : xMe, M85 = xw M70 a 4 ((M70 a 4) + x2) → Q 1 M85)) ∧ (r70 ≠ 0 → Q 0 M70))))))) ∧ (r31 = (xSc s1 x2.toNat) → (xR (x2 + 1)) ∧ p_X12_takeWord_16 F a s1 Q k (x2 + 1) M31)))))
def p_X12_takeWord (F : Nat) (a : Nat) (s1 : Nat) (M : xMe) (Q : Int → xMe → Prop) : Prop :=
  p_X12_isGood a M (fun r1 M1 => ((r1 ≠ 0 → p_X12_next F a M1 (fun r10 M10 => p_X12_takeWord_16 F a s1 Q F 0 M10)) ∧ (r1 = 0 → Q 0 M1)))
set_option maxHeartbeats 4000000 in
set_option maxRecDepth 100000 in
theorem c_X12_takeWord {G : xGx} {t : xTh} {M : xMe} {F : Nat} {a : Nat} {s1 : Nat} {Q : Int → xMe → Prop} (hL : oX12 t a) (hs1 : s1 < 18) (hM : xMR M)(hp : p_X12_takeWord F a s1 M Q) : xCt G yX12_takeWord cX12_takeWord 3 (some .boolean) 8 0 0 [vr a, vr (G.2.2.2.1 s1)] t M (fun v t' M' => ∃ r, v = some (vi r) ∧ xR r ∧ xMR M' ∧ t' = t ∧ Q r M') (fun _ _ _ => False) := by
  refine xCt_of (L0 := [vr a, vr (G.2.2.2.1 s1), vU]) (by decide +kernel) (Nat.le_of_ble_eq_true rfl) rfl ?_
  intro X hX hB
  unfold p_X12_takeWord at hp
  refine xJ_aload_n hX dX12_takeWord_0 rfl ?_
  refine xJ_callV (As := []) hX hB dX12_takeWord_1 lk_X12_68 im_X12_isGood se_X12_isGood rfl (by decide) (oX12_k hL) (c_X12_isGood hL hM hp) (by decide) rfl rfl rfl (Nat.le_of_ble_eq_true rfl) (by decide) (by decide) (fun v t9 M1 hv => ?_) (fun _ _ _ q => q.elim)
  obtain ⟨r1, rfl, h1, hM1, ht9, hp⟩ := hv
  replace ht9 := ht9.symm
  subst ht9
  dsimp only [Option.toList, List.cons_append, List.nil_append]
  refine xJ_if_ne hX dX12_takeWord_4 (tgt := 9) (by decide) h1 (fun c4 => ?_) (fun c4 => ?_)
  · replace hp := hp.1 c4
    refine xJ_aload_n hX dX12_takeWord_9 rfl ?_
    refine xJ_callV (As := []) hX hB dX12_takeWord_10 lk_X12_72 im_X12_next se_X12_next rfl (by decide) (oX12_k hL) (c_X12_next hL hM1 hp) (by decide) rfl rfl rfl (Nat.le_of_ble_eq_true rfl) (by decide) (by decide) (fun v t9 M10 hv => ?_) (fun _ _ _ q => q.elim)
    obtain ⟨r10, rfl, h10, hM10, ht9, hp⟩ := hv
    replace ht9 := ht9.symm
    subst ht9
    dsimp only [Option.toList, List.cons_append, List.nil_append]
    refine xJ_pop hX dX12_takeWord_13 rfl ?_
    refine xJ_iconst hX dX12_takeWord_14 ?_
    refine xJ_istore_n hX dX12_takeWord_15 (Nat.le_of_ble_eq_true rfl) rfl ?_
    dsimp only [List.set]
    have lp16 : ∀ (k : Nat) (x2 : Int) (M : xMe) (hM : xMR M) (hx2 : xR x2) (hp : p_X12_takeWord_16 F a s1 Q k x2 M), xJ X 0 0 t M 16 [vr a, vr (G.2.2.2.1 s1), vi x2] [] := by
      intro k
      induction k with
      | zero => intro x2 M hM hx2 hp; exact hp.elim
      | succ k ih =>
        intro x2 M hM hx2 hp
        unfold p_X12_takeWord_16 at hp
        refine xJ_iload_n hX dX12_takeWord_16 rfl ?_
        refine xJ_aload_n hX dX12_takeWord_17 rfl ?_
        refine xJ_strlen hX hB dX12_takeWord_18 lk_X12_76 rfl (by decide) (Nat.le_of_ble_eq_true rfl) hs1 (by decide) (by decide) ?_
        refine xJ_icmp_ge hX dX12_takeWord_21 (tgt := 48) (by decide) hx2 (xSl_R _) (fun c21 => ?_) (fun c21 => ?_)
        · replace hp := hp.1 c21
          refine xJ_iload_n hX dX12_takeWord_48 rfl ?_
          refine xJ_aload_n hX dX12_takeWord_49 rfl ?_
          refine xJ_strlen hX hB dX12_takeWord_50 lk_X12_76 rfl (by decide) (Nat.le_of_ble_eq_true rfl) hs1 (by decide) (by decide) ?_
          refine xJ_icmp_lt hX dX12_takeWord_53 (tgt := 76) (by decide) hx2 (xSl_R _) (fun c53 => ?_) (fun c53 => ?_)
          · replace hp := hp.1 c53
            refine xJ_iconst hX dX12_takeWord_76 ?_
            refine xJ_zret hX hB dX12_takeWord_77 rfl (by decide) (by decide) ⟨_, rfl, ⟨by decide, by decide⟩, hM, rfl, hp⟩
          · replace hp := hp.2 c53
            refine xJ_aload_n hX dX12_takeWord_56 rfl ?_
            refine xJ_aload_n hX dX12_takeWord_57 rfl ?_
            refine xJ_getI hX dX12_takeWord_58 fd_X12_51 rfl (oX12_k hL) ?_
            refine xJ_iload_n hX dX12_takeWord_61 rfl ?_
            refine xJ_iadd hX dX12_takeWord_62 ?_
            obtain ⟨h62, hp⟩ := hp
            refine xJ_callV (As := [_]) hX hB dX12_takeWord_63 lk_X12_54 im_X12_byteAt se_X12_byteAt rfl (by decide) (oX12_k hL) (c_X12_byteAt hL hM h62 hp) (by decide) rfl rfl rfl (Nat.le_of_ble_eq_true rfl) (by decide) (by decide) (fun v t9 M63 hv => ?_) (fun _ _ _ q => q.elim)
            obtain ⟨r63, rfl, h63, hM63, ht9, hp⟩ := hv
            replace ht9 := ht9.symm
            subst ht9
            dsimp only [Option.toList, List.cons_append, List.nil_append]
            refine xJ_bipush hX dX12_takeWord_66 rfl ?_
            refine xJ_bipush hX dX12_takeWord_68 rfl ?_
            refine xJ_callS (As := [_, _, _]) hX hB dX12_takeWord_70 lk_X12_64 sm_X12_in (c_X12_in  hM63 h63 ⟨by decide, by decide⟩ ⟨by decide, by decide⟩ hp) (by decide) rfl rfl rfl (Nat.le_of_ble_eq_true rfl) (by decide) (by decide) (fun v t9 M70 hv => ?_) (fun _ _ _ q => q.elim)
            obtain ⟨r70, rfl, h70, hM70, ht9, hp⟩ := hv
            replace ht9 := ht9.symm
            subst ht9
            dsimp only [Option.toList, List.cons_append, List.nil_append]
            refine xJ_if_eq hX dX12_takeWord_73 (tgt := 78) (by decide) h70 (fun c73 => ?_) (fun c73 => ?_)
            · replace hp := hp.1 c73
              refine xJ_aload_n hX dX12_takeWord_78 rfl ?_
              refine xJ_dup hX dX12_takeWord_79 rfl ?_
              refine xJ_getI hX dX12_takeWord_80 fd_X12_51 rfl (oX12_k hL) ?_
              refine xJ_iload_n hX dX12_takeWord_83 rfl ?_
              refine xJ_iadd hX dX12_takeWord_84 ?_
              obtain ⟨h84, hp⟩ := hp
              refine xJ_putIM hX dX12_takeWord_85 fd_X12_51 ft_X12 rfl rfl rfl rfl (oX12_k hL) hM70 h84 (fun M85 e85 hM85 => ?_)
              replace hp := hp M85 e85
              refine xJ_iconst hX dX12_takeWord_88 ?_
              refine xJ_zret hX hB dX12_takeWord_89 rfl (by decide) (by decide) ⟨_, rfl, ⟨by decide, by decide⟩, hM85, rfl, hp⟩
            · replace hp := hp.2 c73
              refine xJ_iconst hX dX12_takeWord_76 ?_
              refine xJ_zret hX hB dX12_takeWord_77 rfl (by decide) (by decide) ⟨_, rfl, ⟨by decide, by decide⟩, hM70, rfl, hp⟩
        · replace hp := hp.2 c21
          refine xJ_aload_n hX dX12_takeWord_24 rfl ?_
          refine xJ_aload_n hX dX12_takeWord_25 rfl ?_
          refine xJ_getI hX dX12_takeWord_26 fd_X12_51 rfl (oX12_k hL) ?_
          refine xJ_iload_n hX dX12_takeWord_29 rfl ?_
          refine xJ_iadd hX dX12_takeWord_30 ?_
          obtain ⟨h30, hp⟩ := hp
          refine xJ_callV (As := [_]) hX hB dX12_takeWord_31 lk_X12_54 im_X12_byteAt se_X12_byteAt rfl (by decide) (oX12_k hL) (c_X12_byteAt hL hM h30 hp) (by decide) rfl rfl rfl (Nat.le_of_ble_eq_true rfl) (by decide) (by decide) (fun v t9 M31 hv => ?_) (fun _ _ _ q => q.elim)
          obtain ⟨r31, rfl, h31, hM31, ht9, hp⟩ := hv
          replace ht9 := ht9.symm
          subst ht9
          dsimp only [Option.toList, List.cons_append, List.nil_append]
          refine xJ_aload_n hX dX12_takeWord_34 rfl ?_
          refine xJ_iload_n hX dX12_takeWord_35 rfl ?_
          obtain ⟨h36, hp⟩ := hp
          refine xJ_charAt hX hB dX12_takeWord_36 lk_X12_81 rfl (by decide) (Nat.le_of_ble_eq_true rfl) hs1 (by decide) (by decide) hx2 h36.1 h36.2 ?_
          refine xJ_icmp_ne hX dX12_takeWord_39 (tgt := 48) (by decide) h31 (xSc_R _ _) (fun c39 => ?_) (fun c39 => ?_)
          · replace hp := hp.1 c39
            refine xJ_iload_n hX dX12_takeWord_48 rfl ?_
            refine xJ_aload_n hX dX12_takeWord_49 rfl ?_
            refine xJ_strlen hX hB dX12_takeWord_50 lk_X12_76 rfl (by decide) (Nat.le_of_ble_eq_true rfl) hs1 (by decide) (by decide) ?_
            refine xJ_icmp_lt hX dX12_takeWord_53 (tgt := 76) (by decide) hx2 (xSl_R _) (fun c53 => ?_) (fun c53 => ?_)
            · replace hp := hp.1 c53
              refine xJ_iconst hX dX12_takeWord_76 ?_
              refine xJ_zret hX hB dX12_takeWord_77 rfl (by decide) (by decide) ⟨_, rfl, ⟨by decide, by decide⟩, hM31, rfl, hp⟩
            · replace hp := hp.2 c53
              refine xJ_aload_n hX dX12_takeWord_56 rfl ?_
              refine xJ_aload_n hX dX12_takeWord_57 rfl ?_
              refine xJ_getI hX dX12_takeWord_58 fd_X12_51 rfl (oX12_k hL) ?_
              refine xJ_iload_n hX dX12_takeWord_61 rfl ?_
              refine xJ_iadd hX dX12_takeWord_62 ?_
              obtain ⟨h62, hp⟩ := hp
              refine xJ_callV (As := [_]) hX hB dX12_takeWord_63 lk_X12_54 im_X12_byteAt se_X12_byteAt rfl (by decide) (oX12_k hL) (c_X12_byteAt hL hM31 h62 hp) (by decide) rfl rfl rfl (Nat.le_of_ble_eq_true rfl) (by decide) (by decide) (fun v t9 M63 hv => ?_) (fun _ _ _ q => q.elim)
              obtain ⟨r63, rfl, h63, hM63, ht9, hp⟩ := hv
              replace ht9 := ht9.symm
              subst ht9
              dsimp only [Option.toList, List.cons_append, List.nil_append]
              refine xJ_bipush hX dX12_takeWord_66 rfl ?_
              refine xJ_bipush hX dX12_takeWord_68 rfl ?_
              refine xJ_callS (As := [_, _, _]) hX hB dX12_takeWord_70 lk_X12_64 sm_X12_in (c_X12_in  hM63 h63 ⟨by decide, by decide⟩ ⟨by decide, by decide⟩ hp) (by decide) rfl rfl rfl (Nat.le_of_ble_eq_true rfl) (by decide) (by decide) (fun v t9 M70 hv => ?_) (fun _ _ _ q => q.elim)
              obtain ⟨r70, rfl, h70, hM70, ht9, hp⟩ := hv
              replace ht9 := ht9.symm
              subst ht9
              dsimp only [Option.toList, List.cons_append, List.nil_append]
              refine xJ_if_eq hX dX12_takeWord_73 (tgt := 78) (by decide) h70 (fun c73 => ?_) (fun c73 => ?_)
              · replace hp := hp.1 c73
                refine xJ_aload_n hX dX12_takeWord_78 rfl ?_
                refine xJ_dup hX dX12_takeWord_79 rfl ?_
                refine xJ_getI hX dX12_takeWord_80 fd_X12_51 rfl (oX12_k hL) ?_
                refine xJ_iload_n hX dX12_takeWord_83 rfl ?_
                refine xJ_iadd hX dX12_takeWord_84 ?_
                obtain ⟨h84, hp⟩ := hp
                refine xJ_putIM hX dX12_takeWord_85 fd_X12_51 ft_X12 rfl rfl rfl rfl (oX12_k hL) hM70 h84 (fun M85 e85 hM85 => ?_)
                replace hp := hp M85 e85
                refine xJ_iconst hX dX12_takeWord_88 ?_
                refine xJ_zret hX hB dX12_takeWord_89 rfl (by decide) (by decide) ⟨_, rfl, ⟨by decide, by decide⟩, hM85, rfl, hp⟩
              · replace hp := hp.2 c73
                refine xJ_iconst hX dX12_takeWord_76 ?_
                refine xJ_zret hX hB dX12_takeWord_77 rfl (by decide) (by decide) ⟨_, rfl, ⟨by decide, by decide⟩, hM70, rfl, hp⟩
          · replace hp := hp.2 c39
            refine xJ_iinc hX dX12_takeWord_42 rfl rfl ?_
            dsimp only [List.set]
            obtain ⟨h42, hp⟩ := hp
            refine xJ_goto hX dX12_takeWord_45 (tgt := 16) (by decide) ?_
            exact ih _ _ hM31 h42 hp
    refine lp16 F _ _ hM10 ⟨by decide, by decide⟩ hp
  · replace hp := hp.2 c4
    refine xJ_iconst hX dX12_takeWord_7 ?_
    refine xJ_zret hX hB dX12_takeWord_8 rfl (by decide) (by decide) ⟨_, rfl, ⟨by decide, by decide⟩, hM1, rfl, hp⟩
def p_X12_expect (F : Nat) (a : Nat) (x1 : Int) (M : xMe) (Q : xMe → Prop) : Prop :=
  p_X12_isGood a M (fun r1 M1 => ((r1 ≠ 0 → p_X12_next F a M1 (fun r9 M9 => ((r9 ≠ x1 → p_X12_report a ((-2)) (M9 a 4) M9 (fun M36 => Q M36)) ∧ (r9 = x1 → (xR ((M9 a 4) + 1)) ∧ (∀ M23 : xMe, M23 = xw M9 a 4 ((M9 a 4) + 1) → Q M23))))) ∧ (r1 = 0 → Q M1)))
set_option maxHeartbeats 4000000 in
set_option maxRecDepth 100000 in
theorem c_X12_expect {G : xGx} {t : xTh} {M : xMe} {F : Nat} {a : Nat} {x1 : Int} {Q : xMe → Prop} (hL : oX12 t a) (hM : xMR M) (hx1 : xR x1) (hp : p_X12_expect F a x1 M Q) : xCt G yX12_expect cX12_expect 2 none 2 0 0 [vr a, vi x1] t M (fun v t' M' => v = none ∧ xMR M' ∧ t' = t ∧ Q M') (fun _ _ _ => False) := by
  refine xCt_of (L0 := [vr a, vi x1]) (by decide +kernel) (Nat.le_of_ble_eq_true rfl) rfl ?_
  intro X hX hB
  unfold p_X12_expect at hp
  refine xJ_aload_n hX dX12_expect_0 rfl ?_
  refine xJ_callV (As := []) hX hB dX12_expect_1 lk_X12_68 im_X12_isGood se_X12_isGood rfl (by decide) (oX12_k hL) (c_X12_isGood hL hM hp) (by decide) rfl rfl rfl (Nat.le_of_ble_eq_true rfl) (by decide) (by decide) (fun v t9 M1 hv => ?_) (fun _ _ _ q => q.elim)
  obtain ⟨r1, rfl, h1, hM1, ht9, hp⟩ := hv
  replace ht9 := ht9.symm
  subst ht9
  dsimp only [Option.toList, List.cons_append, List.nil_append]
  refine xJ_if_ne hX dX12_expect_4 (tgt := 8) (by decide) h1 (fun c4 => ?_) (fun c4 => ?_)
  · replace hp := hp.1 c4
    refine xJ_aload_n hX dX12_expect_8 rfl ?_
    refine xJ_callV (As := []) hX hB dX12_expect_9 lk_X12_72 im_X12_next se_X12_next rfl (by decide) (oX12_k hL) (c_X12_next hL hM1 hp) (by decide) rfl rfl rfl (Nat.le_of_ble_eq_true rfl) (by decide) (by decide) (fun v t9 M9 hv => ?_) (fun _ _ _ q => q.elim)
    obtain ⟨r9, rfl, h9, hM9, ht9, hp⟩ := hv
    replace ht9 := ht9.symm
    subst ht9
    dsimp only [Option.toList, List.cons_append, List.nil_append]
    refine xJ_iload_n hX dX12_expect_12 rfl ?_
    refine xJ_icmp_ne hX dX12_expect_13 (tgt := 29) (by decide) h9 hx1 (fun c13 => ?_) (fun c13 => ?_)
    · replace hp := hp.1 c13
      refine xJ_aload_n hX dX12_expect_29 rfl ?_
      refine xJ_bipush hX dX12_expect_30 rfl ?_
      refine xJ_aload_n hX dX12_expect_32 rfl ?_
      refine xJ_getI hX dX12_expect_33 fd_X12_51 rfl (oX12_k hL) ?_
      refine xJ_callV (As := [_, _]) hX hB dX12_expect_36 lk_X12_85 im_X12_report se_X12_report rfl (by decide) (oX12_k hL) (c_X12_report hL hM9 ⟨by decide, by decide⟩ (hM9 _ _) hp) (by decide) rfl rfl rfl (Nat.le_of_ble_eq_true rfl) (by decide) (by decide) (fun v t9 M36 hv => ?_) (fun _ _ _ q => q.elim)
      obtain ⟨rfl, hM36, ht9, hp⟩ := hv
      replace ht9 := ht9.symm
      subst ht9
      dsimp only [Option.toList, List.cons_append, List.nil_append]
      refine xJ_vret hX hB dX12_expect_39 (by decide) (by decide) ⟨rfl, hM36, rfl, hp⟩
    · replace hp := hp.2 c13
      refine xJ_aload_n hX dX12_expect_16 rfl ?_
      refine xJ_dup hX dX12_expect_17 rfl ?_
      refine xJ_getI hX dX12_expect_18 fd_X12_51 rfl (oX12_k hL) ?_
      refine xJ_iconst hX dX12_expect_21 ?_
      refine xJ_iadd hX dX12_expect_22 ?_
      obtain ⟨h22, hp⟩ := hp
      refine xJ_putIM hX dX12_expect_23 fd_X12_51 ft_X12 rfl rfl rfl rfl (oX12_k hL) hM9 h22 (fun M23 e23 hM23 => ?_)
      replace hp := hp M23 e23
      refine xJ_goto hX dX12_expect_26 (tgt := 39) (by decide) ?_
      refine xJ_vret hX hB dX12_expect_39 (by decide) (by decide) ⟨rfl, hM23, rfl, hp⟩
  · replace hp := hp.2 c4
    refine xJ_vret hX hB dX12_expect_7 (by decide) (by decide) ⟨rfl, hM1, rfl, hp⟩
def p_X12_number_41 (F : Nat) (a : Nat) (Q : Int → xMe → Prop) : Nat → Int → Int → Int → xMe → Prop
  | 0, _, _, _, _ => False
  | k + 1, x1, x2, x3, M =>
    p_X12_byteAt a (M a 4) M (fun r46 M46 => p_X12_isDigit r46 M46 (fun r49 M49 => ((r49 = 0 → p_X12_in x3 x1 x2 M49 (fun r93 M93 => ((r93 ≠ 0 → Q x3 M93) ∧ (r93 = 0 → p_X12_report a ((-3)) (M93 a 14) M93 (fun M106 => Q x3 M106))))) ∧ (r49 ≠ 0 → (xR (10 * x3)) ∧ p_X12_byteAt a (M49 a 4) M49 (fun r66 M66 => (xR ((10 * x3) + r66)) ∧ (xR (((10 * x3) + r66) - 48)) ∧ p_X12_min 1000000 (((10 * x3) + r66) - 48) M66 (fun r73 M73 => (xR ((M73 a 4) + 1)) ∧ (∀ M84 : xMe, M84 = xw M73 a 4 ((M73 a 4) + 1) → p_X12_number_41 F a Q k x1 x2 r73 M84)))))))
def p_X12_number (F : Nat) (a : Nat) (x1 : Int) (x2 : Int) (M : xMe) (Q : Int → xMe → Prop) : Prop :=
  p_X12_isGood a M (fun r1 M1 => ((r1 ≠ 0 → p_X12_next F a M1 (fun r10 M10 => p_X12_isDigit r10 M10 (fun r13 M13 => ((r13 ≠ 0 → (∀ M36 : xMe, M36 = xw M13 a 14 (M13 a 4) → p_X12_number_41 F a Q F x1 x2 0 M36)) ∧ (r13 = 0 → p_X12_report a ((-2)) (M13 a 4) M13 (fun M26 => Q 0 M26)))))) ∧ (r1 = 0 → Q 0 M1)))
set_option maxHeartbeats 4000000 in
set_option maxRecDepth 100000 in
theorem c_X12_number {G : xGx} {t : xTh} {M : xMe} {F : Nat} {a : Nat} {x1 : Int} {x2 : Int} {Q : Int → xMe → Prop} (hL : oX12 t a) (hM : xMR M) (hx1 : xR x1) (hx2 : xR x2) (hp : p_X12_number F a x1 x2 M Q) : xCt G yX12_number cX12_number 4 (some .int) 2 0 0 [vr a, vi x1, vi x2] t M (fun v t' M' => ∃ r, v = some (vi r) ∧ xR r ∧ xMR M' ∧ t' = t ∧ Q r M') (fun _ _ _ => False) := by
  refine xCt_of (L0 := [vr a, vi x1, vi x2, vU]) (by decide +kernel) (Nat.le_of_ble_eq_true rfl) rfl ?_
  intro X hX hB
  unfold p_X12_number at hp
  refine xJ_aload_n hX dX12_number_0 rfl ?_
  refine xJ_callV (As := []) hX hB dX12_number_1 lk_X12_68 im_X12_isGood se_X12_isGood rfl (by decide) (oX12_k hL) (c_X12_isGood hL hM hp) (by decide) rfl rfl rfl (Nat.le_of_ble_eq_true rfl) (by decide) (by decide) (fun v t9 M1 hv => ?_) (fun _ _ _ q => q.elim)
  obtain ⟨r1, rfl, h1, hM1, ht9, hp⟩ := hv
  replace ht9 := ht9.symm
  subst ht9
  dsimp only [Option.toList, List.cons_append, List.nil_append]
  refine xJ_if_ne hX dX12_number_4 (tgt := 9) (by decide) h1 (fun c4 => ?_) (fun c4 => ?_)
  · replace hp := hp.1 c4
    refine xJ_aload_n hX dX12_number_9 rfl ?_
    refine xJ_callV (As := []) hX hB dX12_number_10 lk_X12_72 im_X12_next se_X12_next rfl (by decide) (oX12_k hL) (c_X12_next hL hM1 hp) (by decide) rfl rfl rfl (Nat.le_of_ble_eq_true rfl) (by decide) (by decide) (fun v t9 M10 hv => ?_) (fun _ _ _ q => q.elim)
    obtain ⟨r10, rfl, h10, hM10, ht9, hp⟩ := hv
    replace ht9 := ht9.symm
    subst ht9
    dsimp only [Option.toList, List.cons_append, List.nil_append]
    refine xJ_callS (As := [_]) hX hB dX12_number_13 lk_X12_89 sm_X12_isDigit (c_X12_isDigit  hM10 h10 hp) (by decide) rfl rfl rfl (Nat.le_of_ble_eq_true rfl) (by decide) (by decide) (fun v t9 M13 hv => ?_) (fun _ _ _ q => q.elim)
    obtain ⟨r13, rfl, h13, hM13, ht9, hp⟩ := hv
    replace ht9 := ht9.symm
    subst ht9
    dsimp only [Option.toList, List.cons_append, List.nil_append]
    refine xJ_if_ne hX dX12_number_16 (tgt := 31) (by decide) h13 (fun c16 => ?_) (fun c16 => ?_)
    · replace hp := hp.1 c16
      refine xJ_aload_n hX dX12_number_31 rfl ?_
      refine xJ_aload_n hX dX12_number_32 rfl ?_
      refine xJ_getI hX dX12_number_33 fd_X12_51 rfl (oX12_k hL) ?_
      refine xJ_putIM hX dX12_number_36 fd_X12_93 ft_X12 rfl rfl rfl rfl (oX12_k hL) hM13 (hM13 _ _) (fun M36 e36 hM36 => ?_)
      replace hp := hp M36 e36
      refine xJ_iconst hX dX12_number_39 ?_
      refine xJ_istore_n hX dX12_number_40 (Nat.le_of_ble_eq_true rfl) rfl ?_
      dsimp only [List.set]
      have lp41 : ∀ (k : Nat) (x1 : Int) (x2 : Int) (x3 : Int) (M : xMe) (hM : xMR M) (hx1 : xR x1) (hx2 : xR x2) (hx3 : xR x3) (hp : p_X12_number_41 F a Q k x1 x2 x3 M), xJ X 0 0 t M 41 [vr a, vi x1, vi x2, vi x3] [] := by
        intro k
        induction k with
        | zero => intro x1 x2 x3 M hM hx1 hx2 hx3 hp; exact hp.elim
        | succ k ih =>
          intro x1 x2 x3 M hM hx1 hx2 hx3 hp
          unfold p_X12_number_41 at hp
          refine xJ_aload_n hX dX12_number_41 rfl ?_
          refine xJ_aload_n hX dX12_number_42 rfl ?_
          refine xJ_getI hX dX12_number_43 fd_X12_51 rfl (oX12_k hL) ?_
          refine xJ_callV (As := [_]) hX hB dX12_number_46 lk_X12_54 im_X12_byteAt se_X12_byteAt rfl (by decide) (oX12_k hL) (c_X12_byteAt hL hM (hM _ _) hp) (by decide) rfl rfl rfl (Nat.le_of_ble_eq_true rfl) (by decide) (by decide) (fun v t9 M46 hv => ?_) (fun _ _ _ q => q.elim)
          obtain ⟨r46, rfl, h46, hM46, ht9, hp⟩ := hv
          replace ht9 := ht9.symm
          subst ht9
          dsimp only [Option.toList, List.cons_append, List.nil_append]
          refine xJ_callS (As := [_]) hX hB dX12_number_49 lk_X12_89 sm_X12_isDigit (c_X12_isDigit  hM46 h46 hp) (by decide) rfl rfl rfl (Nat.le_of_ble_eq_true rfl) (by decide) (by decide) (fun v t9 M49 hv => ?_) (fun _ _ _ q => q.elim)
          obtain ⟨r49, rfl, h49, hM49, ht9, hp⟩ := hv
          replace ht9 := ht9.symm
          subst ht9
          dsimp only [Option.toList, List.cons_append, List.nil_append]
          refine xJ_if_eq hX dX12_number_52 (tgt := 90) (by decide) h49 (fun c52 => ?_) (fun c52 => ?_)
          · replace hp := hp.1 c52
            refine xJ_iload_n hX dX12_number_90 rfl ?_
            refine xJ_iload_n hX dX12_number_91 rfl ?_
            refine xJ_iload_n hX dX12_number_92 rfl ?_
            refine xJ_callS (As := [_, _, _]) hX hB dX12_number_93 lk_X12_64 sm_X12_in (c_X12_in  hM49 hx3 hx1 hx2 hp) (by decide) rfl rfl rfl (Nat.le_of_ble_eq_true rfl) (by decide) (by decide) (fun v t9 M93 hv => ?_) (fun _ _ _ q => q.elim)
            obtain ⟨r93, rfl, h93, hM93, ht9, hp⟩ := hv
            replace ht9 := ht9.symm
            subst ht9
            dsimp only [Option.toList, List.cons_append, List.nil_append]
            refine xJ_if_ne hX dX12_number_96 (tgt := 109) (by decide) h93 (fun c96 => ?_) (fun c96 => ?_)
            · replace hp := hp.1 c96
              refine xJ_iload_n hX dX12_number_109 rfl ?_
              refine xJ_iret hX hB dX12_number_110 (by decide) (by decide) ⟨_, rfl, hx3, hM93, rfl, hp⟩
            · replace hp := hp.2 c96
              refine xJ_aload_n hX dX12_number_99 rfl ?_
              refine xJ_bipush hX dX12_number_100 rfl ?_
              refine xJ_aload_n hX dX12_number_102 rfl ?_
              refine xJ_getI hX dX12_number_103 fd_X12_93 rfl (oX12_k hL) ?_
              refine xJ_callV (As := [_, _]) hX hB dX12_number_106 lk_X12_85 im_X12_report se_X12_report rfl (by decide) (oX12_k hL) (c_X12_report hL hM93 ⟨by decide, by decide⟩ (hM93 _ _) hp) (by decide) rfl rfl rfl (Nat.le_of_ble_eq_true rfl) (by decide) (by decide) (fun v t9 M106 hv => ?_) (fun _ _ _ q => q.elim)
              obtain ⟨rfl, hM106, ht9, hp⟩ := hv
              replace ht9 := ht9.symm
              subst ht9
              dsimp only [Option.toList, List.cons_append, List.nil_append]
              refine xJ_iload_n hX dX12_number_109 rfl ?_
              refine xJ_iret hX hB dX12_number_110 (by decide) (by decide) ⟨_, rfl, hx3, hM106, rfl, hp⟩
          · replace hp := hp.2 c52
            refine xJ_ldc (1000000) hX dX12_number_55 kc_X12_96 ?_
            refine xJ_bipush hX dX12_number_57 rfl ?_
            refine xJ_iload_n hX dX12_number_59 rfl ?_
            refine xJ_imul hX dX12_number_60 ?_
            obtain ⟨h60, hp⟩ := hp
            refine xJ_aload_n hX dX12_number_61 rfl ?_
            refine xJ_aload_n hX dX12_number_62 rfl ?_
            refine xJ_getI hX dX12_number_63 fd_X12_51 rfl (oX12_k hL) ?_
            refine xJ_callV (As := [_]) hX hB dX12_number_66 lk_X12_54 im_X12_byteAt se_X12_byteAt rfl (by decide) (oX12_k hL) (c_X12_byteAt hL hM49 (hM49 _ _) hp) (by decide) rfl rfl rfl (Nat.le_of_ble_eq_true rfl) (by decide) (by decide) (fun v t9 M66 hv => ?_) (fun _ _ _ q => q.elim)
            obtain ⟨r66, rfl, h66, hM66, ht9, hp⟩ := hv
            replace ht9 := ht9.symm
            subst ht9
            dsimp only [Option.toList, List.cons_append, List.nil_append]
            refine xJ_iadd hX dX12_number_69 ?_
            obtain ⟨h69, hp⟩ := hp
            refine xJ_bipush hX dX12_number_70 rfl ?_
            refine xJ_isub hX dX12_number_72 ?_
            obtain ⟨h72, hp⟩ := hp
            refine xJ_callS (As := [_, _]) hX hB dX12_number_73 lk_X12_97 sm_X12_min (c_X12_min  hM66 ⟨by decide, by decide⟩ h72 hp) (by decide) rfl rfl rfl (Nat.le_of_ble_eq_true rfl) (by decide) (by decide) (fun v t9 M73 hv => ?_) (fun _ _ _ q => q.elim)
            obtain ⟨r73, rfl, h73, hM73, ht9, hp⟩ := hv
            replace ht9 := ht9.symm
            subst ht9
            dsimp only [Option.toList, List.cons_append, List.nil_append]
            refine xJ_istore_n hX dX12_number_76 (Nat.le_of_ble_eq_true rfl) rfl ?_
            dsimp only [List.set]
            refine xJ_aload_n hX dX12_number_77 rfl ?_
            refine xJ_dup hX dX12_number_78 rfl ?_
            refine xJ_getI hX dX12_number_79 fd_X12_51 rfl (oX12_k hL) ?_
            refine xJ_iconst hX dX12_number_82 ?_
            refine xJ_iadd hX dX12_number_83 ?_
            obtain ⟨h83, hp⟩ := hp
            refine xJ_putIM hX dX12_number_84 fd_X12_51 ft_X12 rfl rfl rfl rfl (oX12_k hL) hM73 h83 (fun M84 e84 hM84 => ?_)
            replace hp := hp M84 e84
            refine xJ_goto hX dX12_number_87 (tgt := 41) (by decide) ?_
            exact ih _ _ _ _ hM84 hx1 hx2 h73 hp
      refine lp41 F _ _ _ _ hM36 hx1 hx2 ⟨by decide, by decide⟩ hp
    · replace hp := hp.2 c16
      refine xJ_aload_n hX dX12_number_19 rfl ?_
      refine xJ_bipush hX dX12_number_20 rfl ?_
      refine xJ_aload_n hX dX12_number_22 rfl ?_
      refine xJ_getI hX dX12_number_23 fd_X12_51 rfl (oX12_k hL) ?_
      refine xJ_callV (As := [_, _]) hX hB dX12_number_26 lk_X12_85 im_X12_report se_X12_report rfl (by decide) (oX12_k hL) (c_X12_report hL hM13 ⟨by decide, by decide⟩ (hM13 _ _) hp) (by decide) rfl rfl rfl (Nat.le_of_ble_eq_true rfl) (by decide) (by decide) (fun v t9 M26 hv => ?_) (fun _ _ _ q => q.elim)
      obtain ⟨rfl, hM26, ht9, hp⟩ := hv
      replace ht9 := ht9.symm
      subst ht9
      dsimp only [Option.toList, List.cons_append, List.nil_append]
      refine xJ_iconst hX dX12_number_29 ?_
      refine xJ_iret hX hB dX12_number_30 (by decide) (by decide) ⟨_, rfl, ⟨by decide, by decide⟩, hM26, rfl, hp⟩
  · replace hp := hp.2 c4
    refine xJ_iconst hX dX12_number_7 ?_
    refine xJ_iret hX hB dX12_number_8 (by decide) (by decide) ⟨_, rfl, ⟨by decide, by decide⟩, hM1, rfl, hp⟩
def p_X12_emit (a : Nat) (x1 : Int) (M : xMe) (Q : xMe → Prop) : Prop :=
  p_X12_isGood a M (fun r1 M1 => ((r1 ≠ 0 → ((0 : Int) ≤ 13 ∧ (13 : Int) < 2105) ∧ (xR (905 + (M1 (a + 3) 13))) ∧ ((0 : Int) ≤ (905 + (M1 (a + 3) 13)) ∧ ((905 + (M1 (a + 3) 13)) : Int) < 2105) ∧ (∀ M24 : xMe, M24 = xw M1 (a + 3) (905 + (M1 (a + 3) 13)).toNat x1 → ((0 : Int) ≤ 13 ∧ (13 : Int) < 2105) ∧ (xR ((M24 (a + 3) 13) + 1)) ∧ ((0 : Int) ≤ 13 ∧ (13 : Int) < 2105) ∧ (∀ M35 : xMe, M35 = xw M24 (a + 3) 13 ((M24 (a + 3) 13) + 1) → Q M35))) ∧ (r1 = 0 → Q M1)))
set_option maxHeartbeats 4000000 in
set_option maxRecDepth 100000 in
theorem c_X12_emit {G : xGx} {t : xTh} {M : xMe} {a : Nat} {x1 : Int} {Q : xMe → Prop} (hL : oX12 t a) (hM : xMR M) (hx1 : xR x1) (hp : p_X12_emit a x1 M Q) : xCt G yX12_emit cX12_emit 2 none 1 0 0 [vr a, vi x1] t M (fun v t' M' => v = none ∧ xMR M' ∧ t' = t ∧ Q M') (fun _ _ _ => False) := by
  refine xCt_of (L0 := [vr a, vi x1]) (by decide +kernel) (Nat.le_of_ble_eq_true rfl) rfl ?_
  intro X hX hB
  unfold p_X12_emit at hp
  refine xJ_aload_n hX dX12_emit_0 rfl ?_
  refine xJ_callV (As := []) hX hB dX12_emit_1 lk_X12_68 im_X12_isGood se_X12_isGood rfl (by decide) (oX12_k hL) (c_X12_isGood hL hM hp) (by decide) rfl rfl rfl (Nat.le_of_ble_eq_true rfl) (by decide) (by decide) (fun v t9 M1 hv => ?_) (fun _ _ _ q => q.elim)
  obtain ⟨r1, rfl, h1, hM1, ht9, hp⟩ := hv
  replace ht9 := ht9.symm
  subst ht9
  dsimp only [Option.toList, List.cons_append, List.nil_append]
  refine xJ_if_ne hX dX12_emit_4 (tgt := 8) (by decide) h1 (fun c4 => ?_) (fun c4 => ?_)
  · replace hp := hp.1 c4
    refine xJ_aload_n hX dX12_emit_8 rfl ?_
    refine xJ_getR (b := (a + 3)) hX dX12_emit_9 fd_X12_20 rfl (oX12_k hL) (oX12_r9 hL) ?_
    refine xJ_sipush hX dX12_emit_12 rfl ?_
    refine xJ_aload_n hX dX12_emit_15 rfl ?_
    refine xJ_getR (b := (a + 3)) hX dX12_emit_16 fd_X12_20 rfl (oX12_k hL) (oX12_r9 hL) ?_
    refine xJ_bipush hX dX12_emit_19 rfl ?_
    obtain ⟨h21, hp⟩ := hp
    refine xJ_iald hX dX12_emit_21 (oX12_k9 hL) h21.1 (xnlt (oX12_n9 hL) h21.2) ?_
    refine xJ_iadd hX dX12_emit_22 ?_
    obtain ⟨h22, hp⟩ := hp
    refine xJ_iload_n hX dX12_emit_23 rfl ?_
    obtain ⟨h24, hp⟩ := hp
    refine xJ_iastM hX dX12_emit_24 (oX12_k9 hL) h24.1 (xnlt (oX12_n9 hL) h24.2) hM1 hx1 (fun M24 e24 hM24 => ?_)
    replace hp := hp M24 e24
    refine xJ_aload_n hX dX12_emit_25 rfl ?_
    refine xJ_getR (b := (a + 3)) hX dX12_emit_26 fd_X12_20 rfl (oX12_k hL) (oX12_r9 hL) ?_
    refine xJ_bipush hX dX12_emit_29 rfl ?_
    refine xJ_dup2 hX dX12_emit_31 rfl rfl ?_
    obtain ⟨h32, hp⟩ := hp
    refine xJ_iald hX dX12_emit_32 (oX12_k9 hL) h32.1 (xnlt (oX12_n9 hL) h32.2) ?_
    refine xJ_iconst hX dX12_emit_33 ?_
    refine xJ_iadd hX dX12_emit_34 ?_
    obtain ⟨h34, hp⟩ := hp
    obtain ⟨h35, hp⟩ := hp
    refine xJ_iastM hX dX12_emit_35 (oX12_k9 hL) h35.1 (xnlt (oX12_n9 hL) h35.2) hM24 h34 (fun M35 e35 hM35 => ?_)
    replace hp := hp M35 e35
    refine xJ_vret hX hB dX12_emit_36 (by decide) (by decide) ⟨rfl, hM35, rfl, hp⟩
  · replace hp := hp.2 c4
    refine xJ_vret hX hB dX12_emit_7 (by decide) (by decide) ⟨rfl, hM1, rfl, hp⟩
def p_X12_once (a : Nat) (x1 : Int) (x2 : Int) (M : xMe) (Q : xMe → Prop) : Prop :=
  ((0 : Int) ≤ x1 ∧ x1 < 32) ∧ (((((M a 16) / 2 ^ x1.toNat) % 2 ^ 1) ≠ 1 → ((0 : Int) ≤ x1 ∧ x1 < 31) ∧ (((0 : Int) ≤ (M a 16) ∧ (M a 16) < 8) ∧ (0 : Int) ≤ (((2 ^ x1.toNat : Nat) : Int)) ∧ (((2 ^ x1.toNat : Nat) : Int)) < 8) ∧ (∀ M28 : xMe, M28 = xw M a 16 ((((M a 16).toNat ||| (((2 ^ x1.toNat : Nat) : Int)).toNat : Nat) : Int)) → Q M28)) ∧ ((((M a 16) / 2 ^ x1.toNat) % 2 ^ 1) = 1 → p_X12_report a ((-2)) x2 M (fun M16 => ((0 : Int) ≤ x1 ∧ x1 < 31) ∧ (((0 : Int) ≤ (M16 a 16) ∧ (M16 a 16) < 8) ∧ (0 : Int) ≤ (((2 ^ x1.toNat : Nat) : Int)) ∧ (((2 ^ x1.toNat : Nat) : Int)) < 8) ∧ (∀ M28 : xMe, M28 = xw M16 a 16 ((((M16 a 16).toNat ||| (((2 ^ x1.toNat : Nat) : Int)).toNat : Nat) : Int)) → Q M28))))
set_option maxHeartbeats 4000000 in
set_option maxRecDepth 100000 in
theorem c_X12_once {G : xGx} {t : xTh} {M : xMe} {a : Nat} {x1 : Int} {x2 : Int} {Q : xMe → Prop} (hL : oX12 t a) (hM : xMR M) (hx1 : xR x1) (hx2 : xR x2) (hp : p_X12_once a x1 x2 M Q) : xCt G yX12_once cX12_once 3 none 1 0 0 [vr a, vi x1, vi x2] t M (fun v t' M' => v = none ∧ xMR M' ∧ t' = t ∧ Q M') (fun _ _ _ => False) := by
  refine xCt_of (L0 := [vr a, vi x1, vi x2]) (by decide +kernel) (Nat.le_of_ble_eq_true rfl) rfl ?_
  intro X hX hB
  unfold p_X12_once at hp
  refine xJ_aload_n hX dX12_once_0 rfl ?_
  refine xJ_getI hX dX12_once_1 fd_X12_135 rfl (oX12_k hL) ?_
  refine xJ_iload_n hX dX12_once_4 rfl ?_
  obtain ⟨h5, hp⟩ := hp
  refine xJ_ishrI hX dX12_once_5 (hM _ _) h5.1 h5.2 ?_
  refine xJ_iconst hX dX12_once_6 ?_
  refine xJ_iand 1 hX dX12_once_7 (by decide) (by decide) ?_
  refine xJ_iconst hX dX12_once_8 ?_
  refine xJ_icmp_ne hX dX12_once_9 (tgt := 19) (by decide) (xR_mod 1 (by decide)) ⟨by decide, by decide⟩ (fun c9 => ?_) (fun c9 => ?_)
  · replace hp := hp.1 c9
    refine xJ_aload_n hX dX12_once_19 rfl ?_
    refine xJ_dup hX dX12_once_20 rfl ?_
    refine xJ_getI hX dX12_once_21 fd_X12_135 rfl (oX12_k hL) ?_
    refine xJ_iconst hX dX12_once_24 ?_
    refine xJ_iload_n hX dX12_once_25 rfl ?_
    obtain ⟨h26, hp⟩ := hp
    refine xJ_ishlI hX dX12_once_26 h26.1 h26.2 ?_
    obtain ⟨h27, hp⟩ := hp
    refine xJ_iorI hX dX12_once_27 h27.1.1 h27.1.2 h27.2.1 h27.2.2 ?_
    refine xJ_putIM hX dX12_once_28 fd_X12_135 ft_X12 rfl rfl rfl rfl (oX12_k hL) hM (xR_o8 h27.1.1 h27.1.2 h27.2.1 h27.2.2) (fun M28 e28 hM28 => ?_)
    replace hp := hp M28 e28
    refine xJ_vret hX hB dX12_once_31 (by decide) (by decide) ⟨rfl, hM28, rfl, hp⟩
  · replace hp := hp.2 c9
    refine xJ_aload_n hX dX12_once_12 rfl ?_
    refine xJ_bipush hX dX12_once_13 rfl ?_
    refine xJ_iload_n hX dX12_once_15 rfl ?_
    refine xJ_callV (As := [_, _]) hX hB dX12_once_16 lk_X12_85 im_X12_report se_X12_report rfl (by decide) (oX12_k hL) (c_X12_report hL hM ⟨by decide, by decide⟩ hx2 hp) (by decide) rfl rfl rfl (Nat.le_of_ble_eq_true rfl) (by decide) (by decide) (fun v t9 M16 hv => ?_) (fun _ _ _ q => q.elim)
    obtain ⟨rfl, hM16, ht9, hp⟩ := hv
    replace ht9 := ht9.symm
    subst ht9
    dsimp only [Option.toList, List.cons_append, List.nil_append]
    refine xJ_aload_n hX dX12_once_19 rfl ?_
    refine xJ_dup hX dX12_once_20 rfl ?_
    refine xJ_getI hX dX12_once_21 fd_X12_135 rfl (oX12_k hL) ?_
    refine xJ_iconst hX dX12_once_24 ?_
    refine xJ_iload_n hX dX12_once_25 rfl ?_
    obtain ⟨h26, hp⟩ := hp
    refine xJ_ishlI hX dX12_once_26 h26.1 h26.2 ?_
    obtain ⟨h27, hp⟩ := hp
    refine xJ_iorI hX dX12_once_27 h27.1.1 h27.1.2 h27.2.1 h27.2.2 ?_
    refine xJ_putIM hX dX12_once_28 fd_X12_135 ft_X12 rfl rfl rfl rfl (oX12_k hL) hM16 (xR_o8 h27.1.1 h27.1.2 h27.2.1 h27.2.2) (fun M28 e28 hM28 => ?_)
    replace hp := hp M28 e28
    refine xJ_vret hX hB dX12_once_31 (by decide) (by decide) ⟨rfl, hM28, rfl, hp⟩
def p_X12_readGate (F : Nat) (a : Nat) (x1 : Int) (M : xMe) (Q : xMe → Prop) : Prop :=
  ((0 : Int) ≤ 1 ∧ (1 : Int) < 2105) ∧ (((M (a + 3) 1) ≠ 6 → p_X12_number F a 0 99 M (fun r22 M22 => p_X12_number F a 1 999 M22 (fun r31 M31 => p_X12_number F a 1 20 M31 (fun r39 M39 => p_X12_isGood a M39 (fun r45 M45 => ((r45 ≠ 0 → ((0 : Int) ≤ 1 ∧ (1 : Int) < 2105) ∧ (xR (3 * (M45 (a + 3) 1))) ∧ (xR (15 + (3 * (M45 (a + 3) 1)))) ∧ (∀ z63 : Int, z63 = 15 + (3 * (M45 (a + 3) 1)) → (xR (z63 + 0)) ∧ ((0 : Int) ≤ (z63 + 0) ∧ ((z63 + 0) : Int) < 2105) ∧ (∀ M74 : xMe, M74 = xw M45 (a + 3) (z63 + 0).toNat r22 → (xR (z63 + 1)) ∧ ((0 : Int) ≤ (z63 + 1) ∧ ((z63 + 1) : Int) < 2105) ∧ (∀ M84 : xMe, M84 = xw M74 (a + 3) (z63 + 1).toNat r31 → (xR (z63 + 2)) ∧ ((0 : Int) ≤ (z63 + 2) ∧ ((z63 + 2) : Int) < 2105) ∧ (∀ M95 : xMe, M95 = xw M84 (a + 3) (z63 + 2).toNat r39 → ((0 : Int) ≤ 1 ∧ (1 : Int) < 2105) ∧ (xR ((M95 (a + 3) 1) + 1)) ∧ ((0 : Int) ≤ 1 ∧ (1 : Int) < 2105) ∧ (∀ M105 : xMe, M105 = xw M95 (a + 3) 1 ((M95 (a + 3) 1) + 1) → Q M105)))))) ∧ (r45 = 0 → Q M45))))))) ∧ ((M (a + 3) 1) = 6 → p_X12_report a ((-5)) x1 M (fun M15 => p_X12_number F a 0 99 M15 (fun r22 M22 => p_X12_number F a 1 999 M22 (fun r31 M31 => p_X12_number F a 1 20 M31 (fun r39 M39 => p_X12_isGood a M39 (fun r45 M45 => ((r45 ≠ 0 → ((0 : Int) ≤ 1 ∧ (1 : Int) < 2105) ∧ (xR (3 * (M45 (a + 3) 1))) ∧ (xR (15 + (3 * (M45 (a + 3) 1)))) ∧ (∀ z63 : Int, z63 = 15 + (3 * (M45 (a + 3) 1)) → (xR (z63 + 0)) ∧ ((0 : Int) ≤ (z63 + 0) ∧ ((z63 + 0) : Int) < 2105) ∧ (∀ M74 : xMe, M74 = xw M45 (a + 3) (z63 + 0).toNat r22 → (xR (z63 + 1)) ∧ ((0 : Int) ≤ (z63 + 1) ∧ ((z63 + 1) : Int) < 2105) ∧ (∀ M84 : xMe, M84 = xw M74 (a + 3) (z63 + 1).toNat r31 → (xR (z63 + 2)) ∧ ((0 : Int) ≤ (z63 + 2) ∧ ((z63 + 2) : Int) < 2105) ∧ (∀ M95 : xMe, M95 = xw M84 (a + 3) (z63 + 2).toNat r39 → ((0 : Int) ≤ 1 ∧ (1 : Int) < 2105) ∧ (xR ((M95 (a + 3) 1) + 1)) ∧ ((0 : Int) ≤ 1 ∧ (1 : Int) < 2105) ∧ (∀ M105 : xMe, M105 = xw M95 (a + 3) 1 ((M95 (a + 3) 1) + 1) → Q M105)))))) ∧ (r45 = 0 → Q M45)))))))))
set_option maxHeartbeats 4000000 in
set_option maxRecDepth 100000 in
theorem c_X12_readGate {G : xGx} {t : xTh} {M : xMe} {F : Nat} {a : Nat} {x1 : Int} {Q : xMe → Prop} (hL : oX12 t a) (hM : xMR M) (hx1 : xR x1) (hp : p_X12_readGate F a x1 M Q) : xCt G yX12_readGate cX12_readGate 6 none 3 0 0 [vr a, vi x1] t M (fun v t' M' => v = none ∧ xMR M' ∧ t' = t ∧ Q M') (fun _ _ _ => False) := by
  refine xCt_of (L0 := [vr a, vi x1, vU, vU, vU, vU]) (by decide +kernel) (Nat.le_of_ble_eq_true rfl) rfl ?_
  intro X hX hB
  unfold p_X12_readGate at hp
  refine xJ_aload_n hX dX12_readGate_0 rfl ?_
  refine xJ_getR (b := (a + 3)) hX dX12_readGate_1 fd_X12_20 rfl (oX12_k hL) (oX12_r9 hL) ?_
  refine xJ_iconst hX dX12_readGate_4 ?_
  obtain ⟨h5, hp⟩ := hp
  refine xJ_iald hX dX12_readGate_5 (oX12_k9 hL) h5.1 (xnlt (oX12_n9 hL) h5.2) ?_
  refine xJ_bipush hX dX12_readGate_6 rfl ?_
  refine xJ_icmp_ne hX dX12_readGate_8 (tgt := 18) (by decide) (hM _ _) ⟨by decide, by decide⟩ (fun c8 => ?_) (fun c8 => ?_)
  · replace hp := hp.1 c8
    refine xJ_aload_n hX dX12_readGate_18 rfl ?_
    refine xJ_iconst hX dX12_readGate_19 ?_
    refine xJ_bipush hX dX12_readGate_20 rfl ?_
    refine xJ_callV (As := [_, _]) hX hB dX12_readGate_22 lk_X12_123 im_X12_number se_X12_number rfl (by decide) (oX12_k hL) (c_X12_number hL hM ⟨by decide, by decide⟩ ⟨by decide, by decide⟩ hp) (by decide) rfl rfl rfl (Nat.le_of_ble_eq_true rfl) (by decide) (by decide) (fun v t9 M22 hv => ?_) (fun _ _ _ q => q.elim)
    obtain ⟨r22, rfl, h22, hM22, ht9, hp⟩ := hv
    replace ht9 := ht9.symm
    subst ht9
    dsimp only [Option.toList, List.cons_append, List.nil_append]
    refine xJ_istore_n hX dX12_readGate_25 (Nat.le_of_ble_eq_true rfl) rfl ?_
    dsimp only [List.set]
    refine xJ_aload_n hX dX12_readGate_26 rfl ?_
    refine xJ_iconst hX dX12_readGate_27 ?_
    refine xJ_sipush hX dX12_readGate_28 rfl ?_
    refine xJ_callV (As := [_, _]) hX hB dX12_readGate_31 lk_X12_123 im_X12_number se_X12_number rfl (by decide) (oX12_k hL) (c_X12_number hL hM22 ⟨by decide, by decide⟩ ⟨by decide, by decide⟩ hp) (by decide) rfl rfl rfl (Nat.le_of_ble_eq_true rfl) (by decide) (by decide) (fun v t9 M31 hv => ?_) (fun _ _ _ q => q.elim)
    obtain ⟨r31, rfl, h31, hM31, ht9, hp⟩ := hv
    replace ht9 := ht9.symm
    subst ht9
    dsimp only [Option.toList, List.cons_append, List.nil_append]
    refine xJ_istore_n hX dX12_readGate_34 (Nat.le_of_ble_eq_true rfl) rfl ?_
    dsimp only [List.set]
    refine xJ_aload_n hX dX12_readGate_35 rfl ?_
    refine xJ_iconst hX dX12_readGate_36 ?_
    refine xJ_bipush hX dX12_readGate_37 rfl ?_
    refine xJ_callV (As := [_, _]) hX hB dX12_readGate_39 lk_X12_123 im_X12_number se_X12_number rfl (by decide) (oX12_k hL) (c_X12_number hL hM31 ⟨by decide, by decide⟩ ⟨by decide, by decide⟩ hp) (by decide) rfl rfl rfl (Nat.le_of_ble_eq_true rfl) (by decide) (by decide) (fun v t9 M39 hv => ?_) (fun _ _ _ q => q.elim)
    obtain ⟨r39, rfl, h39, hM39, ht9, hp⟩ := hv
    replace ht9 := ht9.symm
    subst ht9
    dsimp only [Option.toList, List.cons_append, List.nil_append]
    refine xJ_istore hX dX12_readGate_42 (Nat.le_of_ble_eq_true rfl) rfl ?_
    dsimp only [List.set]
    refine xJ_aload_n hX dX12_readGate_44 rfl ?_
    refine xJ_callV (As := []) hX hB dX12_readGate_45 lk_X12_68 im_X12_isGood se_X12_isGood rfl (by decide) (oX12_k hL) (c_X12_isGood hL hM39 hp) (by decide) rfl rfl rfl (Nat.le_of_ble_eq_true rfl) (by decide) (by decide) (fun v t9 M45 hv => ?_) (fun _ _ _ q => q.elim)
    obtain ⟨r45, rfl, h45, hM45, ht9, hp⟩ := hv
    replace ht9 := ht9.symm
    subst ht9
    dsimp only [Option.toList, List.cons_append, List.nil_append]
    refine xJ_if_ne hX dX12_readGate_48 (tgt := 52) (by decide) h45 (fun c48 => ?_) (fun c48 => ?_)
    · replace hp := hp.1 c48
      refine xJ_bipush hX dX12_readGate_52 rfl ?_
      refine xJ_iconst hX dX12_readGate_54 ?_
      refine xJ_aload_n hX dX12_readGate_55 rfl ?_
      refine xJ_getR (b := (a + 3)) hX dX12_readGate_56 fd_X12_20 rfl (oX12_k hL) (oX12_r9 hL) ?_
      refine xJ_iconst hX dX12_readGate_59 ?_
      obtain ⟨h60, hp⟩ := hp
      refine xJ_iald hX dX12_readGate_60 (oX12_k9 hL) h60.1 (xnlt (oX12_n9 hL) h60.2) ?_
      refine xJ_imul hX dX12_readGate_61 ?_
      obtain ⟨h61, hp⟩ := hp
      refine xJ_iadd hX dX12_readGate_62 ?_
      obtain ⟨h62, hp⟩ := hp
      refine xJ_istore hX dX12_readGate_63 (Nat.le_of_ble_eq_true rfl) rfl ?_
      dsimp only [List.set]
      replace hp := hp _ rfl
      refine xJ_aload_n hX dX12_readGate_65 rfl ?_
      refine xJ_getR (b := (a + 3)) hX dX12_readGate_66 fd_X12_20 rfl (oX12_k hL) (oX12_r9 hL) ?_
      refine xJ_iload hX dX12_readGate_69 rfl ?_
      refine xJ_iconst hX dX12_readGate_71 ?_
      refine xJ_iadd hX dX12_readGate_72 ?_
      obtain ⟨h72, hp⟩ := hp
      refine xJ_iload_n hX dX12_readGate_73 rfl ?_
      obtain ⟨h74, hp⟩ := hp
      refine xJ_iastM hX dX12_readGate_74 (oX12_k9 hL) h74.1 (xnlt (oX12_n9 hL) h74.2) hM45 h22 (fun M74 e74 hM74 => ?_)
      replace hp := hp M74 e74
      refine xJ_aload_n hX dX12_readGate_75 rfl ?_
      refine xJ_getR (b := (a + 3)) hX dX12_readGate_76 fd_X12_20 rfl (oX12_k hL) (oX12_r9 hL) ?_
      refine xJ_iload hX dX12_readGate_79 rfl ?_
      refine xJ_iconst hX dX12_readGate_81 ?_
      refine xJ_iadd hX dX12_readGate_82 ?_
      obtain ⟨h82, hp⟩ := hp
      refine xJ_iload_n hX dX12_readGate_83 rfl ?_
      obtain ⟨h84, hp⟩ := hp
      refine xJ_iastM hX dX12_readGate_84 (oX12_k9 hL) h84.1 (xnlt (oX12_n9 hL) h84.2) hM74 h31 (fun M84 e84 hM84 => ?_)
      replace hp := hp M84 e84
      refine xJ_aload_n hX dX12_readGate_85 rfl ?_
      refine xJ_getR (b := (a + 3)) hX dX12_readGate_86 fd_X12_20 rfl (oX12_k hL) (oX12_r9 hL) ?_
      refine xJ_iload hX dX12_readGate_89 rfl ?_
      refine xJ_iconst hX dX12_readGate_91 ?_
      refine xJ_iadd hX dX12_readGate_92 ?_
      obtain ⟨h92, hp⟩ := hp
      refine xJ_iload hX dX12_readGate_93 rfl ?_
      obtain ⟨h95, hp⟩ := hp
      refine xJ_iastM hX dX12_readGate_95 (oX12_k9 hL) h95.1 (xnlt (oX12_n9 hL) h95.2) hM84 h39 (fun M95 e95 hM95 => ?_)
      replace hp := hp M95 e95
      refine xJ_aload_n hX dX12_readGate_96 rfl ?_
      refine xJ_getR (b := (a + 3)) hX dX12_readGate_97 fd_X12_20 rfl (oX12_k hL) (oX12_r9 hL) ?_
      refine xJ_iconst hX dX12_readGate_100 ?_
      refine xJ_dup2 hX dX12_readGate_101 rfl rfl ?_
      obtain ⟨h102, hp⟩ := hp
      refine xJ_iald hX dX12_readGate_102 (oX12_k9 hL) h102.1 (xnlt (oX12_n9 hL) h102.2) ?_
      refine xJ_iconst hX dX12_readGate_103 ?_
      refine xJ_iadd hX dX12_readGate_104 ?_
      obtain ⟨h104, hp⟩ := hp
      obtain ⟨h105, hp⟩ := hp
      refine xJ_iastM hX dX12_readGate_105 (oX12_k9 hL) h105.1 (xnlt (oX12_n9 hL) h105.2) hM95 h104 (fun M105 e105 hM105 => ?_)
      replace hp := hp M105 e105
      refine xJ_vret hX hB dX12_readGate_106 (by decide) (by decide) ⟨rfl, hM105, rfl, hp⟩
    · replace hp := hp.2 c48
      refine xJ_vret hX hB dX12_readGate_51 (by decide) (by decide) ⟨rfl, hM45, rfl, hp⟩
  · replace hp := hp.2 c8
    refine xJ_aload_n hX dX12_readGate_11 rfl ?_
    refine xJ_bipush hX dX12_readGate_12 rfl ?_
    refine xJ_iload_n hX dX12_readGate_14 rfl ?_
    refine xJ_callV (As := [_, _]) hX hB dX12_readGate_15 lk_X12_85 im_X12_report se_X12_report rfl (by decide) (oX12_k hL) (c_X12_report hL hM ⟨by decide, by decide⟩ hx1 hp) (by decide) rfl rfl rfl (Nat.le_of_ble_eq_true rfl) (by decide) (by decide) (fun v t9 M15 hv => ?_) (fun _ _ _ q => q.elim)
    obtain ⟨rfl, hM15, ht9, hp⟩ := hv
    replace ht9 := ht9.symm
    subst ht9
    dsimp only [Option.toList, List.cons_append, List.nil_append]
    refine xJ_aload_n hX dX12_readGate_18 rfl ?_
    refine xJ_iconst hX dX12_readGate_19 ?_
    refine xJ_bipush hX dX12_readGate_20 rfl ?_
    refine xJ_callV (As := [_, _]) hX hB dX12_readGate_22 lk_X12_123 im_X12_number se_X12_number rfl (by decide) (oX12_k hL) (c_X12_number hL hM15 ⟨by decide, by decide⟩ ⟨by decide, by decide⟩ hp) (by decide) rfl rfl rfl (Nat.le_of_ble_eq_true rfl) (by decide) (by decide) (fun v t9 M22 hv => ?_) (fun _ _ _ q => q.elim)
    obtain ⟨r22, rfl, h22, hM22, ht9, hp⟩ := hv
    replace ht9 := ht9.symm
    subst ht9
    dsimp only [Option.toList, List.cons_append, List.nil_append]
    refine xJ_istore_n hX dX12_readGate_25 (Nat.le_of_ble_eq_true rfl) rfl ?_
    dsimp only [List.set]
    refine xJ_aload_n hX dX12_readGate_26 rfl ?_
    refine xJ_iconst hX dX12_readGate_27 ?_
    refine xJ_sipush hX dX12_readGate_28 rfl ?_
    refine xJ_callV (As := [_, _]) hX hB dX12_readGate_31 lk_X12_123 im_X12_number se_X12_number rfl (by decide) (oX12_k hL) (c_X12_number hL hM22 ⟨by decide, by decide⟩ ⟨by decide, by decide⟩ hp) (by decide) rfl rfl rfl (Nat.le_of_ble_eq_true rfl) (by decide) (by decide) (fun v t9 M31 hv => ?_) (fun _ _ _ q => q.elim)
    obtain ⟨r31, rfl, h31, hM31, ht9, hp⟩ := hv
    replace ht9 := ht9.symm
    subst ht9
    dsimp only [Option.toList, List.cons_append, List.nil_append]
    refine xJ_istore_n hX dX12_readGate_34 (Nat.le_of_ble_eq_true rfl) rfl ?_
    dsimp only [List.set]
    refine xJ_aload_n hX dX12_readGate_35 rfl ?_
    refine xJ_iconst hX dX12_readGate_36 ?_
    refine xJ_bipush hX dX12_readGate_37 rfl ?_
    refine xJ_callV (As := [_, _]) hX hB dX12_readGate_39 lk_X12_123 im_X12_number se_X12_number rfl (by decide) (oX12_k hL) (c_X12_number hL hM31 ⟨by decide, by decide⟩ ⟨by decide, by decide⟩ hp) (by decide) rfl rfl rfl (Nat.le_of_ble_eq_true rfl) (by decide) (by decide) (fun v t9 M39 hv => ?_) (fun _ _ _ q => q.elim)
    obtain ⟨r39, rfl, h39, hM39, ht9, hp⟩ := hv
    replace ht9 := ht9.symm
    subst ht9
    dsimp only [Option.toList, List.cons_append, List.nil_append]
    refine xJ_istore hX dX12_readGate_42 (Nat.le_of_ble_eq_true rfl) rfl ?_
    dsimp only [List.set]
    refine xJ_aload_n hX dX12_readGate_44 rfl ?_
    refine xJ_callV (As := []) hX hB dX12_readGate_45 lk_X12_68 im_X12_isGood se_X12_isGood rfl (by decide) (oX12_k hL) (c_X12_isGood hL hM39 hp) (by decide) rfl rfl rfl (Nat.le_of_ble_eq_true rfl) (by decide) (by decide) (fun v t9 M45 hv => ?_) (fun _ _ _ q => q.elim)
    obtain ⟨r45, rfl, h45, hM45, ht9, hp⟩ := hv
    replace ht9 := ht9.symm
    subst ht9
    dsimp only [Option.toList, List.cons_append, List.nil_append]
    refine xJ_if_ne hX dX12_readGate_48 (tgt := 52) (by decide) h45 (fun c48 => ?_) (fun c48 => ?_)
    · replace hp := hp.1 c48
      refine xJ_bipush hX dX12_readGate_52 rfl ?_
      refine xJ_iconst hX dX12_readGate_54 ?_
      refine xJ_aload_n hX dX12_readGate_55 rfl ?_
      refine xJ_getR (b := (a + 3)) hX dX12_readGate_56 fd_X12_20 rfl (oX12_k hL) (oX12_r9 hL) ?_
      refine xJ_iconst hX dX12_readGate_59 ?_
      obtain ⟨h60, hp⟩ := hp
      refine xJ_iald hX dX12_readGate_60 (oX12_k9 hL) h60.1 (xnlt (oX12_n9 hL) h60.2) ?_
      refine xJ_imul hX dX12_readGate_61 ?_
      obtain ⟨h61, hp⟩ := hp
      refine xJ_iadd hX dX12_readGate_62 ?_
      obtain ⟨h62, hp⟩ := hp
      refine xJ_istore hX dX12_readGate_63 (Nat.le_of_ble_eq_true rfl) rfl ?_
      dsimp only [List.set]
      replace hp := hp _ rfl
      refine xJ_aload_n hX dX12_readGate_65 rfl ?_
      refine xJ_getR (b := (a + 3)) hX dX12_readGate_66 fd_X12_20 rfl (oX12_k hL) (oX12_r9 hL) ?_
      refine xJ_iload hX dX12_readGate_69 rfl ?_
      refine xJ_iconst hX dX12_readGate_71 ?_
      refine xJ_iadd hX dX12_readGate_72 ?_
      obtain ⟨h72, hp⟩ := hp
      refine xJ_iload_n hX dX12_readGate_73 rfl ?_
      obtain ⟨h74, hp⟩ := hp
      refine xJ_iastM hX dX12_readGate_74 (oX12_k9 hL) h74.1 (xnlt (oX12_n9 hL) h74.2) hM45 h22 (fun M74 e74 hM74 => ?_)
      replace hp := hp M74 e74
      refine xJ_aload_n hX dX12_readGate_75 rfl ?_
      refine xJ_getR (b := (a + 3)) hX dX12_readGate_76 fd_X12_20 rfl (oX12_k hL) (oX12_r9 hL) ?_
      refine xJ_iload hX dX12_readGate_79 rfl ?_
      refine xJ_iconst hX dX12_readGate_81 ?_
      refine xJ_iadd hX dX12_readGate_82 ?_
      obtain ⟨h82, hp⟩ := hp
      refine xJ_iload_n hX dX12_readGate_83 rfl ?_
      obtain ⟨h84, hp⟩ := hp
      refine xJ_iastM hX dX12_readGate_84 (oX12_k9 hL) h84.1 (xnlt (oX12_n9 hL) h84.2) hM74 h31 (fun M84 e84 hM84 => ?_)
      replace hp := hp M84 e84
      refine xJ_aload_n hX dX12_readGate_85 rfl ?_
      refine xJ_getR (b := (a + 3)) hX dX12_readGate_86 fd_X12_20 rfl (oX12_k hL) (oX12_r9 hL) ?_
      refine xJ_iload hX dX12_readGate_89 rfl ?_
      refine xJ_iconst hX dX12_readGate_91 ?_
      refine xJ_iadd hX dX12_readGate_92 ?_
      obtain ⟨h92, hp⟩ := hp
      refine xJ_iload hX dX12_readGate_93 rfl ?_
      obtain ⟨h95, hp⟩ := hp
      refine xJ_iastM hX dX12_readGate_95 (oX12_k9 hL) h95.1 (xnlt (oX12_n9 hL) h95.2) hM84 h39 (fun M95 e95 hM95 => ?_)
      replace hp := hp M95 e95
      refine xJ_aload_n hX dX12_readGate_96 rfl ?_
      refine xJ_getR (b := (a + 3)) hX dX12_readGate_97 fd_X12_20 rfl (oX12_k hL) (oX12_r9 hL) ?_
      refine xJ_iconst hX dX12_readGate_100 ?_
      refine xJ_dup2 hX dX12_readGate_101 rfl rfl ?_
      obtain ⟨h102, hp⟩ := hp
      refine xJ_iald hX dX12_readGate_102 (oX12_k9 hL) h102.1 (xnlt (oX12_n9 hL) h102.2) ?_
      refine xJ_iconst hX dX12_readGate_103 ?_
      refine xJ_iadd hX dX12_readGate_104 ?_
      obtain ⟨h104, hp⟩ := hp
      obtain ⟨h105, hp⟩ := hp
      refine xJ_iastM hX dX12_readGate_105 (oX12_k9 hL) h105.1 (xnlt (oX12_n9 hL) h105.2) hM95 h104 (fun M105 e105 hM105 => ?_)
      replace hp := hp M105 e105
      refine xJ_vret hX hB dX12_readGate_106 (by decide) (by decide) ⟨rfl, hM105, rfl, hp⟩
    · replace hp := hp.2 c48
      refine xJ_vret hX hB dX12_readGate_51 (by decide) (by decide) ⟨rfl, hM45, rfl, hp⟩
def p_X12_isOnWay_3 (F : Nat) (a : Nat) (b1 : Nat) (n1 : Nat) (Q : Int → xMe → Prop) : Nat → Int → Int → Int → Int → xMe → Prop
  | 0, _, _, _, _, _ => False
  | k + 1, x2, x3, x4, x5, M =>
    ((x3 ≤ x5 → Q 0 M) ∧ (x5 < x3 → (xR (8 * x2)) ∧ (xR (33 + (8 * x2))) ∧ (xR ((33 + (8 * x2)) + 4)) ∧ (xR (((33 + (8 * x2)) + 4) + x5)) ∧ ((0 : Int) ≤ (((33 + (8 * x2)) + 4) + x5) ∧ ((((33 + (8 * x2)) + 4) + x5) : Int) < n1) ∧ (((M b1 (((33 + (8 * x2)) + 4) + x5).toNat) ≠ x4 → (xR (x5 + 1)) ∧ p_X12_isOnWay_3 F a b1 n1 Q k x2 x3 x4 (x5 + 1) M) ∧ ((M b1 (((33 + (8 * x2)) + 4) + x5).toNat) = x4 → Q 1 M))))
def p_X12_isOnWay (F : Nat) (a : Nat) (b1 : Nat) (n1 : Nat) (x2 : Int) (x3 : Int) (x4 : Int) (M : xMe) (Q : Int → xMe → Prop) : Prop :=
  p_X12_isOnWay_3 F a b1 n1 Q F x2 x3 x4 0 M
set_option maxHeartbeats 4000000 in
set_option maxRecDepth 100000 in
theorem c_X12_isOnWay {G : xGx} {t : xTh} {M : xMe} {F : Nat} {a : Nat} {b1 : Nat} {n1 : Nat} {x2 : Int} {x3 : Int} {x4 : Int} {Q : Int → xMe → Prop} (hL : oX12 t a) (hk1 : xk t b1 = 14) (hn1 : xn t b1 = n1) (hn1R : xR (n1 : Int)) (hM : xMR M) (hx2 : xR x2) (hx3 : xR x3) (hx4 : xR x4) (hp : p_X12_isOnWay F a b1 n1 x2 x3 x4 M Q) : xCt G yX12_isOnWay cX12_isOnWay 6 (some .boolean) 0 0 0 [vr a, vr b1, vi x2, vi x3, vi x4] t M (fun v t' M' => ∃ r, v = some (vi r) ∧ xR r ∧ xMR M' ∧ t' = t ∧ Q r M') (fun _ _ _ => False) := by
  refine xCt_of (L0 := [vr a, vr b1, vi x2, vi x3, vi x4, vU]) (by decide +kernel) (Nat.le_of_ble_eq_true rfl) rfl ?_
  intro X hX hB
  unfold p_X12_isOnWay at hp
  refine xJ_iconst hX dX12_isOnWay_0 ?_
  refine xJ_istore hX dX12_isOnWay_1 (Nat.le_of_ble_eq_true rfl) rfl ?_
  dsimp only [List.set]
  refine xJ_fg 0 ?_
  dsimp only [List.set]
  have lp3 : ∀ (k : Nat) (x2 : Int) (x3 : Int) (x4 : Int) (x5 : Int) (M : xMe) (hM : xMR M) (hx2 : xR x2) (hx3 : xR x3) (hx4 : xR x4) (hx5 : xR x5) (hp : p_X12_isOnWay_3 F a b1 n1 Q k x2 x3 x4 x5 M), xJ X 0 0 t M 3 [vU, vr b1, vi x2, vi x3, vi x4, vi x5] [] := by
    intro k
    induction k with
    | zero => intro x2 x3 x4 x5 M hM hx2 hx3 hx4 hx5 hp; exact hp.elim
    | succ k ih =>
      intro x2 x3 x4 x5 M hM hx2 hx3 hx4 hx5 hp
      unfold p_X12_isOnWay_3 at hp
      refine xJ_iload hX dX12_isOnWay_3 rfl ?_
      refine xJ_iload_n hX dX12_isOnWay_5 rfl ?_
      refine xJ_icmp_ge hX dX12_isOnWay_6 (tgt := 36) (by decide) hx5 hx3 (fun c6 => ?_) (fun c6 => ?_)
      · replace hp := hp.1 c6
        refine xJ_iconst hX dX12_isOnWay_36 ?_
        refine xJ_zret hX hB dX12_isOnWay_37 rfl (by decide) (by decide) ⟨_, rfl, ⟨by decide, by decide⟩, hM, rfl, hp⟩
      · replace hp := hp.2 c6
        refine xJ_aload_n hX dX12_isOnWay_9 rfl ?_
        refine xJ_bipush hX dX12_isOnWay_10 rfl ?_
        refine xJ_bipush hX dX12_isOnWay_12 rfl ?_
        refine xJ_iload_n hX dX12_isOnWay_14 rfl ?_
        refine xJ_imul hX dX12_isOnWay_15 ?_
        obtain ⟨h15, hp⟩ := hp
        refine xJ_iadd hX dX12_isOnWay_16 ?_
        obtain ⟨h16, hp⟩ := hp
        refine xJ_iconst hX dX12_isOnWay_17 ?_
        refine xJ_iadd hX dX12_isOnWay_18 ?_
        obtain ⟨h18, hp⟩ := hp
        refine xJ_iload hX dX12_isOnWay_19 rfl ?_
        refine xJ_iadd hX dX12_isOnWay_21 ?_
        obtain ⟨h21, hp⟩ := hp
        obtain ⟨h22, hp⟩ := hp
        refine xJ_iald hX dX12_isOnWay_22 hk1 h22.1 (xnlt hn1 h22.2) ?_
        refine xJ_iload hX dX12_isOnWay_23 rfl ?_
        refine xJ_icmp_ne hX dX12_isOnWay_25 (tgt := 30) (by decide) (hM _ _) hx4 (fun c25 => ?_) (fun c25 => ?_)
        · replace hp := hp.1 c25
          refine xJ_iinc hX dX12_isOnWay_30 rfl rfl ?_
          dsimp only [List.set]
          obtain ⟨h30, hp⟩ := hp
          refine xJ_goto hX dX12_isOnWay_33 (tgt := 3) (by decide) ?_
          exact ih _ _ _ _ _ hM hx2 hx3 hx4 h30 hp
        · replace hp := hp.2 c25
          refine xJ_iconst hX dX12_isOnWay_28 ?_
          refine xJ_zret hX hB dX12_isOnWay_29 rfl (by decide) (by decide) ⟨_, rfl, ⟨by decide, by decide⟩, hM, rfl, hp⟩
  refine lp3 F _ _ _ _ _ hM hx2 hx3 hx4 ⟨by decide, by decide⟩ hp
def p_X12_readFlow_27 (F : Nat) (a : Nat) (Q : xMe → Prop) (K149 : Int → Int → xMe → Prop) : Nat → Int → Int → xMe → Prop
  | 0, _, _, _ => False
  | k + 1, x2, x3, M =>
    p_X12_isGood a M (fun r28 M28 => ((r28 = 0 → K149 x2 x3 M28) ∧ (r28 ≠ 0 → ((x3 = 0 → ((0 : Int) ≤ 1 ∧ (1 : Int) < 2105) ∧ (xR ((M28 (a + 3) 1) - 1)) ∧ p_X12_number F a 0 ((M28 (a + 3) 1) - 1) M28 (fun r58 M58 => p_X12_isGood a M58 (fun r64 M64 => ((r64 = 0 → p_X12_isGood a M64 (fun r96 M96 => ((r96 = 0 → p_X12_isGood a M96 (fun r118 M118 => ((r118 ≠ 0 → (xR (8 * x2)) ∧ (xR (33 + (8 * x2))) ∧ (xR ((33 + (8 * x2)) + 4)) ∧ (xR (((33 + (8 * x2)) + 4) + x3)) ∧ ((0 : Int) ≤ (((33 + (8 * x2)) + 4) + x3) ∧ ((((33 + (8 * x2)) + 4) + x3) : Int) < 2105) ∧ (∀ M142 : xMe, M142 = xw M118 (a + 3) (((33 + (8 * x2)) + 4) + x3).toNat r58 → (xR (x3 + 1)) ∧ p_X12_readFlow_27 F a Q K149 k x2 (x3 + 1) M142)) ∧ (r118 = 0 → Q M118)))) ∧ (r96 ≠ 0 → ((x3 ≠ 4 → p_X12_isGood a M96 (fun r118 M118 => ((r118 ≠ 0 → (xR (8 * x2)) ∧ (xR (33 + (8 * x2))) ∧ (xR ((33 + (8 * x2)) + 4)) ∧ (xR (((33 + (8 * x2)) + 4) + x3)) ∧ ((0 : Int) ≤ (((33 + (8 * x2)) + 4) + x3) ∧ ((((33 + (8 * x2)) + 4) + x3) : Int) < 2105) ∧ (∀ M142 : xMe, M142 = xw M118 (a + 3) (((33 + (8 * x2)) + 4) + x3).toNat r58 → (xR (x3 + 1)) ∧ p_X12_readFlow_27 F a Q K149 k x2 (x3 + 1) M142)) ∧ (r118 = 0 → Q M118)))) ∧ (x3 = 4 → p_X12_report a ((-5)) (M96 a 14) M96 (fun M114 => p_X12_isGood a M114 (fun r118 M118 => ((r118 ≠ 0 → (xR (8 * x2)) ∧ (xR (33 + (8 * x2))) ∧ (xR ((33 + (8 * x2)) + 4)) ∧ (xR (((33 + (8 * x2)) + 4) + x3)) ∧ ((0 : Int) ≤ (((33 + (8 * x2)) + 4) + x3) ∧ ((((33 + (8 * x2)) + 4) + x3) : Int) < 2105) ∧ (∀ M142 : xMe, M142 = xw M118 (a + 3) (((33 + (8 * x2)) + 4) + x3).toNat r58 → (xR (x3 + 1)) ∧ p_X12_readFlow_27 F a Q K149 k x2 (x3 + 1) M142)) ∧ (r118 = 0 → Q M118)))))))))) ∧ (r64 ≠ 0 → p_X12_isOnWay F a (a + 3) 2105 x2 x3 r58 M64 (fun r79 M79 => ((r79 = 0 → p_X12_isGood a M79 (fun r96 M96 => ((r96 = 0 → p_X12_isGood a M96 (fun r118 M118 => ((r118 ≠ 0 → (xR (8 * x2)) ∧ (xR (33 + (8 * x2))) ∧ (xR ((33 + (8 * x2)) + 4)) ∧ (xR (((33 + (8 * x2)) + 4) + x3)) ∧ ((0 : Int) ≤ (((33 + (8 * x2)) + 4) + x3) ∧ ((((33 + (8 * x2)) + 4) + x3) : Int) < 2105) ∧ (∀ M142 : xMe, M142 = xw M118 (a + 3) (((33 + (8 * x2)) + 4) + x3).toNat r58 → (xR (x3 + 1)) ∧ p_X12_readFlow_27 F a Q K149 k x2 (x3 + 1) M142)) ∧ (r118 = 0 → Q M118)))) ∧ (r96 ≠ 0 → ((x3 ≠ 4 → p_X12_isGood a M96 (fun r118 M118 => ((r118 ≠ 0 → (xR (8 * x2)) ∧ (xR (33 + (8 * x2))) ∧ (xR ((33 + (8 * x2)) + 4)) ∧ (xR (((33 + (8 * x2)) + 4) + x3)) ∧ ((0 : Int) ≤ (((33 + (8 * x2)) + 4) + x3) ∧ ((((33 + (8 * x2)) + 4) + x3) : Int) < 2105) ∧ (∀ M142 : xMe, M142 = xw M118 (a + 3) (((33 + (8 * x2)) + 4) + x3).toNat r58 → (xR (x3 + 1)) ∧ p_X12_readFlow_27 F a Q K149 k x2 (x3 + 1) M142)) ∧ (r118 = 0 → Q M118)))) ∧ (x3 = 4 → p_X12_report a ((-5)) (M96 a 14) M96 (fun M114 => p_X12_isGood a M114 (fun r118 M118 => ((r118 ≠ 0 → (xR (8 * x2)) ∧ (xR (33 + (8 * x2))) ∧ (xR ((33 + (8 * x2)) + 4)) ∧ (xR (((33 + (8 * x2)) + 4) + x3)) ∧ ((0 : Int) ≤ (((33 + (8 * x2)) + 4) + x3) ∧ ((((33 + (8 * x2)) + 4) + x3) : Int) < 2105) ∧ (∀ M142 : xMe, M142 = xw M118 (a + 3) (((33 + (8 * x2)) + 4) + x3).toNat r58 → (xR (x3 + 1)) ∧ p_X12_readFlow_27 F a Q K149 k x2 (x3 + 1) M142)) ∧ (r118 = 0 → Q M118)))))))))) ∧ (r79 ≠ 0 → p_X12_report a ((-4)) (M79 a 14) M79 (fun M92 => p_X12_isGood a M92 (fun r96 M96 => ((r96 = 0 → p_X12_isGood a M96 (fun r118 M118 => ((r118 ≠ 0 → (xR (8 * x2)) ∧ (xR (33 + (8 * x2))) ∧ (xR ((33 + (8 * x2)) + 4)) ∧ (xR (((33 + (8 * x2)) + 4) + x3)) ∧ ((0 : Int) ≤ (((33 + (8 * x2)) + 4) + x3) ∧ ((((33 + (8 * x2)) + 4) + x3) : Int) < 2105) ∧ (∀ M142 : xMe, M142 = xw M118 (a + 3) (((33 + (8 * x2)) + 4) + x3).toNat r58 → (xR (x3 + 1)) ∧ p_X12_readFlow_27 F a Q K149 k x2 (x3 + 1) M142)) ∧ (r118 = 0 → Q M118)))) ∧ (r96 ≠ 0 → ((x3 ≠ 4 → p_X12_isGood a M96 (fun r118 M118 => ((r118 ≠ 0 → (xR (8 * x2)) ∧ (xR (33 + (8 * x2))) ∧ (xR ((33 + (8 * x2)) + 4)) ∧ (xR (((33 + (8 * x2)) + 4) + x3)) ∧ ((0 : Int) ≤ (((33 + (8 * x2)) + 4) + x3) ∧ ((((33 + (8 * x2)) + 4) + x3) : Int) < 2105) ∧ (∀ M142 : xMe, M142 = xw M118 (a + 3) (((33 + (8 * x2)) + 4) + x3).toNat r58 → (xR (x3 + 1)) ∧ p_X12_readFlow_27 F a Q K149 k x2 (x3 + 1) M142)) ∧ (r118 = 0 → Q M118)))) ∧ (x3 = 4 → p_X12_report a ((-5)) (M96 a 14) M96 (fun M114 => p_X12_isGood a M114 (fun r118 M118 => ((r118 ≠ 0 → (xR (8 * x2)) ∧ (xR (33 + (8 * x2))) ∧ (xR ((33 + (8 * x2)) + 4)) ∧ (xR (((33 + (8 * x2)) + 4) + x3)) ∧ ((0 : Int) ≤ (((33 + (8 * x2)) + 4) + x3) ∧ ((((33 + (8 * x2)) + 4) + x3) : Int) < 2105) ∧ (∀ M142 : xMe, M142 = xw M118 (a + 3) (((33 + (8 * x2)) + 4) + x3).toNat r58 → (xR (x3 + 1)) ∧ p_X12_readFlow_27 F a Q K149 k x2 (x3 + 1) M142)) ∧ (r118 = 0 → Q M118)))))))))))))))))) ∧ (x3 ≠ 0 → p_X12_next F a M28 (fun r39 M39 => p_X12_isDigit r39 M39 (fun r42 M42 => ((r42 = 0 → K149 x2 x3 M42) ∧ (r42 ≠ 0 → ((0 : Int) ≤ 1 ∧ (1 : Int) < 2105) ∧ (xR ((M42 (a + 3) 1) - 1)) ∧ p_X12_number F a 0 ((M42 (a + 3) 1) - 1) M42 (fun r58 M58 => p_X12_isGood a M58 (fun r64 M64 => ((r64 = 0 → p_X12_isGood a M64 (fun r96 M96 => ((r96 = 0 → p_X12_isGood a M96 (fun r118 M118 => ((r118 ≠ 0 → (xR (8 * x2)) ∧ (xR (33 + (8 * x2))) ∧ (xR ((33 + (8 * x2)) + 4)) ∧ (xR (((33 + (8 * x2)) + 4) + x3)) ∧ ((0 : Int) ≤ (((33 + (8 * x2)) + 4) + x3) ∧ ((((33 + (8 * x2)) + 4) + x3) : Int) < 2105) ∧ (∀ M142 : xMe, M142 = xw M118 (a + 3) (((33 + (8 * x2)) + 4) + x3).toNat r58 → (xR (x3 + 1)) ∧ p_X12_readFlow_27 F a Q K149 k x2 (x3 + 1) M142)) ∧ (r118 = 0 → Q M118)))) ∧ (r96 ≠ 0 → ((x3 ≠ 4 → p_X12_isGood a M96 (fun r118 M118 => ((r118 ≠ 0 → (xR (8 * x2)) ∧ (xR (33 + (8 * x2))) ∧ (xR ((33 + (8 * x2)) + 4)) ∧ (xR (((33 + (8 * x2)) + 4) + x3)) ∧ ((0 : Int) ≤ (((33 + (8 * x2)) + 4) + x3) ∧ ((((33 + (8 * x2)) + 4) + x3) : Int) < 2105) ∧ (∀ M142 : xMe, M142 = xw M118 (a + 3) (((33 + (8 * x2)) + 4) + x3).toNat r58 → (xR (x3 + 1)) ∧ p_X12_readFlow_27 F a Q K149 k x2 (x3 + 1) M142)) ∧ (r118 = 0 → Q M118)))) ∧ (x3 = 4 → p_X12_report a ((-5)) (M96 a 14) M96 (fun M114 => p_X12_isGood a M114 (fun r118 M118 => ((r118 ≠ 0 → (xR (8 * x2)) ∧ (xR (33 + (8 * x2))) ∧ (xR ((33 + (8 * x2)) + 4)) ∧ (xR (((33 + (8 * x2)) + 4) + x3)) ∧ ((0 : Int) ≤ (((33 + (8 * x2)) + 4) + x3) ∧ ((((33 + (8 * x2)) + 4) + x3) : Int) < 2105) ∧ (∀ M142 : xMe, M142 = xw M118 (a + 3) (((33 + (8 * x2)) + 4) + x3).toNat r58 → (xR (x3 + 1)) ∧ p_X12_readFlow_27 F a Q K149 k x2 (x3 + 1) M142)) ∧ (r118 = 0 → Q M118)))))))))) ∧ (r64 ≠ 0 → p_X12_isOnWay F a (a + 3) 2105 x2 x3 r58 M64 (fun r79 M79 => ((r79 = 0 → p_X12_isGood a M79 (fun r96 M96 => ((r96 = 0 → p_X12_isGood a M96 (fun r118 M118 => ((r118 ≠ 0 → (xR (8 * x2)) ∧ (xR (33 + (8 * x2))) ∧ (xR ((33 + (8 * x2)) + 4)) ∧ (xR (((33 + (8 * x2)) + 4) + x3)) ∧ ((0 : Int) ≤ (((33 + (8 * x2)) + 4) + x3) ∧ ((((33 + (8 * x2)) + 4) + x3) : Int) < 2105) ∧ (∀ M142 : xMe, M142 = xw M118 (a + 3) (((33 + (8 * x2)) + 4) + x3).toNat r58 → (xR (x3 + 1)) ∧ p_X12_readFlow_27 F a Q K149 k x2 (x3 + 1) M142)) ∧ (r118 = 0 → Q M118)))) ∧ (r96 ≠ 0 → ((x3 ≠ 4 → p_X12_isGood a M96 (fun r118 M118 => ((r118 ≠ 0 → (xR (8 * x2)) ∧ (xR (33 + (8 * x2))) ∧ (xR ((33 + (8 * x2)) + 4)) ∧ (xR (((33 + (8 * x2)) + 4) + x3)) ∧ ((0 : Int) ≤ (((33 + (8 * x2)) + 4) + x3) ∧ ((((33 + (8 * x2)) + 4) + x3) : Int) < 2105) ∧ (∀ M142 : xMe, M142 = xw M118 (a + 3) (((33 + (8 * x2)) + 4) + x3).toNat r58 → (xR (x3 + 1)) ∧ p_X12_readFlow_27 F a Q K149 k x2 (x3 + 1) M142)) ∧ (r118 = 0 → Q M118)))) ∧ (x3 = 4 → p_X12_report a ((-5)) (M96 a 14) M96 (fun M114 => p_X12_isGood a M114 (fun r118 M118 => ((r118 ≠ 0 → (xR (8 * x2)) ∧ (xR (33 + (8 * x2))) ∧ (xR ((33 + (8 * x2)) + 4)) ∧ (xR (((33 + (8 * x2)) + 4) + x3)) ∧ ((0 : Int) ≤ (((33 + (8 * x2)) + 4) + x3) ∧ ((((33 + (8 * x2)) + 4) + x3) : Int) < 2105) ∧ (∀ M142 : xMe, M142 = xw M118 (a + 3) (((33 + (8 * x2)) + 4) + x3).toNat r58 → (xR (x3 + 1)) ∧ p_X12_readFlow_27 F a Q K149 k x2 (x3 + 1) M142)) ∧ (r118 = 0 → Q M118)))))))))) ∧ (r79 ≠ 0 → p_X12_report a ((-4)) (M79 a 14) M79 (fun M92 => p_X12_isGood a M92 (fun r96 M96 => ((r96 = 0 → p_X12_isGood a M96 (fun r118 M118 => ((r118 ≠ 0 → (xR (8 * x2)) ∧ (xR (33 + (8 * x2))) ∧ (xR ((33 + (8 * x2)) + 4)) ∧ (xR (((33 + (8 * x2)) + 4) + x3)) ∧ ((0 : Int) ≤ (((33 + (8 * x2)) + 4) + x3) ∧ ((((33 + (8 * x2)) + 4) + x3) : Int) < 2105) ∧ (∀ M142 : xMe, M142 = xw M118 (a + 3) (((33 + (8 * x2)) + 4) + x3).toNat r58 → (xR (x3 + 1)) ∧ p_X12_readFlow_27 F a Q K149 k x2 (x3 + 1) M142)) ∧ (r118 = 0 → Q M118)))) ∧ (r96 ≠ 0 → ((x3 ≠ 4 → p_X12_isGood a M96 (fun r118 M118 => ((r118 ≠ 0 → (xR (8 * x2)) ∧ (xR (33 + (8 * x2))) ∧ (xR ((33 + (8 * x2)) + 4)) ∧ (xR (((33 + (8 * x2)) + 4) + x3)) ∧ ((0 : Int) ≤ (((33 + (8 * x2)) + 4) + x3) ∧ ((((33 + (8 * x2)) + 4) + x3) : Int) < 2105) ∧ (∀ M142 : xMe, M142 = xw M118 (a + 3) (((33 + (8 * x2)) + 4) + x3).toNat r58 → (xR (x3 + 1)) ∧ p_X12_readFlow_27 F a Q K149 k x2 (x3 + 1) M142)) ∧ (r118 = 0 → Q M118)))) ∧ (x3 = 4 → p_X12_report a ((-5)) (M96 a 14) M96 (fun M114 => p_X12_isGood a M114 (fun r118 M118 => ((r118 ≠ 0 → (xR (8 * x2)) ∧ (xR (33 + (8 * x2))) ∧ (xR ((33 + (8 * x2)) + 4)) ∧ (xR (((33 + (8 * x2)) + 4) + x3)) ∧ ((0 : Int) ≤ (((33 + (8 * x2)) + 4) + x3) ∧ ((((33 + (8 * x2)) + 4) + x3) : Int) < 2105) ∧ (∀ M142 : xMe, M142 = xw M118 (a + 3) (((33 + (8 * x2)) + 4) + x3).toNat r58 → (xR (x3 + 1)) ∧ p_X12_readFlow_27 F a Q K149 k x2 (x3 + 1) M142)) ∧ (r118 = 0 → Q M118))))))))))))))))))))))))))
def p_X12_readFlow (F : Nat) (a : Nat) (x1 : Int) (M : xMe) (Q : xMe → Prop) : Prop :=
  ((0 : Int) ≤ 2 ∧ (2 : Int) < 2105) ∧ (((M (a + 3) 2) ≠ 6 → ((0 : Int) ≤ 2 ∧ (2 : Int) < 2105) ∧ (∀ z24 : Int, z24 = M (a + 3) 2 → p_X12_readFlow_27 F a Q (fun y2 y3 M => p_X12_isGood a M (fun r150 M150 => ((r150 ≠ 0 → (xR (8 * y2)) ∧ (xR (33 + (8 * y2))) ∧ (xR ((33 + (8 * y2)) + 0)) ∧ ((0 : Int) ≤ ((33 + (8 * y2)) + 0) ∧ (((33 + (8 * y2)) + 0) : Int) < 2105) ∧ (∀ M171 : xMe, M171 = xw M150 (a + 3) ((33 + (8 * y2)) + 0).toNat y3 → p_X12_takeWord F a 8 M171 (fun r175 M175 => ((r175 = 0 → ((0 : Int) ≤ 2 ∧ (2 : Int) < 2105) ∧ (xR ((M175 (a + 3) 2) + 1)) ∧ ((0 : Int) ≤ 2 ∧ (2 : Int) < 2105) ∧ (∀ M211 : xMe, M211 = xw M175 (a + 3) 2 ((M175 (a + 3) 2) + 1) → Q M211)) ∧ (r175 ≠ 0 → (xR (8 * y2)) ∧ (xR (33 + (8 * y2))) ∧ (xR ((33 + (8 * y2)) + 1)) ∧ p_X12_number F a 0 99 M175 (fun r198 M198 => ((0 : Int) ≤ ((33 + (8 * y2)) + 1) ∧ (((33 + (8 * y2)) + 1) : Int) < 2105) ∧ (∀ M201 : xMe, M201 = xw M198 (a + 3) ((33 + (8 * y2)) + 1).toNat r198 → ((0 : Int) ≤ 2 ∧ (2 : Int) < 2105) ∧ (xR ((M201 (a + 3) 2) + 1)) ∧ ((0 : Int) ≤ 2 ∧ (2 : Int) < 2105) ∧ (∀ M211 : xMe, M211 = xw M201 (a + 3) 2 ((M201 (a + 3) 2) + 1) → Q M211)))))))) ∧ (r150 = 0 → Q M150)))) F z24 0 M)) ∧ ((M (a + 3) 2) = 6 → p_X12_report a ((-5)) x1 M (fun M15 => ((0 : Int) ≤ 2 ∧ (2 : Int) < 2105) ∧ (∀ z24 : Int, z24 = M15 (a + 3) 2 → p_X12_readFlow_27 F a Q (fun y2 y3 M => p_X12_isGood a M (fun r150 M150 => ((r150 ≠ 0 → (xR (8 * y2)) ∧ (xR (33 + (8 * y2))) ∧ (xR ((33 + (8 * y2)) + 0)) ∧ ((0 : Int) ≤ ((33 + (8 * y2)) + 0) ∧ (((33 + (8 * y2)) + 0) : Int) < 2105) ∧ (∀ M171 : xMe, M171 = xw M150 (a + 3) ((33 + (8 * y2)) + 0).toNat y3 → p_X12_takeWord F a 8 M171 (fun r175 M175 => ((r175 = 0 → ((0 : Int) ≤ 2 ∧ (2 : Int) < 2105) ∧ (xR ((M175 (a + 3) 2) + 1)) ∧ ((0 : Int) ≤ 2 ∧ (2 : Int) < 2105) ∧ (∀ M211 : xMe, M211 = xw M175 (a + 3) 2 ((M175 (a + 3) 2) + 1) → Q M211)) ∧ (r175 ≠ 0 → (xR (8 * y2)) ∧ (xR (33 + (8 * y2))) ∧ (xR ((33 + (8 * y2)) + 1)) ∧ p_X12_number F a 0 99 M175 (fun r198 M198 => ((0 : Int) ≤ ((33 + (8 * y2)) + 1) ∧ (((33 + (8 * y2)) + 1) : Int) < 2105) ∧ (∀ M201 : xMe, M201 = xw M198 (a + 3) ((33 + (8 * y2)) + 1).toNat r198 → ((0 : Int) ≤ 2 ∧ (2 : Int) < 2105) ∧ (xR ((M201 (a + 3) 2) + 1)) ∧ ((0 : Int) ≤ 2 ∧ (2 : Int) < 2105) ∧ (∀ M211 : xMe, M211 = xw M201 (a + 3) 2 ((M201 (a + 3) 2) + 1) → Q M211)))))))) ∧ (r150 = 0 → Q M150)))) F z24 0 M15))))
set_option maxHeartbeats 4000000 in
set_option maxRecDepth 100000 in
theorem c_X12_readFlow {G : xGx} {t : xTh} {M : xMe} {F : Nat} {a : Nat} {x1 : Int} {Q : xMe → Prop} (hL : oX12 t a) (hM : xMR M) (hx1 : xR x1) (hp : p_X12_readFlow F a x1 M Q) : xCt G yX12_readFlow cX12_readFlow 5 none 9 0 0 [vr a, vi x1] t M (fun v t' M' => v = none ∧ xMR M' ∧ t' = t ∧ Q M') (fun _ _ _ => False) := by
  refine xCt_of (L0 := [vr a, vi x1, vU, vU, vU]) (by decide +kernel) (Nat.le_of_ble_eq_true rfl) rfl ?_
  intro X hX hB
  unfold p_X12_readFlow at hp
  refine xJ_aload_n hX dX12_readFlow_0 rfl ?_
  refine xJ_getR (b := (a + 3)) hX dX12_readFlow_1 fd_X12_20 rfl (oX12_k hL) (oX12_r9 hL) ?_
  refine xJ_iconst hX dX12_readFlow_4 ?_
  obtain ⟨h5, hp⟩ := hp
  refine xJ_iald hX dX12_readFlow_5 (oX12_k9 hL) h5.1 (xnlt (oX12_n9 hL) h5.2) ?_
  refine xJ_bipush hX dX12_readFlow_6 rfl ?_
  refine xJ_icmp_ne hX dX12_readFlow_8 (tgt := 18) (by decide) (hM _ _) ⟨by decide, by decide⟩ (fun c8 => ?_) (fun c8 => ?_)
  · replace hp := hp.1 c8
    refine xJ_aload_n hX dX12_readFlow_18 rfl ?_
    refine xJ_getR (b := (a + 3)) hX dX12_readFlow_19 fd_X12_20 rfl (oX12_k hL) (oX12_r9 hL) ?_
    refine xJ_iconst hX dX12_readFlow_22 ?_
    obtain ⟨h23, hp⟩ := hp
    refine xJ_iald hX dX12_readFlow_23 (oX12_k9 hL) h23.1 (xnlt (oX12_n9 hL) h23.2) ?_
    refine xJ_istore_n hX dX12_readFlow_24 (Nat.le_of_ble_eq_true rfl) rfl ?_
    dsimp only [List.set]
    replace hp := hp _ rfl
    refine xJ_iconst hX dX12_readFlow_25 ?_
    refine xJ_istore_n hX dX12_readFlow_26 (Nat.le_of_ble_eq_true rfl) rfl ?_
    dsimp only [List.set]
    refine xJ_fg 1 ?_
    dsimp only [List.set]
    have lp27 : ∀ (K149 : Int → Int → xMe → Prop) (hK149 : ∀ (y2 : Int) (y3 : Int) (M : xMe) (hM : xMR M) (hy2 : xR y2) (hy3 : xR y3) (hp : K149 y2 y3 M), xJ X 0 0 t M 149 [vr a, vU, vi y2, vi y3, vU] []) (k : Nat) (x2 : Int) (x3 : Int) (M : xMe) (hM : xMR M) (hx2 : xR x2) (hx3 : xR x3) (hp : p_X12_readFlow_27 F a Q K149 k x2 x3 M), xJ X 0 0 t M 27 [vr a, vU, vi x2, vi x3, vU] [] := by
      intro K149 hK149 k
      induction k with
      | zero => intro x2 x3 M hM hx2 hx3 hp; exact hp.elim
      | succ k ih =>
        intro x2 x3 M hM hx2 hx3 hp
        unfold p_X12_readFlow_27 at hp
        refine xJ_aload_n hX dX12_readFlow_27 rfl ?_
        refine xJ_callV (As := []) hX hB dX12_readFlow_28 lk_X12_68 im_X12_isGood se_X12_isGood rfl (by decide) (oX12_k hL) (c_X12_isGood hL hM hp) (by decide) rfl rfl rfl (Nat.le_of_ble_eq_true rfl) (by decide) (by decide) (fun v t9 M28 hv => ?_) (fun _ _ _ q => q.elim)
        obtain ⟨r28, rfl, h28, hM28, ht9, hp⟩ := hv
        replace ht9 := ht9.symm
        subst ht9
        dsimp only [Option.toList, List.cons_append, List.nil_append]
        refine xJ_if_eq hX dX12_readFlow_31 (tgt := 149) (by decide) h28 (fun c31 => ?_) (fun c31 => ?_)
        · replace hp := hp.1 c31
          exact hK149 _ _ _ hM28 hx2 hx3 hp
        · replace hp := hp.2 c31
          refine xJ_iload_n hX dX12_readFlow_34 rfl ?_
          refine xJ_if_eq hX dX12_readFlow_35 (tgt := 48) (by decide) hx3 (fun c35 => ?_) (fun c35 => ?_)
          · replace hp := hp.1 c35
            refine xJ_aload_n hX dX12_readFlow_48 rfl ?_
            refine xJ_iconst hX dX12_readFlow_49 ?_
            refine xJ_aload_n hX dX12_readFlow_50 rfl ?_
            refine xJ_getR (b := (a + 3)) hX dX12_readFlow_51 fd_X12_20 rfl (oX12_k hL) (oX12_r9 hL) ?_
            refine xJ_iconst hX dX12_readFlow_54 ?_
            obtain ⟨h55, hp⟩ := hp
            refine xJ_iald hX dX12_readFlow_55 (oX12_k9 hL) h55.1 (xnlt (oX12_n9 hL) h55.2) ?_
            refine xJ_iconst hX dX12_readFlow_56 ?_
            refine xJ_isub hX dX12_readFlow_57 ?_
            obtain ⟨h57, hp⟩ := hp
            refine xJ_callV (As := [_, _]) hX hB dX12_readFlow_58 lk_X12_123 im_X12_number se_X12_number rfl (by decide) (oX12_k hL) (c_X12_number hL hM28 ⟨by decide, by decide⟩ h57 hp) (by decide) rfl rfl rfl (Nat.le_of_ble_eq_true rfl) (by decide) (by decide) (fun v t9 M58 hv => ?_) (fun _ _ _ q => q.elim)
            obtain ⟨r58, rfl, h58, hM58, ht9, hp⟩ := hv
            replace ht9 := ht9.symm
            subst ht9
            dsimp only [Option.toList, List.cons_append, List.nil_append]
            refine xJ_istore hX dX12_readFlow_61 (Nat.le_of_ble_eq_true rfl) rfl ?_
            dsimp only [List.set]
            refine xJ_aload_n hX dX12_readFlow_63 rfl ?_
            refine xJ_callV (As := []) hX hB dX12_readFlow_64 lk_X12_68 im_X12_isGood se_X12_isGood rfl (by decide) (oX12_k hL) (c_X12_isGood hL hM58 hp) (by decide) rfl rfl rfl (Nat.le_of_ble_eq_true rfl) (by decide) (by decide) (fun v t9 M64 hv => ?_) (fun _ _ _ q => q.elim)
            obtain ⟨r64, rfl, h64, hM64, ht9, hp⟩ := hv
            replace ht9 := ht9.symm
            subst ht9
            dsimp only [Option.toList, List.cons_append, List.nil_append]
            refine xJ_if_eq hX dX12_readFlow_67 (tgt := 95) (by decide) h64 (fun c67 => ?_) (fun c67 => ?_)
            · replace hp := hp.1 c67
              refine xJ_aload_n hX dX12_readFlow_95 rfl ?_
              refine xJ_callV (As := []) hX hB dX12_readFlow_96 lk_X12_68 im_X12_isGood se_X12_isGood rfl (by decide) (oX12_k hL) (c_X12_isGood hL hM64 hp) (by decide) rfl rfl rfl (Nat.le_of_ble_eq_true rfl) (by decide) (by decide) (fun v t9 M96 hv => ?_) (fun _ _ _ q => q.elim)
              obtain ⟨r96, rfl, h96, hM96, ht9, hp⟩ := hv
              replace ht9 := ht9.symm
              subst ht9
              dsimp only [Option.toList, List.cons_append, List.nil_append]
              refine xJ_if_eq hX dX12_readFlow_99 (tgt := 117) (by decide) h96 (fun c99 => ?_) (fun c99 => ?_)
              · replace hp := hp.1 c99
                refine xJ_aload_n hX dX12_readFlow_117 rfl ?_
                refine xJ_callV (As := []) hX hB dX12_readFlow_118 lk_X12_68 im_X12_isGood se_X12_isGood rfl (by decide) (oX12_k hL) (c_X12_isGood hL hM96 hp) (by decide) rfl rfl rfl (Nat.le_of_ble_eq_true rfl) (by decide) (by decide) (fun v t9 M118 hv => ?_) (fun _ _ _ q => q.elim)
                obtain ⟨r118, rfl, h118, hM118, ht9, hp⟩ := hv
                replace ht9 := ht9.symm
                subst ht9
                dsimp only [Option.toList, List.cons_append, List.nil_append]
                refine xJ_if_ne hX dX12_readFlow_121 (tgt := 125) (by decide) h118 (fun c121 => ?_) (fun c121 => ?_)
                · replace hp := hp.1 c121
                  refine xJ_aload_n hX dX12_readFlow_125 rfl ?_
                  refine xJ_getR (b := (a + 3)) hX dX12_readFlow_126 fd_X12_20 rfl (oX12_k hL) (oX12_r9 hL) ?_
                  refine xJ_bipush hX dX12_readFlow_129 rfl ?_
                  refine xJ_bipush hX dX12_readFlow_131 rfl ?_
                  refine xJ_iload_n hX dX12_readFlow_133 rfl ?_
                  refine xJ_imul hX dX12_readFlow_134 ?_
                  obtain ⟨h134, hp⟩ := hp
                  refine xJ_iadd hX dX12_readFlow_135 ?_
                  obtain ⟨h135, hp⟩ := hp
                  refine xJ_iconst hX dX12_readFlow_136 ?_
                  refine xJ_iadd hX dX12_readFlow_137 ?_
                  obtain ⟨h137, hp⟩ := hp
                  refine xJ_iload_n hX dX12_readFlow_138 rfl ?_
                  refine xJ_iadd hX dX12_readFlow_139 ?_
                  obtain ⟨h139, hp⟩ := hp
                  refine xJ_iload hX dX12_readFlow_140 rfl ?_
                  obtain ⟨h142, hp⟩ := hp
                  refine xJ_iastM hX dX12_readFlow_142 (oX12_k9 hL) h142.1 (xnlt (oX12_n9 hL) h142.2) hM118 h58 (fun M142 e142 hM142 => ?_)
                  replace hp := hp M142 e142
                  refine xJ_iinc hX dX12_readFlow_143 rfl rfl ?_
                  dsimp only [List.set]
                  obtain ⟨h143, hp⟩ := hp
                  refine xJ_goto hX dX12_readFlow_146 (tgt := 27) (by decide) ?_
                  refine xJ_fg 4 ?_
                  dsimp only [List.set]
                  exact ih _ _ _ hM142 hx2 h143 hp
                · replace hp := hp.2 c121
                  refine xJ_vret hX hB dX12_readFlow_124 (by decide) (by decide) ⟨rfl, hM118, rfl, hp⟩
              · replace hp := hp.2 c99
                refine xJ_iload_n hX dX12_readFlow_102 rfl ?_
                refine xJ_iconst hX dX12_readFlow_103 ?_
                refine xJ_icmp_ne hX dX12_readFlow_104 (tgt := 117) (by decide) hx3 ⟨by decide, by decide⟩ (fun c104 => ?_) (fun c104 => ?_)
                · replace hp := hp.1 c104
                  refine xJ_aload_n hX dX12_readFlow_117 rfl ?_
                  refine xJ_callV (As := []) hX hB dX12_readFlow_118 lk_X12_68 im_X12_isGood se_X12_isGood rfl (by decide) (oX12_k hL) (c_X12_isGood hL hM96 hp) (by decide) rfl rfl rfl (Nat.le_of_ble_eq_true rfl) (by decide) (by decide) (fun v t9 M118 hv => ?_) (fun _ _ _ q => q.elim)
                  obtain ⟨r118, rfl, h118, hM118, ht9, hp⟩ := hv
                  replace ht9 := ht9.symm
                  subst ht9
                  dsimp only [Option.toList, List.cons_append, List.nil_append]
                  refine xJ_if_ne hX dX12_readFlow_121 (tgt := 125) (by decide) h118 (fun c121 => ?_) (fun c121 => ?_)
                  · replace hp := hp.1 c121
                    refine xJ_aload_n hX dX12_readFlow_125 rfl ?_
                    refine xJ_getR (b := (a + 3)) hX dX12_readFlow_126 fd_X12_20 rfl (oX12_k hL) (oX12_r9 hL) ?_
                    refine xJ_bipush hX dX12_readFlow_129 rfl ?_
                    refine xJ_bipush hX dX12_readFlow_131 rfl ?_
                    refine xJ_iload_n hX dX12_readFlow_133 rfl ?_
                    refine xJ_imul hX dX12_readFlow_134 ?_
                    obtain ⟨h134, hp⟩ := hp
                    refine xJ_iadd hX dX12_readFlow_135 ?_
                    obtain ⟨h135, hp⟩ := hp
                    refine xJ_iconst hX dX12_readFlow_136 ?_
                    refine xJ_iadd hX dX12_readFlow_137 ?_
                    obtain ⟨h137, hp⟩ := hp
                    refine xJ_iload_n hX dX12_readFlow_138 rfl ?_
                    refine xJ_iadd hX dX12_readFlow_139 ?_
                    obtain ⟨h139, hp⟩ := hp
                    refine xJ_iload hX dX12_readFlow_140 rfl ?_
                    obtain ⟨h142, hp⟩ := hp
                    refine xJ_iastM hX dX12_readFlow_142 (oX12_k9 hL) h142.1 (xnlt (oX12_n9 hL) h142.2) hM118 h58 (fun M142 e142 hM142 => ?_)
                    replace hp := hp M142 e142
                    refine xJ_iinc hX dX12_readFlow_143 rfl rfl ?_
                    dsimp only [List.set]
                    obtain ⟨h143, hp⟩ := hp
                    refine xJ_goto hX dX12_readFlow_146 (tgt := 27) (by decide) ?_
                    refine xJ_fg 4 ?_
                    dsimp only [List.set]
                    exact ih _ _ _ hM142 hx2 h143 hp
                  · replace hp := hp.2 c121
                    refine xJ_vret hX hB dX12_readFlow_124 (by decide) (by decide) ⟨rfl, hM118, rfl, hp⟩
                · replace hp := hp.2 c104
                  refine xJ_aload_n hX dX12_readFlow_107 rfl ?_
                  refine xJ_bipush hX dX12_readFlow_108 rfl ?_
                  refine xJ_aload_n hX dX12_readFlow_110 rfl ?_
                  refine xJ_getI hX dX12_readFlow_111 fd_X12_93 rfl (oX12_k hL) ?_
                  refine xJ_callV (As := [_, _]) hX hB dX12_readFlow_114 lk_X12_85 im_X12_report se_X12_report rfl (by decide) (oX12_k hL) (c_X12_report hL hM96 ⟨by decide, by decide⟩ (hM96 _ _) hp) (by decide) rfl rfl rfl (Nat.le_of_ble_eq_true rfl) (by decide) (by decide) (fun v t9 M114 hv => ?_) (fun _ _ _ q => q.elim)
                  obtain ⟨rfl, hM114, ht9, hp⟩ := hv
                  replace ht9 := ht9.symm
                  subst ht9
                  dsimp only [Option.toList, List.cons_append, List.nil_append]
                  refine xJ_aload_n hX dX12_readFlow_117 rfl ?_
                  refine xJ_callV (As := []) hX hB dX12_readFlow_118 lk_X12_68 im_X12_isGood se_X12_isGood rfl (by decide) (oX12_k hL) (c_X12_isGood hL hM114 hp) (by decide) rfl rfl rfl (Nat.le_of_ble_eq_true rfl) (by decide) (by decide) (fun v t9 M118 hv => ?_) (fun _ _ _ q => q.elim)
                  obtain ⟨r118, rfl, h118, hM118, ht9, hp⟩ := hv
                  replace ht9 := ht9.symm
                  subst ht9
                  dsimp only [Option.toList, List.cons_append, List.nil_append]
                  refine xJ_if_ne hX dX12_readFlow_121 (tgt := 125) (by decide) h118 (fun c121 => ?_) (fun c121 => ?_)
                  · replace hp := hp.1 c121
                    refine xJ_aload_n hX dX12_readFlow_125 rfl ?_
                    refine xJ_getR (b := (a + 3)) hX dX12_readFlow_126 fd_X12_20 rfl (oX12_k hL) (oX12_r9 hL) ?_
                    refine xJ_bipush hX dX12_readFlow_129 rfl ?_
                    refine xJ_bipush hX dX12_readFlow_131 rfl ?_
                    refine xJ_iload_n hX dX12_readFlow_133 rfl ?_
                    refine xJ_imul hX dX12_readFlow_134 ?_
                    obtain ⟨h134, hp⟩ := hp
                    refine xJ_iadd hX dX12_readFlow_135 ?_
                    obtain ⟨h135, hp⟩ := hp
                    refine xJ_iconst hX dX12_readFlow_136 ?_
                    refine xJ_iadd hX dX12_readFlow_137 ?_
                    obtain ⟨h137, hp⟩ := hp
                    refine xJ_iload_n hX dX12_readFlow_138 rfl ?_
                    refine xJ_iadd hX dX12_readFlow_139 ?_
                    obtain ⟨h139, hp⟩ := hp
                    refine xJ_iload hX dX12_readFlow_140 rfl ?_
                    obtain ⟨h142, hp⟩ := hp
                    refine xJ_iastM hX dX12_readFlow_142 (oX12_k9 hL) h142.1 (xnlt (oX12_n9 hL) h142.2) hM118 h58 (fun M142 e142 hM142 => ?_)
                    replace hp := hp M142 e142
                    refine xJ_iinc hX dX12_readFlow_143 rfl rfl ?_
                    dsimp only [List.set]
                    obtain ⟨h143, hp⟩ := hp
                    refine xJ_goto hX dX12_readFlow_146 (tgt := 27) (by decide) ?_
                    refine xJ_fg 4 ?_
                    dsimp only [List.set]
                    exact ih _ _ _ hM142 hx2 h143 hp
                  · replace hp := hp.2 c121
                    refine xJ_vret hX hB dX12_readFlow_124 (by decide) (by decide) ⟨rfl, hM118, rfl, hp⟩
            · replace hp := hp.2 c67
              refine xJ_aload_n hX dX12_readFlow_70 rfl ?_
              refine xJ_aload_n hX dX12_readFlow_71 rfl ?_
              refine xJ_getR (b := (a + 3)) hX dX12_readFlow_72 fd_X12_20 rfl (oX12_k hL) (oX12_r9 hL) ?_
              refine xJ_iload_n hX dX12_readFlow_75 rfl ?_
              refine xJ_iload_n hX dX12_readFlow_76 rfl ?_
              refine xJ_iload hX dX12_readFlow_77 rfl ?_
              refine xJ_callV (As := [_, _, _, _]) hX hB dX12_readFlow_79 lk_X12_138 im_X12_isOnWay se_X12_isOnWay rfl (by decide) (oX12_k hL) (c_X12_isOnWay hL (oX12_k9 hL) (oX12_n9 hL) ⟨by decide, by decide⟩ hM64 hx2 hx3 h58 hp) (by decide) rfl rfl rfl (Nat.le_of_ble_eq_true rfl) (by decide) (by decide) (fun v t9 M79 hv => ?_) (fun _ _ _ q => q.elim)
              obtain ⟨r79, rfl, h79, hM79, ht9, hp⟩ := hv
              replace ht9 := ht9.symm
              subst ht9
              dsimp only [Option.toList, List.cons_append, List.nil_append]
              refine xJ_if_eq hX dX12_readFlow_82 (tgt := 95) (by decide) h79 (fun c82 => ?_) (fun c82 => ?_)
              · replace hp := hp.1 c82
                refine xJ_aload_n hX dX12_readFlow_95 rfl ?_
                refine xJ_callV (As := []) hX hB dX12_readFlow_96 lk_X12_68 im_X12_isGood se_X12_isGood rfl (by decide) (oX12_k hL) (c_X12_isGood hL hM79 hp) (by decide) rfl rfl rfl (Nat.le_of_ble_eq_true rfl) (by decide) (by decide) (fun v t9 M96 hv => ?_) (fun _ _ _ q => q.elim)
                obtain ⟨r96, rfl, h96, hM96, ht9, hp⟩ := hv
                replace ht9 := ht9.symm
                subst ht9
                dsimp only [Option.toList, List.cons_append, List.nil_append]
                refine xJ_if_eq hX dX12_readFlow_99 (tgt := 117) (by decide) h96 (fun c99 => ?_) (fun c99 => ?_)
                · replace hp := hp.1 c99
                  refine xJ_aload_n hX dX12_readFlow_117 rfl ?_
                  refine xJ_callV (As := []) hX hB dX12_readFlow_118 lk_X12_68 im_X12_isGood se_X12_isGood rfl (by decide) (oX12_k hL) (c_X12_isGood hL hM96 hp) (by decide) rfl rfl rfl (Nat.le_of_ble_eq_true rfl) (by decide) (by decide) (fun v t9 M118 hv => ?_) (fun _ _ _ q => q.elim)
                  obtain ⟨r118, rfl, h118, hM118, ht9, hp⟩ := hv
                  replace ht9 := ht9.symm
                  subst ht9
                  dsimp only [Option.toList, List.cons_append, List.nil_append]
                  refine xJ_if_ne hX dX12_readFlow_121 (tgt := 125) (by decide) h118 (fun c121 => ?_) (fun c121 => ?_)
                  · replace hp := hp.1 c121
                    refine xJ_aload_n hX dX12_readFlow_125 rfl ?_
                    refine xJ_getR (b := (a + 3)) hX dX12_readFlow_126 fd_X12_20 rfl (oX12_k hL) (oX12_r9 hL) ?_
                    refine xJ_bipush hX dX12_readFlow_129 rfl ?_
                    refine xJ_bipush hX dX12_readFlow_131 rfl ?_
                    refine xJ_iload_n hX dX12_readFlow_133 rfl ?_
                    refine xJ_imul hX dX12_readFlow_134 ?_
                    obtain ⟨h134, hp⟩ := hp
                    refine xJ_iadd hX dX12_readFlow_135 ?_
                    obtain ⟨h135, hp⟩ := hp
                    refine xJ_iconst hX dX12_readFlow_136 ?_
                    refine xJ_iadd hX dX12_readFlow_137 ?_
                    obtain ⟨h137, hp⟩ := hp
                    refine xJ_iload_n hX dX12_readFlow_138 rfl ?_
                    refine xJ_iadd hX dX12_readFlow_139 ?_
                    obtain ⟨h139, hp⟩ := hp
                    refine xJ_iload hX dX12_readFlow_140 rfl ?_
                    obtain ⟨h142, hp⟩ := hp
                    refine xJ_iastM hX dX12_readFlow_142 (oX12_k9 hL) h142.1 (xnlt (oX12_n9 hL) h142.2) hM118 h58 (fun M142 e142 hM142 => ?_)
                    replace hp := hp M142 e142
                    refine xJ_iinc hX dX12_readFlow_143 rfl rfl ?_
                    dsimp only [List.set]
                    obtain ⟨h143, hp⟩ := hp
                    refine xJ_goto hX dX12_readFlow_146 (tgt := 27) (by decide) ?_
                    refine xJ_fg 4 ?_
                    dsimp only [List.set]
                    exact ih _ _ _ hM142 hx2 h143 hp
                  · replace hp := hp.2 c121
                    refine xJ_vret hX hB dX12_readFlow_124 (by decide) (by decide) ⟨rfl, hM118, rfl, hp⟩
                · replace hp := hp.2 c99
                  refine xJ_iload_n hX dX12_readFlow_102 rfl ?_
                  refine xJ_iconst hX dX12_readFlow_103 ?_
                  refine xJ_icmp_ne hX dX12_readFlow_104 (tgt := 117) (by decide) hx3 ⟨by decide, by decide⟩ (fun c104 => ?_) (fun c104 => ?_)
                  · replace hp := hp.1 c104
                    refine xJ_aload_n hX dX12_readFlow_117 rfl ?_
                    refine xJ_callV (As := []) hX hB dX12_readFlow_118 lk_X12_68 im_X12_isGood se_X12_isGood rfl (by decide) (oX12_k hL) (c_X12_isGood hL hM96 hp) (by decide) rfl rfl rfl (Nat.le_of_ble_eq_true rfl) (by decide) (by decide) (fun v t9 M118 hv => ?_) (fun _ _ _ q => q.elim)
                    obtain ⟨r118, rfl, h118, hM118, ht9, hp⟩ := hv
                    replace ht9 := ht9.symm
                    subst ht9
                    dsimp only [Option.toList, List.cons_append, List.nil_append]
                    refine xJ_if_ne hX dX12_readFlow_121 (tgt := 125) (by decide) h118 (fun c121 => ?_) (fun c121 => ?_)
                    · replace hp := hp.1 c121
                      refine xJ_aload_n hX dX12_readFlow_125 rfl ?_
                      refine xJ_getR (b := (a + 3)) hX dX12_readFlow_126 fd_X12_20 rfl (oX12_k hL) (oX12_r9 hL) ?_
                      refine xJ_bipush hX dX12_readFlow_129 rfl ?_
                      refine xJ_bipush hX dX12_readFlow_131 rfl ?_
                      refine xJ_iload_n hX dX12_readFlow_133 rfl ?_
                      refine xJ_imul hX dX12_readFlow_134 ?_
                      obtain ⟨h134, hp⟩ := hp
                      refine xJ_iadd hX dX12_readFlow_135 ?_
                      obtain ⟨h135, hp⟩ := hp
                      refine xJ_iconst hX dX12_readFlow_136 ?_
                      refine xJ_iadd hX dX12_readFlow_137 ?_
                      obtain ⟨h137, hp⟩ := hp
                      refine xJ_iload_n hX dX12_readFlow_138 rfl ?_
                      refine xJ_iadd hX dX12_readFlow_139 ?_
                      obtain ⟨h139, hp⟩ := hp
                      refine xJ_iload hX dX12_readFlow_140 rfl ?_
                      obtain ⟨h142, hp⟩ := hp
                      refine xJ_iastM hX dX12_readFlow_142 (oX12_k9 hL) h142.1 (xnlt (oX12_n9 hL) h142.2) hM118 h58 (fun M142 e142 hM142 => ?_)
                      replace hp := hp M142 e142
                      refine xJ_iinc hX dX12_readFlow_143 rfl rfl ?_
                      dsimp only [List.set]
                      obtain ⟨h143, hp⟩ := hp
                      refine xJ_goto hX dX12_readFlow_146 (tgt := 27) (by decide) ?_
                      refine xJ_fg 4 ?_
                      dsimp only [List.set]
                      exact ih _ _ _ hM142 hx2 h143 hp
                    · replace hp := hp.2 c121
                      refine xJ_vret hX hB dX12_readFlow_124 (by decide) (by decide) ⟨rfl, hM118, rfl, hp⟩
                  · replace hp := hp.2 c104
                    refine xJ_aload_n hX dX12_readFlow_107 rfl ?_
                    refine xJ_bipush hX dX12_readFlow_108 rfl ?_
                    refine xJ_aload_n hX dX12_readFlow_110 rfl ?_
                    refine xJ_getI hX dX12_readFlow_111 fd_X12_93 rfl (oX12_k hL) ?_
                    refine xJ_callV (As := [_, _]) hX hB dX12_readFlow_114 lk_X12_85 im_X12_report se_X12_report rfl (by decide) (oX12_k hL) (c_X12_report hL hM96 ⟨by decide, by decide⟩ (hM96 _ _) hp) (by decide) rfl rfl rfl (Nat.le_of_ble_eq_true rfl) (by decide) (by decide) (fun v t9 M114 hv => ?_) (fun _ _ _ q => q.elim)
                    obtain ⟨rfl, hM114, ht9, hp⟩ := hv
                    replace ht9 := ht9.symm
                    subst ht9
                    dsimp only [Option.toList, List.cons_append, List.nil_append]
                    refine xJ_aload_n hX dX12_readFlow_117 rfl ?_
                    refine xJ_callV (As := []) hX hB dX12_readFlow_118 lk_X12_68 im_X12_isGood se_X12_isGood rfl (by decide) (oX12_k hL) (c_X12_isGood hL hM114 hp) (by decide) rfl rfl rfl (Nat.le_of_ble_eq_true rfl) (by decide) (by decide) (fun v t9 M118 hv => ?_) (fun _ _ _ q => q.elim)
                    obtain ⟨r118, rfl, h118, hM118, ht9, hp⟩ := hv
                    replace ht9 := ht9.symm
                    subst ht9
                    dsimp only [Option.toList, List.cons_append, List.nil_append]
                    refine xJ_if_ne hX dX12_readFlow_121 (tgt := 125) (by decide) h118 (fun c121 => ?_) (fun c121 => ?_)
                    · replace hp := hp.1 c121
                      refine xJ_aload_n hX dX12_readFlow_125 rfl ?_
                      refine xJ_getR (b := (a + 3)) hX dX12_readFlow_126 fd_X12_20 rfl (oX12_k hL) (oX12_r9 hL) ?_
                      refine xJ_bipush hX dX12_readFlow_129 rfl ?_
                      refine xJ_bipush hX dX12_readFlow_131 rfl ?_
                      refine xJ_iload_n hX dX12_readFlow_133 rfl ?_
                      refine xJ_imul hX dX12_readFlow_134 ?_
                      obtain ⟨h134, hp⟩ := hp
                      refine xJ_iadd hX dX12_readFlow_135 ?_
                      obtain ⟨h135, hp⟩ := hp
                      refine xJ_iconst hX dX12_readFlow_136 ?_
                      refine xJ_iadd hX dX12_readFlow_137 ?_
                      obtain ⟨h137, hp⟩ := hp
                      refine xJ_iload_n hX dX12_readFlow_138 rfl ?_
                      refine xJ_iadd hX dX12_readFlow_139 ?_
                      obtain ⟨h139, hp⟩ := hp
                      refine xJ_iload hX dX12_readFlow_140 rfl ?_
                      obtain ⟨h142, hp⟩ := hp
                      refine xJ_iastM hX dX12_readFlow_142 (oX12_k9 hL) h142.1 (xnlt (oX12_n9 hL) h142.2) hM118 h58 (fun M142 e142 hM142 => ?_)
                      replace hp := hp M142 e142
                      refine xJ_iinc hX dX12_readFlow_143 rfl rfl ?_
                      dsimp only [List.set]
                      obtain ⟨h143, hp⟩ := hp
                      refine xJ_goto hX dX12_readFlow_146 (tgt := 27) (by decide) ?_
                      refine xJ_fg 4 ?_
                      dsimp only [List.set]
                      exact ih _ _ _ hM142 hx2 h143 hp
                    · replace hp := hp.2 c121
                      refine xJ_vret hX hB dX12_readFlow_124 (by decide) (by decide) ⟨rfl, hM118, rfl, hp⟩
              · replace hp := hp.2 c82
                refine xJ_aload_n hX dX12_readFlow_85 rfl ?_
                refine xJ_bipush hX dX12_readFlow_86 rfl ?_
                refine xJ_aload_n hX dX12_readFlow_88 rfl ?_
                refine xJ_getI hX dX12_readFlow_89 fd_X12_93 rfl (oX12_k hL) ?_
                refine xJ_callV (As := [_, _]) hX hB dX12_readFlow_92 lk_X12_85 im_X12_report se_X12_report rfl (by decide) (oX12_k hL) (c_X12_report hL hM79 ⟨by decide, by decide⟩ (hM79 _ _) hp) (by decide) rfl rfl rfl (Nat.le_of_ble_eq_true rfl) (by decide) (by decide) (fun v t9 M92 hv => ?_) (fun _ _ _ q => q.elim)
                obtain ⟨rfl, hM92, ht9, hp⟩ := hv
                replace ht9 := ht9.symm
                subst ht9
                dsimp only [Option.toList, List.cons_append, List.nil_append]
                refine xJ_aload_n hX dX12_readFlow_95 rfl ?_
                refine xJ_callV (As := []) hX hB dX12_readFlow_96 lk_X12_68 im_X12_isGood se_X12_isGood rfl (by decide) (oX12_k hL) (c_X12_isGood hL hM92 hp) (by decide) rfl rfl rfl (Nat.le_of_ble_eq_true rfl) (by decide) (by decide) (fun v t9 M96 hv => ?_) (fun _ _ _ q => q.elim)
                obtain ⟨r96, rfl, h96, hM96, ht9, hp⟩ := hv
                replace ht9 := ht9.symm
                subst ht9
                dsimp only [Option.toList, List.cons_append, List.nil_append]
                refine xJ_if_eq hX dX12_readFlow_99 (tgt := 117) (by decide) h96 (fun c99 => ?_) (fun c99 => ?_)
                · replace hp := hp.1 c99
                  refine xJ_aload_n hX dX12_readFlow_117 rfl ?_
                  refine xJ_callV (As := []) hX hB dX12_readFlow_118 lk_X12_68 im_X12_isGood se_X12_isGood rfl (by decide) (oX12_k hL) (c_X12_isGood hL hM96 hp) (by decide) rfl rfl rfl (Nat.le_of_ble_eq_true rfl) (by decide) (by decide) (fun v t9 M118 hv => ?_) (fun _ _ _ q => q.elim)
                  obtain ⟨r118, rfl, h118, hM118, ht9, hp⟩ := hv
                  replace ht9 := ht9.symm
                  subst ht9
                  dsimp only [Option.toList, List.cons_append, List.nil_append]
                  refine xJ_if_ne hX dX12_readFlow_121 (tgt := 125) (by decide) h118 (fun c121 => ?_) (fun c121 => ?_)
                  · replace hp := hp.1 c121
                    refine xJ_aload_n hX dX12_readFlow_125 rfl ?_
                    refine xJ_getR (b := (a + 3)) hX dX12_readFlow_126 fd_X12_20 rfl (oX12_k hL) (oX12_r9 hL) ?_
                    refine xJ_bipush hX dX12_readFlow_129 rfl ?_
                    refine xJ_bipush hX dX12_readFlow_131 rfl ?_
                    refine xJ_iload_n hX dX12_readFlow_133 rfl ?_
                    refine xJ_imul hX dX12_readFlow_134 ?_
                    obtain ⟨h134, hp⟩ := hp
                    refine xJ_iadd hX dX12_readFlow_135 ?_
                    obtain ⟨h135, hp⟩ := hp
                    refine xJ_iconst hX dX12_readFlow_136 ?_
                    refine xJ_iadd hX dX12_readFlow_137 ?_
                    obtain ⟨h137, hp⟩ := hp
                    refine xJ_iload_n hX dX12_readFlow_138 rfl ?_
                    refine xJ_iadd hX dX12_readFlow_139 ?_
                    obtain ⟨h139, hp⟩ := hp
                    refine xJ_iload hX dX12_readFlow_140 rfl ?_
                    obtain ⟨h142, hp⟩ := hp
                    refine xJ_iastM hX dX12_readFlow_142 (oX12_k9 hL) h142.1 (xnlt (oX12_n9 hL) h142.2) hM118 h58 (fun M142 e142 hM142 => ?_)
                    replace hp := hp M142 e142
                    refine xJ_iinc hX dX12_readFlow_143 rfl rfl ?_
                    dsimp only [List.set]
                    obtain ⟨h143, hp⟩ := hp
                    refine xJ_goto hX dX12_readFlow_146 (tgt := 27) (by decide) ?_
                    refine xJ_fg 4 ?_
                    dsimp only [List.set]
                    exact ih _ _ _ hM142 hx2 h143 hp
                  · replace hp := hp.2 c121
                    refine xJ_vret hX hB dX12_readFlow_124 (by decide) (by decide) ⟨rfl, hM118, rfl, hp⟩
                · replace hp := hp.2 c99
                  refine xJ_iload_n hX dX12_readFlow_102 rfl ?_
                  refine xJ_iconst hX dX12_readFlow_103 ?_
                  refine xJ_icmp_ne hX dX12_readFlow_104 (tgt := 117) (by decide) hx3 ⟨by decide, by decide⟩ (fun c104 => ?_) (fun c104 => ?_)
                  · replace hp := hp.1 c104
                    refine xJ_aload_n hX dX12_readFlow_117 rfl ?_
                    refine xJ_callV (As := []) hX hB dX12_readFlow_118 lk_X12_68 im_X12_isGood se_X12_isGood rfl (by decide) (oX12_k hL) (c_X12_isGood hL hM96 hp) (by decide) rfl rfl rfl (Nat.le_of_ble_eq_true rfl) (by decide) (by decide) (fun v t9 M118 hv => ?_) (fun _ _ _ q => q.elim)
                    obtain ⟨r118, rfl, h118, hM118, ht9, hp⟩ := hv
                    replace ht9 := ht9.symm
                    subst ht9
                    dsimp only [Option.toList, List.cons_append, List.nil_append]
                    refine xJ_if_ne hX dX12_readFlow_121 (tgt := 125) (by decide) h118 (fun c121 => ?_) (fun c121 => ?_)
                    · replace hp := hp.1 c121
                      refine xJ_aload_n hX dX12_readFlow_125 rfl ?_
                      refine xJ_getR (b := (a + 3)) hX dX12_readFlow_126 fd_X12_20 rfl (oX12_k hL) (oX12_r9 hL) ?_
                      refine xJ_bipush hX dX12_readFlow_129 rfl ?_
                      refine xJ_bipush hX dX12_readFlow_131 rfl ?_
                      refine xJ_iload_n hX dX12_readFlow_133 rfl ?_
                      refine xJ_imul hX dX12_readFlow_134 ?_
                      obtain ⟨h134, hp⟩ := hp
                      refine xJ_iadd hX dX12_readFlow_135 ?_
                      obtain ⟨h135, hp⟩ := hp
                      refine xJ_iconst hX dX12_readFlow_136 ?_
                      refine xJ_iadd hX dX12_readFlow_137 ?_
                      obtain ⟨h137, hp⟩ := hp
                      refine xJ_iload_n hX dX12_readFlow_138 rfl ?_
                      refine xJ_iadd hX dX12_readFlow_139 ?_
                      obtain ⟨h139, hp⟩ := hp
                      refine xJ_iload hX dX12_readFlow_140 rfl ?_
                      obtain ⟨h142, hp⟩ := hp
                      refine xJ_iastM hX dX12_readFlow_142 (oX12_k9 hL) h142.1 (xnlt (oX12_n9 hL) h142.2) hM118 h58 (fun M142 e142 hM142 => ?_)
                      replace hp := hp M142 e142
                      refine xJ_iinc hX dX12_readFlow_143 rfl rfl ?_
                      dsimp only [List.set]
                      obtain ⟨h143, hp⟩ := hp
                      refine xJ_goto hX dX12_readFlow_146 (tgt := 27) (by decide) ?_
                      refine xJ_fg 4 ?_
                      dsimp only [List.set]
                      exact ih _ _ _ hM142 hx2 h143 hp
                    · replace hp := hp.2 c121
                      refine xJ_vret hX hB dX12_readFlow_124 (by decide) (by decide) ⟨rfl, hM118, rfl, hp⟩
                  · replace hp := hp.2 c104
                    refine xJ_aload_n hX dX12_readFlow_107 rfl ?_
                    refine xJ_bipush hX dX12_readFlow_108 rfl ?_
                    refine xJ_aload_n hX dX12_readFlow_110 rfl ?_
                    refine xJ_getI hX dX12_readFlow_111 fd_X12_93 rfl (oX12_k hL) ?_
                    refine xJ_callV (As := [_, _]) hX hB dX12_readFlow_114 lk_X12_85 im_X12_report se_X12_report rfl (by decide) (oX12_k hL) (c_X12_report hL hM96 ⟨by decide, by decide⟩ (hM96 _ _) hp) (by decide) rfl rfl rfl (Nat.le_of_ble_eq_true rfl) (by decide) (by decide) (fun v t9 M114 hv => ?_) (fun _ _ _ q => q.elim)
                    obtain ⟨rfl, hM114, ht9, hp⟩ := hv
                    replace ht9 := ht9.symm
                    subst ht9
                    dsimp only [Option.toList, List.cons_append, List.nil_append]
                    refine xJ_aload_n hX dX12_readFlow_117 rfl ?_
                    refine xJ_callV (As := []) hX hB dX12_readFlow_118 lk_X12_68 im_X12_isGood se_X12_isGood rfl (by decide) (oX12_k hL) (c_X12_isGood hL hM114 hp) (by decide) rfl rfl rfl (Nat.le_of_ble_eq_true rfl) (by decide) (by decide) (fun v t9 M118 hv => ?_) (fun _ _ _ q => q.elim)
                    obtain ⟨r118, rfl, h118, hM118, ht9, hp⟩ := hv
                    replace ht9 := ht9.symm
                    subst ht9
                    dsimp only [Option.toList, List.cons_append, List.nil_append]
                    refine xJ_if_ne hX dX12_readFlow_121 (tgt := 125) (by decide) h118 (fun c121 => ?_) (fun c121 => ?_)
                    · replace hp := hp.1 c121
                      refine xJ_aload_n hX dX12_readFlow_125 rfl ?_
                      refine xJ_getR (b := (a + 3)) hX dX12_readFlow_126 fd_X12_20 rfl (oX12_k hL) (oX12_r9 hL) ?_
                      refine xJ_bipush hX dX12_readFlow_129 rfl ?_
                      refine xJ_bipush hX dX12_readFlow_131 rfl ?_
                      refine xJ_iload_n hX dX12_readFlow_133 rfl ?_
                      refine xJ_imul hX dX12_readFlow_134 ?_
                      obtain ⟨h134, hp⟩ := hp
                      refine xJ_iadd hX dX12_readFlow_135 ?_
                      obtain ⟨h135, hp⟩ := hp
                      refine xJ_iconst hX dX12_readFlow_136 ?_
                      refine xJ_iadd hX dX12_readFlow_137 ?_
                      obtain ⟨h137, hp⟩ := hp
                      refine xJ_iload_n hX dX12_readFlow_138 rfl ?_
                      refine xJ_iadd hX dX12_readFlow_139 ?_
                      obtain ⟨h139, hp⟩ := hp
                      refine xJ_iload hX dX12_readFlow_140 rfl ?_
                      obtain ⟨h142, hp⟩ := hp
                      refine xJ_iastM hX dX12_readFlow_142 (oX12_k9 hL) h142.1 (xnlt (oX12_n9 hL) h142.2) hM118 h58 (fun M142 e142 hM142 => ?_)
                      replace hp := hp M142 e142
                      refine xJ_iinc hX dX12_readFlow_143 rfl rfl ?_
                      dsimp only [List.set]
                      obtain ⟨h143, hp⟩ := hp
                      refine xJ_goto hX dX12_readFlow_146 (tgt := 27) (by decide) ?_
                      refine xJ_fg 4 ?_
                      dsimp only [List.set]
                      exact ih _ _ _ hM142 hx2 h143 hp
                    · replace hp := hp.2 c121
                      refine xJ_vret hX hB dX12_readFlow_124 (by decide) (by decide) ⟨rfl, hM118, rfl, hp⟩
          · replace hp := hp.2 c35
            refine xJ_aload_n hX dX12_readFlow_38 rfl ?_
            refine xJ_callV (As := []) hX hB dX12_readFlow_39 lk_X12_72 im_X12_next se_X12_next rfl (by decide) (oX12_k hL) (c_X12_next hL hM28 hp) (by decide) rfl rfl rfl (Nat.le_of_ble_eq_true rfl) (by decide) (by decide) (fun v t9 M39 hv => ?_) (fun _ _ _ q => q.elim)
            obtain ⟨r39, rfl, h39, hM39, ht9, hp⟩ := hv
            replace ht9 := ht9.symm
            subst ht9
            dsimp only [Option.toList, List.cons_append, List.nil_append]
            refine xJ_callS (As := [_]) hX hB dX12_readFlow_42 lk_X12_89 sm_X12_isDigit (c_X12_isDigit  hM39 h39 hp) (by decide) rfl rfl rfl (Nat.le_of_ble_eq_true rfl) (by decide) (by decide) (fun v t9 M42 hv => ?_) (fun _ _ _ q => q.elim)
            obtain ⟨r42, rfl, h42, hM42, ht9, hp⟩ := hv
            replace ht9 := ht9.symm
            subst ht9
            dsimp only [Option.toList, List.cons_append, List.nil_append]
            refine xJ_if_eq hX dX12_readFlow_45 (tgt := 149) (by decide) h42 (fun c45 => ?_) (fun c45 => ?_)
            · replace hp := hp.1 c45
              exact hK149 _ _ _ hM42 hx2 hx3 hp
            · replace hp := hp.2 c45
              refine xJ_aload_n hX dX12_readFlow_48 rfl ?_
              refine xJ_iconst hX dX12_readFlow_49 ?_
              refine xJ_aload_n hX dX12_readFlow_50 rfl ?_
              refine xJ_getR (b := (a + 3)) hX dX12_readFlow_51 fd_X12_20 rfl (oX12_k hL) (oX12_r9 hL) ?_
              refine xJ_iconst hX dX12_readFlow_54 ?_
              obtain ⟨h55, hp⟩ := hp
              refine xJ_iald hX dX12_readFlow_55 (oX12_k9 hL) h55.1 (xnlt (oX12_n9 hL) h55.2) ?_
              refine xJ_iconst hX dX12_readFlow_56 ?_
              refine xJ_isub hX dX12_readFlow_57 ?_
              obtain ⟨h57, hp⟩ := hp
              refine xJ_callV (As := [_, _]) hX hB dX12_readFlow_58 lk_X12_123 im_X12_number se_X12_number rfl (by decide) (oX12_k hL) (c_X12_number hL hM42 ⟨by decide, by decide⟩ h57 hp) (by decide) rfl rfl rfl (Nat.le_of_ble_eq_true rfl) (by decide) (by decide) (fun v t9 M58 hv => ?_) (fun _ _ _ q => q.elim)
              obtain ⟨r58, rfl, h58, hM58, ht9, hp⟩ := hv
              replace ht9 := ht9.symm
              subst ht9
              dsimp only [Option.toList, List.cons_append, List.nil_append]
              refine xJ_istore hX dX12_readFlow_61 (Nat.le_of_ble_eq_true rfl) rfl ?_
              dsimp only [List.set]
              refine xJ_aload_n hX dX12_readFlow_63 rfl ?_
              refine xJ_callV (As := []) hX hB dX12_readFlow_64 lk_X12_68 im_X12_isGood se_X12_isGood rfl (by decide) (oX12_k hL) (c_X12_isGood hL hM58 hp) (by decide) rfl rfl rfl (Nat.le_of_ble_eq_true rfl) (by decide) (by decide) (fun v t9 M64 hv => ?_) (fun _ _ _ q => q.elim)
              obtain ⟨r64, rfl, h64, hM64, ht9, hp⟩ := hv
              replace ht9 := ht9.symm
              subst ht9
              dsimp only [Option.toList, List.cons_append, List.nil_append]
              refine xJ_if_eq hX dX12_readFlow_67 (tgt := 95) (by decide) h64 (fun c67 => ?_) (fun c67 => ?_)
              · replace hp := hp.1 c67
                refine xJ_aload_n hX dX12_readFlow_95 rfl ?_
                refine xJ_callV (As := []) hX hB dX12_readFlow_96 lk_X12_68 im_X12_isGood se_X12_isGood rfl (by decide) (oX12_k hL) (c_X12_isGood hL hM64 hp) (by decide) rfl rfl rfl (Nat.le_of_ble_eq_true rfl) (by decide) (by decide) (fun v t9 M96 hv => ?_) (fun _ _ _ q => q.elim)
                obtain ⟨r96, rfl, h96, hM96, ht9, hp⟩ := hv
                replace ht9 := ht9.symm
                subst ht9
                dsimp only [Option.toList, List.cons_append, List.nil_append]
                refine xJ_if_eq hX dX12_readFlow_99 (tgt := 117) (by decide) h96 (fun c99 => ?_) (fun c99 => ?_)
                · replace hp := hp.1 c99
                  refine xJ_aload_n hX dX12_readFlow_117 rfl ?_
                  refine xJ_callV (As := []) hX hB dX12_readFlow_118 lk_X12_68 im_X12_isGood se_X12_isGood rfl (by decide) (oX12_k hL) (c_X12_isGood hL hM96 hp) (by decide) rfl rfl rfl (Nat.le_of_ble_eq_true rfl) (by decide) (by decide) (fun v t9 M118 hv => ?_) (fun _ _ _ q => q.elim)
                  obtain ⟨r118, rfl, h118, hM118, ht9, hp⟩ := hv
                  replace ht9 := ht9.symm
                  subst ht9
                  dsimp only [Option.toList, List.cons_append, List.nil_append]
                  refine xJ_if_ne hX dX12_readFlow_121 (tgt := 125) (by decide) h118 (fun c121 => ?_) (fun c121 => ?_)
                  · replace hp := hp.1 c121
                    refine xJ_aload_n hX dX12_readFlow_125 rfl ?_
                    refine xJ_getR (b := (a + 3)) hX dX12_readFlow_126 fd_X12_20 rfl (oX12_k hL) (oX12_r9 hL) ?_
                    refine xJ_bipush hX dX12_readFlow_129 rfl ?_
                    refine xJ_bipush hX dX12_readFlow_131 rfl ?_
                    refine xJ_iload_n hX dX12_readFlow_133 rfl ?_
                    refine xJ_imul hX dX12_readFlow_134 ?_
                    obtain ⟨h134, hp⟩ := hp
                    refine xJ_iadd hX dX12_readFlow_135 ?_
                    obtain ⟨h135, hp⟩ := hp
                    refine xJ_iconst hX dX12_readFlow_136 ?_
                    refine xJ_iadd hX dX12_readFlow_137 ?_
                    obtain ⟨h137, hp⟩ := hp
                    refine xJ_iload_n hX dX12_readFlow_138 rfl ?_
                    refine xJ_iadd hX dX12_readFlow_139 ?_
                    obtain ⟨h139, hp⟩ := hp
                    refine xJ_iload hX dX12_readFlow_140 rfl ?_
                    obtain ⟨h142, hp⟩ := hp
                    refine xJ_iastM hX dX12_readFlow_142 (oX12_k9 hL) h142.1 (xnlt (oX12_n9 hL) h142.2) hM118 h58 (fun M142 e142 hM142 => ?_)
                    replace hp := hp M142 e142
                    refine xJ_iinc hX dX12_readFlow_143 rfl rfl ?_
                    dsimp only [List.set]
                    obtain ⟨h143, hp⟩ := hp
                    refine xJ_goto hX dX12_readFlow_146 (tgt := 27) (by decide) ?_
                    refine xJ_fg 4 ?_
                    dsimp only [List.set]
                    exact ih _ _ _ hM142 hx2 h143 hp
                  · replace hp := hp.2 c121
                    refine xJ_vret hX hB dX12_readFlow_124 (by decide) (by decide) ⟨rfl, hM118, rfl, hp⟩
                · replace hp := hp.2 c99
                  refine xJ_iload_n hX dX12_readFlow_102 rfl ?_
                  refine xJ_iconst hX dX12_readFlow_103 ?_
                  refine xJ_icmp_ne hX dX12_readFlow_104 (tgt := 117) (by decide) hx3 ⟨by decide, by decide⟩ (fun c104 => ?_) (fun c104 => ?_)
                  · replace hp := hp.1 c104
                    refine xJ_aload_n hX dX12_readFlow_117 rfl ?_
                    refine xJ_callV (As := []) hX hB dX12_readFlow_118 lk_X12_68 im_X12_isGood se_X12_isGood rfl (by decide) (oX12_k hL) (c_X12_isGood hL hM96 hp) (by decide) rfl rfl rfl (Nat.le_of_ble_eq_true rfl) (by decide) (by decide) (fun v t9 M118 hv => ?_) (fun _ _ _ q => q.elim)
                    obtain ⟨r118, rfl, h118, hM118, ht9, hp⟩ := hv
                    replace ht9 := ht9.symm
                    subst ht9
                    dsimp only [Option.toList, List.cons_append, List.nil_append]
                    refine xJ_if_ne hX dX12_readFlow_121 (tgt := 125) (by decide) h118 (fun c121 => ?_) (fun c121 => ?_)
                    · replace hp := hp.1 c121
                      refine xJ_aload_n hX dX12_readFlow_125 rfl ?_
                      refine xJ_getR (b := (a + 3)) hX dX12_readFlow_126 fd_X12_20 rfl (oX12_k hL) (oX12_r9 hL) ?_
                      refine xJ_bipush hX dX12_readFlow_129 rfl ?_
                      refine xJ_bipush hX dX12_readFlow_131 rfl ?_
                      refine xJ_iload_n hX dX12_readFlow_133 rfl ?_
                      refine xJ_imul hX dX12_readFlow_134 ?_
                      obtain ⟨h134, hp⟩ := hp
                      refine xJ_iadd hX dX12_readFlow_135 ?_
                      obtain ⟨h135, hp⟩ := hp
                      refine xJ_iconst hX dX12_readFlow_136 ?_
                      refine xJ_iadd hX dX12_readFlow_137 ?_
                      obtain ⟨h137, hp⟩ := hp
                      refine xJ_iload_n hX dX12_readFlow_138 rfl ?_
                      refine xJ_iadd hX dX12_readFlow_139 ?_
                      obtain ⟨h139, hp⟩ := hp
                      refine xJ_iload hX dX12_readFlow_140 rfl ?_
                      obtain ⟨h142, hp⟩ := hp
                      refine xJ_iastM hX dX12_readFlow_142 (oX12_k9 hL) h142.1 (xnlt (oX12_n9 hL) h142.2) hM118 h58 (fun M142 e142 hM142 => ?_)
                      replace hp := hp M142 e142
                      refine xJ_iinc hX dX12_readFlow_143 rfl rfl ?_
                      dsimp only [List.set]
                      obtain ⟨h143, hp⟩ := hp
                      refine xJ_goto hX dX12_readFlow_146 (tgt := 27) (by decide) ?_
                      refine xJ_fg 4 ?_
                      dsimp only [List.set]
                      exact ih _ _ _ hM142 hx2 h143 hp
                    · replace hp := hp.2 c121
                      refine xJ_vret hX hB dX12_readFlow_124 (by decide) (by decide) ⟨rfl, hM118, rfl, hp⟩
                  · replace hp := hp.2 c104
                    refine xJ_aload_n hX dX12_readFlow_107 rfl ?_
                    refine xJ_bipush hX dX12_readFlow_108 rfl ?_
                    refine xJ_aload_n hX dX12_readFlow_110 rfl ?_
                    refine xJ_getI hX dX12_readFlow_111 fd_X12_93 rfl (oX12_k hL) ?_
                    refine xJ_callV (As := [_, _]) hX hB dX12_readFlow_114 lk_X12_85 im_X12_report se_X12_report rfl (by decide) (oX12_k hL) (c_X12_report hL hM96 ⟨by decide, by decide⟩ (hM96 _ _) hp) (by decide) rfl rfl rfl (Nat.le_of_ble_eq_true rfl) (by decide) (by decide) (fun v t9 M114 hv => ?_) (fun _ _ _ q => q.elim)
                    obtain ⟨rfl, hM114, ht9, hp⟩ := hv
                    replace ht9 := ht9.symm
                    subst ht9
                    dsimp only [Option.toList, List.cons_append, List.nil_append]
                    refine xJ_aload_n hX dX12_readFlow_117 rfl ?_
                    refine xJ_callV (As := []) hX hB dX12_readFlow_118 lk_X12_68 im_X12_isGood se_X12_isGood rfl (by decide) (oX12_k hL) (c_X12_isGood hL hM114 hp) (by decide) rfl rfl rfl (Nat.le_of_ble_eq_true rfl) (by decide) (by decide) (fun v t9 M118 hv => ?_) (fun _ _ _ q => q.elim)
                    obtain ⟨r118, rfl, h118, hM118, ht9, hp⟩ := hv
                    replace ht9 := ht9.symm
                    subst ht9
                    dsimp only [Option.toList, List.cons_append, List.nil_append]
                    refine xJ_if_ne hX dX12_readFlow_121 (tgt := 125) (by decide) h118 (fun c121 => ?_) (fun c121 => ?_)
                    · replace hp := hp.1 c121
                      refine xJ_aload_n hX dX12_readFlow_125 rfl ?_
                      refine xJ_getR (b := (a + 3)) hX dX12_readFlow_126 fd_X12_20 rfl (oX12_k hL) (oX12_r9 hL) ?_
                      refine xJ_bipush hX dX12_readFlow_129 rfl ?_
                      refine xJ_bipush hX dX12_readFlow_131 rfl ?_
                      refine xJ_iload_n hX dX12_readFlow_133 rfl ?_
                      refine xJ_imul hX dX12_readFlow_134 ?_
                      obtain ⟨h134, hp⟩ := hp
                      refine xJ_iadd hX dX12_readFlow_135 ?_
                      obtain ⟨h135, hp⟩ := hp
                      refine xJ_iconst hX dX12_readFlow_136 ?_
                      refine xJ_iadd hX dX12_readFlow_137 ?_
                      obtain ⟨h137, hp⟩ := hp
                      refine xJ_iload_n hX dX12_readFlow_138 rfl ?_
                      refine xJ_iadd hX dX12_readFlow_139 ?_
                      obtain ⟨h139, hp⟩ := hp
                      refine xJ_iload hX dX12_readFlow_140 rfl ?_
                      obtain ⟨h142, hp⟩ := hp
                      refine xJ_iastM hX dX12_readFlow_142 (oX12_k9 hL) h142.1 (xnlt (oX12_n9 hL) h142.2) hM118 h58 (fun M142 e142 hM142 => ?_)
                      replace hp := hp M142 e142
                      refine xJ_iinc hX dX12_readFlow_143 rfl rfl ?_
                      dsimp only [List.set]
                      obtain ⟨h143, hp⟩ := hp
                      refine xJ_goto hX dX12_readFlow_146 (tgt := 27) (by decide) ?_
                      refine xJ_fg 4 ?_
                      dsimp only [List.set]
                      exact ih _ _ _ hM142 hx2 h143 hp
                    · replace hp := hp.2 c121
                      refine xJ_vret hX hB dX12_readFlow_124 (by decide) (by decide) ⟨rfl, hM118, rfl, hp⟩
              · replace hp := hp.2 c67
                refine xJ_aload_n hX dX12_readFlow_70 rfl ?_
                refine xJ_aload_n hX dX12_readFlow_71 rfl ?_
                refine xJ_getR (b := (a + 3)) hX dX12_readFlow_72 fd_X12_20 rfl (oX12_k hL) (oX12_r9 hL) ?_
                refine xJ_iload_n hX dX12_readFlow_75 rfl ?_
                refine xJ_iload_n hX dX12_readFlow_76 rfl ?_
                refine xJ_iload hX dX12_readFlow_77 rfl ?_
                refine xJ_callV (As := [_, _, _, _]) hX hB dX12_readFlow_79 lk_X12_138 im_X12_isOnWay se_X12_isOnWay rfl (by decide) (oX12_k hL) (c_X12_isOnWay hL (oX12_k9 hL) (oX12_n9 hL) ⟨by decide, by decide⟩ hM64 hx2 hx3 h58 hp) (by decide) rfl rfl rfl (Nat.le_of_ble_eq_true rfl) (by decide) (by decide) (fun v t9 M79 hv => ?_) (fun _ _ _ q => q.elim)
                obtain ⟨r79, rfl, h79, hM79, ht9, hp⟩ := hv
                replace ht9 := ht9.symm
                subst ht9
                dsimp only [Option.toList, List.cons_append, List.nil_append]
                refine xJ_if_eq hX dX12_readFlow_82 (tgt := 95) (by decide) h79 (fun c82 => ?_) (fun c82 => ?_)
                · replace hp := hp.1 c82
                  refine xJ_aload_n hX dX12_readFlow_95 rfl ?_
                  refine xJ_callV (As := []) hX hB dX12_readFlow_96 lk_X12_68 im_X12_isGood se_X12_isGood rfl (by decide) (oX12_k hL) (c_X12_isGood hL hM79 hp) (by decide) rfl rfl rfl (Nat.le_of_ble_eq_true rfl) (by decide) (by decide) (fun v t9 M96 hv => ?_) (fun _ _ _ q => q.elim)
                  obtain ⟨r96, rfl, h96, hM96, ht9, hp⟩ := hv
                  replace ht9 := ht9.symm
                  subst ht9
                  dsimp only [Option.toList, List.cons_append, List.nil_append]
                  refine xJ_if_eq hX dX12_readFlow_99 (tgt := 117) (by decide) h96 (fun c99 => ?_) (fun c99 => ?_)
                  · replace hp := hp.1 c99
                    refine xJ_aload_n hX dX12_readFlow_117 rfl ?_
                    refine xJ_callV (As := []) hX hB dX12_readFlow_118 lk_X12_68 im_X12_isGood se_X12_isGood rfl (by decide) (oX12_k hL) (c_X12_isGood hL hM96 hp) (by decide) rfl rfl rfl (Nat.le_of_ble_eq_true rfl) (by decide) (by decide) (fun v t9 M118 hv => ?_) (fun _ _ _ q => q.elim)
                    obtain ⟨r118, rfl, h118, hM118, ht9, hp⟩ := hv
                    replace ht9 := ht9.symm
                    subst ht9
                    dsimp only [Option.toList, List.cons_append, List.nil_append]
                    refine xJ_if_ne hX dX12_readFlow_121 (tgt := 125) (by decide) h118 (fun c121 => ?_) (fun c121 => ?_)
                    · replace hp := hp.1 c121
                      refine xJ_aload_n hX dX12_readFlow_125 rfl ?_
                      refine xJ_getR (b := (a + 3)) hX dX12_readFlow_126 fd_X12_20 rfl (oX12_k hL) (oX12_r9 hL) ?_
                      refine xJ_bipush hX dX12_readFlow_129 rfl ?_
                      refine xJ_bipush hX dX12_readFlow_131 rfl ?_
                      refine xJ_iload_n hX dX12_readFlow_133 rfl ?_
                      refine xJ_imul hX dX12_readFlow_134 ?_
                      obtain ⟨h134, hp⟩ := hp
                      refine xJ_iadd hX dX12_readFlow_135 ?_
                      obtain ⟨h135, hp⟩ := hp
                      refine xJ_iconst hX dX12_readFlow_136 ?_
                      refine xJ_iadd hX dX12_readFlow_137 ?_
                      obtain ⟨h137, hp⟩ := hp
                      refine xJ_iload_n hX dX12_readFlow_138 rfl ?_
                      refine xJ_iadd hX dX12_readFlow_139 ?_
                      obtain ⟨h139, hp⟩ := hp
                      refine xJ_iload hX dX12_readFlow_140 rfl ?_
                      obtain ⟨h142, hp⟩ := hp
                      refine xJ_iastM hX dX12_readFlow_142 (oX12_k9 hL) h142.1 (xnlt (oX12_n9 hL) h142.2) hM118 h58 (fun M142 e142 hM142 => ?_)
                      replace hp := hp M142 e142
                      refine xJ_iinc hX dX12_readFlow_143 rfl rfl ?_
                      dsimp only [List.set]
                      obtain ⟨h143, hp⟩ := hp
                      refine xJ_goto hX dX12_readFlow_146 (tgt := 27) (by decide) ?_
                      refine xJ_fg 4 ?_
                      dsimp only [List.set]
                      exact ih _ _ _ hM142 hx2 h143 hp
                    · replace hp := hp.2 c121
                      refine xJ_vret hX hB dX12_readFlow_124 (by decide) (by decide) ⟨rfl, hM118, rfl, hp⟩
                  · replace hp := hp.2 c99
                    refine xJ_iload_n hX dX12_readFlow_102 rfl ?_
                    refine xJ_iconst hX dX12_readFlow_103 ?_
                    refine xJ_icmp_ne hX dX12_readFlow_104 (tgt := 117) (by decide) hx3 ⟨by decide, by decide⟩ (fun c104 => ?_) (fun c104 => ?_)
                    · replace hp := hp.1 c104
                      refine xJ_aload_n hX dX12_readFlow_117 rfl ?_
                      refine xJ_callV (As := []) hX hB dX12_readFlow_118 lk_X12_68 im_X12_isGood se_X12_isGood rfl (by decide) (oX12_k hL) (c_X12_isGood hL hM96 hp) (by decide) rfl rfl rfl (Nat.le_of_ble_eq_true rfl) (by decide) (by decide) (fun v t9 M118 hv => ?_) (fun _ _ _ q => q.elim)
                      obtain ⟨r118, rfl, h118, hM118, ht9, hp⟩ := hv
                      replace ht9 := ht9.symm
                      subst ht9
                      dsimp only [Option.toList, List.cons_append, List.nil_append]
                      refine xJ_if_ne hX dX12_readFlow_121 (tgt := 125) (by decide) h118 (fun c121 => ?_) (fun c121 => ?_)
                      · replace hp := hp.1 c121
                        refine xJ_aload_n hX dX12_readFlow_125 rfl ?_
                        refine xJ_getR (b := (a + 3)) hX dX12_readFlow_126 fd_X12_20 rfl (oX12_k hL) (oX12_r9 hL) ?_
                        refine xJ_bipush hX dX12_readFlow_129 rfl ?_
                        refine xJ_bipush hX dX12_readFlow_131 rfl ?_
                        refine xJ_iload_n hX dX12_readFlow_133 rfl ?_
                        refine xJ_imul hX dX12_readFlow_134 ?_
                        obtain ⟨h134, hp⟩ := hp
                        refine xJ_iadd hX dX12_readFlow_135 ?_
                        obtain ⟨h135, hp⟩ := hp
                        refine xJ_iconst hX dX12_readFlow_136 ?_
                        refine xJ_iadd hX dX12_readFlow_137 ?_
                        obtain ⟨h137, hp⟩ := hp
                        refine xJ_iload_n hX dX12_readFlow_138 rfl ?_
                        refine xJ_iadd hX dX12_readFlow_139 ?_
                        obtain ⟨h139, hp⟩ := hp
                        refine xJ_iload hX dX12_readFlow_140 rfl ?_
                        obtain ⟨h142, hp⟩ := hp
                        refine xJ_iastM hX dX12_readFlow_142 (oX12_k9 hL) h142.1 (xnlt (oX12_n9 hL) h142.2) hM118 h58 (fun M142 e142 hM142 => ?_)
                        replace hp := hp M142 e142
                        refine xJ_iinc hX dX12_readFlow_143 rfl rfl ?_
                        dsimp only [List.set]
                        obtain ⟨h143, hp⟩ := hp
                        refine xJ_goto hX dX12_readFlow_146 (tgt := 27) (by decide) ?_
                        refine xJ_fg 4 ?_
                        dsimp only [List.set]
                        exact ih _ _ _ hM142 hx2 h143 hp
                      · replace hp := hp.2 c121
                        refine xJ_vret hX hB dX12_readFlow_124 (by decide) (by decide) ⟨rfl, hM118, rfl, hp⟩
                    · replace hp := hp.2 c104
                      refine xJ_aload_n hX dX12_readFlow_107 rfl ?_
                      refine xJ_bipush hX dX12_readFlow_108 rfl ?_
                      refine xJ_aload_n hX dX12_readFlow_110 rfl ?_
                      refine xJ_getI hX dX12_readFlow_111 fd_X12_93 rfl (oX12_k hL) ?_
                      refine xJ_callV (As := [_, _]) hX hB dX12_readFlow_114 lk_X12_85 im_X12_report se_X12_report rfl (by decide) (oX12_k hL) (c_X12_report hL hM96 ⟨by decide, by decide⟩ (hM96 _ _) hp) (by decide) rfl rfl rfl (Nat.le_of_ble_eq_true rfl) (by decide) (by decide) (fun v t9 M114 hv => ?_) (fun _ _ _ q => q.elim)
                      obtain ⟨rfl, hM114, ht9, hp⟩ := hv
                      replace ht9 := ht9.symm
                      subst ht9
                      dsimp only [Option.toList, List.cons_append, List.nil_append]
                      refine xJ_aload_n hX dX12_readFlow_117 rfl ?_
                      refine xJ_callV (As := []) hX hB dX12_readFlow_118 lk_X12_68 im_X12_isGood se_X12_isGood rfl (by decide) (oX12_k hL) (c_X12_isGood hL hM114 hp) (by decide) rfl rfl rfl (Nat.le_of_ble_eq_true rfl) (by decide) (by decide) (fun v t9 M118 hv => ?_) (fun _ _ _ q => q.elim)
                      obtain ⟨r118, rfl, h118, hM118, ht9, hp⟩ := hv
                      replace ht9 := ht9.symm
                      subst ht9
                      dsimp only [Option.toList, List.cons_append, List.nil_append]
                      refine xJ_if_ne hX dX12_readFlow_121 (tgt := 125) (by decide) h118 (fun c121 => ?_) (fun c121 => ?_)
                      · replace hp := hp.1 c121
                        refine xJ_aload_n hX dX12_readFlow_125 rfl ?_
                        refine xJ_getR (b := (a + 3)) hX dX12_readFlow_126 fd_X12_20 rfl (oX12_k hL) (oX12_r9 hL) ?_
                        refine xJ_bipush hX dX12_readFlow_129 rfl ?_
                        refine xJ_bipush hX dX12_readFlow_131 rfl ?_
                        refine xJ_iload_n hX dX12_readFlow_133 rfl ?_
                        refine xJ_imul hX dX12_readFlow_134 ?_
                        obtain ⟨h134, hp⟩ := hp
                        refine xJ_iadd hX dX12_readFlow_135 ?_
                        obtain ⟨h135, hp⟩ := hp
                        refine xJ_iconst hX dX12_readFlow_136 ?_
                        refine xJ_iadd hX dX12_readFlow_137 ?_
                        obtain ⟨h137, hp⟩ := hp
                        refine xJ_iload_n hX dX12_readFlow_138 rfl ?_
                        refine xJ_iadd hX dX12_readFlow_139 ?_
                        obtain ⟨h139, hp⟩ := hp
                        refine xJ_iload hX dX12_readFlow_140 rfl ?_
                        obtain ⟨h142, hp⟩ := hp
                        refine xJ_iastM hX dX12_readFlow_142 (oX12_k9 hL) h142.1 (xnlt (oX12_n9 hL) h142.2) hM118 h58 (fun M142 e142 hM142 => ?_)
                        replace hp := hp M142 e142
                        refine xJ_iinc hX dX12_readFlow_143 rfl rfl ?_
                        dsimp only [List.set]
                        obtain ⟨h143, hp⟩ := hp
                        refine xJ_goto hX dX12_readFlow_146 (tgt := 27) (by decide) ?_
                        refine xJ_fg 4 ?_
                        dsimp only [List.set]
                        exact ih _ _ _ hM142 hx2 h143 hp
                      · replace hp := hp.2 c121
                        refine xJ_vret hX hB dX12_readFlow_124 (by decide) (by decide) ⟨rfl, hM118, rfl, hp⟩
                · replace hp := hp.2 c82
                  refine xJ_aload_n hX dX12_readFlow_85 rfl ?_
                  refine xJ_bipush hX dX12_readFlow_86 rfl ?_
                  refine xJ_aload_n hX dX12_readFlow_88 rfl ?_
                  refine xJ_getI hX dX12_readFlow_89 fd_X12_93 rfl (oX12_k hL) ?_
                  refine xJ_callV (As := [_, _]) hX hB dX12_readFlow_92 lk_X12_85 im_X12_report se_X12_report rfl (by decide) (oX12_k hL) (c_X12_report hL hM79 ⟨by decide, by decide⟩ (hM79 _ _) hp) (by decide) rfl rfl rfl (Nat.le_of_ble_eq_true rfl) (by decide) (by decide) (fun v t9 M92 hv => ?_) (fun _ _ _ q => q.elim)
                  obtain ⟨rfl, hM92, ht9, hp⟩ := hv
                  replace ht9 := ht9.symm
                  subst ht9
                  dsimp only [Option.toList, List.cons_append, List.nil_append]
                  refine xJ_aload_n hX dX12_readFlow_95 rfl ?_
                  refine xJ_callV (As := []) hX hB dX12_readFlow_96 lk_X12_68 im_X12_isGood se_X12_isGood rfl (by decide) (oX12_k hL) (c_X12_isGood hL hM92 hp) (by decide) rfl rfl rfl (Nat.le_of_ble_eq_true rfl) (by decide) (by decide) (fun v t9 M96 hv => ?_) (fun _ _ _ q => q.elim)
                  obtain ⟨r96, rfl, h96, hM96, ht9, hp⟩ := hv
                  replace ht9 := ht9.symm
                  subst ht9
                  dsimp only [Option.toList, List.cons_append, List.nil_append]
                  refine xJ_if_eq hX dX12_readFlow_99 (tgt := 117) (by decide) h96 (fun c99 => ?_) (fun c99 => ?_)
                  · replace hp := hp.1 c99
                    refine xJ_aload_n hX dX12_readFlow_117 rfl ?_
                    refine xJ_callV (As := []) hX hB dX12_readFlow_118 lk_X12_68 im_X12_isGood se_X12_isGood rfl (by decide) (oX12_k hL) (c_X12_isGood hL hM96 hp) (by decide) rfl rfl rfl (Nat.le_of_ble_eq_true rfl) (by decide) (by decide) (fun v t9 M118 hv => ?_) (fun _ _ _ q => q.elim)
                    obtain ⟨r118, rfl, h118, hM118, ht9, hp⟩ := hv
                    replace ht9 := ht9.symm
                    subst ht9
                    dsimp only [Option.toList, List.cons_append, List.nil_append]
                    refine xJ_if_ne hX dX12_readFlow_121 (tgt := 125) (by decide) h118 (fun c121 => ?_) (fun c121 => ?_)
                    · replace hp := hp.1 c121
                      refine xJ_aload_n hX dX12_readFlow_125 rfl ?_
                      refine xJ_getR (b := (a + 3)) hX dX12_readFlow_126 fd_X12_20 rfl (oX12_k hL) (oX12_r9 hL) ?_
                      refine xJ_bipush hX dX12_readFlow_129 rfl ?_
                      refine xJ_bipush hX dX12_readFlow_131 rfl ?_
                      refine xJ_iload_n hX dX12_readFlow_133 rfl ?_
                      refine xJ_imul hX dX12_readFlow_134 ?_
                      obtain ⟨h134, hp⟩ := hp
                      refine xJ_iadd hX dX12_readFlow_135 ?_
                      obtain ⟨h135, hp⟩ := hp
                      refine xJ_iconst hX dX12_readFlow_136 ?_
                      refine xJ_iadd hX dX12_readFlow_137 ?_
                      obtain ⟨h137, hp⟩ := hp
                      refine xJ_iload_n hX dX12_readFlow_138 rfl ?_
                      refine xJ_iadd hX dX12_readFlow_139 ?_
                      obtain ⟨h139, hp⟩ := hp
                      refine xJ_iload hX dX12_readFlow_140 rfl ?_
                      obtain ⟨h142, hp⟩ := hp
                      refine xJ_iastM hX dX12_readFlow_142 (oX12_k9 hL) h142.1 (xnlt (oX12_n9 hL) h142.2) hM118 h58 (fun M142 e142 hM142 => ?_)
                      replace hp := hp M142 e142
                      refine xJ_iinc hX dX12_readFlow_143 rfl rfl ?_
                      dsimp only [List.set]
                      obtain ⟨h143, hp⟩ := hp
                      refine xJ_goto hX dX12_readFlow_146 (tgt := 27) (by decide) ?_
                      refine xJ_fg 4 ?_
                      dsimp only [List.set]
                      exact ih _ _ _ hM142 hx2 h143 hp
                    · replace hp := hp.2 c121
                      refine xJ_vret hX hB dX12_readFlow_124 (by decide) (by decide) ⟨rfl, hM118, rfl, hp⟩
                  · replace hp := hp.2 c99
                    refine xJ_iload_n hX dX12_readFlow_102 rfl ?_
                    refine xJ_iconst hX dX12_readFlow_103 ?_
                    refine xJ_icmp_ne hX dX12_readFlow_104 (tgt := 117) (by decide) hx3 ⟨by decide, by decide⟩ (fun c104 => ?_) (fun c104 => ?_)
                    · replace hp := hp.1 c104
                      refine xJ_aload_n hX dX12_readFlow_117 rfl ?_
                      refine xJ_callV (As := []) hX hB dX12_readFlow_118 lk_X12_68 im_X12_isGood se_X12_isGood rfl (by decide) (oX12_k hL) (c_X12_isGood hL hM96 hp) (by decide) rfl rfl rfl (Nat.le_of_ble_eq_true rfl) (by decide) (by decide) (fun v t9 M118 hv => ?_) (fun _ _ _ q => q.elim)
                      obtain ⟨r118, rfl, h118, hM118, ht9, hp⟩ := hv
                      replace ht9 := ht9.symm
                      subst ht9
                      dsimp only [Option.toList, List.cons_append, List.nil_append]
                      refine xJ_if_ne hX dX12_readFlow_121 (tgt := 125) (by decide) h118 (fun c121 => ?_) (fun c121 => ?_)
                      · replace hp := hp.1 c121
                        refine xJ_aload_n hX dX12_readFlow_125 rfl ?_
                        refine xJ_getR (b := (a + 3)) hX dX12_readFlow_126 fd_X12_20 rfl (oX12_k hL) (oX12_r9 hL) ?_
                        refine xJ_bipush hX dX12_readFlow_129 rfl ?_
                        refine xJ_bipush hX dX12_readFlow_131 rfl ?_
                        refine xJ_iload_n hX dX12_readFlow_133 rfl ?_
                        refine xJ_imul hX dX12_readFlow_134 ?_
                        obtain ⟨h134, hp⟩ := hp
                        refine xJ_iadd hX dX12_readFlow_135 ?_
                        obtain ⟨h135, hp⟩ := hp
                        refine xJ_iconst hX dX12_readFlow_136 ?_
                        refine xJ_iadd hX dX12_readFlow_137 ?_
                        obtain ⟨h137, hp⟩ := hp
                        refine xJ_iload_n hX dX12_readFlow_138 rfl ?_
                        refine xJ_iadd hX dX12_readFlow_139 ?_
                        obtain ⟨h139, hp⟩ := hp
                        refine xJ_iload hX dX12_readFlow_140 rfl ?_
                        obtain ⟨h142, hp⟩ := hp
                        refine xJ_iastM hX dX12_readFlow_142 (oX12_k9 hL) h142.1 (xnlt (oX12_n9 hL) h142.2) hM118 h58 (fun M142 e142 hM142 => ?_)
                        replace hp := hp M142 e142
                        refine xJ_iinc hX dX12_readFlow_143 rfl rfl ?_
                        dsimp only [List.set]
                        obtain ⟨h143, hp⟩ := hp
                        refine xJ_goto hX dX12_readFlow_146 (tgt := 27) (by decide) ?_
                        refine xJ_fg 4 ?_
                        dsimp only [List.set]
                        exact ih _ _ _ hM142 hx2 h143 hp
                      · replace hp := hp.2 c121
                        refine xJ_vret hX hB dX12_readFlow_124 (by decide) (by decide) ⟨rfl, hM118, rfl, hp⟩
                    · replace hp := hp.2 c104
                      refine xJ_aload_n hX dX12_readFlow_107 rfl ?_
                      refine xJ_bipush hX dX12_readFlow_108 rfl ?_
                      refine xJ_aload_n hX dX12_readFlow_110 rfl ?_
                      refine xJ_getI hX dX12_readFlow_111 fd_X12_93 rfl (oX12_k hL) ?_
                      refine xJ_callV (As := [_, _]) hX hB dX12_readFlow_114 lk_X12_85 im_X12_report se_X12_report rfl (by decide) (oX12_k hL) (c_X12_report hL hM96 ⟨by decide, by decide⟩ (hM96 _ _) hp) (by decide) rfl rfl rfl (Nat.le_of_ble_eq_true rfl) (by decide) (by decide) (fun v t9 M114 hv => ?_) (fun _ _ _ q => q.elim)
                      obtain ⟨rfl, hM114, ht9, hp⟩ := hv
                      replace ht9 := ht9.symm
                      subst ht9
                      dsimp only [Option.toList, List.cons_append, List.nil_append]
                      refine xJ_aload_n hX dX12_readFlow_117 rfl ?_
                      refine xJ_callV (As := []) hX hB dX12_readFlow_118 lk_X12_68 im_X12_isGood se_X12_isGood rfl (by decide) (oX12_k hL) (c_X12_isGood hL hM114 hp) (by decide) rfl rfl rfl (Nat.le_of_ble_eq_true rfl) (by decide) (by decide) (fun v t9 M118 hv => ?_) (fun _ _ _ q => q.elim)
                      obtain ⟨r118, rfl, h118, hM118, ht9, hp⟩ := hv
                      replace ht9 := ht9.symm
                      subst ht9
                      dsimp only [Option.toList, List.cons_append, List.nil_append]
                      refine xJ_if_ne hX dX12_readFlow_121 (tgt := 125) (by decide) h118 (fun c121 => ?_) (fun c121 => ?_)
                      · replace hp := hp.1 c121
                        refine xJ_aload_n hX dX12_readFlow_125 rfl ?_
                        refine xJ_getR (b := (a + 3)) hX dX12_readFlow_126 fd_X12_20 rfl (oX12_k hL) (oX12_r9 hL) ?_
                        refine xJ_bipush hX dX12_readFlow_129 rfl ?_
                        refine xJ_bipush hX dX12_readFlow_131 rfl ?_
                        refine xJ_iload_n hX dX12_readFlow_133 rfl ?_
                        refine xJ_imul hX dX12_readFlow_134 ?_
                        obtain ⟨h134, hp⟩ := hp
                        refine xJ_iadd hX dX12_readFlow_135 ?_
                        obtain ⟨h135, hp⟩ := hp
                        refine xJ_iconst hX dX12_readFlow_136 ?_
                        refine xJ_iadd hX dX12_readFlow_137 ?_
                        obtain ⟨h137, hp⟩ := hp
                        refine xJ_iload_n hX dX12_readFlow_138 rfl ?_
                        refine xJ_iadd hX dX12_readFlow_139 ?_
                        obtain ⟨h139, hp⟩ := hp
                        refine xJ_iload hX dX12_readFlow_140 rfl ?_
                        obtain ⟨h142, hp⟩ := hp
                        refine xJ_iastM hX dX12_readFlow_142 (oX12_k9 hL) h142.1 (xnlt (oX12_n9 hL) h142.2) hM118 h58 (fun M142 e142 hM142 => ?_)
                        replace hp := hp M142 e142
                        refine xJ_iinc hX dX12_readFlow_143 rfl rfl ?_
                        dsimp only [List.set]
                        obtain ⟨h143, hp⟩ := hp
                        refine xJ_goto hX dX12_readFlow_146 (tgt := 27) (by decide) ?_
                        refine xJ_fg 4 ?_
                        dsimp only [List.set]
                        exact ih _ _ _ hM142 hx2 h143 hp
                      · replace hp := hp.2 c121
                        refine xJ_vret hX hB dX12_readFlow_124 (by decide) (by decide) ⟨rfl, hM118, rfl, hp⟩
    refine lp27 _ (fun y2 y3 M hM hy2 hy3 hp => ?_) F _ _ _ hM (hM _ _) ⟨by decide, by decide⟩ hp
    · refine xJ_aload_n hX dX12_readFlow_149 rfl ?_
      refine xJ_callV (As := []) hX hB dX12_readFlow_150 lk_X12_68 im_X12_isGood se_X12_isGood rfl (by decide) (oX12_k hL) (c_X12_isGood hL hM hp) (by decide) rfl rfl rfl (Nat.le_of_ble_eq_true rfl) (by decide) (by decide) (fun v t9 M150 hv => ?_) (fun _ _ _ q => q.elim)
      obtain ⟨r150, rfl, h150, hM150, ht9, hp⟩ := hv
      replace ht9 := ht9.symm
      subst ht9
      dsimp only [Option.toList, List.cons_append, List.nil_append]
      refine xJ_if_ne hX dX12_readFlow_153 (tgt := 157) (by decide) h150 (fun c153 => ?_) (fun c153 => ?_)
      · replace hp := hp.1 c153
        refine xJ_aload_n hX dX12_readFlow_157 rfl ?_
        refine xJ_getR (b := (a + 3)) hX dX12_readFlow_158 fd_X12_20 rfl (oX12_k hL) (oX12_r9 hL) ?_
        refine xJ_bipush hX dX12_readFlow_161 rfl ?_
        refine xJ_bipush hX dX12_readFlow_163 rfl ?_
        refine xJ_iload_n hX dX12_readFlow_165 rfl ?_
        refine xJ_imul hX dX12_readFlow_166 ?_
        obtain ⟨h166, hp⟩ := hp
        refine xJ_iadd hX dX12_readFlow_167 ?_
        obtain ⟨h167, hp⟩ := hp
        refine xJ_iconst hX dX12_readFlow_168 ?_
        refine xJ_iadd hX dX12_readFlow_169 ?_
        obtain ⟨h169, hp⟩ := hp
        refine xJ_iload_n hX dX12_readFlow_170 rfl ?_
        obtain ⟨h171, hp⟩ := hp
        refine xJ_iastM hX dX12_readFlow_171 (oX12_k9 hL) h171.1 (xnlt (oX12_n9 hL) h171.2) hM150 hy3 (fun M171 e171 hM171 => ?_)
        replace hp := hp M171 e171
        refine xJ_aload_n hX dX12_readFlow_172 rfl ?_
        refine xJ_ldcS 8 hX dX12_readFlow_173 (by decide +kernel) ?_
        refine xJ_callV (As := [_]) hX hB dX12_readFlow_175 lk_X12_113 im_X12_takeWord se_X12_takeWord rfl (by decide) (oX12_k hL) (c_X12_takeWord hL (by decide) hM171 hp) (by decide) rfl rfl rfl (Nat.le_of_ble_eq_true rfl) (by decide) (by decide) (fun v t9 M175 hv => ?_) (fun _ _ _ q => q.elim)
        obtain ⟨r175, rfl, h175, hM175, ht9, hp⟩ := hv
        replace ht9 := ht9.symm
        subst ht9
        dsimp only [Option.toList, List.cons_append, List.nil_append]
        refine xJ_if_eq hX dX12_readFlow_178 (tgt := 202) (by decide) h175 (fun c178 => ?_) (fun c178 => ?_)
        · replace hp := hp.1 c178
          refine xJ_aload_n hX dX12_readFlow_202 rfl ?_
          refine xJ_getR (b := (a + 3)) hX dX12_readFlow_203 fd_X12_20 rfl (oX12_k hL) (oX12_r9 hL) ?_
          refine xJ_iconst hX dX12_readFlow_206 ?_
          refine xJ_dup2 hX dX12_readFlow_207 rfl rfl ?_
          obtain ⟨h208, hp⟩ := hp
          refine xJ_iald hX dX12_readFlow_208 (oX12_k9 hL) h208.1 (xnlt (oX12_n9 hL) h208.2) ?_
          refine xJ_iconst hX dX12_readFlow_209 ?_
          refine xJ_iadd hX dX12_readFlow_210 ?_
          obtain ⟨h210, hp⟩ := hp
          obtain ⟨h211, hp⟩ := hp
          refine xJ_iastM hX dX12_readFlow_211 (oX12_k9 hL) h211.1 (xnlt (oX12_n9 hL) h211.2) hM175 h210 (fun M211 e211 hM211 => ?_)
          replace hp := hp M211 e211
          refine xJ_vret hX hB dX12_readFlow_212 (by decide) (by decide) ⟨rfl, hM211, rfl, hp⟩
        · replace hp := hp.2 c178
          refine xJ_aload_n hX dX12_readFlow_181 rfl ?_
          refine xJ_getR (b := (a + 3)) hX dX12_readFlow_182 fd_X12_20 rfl (oX12_k hL) (oX12_r9 hL) ?_
          refine xJ_bipush hX dX12_readFlow_185 rfl ?_
          refine xJ_bipush hX dX12_readFlow_187 rfl ?_
          refine xJ_iload_n hX dX12_readFlow_189 rfl ?_
          refine xJ_imul hX dX12_readFlow_190 ?_
          obtain ⟨h190, hp⟩ := hp
          refine xJ_iadd hX dX12_readFlow_191 ?_
          obtain ⟨h191, hp⟩ := hp
          refine xJ_iconst hX dX12_readFlow_192 ?_
          refine xJ_iadd hX dX12_readFlow_193 ?_
          obtain ⟨h193, hp⟩ := hp
          refine xJ_aload_n hX dX12_readFlow_194 rfl ?_
          refine xJ_iconst hX dX12_readFlow_195 ?_
          refine xJ_bipush hX dX12_readFlow_196 rfl ?_
          refine xJ_callV (As := [_, _]) hX hB dX12_readFlow_198 lk_X12_123 im_X12_number se_X12_number rfl (by decide) (oX12_k hL) (c_X12_number hL hM175 ⟨by decide, by decide⟩ ⟨by decide, by decide⟩ hp) (by decide) rfl rfl rfl (Nat.le_of_ble_eq_true rfl) (by decide) (by decide) (fun v t9 M198 hv => ?_) (fun _ _ _ q => q.elim)
          obtain ⟨r198, rfl, h198, hM198, ht9, hp⟩ := hv
          replace ht9 := ht9.symm
          subst ht9
          dsimp only [Option.toList, List.cons_append, List.nil_append]
          obtain ⟨h201, hp⟩ := hp
          refine xJ_iastM hX dX12_readFlow_201 (oX12_k9 hL) h201.1 (xnlt (oX12_n9 hL) h201.2) hM198 h198 (fun M201 e201 hM201 => ?_)
          replace hp := hp M201 e201
          refine xJ_aload_n hX dX12_readFlow_202 rfl ?_
          refine xJ_getR (b := (a + 3)) hX dX12_readFlow_203 fd_X12_20 rfl (oX12_k hL) (oX12_r9 hL) ?_
          refine xJ_iconst hX dX12_readFlow_206 ?_
          refine xJ_dup2 hX dX12_readFlow_207 rfl rfl ?_
          obtain ⟨h208, hp⟩ := hp
          refine xJ_iald hX dX12_readFlow_208 (oX12_k9 hL) h208.1 (xnlt (oX12_n9 hL) h208.2) ?_
          refine xJ_iconst hX dX12_readFlow_209 ?_
          refine xJ_iadd hX dX12_readFlow_210 ?_
          obtain ⟨h210, hp⟩ := hp
          obtain ⟨h211, hp⟩ := hp
          refine xJ_iastM hX dX12_readFlow_211 (oX12_k9 hL) h211.1 (xnlt (oX12_n9 hL) h211.2) hM201 h210 (fun M211 e211 hM211 => ?_)
          replace hp := hp M211 e211
          refine xJ_vret hX hB dX12_readFlow_212 (by decide) (by decide) ⟨rfl, hM211, rfl, hp⟩
      · replace hp := hp.2 c153
        refine xJ_vret hX hB dX12_readFlow_156 (by decide) (by decide) ⟨rfl, hM150, rfl, hp⟩
  · replace hp := hp.2 c8
    refine xJ_aload_n hX dX12_readFlow_11 rfl ?_
    refine xJ_bipush hX dX12_readFlow_12 rfl ?_
    refine xJ_iload_n hX dX12_readFlow_14 rfl ?_
    refine xJ_callV (As := [_, _]) hX hB dX12_readFlow_15 lk_X12_85 im_X12_report se_X12_report rfl (by decide) (oX12_k hL) (c_X12_report hL hM ⟨by decide, by decide⟩ hx1 hp) (by decide) rfl rfl rfl (Nat.le_of_ble_eq_true rfl) (by decide) (by decide) (fun v t9 M15 hv => ?_) (fun _ _ _ q => q.elim)
    obtain ⟨rfl, hM15, ht9, hp⟩ := hv
    replace ht9 := ht9.symm
    subst ht9
    dsimp only [Option.toList, List.cons_append, List.nil_append]
    refine xJ_aload_n hX dX12_readFlow_18 rfl ?_
    refine xJ_getR (b := (a + 3)) hX dX12_readFlow_19 fd_X12_20 rfl (oX12_k hL) (oX12_r9 hL) ?_
    refine xJ_iconst hX dX12_readFlow_22 ?_
    obtain ⟨h23, hp⟩ := hp
    refine xJ_iald hX dX12_readFlow_23 (oX12_k9 hL) h23.1 (xnlt (oX12_n9 hL) h23.2) ?_
    refine xJ_istore_n hX dX12_readFlow_24 (Nat.le_of_ble_eq_true rfl) rfl ?_
    dsimp only [List.set]
    replace hp := hp _ rfl
    refine xJ_iconst hX dX12_readFlow_25 ?_
    refine xJ_istore_n hX dX12_readFlow_26 (Nat.le_of_ble_eq_true rfl) rfl ?_
    dsimp only [List.set]
    refine xJ_fg 1 ?_
    dsimp only [List.set]
    have lp27 : ∀ (K149 : Int → Int → xMe → Prop) (hK149 : ∀ (y2 : Int) (y3 : Int) (M : xMe) (hM : xMR M) (hy2 : xR y2) (hy3 : xR y3) (hp : K149 y2 y3 M), xJ X 0 0 t M 149 [vr a, vU, vi y2, vi y3, vU] []) (k : Nat) (x2 : Int) (x3 : Int) (M : xMe) (hM : xMR M) (hx2 : xR x2) (hx3 : xR x3) (hp : p_X12_readFlow_27 F a Q K149 k x2 x3 M), xJ X 0 0 t M 27 [vr a, vU, vi x2, vi x3, vU] [] := by
      intro K149 hK149 k
      induction k with
      | zero => intro x2 x3 M hM hx2 hx3 hp; exact hp.elim
      | succ k ih =>
        intro x2 x3 M hM hx2 hx3 hp
        unfold p_X12_readFlow_27 at hp
        refine xJ_aload_n hX dX12_readFlow_27 rfl ?_
        refine xJ_callV (As := []) hX hB dX12_readFlow_28 lk_X12_68 im_X12_isGood se_X12_isGood rfl (by decide) (oX12_k hL) (c_X12_isGood hL hM hp) (by decide) rfl rfl rfl (Nat.le_of_ble_eq_true rfl) (by decide) (by decide) (fun v t9 M28 hv => ?_) (fun _ _ _ q => q.elim)
        obtain ⟨r28, rfl, h28, hM28, ht9, hp⟩ := hv
        replace ht9 := ht9.symm
        subst ht9
        dsimp only [Option.toList, List.cons_append, List.nil_append]
        refine xJ_if_eq hX dX12_readFlow_31 (tgt := 149) (by decide) h28 (fun c31 => ?_) (fun c31 => ?_)
        · replace hp := hp.1 c31
          exact hK149 _ _ _ hM28 hx2 hx3 hp
        · replace hp := hp.2 c31
          refine xJ_iload_n hX dX12_readFlow_34 rfl ?_
          refine xJ_if_eq hX dX12_readFlow_35 (tgt := 48) (by decide) hx3 (fun c35 => ?_) (fun c35 => ?_)
          · replace hp := hp.1 c35
            refine xJ_aload_n hX dX12_readFlow_48 rfl ?_
            refine xJ_iconst hX dX12_readFlow_49 ?_
            refine xJ_aload_n hX dX12_readFlow_50 rfl ?_
            refine xJ_getR (b := (a + 3)) hX dX12_readFlow_51 fd_X12_20 rfl (oX12_k hL) (oX12_r9 hL) ?_
            refine xJ_iconst hX dX12_readFlow_54 ?_
            obtain ⟨h55, hp⟩ := hp
            refine xJ_iald hX dX12_readFlow_55 (oX12_k9 hL) h55.1 (xnlt (oX12_n9 hL) h55.2) ?_
            refine xJ_iconst hX dX12_readFlow_56 ?_
            refine xJ_isub hX dX12_readFlow_57 ?_
            obtain ⟨h57, hp⟩ := hp
            refine xJ_callV (As := [_, _]) hX hB dX12_readFlow_58 lk_X12_123 im_X12_number se_X12_number rfl (by decide) (oX12_k hL) (c_X12_number hL hM28 ⟨by decide, by decide⟩ h57 hp) (by decide) rfl rfl rfl (Nat.le_of_ble_eq_true rfl) (by decide) (by decide) (fun v t9 M58 hv => ?_) (fun _ _ _ q => q.elim)
            obtain ⟨r58, rfl, h58, hM58, ht9, hp⟩ := hv
            replace ht9 := ht9.symm
            subst ht9
            dsimp only [Option.toList, List.cons_append, List.nil_append]
            refine xJ_istore hX dX12_readFlow_61 (Nat.le_of_ble_eq_true rfl) rfl ?_
            dsimp only [List.set]
            refine xJ_aload_n hX dX12_readFlow_63 rfl ?_
            refine xJ_callV (As := []) hX hB dX12_readFlow_64 lk_X12_68 im_X12_isGood se_X12_isGood rfl (by decide) (oX12_k hL) (c_X12_isGood hL hM58 hp) (by decide) rfl rfl rfl (Nat.le_of_ble_eq_true rfl) (by decide) (by decide) (fun v t9 M64 hv => ?_) (fun _ _ _ q => q.elim)
            obtain ⟨r64, rfl, h64, hM64, ht9, hp⟩ := hv
            replace ht9 := ht9.symm
            subst ht9
            dsimp only [Option.toList, List.cons_append, List.nil_append]
            refine xJ_if_eq hX dX12_readFlow_67 (tgt := 95) (by decide) h64 (fun c67 => ?_) (fun c67 => ?_)
            · replace hp := hp.1 c67
              refine xJ_aload_n hX dX12_readFlow_95 rfl ?_
              refine xJ_callV (As := []) hX hB dX12_readFlow_96 lk_X12_68 im_X12_isGood se_X12_isGood rfl (by decide) (oX12_k hL) (c_X12_isGood hL hM64 hp) (by decide) rfl rfl rfl (Nat.le_of_ble_eq_true rfl) (by decide) (by decide) (fun v t9 M96 hv => ?_) (fun _ _ _ q => q.elim)
              obtain ⟨r96, rfl, h96, hM96, ht9, hp⟩ := hv
              replace ht9 := ht9.symm
              subst ht9
              dsimp only [Option.toList, List.cons_append, List.nil_append]
              refine xJ_if_eq hX dX12_readFlow_99 (tgt := 117) (by decide) h96 (fun c99 => ?_) (fun c99 => ?_)
              · replace hp := hp.1 c99
                refine xJ_aload_n hX dX12_readFlow_117 rfl ?_
                refine xJ_callV (As := []) hX hB dX12_readFlow_118 lk_X12_68 im_X12_isGood se_X12_isGood rfl (by decide) (oX12_k hL) (c_X12_isGood hL hM96 hp) (by decide) rfl rfl rfl (Nat.le_of_ble_eq_true rfl) (by decide) (by decide) (fun v t9 M118 hv => ?_) (fun _ _ _ q => q.elim)
                obtain ⟨r118, rfl, h118, hM118, ht9, hp⟩ := hv
                replace ht9 := ht9.symm
                subst ht9
                dsimp only [Option.toList, List.cons_append, List.nil_append]
                refine xJ_if_ne hX dX12_readFlow_121 (tgt := 125) (by decide) h118 (fun c121 => ?_) (fun c121 => ?_)
                · replace hp := hp.1 c121
                  refine xJ_aload_n hX dX12_readFlow_125 rfl ?_
                  refine xJ_getR (b := (a + 3)) hX dX12_readFlow_126 fd_X12_20 rfl (oX12_k hL) (oX12_r9 hL) ?_
                  refine xJ_bipush hX dX12_readFlow_129 rfl ?_
                  refine xJ_bipush hX dX12_readFlow_131 rfl ?_
                  refine xJ_iload_n hX dX12_readFlow_133 rfl ?_
                  refine xJ_imul hX dX12_readFlow_134 ?_
                  obtain ⟨h134, hp⟩ := hp
                  refine xJ_iadd hX dX12_readFlow_135 ?_
                  obtain ⟨h135, hp⟩ := hp
                  refine xJ_iconst hX dX12_readFlow_136 ?_
                  refine xJ_iadd hX dX12_readFlow_137 ?_
                  obtain ⟨h137, hp⟩ := hp
                  refine xJ_iload_n hX dX12_readFlow_138 rfl ?_
                  refine xJ_iadd hX dX12_readFlow_139 ?_
                  obtain ⟨h139, hp⟩ := hp
                  refine xJ_iload hX dX12_readFlow_140 rfl ?_
                  obtain ⟨h142, hp⟩ := hp
                  refine xJ_iastM hX dX12_readFlow_142 (oX12_k9 hL) h142.1 (xnlt (oX12_n9 hL) h142.2) hM118 h58 (fun M142 e142 hM142 => ?_)
                  replace hp := hp M142 e142
                  refine xJ_iinc hX dX12_readFlow_143 rfl rfl ?_
                  dsimp only [List.set]
                  obtain ⟨h143, hp⟩ := hp
                  refine xJ_goto hX dX12_readFlow_146 (tgt := 27) (by decide) ?_
                  refine xJ_fg 4 ?_
                  dsimp only [List.set]
                  exact ih _ _ _ hM142 hx2 h143 hp
                · replace hp := hp.2 c121
                  refine xJ_vret hX hB dX12_readFlow_124 (by decide) (by decide) ⟨rfl, hM118, rfl, hp⟩
              · replace hp := hp.2 c99
                refine xJ_iload_n hX dX12_readFlow_102 rfl ?_
                refine xJ_iconst hX dX12_readFlow_103 ?_
                refine xJ_icmp_ne hX dX12_readFlow_104 (tgt := 117) (by decide) hx3 ⟨by decide, by decide⟩ (fun c104 => ?_) (fun c104 => ?_)
                · replace hp := hp.1 c104
                  refine xJ_aload_n hX dX12_readFlow_117 rfl ?_
                  refine xJ_callV (As := []) hX hB dX12_readFlow_118 lk_X12_68 im_X12_isGood se_X12_isGood rfl (by decide) (oX12_k hL) (c_X12_isGood hL hM96 hp) (by decide) rfl rfl rfl (Nat.le_of_ble_eq_true rfl) (by decide) (by decide) (fun v t9 M118 hv => ?_) (fun _ _ _ q => q.elim)
                  obtain ⟨r118, rfl, h118, hM118, ht9, hp⟩ := hv
                  replace ht9 := ht9.symm
                  subst ht9
                  dsimp only [Option.toList, List.cons_append, List.nil_append]
                  refine xJ_if_ne hX dX12_readFlow_121 (tgt := 125) (by decide) h118 (fun c121 => ?_) (fun c121 => ?_)
                  · replace hp := hp.1 c121
                    refine xJ_aload_n hX dX12_readFlow_125 rfl ?_
                    refine xJ_getR (b := (a + 3)) hX dX12_readFlow_126 fd_X12_20 rfl (oX12_k hL) (oX12_r9 hL) ?_
                    refine xJ_bipush hX dX12_readFlow_129 rfl ?_
                    refine xJ_bipush hX dX12_readFlow_131 rfl ?_
                    refine xJ_iload_n hX dX12_readFlow_133 rfl ?_
                    refine xJ_imul hX dX12_readFlow_134 ?_
                    obtain ⟨h134, hp⟩ := hp
                    refine xJ_iadd hX dX12_readFlow_135 ?_
                    obtain ⟨h135, hp⟩ := hp
                    refine xJ_iconst hX dX12_readFlow_136 ?_
                    refine xJ_iadd hX dX12_readFlow_137 ?_
                    obtain ⟨h137, hp⟩ := hp
                    refine xJ_iload_n hX dX12_readFlow_138 rfl ?_
                    refine xJ_iadd hX dX12_readFlow_139 ?_
                    obtain ⟨h139, hp⟩ := hp
                    refine xJ_iload hX dX12_readFlow_140 rfl ?_
                    obtain ⟨h142, hp⟩ := hp
                    refine xJ_iastM hX dX12_readFlow_142 (oX12_k9 hL) h142.1 (xnlt (oX12_n9 hL) h142.2) hM118 h58 (fun M142 e142 hM142 => ?_)
                    replace hp := hp M142 e142
                    refine xJ_iinc hX dX12_readFlow_143 rfl rfl ?_
                    dsimp only [List.set]
                    obtain ⟨h143, hp⟩ := hp
                    refine xJ_goto hX dX12_readFlow_146 (tgt := 27) (by decide) ?_
                    refine xJ_fg 4 ?_
                    dsimp only [List.set]
                    exact ih _ _ _ hM142 hx2 h143 hp
                  · replace hp := hp.2 c121
                    refine xJ_vret hX hB dX12_readFlow_124 (by decide) (by decide) ⟨rfl, hM118, rfl, hp⟩
                · replace hp := hp.2 c104
                  refine xJ_aload_n hX dX12_readFlow_107 rfl ?_
                  refine xJ_bipush hX dX12_readFlow_108 rfl ?_
                  refine xJ_aload_n hX dX12_readFlow_110 rfl ?_
                  refine xJ_getI hX dX12_readFlow_111 fd_X12_93 rfl (oX12_k hL) ?_
                  refine xJ_callV (As := [_, _]) hX hB dX12_readFlow_114 lk_X12_85 im_X12_report se_X12_report rfl (by decide) (oX12_k hL) (c_X12_report hL hM96 ⟨by decide, by decide⟩ (hM96 _ _) hp) (by decide) rfl rfl rfl (Nat.le_of_ble_eq_true rfl) (by decide) (by decide) (fun v t9 M114 hv => ?_) (fun _ _ _ q => q.elim)
                  obtain ⟨rfl, hM114, ht9, hp⟩ := hv
                  replace ht9 := ht9.symm
                  subst ht9
                  dsimp only [Option.toList, List.cons_append, List.nil_append]
                  refine xJ_aload_n hX dX12_readFlow_117 rfl ?_
                  refine xJ_callV (As := []) hX hB dX12_readFlow_118 lk_X12_68 im_X12_isGood se_X12_isGood rfl (by decide) (oX12_k hL) (c_X12_isGood hL hM114 hp) (by decide) rfl rfl rfl (Nat.le_of_ble_eq_true rfl) (by decide) (by decide) (fun v t9 M118 hv => ?_) (fun _ _ _ q => q.elim)
                  obtain ⟨r118, rfl, h118, hM118, ht9, hp⟩ := hv
                  replace ht9 := ht9.symm
                  subst ht9
                  dsimp only [Option.toList, List.cons_append, List.nil_append]
                  refine xJ_if_ne hX dX12_readFlow_121 (tgt := 125) (by decide) h118 (fun c121 => ?_) (fun c121 => ?_)
                  · replace hp := hp.1 c121
                    refine xJ_aload_n hX dX12_readFlow_125 rfl ?_
                    refine xJ_getR (b := (a + 3)) hX dX12_readFlow_126 fd_X12_20 rfl (oX12_k hL) (oX12_r9 hL) ?_
                    refine xJ_bipush hX dX12_readFlow_129 rfl ?_
                    refine xJ_bipush hX dX12_readFlow_131 rfl ?_
                    refine xJ_iload_n hX dX12_readFlow_133 rfl ?_
                    refine xJ_imul hX dX12_readFlow_134 ?_
                    obtain ⟨h134, hp⟩ := hp
                    refine xJ_iadd hX dX12_readFlow_135 ?_
                    obtain ⟨h135, hp⟩ := hp
                    refine xJ_iconst hX dX12_readFlow_136 ?_
                    refine xJ_iadd hX dX12_readFlow_137 ?_
                    obtain ⟨h137, hp⟩ := hp
                    refine xJ_iload_n hX dX12_readFlow_138 rfl ?_
                    refine xJ_iadd hX dX12_readFlow_139 ?_
                    obtain ⟨h139, hp⟩ := hp
                    refine xJ_iload hX dX12_readFlow_140 rfl ?_
                    obtain ⟨h142, hp⟩ := hp
                    refine xJ_iastM hX dX12_readFlow_142 (oX12_k9 hL) h142.1 (xnlt (oX12_n9 hL) h142.2) hM118 h58 (fun M142 e142 hM142 => ?_)
                    replace hp := hp M142 e142
                    refine xJ_iinc hX dX12_readFlow_143 rfl rfl ?_
                    dsimp only [List.set]
                    obtain ⟨h143, hp⟩ := hp
                    refine xJ_goto hX dX12_readFlow_146 (tgt := 27) (by decide) ?_
                    refine xJ_fg 4 ?_
                    dsimp only [List.set]
                    exact ih _ _ _ hM142 hx2 h143 hp
                  · replace hp := hp.2 c121
                    refine xJ_vret hX hB dX12_readFlow_124 (by decide) (by decide) ⟨rfl, hM118, rfl, hp⟩
            · replace hp := hp.2 c67
              refine xJ_aload_n hX dX12_readFlow_70 rfl ?_
              refine xJ_aload_n hX dX12_readFlow_71 rfl ?_
              refine xJ_getR (b := (a + 3)) hX dX12_readFlow_72 fd_X12_20 rfl (oX12_k hL) (oX12_r9 hL) ?_
              refine xJ_iload_n hX dX12_readFlow_75 rfl ?_
              refine xJ_iload_n hX dX12_readFlow_76 rfl ?_
              refine xJ_iload hX dX12_readFlow_77 rfl ?_
              refine xJ_callV (As := [_, _, _, _]) hX hB dX12_readFlow_79 lk_X12_138 im_X12_isOnWay se_X12_isOnWay rfl (by decide) (oX12_k hL) (c_X12_isOnWay hL (oX12_k9 hL) (oX12_n9 hL) ⟨by decide, by decide⟩ hM64 hx2 hx3 h58 hp) (by decide) rfl rfl rfl (Nat.le_of_ble_eq_true rfl) (by decide) (by decide) (fun v t9 M79 hv => ?_) (fun _ _ _ q => q.elim)
              obtain ⟨r79, rfl, h79, hM79, ht9, hp⟩ := hv
              replace ht9 := ht9.symm
              subst ht9
              dsimp only [Option.toList, List.cons_append, List.nil_append]
              refine xJ_if_eq hX dX12_readFlow_82 (tgt := 95) (by decide) h79 (fun c82 => ?_) (fun c82 => ?_)
              · replace hp := hp.1 c82
                refine xJ_aload_n hX dX12_readFlow_95 rfl ?_
                refine xJ_callV (As := []) hX hB dX12_readFlow_96 lk_X12_68 im_X12_isGood se_X12_isGood rfl (by decide) (oX12_k hL) (c_X12_isGood hL hM79 hp) (by decide) rfl rfl rfl (Nat.le_of_ble_eq_true rfl) (by decide) (by decide) (fun v t9 M96 hv => ?_) (fun _ _ _ q => q.elim)
                obtain ⟨r96, rfl, h96, hM96, ht9, hp⟩ := hv
                replace ht9 := ht9.symm
                subst ht9
                dsimp only [Option.toList, List.cons_append, List.nil_append]
                refine xJ_if_eq hX dX12_readFlow_99 (tgt := 117) (by decide) h96 (fun c99 => ?_) (fun c99 => ?_)
                · replace hp := hp.1 c99
                  refine xJ_aload_n hX dX12_readFlow_117 rfl ?_
                  refine xJ_callV (As := []) hX hB dX12_readFlow_118 lk_X12_68 im_X12_isGood se_X12_isGood rfl (by decide) (oX12_k hL) (c_X12_isGood hL hM96 hp) (by decide) rfl rfl rfl (Nat.le_of_ble_eq_true rfl) (by decide) (by decide) (fun v t9 M118 hv => ?_) (fun _ _ _ q => q.elim)
                  obtain ⟨r118, rfl, h118, hM118, ht9, hp⟩ := hv
                  replace ht9 := ht9.symm
                  subst ht9
                  dsimp only [Option.toList, List.cons_append, List.nil_append]
                  refine xJ_if_ne hX dX12_readFlow_121 (tgt := 125) (by decide) h118 (fun c121 => ?_) (fun c121 => ?_)
                  · replace hp := hp.1 c121
                    refine xJ_aload_n hX dX12_readFlow_125 rfl ?_
                    refine xJ_getR (b := (a + 3)) hX dX12_readFlow_126 fd_X12_20 rfl (oX12_k hL) (oX12_r9 hL) ?_
                    refine xJ_bipush hX dX12_readFlow_129 rfl ?_
                    refine xJ_bipush hX dX12_readFlow_131 rfl ?_
                    refine xJ_iload_n hX dX12_readFlow_133 rfl ?_
                    refine xJ_imul hX dX12_readFlow_134 ?_
                    obtain ⟨h134, hp⟩ := hp
                    refine xJ_iadd hX dX12_readFlow_135 ?_
                    obtain ⟨h135, hp⟩ := hp
                    refine xJ_iconst hX dX12_readFlow_136 ?_
                    refine xJ_iadd hX dX12_readFlow_137 ?_
                    obtain ⟨h137, hp⟩ := hp
                    refine xJ_iload_n hX dX12_readFlow_138 rfl ?_
                    refine xJ_iadd hX dX12_readFlow_139 ?_
                    obtain ⟨h139, hp⟩ := hp
                    refine xJ_iload hX dX12_readFlow_140 rfl ?_
                    obtain ⟨h142, hp⟩ := hp
                    refine xJ_iastM hX dX12_readFlow_142 (oX12_k9 hL) h142.1 (xnlt (oX12_n9 hL) h142.2) hM118 h58 (fun M142 e142 hM142 => ?_)
                    replace hp := hp M142 e142
                    refine xJ_iinc hX dX12_readFlow_143 rfl rfl ?_
                    dsimp only [List.set]
                    obtain ⟨h143, hp⟩ := hp
                    refine xJ_goto hX dX12_readFlow_146 (tgt := 27) (by decide) ?_
                    refine xJ_fg 4 ?_
                    dsimp only [List.set]
                    exact ih _ _ _ hM142 hx2 h143 hp
                  · replace hp := hp.2 c121
                    refine xJ_vret hX hB dX12_readFlow_124 (by decide) (by decide) ⟨rfl, hM118, rfl, hp⟩
                · replace hp := hp.2 c99
                  refine xJ_iload_n hX dX12_readFlow_102 rfl ?_
                  refine xJ_iconst hX dX12_readFlow_103 ?_
                  refine xJ_icmp_ne hX dX12_readFlow_104 (tgt := 117) (by decide) hx3 ⟨by decide, by decide⟩ (fun c104 => ?_) (fun c104 => ?_)
                  · replace hp := hp.1 c104
                    refine xJ_aload_n hX dX12_readFlow_117 rfl ?_
                    refine xJ_callV (As := []) hX hB dX12_readFlow_118 lk_X12_68 im_X12_isGood se_X12_isGood rfl (by decide) (oX12_k hL) (c_X12_isGood hL hM96 hp) (by decide) rfl rfl rfl (Nat.le_of_ble_eq_true rfl) (by decide) (by decide) (fun v t9 M118 hv => ?_) (fun _ _ _ q => q.elim)
                    obtain ⟨r118, rfl, h118, hM118, ht9, hp⟩ := hv
                    replace ht9 := ht9.symm
                    subst ht9
                    dsimp only [Option.toList, List.cons_append, List.nil_append]
                    refine xJ_if_ne hX dX12_readFlow_121 (tgt := 125) (by decide) h118 (fun c121 => ?_) (fun c121 => ?_)
                    · replace hp := hp.1 c121
                      refine xJ_aload_n hX dX12_readFlow_125 rfl ?_
                      refine xJ_getR (b := (a + 3)) hX dX12_readFlow_126 fd_X12_20 rfl (oX12_k hL) (oX12_r9 hL) ?_
                      refine xJ_bipush hX dX12_readFlow_129 rfl ?_
                      refine xJ_bipush hX dX12_readFlow_131 rfl ?_
                      refine xJ_iload_n hX dX12_readFlow_133 rfl ?_
                      refine xJ_imul hX dX12_readFlow_134 ?_
                      obtain ⟨h134, hp⟩ := hp
                      refine xJ_iadd hX dX12_readFlow_135 ?_
                      obtain ⟨h135, hp⟩ := hp
                      refine xJ_iconst hX dX12_readFlow_136 ?_
                      refine xJ_iadd hX dX12_readFlow_137 ?_
                      obtain ⟨h137, hp⟩ := hp
                      refine xJ_iload_n hX dX12_readFlow_138 rfl ?_
                      refine xJ_iadd hX dX12_readFlow_139 ?_
                      obtain ⟨h139, hp⟩ := hp
                      refine xJ_iload hX dX12_readFlow_140 rfl ?_
                      obtain ⟨h142, hp⟩ := hp
                      refine xJ_iastM hX dX12_readFlow_142 (oX12_k9 hL) h142.1 (xnlt (oX12_n9 hL) h142.2) hM118 h58 (fun M142 e142 hM142 => ?_)
                      replace hp := hp M142 e142
                      refine xJ_iinc hX dX12_readFlow_143 rfl rfl ?_
                      dsimp only [List.set]
                      obtain ⟨h143, hp⟩ := hp
                      refine xJ_goto hX dX12_readFlow_146 (tgt := 27) (by decide) ?_
                      refine xJ_fg 4 ?_
                      dsimp only [List.set]
                      exact ih _ _ _ hM142 hx2 h143 hp
                    · replace hp := hp.2 c121
                      refine xJ_vret hX hB dX12_readFlow_124 (by decide) (by decide) ⟨rfl, hM118, rfl, hp⟩
                  · replace hp := hp.2 c104
                    refine xJ_aload_n hX dX12_readFlow_107 rfl ?_
                    refine xJ_bipush hX dX12_readFlow_108 rfl ?_
                    refine xJ_aload_n hX dX12_readFlow_110 rfl ?_
                    refine xJ_getI hX dX12_readFlow_111 fd_X12_93 rfl (oX12_k hL) ?_
                    refine xJ_callV (As := [_, _]) hX hB dX12_readFlow_114 lk_X12_85 im_X12_report se_X12_report rfl (by decide) (oX12_k hL) (c_X12_report hL hM96 ⟨by decide, by decide⟩ (hM96 _ _) hp) (by decide) rfl rfl rfl (Nat.le_of_ble_eq_true rfl) (by decide) (by decide) (fun v t9 M114 hv => ?_) (fun _ _ _ q => q.elim)
                    obtain ⟨rfl, hM114, ht9, hp⟩ := hv
                    replace ht9 := ht9.symm
                    subst ht9
                    dsimp only [Option.toList, List.cons_append, List.nil_append]
                    refine xJ_aload_n hX dX12_readFlow_117 rfl ?_
                    refine xJ_callV (As := []) hX hB dX12_readFlow_118 lk_X12_68 im_X12_isGood se_X12_isGood rfl (by decide) (oX12_k hL) (c_X12_isGood hL hM114 hp) (by decide) rfl rfl rfl (Nat.le_of_ble_eq_true rfl) (by decide) (by decide) (fun v t9 M118 hv => ?_) (fun _ _ _ q => q.elim)
                    obtain ⟨r118, rfl, h118, hM118, ht9, hp⟩ := hv
                    replace ht9 := ht9.symm
                    subst ht9
                    dsimp only [Option.toList, List.cons_append, List.nil_append]
                    refine xJ_if_ne hX dX12_readFlow_121 (tgt := 125) (by decide) h118 (fun c121 => ?_) (fun c121 => ?_)
                    · replace hp := hp.1 c121
                      refine xJ_aload_n hX dX12_readFlow_125 rfl ?_
                      refine xJ_getR (b := (a + 3)) hX dX12_readFlow_126 fd_X12_20 rfl (oX12_k hL) (oX12_r9 hL) ?_
                      refine xJ_bipush hX dX12_readFlow_129 rfl ?_
                      refine xJ_bipush hX dX12_readFlow_131 rfl ?_
                      refine xJ_iload_n hX dX12_readFlow_133 rfl ?_
                      refine xJ_imul hX dX12_readFlow_134 ?_
                      obtain ⟨h134, hp⟩ := hp
                      refine xJ_iadd hX dX12_readFlow_135 ?_
                      obtain ⟨h135, hp⟩ := hp
                      refine xJ_iconst hX dX12_readFlow_136 ?_
                      refine xJ_iadd hX dX12_readFlow_137 ?_
                      obtain ⟨h137, hp⟩ := hp
                      refine xJ_iload_n hX dX12_readFlow_138 rfl ?_
                      refine xJ_iadd hX dX12_readFlow_139 ?_
                      obtain ⟨h139, hp⟩ := hp
                      refine xJ_iload hX dX12_readFlow_140 rfl ?_
                      obtain ⟨h142, hp⟩ := hp
                      refine xJ_iastM hX dX12_readFlow_142 (oX12_k9 hL) h142.1 (xnlt (oX12_n9 hL) h142.2) hM118 h58 (fun M142 e142 hM142 => ?_)
                      replace hp := hp M142 e142
                      refine xJ_iinc hX dX12_readFlow_143 rfl rfl ?_
                      dsimp only [List.set]
                      obtain ⟨h143, hp⟩ := hp
                      refine xJ_goto hX dX12_readFlow_146 (tgt := 27) (by decide) ?_
                      refine xJ_fg 4 ?_
                      dsimp only [List.set]
                      exact ih _ _ _ hM142 hx2 h143 hp
                    · replace hp := hp.2 c121
                      refine xJ_vret hX hB dX12_readFlow_124 (by decide) (by decide) ⟨rfl, hM118, rfl, hp⟩
              · replace hp := hp.2 c82
                refine xJ_aload_n hX dX12_readFlow_85 rfl ?_
                refine xJ_bipush hX dX12_readFlow_86 rfl ?_
                refine xJ_aload_n hX dX12_readFlow_88 rfl ?_
                refine xJ_getI hX dX12_readFlow_89 fd_X12_93 rfl (oX12_k hL) ?_
                refine xJ_callV (As := [_, _]) hX hB dX12_readFlow_92 lk_X12_85 im_X12_report se_X12_report rfl (by decide) (oX12_k hL) (c_X12_report hL hM79 ⟨by decide, by decide⟩ (hM79 _ _) hp) (by decide) rfl rfl rfl (Nat.le_of_ble_eq_true rfl) (by decide) (by decide) (fun v t9 M92 hv => ?_) (fun _ _ _ q => q.elim)
                obtain ⟨rfl, hM92, ht9, hp⟩ := hv
                replace ht9 := ht9.symm
                subst ht9
                dsimp only [Option.toList, List.cons_append, List.nil_append]
                refine xJ_aload_n hX dX12_readFlow_95 rfl ?_
                refine xJ_callV (As := []) hX hB dX12_readFlow_96 lk_X12_68 im_X12_isGood se_X12_isGood rfl (by decide) (oX12_k hL) (c_X12_isGood hL hM92 hp) (by decide) rfl rfl rfl (Nat.le_of_ble_eq_true rfl) (by decide) (by decide) (fun v t9 M96 hv => ?_) (fun _ _ _ q => q.elim)
                obtain ⟨r96, rfl, h96, hM96, ht9, hp⟩ := hv
                replace ht9 := ht9.symm
                subst ht9
                dsimp only [Option.toList, List.cons_append, List.nil_append]
                refine xJ_if_eq hX dX12_readFlow_99 (tgt := 117) (by decide) h96 (fun c99 => ?_) (fun c99 => ?_)
                · replace hp := hp.1 c99
                  refine xJ_aload_n hX dX12_readFlow_117 rfl ?_
                  refine xJ_callV (As := []) hX hB dX12_readFlow_118 lk_X12_68 im_X12_isGood se_X12_isGood rfl (by decide) (oX12_k hL) (c_X12_isGood hL hM96 hp) (by decide) rfl rfl rfl (Nat.le_of_ble_eq_true rfl) (by decide) (by decide) (fun v t9 M118 hv => ?_) (fun _ _ _ q => q.elim)
                  obtain ⟨r118, rfl, h118, hM118, ht9, hp⟩ := hv
                  replace ht9 := ht9.symm
                  subst ht9
                  dsimp only [Option.toList, List.cons_append, List.nil_append]
                  refine xJ_if_ne hX dX12_readFlow_121 (tgt := 125) (by decide) h118 (fun c121 => ?_) (fun c121 => ?_)
                  · replace hp := hp.1 c121
                    refine xJ_aload_n hX dX12_readFlow_125 rfl ?_
                    refine xJ_getR (b := (a + 3)) hX dX12_readFlow_126 fd_X12_20 rfl (oX12_k hL) (oX12_r9 hL) ?_
                    refine xJ_bipush hX dX12_readFlow_129 rfl ?_
                    refine xJ_bipush hX dX12_readFlow_131 rfl ?_
                    refine xJ_iload_n hX dX12_readFlow_133 rfl ?_
                    refine xJ_imul hX dX12_readFlow_134 ?_
                    obtain ⟨h134, hp⟩ := hp
                    refine xJ_iadd hX dX12_readFlow_135 ?_
                    obtain ⟨h135, hp⟩ := hp
                    refine xJ_iconst hX dX12_readFlow_136 ?_
                    refine xJ_iadd hX dX12_readFlow_137 ?_
                    obtain ⟨h137, hp⟩ := hp
                    refine xJ_iload_n hX dX12_readFlow_138 rfl ?_
                    refine xJ_iadd hX dX12_readFlow_139 ?_
                    obtain ⟨h139, hp⟩ := hp
                    refine xJ_iload hX dX12_readFlow_140 rfl ?_
                    obtain ⟨h142, hp⟩ := hp
                    refine xJ_iastM hX dX12_readFlow_142 (oX12_k9 hL) h142.1 (xnlt (oX12_n9 hL) h142.2) hM118 h58 (fun M142 e142 hM142 => ?_)
                    replace hp := hp M142 e142
                    refine xJ_iinc hX dX12_readFlow_143 rfl rfl ?_
                    dsimp only [List.set]
                    obtain ⟨h143, hp⟩ := hp
                    refine xJ_goto hX dX12_readFlow_146 (tgt := 27) (by decide) ?_
                    refine xJ_fg 4 ?_
                    dsimp only [List.set]
                    exact ih _ _ _ hM142 hx2 h143 hp
                  · replace hp := hp.2 c121
                    refine xJ_vret hX hB dX12_readFlow_124 (by decide) (by decide) ⟨rfl, hM118, rfl, hp⟩
                · replace hp := hp.2 c99
                  refine xJ_iload_n hX dX12_readFlow_102 rfl ?_
                  refine xJ_iconst hX dX12_readFlow_103 ?_
                  refine xJ_icmp_ne hX dX12_readFlow_104 (tgt := 117) (by decide) hx3 ⟨by decide, by decide⟩ (fun c104 => ?_) (fun c104 => ?_)
                  · replace hp := hp.1 c104
                    refine xJ_aload_n hX dX12_readFlow_117 rfl ?_
                    refine xJ_callV (As := []) hX hB dX12_readFlow_118 lk_X12_68 im_X12_isGood se_X12_isGood rfl (by decide) (oX12_k hL) (c_X12_isGood hL hM96 hp) (by decide) rfl rfl rfl (Nat.le_of_ble_eq_true rfl) (by decide) (by decide) (fun v t9 M118 hv => ?_) (fun _ _ _ q => q.elim)
                    obtain ⟨r118, rfl, h118, hM118, ht9, hp⟩ := hv
                    replace ht9 := ht9.symm
                    subst ht9
                    dsimp only [Option.toList, List.cons_append, List.nil_append]
                    refine xJ_if_ne hX dX12_readFlow_121 (tgt := 125) (by decide) h118 (fun c121 => ?_) (fun c121 => ?_)
                    · replace hp := hp.1 c121
                      refine xJ_aload_n hX dX12_readFlow_125 rfl ?_
                      refine xJ_getR (b := (a + 3)) hX dX12_readFlow_126 fd_X12_20 rfl (oX12_k hL) (oX12_r9 hL) ?_
                      refine xJ_bipush hX dX12_readFlow_129 rfl ?_
                      refine xJ_bipush hX dX12_readFlow_131 rfl ?_
                      refine xJ_iload_n hX dX12_readFlow_133 rfl ?_
                      refine xJ_imul hX dX12_readFlow_134 ?_
                      obtain ⟨h134, hp⟩ := hp
                      refine xJ_iadd hX dX12_readFlow_135 ?_
                      obtain ⟨h135, hp⟩ := hp
                      refine xJ_iconst hX dX12_readFlow_136 ?_
                      refine xJ_iadd hX dX12_readFlow_137 ?_
                      obtain ⟨h137, hp⟩ := hp
                      refine xJ_iload_n hX dX12_readFlow_138 rfl ?_
                      refine xJ_iadd hX dX12_readFlow_139 ?_
                      obtain ⟨h139, hp⟩ := hp
                      refine xJ_iload hX dX12_readFlow_140 rfl ?_
                      obtain ⟨h142, hp⟩ := hp
                      refine xJ_iastM hX dX12_readFlow_142 (oX12_k9 hL) h142.1 (xnlt (oX12_n9 hL) h142.2) hM118 h58 (fun M142 e142 hM142 => ?_)
                      replace hp := hp M142 e142
                      refine xJ_iinc hX dX12_readFlow_143 rfl rfl ?_
                      dsimp only [List.set]
                      obtain ⟨h143, hp⟩ := hp
                      refine xJ_goto hX dX12_readFlow_146 (tgt := 27) (by decide) ?_
                      refine xJ_fg 4 ?_
                      dsimp only [List.set]
                      exact ih _ _ _ hM142 hx2 h143 hp
                    · replace hp := hp.2 c121
                      refine xJ_vret hX hB dX12_readFlow_124 (by decide) (by decide) ⟨rfl, hM118, rfl, hp⟩
                  · replace hp := hp.2 c104
                    refine xJ_aload_n hX dX12_readFlow_107 rfl ?_
                    refine xJ_bipush hX dX12_readFlow_108 rfl ?_
                    refine xJ_aload_n hX dX12_readFlow_110 rfl ?_
                    refine xJ_getI hX dX12_readFlow_111 fd_X12_93 rfl (oX12_k hL) ?_
                    refine xJ_callV (As := [_, _]) hX hB dX12_readFlow_114 lk_X12_85 im_X12_report se_X12_report rfl (by decide) (oX12_k hL) (c_X12_report hL hM96 ⟨by decide, by decide⟩ (hM96 _ _) hp) (by decide) rfl rfl rfl (Nat.le_of_ble_eq_true rfl) (by decide) (by decide) (fun v t9 M114 hv => ?_) (fun _ _ _ q => q.elim)
                    obtain ⟨rfl, hM114, ht9, hp⟩ := hv
                    replace ht9 := ht9.symm
                    subst ht9
                    dsimp only [Option.toList, List.cons_append, List.nil_append]
                    refine xJ_aload_n hX dX12_readFlow_117 rfl ?_
                    refine xJ_callV (As := []) hX hB dX12_readFlow_118 lk_X12_68 im_X12_isGood se_X12_isGood rfl (by decide) (oX12_k hL) (c_X12_isGood hL hM114 hp) (by decide) rfl rfl rfl (Nat.le_of_ble_eq_true rfl) (by decide) (by decide) (fun v t9 M118 hv => ?_) (fun _ _ _ q => q.elim)
                    obtain ⟨r118, rfl, h118, hM118, ht9, hp⟩ := hv
                    replace ht9 := ht9.symm
                    subst ht9
                    dsimp only [Option.toList, List.cons_append, List.nil_append]
                    refine xJ_if_ne hX dX12_readFlow_121 (tgt := 125) (by decide) h118 (fun c121 => ?_) (fun c121 => ?_)
                    · replace hp := hp.1 c121
                      refine xJ_aload_n hX dX12_readFlow_125 rfl ?_
                      refine xJ_getR (b := (a + 3)) hX dX12_readFlow_126 fd_X12_20 rfl (oX12_k hL) (oX12_r9 hL) ?_
                      refine xJ_bipush hX dX12_readFlow_129 rfl ?_
                      refine xJ_bipush hX dX12_readFlow_131 rfl ?_
                      refine xJ_iload_n hX dX12_readFlow_133 rfl ?_
                      refine xJ_imul hX dX12_readFlow_134 ?_
                      obtain ⟨h134, hp⟩ := hp
                      refine xJ_iadd hX dX12_readFlow_135 ?_
                      obtain ⟨h135, hp⟩ := hp
                      refine xJ_iconst hX dX12_readFlow_136 ?_
                      refine xJ_iadd hX dX12_readFlow_137 ?_
                      obtain ⟨h137, hp⟩ := hp
                      refine xJ_iload_n hX dX12_readFlow_138 rfl ?_
                      refine xJ_iadd hX dX12_readFlow_139 ?_
                      obtain ⟨h139, hp⟩ := hp
                      refine xJ_iload hX dX12_readFlow_140 rfl ?_
                      obtain ⟨h142, hp⟩ := hp
                      refine xJ_iastM hX dX12_readFlow_142 (oX12_k9 hL) h142.1 (xnlt (oX12_n9 hL) h142.2) hM118 h58 (fun M142 e142 hM142 => ?_)
                      replace hp := hp M142 e142
                      refine xJ_iinc hX dX12_readFlow_143 rfl rfl ?_
                      dsimp only [List.set]
                      obtain ⟨h143, hp⟩ := hp
                      refine xJ_goto hX dX12_readFlow_146 (tgt := 27) (by decide) ?_
                      refine xJ_fg 4 ?_
                      dsimp only [List.set]
                      exact ih _ _ _ hM142 hx2 h143 hp
                    · replace hp := hp.2 c121
                      refine xJ_vret hX hB dX12_readFlow_124 (by decide) (by decide) ⟨rfl, hM118, rfl, hp⟩
          · replace hp := hp.2 c35
            refine xJ_aload_n hX dX12_readFlow_38 rfl ?_
            refine xJ_callV (As := []) hX hB dX12_readFlow_39 lk_X12_72 im_X12_next se_X12_next rfl (by decide) (oX12_k hL) (c_X12_next hL hM28 hp) (by decide) rfl rfl rfl (Nat.le_of_ble_eq_true rfl) (by decide) (by decide) (fun v t9 M39 hv => ?_) (fun _ _ _ q => q.elim)
            obtain ⟨r39, rfl, h39, hM39, ht9, hp⟩ := hv
            replace ht9 := ht9.symm
            subst ht9
            dsimp only [Option.toList, List.cons_append, List.nil_append]
            refine xJ_callS (As := [_]) hX hB dX12_readFlow_42 lk_X12_89 sm_X12_isDigit (c_X12_isDigit  hM39 h39 hp) (by decide) rfl rfl rfl (Nat.le_of_ble_eq_true rfl) (by decide) (by decide) (fun v t9 M42 hv => ?_) (fun _ _ _ q => q.elim)
            obtain ⟨r42, rfl, h42, hM42, ht9, hp⟩ := hv
            replace ht9 := ht9.symm
            subst ht9
            dsimp only [Option.toList, List.cons_append, List.nil_append]
            refine xJ_if_eq hX dX12_readFlow_45 (tgt := 149) (by decide) h42 (fun c45 => ?_) (fun c45 => ?_)
            · replace hp := hp.1 c45
              exact hK149 _ _ _ hM42 hx2 hx3 hp
            · replace hp := hp.2 c45
              refine xJ_aload_n hX dX12_readFlow_48 rfl ?_
              refine xJ_iconst hX dX12_readFlow_49 ?_
              refine xJ_aload_n hX dX12_readFlow_50 rfl ?_
              refine xJ_getR (b := (a + 3)) hX dX12_readFlow_51 fd_X12_20 rfl (oX12_k hL) (oX12_r9 hL) ?_
              refine xJ_iconst hX dX12_readFlow_54 ?_
              obtain ⟨h55, hp⟩ := hp
              refine xJ_iald hX dX12_readFlow_55 (oX12_k9 hL) h55.1 (xnlt (oX12_n9 hL) h55.2) ?_
              refine xJ_iconst hX dX12_readFlow_56 ?_
              refine xJ_isub hX dX12_readFlow_57 ?_
              obtain ⟨h57, hp⟩ := hp
              refine xJ_callV (As := [_, _]) hX hB dX12_readFlow_58 lk_X12_123 im_X12_number se_X12_number rfl (by decide) (oX12_k hL) (c_X12_number hL hM42 ⟨by decide, by decide⟩ h57 hp) (by decide) rfl rfl rfl (Nat.le_of_ble_eq_true rfl) (by decide) (by decide) (fun v t9 M58 hv => ?_) (fun _ _ _ q => q.elim)
              obtain ⟨r58, rfl, h58, hM58, ht9, hp⟩ := hv
              replace ht9 := ht9.symm
              subst ht9
              dsimp only [Option.toList, List.cons_append, List.nil_append]
              refine xJ_istore hX dX12_readFlow_61 (Nat.le_of_ble_eq_true rfl) rfl ?_
              dsimp only [List.set]
              refine xJ_aload_n hX dX12_readFlow_63 rfl ?_
              refine xJ_callV (As := []) hX hB dX12_readFlow_64 lk_X12_68 im_X12_isGood se_X12_isGood rfl (by decide) (oX12_k hL) (c_X12_isGood hL hM58 hp) (by decide) rfl rfl rfl (Nat.le_of_ble_eq_true rfl) (by decide) (by decide) (fun v t9 M64 hv => ?_) (fun _ _ _ q => q.elim)
              obtain ⟨r64, rfl, h64, hM64, ht9, hp⟩ := hv
              replace ht9 := ht9.symm
              subst ht9
              dsimp only [Option.toList, List.cons_append, List.nil_append]
              refine xJ_if_eq hX dX12_readFlow_67 (tgt := 95) (by decide) h64 (fun c67 => ?_) (fun c67 => ?_)
              · replace hp := hp.1 c67
                refine xJ_aload_n hX dX12_readFlow_95 rfl ?_
                refine xJ_callV (As := []) hX hB dX12_readFlow_96 lk_X12_68 im_X12_isGood se_X12_isGood rfl (by decide) (oX12_k hL) (c_X12_isGood hL hM64 hp) (by decide) rfl rfl rfl (Nat.le_of_ble_eq_true rfl) (by decide) (by decide) (fun v t9 M96 hv => ?_) (fun _ _ _ q => q.elim)
                obtain ⟨r96, rfl, h96, hM96, ht9, hp⟩ := hv
                replace ht9 := ht9.symm
                subst ht9
                dsimp only [Option.toList, List.cons_append, List.nil_append]
                refine xJ_if_eq hX dX12_readFlow_99 (tgt := 117) (by decide) h96 (fun c99 => ?_) (fun c99 => ?_)
                · replace hp := hp.1 c99
                  refine xJ_aload_n hX dX12_readFlow_117 rfl ?_
                  refine xJ_callV (As := []) hX hB dX12_readFlow_118 lk_X12_68 im_X12_isGood se_X12_isGood rfl (by decide) (oX12_k hL) (c_X12_isGood hL hM96 hp) (by decide) rfl rfl rfl (Nat.le_of_ble_eq_true rfl) (by decide) (by decide) (fun v t9 M118 hv => ?_) (fun _ _ _ q => q.elim)
                  obtain ⟨r118, rfl, h118, hM118, ht9, hp⟩ := hv
                  replace ht9 := ht9.symm
                  subst ht9
                  dsimp only [Option.toList, List.cons_append, List.nil_append]
                  refine xJ_if_ne hX dX12_readFlow_121 (tgt := 125) (by decide) h118 (fun c121 => ?_) (fun c121 => ?_)
                  · replace hp := hp.1 c121
                    refine xJ_aload_n hX dX12_readFlow_125 rfl ?_
                    refine xJ_getR (b := (a + 3)) hX dX12_readFlow_126 fd_X12_20 rfl (oX12_k hL) (oX12_r9 hL) ?_
                    refine xJ_bipush hX dX12_readFlow_129 rfl ?_
                    refine xJ_bipush hX dX12_readFlow_131 rfl ?_
                    refine xJ_iload_n hX dX12_readFlow_133 rfl ?_
                    refine xJ_imul hX dX12_readFlow_134 ?_
                    obtain ⟨h134, hp⟩ := hp
                    refine xJ_iadd hX dX12_readFlow_135 ?_
                    obtain ⟨h135, hp⟩ := hp
                    refine xJ_iconst hX dX12_readFlow_136 ?_
                    refine xJ_iadd hX dX12_readFlow_137 ?_
                    obtain ⟨h137, hp⟩ := hp
                    refine xJ_iload_n hX dX12_readFlow_138 rfl ?_
                    refine xJ_iadd hX dX12_readFlow_139 ?_
                    obtain ⟨h139, hp⟩ := hp
                    refine xJ_iload hX dX12_readFlow_140 rfl ?_
                    obtain ⟨h142, hp⟩ := hp
                    refine xJ_iastM hX dX12_readFlow_142 (oX12_k9 hL) h142.1 (xnlt (oX12_n9 hL) h142.2) hM118 h58 (fun M142 e142 hM142 => ?_)
                    replace hp := hp M142 e142
                    refine xJ_iinc hX dX12_readFlow_143 rfl rfl ?_
                    dsimp only [List.set]
                    obtain ⟨h143, hp⟩ := hp
                    refine xJ_goto hX dX12_readFlow_146 (tgt := 27) (by decide) ?_
                    refine xJ_fg 4 ?_
                    dsimp only [List.set]
                    exact ih _ _ _ hM142 hx2 h143 hp
                  · replace hp := hp.2 c121
                    refine xJ_vret hX hB dX12_readFlow_124 (by decide) (by decide) ⟨rfl, hM118, rfl, hp⟩
                · replace hp := hp.2 c99
                  refine xJ_iload_n hX dX12_readFlow_102 rfl ?_
                  refine xJ_iconst hX dX12_readFlow_103 ?_
                  refine xJ_icmp_ne hX dX12_readFlow_104 (tgt := 117) (by decide) hx3 ⟨by decide, by decide⟩ (fun c104 => ?_) (fun c104 => ?_)
                  · replace hp := hp.1 c104
                    refine xJ_aload_n hX dX12_readFlow_117 rfl ?_
                    refine xJ_callV (As := []) hX hB dX12_readFlow_118 lk_X12_68 im_X12_isGood se_X12_isGood rfl (by decide) (oX12_k hL) (c_X12_isGood hL hM96 hp) (by decide) rfl rfl rfl (Nat.le_of_ble_eq_true rfl) (by decide) (by decide) (fun v t9 M118 hv => ?_) (fun _ _ _ q => q.elim)
                    obtain ⟨r118, rfl, h118, hM118, ht9, hp⟩ := hv
                    replace ht9 := ht9.symm
                    subst ht9
                    dsimp only [Option.toList, List.cons_append, List.nil_append]
                    refine xJ_if_ne hX dX12_readFlow_121 (tgt := 125) (by decide) h118 (fun c121 => ?_) (fun c121 => ?_)
                    · replace hp := hp.1 c121
                      refine xJ_aload_n hX dX12_readFlow_125 rfl ?_
                      refine xJ_getR (b := (a + 3)) hX dX12_readFlow_126 fd_X12_20 rfl (oX12_k hL) (oX12_r9 hL) ?_
                      refine xJ_bipush hX dX12_readFlow_129 rfl ?_
                      refine xJ_bipush hX dX12_readFlow_131 rfl ?_
                      refine xJ_iload_n hX dX12_readFlow_133 rfl ?_
                      refine xJ_imul hX dX12_readFlow_134 ?_
                      obtain ⟨h134, hp⟩ := hp
                      refine xJ_iadd hX dX12_readFlow_135 ?_
                      obtain ⟨h135, hp⟩ := hp
                      refine xJ_iconst hX dX12_readFlow_136 ?_
                      refine xJ_iadd hX dX12_readFlow_137 ?_
                      obtain ⟨h137, hp⟩ := hp
                      refine xJ_iload_n hX dX12_readFlow_138 rfl ?_
                      refine xJ_iadd hX dX12_readFlow_139 ?_
                      obtain ⟨h139, hp⟩ := hp
                      refine xJ_iload hX dX12_readFlow_140 rfl ?_
                      obtain ⟨h142, hp⟩ := hp
                      refine xJ_iastM hX dX12_readFlow_142 (oX12_k9 hL) h142.1 (xnlt (oX12_n9 hL) h142.2) hM118 h58 (fun M142 e142 hM142 => ?_)
                      replace hp := hp M142 e142
                      refine xJ_iinc hX dX12_readFlow_143 rfl rfl ?_
                      dsimp only [List.set]
                      obtain ⟨h143, hp⟩ := hp
                      refine xJ_goto hX dX12_readFlow_146 (tgt := 27) (by decide) ?_
                      refine xJ_fg 4 ?_
                      dsimp only [List.set]
                      exact ih _ _ _ hM142 hx2 h143 hp
                    · replace hp := hp.2 c121
                      refine xJ_vret hX hB dX12_readFlow_124 (by decide) (by decide) ⟨rfl, hM118, rfl, hp⟩
                  · replace hp := hp.2 c104
                    refine xJ_aload_n hX dX12_readFlow_107 rfl ?_
                    refine xJ_bipush hX dX12_readFlow_108 rfl ?_
                    refine xJ_aload_n hX dX12_readFlow_110 rfl ?_
                    refine xJ_getI hX dX12_readFlow_111 fd_X12_93 rfl (oX12_k hL) ?_
                    refine xJ_callV (As := [_, _]) hX hB dX12_readFlow_114 lk_X12_85 im_X12_report se_X12_report rfl (by decide) (oX12_k hL) (c_X12_report hL hM96 ⟨by decide, by decide⟩ (hM96 _ _) hp) (by decide) rfl rfl rfl (Nat.le_of_ble_eq_true rfl) (by decide) (by decide) (fun v t9 M114 hv => ?_) (fun _ _ _ q => q.elim)
                    obtain ⟨rfl, hM114, ht9, hp⟩ := hv
                    replace ht9 := ht9.symm
                    subst ht9
                    dsimp only [Option.toList, List.cons_append, List.nil_append]
                    refine xJ_aload_n hX dX12_readFlow_117 rfl ?_
                    refine xJ_callV (As := []) hX hB dX12_readFlow_118 lk_X12_68 im_X12_isGood se_X12_isGood rfl (by decide) (oX12_k hL) (c_X12_isGood hL hM114 hp) (by decide) rfl rfl rfl (Nat.le_of_ble_eq_true rfl) (by decide) (by decide) (fun v t9 M118 hv => ?_) (fun _ _ _ q => q.elim)
                    obtain ⟨r118, rfl, h118, hM118, ht9, hp⟩ := hv
                    replace ht9 := ht9.symm
                    subst ht9
                    dsimp only [Option.toList, List.cons_append, List.nil_append]
                    refine xJ_if_ne hX dX12_readFlow_121 (tgt := 125) (by decide) h118 (fun c121 => ?_) (fun c121 => ?_)
                    · replace hp := hp.1 c121
                      refine xJ_aload_n hX dX12_readFlow_125 rfl ?_
                      refine xJ_getR (b := (a + 3)) hX dX12_readFlow_126 fd_X12_20 rfl (oX12_k hL) (oX12_r9 hL) ?_
                      refine xJ_bipush hX dX12_readFlow_129 rfl ?_
                      refine xJ_bipush hX dX12_readFlow_131 rfl ?_
                      refine xJ_iload_n hX dX12_readFlow_133 rfl ?_
                      refine xJ_imul hX dX12_readFlow_134 ?_
                      obtain ⟨h134, hp⟩ := hp
                      refine xJ_iadd hX dX12_readFlow_135 ?_
                      obtain ⟨h135, hp⟩ := hp
                      refine xJ_iconst hX dX12_readFlow_136 ?_
                      refine xJ_iadd hX dX12_readFlow_137 ?_
                      obtain ⟨h137, hp⟩ := hp
                      refine xJ_iload_n hX dX12_readFlow_138 rfl ?_
                      refine xJ_iadd hX dX12_readFlow_139 ?_
                      obtain ⟨h139, hp⟩ := hp
                      refine xJ_iload hX dX12_readFlow_140 rfl ?_
                      obtain ⟨h142, hp⟩ := hp
                      refine xJ_iastM hX dX12_readFlow_142 (oX12_k9 hL) h142.1 (xnlt (oX12_n9 hL) h142.2) hM118 h58 (fun M142 e142 hM142 => ?_)
                      replace hp := hp M142 e142
                      refine xJ_iinc hX dX12_readFlow_143 rfl rfl ?_
                      dsimp only [List.set]
                      obtain ⟨h143, hp⟩ := hp
                      refine xJ_goto hX dX12_readFlow_146 (tgt := 27) (by decide) ?_
                      refine xJ_fg 4 ?_
                      dsimp only [List.set]
                      exact ih _ _ _ hM142 hx2 h143 hp
                    · replace hp := hp.2 c121
                      refine xJ_vret hX hB dX12_readFlow_124 (by decide) (by decide) ⟨rfl, hM118, rfl, hp⟩
              · replace hp := hp.2 c67
                refine xJ_aload_n hX dX12_readFlow_70 rfl ?_
                refine xJ_aload_n hX dX12_readFlow_71 rfl ?_
                refine xJ_getR (b := (a + 3)) hX dX12_readFlow_72 fd_X12_20 rfl (oX12_k hL) (oX12_r9 hL) ?_
                refine xJ_iload_n hX dX12_readFlow_75 rfl ?_
                refine xJ_iload_n hX dX12_readFlow_76 rfl ?_
                refine xJ_iload hX dX12_readFlow_77 rfl ?_
                refine xJ_callV (As := [_, _, _, _]) hX hB dX12_readFlow_79 lk_X12_138 im_X12_isOnWay se_X12_isOnWay rfl (by decide) (oX12_k hL) (c_X12_isOnWay hL (oX12_k9 hL) (oX12_n9 hL) ⟨by decide, by decide⟩ hM64 hx2 hx3 h58 hp) (by decide) rfl rfl rfl (Nat.le_of_ble_eq_true rfl) (by decide) (by decide) (fun v t9 M79 hv => ?_) (fun _ _ _ q => q.elim)
                obtain ⟨r79, rfl, h79, hM79, ht9, hp⟩ := hv
                replace ht9 := ht9.symm
                subst ht9
                dsimp only [Option.toList, List.cons_append, List.nil_append]
                refine xJ_if_eq hX dX12_readFlow_82 (tgt := 95) (by decide) h79 (fun c82 => ?_) (fun c82 => ?_)
                · replace hp := hp.1 c82
                  refine xJ_aload_n hX dX12_readFlow_95 rfl ?_
                  refine xJ_callV (As := []) hX hB dX12_readFlow_96 lk_X12_68 im_X12_isGood se_X12_isGood rfl (by decide) (oX12_k hL) (c_X12_isGood hL hM79 hp) (by decide) rfl rfl rfl (Nat.le_of_ble_eq_true rfl) (by decide) (by decide) (fun v t9 M96 hv => ?_) (fun _ _ _ q => q.elim)
                  obtain ⟨r96, rfl, h96, hM96, ht9, hp⟩ := hv
                  replace ht9 := ht9.symm
                  subst ht9
                  dsimp only [Option.toList, List.cons_append, List.nil_append]
                  refine xJ_if_eq hX dX12_readFlow_99 (tgt := 117) (by decide) h96 (fun c99 => ?_) (fun c99 => ?_)
                  · replace hp := hp.1 c99
                    refine xJ_aload_n hX dX12_readFlow_117 rfl ?_
                    refine xJ_callV (As := []) hX hB dX12_readFlow_118 lk_X12_68 im_X12_isGood se_X12_isGood rfl (by decide) (oX12_k hL) (c_X12_isGood hL hM96 hp) (by decide) rfl rfl rfl (Nat.le_of_ble_eq_true rfl) (by decide) (by decide) (fun v t9 M118 hv => ?_) (fun _ _ _ q => q.elim)
                    obtain ⟨r118, rfl, h118, hM118, ht9, hp⟩ := hv
                    replace ht9 := ht9.symm
                    subst ht9
                    dsimp only [Option.toList, List.cons_append, List.nil_append]
                    refine xJ_if_ne hX dX12_readFlow_121 (tgt := 125) (by decide) h118 (fun c121 => ?_) (fun c121 => ?_)
                    · replace hp := hp.1 c121
                      refine xJ_aload_n hX dX12_readFlow_125 rfl ?_
                      refine xJ_getR (b := (a + 3)) hX dX12_readFlow_126 fd_X12_20 rfl (oX12_k hL) (oX12_r9 hL) ?_
                      refine xJ_bipush hX dX12_readFlow_129 rfl ?_
                      refine xJ_bipush hX dX12_readFlow_131 rfl ?_
                      refine xJ_iload_n hX dX12_readFlow_133 rfl ?_
                      refine xJ_imul hX dX12_readFlow_134 ?_
                      obtain ⟨h134, hp⟩ := hp
                      refine xJ_iadd hX dX12_readFlow_135 ?_
                      obtain ⟨h135, hp⟩ := hp
                      refine xJ_iconst hX dX12_readFlow_136 ?_
                      refine xJ_iadd hX dX12_readFlow_137 ?_
                      obtain ⟨h137, hp⟩ := hp
                      refine xJ_iload_n hX dX12_readFlow_138 rfl ?_
                      refine xJ_iadd hX dX12_readFlow_139 ?_
                      obtain ⟨h139, hp⟩ := hp
                      refine xJ_iload hX dX12_readFlow_140 rfl ?_
                      obtain ⟨h142, hp⟩ := hp
                      refine xJ_iastM hX dX12_readFlow_142 (oX12_k9 hL) h142.1 (xnlt (oX12_n9 hL) h142.2) hM118 h58 (fun M142 e142 hM142 => ?_)
                      replace hp := hp M142 e142
                      refine xJ_iinc hX dX12_readFlow_143 rfl rfl ?_
                      dsimp only [List.set]
                      obtain ⟨h143, hp⟩ := hp
                      refine xJ_goto hX dX12_readFlow_146 (tgt := 27) (by decide) ?_
                      refine xJ_fg 4 ?_
                      dsimp only [List.set]
                      exact ih _ _ _ hM142 hx2 h143 hp
                    · replace hp := hp.2 c121
                      refine xJ_vret hX hB dX12_readFlow_124 (by decide) (by decide) ⟨rfl, hM118, rfl, hp⟩
                  · replace hp := hp.2 c99
                    refine xJ_iload_n hX dX12_readFlow_102 rfl ?_
                    refine xJ_iconst hX dX12_readFlow_103 ?_
                    refine xJ_icmp_ne hX dX12_readFlow_104 (tgt := 117) (by decide) hx3 ⟨by decide, by decide⟩ (fun c104 => ?_) (fun c104 => ?_)
                    · replace hp := hp.1 c104
                      refine xJ_aload_n hX dX12_readFlow_117 rfl ?_
                      refine xJ_callV (As := []) hX hB dX12_readFlow_118 lk_X12_68 im_X12_isGood se_X12_isGood rfl (by decide) (oX12_k hL) (c_X12_isGood hL hM96 hp) (by decide) rfl rfl rfl (Nat.le_of_ble_eq_true rfl) (by decide) (by decide) (fun v t9 M118 hv => ?_) (fun _ _ _ q => q.elim)
                      obtain ⟨r118, rfl, h118, hM118, ht9, hp⟩ := hv
                      replace ht9 := ht9.symm
                      subst ht9
                      dsimp only [Option.toList, List.cons_append, List.nil_append]
                      refine xJ_if_ne hX dX12_readFlow_121 (tgt := 125) (by decide) h118 (fun c121 => ?_) (fun c121 => ?_)
                      · replace hp := hp.1 c121
                        refine xJ_aload_n hX dX12_readFlow_125 rfl ?_
                        refine xJ_getR (b := (a + 3)) hX dX12_readFlow_126 fd_X12_20 rfl (oX12_k hL) (oX12_r9 hL) ?_
                        refine xJ_bipush hX dX12_readFlow_129 rfl ?_
                        refine xJ_bipush hX dX12_readFlow_131 rfl ?_
                        refine xJ_iload_n hX dX12_readFlow_133 rfl ?_
                        refine xJ_imul hX dX12_readFlow_134 ?_
                        obtain ⟨h134, hp⟩ := hp
                        refine xJ_iadd hX dX12_readFlow_135 ?_
                        obtain ⟨h135, hp⟩ := hp
                        refine xJ_iconst hX dX12_readFlow_136 ?_
                        refine xJ_iadd hX dX12_readFlow_137 ?_
                        obtain ⟨h137, hp⟩ := hp
                        refine xJ_iload_n hX dX12_readFlow_138 rfl ?_
                        refine xJ_iadd hX dX12_readFlow_139 ?_
                        obtain ⟨h139, hp⟩ := hp
                        refine xJ_iload hX dX12_readFlow_140 rfl ?_
                        obtain ⟨h142, hp⟩ := hp
                        refine xJ_iastM hX dX12_readFlow_142 (oX12_k9 hL) h142.1 (xnlt (oX12_n9 hL) h142.2) hM118 h58 (fun M142 e142 hM142 => ?_)
                        replace hp := hp M142 e142
                        refine xJ_iinc hX dX12_readFlow_143 rfl rfl ?_
                        dsimp only [List.set]
                        obtain ⟨h143, hp⟩ := hp
                        refine xJ_goto hX dX12_readFlow_146 (tgt := 27) (by decide) ?_
                        refine xJ_fg 4 ?_
                        dsimp only [List.set]
                        exact ih _ _ _ hM142 hx2 h143 hp
                      · replace hp := hp.2 c121
                        refine xJ_vret hX hB dX12_readFlow_124 (by decide) (by decide) ⟨rfl, hM118, rfl, hp⟩
                    · replace hp := hp.2 c104
                      refine xJ_aload_n hX dX12_readFlow_107 rfl ?_
                      refine xJ_bipush hX dX12_readFlow_108 rfl ?_
                      refine xJ_aload_n hX dX12_readFlow_110 rfl ?_
                      refine xJ_getI hX dX12_readFlow_111 fd_X12_93 rfl (oX12_k hL) ?_
                      refine xJ_callV (As := [_, _]) hX hB dX12_readFlow_114 lk_X12_85 im_X12_report se_X12_report rfl (by decide) (oX12_k hL) (c_X12_report hL hM96 ⟨by decide, by decide⟩ (hM96 _ _) hp) (by decide) rfl rfl rfl (Nat.le_of_ble_eq_true rfl) (by decide) (by decide) (fun v t9 M114 hv => ?_) (fun _ _ _ q => q.elim)
                      obtain ⟨rfl, hM114, ht9, hp⟩ := hv
                      replace ht9 := ht9.symm
                      subst ht9
                      dsimp only [Option.toList, List.cons_append, List.nil_append]
                      refine xJ_aload_n hX dX12_readFlow_117 rfl ?_
                      refine xJ_callV (As := []) hX hB dX12_readFlow_118 lk_X12_68 im_X12_isGood se_X12_isGood rfl (by decide) (oX12_k hL) (c_X12_isGood hL hM114 hp) (by decide) rfl rfl rfl (Nat.le_of_ble_eq_true rfl) (by decide) (by decide) (fun v t9 M118 hv => ?_) (fun _ _ _ q => q.elim)
                      obtain ⟨r118, rfl, h118, hM118, ht9, hp⟩ := hv
                      replace ht9 := ht9.symm
                      subst ht9
                      dsimp only [Option.toList, List.cons_append, List.nil_append]
                      refine xJ_if_ne hX dX12_readFlow_121 (tgt := 125) (by decide) h118 (fun c121 => ?_) (fun c121 => ?_)
                      · replace hp := hp.1 c121
                        refine xJ_aload_n hX dX12_readFlow_125 rfl ?_
                        refine xJ_getR (b := (a + 3)) hX dX12_readFlow_126 fd_X12_20 rfl (oX12_k hL) (oX12_r9 hL) ?_
                        refine xJ_bipush hX dX12_readFlow_129 rfl ?_
                        refine xJ_bipush hX dX12_readFlow_131 rfl ?_
                        refine xJ_iload_n hX dX12_readFlow_133 rfl ?_
                        refine xJ_imul hX dX12_readFlow_134 ?_
                        obtain ⟨h134, hp⟩ := hp
                        refine xJ_iadd hX dX12_readFlow_135 ?_
                        obtain ⟨h135, hp⟩ := hp
                        refine xJ_iconst hX dX12_readFlow_136 ?_
                        refine xJ_iadd hX dX12_readFlow_137 ?_
                        obtain ⟨h137, hp⟩ := hp
                        refine xJ_iload_n hX dX12_readFlow_138 rfl ?_
                        refine xJ_iadd hX dX12_readFlow_139 ?_
                        obtain ⟨h139, hp⟩ := hp
                        refine xJ_iload hX dX12_readFlow_140 rfl ?_
                        obtain ⟨h142, hp⟩ := hp
                        refine xJ_iastM hX dX12_readFlow_142 (oX12_k9 hL) h142.1 (xnlt (oX12_n9 hL) h142.2) hM118 h58 (fun M142 e142 hM142 => ?_)
                        replace hp := hp M142 e142
                        refine xJ_iinc hX dX12_readFlow_143 rfl rfl ?_
                        dsimp only [List.set]
                        obtain ⟨h143, hp⟩ := hp
                        refine xJ_goto hX dX12_readFlow_146 (tgt := 27) (by decide) ?_
                        refine xJ_fg 4 ?_
                        dsimp only [List.set]
                        exact ih _ _ _ hM142 hx2 h143 hp
                      · replace hp := hp.2 c121
                        refine xJ_vret hX hB dX12_readFlow_124 (by decide) (by decide) ⟨rfl, hM118, rfl, hp⟩
                · replace hp := hp.2 c82
                  refine xJ_aload_n hX dX12_readFlow_85 rfl ?_
                  refine xJ_bipush hX dX12_readFlow_86 rfl ?_
                  refine xJ_aload_n hX dX12_readFlow_88 rfl ?_
                  refine xJ_getI hX dX12_readFlow_89 fd_X12_93 rfl (oX12_k hL) ?_
                  refine xJ_callV (As := [_, _]) hX hB dX12_readFlow_92 lk_X12_85 im_X12_report se_X12_report rfl (by decide) (oX12_k hL) (c_X12_report hL hM79 ⟨by decide, by decide⟩ (hM79 _ _) hp) (by decide) rfl rfl rfl (Nat.le_of_ble_eq_true rfl) (by decide) (by decide) (fun v t9 M92 hv => ?_) (fun _ _ _ q => q.elim)
                  obtain ⟨rfl, hM92, ht9, hp⟩ := hv
                  replace ht9 := ht9.symm
                  subst ht9
                  dsimp only [Option.toList, List.cons_append, List.nil_append]
                  refine xJ_aload_n hX dX12_readFlow_95 rfl ?_
                  refine xJ_callV (As := []) hX hB dX12_readFlow_96 lk_X12_68 im_X12_isGood se_X12_isGood rfl (by decide) (oX12_k hL) (c_X12_isGood hL hM92 hp) (by decide) rfl rfl rfl (Nat.le_of_ble_eq_true rfl) (by decide) (by decide) (fun v t9 M96 hv => ?_) (fun _ _ _ q => q.elim)
                  obtain ⟨r96, rfl, h96, hM96, ht9, hp⟩ := hv
                  replace ht9 := ht9.symm
                  subst ht9
                  dsimp only [Option.toList, List.cons_append, List.nil_append]
                  refine xJ_if_eq hX dX12_readFlow_99 (tgt := 117) (by decide) h96 (fun c99 => ?_) (fun c99 => ?_)
                  · replace hp := hp.1 c99
                    refine xJ_aload_n hX dX12_readFlow_117 rfl ?_
                    refine xJ_callV (As := []) hX hB dX12_readFlow_118 lk_X12_68 im_X12_isGood se_X12_isGood rfl (by decide) (oX12_k hL) (c_X12_isGood hL hM96 hp) (by decide) rfl rfl rfl (Nat.le_of_ble_eq_true rfl) (by decide) (by decide) (fun v t9 M118 hv => ?_) (fun _ _ _ q => q.elim)
                    obtain ⟨r118, rfl, h118, hM118, ht9, hp⟩ := hv
                    replace ht9 := ht9.symm
                    subst ht9
                    dsimp only [Option.toList, List.cons_append, List.nil_append]
                    refine xJ_if_ne hX dX12_readFlow_121 (tgt := 125) (by decide) h118 (fun c121 => ?_) (fun c121 => ?_)
                    · replace hp := hp.1 c121
                      refine xJ_aload_n hX dX12_readFlow_125 rfl ?_
                      refine xJ_getR (b := (a + 3)) hX dX12_readFlow_126 fd_X12_20 rfl (oX12_k hL) (oX12_r9 hL) ?_
                      refine xJ_bipush hX dX12_readFlow_129 rfl ?_
                      refine xJ_bipush hX dX12_readFlow_131 rfl ?_
                      refine xJ_iload_n hX dX12_readFlow_133 rfl ?_
                      refine xJ_imul hX dX12_readFlow_134 ?_
                      obtain ⟨h134, hp⟩ := hp
                      refine xJ_iadd hX dX12_readFlow_135 ?_
                      obtain ⟨h135, hp⟩ := hp
                      refine xJ_iconst hX dX12_readFlow_136 ?_
                      refine xJ_iadd hX dX12_readFlow_137 ?_
                      obtain ⟨h137, hp⟩ := hp
                      refine xJ_iload_n hX dX12_readFlow_138 rfl ?_
                      refine xJ_iadd hX dX12_readFlow_139 ?_
                      obtain ⟨h139, hp⟩ := hp
                      refine xJ_iload hX dX12_readFlow_140 rfl ?_
                      obtain ⟨h142, hp⟩ := hp
                      refine xJ_iastM hX dX12_readFlow_142 (oX12_k9 hL) h142.1 (xnlt (oX12_n9 hL) h142.2) hM118 h58 (fun M142 e142 hM142 => ?_)
                      replace hp := hp M142 e142
                      refine xJ_iinc hX dX12_readFlow_143 rfl rfl ?_
                      dsimp only [List.set]
                      obtain ⟨h143, hp⟩ := hp
                      refine xJ_goto hX dX12_readFlow_146 (tgt := 27) (by decide) ?_
                      refine xJ_fg 4 ?_
                      dsimp only [List.set]
                      exact ih _ _ _ hM142 hx2 h143 hp
                    · replace hp := hp.2 c121
                      refine xJ_vret hX hB dX12_readFlow_124 (by decide) (by decide) ⟨rfl, hM118, rfl, hp⟩
                  · replace hp := hp.2 c99
                    refine xJ_iload_n hX dX12_readFlow_102 rfl ?_
                    refine xJ_iconst hX dX12_readFlow_103 ?_
                    refine xJ_icmp_ne hX dX12_readFlow_104 (tgt := 117) (by decide) hx3 ⟨by decide, by decide⟩ (fun c104 => ?_) (fun c104 => ?_)
                    · replace hp := hp.1 c104
                      refine xJ_aload_n hX dX12_readFlow_117 rfl ?_
                      refine xJ_callV (As := []) hX hB dX12_readFlow_118 lk_X12_68 im_X12_isGood se_X12_isGood rfl (by decide) (oX12_k hL) (c_X12_isGood hL hM96 hp) (by decide) rfl rfl rfl (Nat.le_of_ble_eq_true rfl) (by decide) (by decide) (fun v t9 M118 hv => ?_) (fun _ _ _ q => q.elim)
                      obtain ⟨r118, rfl, h118, hM118, ht9, hp⟩ := hv
                      replace ht9 := ht9.symm
                      subst ht9
                      dsimp only [Option.toList, List.cons_append, List.nil_append]
                      refine xJ_if_ne hX dX12_readFlow_121 (tgt := 125) (by decide) h118 (fun c121 => ?_) (fun c121 => ?_)
                      · replace hp := hp.1 c121
                        refine xJ_aload_n hX dX12_readFlow_125 rfl ?_
                        refine xJ_getR (b := (a + 3)) hX dX12_readFlow_126 fd_X12_20 rfl (oX12_k hL) (oX12_r9 hL) ?_
                        refine xJ_bipush hX dX12_readFlow_129 rfl ?_
                        refine xJ_bipush hX dX12_readFlow_131 rfl ?_
                        refine xJ_iload_n hX dX12_readFlow_133 rfl ?_
                        refine xJ_imul hX dX12_readFlow_134 ?_
                        obtain ⟨h134, hp⟩ := hp
                        refine xJ_iadd hX dX12_readFlow_135 ?_
                        obtain ⟨h135, hp⟩ := hp
                        refine xJ_iconst hX dX12_readFlow_136 ?_
                        refine xJ_iadd hX dX12_readFlow_137 ?_
                        obtain ⟨h137, hp⟩ := hp
                        refine xJ_iload_n hX dX12_readFlow_138 rfl ?_
                        refine xJ_iadd hX dX12_readFlow_139 ?_
                        obtain ⟨h139, hp⟩ := hp
                        refine xJ_iload hX dX12_readFlow_140 rfl ?_
                        obtain ⟨h142, hp⟩ := hp
                        refine xJ_iastM hX dX12_readFlow_142 (oX12_k9 hL) h142.1 (xnlt (oX12_n9 hL) h142.2) hM118 h58 (fun M142 e142 hM142 => ?_)
                        replace hp := hp M142 e142
                        refine xJ_iinc hX dX12_readFlow_143 rfl rfl ?_
                        dsimp only [List.set]
                        obtain ⟨h143, hp⟩ := hp
                        refine xJ_goto hX dX12_readFlow_146 (tgt := 27) (by decide) ?_
                        refine xJ_fg 4 ?_
                        dsimp only [List.set]
                        exact ih _ _ _ hM142 hx2 h143 hp
                      · replace hp := hp.2 c121
                        refine xJ_vret hX hB dX12_readFlow_124 (by decide) (by decide) ⟨rfl, hM118, rfl, hp⟩
                    · replace hp := hp.2 c104
                      refine xJ_aload_n hX dX12_readFlow_107 rfl ?_
                      refine xJ_bipush hX dX12_readFlow_108 rfl ?_
                      refine xJ_aload_n hX dX12_readFlow_110 rfl ?_
                      refine xJ_getI hX dX12_readFlow_111 fd_X12_93 rfl (oX12_k hL) ?_
                      refine xJ_callV (As := [_, _]) hX hB dX12_readFlow_114 lk_X12_85 im_X12_report se_X12_report rfl (by decide) (oX12_k hL) (c_X12_report hL hM96 ⟨by decide, by decide⟩ (hM96 _ _) hp) (by decide) rfl rfl rfl (Nat.le_of_ble_eq_true rfl) (by decide) (by decide) (fun v t9 M114 hv => ?_) (fun _ _ _ q => q.elim)
                      obtain ⟨rfl, hM114, ht9, hp⟩ := hv
                      replace ht9 := ht9.symm
                      subst ht9
                      dsimp only [Option.toList, List.cons_append, List.nil_append]
                      refine xJ_aload_n hX dX12_readFlow_117 rfl ?_
                      refine xJ_callV (As := []) hX hB dX12_readFlow_118 lk_X12_68 im_X12_isGood se_X12_isGood rfl (by decide) (oX12_k hL) (c_X12_isGood hL hM114 hp) (by decide) rfl rfl rfl (Nat.le_of_ble_eq_true rfl) (by decide) (by decide) (fun v t9 M118 hv => ?_) (fun _ _ _ q => q.elim)
                      obtain ⟨r118, rfl, h118, hM118, ht9, hp⟩ := hv
                      replace ht9 := ht9.symm
                      subst ht9
                      dsimp only [Option.toList, List.cons_append, List.nil_append]
                      refine xJ_if_ne hX dX12_readFlow_121 (tgt := 125) (by decide) h118 (fun c121 => ?_) (fun c121 => ?_)
                      · replace hp := hp.1 c121
                        refine xJ_aload_n hX dX12_readFlow_125 rfl ?_
                        refine xJ_getR (b := (a + 3)) hX dX12_readFlow_126 fd_X12_20 rfl (oX12_k hL) (oX12_r9 hL) ?_
                        refine xJ_bipush hX dX12_readFlow_129 rfl ?_
                        refine xJ_bipush hX dX12_readFlow_131 rfl ?_
                        refine xJ_iload_n hX dX12_readFlow_133 rfl ?_
                        refine xJ_imul hX dX12_readFlow_134 ?_
                        obtain ⟨h134, hp⟩ := hp
                        refine xJ_iadd hX dX12_readFlow_135 ?_
                        obtain ⟨h135, hp⟩ := hp
                        refine xJ_iconst hX dX12_readFlow_136 ?_
                        refine xJ_iadd hX dX12_readFlow_137 ?_
                        obtain ⟨h137, hp⟩ := hp
                        refine xJ_iload_n hX dX12_readFlow_138 rfl ?_
                        refine xJ_iadd hX dX12_readFlow_139 ?_
                        obtain ⟨h139, hp⟩ := hp
                        refine xJ_iload hX dX12_readFlow_140 rfl ?_
                        obtain ⟨h142, hp⟩ := hp
                        refine xJ_iastM hX dX12_readFlow_142 (oX12_k9 hL) h142.1 (xnlt (oX12_n9 hL) h142.2) hM118 h58 (fun M142 e142 hM142 => ?_)
                        replace hp := hp M142 e142
                        refine xJ_iinc hX dX12_readFlow_143 rfl rfl ?_
                        dsimp only [List.set]
                        obtain ⟨h143, hp⟩ := hp
                        refine xJ_goto hX dX12_readFlow_146 (tgt := 27) (by decide) ?_
                        refine xJ_fg 4 ?_
                        dsimp only [List.set]
                        exact ih _ _ _ hM142 hx2 h143 hp
                      · replace hp := hp.2 c121
                        refine xJ_vret hX hB dX12_readFlow_124 (by decide) (by decide) ⟨rfl, hM118, rfl, hp⟩
    refine lp27 _ (fun y2 y3 M hM hy2 hy3 hp => ?_) F _ _ _ hM15 (hM15 _ _) ⟨by decide, by decide⟩ hp
    · refine xJ_aload_n hX dX12_readFlow_149 rfl ?_
      refine xJ_callV (As := []) hX hB dX12_readFlow_150 lk_X12_68 im_X12_isGood se_X12_isGood rfl (by decide) (oX12_k hL) (c_X12_isGood hL hM hp) (by decide) rfl rfl rfl (Nat.le_of_ble_eq_true rfl) (by decide) (by decide) (fun v t9 M150 hv => ?_) (fun _ _ _ q => q.elim)
      obtain ⟨r150, rfl, h150, hM150, ht9, hp⟩ := hv
      replace ht9 := ht9.symm
      subst ht9
      dsimp only [Option.toList, List.cons_append, List.nil_append]
      refine xJ_if_ne hX dX12_readFlow_153 (tgt := 157) (by decide) h150 (fun c153 => ?_) (fun c153 => ?_)
      · replace hp := hp.1 c153
        refine xJ_aload_n hX dX12_readFlow_157 rfl ?_
        refine xJ_getR (b := (a + 3)) hX dX12_readFlow_158 fd_X12_20 rfl (oX12_k hL) (oX12_r9 hL) ?_
        refine xJ_bipush hX dX12_readFlow_161 rfl ?_
        refine xJ_bipush hX dX12_readFlow_163 rfl ?_
        refine xJ_iload_n hX dX12_readFlow_165 rfl ?_
        refine xJ_imul hX dX12_readFlow_166 ?_
        obtain ⟨h166, hp⟩ := hp
        refine xJ_iadd hX dX12_readFlow_167 ?_
        obtain ⟨h167, hp⟩ := hp
        refine xJ_iconst hX dX12_readFlow_168 ?_
        refine xJ_iadd hX dX12_readFlow_169 ?_
        obtain ⟨h169, hp⟩ := hp
        refine xJ_iload_n hX dX12_readFlow_170 rfl ?_
        obtain ⟨h171, hp⟩ := hp
        refine xJ_iastM hX dX12_readFlow_171 (oX12_k9 hL) h171.1 (xnlt (oX12_n9 hL) h171.2) hM150 hy3 (fun M171 e171 hM171 => ?_)
        replace hp := hp M171 e171
        refine xJ_aload_n hX dX12_readFlow_172 rfl ?_
        refine xJ_ldcS 8 hX dX12_readFlow_173 (by decide +kernel) ?_
        refine xJ_callV (As := [_]) hX hB dX12_readFlow_175 lk_X12_113 im_X12_takeWord se_X12_takeWord rfl (by decide) (oX12_k hL) (c_X12_takeWord hL (by decide) hM171 hp) (by decide) rfl rfl rfl (Nat.le_of_ble_eq_true rfl) (by decide) (by decide) (fun v t9 M175 hv => ?_) (fun _ _ _ q => q.elim)
        obtain ⟨r175, rfl, h175, hM175, ht9, hp⟩ := hv
        replace ht9 := ht9.symm
        subst ht9
        dsimp only [Option.toList, List.cons_append, List.nil_append]
        refine xJ_if_eq hX dX12_readFlow_178 (tgt := 202) (by decide) h175 (fun c178 => ?_) (fun c178 => ?_)
        · replace hp := hp.1 c178
          refine xJ_aload_n hX dX12_readFlow_202 rfl ?_
          refine xJ_getR (b := (a + 3)) hX dX12_readFlow_203 fd_X12_20 rfl (oX12_k hL) (oX12_r9 hL) ?_
          refine xJ_iconst hX dX12_readFlow_206 ?_
          refine xJ_dup2 hX dX12_readFlow_207 rfl rfl ?_
          obtain ⟨h208, hp⟩ := hp
          refine xJ_iald hX dX12_readFlow_208 (oX12_k9 hL) h208.1 (xnlt (oX12_n9 hL) h208.2) ?_
          refine xJ_iconst hX dX12_readFlow_209 ?_
          refine xJ_iadd hX dX12_readFlow_210 ?_
          obtain ⟨h210, hp⟩ := hp
          obtain ⟨h211, hp⟩ := hp
          refine xJ_iastM hX dX12_readFlow_211 (oX12_k9 hL) h211.1 (xnlt (oX12_n9 hL) h211.2) hM175 h210 (fun M211 e211 hM211 => ?_)
          replace hp := hp M211 e211
          refine xJ_vret hX hB dX12_readFlow_212 (by decide) (by decide) ⟨rfl, hM211, rfl, hp⟩
        · replace hp := hp.2 c178
          refine xJ_aload_n hX dX12_readFlow_181 rfl ?_
          refine xJ_getR (b := (a + 3)) hX dX12_readFlow_182 fd_X12_20 rfl (oX12_k hL) (oX12_r9 hL) ?_
          refine xJ_bipush hX dX12_readFlow_185 rfl ?_
          refine xJ_bipush hX dX12_readFlow_187 rfl ?_
          refine xJ_iload_n hX dX12_readFlow_189 rfl ?_
          refine xJ_imul hX dX12_readFlow_190 ?_
          obtain ⟨h190, hp⟩ := hp
          refine xJ_iadd hX dX12_readFlow_191 ?_
          obtain ⟨h191, hp⟩ := hp
          refine xJ_iconst hX dX12_readFlow_192 ?_
          refine xJ_iadd hX dX12_readFlow_193 ?_
          obtain ⟨h193, hp⟩ := hp
          refine xJ_aload_n hX dX12_readFlow_194 rfl ?_
          refine xJ_iconst hX dX12_readFlow_195 ?_
          refine xJ_bipush hX dX12_readFlow_196 rfl ?_
          refine xJ_callV (As := [_, _]) hX hB dX12_readFlow_198 lk_X12_123 im_X12_number se_X12_number rfl (by decide) (oX12_k hL) (c_X12_number hL hM175 ⟨by decide, by decide⟩ ⟨by decide, by decide⟩ hp) (by decide) rfl rfl rfl (Nat.le_of_ble_eq_true rfl) (by decide) (by decide) (fun v t9 M198 hv => ?_) (fun _ _ _ q => q.elim)
          obtain ⟨r198, rfl, h198, hM198, ht9, hp⟩ := hv
          replace ht9 := ht9.symm
          subst ht9
          dsimp only [Option.toList, List.cons_append, List.nil_append]
          obtain ⟨h201, hp⟩ := hp
          refine xJ_iastM hX dX12_readFlow_201 (oX12_k9 hL) h201.1 (xnlt (oX12_n9 hL) h201.2) hM198 h198 (fun M201 e201 hM201 => ?_)
          replace hp := hp M201 e201
          refine xJ_aload_n hX dX12_readFlow_202 rfl ?_
          refine xJ_getR (b := (a + 3)) hX dX12_readFlow_203 fd_X12_20 rfl (oX12_k hL) (oX12_r9 hL) ?_
          refine xJ_iconst hX dX12_readFlow_206 ?_
          refine xJ_dup2 hX dX12_readFlow_207 rfl rfl ?_
          obtain ⟨h208, hp⟩ := hp
          refine xJ_iald hX dX12_readFlow_208 (oX12_k9 hL) h208.1 (xnlt (oX12_n9 hL) h208.2) ?_
          refine xJ_iconst hX dX12_readFlow_209 ?_
          refine xJ_iadd hX dX12_readFlow_210 ?_
          obtain ⟨h210, hp⟩ := hp
          obtain ⟨h211, hp⟩ := hp
          refine xJ_iastM hX dX12_readFlow_211 (oX12_k9 hL) h211.1 (xnlt (oX12_n9 hL) h211.2) hM201 h210 (fun M211 e211 hM211 => ?_)
          replace hp := hp M211 e211
          refine xJ_vret hX hB dX12_readFlow_212 (by decide) (by decide) ⟨rfl, hM211, rfl, hp⟩
      · replace hp := hp.2 c153
        refine xJ_vret hX hB dX12_readFlow_156 (by decide) (by decide) ⟨rfl, hM150, rfl, hp⟩
def p_X12_putPacket_14 (F : Nat) (b0 : Nat) (n0 : Nat) (Q : xMe → Prop) (K35 : Int → Int → Int → Int → xMe → Prop) : Nat → Int → Int → Int → Int → Int → xMe → Prop
  | 0, _, _, _, _, _, _ => False
  | k + 1, x1, x2, x3, x4, x5, M =>
    ((9 ≤ x5 → K35 x1 x2 x3 x4 M) ∧ (x5 < 9 → (xR (x4 + x5)) ∧ ((0 : Int) ≤ (x4 + x5) ∧ ((x4 + x5) : Int) < n0) ∧ (∀ M28 : xMe, M28 = xw M b0 (x4 + x5).toNat 0 → (xR (x5 + 1)) ∧ p_X12_putPacket_14 F b0 n0 Q K35 k x1 x2 x3 x4 (x5 + 1) M28)))
def p_X12_putPacket (F : Nat) (b0 : Nat) (n0 : Nat) (x1 : Int) (x2 : Int) (x3 : Int) (M : xMe) (Q : xMe → Prop) : Prop :=
  ((0 : Int) ≤ 3 ∧ (3 : Int) < n0) ∧ (xR (9 * (M b0 3))) ∧ (xR (81 + (9 * (M b0 3)))) ∧ (∀ z9 : Int, z9 = 81 + (9 * (M b0 3)) → p_X12_putPacket_14 F b0 n0 Q (fun y1 y2 y3 y4 M => (xR (y4 + 0)) ∧ ((0 : Int) ≤ (y4 + 0) ∧ ((y4 + 0) : Int) < n0) ∧ (∀ M41 : xMe, M41 = xw M b0 (y4 + 0).toNat y1 → (xR (y4 + 1)) ∧ ((0 : Int) ≤ (y4 + 1) ∧ ((y4 + 1) : Int) < n0) ∧ (∀ M48 : xMe, M48 = xw M41 b0 (y4 + 1).toNat y2 → (xR (y4 + 2)) ∧ ((0 : Int) ≤ (y4 + 2) ∧ ((y4 + 2) : Int) < n0) ∧ (∀ M55 : xMe, M55 = xw M48 b0 (y4 + 2).toNat y3 → (xR (y4 + 6)) ∧ ((0 : Int) ≤ (y4 + 6) ∧ ((y4 + 6) : Int) < n0) ∧ (∀ M63 : xMe, M63 = xw M55 b0 (y4 + 6).toNat ((-1)) → ((0 : Int) ≤ 3 ∧ (3 : Int) < n0) ∧ (xR ((M63 b0 3) + 1)) ∧ ((0 : Int) ≤ 3 ∧ (3 : Int) < n0) ∧ (∀ M70 : xMe, M70 = xw M63 b0 3 ((M63 b0 3) + 1) → Q M70)))))) F x1 x2 x3 z9 0 M)
set_option maxHeartbeats 4000000 in
set_option maxRecDepth 100000 in
theorem c_X12_putPacket {G : xGx} {t : xTh} {M : xMe} {F : Nat} {b0 : Nat} {n0 : Nat} {x1 : Int} {x2 : Int} {x3 : Int} {Q : xMe → Prop} (hk0 : xk t b0 = 14) (hn0 : xn t b0 = n0) (hn0R : xR (n0 : Int)) (hM : xMR M) (hx1 : xR x1) (hx2 : xR x2) (hx3 : xR x3) (hp : p_X12_putPacket F b0 n0 x1 x2 x3 M Q) : xCt G yX12_putPacket cX12_putPacket 6 none 0 0 0 [vr b0, vi x1, vi x2, vi x3] t M (fun v t' M' => v = none ∧ xMR M' ∧ t' = t ∧ Q M') (fun _ _ _ => False) := by
  refine xCt_of (L0 := [vr b0, vi x1, vi x2, vi x3, vU, vU]) (by decide +kernel) (Nat.le_of_ble_eq_true rfl) rfl ?_
  intro X hX hB
  unfold p_X12_putPacket at hp
  refine xJ_bipush hX dX12_putPacket_0 rfl ?_
  refine xJ_bipush hX dX12_putPacket_2 rfl ?_
  refine xJ_aload_n hX dX12_putPacket_4 rfl ?_
  refine xJ_iconst hX dX12_putPacket_5 ?_
  obtain ⟨h6, hp⟩ := hp
  refine xJ_iald hX dX12_putPacket_6 hk0 h6.1 (xnlt hn0 h6.2) ?_
  refine xJ_imul hX dX12_putPacket_7 ?_
  obtain ⟨h7, hp⟩ := hp
  refine xJ_iadd hX dX12_putPacket_8 ?_
  obtain ⟨h8, hp⟩ := hp
  refine xJ_istore hX dX12_putPacket_9 (Nat.le_of_ble_eq_true rfl) rfl ?_
  dsimp only [List.set]
  replace hp := hp _ rfl
  refine xJ_iconst hX dX12_putPacket_11 ?_
  refine xJ_istore hX dX12_putPacket_12 (Nat.le_of_ble_eq_true rfl) rfl ?_
  dsimp only [List.set]
  have lp14 : ∀ (K35 : Int → Int → Int → Int → xMe → Prop) (hK35 : ∀ (y1 : Int) (y2 : Int) (y3 : Int) (y4 : Int) (M : xMe) (hM : xMR M) (hy1 : xR y1) (hy2 : xR y2) (hy3 : xR y3) (hy4 : xR y4) (hp : K35 y1 y2 y3 y4 M), xJ X 0 0 t M 35 [vr b0, vi y1, vi y2, vi y3, vi y4, vU] []) (k : Nat) (x1 : Int) (x2 : Int) (x3 : Int) (x4 : Int) (x5 : Int) (M : xMe) (hM : xMR M) (hx1 : xR x1) (hx2 : xR x2) (hx3 : xR x3) (hx4 : xR x4) (hx5 : xR x5) (hp : p_X12_putPacket_14 F b0 n0 Q K35 k x1 x2 x3 x4 x5 M), xJ X 0 0 t M 14 [vr b0, vi x1, vi x2, vi x3, vi x4, vi x5] [] := by
    intro K35 hK35 k
    induction k with
    | zero => intro x1 x2 x3 x4 x5 M hM hx1 hx2 hx3 hx4 hx5 hp; exact hp.elim
    | succ k ih =>
      intro x1 x2 x3 x4 x5 M hM hx1 hx2 hx3 hx4 hx5 hp
      unfold p_X12_putPacket_14 at hp
      refine xJ_iload hX dX12_putPacket_14 rfl ?_
      refine xJ_bipush hX dX12_putPacket_16 rfl ?_
      refine xJ_icmp_ge hX dX12_putPacket_18 (tgt := 35) (by decide) hx5 ⟨by decide, by decide⟩ (fun c18 => ?_) (fun c18 => ?_)
      · replace hp := hp.1 c18
        refine xJ_fg 5 ?_
        dsimp only [List.set]
        exact hK35 _ _ _ _ _ hM hx1 hx2 hx3 hx4 hp
      · replace hp := hp.2 c18
        refine xJ_aload_n hX dX12_putPacket_21 rfl ?_
        refine xJ_iload hX dX12_putPacket_22 rfl ?_
        refine xJ_iload hX dX12_putPacket_24 rfl ?_
        refine xJ_iadd hX dX12_putPacket_26 ?_
        obtain ⟨h26, hp⟩ := hp
        refine xJ_iconst hX dX12_putPacket_27 ?_
        obtain ⟨h28, hp⟩ := hp
        refine xJ_iastM hX dX12_putPacket_28 hk0 h28.1 (xnlt hn0 h28.2) hM ⟨by decide, by decide⟩ (fun M28 e28 hM28 => ?_)
        replace hp := hp M28 e28
        refine xJ_iinc hX dX12_putPacket_29 rfl rfl ?_
        dsimp only [List.set]
        obtain ⟨h29, hp⟩ := hp
        refine xJ_goto hX dX12_putPacket_32 (tgt := 14) (by decide) ?_
        exact ih _ _ _ _ _ _ hM28 hx1 hx2 hx3 hx4 h29 hp
  refine lp14 _ (fun y1 y2 y3 y4 M hM hy1 hy2 hy3 hy4 hp => ?_) F _ _ _ _ _ _ hM hx1 hx2 hx3 h8 ⟨by decide, by decide⟩ hp
  · refine xJ_aload_n hX dX12_putPacket_35 rfl ?_
    refine xJ_iload hX dX12_putPacket_36 rfl ?_
    refine xJ_iconst hX dX12_putPacket_38 ?_
    refine xJ_iadd hX dX12_putPacket_39 ?_
    obtain ⟨h39, hp⟩ := hp
    refine xJ_iload_n hX dX12_putPacket_40 rfl ?_
    obtain ⟨h41, hp⟩ := hp
    refine xJ_iastM hX dX12_putPacket_41 hk0 h41.1 (xnlt hn0 h41.2) hM hy1 (fun M41 e41 hM41 => ?_)
    replace hp := hp M41 e41
    refine xJ_aload_n hX dX12_putPacket_42 rfl ?_
    refine xJ_iload hX dX12_putPacket_43 rfl ?_
    refine xJ_iconst hX dX12_putPacket_45 ?_
    refine xJ_iadd hX dX12_putPacket_46 ?_
    obtain ⟨h46, hp⟩ := hp
    refine xJ_iload_n hX dX12_putPacket_47 rfl ?_
    obtain ⟨h48, hp⟩ := hp
    refine xJ_iastM hX dX12_putPacket_48 hk0 h48.1 (xnlt hn0 h48.2) hM41 hy2 (fun M48 e48 hM48 => ?_)
    replace hp := hp M48 e48
    refine xJ_aload_n hX dX12_putPacket_49 rfl ?_
    refine xJ_iload hX dX12_putPacket_50 rfl ?_
    refine xJ_iconst hX dX12_putPacket_52 ?_
    refine xJ_iadd hX dX12_putPacket_53 ?_
    obtain ⟨h53, hp⟩ := hp
    refine xJ_iload_n hX dX12_putPacket_54 rfl ?_
    obtain ⟨h55, hp⟩ := hp
    refine xJ_iastM hX dX12_putPacket_55 hk0 h55.1 (xnlt hn0 h55.2) hM48 hy3 (fun M55 e55 hM55 => ?_)
    replace hp := hp M55 e55
    refine xJ_aload_n hX dX12_putPacket_56 rfl ?_
    refine xJ_iload hX dX12_putPacket_57 rfl ?_
    refine xJ_bipush hX dX12_putPacket_59 rfl ?_
    refine xJ_iadd hX dX12_putPacket_61 ?_
    obtain ⟨h61, hp⟩ := hp
    refine xJ_iconst hX dX12_putPacket_62 ?_
    obtain ⟨h63, hp⟩ := hp
    refine xJ_iastM hX dX12_putPacket_63 hk0 h63.1 (xnlt hn0 h63.2) hM55 ⟨by decide, by decide⟩ (fun M63 e63 hM63 => ?_)
    replace hp := hp M63 e63
    refine xJ_aload_n hX dX12_putPacket_64 rfl ?_
    refine xJ_iconst hX dX12_putPacket_65 ?_
    refine xJ_dup2 hX dX12_putPacket_66 rfl rfl ?_
    obtain ⟨h67, hp⟩ := hp
    refine xJ_iald hX dX12_putPacket_67 hk0 h67.1 (xnlt hn0 h67.2) ?_
    refine xJ_iconst hX dX12_putPacket_68 ?_
    refine xJ_iadd hX dX12_putPacket_69 ?_
    obtain ⟨h69, hp⟩ := hp
    obtain ⟨h70, hp⟩ := hp
    refine xJ_iastM hX dX12_putPacket_70 hk0 h70.1 (xnlt hn0 h70.2) hM63 h69 (fun M70 e70 hM70 => ?_)
    replace hp := hp M70 e70
    refine xJ_vret hX hB dX12_putPacket_71 (by decide) (by decide) ⟨rfl, hM70, rfl, hp⟩
def p_X12_readPacket (F : Nat) (a : Nat) (x1 : Int) (M : xMe) (Q : xMe → Prop) : Prop :=
  ((0 : Int) ≤ 3 ∧ (3 : Int) < 2105) ∧ (((M (a + 3) 3) ≠ 40 → ((0 : Int) ≤ 2 ∧ (2 : Int) < 2105) ∧ (xR ((M (a + 3) 2) - 1)) ∧ p_X12_number F a 0 ((M (a + 3) 2) - 1) M (fun r28 M28 => p_X12_number F a 0 999 M28 (fun r37 M37 => p_X12_number F a 1 999 M37 (fun r46 M46 => p_X12_isGood a M46 (fun r52 M52 => ((r52 = 0 → Q M52) ∧ (r52 ≠ 0 → p_X12_putPacket F (a + 3) 2105 r28 r37 r46 M52 (fun M66 => Q M66)))))))) ∧ ((M (a + 3) 3) = 40 → p_X12_report a ((-5)) x1 M (fun M15 => ((0 : Int) ≤ 2 ∧ (2 : Int) < 2105) ∧ (xR ((M15 (a + 3) 2) - 1)) ∧ p_X12_number F a 0 ((M15 (a + 3) 2) - 1) M15 (fun r28 M28 => p_X12_number F a 0 999 M28 (fun r37 M37 => p_X12_number F a 1 999 M37 (fun r46 M46 => p_X12_isGood a M46 (fun r52 M52 => ((r52 = 0 → Q M52) ∧ (r52 ≠ 0 → p_X12_putPacket F (a + 3) 2105 r28 r37 r46 M52 (fun M66 => Q M66))))))))))
set_option maxHeartbeats 4000000 in
set_option maxRecDepth 100000 in
theorem c_X12_readPacket {G : xGx} {t : xTh} {M : xMe} {F : Nat} {a : Nat} {x1 : Int} {Q : xMe → Prop} (hL : oX12 t a) (hM : xMR M) (hx1 : xR x1) (hp : p_X12_readPacket F a x1 M Q) : xCt G yX12_readPacket cX12_readPacket 5 none 3 0 0 [vr a, vi x1] t M (fun v t' M' => v = none ∧ xMR M' ∧ t' = t ∧ Q M') (fun _ _ _ => False) := by
  refine xCt_of (L0 := [vr a, vi x1, vU, vU, vU]) (by decide +kernel) (Nat.le_of_ble_eq_true rfl) rfl ?_
  intro X hX hB
  unfold p_X12_readPacket at hp
  refine xJ_aload_n hX dX12_readPacket_0 rfl ?_
  refine xJ_getR (b := (a + 3)) hX dX12_readPacket_1 fd_X12_20 rfl (oX12_k hL) (oX12_r9 hL) ?_
  refine xJ_iconst hX dX12_readPacket_4 ?_
  obtain ⟨h5, hp⟩ := hp
  refine xJ_iald hX dX12_readPacket_5 (oX12_k9 hL) h5.1 (xnlt (oX12_n9 hL) h5.2) ?_
  refine xJ_bipush hX dX12_readPacket_6 rfl ?_
  refine xJ_icmp_ne hX dX12_readPacket_8 (tgt := 18) (by decide) (hM _ _) ⟨by decide, by decide⟩ (fun c8 => ?_) (fun c8 => ?_)
  · replace hp := hp.1 c8
    refine xJ_aload_n hX dX12_readPacket_18 rfl ?_
    refine xJ_iconst hX dX12_readPacket_19 ?_
    refine xJ_aload_n hX dX12_readPacket_20 rfl ?_
    refine xJ_getR (b := (a + 3)) hX dX12_readPacket_21 fd_X12_20 rfl (oX12_k hL) (oX12_r9 hL) ?_
    refine xJ_iconst hX dX12_readPacket_24 ?_
    obtain ⟨h25, hp⟩ := hp
    refine xJ_iald hX dX12_readPacket_25 (oX12_k9 hL) h25.1 (xnlt (oX12_n9 hL) h25.2) ?_
    refine xJ_iconst hX dX12_readPacket_26 ?_
    refine xJ_isub hX dX12_readPacket_27 ?_
    obtain ⟨h27, hp⟩ := hp
    refine xJ_callV (As := [_, _]) hX hB dX12_readPacket_28 lk_X12_123 im_X12_number se_X12_number rfl (by decide) (oX12_k hL) (c_X12_number hL hM ⟨by decide, by decide⟩ h27 hp) (by decide) rfl rfl rfl (Nat.le_of_ble_eq_true rfl) (by decide) (by decide) (fun v t9 M28 hv => ?_) (fun _ _ _ q => q.elim)
    obtain ⟨r28, rfl, h28, hM28, ht9, hp⟩ := hv
    replace ht9 := ht9.symm
    subst ht9
    dsimp only [Option.toList, List.cons_append, List.nil_append]
    refine xJ_istore_n hX dX12_readPacket_31 (Nat.le_of_ble_eq_true rfl) rfl ?_
    dsimp only [List.set]
    refine xJ_aload_n hX dX12_readPacket_32 rfl ?_
    refine xJ_iconst hX dX12_readPacket_33 ?_
    refine xJ_sipush hX dX12_readPacket_34 rfl ?_
    refine xJ_callV (As := [_, _]) hX hB dX12_readPacket_37 lk_X12_123 im_X12_number se_X12_number rfl (by decide) (oX12_k hL) (c_X12_number hL hM28 ⟨by decide, by decide⟩ ⟨by decide, by decide⟩ hp) (by decide) rfl rfl rfl (Nat.le_of_ble_eq_true rfl) (by decide) (by decide) (fun v t9 M37 hv => ?_) (fun _ _ _ q => q.elim)
    obtain ⟨r37, rfl, h37, hM37, ht9, hp⟩ := hv
    replace ht9 := ht9.symm
    subst ht9
    dsimp only [Option.toList, List.cons_append, List.nil_append]
    refine xJ_istore_n hX dX12_readPacket_40 (Nat.le_of_ble_eq_true rfl) rfl ?_
    dsimp only [List.set]
    refine xJ_aload_n hX dX12_readPacket_41 rfl ?_
    refine xJ_iconst hX dX12_readPacket_42 ?_
    refine xJ_sipush hX dX12_readPacket_43 rfl ?_
    refine xJ_callV (As := [_, _]) hX hB dX12_readPacket_46 lk_X12_123 im_X12_number se_X12_number rfl (by decide) (oX12_k hL) (c_X12_number hL hM37 ⟨by decide, by decide⟩ ⟨by decide, by decide⟩ hp) (by decide) rfl rfl rfl (Nat.le_of_ble_eq_true rfl) (by decide) (by decide) (fun v t9 M46 hv => ?_) (fun _ _ _ q => q.elim)
    obtain ⟨r46, rfl, h46, hM46, ht9, hp⟩ := hv
    replace ht9 := ht9.symm
    subst ht9
    dsimp only [Option.toList, List.cons_append, List.nil_append]
    refine xJ_istore hX dX12_readPacket_49 (Nat.le_of_ble_eq_true rfl) rfl ?_
    dsimp only [List.set]
    refine xJ_aload_n hX dX12_readPacket_51 rfl ?_
    refine xJ_callV (As := []) hX hB dX12_readPacket_52 lk_X12_68 im_X12_isGood se_X12_isGood rfl (by decide) (oX12_k hL) (c_X12_isGood hL hM46 hp) (by decide) rfl rfl rfl (Nat.le_of_ble_eq_true rfl) (by decide) (by decide) (fun v t9 M52 hv => ?_) (fun _ _ _ q => q.elim)
    obtain ⟨r52, rfl, h52, hM52, ht9, hp⟩ := hv
    replace ht9 := ht9.symm
    subst ht9
    dsimp only [Option.toList, List.cons_append, List.nil_append]
    refine xJ_if_eq hX dX12_readPacket_55 (tgt := 69) (by decide) h52 (fun c55 => ?_) (fun c55 => ?_)
    · replace hp := hp.1 c55
      refine xJ_vret hX hB dX12_readPacket_69 (by decide) (by decide) ⟨rfl, hM52, rfl, hp⟩
    · replace hp := hp.2 c55
      refine xJ_aload_n hX dX12_readPacket_58 rfl ?_
      refine xJ_getR (b := (a + 3)) hX dX12_readPacket_59 fd_X12_20 rfl (oX12_k hL) (oX12_r9 hL) ?_
      refine xJ_iload_n hX dX12_readPacket_62 rfl ?_
      refine xJ_iload_n hX dX12_readPacket_63 rfl ?_
      refine xJ_iload hX dX12_readPacket_64 rfl ?_
      refine xJ_callS (As := [_, _, _, _]) hX hB dX12_readPacket_66 lk_X12_144 sm_X12_putPacket (c_X12_putPacket (oX12_k9 hL) (oX12_n9 hL) ⟨by decide, by decide⟩ hM52 h28 h37 h46 hp) (by decide) rfl rfl rfl (Nat.le_of_ble_eq_true rfl) (by decide) (by decide) (fun v t9 M66 hv => ?_) (fun _ _ _ q => q.elim)
      obtain ⟨rfl, hM66, ht9, hp⟩ := hv
      replace ht9 := ht9.symm
      subst ht9
      dsimp only [Option.toList, List.cons_append, List.nil_append]
      refine xJ_vret hX hB dX12_readPacket_69 (by decide) (by decide) ⟨rfl, hM66, rfl, hp⟩
  · replace hp := hp.2 c8
    refine xJ_aload_n hX dX12_readPacket_11 rfl ?_
    refine xJ_bipush hX dX12_readPacket_12 rfl ?_
    refine xJ_iload_n hX dX12_readPacket_14 rfl ?_
    refine xJ_callV (As := [_, _]) hX hB dX12_readPacket_15 lk_X12_85 im_X12_report se_X12_report rfl (by decide) (oX12_k hL) (c_X12_report hL hM ⟨by decide, by decide⟩ hx1 hp) (by decide) rfl rfl rfl (Nat.le_of_ble_eq_true rfl) (by decide) (by decide) (fun v t9 M15 hv => ?_) (fun _ _ _ q => q.elim)
    obtain ⟨rfl, hM15, ht9, hp⟩ := hv
    replace ht9 := ht9.symm
    subst ht9
    dsimp only [Option.toList, List.cons_append, List.nil_append]
    refine xJ_aload_n hX dX12_readPacket_18 rfl ?_
    refine xJ_iconst hX dX12_readPacket_19 ?_
    refine xJ_aload_n hX dX12_readPacket_20 rfl ?_
    refine xJ_getR (b := (a + 3)) hX dX12_readPacket_21 fd_X12_20 rfl (oX12_k hL) (oX12_r9 hL) ?_
    refine xJ_iconst hX dX12_readPacket_24 ?_
    obtain ⟨h25, hp⟩ := hp
    refine xJ_iald hX dX12_readPacket_25 (oX12_k9 hL) h25.1 (xnlt (oX12_n9 hL) h25.2) ?_
    refine xJ_iconst hX dX12_readPacket_26 ?_
    refine xJ_isub hX dX12_readPacket_27 ?_
    obtain ⟨h27, hp⟩ := hp
    refine xJ_callV (As := [_, _]) hX hB dX12_readPacket_28 lk_X12_123 im_X12_number se_X12_number rfl (by decide) (oX12_k hL) (c_X12_number hL hM15 ⟨by decide, by decide⟩ h27 hp) (by decide) rfl rfl rfl (Nat.le_of_ble_eq_true rfl) (by decide) (by decide) (fun v t9 M28 hv => ?_) (fun _ _ _ q => q.elim)
    obtain ⟨r28, rfl, h28, hM28, ht9, hp⟩ := hv
    replace ht9 := ht9.symm
    subst ht9
    dsimp only [Option.toList, List.cons_append, List.nil_append]
    refine xJ_istore_n hX dX12_readPacket_31 (Nat.le_of_ble_eq_true rfl) rfl ?_
    dsimp only [List.set]
    refine xJ_aload_n hX dX12_readPacket_32 rfl ?_
    refine xJ_iconst hX dX12_readPacket_33 ?_
    refine xJ_sipush hX dX12_readPacket_34 rfl ?_
    refine xJ_callV (As := [_, _]) hX hB dX12_readPacket_37 lk_X12_123 im_X12_number se_X12_number rfl (by decide) (oX12_k hL) (c_X12_number hL hM28 ⟨by decide, by decide⟩ ⟨by decide, by decide⟩ hp) (by decide) rfl rfl rfl (Nat.le_of_ble_eq_true rfl) (by decide) (by decide) (fun v t9 M37 hv => ?_) (fun _ _ _ q => q.elim)
    obtain ⟨r37, rfl, h37, hM37, ht9, hp⟩ := hv
    replace ht9 := ht9.symm
    subst ht9
    dsimp only [Option.toList, List.cons_append, List.nil_append]
    refine xJ_istore_n hX dX12_readPacket_40 (Nat.le_of_ble_eq_true rfl) rfl ?_
    dsimp only [List.set]
    refine xJ_aload_n hX dX12_readPacket_41 rfl ?_
    refine xJ_iconst hX dX12_readPacket_42 ?_
    refine xJ_sipush hX dX12_readPacket_43 rfl ?_
    refine xJ_callV (As := [_, _]) hX hB dX12_readPacket_46 lk_X12_123 im_X12_number se_X12_number rfl (by decide) (oX12_k hL) (c_X12_number hL hM37 ⟨by decide, by decide⟩ ⟨by decide, by decide⟩ hp) (by decide) rfl rfl rfl (Nat.le_of_ble_eq_true rfl) (by decide) (by decide) (fun v t9 M46 hv => ?_) (fun _ _ _ q => q.elim)
    obtain ⟨r46, rfl, h46, hM46, ht9, hp⟩ := hv
    replace ht9 := ht9.symm
    subst ht9
    dsimp only [Option.toList, List.cons_append, List.nil_append]
    refine xJ_istore hX dX12_readPacket_49 (Nat.le_of_ble_eq_true rfl) rfl ?_
    dsimp only [List.set]
    refine xJ_aload_n hX dX12_readPacket_51 rfl ?_
    refine xJ_callV (As := []) hX hB dX12_readPacket_52 lk_X12_68 im_X12_isGood se_X12_isGood rfl (by decide) (oX12_k hL) (c_X12_isGood hL hM46 hp) (by decide) rfl rfl rfl (Nat.le_of_ble_eq_true rfl) (by decide) (by decide) (fun v t9 M52 hv => ?_) (fun _ _ _ q => q.elim)
    obtain ⟨r52, rfl, h52, hM52, ht9, hp⟩ := hv
    replace ht9 := ht9.symm
    subst ht9
    dsimp only [Option.toList, List.cons_append, List.nil_append]
    refine xJ_if_eq hX dX12_readPacket_55 (tgt := 69) (by decide) h52 (fun c55 => ?_) (fun c55 => ?_)
    · replace hp := hp.1 c55
      refine xJ_vret hX hB dX12_readPacket_69 (by decide) (by decide) ⟨rfl, hM52, rfl, hp⟩
    · replace hp := hp.2 c55
      refine xJ_aload_n hX dX12_readPacket_58 rfl ?_
      refine xJ_getR (b := (a + 3)) hX dX12_readPacket_59 fd_X12_20 rfl (oX12_k hL) (oX12_r9 hL) ?_
      refine xJ_iload_n hX dX12_readPacket_62 rfl ?_
      refine xJ_iload_n hX dX12_readPacket_63 rfl ?_
      refine xJ_iload hX dX12_readPacket_64 rfl ?_
      refine xJ_callS (As := [_, _, _, _]) hX hB dX12_readPacket_66 lk_X12_144 sm_X12_putPacket (c_X12_putPacket (oX12_k9 hL) (oX12_n9 hL) ⟨by decide, by decide⟩ hM52 h28 h37 h46 hp) (by decide) rfl rfl rfl (Nat.le_of_ble_eq_true rfl) (by decide) (by decide) (fun v t9 M66 hv => ?_) (fun _ _ _ q => q.elim)
      obtain ⟨rfl, hM66, ht9, hp⟩ := hv
      replace ht9 := ht9.symm
      subst ht9
      dsimp only [Option.toList, List.cons_append, List.nil_append]
      refine xJ_vret hX hB dX12_readPacket_69 (by decide) (by decide) ⟨rfl, hM66, rfl, hp⟩
def p_X12_putCoupon (b0 : Nat) (n0 : Nat) (x1 : Int) (x2 : Int) (x3 : Int) (M : xMe) (Q : xMe → Prop) : Prop :=
  ((0 : Int) ≤ 4 ∧ (4 : Int) < n0) ∧ (xR (4 * (M b0 4))) ∧ (xR (441 + (4 * (M b0 4)))) ∧ (∀ z9 : Int, z9 = 441 + (4 * (M b0 4)) → (xR (z9 + 0)) ∧ ((0 : Int) ≤ (z9 + 0) ∧ ((z9 + 0) : Int) < n0) ∧ (∀ M17 : xMe, M17 = xw M b0 (z9 + 0).toNat x1 → (xR (z9 + 1)) ∧ ((0 : Int) ≤ (z9 + 1) ∧ ((z9 + 1) : Int) < n0) ∧ (∀ M24 : xMe, M24 = xw M17 b0 (z9 + 1).toNat x2 → (xR (z9 + 2)) ∧ ((0 : Int) ≤ (z9 + 2) ∧ ((z9 + 2) : Int) < n0) ∧ (∀ M31 : xMe, M31 = xw M24 b0 (z9 + 2).toNat x3 → (xR (z9 + 3)) ∧ ((0 : Int) ≤ (z9 + 3) ∧ ((z9 + 3) : Int) < n0) ∧ (∀ M38 : xMe, M38 = xw M31 b0 (z9 + 3).toNat 0 → ((0 : Int) ≤ 4 ∧ (4 : Int) < n0) ∧ (xR ((M38 b0 4) + 1)) ∧ ((0 : Int) ≤ 4 ∧ (4 : Int) < n0) ∧ (∀ M45 : xMe, M45 = xw M38 b0 4 ((M38 b0 4) + 1) → Q M45))))))
set_option maxHeartbeats 4000000 in
set_option maxRecDepth 100000 in
theorem c_X12_putCoupon {G : xGx} {t : xTh} {M : xMe} {b0 : Nat} {n0 : Nat} {x1 : Int} {x2 : Int} {x3 : Int} {Q : xMe → Prop} (hk0 : xk t b0 = 14) (hn0 : xn t b0 = n0) (hn0R : xR (n0 : Int)) (hM : xMR M) (hx1 : xR x1) (hx2 : xR x2) (hx3 : xR x3) (hp : p_X12_putCoupon b0 n0 x1 x2 x3 M Q) : xCt G yX12_putCoupon cX12_putCoupon 5 none 0 0 0 [vr b0, vi x1, vi x2, vi x3] t M (fun v t' M' => v = none ∧ xMR M' ∧ t' = t ∧ Q M') (fun _ _ _ => False) := by
  refine xCt_of (L0 := [vr b0, vi x1, vi x2, vi x3, vU]) (by decide +kernel) (Nat.le_of_ble_eq_true rfl) rfl ?_
  intro X hX hB
  unfold p_X12_putCoupon at hp
  refine xJ_sipush hX dX12_putCoupon_0 rfl ?_
  refine xJ_iconst hX dX12_putCoupon_3 ?_
  refine xJ_aload_n hX dX12_putCoupon_4 rfl ?_
  refine xJ_iconst hX dX12_putCoupon_5 ?_
  obtain ⟨h6, hp⟩ := hp
  refine xJ_iald hX dX12_putCoupon_6 hk0 h6.1 (xnlt hn0 h6.2) ?_
  refine xJ_imul hX dX12_putCoupon_7 ?_
  obtain ⟨h7, hp⟩ := hp
  refine xJ_iadd hX dX12_putCoupon_8 ?_
  obtain ⟨h8, hp⟩ := hp
  refine xJ_istore hX dX12_putCoupon_9 (Nat.le_of_ble_eq_true rfl) rfl ?_
  dsimp only [List.set]
  replace hp := hp _ rfl
  refine xJ_aload_n hX dX12_putCoupon_11 rfl ?_
  refine xJ_iload hX dX12_putCoupon_12 rfl ?_
  refine xJ_iconst hX dX12_putCoupon_14 ?_
  refine xJ_iadd hX dX12_putCoupon_15 ?_
  obtain ⟨h15, hp⟩ := hp
  refine xJ_iload_n hX dX12_putCoupon_16 rfl ?_
  obtain ⟨h17, hp⟩ := hp
  refine xJ_iastM hX dX12_putCoupon_17 hk0 h17.1 (xnlt hn0 h17.2) hM hx1 (fun M17 e17 hM17 => ?_)
  replace hp := hp M17 e17
  refine xJ_aload_n hX dX12_putCoupon_18 rfl ?_
  refine xJ_iload hX dX12_putCoupon_19 rfl ?_
  refine xJ_iconst hX dX12_putCoupon_21 ?_
  refine xJ_iadd hX dX12_putCoupon_22 ?_
  obtain ⟨h22, hp⟩ := hp
  refine xJ_iload_n hX dX12_putCoupon_23 rfl ?_
  obtain ⟨h24, hp⟩ := hp
  refine xJ_iastM hX dX12_putCoupon_24 hk0 h24.1 (xnlt hn0 h24.2) hM17 hx2 (fun M24 e24 hM24 => ?_)
  replace hp := hp M24 e24
  refine xJ_aload_n hX dX12_putCoupon_25 rfl ?_
  refine xJ_iload hX dX12_putCoupon_26 rfl ?_
  refine xJ_iconst hX dX12_putCoupon_28 ?_
  refine xJ_iadd hX dX12_putCoupon_29 ?_
  obtain ⟨h29, hp⟩ := hp
  refine xJ_iload_n hX dX12_putCoupon_30 rfl ?_
  obtain ⟨h31, hp⟩ := hp
  refine xJ_iastM hX dX12_putCoupon_31 hk0 h31.1 (xnlt hn0 h31.2) hM24 hx3 (fun M31 e31 hM31 => ?_)
  replace hp := hp M31 e31
  refine xJ_aload_n hX dX12_putCoupon_32 rfl ?_
  refine xJ_iload hX dX12_putCoupon_33 rfl ?_
  refine xJ_iconst hX dX12_putCoupon_35 ?_
  refine xJ_iadd hX dX12_putCoupon_36 ?_
  obtain ⟨h36, hp⟩ := hp
  refine xJ_iconst hX dX12_putCoupon_37 ?_
  obtain ⟨h38, hp⟩ := hp
  refine xJ_iastM hX dX12_putCoupon_38 hk0 h38.1 (xnlt hn0 h38.2) hM31 ⟨by decide, by decide⟩ (fun M38 e38 hM38 => ?_)
  replace hp := hp M38 e38
  refine xJ_aload_n hX dX12_putCoupon_39 rfl ?_
  refine xJ_iconst hX dX12_putCoupon_40 ?_
  refine xJ_dup2 hX dX12_putCoupon_41 rfl rfl ?_
  obtain ⟨h42, hp⟩ := hp
  refine xJ_iald hX dX12_putCoupon_42 hk0 h42.1 (xnlt hn0 h42.2) ?_
  refine xJ_iconst hX dX12_putCoupon_43 ?_
  refine xJ_iadd hX dX12_putCoupon_44 ?_
  obtain ⟨h44, hp⟩ := hp
  obtain ⟨h45, hp⟩ := hp
  refine xJ_iastM hX dX12_putCoupon_45 hk0 h45.1 (xnlt hn0 h45.2) hM38 h44 (fun M45 e45 hM45 => ?_)
  replace hp := hp M45 e45
  refine xJ_vret hX hB dX12_putCoupon_46 (by decide) (by decide) ⟨rfl, hM45, rfl, hp⟩
def p_X12_readCoupon (F : Nat) (a : Nat) (x1 : Int) (M : xMe) (Q : xMe → Prop) : Prop :=
  ((0 : Int) ≤ 4 ∧ (4 : Int) < 2105) ∧ (((M (a + 3) 4) ≠ 30 → ((0 : Int) ≤ 2 ∧ (2 : Int) < 2105) ∧ (xR ((M (a + 3) 2) - 1)) ∧ p_X12_number F a 0 ((M (a + 3) 2) - 1) M (fun r28 M28 => p_X12_number F a 1 9999 M28 (fun r37 M37 => p_X12_number F a 1 9999 M37 (fun r46 M46 => p_X12_isGood a M46 (fun r52 M52 => ((r52 = 0 → Q M52) ∧ (r52 ≠ 0 → p_X12_putCoupon (a + 3) 2105 r28 r37 r46 M52 (fun M66 => Q M66)))))))) ∧ ((M (a + 3) 4) = 30 → p_X12_report a ((-5)) x1 M (fun M15 => ((0 : Int) ≤ 2 ∧ (2 : Int) < 2105) ∧ (xR ((M15 (a + 3) 2) - 1)) ∧ p_X12_number F a 0 ((M15 (a + 3) 2) - 1) M15 (fun r28 M28 => p_X12_number F a 1 9999 M28 (fun r37 M37 => p_X12_number F a 1 9999 M37 (fun r46 M46 => p_X12_isGood a M46 (fun r52 M52 => ((r52 = 0 → Q M52) ∧ (r52 ≠ 0 → p_X12_putCoupon (a + 3) 2105 r28 r37 r46 M52 (fun M66 => Q M66))))))))))
set_option maxHeartbeats 4000000 in
set_option maxRecDepth 100000 in
theorem c_X12_readCoupon {G : xGx} {t : xTh} {M : xMe} {F : Nat} {a : Nat} {x1 : Int} {Q : xMe → Prop} (hL : oX12 t a) (hM : xMR M) (hx1 : xR x1) (hp : p_X12_readCoupon F a x1 M Q) : xCt G yX12_readCoupon cX12_readCoupon 5 none 3 0 0 [vr a, vi x1] t M (fun v t' M' => v = none ∧ xMR M' ∧ t' = t ∧ Q M') (fun _ _ _ => False) := by
  refine xCt_of (L0 := [vr a, vi x1, vU, vU, vU]) (by decide +kernel) (Nat.le_of_ble_eq_true rfl) rfl ?_
  intro X hX hB
  unfold p_X12_readCoupon at hp
  refine xJ_aload_n hX dX12_readCoupon_0 rfl ?_
  refine xJ_getR (b := (a + 3)) hX dX12_readCoupon_1 fd_X12_20 rfl (oX12_k hL) (oX12_r9 hL) ?_
  refine xJ_iconst hX dX12_readCoupon_4 ?_
  obtain ⟨h5, hp⟩ := hp
  refine xJ_iald hX dX12_readCoupon_5 (oX12_k9 hL) h5.1 (xnlt (oX12_n9 hL) h5.2) ?_
  refine xJ_bipush hX dX12_readCoupon_6 rfl ?_
  refine xJ_icmp_ne hX dX12_readCoupon_8 (tgt := 18) (by decide) (hM _ _) ⟨by decide, by decide⟩ (fun c8 => ?_) (fun c8 => ?_)
  · replace hp := hp.1 c8
    refine xJ_aload_n hX dX12_readCoupon_18 rfl ?_
    refine xJ_iconst hX dX12_readCoupon_19 ?_
    refine xJ_aload_n hX dX12_readCoupon_20 rfl ?_
    refine xJ_getR (b := (a + 3)) hX dX12_readCoupon_21 fd_X12_20 rfl (oX12_k hL) (oX12_r9 hL) ?_
    refine xJ_iconst hX dX12_readCoupon_24 ?_
    obtain ⟨h25, hp⟩ := hp
    refine xJ_iald hX dX12_readCoupon_25 (oX12_k9 hL) h25.1 (xnlt (oX12_n9 hL) h25.2) ?_
    refine xJ_iconst hX dX12_readCoupon_26 ?_
    refine xJ_isub hX dX12_readCoupon_27 ?_
    obtain ⟨h27, hp⟩ := hp
    refine xJ_callV (As := [_, _]) hX hB dX12_readCoupon_28 lk_X12_123 im_X12_number se_X12_number rfl (by decide) (oX12_k hL) (c_X12_number hL hM ⟨by decide, by decide⟩ h27 hp) (by decide) rfl rfl rfl (Nat.le_of_ble_eq_true rfl) (by decide) (by decide) (fun v t9 M28 hv => ?_) (fun _ _ _ q => q.elim)
    obtain ⟨r28, rfl, h28, hM28, ht9, hp⟩ := hv
    replace ht9 := ht9.symm
    subst ht9
    dsimp only [Option.toList, List.cons_append, List.nil_append]
    refine xJ_istore_n hX dX12_readCoupon_31 (Nat.le_of_ble_eq_true rfl) rfl ?_
    dsimp only [List.set]
    refine xJ_aload_n hX dX12_readCoupon_32 rfl ?_
    refine xJ_iconst hX dX12_readCoupon_33 ?_
    refine xJ_sipush hX dX12_readCoupon_34 rfl ?_
    refine xJ_callV (As := [_, _]) hX hB dX12_readCoupon_37 lk_X12_123 im_X12_number se_X12_number rfl (by decide) (oX12_k hL) (c_X12_number hL hM28 ⟨by decide, by decide⟩ ⟨by decide, by decide⟩ hp) (by decide) rfl rfl rfl (Nat.le_of_ble_eq_true rfl) (by decide) (by decide) (fun v t9 M37 hv => ?_) (fun _ _ _ q => q.elim)
    obtain ⟨r37, rfl, h37, hM37, ht9, hp⟩ := hv
    replace ht9 := ht9.symm
    subst ht9
    dsimp only [Option.toList, List.cons_append, List.nil_append]
    refine xJ_istore_n hX dX12_readCoupon_40 (Nat.le_of_ble_eq_true rfl) rfl ?_
    dsimp only [List.set]
    refine xJ_aload_n hX dX12_readCoupon_41 rfl ?_
    refine xJ_iconst hX dX12_readCoupon_42 ?_
    refine xJ_sipush hX dX12_readCoupon_43 rfl ?_
    refine xJ_callV (As := [_, _]) hX hB dX12_readCoupon_46 lk_X12_123 im_X12_number se_X12_number rfl (by decide) (oX12_k hL) (c_X12_number hL hM37 ⟨by decide, by decide⟩ ⟨by decide, by decide⟩ hp) (by decide) rfl rfl rfl (Nat.le_of_ble_eq_true rfl) (by decide) (by decide) (fun v t9 M46 hv => ?_) (fun _ _ _ q => q.elim)
    obtain ⟨r46, rfl, h46, hM46, ht9, hp⟩ := hv
    replace ht9 := ht9.symm
    subst ht9
    dsimp only [Option.toList, List.cons_append, List.nil_append]
    refine xJ_istore hX dX12_readCoupon_49 (Nat.le_of_ble_eq_true rfl) rfl ?_
    dsimp only [List.set]
    refine xJ_aload_n hX dX12_readCoupon_51 rfl ?_
    refine xJ_callV (As := []) hX hB dX12_readCoupon_52 lk_X12_68 im_X12_isGood se_X12_isGood rfl (by decide) (oX12_k hL) (c_X12_isGood hL hM46 hp) (by decide) rfl rfl rfl (Nat.le_of_ble_eq_true rfl) (by decide) (by decide) (fun v t9 M52 hv => ?_) (fun _ _ _ q => q.elim)
    obtain ⟨r52, rfl, h52, hM52, ht9, hp⟩ := hv
    replace ht9 := ht9.symm
    subst ht9
    dsimp only [Option.toList, List.cons_append, List.nil_append]
    refine xJ_if_eq hX dX12_readCoupon_55 (tgt := 69) (by decide) h52 (fun c55 => ?_) (fun c55 => ?_)
    · replace hp := hp.1 c55
      refine xJ_vret hX hB dX12_readCoupon_69 (by decide) (by decide) ⟨rfl, hM52, rfl, hp⟩
    · replace hp := hp.2 c55
      refine xJ_aload_n hX dX12_readCoupon_58 rfl ?_
      refine xJ_getR (b := (a + 3)) hX dX12_readCoupon_59 fd_X12_20 rfl (oX12_k hL) (oX12_r9 hL) ?_
      refine xJ_iload_n hX dX12_readCoupon_62 rfl ?_
      refine xJ_iload_n hX dX12_readCoupon_63 rfl ?_
      refine xJ_iload hX dX12_readCoupon_64 rfl ?_
      refine xJ_callS (As := [_, _, _, _]) hX hB dX12_readCoupon_66 lk_X12_148 sm_X12_putCoupon (c_X12_putCoupon (oX12_k9 hL) (oX12_n9 hL) ⟨by decide, by decide⟩ hM52 h28 h37 h46 hp) (by decide) rfl rfl rfl (Nat.le_of_ble_eq_true rfl) (by decide) (by decide) (fun v t9 M66 hv => ?_) (fun _ _ _ q => q.elim)
      obtain ⟨rfl, hM66, ht9, hp⟩ := hv
      replace ht9 := ht9.symm
      subst ht9
      dsimp only [Option.toList, List.cons_append, List.nil_append]
      refine xJ_vret hX hB dX12_readCoupon_69 (by decide) (by decide) ⟨rfl, hM66, rfl, hp⟩
  · replace hp := hp.2 c8
    refine xJ_aload_n hX dX12_readCoupon_11 rfl ?_
    refine xJ_bipush hX dX12_readCoupon_12 rfl ?_
    refine xJ_iload_n hX dX12_readCoupon_14 rfl ?_
    refine xJ_callV (As := [_, _]) hX hB dX12_readCoupon_15 lk_X12_85 im_X12_report se_X12_report rfl (by decide) (oX12_k hL) (c_X12_report hL hM ⟨by decide, by decide⟩ hx1 hp) (by decide) rfl rfl rfl (Nat.le_of_ble_eq_true rfl) (by decide) (by decide) (fun v t9 M15 hv => ?_) (fun _ _ _ q => q.elim)
    obtain ⟨rfl, hM15, ht9, hp⟩ := hv
    replace ht9 := ht9.symm
    subst ht9
    dsimp only [Option.toList, List.cons_append, List.nil_append]
    refine xJ_aload_n hX dX12_readCoupon_18 rfl ?_
    refine xJ_iconst hX dX12_readCoupon_19 ?_
    refine xJ_aload_n hX dX12_readCoupon_20 rfl ?_
    refine xJ_getR (b := (a + 3)) hX dX12_readCoupon_21 fd_X12_20 rfl (oX12_k hL) (oX12_r9 hL) ?_
    refine xJ_iconst hX dX12_readCoupon_24 ?_
    obtain ⟨h25, hp⟩ := hp
    refine xJ_iald hX dX12_readCoupon_25 (oX12_k9 hL) h25.1 (xnlt (oX12_n9 hL) h25.2) ?_
    refine xJ_iconst hX dX12_readCoupon_26 ?_
    refine xJ_isub hX dX12_readCoupon_27 ?_
    obtain ⟨h27, hp⟩ := hp
    refine xJ_callV (As := [_, _]) hX hB dX12_readCoupon_28 lk_X12_123 im_X12_number se_X12_number rfl (by decide) (oX12_k hL) (c_X12_number hL hM15 ⟨by decide, by decide⟩ h27 hp) (by decide) rfl rfl rfl (Nat.le_of_ble_eq_true rfl) (by decide) (by decide) (fun v t9 M28 hv => ?_) (fun _ _ _ q => q.elim)
    obtain ⟨r28, rfl, h28, hM28, ht9, hp⟩ := hv
    replace ht9 := ht9.symm
    subst ht9
    dsimp only [Option.toList, List.cons_append, List.nil_append]
    refine xJ_istore_n hX dX12_readCoupon_31 (Nat.le_of_ble_eq_true rfl) rfl ?_
    dsimp only [List.set]
    refine xJ_aload_n hX dX12_readCoupon_32 rfl ?_
    refine xJ_iconst hX dX12_readCoupon_33 ?_
    refine xJ_sipush hX dX12_readCoupon_34 rfl ?_
    refine xJ_callV (As := [_, _]) hX hB dX12_readCoupon_37 lk_X12_123 im_X12_number se_X12_number rfl (by decide) (oX12_k hL) (c_X12_number hL hM28 ⟨by decide, by decide⟩ ⟨by decide, by decide⟩ hp) (by decide) rfl rfl rfl (Nat.le_of_ble_eq_true rfl) (by decide) (by decide) (fun v t9 M37 hv => ?_) (fun _ _ _ q => q.elim)
    obtain ⟨r37, rfl, h37, hM37, ht9, hp⟩ := hv
    replace ht9 := ht9.symm
    subst ht9
    dsimp only [Option.toList, List.cons_append, List.nil_append]
    refine xJ_istore_n hX dX12_readCoupon_40 (Nat.le_of_ble_eq_true rfl) rfl ?_
    dsimp only [List.set]
    refine xJ_aload_n hX dX12_readCoupon_41 rfl ?_
    refine xJ_iconst hX dX12_readCoupon_42 ?_
    refine xJ_sipush hX dX12_readCoupon_43 rfl ?_
    refine xJ_callV (As := [_, _]) hX hB dX12_readCoupon_46 lk_X12_123 im_X12_number se_X12_number rfl (by decide) (oX12_k hL) (c_X12_number hL hM37 ⟨by decide, by decide⟩ ⟨by decide, by decide⟩ hp) (by decide) rfl rfl rfl (Nat.le_of_ble_eq_true rfl) (by decide) (by decide) (fun v t9 M46 hv => ?_) (fun _ _ _ q => q.elim)
    obtain ⟨r46, rfl, h46, hM46, ht9, hp⟩ := hv
    replace ht9 := ht9.symm
    subst ht9
    dsimp only [Option.toList, List.cons_append, List.nil_append]
    refine xJ_istore hX dX12_readCoupon_49 (Nat.le_of_ble_eq_true rfl) rfl ?_
    dsimp only [List.set]
    refine xJ_aload_n hX dX12_readCoupon_51 rfl ?_
    refine xJ_callV (As := []) hX hB dX12_readCoupon_52 lk_X12_68 im_X12_isGood se_X12_isGood rfl (by decide) (oX12_k hL) (c_X12_isGood hL hM46 hp) (by decide) rfl rfl rfl (Nat.le_of_ble_eq_true rfl) (by decide) (by decide) (fun v t9 M52 hv => ?_) (fun _ _ _ q => q.elim)
    obtain ⟨r52, rfl, h52, hM52, ht9, hp⟩ := hv
    replace ht9 := ht9.symm
    subst ht9
    dsimp only [Option.toList, List.cons_append, List.nil_append]
    refine xJ_if_eq hX dX12_readCoupon_55 (tgt := 69) (by decide) h52 (fun c55 => ?_) (fun c55 => ?_)
    · replace hp := hp.1 c55
      refine xJ_vret hX hB dX12_readCoupon_69 (by decide) (by decide) ⟨rfl, hM52, rfl, hp⟩
    · replace hp := hp.2 c55
      refine xJ_aload_n hX dX12_readCoupon_58 rfl ?_
      refine xJ_getR (b := (a + 3)) hX dX12_readCoupon_59 fd_X12_20 rfl (oX12_k hL) (oX12_r9 hL) ?_
      refine xJ_iload_n hX dX12_readCoupon_62 rfl ?_
      refine xJ_iload_n hX dX12_readCoupon_63 rfl ?_
      refine xJ_iload hX dX12_readCoupon_64 rfl ?_
      refine xJ_callS (As := [_, _, _, _]) hX hB dX12_readCoupon_66 lk_X12_148 sm_X12_putCoupon (c_X12_putCoupon (oX12_k9 hL) (oX12_n9 hL) ⟨by decide, by decide⟩ hM52 h28 h37 h46 hp) (by decide) rfl rfl rfl (Nat.le_of_ble_eq_true rfl) (by decide) (by decide) (fun v t9 M66 hv => ?_) (fun _ _ _ q => q.elim)
      obtain ⟨rfl, hM66, ht9, hp⟩ := hv
      replace ht9 := ht9.symm
      subst ht9
      dsimp only [Option.toList, List.cons_append, List.nil_append]
      refine xJ_vret hX hB dX12_readCoupon_69 (by decide) (by decide) ⟨rfl, hM66, rfl, hp⟩
def p_X12_errorOffset (a : Nat) (M : xMe) (Q : Int → xMe → Prop) : Prop :=
  (∀ M2 : xMe, M2 = xw M a 0 0 → Q (M2 a 7) M2)
set_option maxHeartbeats 4000000 in
set_option maxRecDepth 100000 in
theorem c_X12_errorOffset {G : xGx} {t : xTh} {M : xMe} {a : Nat} {Q : Int → xMe → Prop} (hL : oX12 t a) (hM : xMR M)(hp : p_X12_errorOffset a M Q) : xCt G yX12_errorOffset cX12_errorOffset 1 (some .int) 0 0 0 [vr a] t M (fun v t' M' => ∃ r, v = some (vi r) ∧ xR r ∧ xMR M' ∧ t' = t ∧ Q r M') (fun _ _ _ => False) := by
  refine xCt_of (L0 := [vr a]) (by decide +kernel) (Nat.le_of_ble_eq_true rfl) rfl ?_
  intro X hX hB
  unfold p_X12_errorOffset at hp
  refine xJ_aload_n hX dX12_errorOffset_0 rfl ?_
  refine xJ_iconst hX dX12_errorOffset_1 ?_
  refine xJ_putIM hX dX12_errorOffset_2 fd_X12_42 ft_X12 rfl rfl rfl rfl (oX12_k hL) hM ⟨by decide, by decide⟩ (fun M2 e2 hM2 => ?_)
  replace hp := hp M2 e2
  refine xJ_aload_n hX dX12_errorOffset_5 rfl ?_
  refine xJ_getI hX dX12_errorOffset_6 fd_X12_13 rfl (oX12_k hL) ?_
  refine xJ_iret hX hB dX12_errorOffset_9 (by decide) (by decide) ⟨_, rfl, (hM2 _ _), hM2, rfl, hp⟩
def p_X12_pairAt (x0 : Int) (x1 : Int) (M : xMe) (Q : Int → xMe → Prop) : Prop :=
  (xR (6 * x0)) ∧ (xR ((6 * x0) + x1)) ∧ (xR (4 * ((6 * x0) + x1))) ∧ (xR (561 + (4 * ((6 * x0) + x1)))) ∧ Q (561 + (4 * ((6 * x0) + x1))) M
set_option maxHeartbeats 4000000 in
set_option maxRecDepth 100000 in
theorem c_X12_pairAt {G : xGx} {t : xTh} {M : xMe} {x0 : Int} {x1 : Int} {Q : Int → xMe → Prop}  (hM : xMR M) (hx0 : xR x0) (hx1 : xR x1) (hp : p_X12_pairAt x0 x1 M Q) : xCt G yX12_pairAt cX12_pairAt 2 (some .int) 0 0 0 [vi x0, vi x1] t M (fun v t' M' => ∃ r, v = some (vi r) ∧ xR r ∧ xMR M' ∧ t' = t ∧ Q r M') (fun _ _ _ => False) := by
  refine xCt_of (L0 := [vi x0, vi x1]) (by decide +kernel) (Nat.le_of_ble_eq_true rfl) rfl ?_
  intro X hX hB
  unfold p_X12_pairAt at hp
  refine xJ_sipush hX dX12_pairAt_0 rfl ?_
  refine xJ_iconst hX dX12_pairAt_3 ?_
  refine xJ_bipush hX dX12_pairAt_4 rfl ?_
  refine xJ_iload_n hX dX12_pairAt_6 rfl ?_
  refine xJ_imul hX dX12_pairAt_7 ?_
  obtain ⟨h7, hp⟩ := hp
  refine xJ_iload_n hX dX12_pairAt_8 rfl ?_
  refine xJ_iadd hX dX12_pairAt_9 ?_
  obtain ⟨h9, hp⟩ := hp
  refine xJ_imul hX dX12_pairAt_10 ?_
  obtain ⟨h10, hp⟩ := hp
  refine xJ_iadd hX dX12_pairAt_11 ?_
  obtain ⟨h11, hp⟩ := hp
  refine xJ_iret hX hB dX12_pairAt_12 (by decide) (by decide) ⟨_, rfl, h11, hM, rfl, hp⟩
def p_X12_ofGate (a : Nat) (x1 : Int) (x2 : Int) (M : xMe) (Q : Int → xMe → Prop) : Prop :=
  (xR (3 * x1)) ∧ (xR (15 + (3 * x1))) ∧ (xR ((15 + (3 * x1)) + x2)) ∧ ((0 : Int) ≤ ((15 + (3 * x1)) + x2) ∧ (((15 + (3 * x1)) + x2) : Int) < 2105) ∧ Q (M (a + 2) ((15 + (3 * x1)) + x2).toNat) M
set_option maxHeartbeats 4000000 in
set_option maxRecDepth 100000 in
theorem c_X12_ofGate {G : xGx} {t : xTh} {M : xMe} {a : Nat} {x1 : Int} {x2 : Int} {Q : Int → xMe → Prop} (hL : oX12 t a) (hM : xMR M) (hx1 : xR x1) (hx2 : xR x2) (hp : p_X12_ofGate a x1 x2 M Q) : xCt G yX12_ofGate cX12_ofGate 3 (some .int) 0 0 0 [vr a, vi x1, vi x2] t M (fun v t' M' => ∃ r, v = some (vi r) ∧ xR r ∧ xMR M' ∧ t' = t ∧ Q r M') (fun _ _ _ => False) := by
  refine xCt_of (L0 := [vr a, vi x1, vi x2]) (by decide +kernel) (Nat.le_of_ble_eq_true rfl) rfl ?_
  intro X hX hB
  unfold p_X12_ofGate at hp
  refine xJ_aload_n hX dX12_ofGate_0 rfl ?_
  refine xJ_getR (b := (a + 2)) hX dX12_ofGate_1 fd_X12_17 rfl (oX12_k hL) (oX12_r8 hL) ?_
  refine xJ_bipush hX dX12_ofGate_4 rfl ?_
  refine xJ_iconst hX dX12_ofGate_6 ?_
  refine xJ_iload_n hX dX12_ofGate_7 rfl ?_
  refine xJ_imul hX dX12_ofGate_8 ?_
  obtain ⟨h8, hp⟩ := hp
  refine xJ_iadd hX dX12_ofGate_9 ?_
  obtain ⟨h9, hp⟩ := hp
  refine xJ_iload_n hX dX12_ofGate_10 rfl ?_
  refine xJ_iadd hX dX12_ofGate_11 ?_
  obtain ⟨h11, hp⟩ := hp
  obtain ⟨h12, hp⟩ := hp
  refine xJ_iald hX dX12_ofGate_12 (oX12_k8 hL) h12.1 (xnlt (oX12_n8 hL) h12.2) ?_
  refine xJ_iret hX hB dX12_ofGate_13 (by decide) (by decide) ⟨_, rfl, (hM _ _), hM, rfl, hp⟩
def p_X12_ofFlow (a : Nat) (x1 : Int) (x2 : Int) (M : xMe) (Q : Int → xMe → Prop) : Prop :=
  (xR (8 * x1)) ∧ (xR (33 + (8 * x1))) ∧ (xR ((33 + (8 * x1)) + x2)) ∧ ((0 : Int) ≤ ((33 + (8 * x1)) + x2) ∧ (((33 + (8 * x1)) + x2) : Int) < 2105) ∧ Q (M (a + 2) ((33 + (8 * x1)) + x2).toNat) M
set_option maxHeartbeats 4000000 in
set_option maxRecDepth 100000 in
theorem c_X12_ofFlow {G : xGx} {t : xTh} {M : xMe} {a : Nat} {x1 : Int} {x2 : Int} {Q : Int → xMe → Prop} (hL : oX12 t a) (hM : xMR M) (hx1 : xR x1) (hx2 : xR x2) (hp : p_X12_ofFlow a x1 x2 M Q) : xCt G yX12_ofFlow cX12_ofFlow 3 (some .int) 0 0 0 [vr a, vi x1, vi x2] t M (fun v t' M' => ∃ r, v = some (vi r) ∧ xR r ∧ xMR M' ∧ t' = t ∧ Q r M') (fun _ _ _ => False) := by
  refine xCt_of (L0 := [vr a, vi x1, vi x2]) (by decide +kernel) (Nat.le_of_ble_eq_true rfl) rfl ?_
  intro X hX hB
  unfold p_X12_ofFlow at hp
  refine xJ_aload_n hX dX12_ofFlow_0 rfl ?_
  refine xJ_getR (b := (a + 2)) hX dX12_ofFlow_1 fd_X12_17 rfl (oX12_k hL) (oX12_r8 hL) ?_
  refine xJ_bipush hX dX12_ofFlow_4 rfl ?_
  refine xJ_bipush hX dX12_ofFlow_6 rfl ?_
  refine xJ_iload_n hX dX12_ofFlow_8 rfl ?_
  refine xJ_imul hX dX12_ofFlow_9 ?_
  obtain ⟨h9, hp⟩ := hp
  refine xJ_iadd hX dX12_ofFlow_10 ?_
  obtain ⟨h10, hp⟩ := hp
  refine xJ_iload_n hX dX12_ofFlow_11 rfl ?_
  refine xJ_iadd hX dX12_ofFlow_12 ?_
  obtain ⟨h12, hp⟩ := hp
  obtain ⟨h13, hp⟩ := hp
  refine xJ_iald hX dX12_ofFlow_13 (oX12_k8 hL) h13.1 (xnlt (oX12_n8 hL) h13.2) ?_
  refine xJ_iret hX hB dX12_ofFlow_14 (by decide) (by decide) ⟨_, rfl, (hM _ _), hM, rfl, hp⟩
def p_X12_packetAt (x0 : Int) (M : xMe) (Q : Int → xMe → Prop) : Prop :=
  (xR (9 * x0)) ∧ (xR (81 + (9 * x0))) ∧ Q (81 + (9 * x0)) M
set_option maxHeartbeats 4000000 in
set_option maxRecDepth 100000 in
theorem c_X12_packetAt {G : xGx} {t : xTh} {M : xMe} {x0 : Int} {Q : Int → xMe → Prop}  (hM : xMR M) (hx0 : xR x0) (hp : p_X12_packetAt x0 M Q) : xCt G yX12_packetAt cX12_packetAt 1 (some .int) 0 0 0 [vi x0] t M (fun v t' M' => ∃ r, v = some (vi r) ∧ xR r ∧ xMR M' ∧ t' = t ∧ Q r M') (fun _ _ _ => False) := by
  refine xCt_of (L0 := [vi x0]) (by decide +kernel) (Nat.le_of_ble_eq_true rfl) rfl ?_
  intro X hX hB
  unfold p_X12_packetAt at hp
  refine xJ_bipush hX dX12_packetAt_0 rfl ?_
  refine xJ_bipush hX dX12_packetAt_2 rfl ?_
  refine xJ_iload_n hX dX12_packetAt_4 rfl ?_
  refine xJ_imul hX dX12_packetAt_5 ?_
  obtain ⟨h5, hp⟩ := hp
  refine xJ_iadd hX dX12_packetAt_6 ?_
  obtain ⟨h6, hp⟩ := hp
  refine xJ_iret hX hB dX12_packetAt_7 (by decide) (by decide) ⟨_, rfl, h6, hM, rfl, hp⟩
def p_X12_couponAt (x0 : Int) (M : xMe) (Q : Int → xMe → Prop) : Prop :=
  (xR (4 * x0)) ∧ (xR (441 + (4 * x0))) ∧ Q (441 + (4 * x0)) M
set_option maxHeartbeats 4000000 in
set_option maxRecDepth 100000 in
theorem c_X12_couponAt {G : xGx} {t : xTh} {M : xMe} {x0 : Int} {Q : Int → xMe → Prop}  (hM : xMR M) (hx0 : xR x0) (hp : p_X12_couponAt x0 M Q) : xCt G yX12_couponAt cX12_couponAt 1 (some .int) 0 0 0 [vi x0] t M (fun v t' M' => ∃ r, v = some (vi r) ∧ xR r ∧ xMR M' ∧ t' = t ∧ Q r M') (fun _ _ _ => False) := by
  refine xCt_of (L0 := [vi x0]) (by decide +kernel) (Nat.le_of_ble_eq_true rfl) rfl ?_
  intro X hX hB
  unfold p_X12_couponAt at hp
  refine xJ_sipush hX dX12_couponAt_0 rfl ?_
  refine xJ_iconst hX dX12_couponAt_3 ?_
  refine xJ_iload_n hX dX12_couponAt_4 rfl ?_
  refine xJ_imul hX dX12_couponAt_5 ?_
  obtain ⟨h5, hp⟩ := hp
  refine xJ_iadd hX dX12_couponAt_6 ?_
  obtain ⟨h6, hp⟩ := hp
  refine xJ_iret hX hB dX12_couponAt_7 (by decide) (by decide) ⟨_, rfl, h6, hM, rfl, hp⟩
def p_X12_gateOf (a : Nat) (x1 : Int) (M : xMe) (Q : Int → xMe → Prop) : Prop :=
  p_X12_packetAt x1 M (fun r6 M6 => (xR (r6 + 0)) ∧ ((0 : Int) ≤ (r6 + 0) ∧ ((r6 + 0) : Int) < 2105) ∧ p_X12_packetAt x1 M6 (fun r18 M18 => (xR (r18 + 4)) ∧ ((0 : Int) ≤ (r18 + 4) ∧ ((r18 + 4) : Int) < 2105) ∧ (xR (4 + (M18 (a + 2) (r18 + 4).toNat))) ∧ p_X12_ofFlow a (M6 (a + 2) (r6 + 0).toNat) (4 + (M18 (a + 2) (r18 + 4).toNat)) M18 (fun r25 M25 => Q r25 M25)))
set_option maxHeartbeats 4000000 in
set_option maxRecDepth 100000 in
theorem c_X12_gateOf {G : xGx} {t : xTh} {M : xMe} {a : Nat} {x1 : Int} {Q : Int → xMe → Prop} (hL : oX12 t a) (hM : xMR M) (hx1 : xR x1) (hp : p_X12_gateOf a x1 M Q) : xCt G yX12_gateOf cX12_gateOf 2 (some .int) 1 0 0 [vr a, vi x1] t M (fun v t' M' => ∃ r, v = some (vi r) ∧ xR r ∧ xMR M' ∧ t' = t ∧ Q r M') (fun _ _ _ => False) := by
  refine xCt_of (L0 := [vr a, vi x1]) (by decide +kernel) (Nat.le_of_ble_eq_true rfl) rfl ?_
  intro X hX hB
  unfold p_X12_gateOf at hp
  refine xJ_aload_n hX dX12_gateOf_0 rfl ?_
  refine xJ_aload_n hX dX12_gateOf_1 rfl ?_
  refine xJ_getR (b := (a + 2)) hX dX12_gateOf_2 fd_X12_17 rfl (oX12_k hL) (oX12_r8 hL) ?_
  refine xJ_iload_n hX dX12_gateOf_5 rfl ?_
  refine xJ_callS (As := [_]) hX hB dX12_gateOf_6 lk_X12_197 sm_X12_packetAt (c_X12_packetAt  hM hx1 hp) (by decide) rfl rfl rfl (Nat.le_of_ble_eq_true rfl) (by decide) (by decide) (fun v t9 M6 hv => ?_) (fun _ _ _ q => q.elim)
  obtain ⟨r6, rfl, h6, hM6, ht9, hp⟩ := hv
  replace ht9 := ht9.symm
  subst ht9
  dsimp only [Option.toList, List.cons_append, List.nil_append]
  refine xJ_iconst hX dX12_gateOf_9 ?_
  refine xJ_iadd hX dX12_gateOf_10 ?_
  obtain ⟨h10, hp⟩ := hp
  obtain ⟨h11, hp⟩ := hp
  refine xJ_iald hX dX12_gateOf_11 (oX12_k8 hL) h11.1 (xnlt (oX12_n8 hL) h11.2) ?_
  refine xJ_iconst hX dX12_gateOf_12 ?_
  refine xJ_aload_n hX dX12_gateOf_13 rfl ?_
  refine xJ_getR (b := (a + 2)) hX dX12_gateOf_14 fd_X12_17 rfl (oX12_k hL) (oX12_r8 hL) ?_
  refine xJ_iload_n hX dX12_gateOf_17 rfl ?_
  refine xJ_callS (As := [_]) hX hB dX12_gateOf_18 lk_X12_197 sm_X12_packetAt (c_X12_packetAt  hM6 hx1 hp) (by decide) rfl rfl rfl (Nat.le_of_ble_eq_true rfl) (by decide) (by decide) (fun v t9 M18 hv => ?_) (fun _ _ _ q => q.elim)
  obtain ⟨r18, rfl, h18, hM18, ht9, hp⟩ := hv
  replace ht9 := ht9.symm
  subst ht9
  dsimp only [Option.toList, List.cons_append, List.nil_append]
  refine xJ_iconst hX dX12_gateOf_21 ?_
  refine xJ_iadd hX dX12_gateOf_22 ?_
  obtain ⟨h22, hp⟩ := hp
  obtain ⟨h23, hp⟩ := hp
  refine xJ_iald hX dX12_gateOf_23 (oX12_k8 hL) h23.1 (xnlt (oX12_n8 hL) h23.2) ?_
  refine xJ_iadd hX dX12_gateOf_24 ?_
  obtain ⟨h24, hp⟩ := hp
  refine xJ_callV (As := [_, _]) hX hB dX12_gateOf_25 lk_X12_200 im_X12_ofFlow se_X12_ofFlow rfl (by decide) (oX12_k hL) (c_X12_ofFlow hL hM18 (hM6 _ _) h24 hp) (by decide) rfl rfl rfl (Nat.le_of_ble_eq_true rfl) (by decide) (by decide) (fun v t9 M25 hv => ?_) (fun _ _ _ q => q.elim)
  obtain ⟨r25, rfl, h25, hM25, ht9, hp⟩ := hv
  replace ht9 := ht9.symm
  subst ht9
  dsimp only [Option.toList, List.cons_append, List.nil_append]
  refine xJ_iret hX hB dX12_gateOf_28 (by decide) (by decide) ⟨_, rfl, h25, hM25, rfl, hp⟩
def p_X12_valuesOf_4 (F : Nat) (a : Nat) (Q : Int → xMe → Prop) : Nat → Int → Int → Int → xMe → Prop
  | 0, _, _, _, _ => False
  | k + 1, x1, x2, x3, M =>
    ((0 : Int) ≤ 4 ∧ (4 : Int) < 2105) ∧ (((M (a + 2) 4) ≤ x3 → Q x2 M) ∧ (x3 < (M (a + 2) 4) → p_X12_couponAt x3 M (fun r20 M20 => (xR (r20 + 0)) ∧ ((0 : Int) ≤ (r20 + 0) ∧ ((r20 + 0) : Int) < 2105) ∧ (((M20 (a + 2) (r20 + 0).toNat) ≠ x1 → (xR (x2 + 0)) ∧ (∀ z46 : Int, z46 = x2 + 0 → (xR (x3 + 1)) ∧ p_X12_valuesOf_4 F a Q k x1 z46 (x3 + 1) M20)) ∧ ((M20 (a + 2) (r20 + 0).toNat) = x1 → p_X12_couponAt x3 M20 (fun r35 M35 => (xR (r35 + 1)) ∧ ((0 : Int) ≤ (r35 + 1) ∧ ((r35 + 1) : Int) < 2105) ∧ (xR (x2 + (M35 (a + 2) (r35 + 1).toNat))) ∧ (∀ z46 : Int, z46 = x2 + (M35 (a + 2) (r35 + 1).toNat) → (xR (x3 + 1)) ∧ p_X12_valuesOf_4 F a Q k x1 z46 (x3 + 1) M35)))))))
def p_X12_valuesOf (F : Nat) (a : Nat) (x1 : Int) (M : xMe) (Q : Int → xMe → Prop) : Prop :=
  p_X12_valuesOf_4 F a Q F x1 0 0 M
set_option maxHeartbeats 4000000 in
set_option maxRecDepth 100000 in
theorem c_X12_valuesOf {G : xGx} {t : xTh} {M : xMe} {F : Nat} {a : Nat} {x1 : Int} {Q : Int → xMe → Prop} (hL : oX12 t a) (hM : xMR M) (hx1 : xR x1) (hp : p_X12_valuesOf F a x1 M Q) : xCt G yX12_valuesOf cX12_valuesOf 4 (some .int) 1 0 0 [vr a, vi x1] t M (fun v t' M' => ∃ r, v = some (vi r) ∧ xR r ∧ xMR M' ∧ t' = t ∧ Q r M') (fun _ _ _ => False) := by
  refine xCt_of (L0 := [vr a, vi x1, vU, vU]) (by decide +kernel) (Nat.le_of_ble_eq_true rfl) rfl ?_
  intro X hX hB
  unfold p_X12_valuesOf at hp
  refine xJ_iconst hX dX12_valuesOf_0 ?_
  refine xJ_istore_n hX dX12_valuesOf_1 (Nat.le_of_ble_eq_true rfl) rfl ?_
  dsimp only [List.set]
  refine xJ_iconst hX dX12_valuesOf_2 ?_
  refine xJ_istore_n hX dX12_valuesOf_3 (Nat.le_of_ble_eq_true rfl) rfl ?_
  dsimp only [List.set]
  have lp4 : ∀ (k : Nat) (x1 : Int) (x2 : Int) (x3 : Int) (M : xMe) (hM : xMR M) (hx1 : xR x1) (hx2 : xR x2) (hx3 : xR x3) (hp : p_X12_valuesOf_4 F a Q k x1 x2 x3 M), xJ X 0 0 t M 4 [vr a, vi x1, vi x2, vi x3] [] := by
    intro k
    induction k with
    | zero => intro x1 x2 x3 M hM hx1 hx2 hx3 hp; exact hp.elim
    | succ k ih =>
      intro x1 x2 x3 M hM hx1 hx2 hx3 hp
      unfold p_X12_valuesOf_4 at hp
      refine xJ_iload_n hX dX12_valuesOf_4 rfl ?_
      refine xJ_aload_n hX dX12_valuesOf_5 rfl ?_
      refine xJ_getR (b := (a + 2)) hX dX12_valuesOf_6 fd_X12_17 rfl (oX12_k hL) (oX12_r8 hL) ?_
      refine xJ_iconst hX dX12_valuesOf_9 ?_
      obtain ⟨h10, hp⟩ := hp
      refine xJ_iald hX dX12_valuesOf_10 (oX12_k8 hL) h10.1 (xnlt (oX12_n8 hL) h10.2) ?_
      refine xJ_icmp_ge hX dX12_valuesOf_11 (tgt := 53) (by decide) hx3 (hM _ _) (fun c11 => ?_) (fun c11 => ?_)
      · replace hp := hp.1 c11
        refine xJ_iload_n hX dX12_valuesOf_53 rfl ?_
        refine xJ_iret hX hB dX12_valuesOf_54 (by decide) (by decide) ⟨_, rfl, hx2, hM, rfl, hp⟩
      · replace hp := hp.2 c11
        refine xJ_iload_n hX dX12_valuesOf_14 rfl ?_
        refine xJ_aload_n hX dX12_valuesOf_15 rfl ?_
        refine xJ_getR (b := (a + 2)) hX dX12_valuesOf_16 fd_X12_17 rfl (oX12_k hL) (oX12_r8 hL) ?_
        refine xJ_iload_n hX dX12_valuesOf_19 rfl ?_
        refine xJ_callS (As := [_]) hX hB dX12_valuesOf_20 lk_X12_203 sm_X12_couponAt (c_X12_couponAt  hM hx3 hp) (by decide) rfl rfl rfl (Nat.le_of_ble_eq_true rfl) (by decide) (by decide) (fun v t9 M20 hv => ?_) (fun _ _ _ q => q.elim)
        obtain ⟨r20, rfl, h20, hM20, ht9, hp⟩ := hv
        replace ht9 := ht9.symm
        subst ht9
        dsimp only [Option.toList, List.cons_append, List.nil_append]
        refine xJ_iconst hX dX12_valuesOf_23 ?_
        refine xJ_iadd hX dX12_valuesOf_24 ?_
        obtain ⟨h24, hp⟩ := hp
        obtain ⟨h25, hp⟩ := hp
        refine xJ_iald hX dX12_valuesOf_25 (oX12_k8 hL) h25.1 (xnlt (oX12_n8 hL) h25.2) ?_
        refine xJ_iload_n hX dX12_valuesOf_26 rfl ?_
        refine xJ_icmp_ne hX dX12_valuesOf_27 (tgt := 44) (by decide) (hM20 _ _) hx1 (fun c27 => ?_) (fun c27 => ?_)
        · replace hp := hp.1 c27
          refine xJ_iconst hX dX12_valuesOf_44 ?_
          refine xJ_iadd hX dX12_valuesOf_45 ?_
          obtain ⟨h45, hp⟩ := hp
          refine xJ_istore_n hX dX12_valuesOf_46 (Nat.le_of_ble_eq_true rfl) rfl ?_
          dsimp only [List.set]
          replace hp := hp _ rfl
          refine xJ_iinc hX dX12_valuesOf_47 rfl rfl ?_
          dsimp only [List.set]
          obtain ⟨h47, hp⟩ := hp
          refine xJ_goto hX dX12_valuesOf_50 (tgt := 4) (by decide) ?_
          exact ih _ _ _ _ hM20 hx1 h45 h47 hp
        · replace hp := hp.2 c27
          refine xJ_aload_n hX dX12_valuesOf_30 rfl ?_
          refine xJ_getR (b := (a + 2)) hX dX12_valuesOf_31 fd_X12_17 rfl (oX12_k hL) (oX12_r8 hL) ?_
          refine xJ_iload_n hX dX12_valuesOf_34 rfl ?_
          refine xJ_callS (As := [_]) hX hB dX12_valuesOf_35 lk_X12_203 sm_X12_couponAt (c_X12_couponAt  hM20 hx3 hp) (by decide) rfl rfl rfl (Nat.le_of_ble_eq_true rfl) (by decide) (by decide) (fun v t9 M35 hv => ?_) (fun _ _ _ q => q.elim)
          obtain ⟨r35, rfl, h35, hM35, ht9, hp⟩ := hv
          replace ht9 := ht9.symm
          subst ht9
          dsimp only [Option.toList, List.cons_append, List.nil_append]
          refine xJ_iconst hX dX12_valuesOf_38 ?_
          refine xJ_iadd hX dX12_valuesOf_39 ?_
          obtain ⟨h39, hp⟩ := hp
          obtain ⟨h40, hp⟩ := hp
          refine xJ_iald hX dX12_valuesOf_40 (oX12_k8 hL) h40.1 (xnlt (oX12_n8 hL) h40.2) ?_
          refine xJ_goto hX dX12_valuesOf_41 (tgt := 45) (by decide) ?_
          refine xJ_iadd hX dX12_valuesOf_45 ?_
          obtain ⟨h45, hp⟩ := hp
          refine xJ_istore_n hX dX12_valuesOf_46 (Nat.le_of_ble_eq_true rfl) rfl ?_
          dsimp only [List.set]
          replace hp := hp _ rfl
          refine xJ_iinc hX dX12_valuesOf_47 rfl rfl ?_
          dsimp only [List.set]
          obtain ⟨h47, hp⟩ := hp
          refine xJ_goto hX dX12_valuesOf_50 (tgt := 4) (by decide) ?_
          exact ih _ _ _ _ hM35 hx1 h45 h47 hp
  refine lp4 F _ _ _ _ hM hx1 ⟨by decide, by decide⟩ ⟨by decide, by decide⟩ hp
def p_X12_couponsOf_4 (F : Nat) (a : Nat) (Q : Int → xMe → Prop) : Nat → Int → Int → Int → xMe → Prop
  | 0, _, _, _, _ => False
  | k + 1, x1, x2, x3, M =>
    ((0 : Int) ≤ 4 ∧ (4 : Int) < 2105) ∧ (((M (a + 2) 4) ≤ x3 → Q x2 M) ∧ (x3 < (M (a + 2) 4) → p_X12_couponAt x3 M (fun r20 M20 => (xR (r20 + 0)) ∧ ((0 : Int) ≤ (r20 + 0) ∧ ((r20 + 0) : Int) < 2105) ∧ (((M20 (a + 2) (r20 + 0).toNat) ≠ x1 → (xR (x2 + 0)) ∧ (∀ z36 : Int, z36 = x2 + 0 → (xR (x3 + 1)) ∧ p_X12_couponsOf_4 F a Q k x1 z36 (x3 + 1) M20)) ∧ ((M20 (a + 2) (r20 + 0).toNat) = x1 → (xR (x2 + 1)) ∧ (∀ z36 : Int, z36 = x2 + 1 → (xR (x3 + 1)) ∧ p_X12_couponsOf_4 F a Q k x1 z36 (x3 + 1) M20))))))
def p_X12_couponsOf (F : Nat) (a : Nat) (x1 : Int) (M : xMe) (Q : Int → xMe → Prop) : Prop :=
  p_X12_couponsOf_4 F a Q F x1 0 0 M
set_option maxHeartbeats 4000000 in
set_option maxRecDepth 100000 in
theorem c_X12_couponsOf {G : xGx} {t : xTh} {M : xMe} {F : Nat} {a : Nat} {x1 : Int} {Q : Int → xMe → Prop} (hL : oX12 t a) (hM : xMR M) (hx1 : xR x1) (hp : p_X12_couponsOf F a x1 M Q) : xCt G yX12_couponsOf cX12_couponsOf 4 (some .int) 1 0 0 [vr a, vi x1] t M (fun v t' M' => ∃ r, v = some (vi r) ∧ xR r ∧ xMR M' ∧ t' = t ∧ Q r M') (fun _ _ _ => False) := by
  refine xCt_of (L0 := [vr a, vi x1, vU, vU]) (by decide +kernel) (Nat.le_of_ble_eq_true rfl) rfl ?_
  intro X hX hB
  unfold p_X12_couponsOf at hp
  refine xJ_iconst hX dX12_couponsOf_0 ?_
  refine xJ_istore_n hX dX12_couponsOf_1 (Nat.le_of_ble_eq_true rfl) rfl ?_
  dsimp only [List.set]
  refine xJ_iconst hX dX12_couponsOf_2 ?_
  refine xJ_istore_n hX dX12_couponsOf_3 (Nat.le_of_ble_eq_true rfl) rfl ?_
  dsimp only [List.set]
  have lp4 : ∀ (k : Nat) (x1 : Int) (x2 : Int) (x3 : Int) (M : xMe) (hM : xMR M) (hx1 : xR x1) (hx2 : xR x2) (hx3 : xR x3) (hp : p_X12_couponsOf_4 F a Q k x1 x2 x3 M), xJ X 0 0 t M 4 [vr a, vi x1, vi x2, vi x3] [] := by
    intro k
    induction k with
    | zero => intro x1 x2 x3 M hM hx1 hx2 hx3 hp; exact hp.elim
    | succ k ih =>
      intro x1 x2 x3 M hM hx1 hx2 hx3 hp
      unfold p_X12_couponsOf_4 at hp
      refine xJ_iload_n hX dX12_couponsOf_4 rfl ?_
      refine xJ_aload_n hX dX12_couponsOf_5 rfl ?_
      refine xJ_getR (b := (a + 2)) hX dX12_couponsOf_6 fd_X12_17 rfl (oX12_k hL) (oX12_r8 hL) ?_
      refine xJ_iconst hX dX12_couponsOf_9 ?_
      obtain ⟨h10, hp⟩ := hp
      refine xJ_iald hX dX12_couponsOf_10 (oX12_k8 hL) h10.1 (xnlt (oX12_n8 hL) h10.2) ?_
      refine xJ_icmp_ge hX dX12_couponsOf_11 (tgt := 43) (by decide) hx3 (hM _ _) (fun c11 => ?_) (fun c11 => ?_)
      · replace hp := hp.1 c11
        refine xJ_iload_n hX dX12_couponsOf_43 rfl ?_
        refine xJ_iret hX hB dX12_couponsOf_44 (by decide) (by decide) ⟨_, rfl, hx2, hM, rfl, hp⟩
      · replace hp := hp.2 c11
        refine xJ_iload_n hX dX12_couponsOf_14 rfl ?_
        refine xJ_aload_n hX dX12_couponsOf_15 rfl ?_
        refine xJ_getR (b := (a + 2)) hX dX12_couponsOf_16 fd_X12_17 rfl (oX12_k hL) (oX12_r8 hL) ?_
        refine xJ_iload_n hX dX12_couponsOf_19 rfl ?_
        refine xJ_callS (As := [_]) hX hB dX12_couponsOf_20 lk_X12_203 sm_X12_couponAt (c_X12_couponAt  hM hx3 hp) (by decide) rfl rfl rfl (Nat.le_of_ble_eq_true rfl) (by decide) (by decide) (fun v t9 M20 hv => ?_) (fun _ _ _ q => q.elim)
        obtain ⟨r20, rfl, h20, hM20, ht9, hp⟩ := hv
        replace ht9 := ht9.symm
        subst ht9
        dsimp only [Option.toList, List.cons_append, List.nil_append]
        refine xJ_iconst hX dX12_couponsOf_23 ?_
        refine xJ_iadd hX dX12_couponsOf_24 ?_
        obtain ⟨h24, hp⟩ := hp
        obtain ⟨h25, hp⟩ := hp
        refine xJ_iald hX dX12_couponsOf_25 (oX12_k8 hL) h25.1 (xnlt (oX12_n8 hL) h25.2) ?_
        refine xJ_iload_n hX dX12_couponsOf_26 rfl ?_
        refine xJ_icmp_ne hX dX12_couponsOf_27 (tgt := 34) (by decide) (hM20 _ _) hx1 (fun c27 => ?_) (fun c27 => ?_)
        · replace hp := hp.1 c27
          refine xJ_iconst hX dX12_couponsOf_34 ?_
          refine xJ_iadd hX dX12_couponsOf_35 ?_
          obtain ⟨h35, hp⟩ := hp
          refine xJ_istore_n hX dX12_couponsOf_36 (Nat.le_of_ble_eq_true rfl) rfl ?_
          dsimp only [List.set]
          replace hp := hp _ rfl
          refine xJ_iinc hX dX12_couponsOf_37 rfl rfl ?_
          dsimp only [List.set]
          obtain ⟨h37, hp⟩ := hp
          refine xJ_goto hX dX12_couponsOf_40 (tgt := 4) (by decide) ?_
          exact ih _ _ _ _ hM20 hx1 h35 h37 hp
        · replace hp := hp.2 c27
          refine xJ_iconst hX dX12_couponsOf_30 ?_
          refine xJ_goto hX dX12_couponsOf_31 (tgt := 35) (by decide) ?_
          refine xJ_iadd hX dX12_couponsOf_35 ?_
          obtain ⟨h35, hp⟩ := hp
          refine xJ_istore_n hX dX12_couponsOf_36 (Nat.le_of_ble_eq_true rfl) rfl ?_
          dsimp only [List.set]
          replace hp := hp _ rfl
          refine xJ_iinc hX dX12_couponsOf_37 rfl rfl ?_
          dsimp only [List.set]
          obtain ⟨h37, hp⟩ := hp
          refine xJ_goto hX dX12_couponsOf_40 (tgt := 4) (by decide) ?_
          exact ih _ _ _ _ hM20 hx1 h35 h37 hp
  refine lp4 F _ _ _ _ hM hx1 ⟨by decide, by decide⟩ ⟨by decide, by decide⟩ hp
def p_X12_dropCoupon_15 (F : Nat) (a : Nat) (Q : xMe → Prop) : Nat → Int → xMe → Prop
  | 0, _, _ => False
  | k + 1, x2, M =>
    ((0 : Int) ≤ 4 ∧ (4 : Int) < 2105) ∧ p_X12_couponAt (M (a + 2) 4) M (fun r22 M22 => ((r22 ≤ x2 → Q M22) ∧ (x2 < r22 → (xR (x2 + 4)) ∧ ((0 : Int) ≤ (x2 + 4) ∧ ((x2 + 4) : Int) < 2105) ∧ ((0 : Int) ≤ x2 ∧ (x2 : Int) < 2105) ∧ (∀ M41 : xMe, M41 = xw M22 (a + 2) x2.toNat (M22 (a + 2) (x2 + 4).toNat) → (xR (x2 + 1)) ∧ p_X12_dropCoupon_15 F a Q k (x2 + 1) M41))))
def p_X12_dropCoupon (F : Nat) (a : Nat) (x1 : Int) (M : xMe) (Q : xMe → Prop) : Prop :=
  ((0 : Int) ≤ 4 ∧ (4 : Int) < 2105) ∧ (xR ((M (a + 2) 4) - 1)) ∧ ((0 : Int) ≤ 4 ∧ (4 : Int) < 2105) ∧ (∀ M9 : xMe, M9 = xw M (a + 2) 4 ((M (a + 2) 4) - 1) → p_X12_couponAt x1 M9 (fun r11 M11 => p_X12_dropCoupon_15 F a Q F r11 M11))
set_option maxHeartbeats 4000000 in
set_option maxRecDepth 100000 in
theorem c_X12_dropCoupon {G : xGx} {t : xTh} {M : xMe} {F : Nat} {a : Nat} {x1 : Int} {Q : xMe → Prop} (hL : oX12 t a) (hM : xMR M) (hx1 : xR x1) (hp : p_X12_dropCoupon F a x1 M Q) : xCt G yX12_dropCoupon cX12_dropCoupon 3 none 1 0 0 [vr a, vi x1] t M (fun v t' M' => v = none ∧ xMR M' ∧ t' = t ∧ Q M') (fun _ _ _ => False) := by
  refine xCt_of (L0 := [vr a, vi x1, vU]) (by decide +kernel) (Nat.le_of_ble_eq_true rfl) rfl ?_
  intro X hX hB
  unfold p_X12_dropCoupon at hp
  refine xJ_aload_n hX dX12_dropCoupon_0 rfl ?_
  refine xJ_getR (b := (a + 2)) hX dX12_dropCoupon_1 fd_X12_17 rfl (oX12_k hL) (oX12_r8 hL) ?_
  refine xJ_iconst hX dX12_dropCoupon_4 ?_
  refine xJ_dup2 hX dX12_dropCoupon_5 rfl rfl ?_
  obtain ⟨h6, hp⟩ := hp
  refine xJ_iald hX dX12_dropCoupon_6 (oX12_k8 hL) h6.1 (xnlt (oX12_n8 hL) h6.2) ?_
  refine xJ_iconst hX dX12_dropCoupon_7 ?_
  refine xJ_isub hX dX12_dropCoupon_8 ?_
  obtain ⟨h8, hp⟩ := hp
  obtain ⟨h9, hp⟩ := hp
  refine xJ_iastM hX dX12_dropCoupon_9 (oX12_k8 hL) h9.1 (xnlt (oX12_n8 hL) h9.2) hM h8 (fun M9 e9 hM9 => ?_)
  replace hp := hp M9 e9
  refine xJ_iload_n hX dX12_dropCoupon_10 rfl ?_
  refine xJ_callS (As := [_]) hX hB dX12_dropCoupon_11 lk_X12_203 sm_X12_couponAt (c_X12_couponAt  hM9 hx1 hp) (by decide) rfl rfl rfl (Nat.le_of_ble_eq_true rfl) (by decide) (by decide) (fun v t9 M11 hv => ?_) (fun _ _ _ q => q.elim)
  obtain ⟨r11, rfl, h11, hM11, ht9, hp⟩ := hv
  replace ht9 := ht9.symm
  subst ht9
  dsimp only [Option.toList, List.cons_append, List.nil_append]
  refine xJ_istore_n hX dX12_dropCoupon_14 (Nat.le_of_ble_eq_true rfl) rfl ?_
  dsimp only [List.set]
  refine xJ_fg 1 ?_
  dsimp only [List.set]
  have lp15 : ∀ (k : Nat) (x2 : Int) (M : xMe) (hM : xMR M) (hx2 : xR x2) (hp : p_X12_dropCoupon_15 F a Q k x2 M), xJ X 0 0 t M 15 [vr a, vU, vi x2] [] := by
    intro k
    induction k with
    | zero => intro x2 M hM hx2 hp; exact hp.elim
    | succ k ih =>
      intro x2 M hM hx2 hp
      unfold p_X12_dropCoupon_15 at hp
      refine xJ_iload_n hX dX12_dropCoupon_15 rfl ?_
      refine xJ_aload_n hX dX12_dropCoupon_16 rfl ?_
      refine xJ_getR (b := (a + 2)) hX dX12_dropCoupon_17 fd_X12_17 rfl (oX12_k hL) (oX12_r8 hL) ?_
      refine xJ_iconst hX dX12_dropCoupon_20 ?_
      obtain ⟨h21, hp⟩ := hp
      refine xJ_iald hX dX12_dropCoupon_21 (oX12_k8 hL) h21.1 (xnlt (oX12_n8 hL) h21.2) ?_
      refine xJ_callS (As := [_]) hX hB dX12_dropCoupon_22 lk_X12_203 sm_X12_couponAt (c_X12_couponAt  hM (hM _ _) hp) (by decide) rfl rfl rfl (Nat.le_of_ble_eq_true rfl) (by decide) (by decide) (fun v t9 M22 hv => ?_) (fun _ _ _ q => q.elim)
      obtain ⟨r22, rfl, h22, hM22, ht9, hp⟩ := hv
      replace ht9 := ht9.symm
      subst ht9
      dsimp only [Option.toList, List.cons_append, List.nil_append]
      refine xJ_icmp_ge hX dX12_dropCoupon_25 (tgt := 48) (by decide) hx2 h22 (fun c25 => ?_) (fun c25 => ?_)
      · replace hp := hp.1 c25
        refine xJ_vret hX hB dX12_dropCoupon_48 (by decide) (by decide) ⟨rfl, hM22, rfl, hp⟩
      · replace hp := hp.2 c25
        refine xJ_aload_n hX dX12_dropCoupon_28 rfl ?_
        refine xJ_getR (b := (a + 2)) hX dX12_dropCoupon_29 fd_X12_17 rfl (oX12_k hL) (oX12_r8 hL) ?_
        refine xJ_iload_n hX dX12_dropCoupon_32 rfl ?_
        refine xJ_aload_n hX dX12_dropCoupon_33 rfl ?_
        refine xJ_getR (b := (a + 2)) hX dX12_dropCoupon_34 fd_X12_17 rfl (oX12_k hL) (oX12_r8 hL) ?_
        refine xJ_iload_n hX dX12_dropCoupon_37 rfl ?_
        refine xJ_iconst hX dX12_dropCoupon_38 ?_
        refine xJ_iadd hX dX12_dropCoupon_39 ?_
        obtain ⟨h39, hp⟩ := hp
        obtain ⟨h40, hp⟩ := hp
        refine xJ_iald hX dX12_dropCoupon_40 (oX12_k8 hL) h40.1 (xnlt (oX12_n8 hL) h40.2) ?_
        obtain ⟨h41, hp⟩ := hp
        refine xJ_iastM hX dX12_dropCoupon_41 (oX12_k8 hL) h41.1 (xnlt (oX12_n8 hL) h41.2) hM22 (hM22 _ _) (fun M41 e41 hM41 => ?_)
        replace hp := hp M41 e41
        refine xJ_iinc hX dX12_dropCoupon_42 rfl rfl ?_
        dsimp only [List.set]
        obtain ⟨h42, hp⟩ := hp
        refine xJ_goto hX dX12_dropCoupon_45 (tgt := 15) (by decide) ?_
        exact ih _ _ hM41 h42 hp
  refine lp15 F _ _ hM11 h11 hp
def p_X12_spend_12 (F : Nat) (a : Nat) (Q : xMe → Prop) (K82 : Int → Int → Int → Int → xMe → Prop) : Nat → Int → Int → Int → Int → Int → xMe → Prop
  | 0, _, _, _, _, _, _ => False
  | k + 1, x1, x2, x3, x4, x5, M =>
    ((0 : Int) ≤ 4 ∧ (4 : Int) < 2105) ∧ (((M (a + 2) 4) ≤ x5 → K82 x1 x2 x3 x4 M) ∧ (x5 < (M (a + 2) 4) → p_X12_couponAt x5 M (fun r29 M29 => (xR (r29 + 0)) ∧ ((0 : Int) ≤ (r29 + 0) ∧ ((r29 + 0) : Int) < 2105) ∧ (((M29 (a + 2) (r29 + 0).toNat) ≠ x1 → (xR (x5 + 1)) ∧ p_X12_spend_12 F a Q K82 k x1 x2 x3 x4 (x5 + 1) M29) ∧ ((M29 (a + 2) (r29 + 0).toNat) = x1 → ((x4 = ((-1)) → (xR (x5 + 1)) ∧ p_X12_spend_12 F a Q K82 k x1 x2 x3 x5 (x5 + 1) M29) ∧ (x4 ≠ ((-1)) → p_X12_couponAt x5 M29 (fun r51 M51 => (xR (r51 + 2)) ∧ ((0 : Int) ≤ (r51 + 2) ∧ ((r51 + 2) : Int) < 2105) ∧ p_X12_couponAt x4 M51 (fun r63 M63 => (xR (r63 + 2)) ∧ ((0 : Int) ≤ (r63 + 2) ∧ ((r63 + 2) : Int) < 2105) ∧ (((M63 (a + 2) (r63 + 2).toNat) ≤ (M51 (a + 2) (r51 + 2).toNat) → (xR (x5 + 1)) ∧ p_X12_spend_12 F a Q K82 k x1 x2 x3 x4 (x5 + 1) M63) ∧ ((M51 (a + 2) (r51 + 2).toNat) < (M63 (a + 2) (r63 + 2).toNat) → (xR (x5 + 1)) ∧ p_X12_spend_12 F a Q K82 k x1 x2 x3 x5 (x5 + 1) M63)))))))))))
def p_X12_spend_2 (F : Nat) (a : Nat) (Q : xMe → Prop) : Nat → Int → Int → Int → xMe → Prop
  | 0, _, _, _, _ => False
  | k + 1, x1, x2, x3, M =>
    ((x3 ≤ 0 → ((0 : Int) ≤ 8 ∧ (8 : Int) < 2105) ∧ (xR ((M (a + 2) 8) + x2)) ∧ ((0 : Int) ≤ 8 ∧ (8 : Int) < 2105) ∧ (∀ M156 : xMe, M156 = xw M (a + 2) 8 ((M (a + 2) 8) + x2) → Q M156)) ∧ (0 < x3 → p_X12_spend_12 F a Q (fun y1 y2 y3 y4 M => p_X12_couponAt y4 M (fun r89 M89 => (xR (r89 + 1)) ∧ ((0 : Int) ≤ (r89 + 1) ∧ ((r89 + 1) : Int) < 2105) ∧ p_X12_min y3 (M89 (a + 2) (r89 + 1).toNat) M89 (fun r95 M95 => (xR (y3 - r95)) ∧ (∀ z104 : Int, z104 = y3 - r95 → p_X12_couponAt y4 M95 (fun r111 M111 => (xR (r111 + 1)) ∧ ((0 : Int) ≤ (r111 + 1) ∧ ((r111 + 1) : Int) < 2105) ∧ (xR ((M111 (a + 2) (r111 + 1).toNat) - r95)) ∧ ((0 : Int) ≤ (r111 + 1) ∧ ((r111 + 1) : Int) < 2105) ∧ (∀ M121 : xMe, M121 = xw M111 (a + 2) (r111 + 1).toNat ((M111 (a + 2) (r111 + 1).toNat) - r95) → p_X12_couponAt y4 M121 (fun r128 M128 => (xR (r128 + 1)) ∧ ((0 : Int) ≤ (r128 + 1) ∧ ((r128 + 1) : Int) < 2105) ∧ (((M128 (a + 2) (r128 + 1).toNat) ≠ 0 → p_X12_spend_2 F a Q k y1 y2 z104 M128) ∧ ((M128 (a + 2) (r128 + 1).toNat) = 0 → p_X12_dropCoupon F a y4 M128 (fun M140 => p_X12_spend_2 F a Q k y1 y2 z104 M140)))))))))) F x1 x2 x3 ((-1)) 0 M))
def p_X12_spend (F : Nat) (a : Nat) (x1 : Int) (x2 : Int) (M : xMe) (Q : xMe → Prop) : Prop :=
  p_X12_spend_2 F a Q F x1 x2 x2 M
set_option maxHeartbeats 4000000 in
set_option maxRecDepth 100000 in
theorem c_X12_spend {G : xGx} {t : xTh} {M : xMe} {F : Nat} {a : Nat} {x1 : Int} {x2 : Int} {Q : xMe → Prop} (hL : oX12 t a) (hM : xMR M) (hx1 : xR x1) (hx2 : xR x2) (hp : p_X12_spend F a x1 x2 M Q) : xCt G yX12_spend cX12_spend 6 none 2 0 0 [vr a, vi x1, vi x2] t M (fun v t' M' => v = none ∧ xMR M' ∧ t' = t ∧ Q M') (fun _ _ _ => False) := by
  refine xCt_of (L0 := [vr a, vi x1, vi x2, vU, vU, vU]) (by decide +kernel) (Nat.le_of_ble_eq_true rfl) rfl ?_
  intro X hX hB
  unfold p_X12_spend at hp
  refine xJ_iload_n hX dX12_spend_0 rfl ?_
  refine xJ_istore_n hX dX12_spend_1 (Nat.le_of_ble_eq_true rfl) rfl ?_
  dsimp only [List.set]
  have lp2 : ∀ (k : Nat) (x1 : Int) (x2 : Int) (x3 : Int) (M : xMe) (hM : xMR M) (hx1 : xR x1) (hx2 : xR x2) (hx3 : xR x3) (hp : p_X12_spend_2 F a Q k x1 x2 x3 M), xJ X 0 0 t M 2 [vr a, vi x1, vi x2, vi x3, vU, vU] [] := by
    intro k
    induction k with
    | zero => intro x1 x2 x3 M hM hx1 hx2 hx3 hp; exact hp.elim
    | succ k ih =>
      intro x1 x2 x3 M hM hx1 hx2 hx3 hp
      unfold p_X12_spend_2 at hp
      refine xJ_iload_n hX dX12_spend_2 rfl ?_
      refine xJ_if_le hX dX12_spend_3 (tgt := 146) (by decide) hx3 (fun c3 => ?_) (fun c3 => ?_)
      · replace hp := hp.1 c3
        refine xJ_aload_n hX dX12_spend_146 rfl ?_
        refine xJ_getR (b := (a + 2)) hX dX12_spend_147 fd_X12_17 rfl (oX12_k hL) (oX12_r8 hL) ?_
        refine xJ_bipush hX dX12_spend_150 rfl ?_
        refine xJ_dup2 hX dX12_spend_152 rfl rfl ?_
        obtain ⟨h153, hp⟩ := hp
        refine xJ_iald hX dX12_spend_153 (oX12_k8 hL) h153.1 (xnlt (oX12_n8 hL) h153.2) ?_
        refine xJ_iload_n hX dX12_spend_154 rfl ?_
        refine xJ_iadd hX dX12_spend_155 ?_
        obtain ⟨h155, hp⟩ := hp
        obtain ⟨h156, hp⟩ := hp
        refine xJ_iastM hX dX12_spend_156 (oX12_k8 hL) h156.1 (xnlt (oX12_n8 hL) h156.2) hM h155 (fun M156 e156 hM156 => ?_)
        replace hp := hp M156 e156
        refine xJ_vret hX hB dX12_spend_157 (by decide) (by decide) ⟨rfl, hM156, rfl, hp⟩
      · replace hp := hp.2 c3
        refine xJ_iconst hX dX12_spend_6 ?_
        refine xJ_istore hX dX12_spend_7 (Nat.le_of_ble_eq_true rfl) rfl ?_
        dsimp only [List.set]
        refine xJ_iconst hX dX12_spend_9 ?_
        refine xJ_istore hX dX12_spend_10 (Nat.le_of_ble_eq_true rfl) rfl ?_
        dsimp only [List.set]
        have lp12 : ∀ (K82 : Int → Int → Int → Int → xMe → Prop) (hK82 : ∀ (y1 : Int) (y2 : Int) (y3 : Int) (y4 : Int) (M : xMe) (hM : xMR M) (hy1 : xR y1) (hy2 : xR y2) (hy3 : xR y3) (hy4 : xR y4) (hp : K82 y1 y2 y3 y4 M), xJ X 0 0 t M 82 [vr a, vi y1, vi y2, vi y3, vi y4, vU] []) (k : Nat) (x1 : Int) (x2 : Int) (x3 : Int) (x4 : Int) (x5 : Int) (M : xMe) (hM : xMR M) (hx1 : xR x1) (hx2 : xR x2) (hx3 : xR x3) (hx4 : xR x4) (hx5 : xR x5) (hp : p_X12_spend_12 F a Q K82 k x1 x2 x3 x4 x5 M), xJ X 0 0 t M 12 [vr a, vi x1, vi x2, vi x3, vi x4, vi x5] [] := by
          intro K82 hK82 k
          induction k with
          | zero => intro x1 x2 x3 x4 x5 M hM hx1 hx2 hx3 hx4 hx5 hp; exact hp.elim
          | succ k ih =>
            intro x1 x2 x3 x4 x5 M hM hx1 hx2 hx3 hx4 hx5 hp
            unfold p_X12_spend_12 at hp
            refine xJ_iload hX dX12_spend_12 rfl ?_
            refine xJ_aload_n hX dX12_spend_14 rfl ?_
            refine xJ_getR (b := (a + 2)) hX dX12_spend_15 fd_X12_17 rfl (oX12_k hL) (oX12_r8 hL) ?_
            refine xJ_iconst hX dX12_spend_18 ?_
            obtain ⟨h19, hp⟩ := hp
            refine xJ_iald hX dX12_spend_19 (oX12_k8 hL) h19.1 (xnlt (oX12_n8 hL) h19.2) ?_
            refine xJ_icmp_ge hX dX12_spend_20 (tgt := 82) (by decide) hx5 (hM _ _) (fun c20 => ?_) (fun c20 => ?_)
            · replace hp := hp.1 c20
              refine xJ_fg 5 ?_
              dsimp only [List.set]
              exact hK82 _ _ _ _ _ hM hx1 hx2 hx3 hx4 hp
            · replace hp := hp.2 c20
              refine xJ_aload_n hX dX12_spend_23 rfl ?_
              refine xJ_getR (b := (a + 2)) hX dX12_spend_24 fd_X12_17 rfl (oX12_k hL) (oX12_r8 hL) ?_
              refine xJ_iload hX dX12_spend_27 rfl ?_
              refine xJ_callS (As := [_]) hX hB dX12_spend_29 lk_X12_203 sm_X12_couponAt (c_X12_couponAt  hM hx5 hp) (by decide) rfl rfl rfl (Nat.le_of_ble_eq_true rfl) (by decide) (by decide) (fun v t9 M29 hv => ?_) (fun _ _ _ q => q.elim)
              obtain ⟨r29, rfl, h29, hM29, ht9, hp⟩ := hv
              replace ht9 := ht9.symm
              subst ht9
              dsimp only [Option.toList, List.cons_append, List.nil_append]
              refine xJ_iconst hX dX12_spend_32 ?_
              refine xJ_iadd hX dX12_spend_33 ?_
              obtain ⟨h33, hp⟩ := hp
              obtain ⟨h34, hp⟩ := hp
              refine xJ_iald hX dX12_spend_34 (oX12_k8 hL) h34.1 (xnlt (oX12_n8 hL) h34.2) ?_
              refine xJ_iload_n hX dX12_spend_35 rfl ?_
              refine xJ_icmp_ne hX dX12_spend_36 (tgt := 76) (by decide) (hM29 _ _) hx1 (fun c36 => ?_) (fun c36 => ?_)
              · replace hp := hp.1 c36
                refine xJ_iinc hX dX12_spend_76 rfl rfl ?_
                dsimp only [List.set]
                obtain ⟨h76, hp⟩ := hp
                refine xJ_goto hX dX12_spend_79 (tgt := 12) (by decide) ?_
                exact ih _ _ _ _ _ _ hM29 hx1 hx2 hx3 hx4 h76 hp
              · replace hp := hp.2 c36
                refine xJ_iload hX dX12_spend_39 rfl ?_
                refine xJ_iconst hX dX12_spend_41 ?_
                refine xJ_icmp_eq hX dX12_spend_42 (tgt := 72) (by decide) hx4 ⟨by decide, by decide⟩ (fun c42 => ?_) (fun c42 => ?_)
                · replace hp := hp.1 c42
                  refine xJ_iload hX dX12_spend_72 rfl ?_
                  refine xJ_istore hX dX12_spend_74 (Nat.le_of_ble_eq_true rfl) rfl ?_
                  dsimp only [List.set]
                  refine xJ_iinc hX dX12_spend_76 rfl rfl ?_
                  dsimp only [List.set]
                  obtain ⟨h76, hp⟩ := hp
                  refine xJ_goto hX dX12_spend_79 (tgt := 12) (by decide) ?_
                  exact ih _ _ _ _ _ _ hM29 hx1 hx2 hx3 hx5 h76 hp
                · replace hp := hp.2 c42
                  refine xJ_aload_n hX dX12_spend_45 rfl ?_
                  refine xJ_getR (b := (a + 2)) hX dX12_spend_46 fd_X12_17 rfl (oX12_k hL) (oX12_r8 hL) ?_
                  refine xJ_iload hX dX12_spend_49 rfl ?_
                  refine xJ_callS (As := [_]) hX hB dX12_spend_51 lk_X12_203 sm_X12_couponAt (c_X12_couponAt  hM29 hx5 hp) (by decide) rfl rfl rfl (Nat.le_of_ble_eq_true rfl) (by decide) (by decide) (fun v t9 M51 hv => ?_) (fun _ _ _ q => q.elim)
                  obtain ⟨r51, rfl, h51, hM51, ht9, hp⟩ := hv
                  replace ht9 := ht9.symm
                  subst ht9
                  dsimp only [Option.toList, List.cons_append, List.nil_append]
                  refine xJ_iconst hX dX12_spend_54 ?_
                  refine xJ_iadd hX dX12_spend_55 ?_
                  obtain ⟨h55, hp⟩ := hp
                  obtain ⟨h56, hp⟩ := hp
                  refine xJ_iald hX dX12_spend_56 (oX12_k8 hL) h56.1 (xnlt (oX12_n8 hL) h56.2) ?_
                  refine xJ_aload_n hX dX12_spend_57 rfl ?_
                  refine xJ_getR (b := (a + 2)) hX dX12_spend_58 fd_X12_17 rfl (oX12_k hL) (oX12_r8 hL) ?_
                  refine xJ_iload hX dX12_spend_61 rfl ?_
                  refine xJ_callS (As := [_]) hX hB dX12_spend_63 lk_X12_203 sm_X12_couponAt (c_X12_couponAt  hM51 hx4 hp) (by decide) rfl rfl rfl (Nat.le_of_ble_eq_true rfl) (by decide) (by decide) (fun v t9 M63 hv => ?_) (fun _ _ _ q => q.elim)
                  obtain ⟨r63, rfl, h63, hM63, ht9, hp⟩ := hv
                  replace ht9 := ht9.symm
                  subst ht9
                  dsimp only [Option.toList, List.cons_append, List.nil_append]
                  refine xJ_iconst hX dX12_spend_66 ?_
                  refine xJ_iadd hX dX12_spend_67 ?_
                  obtain ⟨h67, hp⟩ := hp
                  obtain ⟨h68, hp⟩ := hp
                  refine xJ_iald hX dX12_spend_68 (oX12_k8 hL) h68.1 (xnlt (oX12_n8 hL) h68.2) ?_
                  refine xJ_icmp_ge hX dX12_spend_69 (tgt := 76) (by decide) (hM51 _ _) (hM63 _ _) (fun c69 => ?_) (fun c69 => ?_)
                  · replace hp := hp.1 c69
                    refine xJ_iinc hX dX12_spend_76 rfl rfl ?_
                    dsimp only [List.set]
                    obtain ⟨h76, hp⟩ := hp
                    refine xJ_goto hX dX12_spend_79 (tgt := 12) (by decide) ?_
                    exact ih _ _ _ _ _ _ hM63 hx1 hx2 hx3 hx4 h76 hp
                  · replace hp := hp.2 c69
                    refine xJ_iload hX dX12_spend_72 rfl ?_
                    refine xJ_istore hX dX12_spend_74 (Nat.le_of_ble_eq_true rfl) rfl ?_
                    dsimp only [List.set]
                    refine xJ_iinc hX dX12_spend_76 rfl rfl ?_
                    dsimp only [List.set]
                    obtain ⟨h76, hp⟩ := hp
                    refine xJ_goto hX dX12_spend_79 (tgt := 12) (by decide) ?_
                    exact ih _ _ _ _ _ _ hM63 hx1 hx2 hx3 hx5 h76 hp
        refine lp12 _ (fun y1 y2 y3 y4 M hM hy1 hy2 hy3 hy4 hp => ?_) F _ _ _ _ _ _ hM hx1 hx2 hx3 ⟨by decide, by decide⟩ ⟨by decide, by decide⟩ hp
        · refine xJ_iload_n hX dX12_spend_82 rfl ?_
          refine xJ_aload_n hX dX12_spend_83 rfl ?_
          refine xJ_getR (b := (a + 2)) hX dX12_spend_84 fd_X12_17 rfl (oX12_k hL) (oX12_r8 hL) ?_
          refine xJ_iload hX dX12_spend_87 rfl ?_
          refine xJ_callS (As := [_]) hX hB dX12_spend_89 lk_X12_203 sm_X12_couponAt (c_X12_couponAt  hM hy4 hp) (by decide) rfl rfl rfl (Nat.le_of_ble_eq_true rfl) (by decide) (by decide) (fun v t9 M89 hv => ?_) (fun _ _ _ q => q.elim)
          obtain ⟨r89, rfl, h89, hM89, ht9, hp⟩ := hv
          replace ht9 := ht9.symm
          subst ht9
          dsimp only [Option.toList, List.cons_append, List.nil_append]
          refine xJ_iconst hX dX12_spend_92 ?_
          refine xJ_iadd hX dX12_spend_93 ?_
          obtain ⟨h93, hp⟩ := hp
          obtain ⟨h94, hp⟩ := hp
          refine xJ_iald hX dX12_spend_94 (oX12_k8 hL) h94.1 (xnlt (oX12_n8 hL) h94.2) ?_
          refine xJ_callS (As := [_, _]) hX hB dX12_spend_95 lk_X12_97 sm_X12_min (c_X12_min  hM89 hy3 (hM89 _ _) hp) (by decide) rfl rfl rfl (Nat.le_of_ble_eq_true rfl) (by decide) (by decide) (fun v t9 M95 hv => ?_) (fun _ _ _ q => q.elim)
          obtain ⟨r95, rfl, h95, hM95, ht9, hp⟩ := hv
          replace ht9 := ht9.symm
          subst ht9
          dsimp only [Option.toList, List.cons_append, List.nil_append]
          refine xJ_istore hX dX12_spend_98 (Nat.le_of_ble_eq_true rfl) rfl ?_
          dsimp only [List.set]
          refine xJ_iload_n hX dX12_spend_100 rfl ?_
          refine xJ_iload hX dX12_spend_101 rfl ?_
          refine xJ_isub hX dX12_spend_103 ?_
          obtain ⟨h103, hp⟩ := hp
          refine xJ_istore_n hX dX12_spend_104 (Nat.le_of_ble_eq_true rfl) rfl ?_
          dsimp only [List.set]
          replace hp := hp _ rfl
          refine xJ_aload_n hX dX12_spend_105 rfl ?_
          refine xJ_getR (b := (a + 2)) hX dX12_spend_106 fd_X12_17 rfl (oX12_k hL) (oX12_r8 hL) ?_
          refine xJ_iload hX dX12_spend_109 rfl ?_
          refine xJ_callS (As := [_]) hX hB dX12_spend_111 lk_X12_203 sm_X12_couponAt (c_X12_couponAt  hM95 hy4 hp) (by decide) rfl rfl rfl (Nat.le_of_ble_eq_true rfl) (by decide) (by decide) (fun v t9 M111 hv => ?_) (fun _ _ _ q => q.elim)
          obtain ⟨r111, rfl, h111, hM111, ht9, hp⟩ := hv
          replace ht9 := ht9.symm
          subst ht9
          dsimp only [Option.toList, List.cons_append, List.nil_append]
          refine xJ_iconst hX dX12_spend_114 ?_
          refine xJ_iadd hX dX12_spend_115 ?_
          obtain ⟨h115, hp⟩ := hp
          refine xJ_dup2 hX dX12_spend_116 rfl rfl ?_
          obtain ⟨h117, hp⟩ := hp
          refine xJ_iald hX dX12_spend_117 (oX12_k8 hL) h117.1 (xnlt (oX12_n8 hL) h117.2) ?_
          refine xJ_iload hX dX12_spend_118 rfl ?_
          refine xJ_isub hX dX12_spend_120 ?_
          obtain ⟨h120, hp⟩ := hp
          obtain ⟨h121, hp⟩ := hp
          refine xJ_iastM hX dX12_spend_121 (oX12_k8 hL) h121.1 (xnlt (oX12_n8 hL) h121.2) hM111 h120 (fun M121 e121 hM121 => ?_)
          replace hp := hp M121 e121
          refine xJ_aload_n hX dX12_spend_122 rfl ?_
          refine xJ_getR (b := (a + 2)) hX dX12_spend_123 fd_X12_17 rfl (oX12_k hL) (oX12_r8 hL) ?_
          refine xJ_iload hX dX12_spend_126 rfl ?_
          refine xJ_callS (As := [_]) hX hB dX12_spend_128 lk_X12_203 sm_X12_couponAt (c_X12_couponAt  hM121 hy4 hp) (by decide) rfl rfl rfl (Nat.le_of_ble_eq_true rfl) (by decide) (by decide) (fun v t9 M128 hv => ?_) (fun _ _ _ q => q.elim)
          obtain ⟨r128, rfl, h128, hM128, ht9, hp⟩ := hv
          replace ht9 := ht9.symm
          subst ht9
          dsimp only [Option.toList, List.cons_append, List.nil_append]
          refine xJ_iconst hX dX12_spend_131 ?_
          refine xJ_iadd hX dX12_spend_132 ?_
          obtain ⟨h132, hp⟩ := hp
          obtain ⟨h133, hp⟩ := hp
          refine xJ_iald hX dX12_spend_133 (oX12_k8 hL) h133.1 (xnlt (oX12_n8 hL) h133.2) ?_
          refine xJ_if_ne hX dX12_spend_134 (tgt := 143) (by decide) (hM128 _ _) (fun c134 => ?_) (fun c134 => ?_)
          · replace hp := hp.1 c134
            refine xJ_goto hX dX12_spend_143 (tgt := 2) (by decide) ?_
            refine xJ_fg 4 ?_
            dsimp only [List.set]
            refine xJ_fg 5 ?_
            dsimp only [List.set]
            exact ih _ _ _ _ hM128 hy1 hy2 h103 hp
          · replace hp := hp.2 c134
            refine xJ_aload_n hX dX12_spend_137 rfl ?_
            refine xJ_iload hX dX12_spend_138 rfl ?_
            refine xJ_callV (As := [_]) hX hB dX12_spend_140 lk_X12_206 im_X12_dropCoupon se_X12_dropCoupon rfl (by decide) (oX12_k hL) (c_X12_dropCoupon hL hM128 hy4 hp) (by decide) rfl rfl rfl (Nat.le_of_ble_eq_true rfl) (by decide) (by decide) (fun v t9 M140 hv => ?_) (fun _ _ _ q => q.elim)
            obtain ⟨rfl, hM140, ht9, hp⟩ := hv
            replace ht9 := ht9.symm
            subst ht9
            dsimp only [Option.toList, List.cons_append, List.nil_append]
            refine xJ_goto hX dX12_spend_143 (tgt := 2) (by decide) ?_
            refine xJ_fg 4 ?_
            dsimp only [List.set]
            refine xJ_fg 5 ?_
            dsimp only [List.set]
            exact ih _ _ _ _ hM140 hy1 hy2 h103 hp
  refine lp2 F _ _ _ _ hM hx1 hx2 hx2 hp
def p_X12_limited (x0 : Int) (M : xMe) (Q : Int → xMe → Prop) : Prop :=
  (((xcmp x0 1000000) ≤ 0 → ((0 ≤ (xcmp x0 ((-1000000))) → Q x0 M) ∧ ((xcmp x0 ((-1000000))) < 0 → Q ((-1000000)) M))) ∧ (0 < (xcmp x0 1000000) → Q 1000000 M))
set_option maxHeartbeats 4000000 in
set_option maxRecDepth 100000 in
theorem c_X12_limited {G : xGx} {t : xTh} {M : xMe} {x0 : Int} {Q : Int → xMe → Prop}  (hM : xMR M) (hx0 : xRl x0) (hp : p_X12_limited x0 M Q) : xCt G yX12_limited cX12_limited 2 (some .long) 0 0 0 [vl x0] t M (fun v t' M' => ∃ r, v = some (vl r) ∧ xMR M' ∧ t' = t ∧ Q r M') (fun _ _ _ => False) := by
  refine xCt_of (L0 := [vl x0, vU]) (by decide +kernel) (Nat.le_of_ble_eq_true rfl) rfl ?_
  intro X hX hB
  unfold p_X12_limited at hp
  refine xJ_lload_n hX dX12_limited_0 rfl ?_
  refine xJ_ldc2 (1000000) hX dX12_limited_1 kc_X12_209 ?_
  refine xJ_lcmp hX dX12_limited_4 hx0 ⟨by decide, by decide⟩ ?_
  refine xJ_if_le hX dX12_limited_5 (tgt := 14) (by decide) (xR_cmp _ _) (fun c5 => ?_) (fun c5 => ?_)
  · replace hp := hp.1 c5
    refine xJ_lload_n hX dX12_limited_14 rfl ?_
    refine xJ_ldc2 (-1000000) hX dX12_limited_15 kc_X12_211 ?_
    refine xJ_lcmp hX dX12_limited_18 hx0 ⟨by decide, by decide⟩ ?_
    refine xJ_if_ge hX dX12_limited_19 (tgt := 28) (by decide) (xR_cmp _ _) (fun c19 => ?_) (fun c19 => ?_)
    · replace hp := hp.1 c19
      refine xJ_lload_n hX dX12_limited_28 rfl ?_
      refine xJ_lret hX hB dX12_limited_29 (by decide) (by decide) ⟨_, rfl, hM, rfl, hp⟩
    · replace hp := hp.2 c19
      refine xJ_ldc2 (-1000000) hX dX12_limited_22 kc_X12_211 ?_
      refine xJ_goto hX dX12_limited_25 (tgt := 29) (by decide) ?_
      refine xJ_lret hX hB dX12_limited_29 (by decide) (by decide) ⟨_, rfl, hM, rfl, hp⟩
  · replace hp := hp.2 c5
    refine xJ_ldc2 (1000000) hX dX12_limited_8 kc_X12_209 ?_
    refine xJ_goto hX dX12_limited_11 (tgt := 29) (by decide) ?_
    refine xJ_lret hX hB dX12_limited_29 (by decide) (by decide) ⟨_, rfl, hM, rfl, hp⟩
def p_X12_operate (x0 : Int) (x1 : Int) (x3 : Int) (M : xMe) (Q : Int → xMe → Prop) : Prop :=
  ((x0 ≠ 5 → ((x0 ≠ 2 → ((x0 ≠ 3 → (xRl (x1 * x3)) ∧ p_X12_limited (x1 * x3) M (fun r44 M44 => Q r44 M44)) ∧ (x0 = 3 → (xRl (x1 - x3)) ∧ p_X12_limited (x1 - x3) M (fun r44 M44 => Q r44 M44)))) ∧ (x0 = 2 → (xRl (x1 + x3)) ∧ p_X12_limited (x1 + x3) M (fun r44 M44 => Q r44 M44)))) ∧ (x0 = 5 → (((xcmp x3 0) ≠ 0 → (x3 ≠ (0 : Int) ∧ xRl (Int.tdiv x1 x3)) ∧ Q (Int.tdiv x1 x3) M) ∧ ((xcmp x3 0) = 0 → Q 0 M))))
set_option maxHeartbeats 4000000 in
set_option maxRecDepth 100000 in
theorem c_X12_operate {G : xGx} {t : xTh} {M : xMe} {x0 : Int} {x1 : Int} {x3 : Int} {Q : Int → xMe → Prop}  (hM : xMR M) (hx0 : xR x0) (hx1 : xRl x1) (hx3 : xRl x3) (hp : p_X12_operate x0 x1 x3 M Q) : xCt G yX12_operate cX12_operate 5 (some .long) 1 0 0 [vi x0, vl x1, vl x3] t M (fun v t' M' => ∃ r, v = some (vl r) ∧ xMR M' ∧ t' = t ∧ Q r M') (fun _ _ _ => False) := by
  refine xCt_of (L0 := [vi x0, vl x1, vU, vl x3, vU]) (by decide +kernel) (Nat.le_of_ble_eq_true rfl) rfl ?_
  intro X hX hB
  unfold p_X12_operate at hp
  refine xJ_iload_n hX dX12_operate_0 rfl ?_
  refine xJ_iconst hX dX12_operate_1 ?_
  refine xJ_icmp_ne hX dX12_operate_2 (tgt := 19) (by decide) hx0 ⟨by decide, by decide⟩ (fun c2 => ?_) (fun c2 => ?_)
  · replace hp := hp.1 c2
    refine xJ_iload_n hX dX12_operate_19 rfl ?_
    refine xJ_iconst hX dX12_operate_20 ?_
    refine xJ_icmp_ne hX dX12_operate_21 (tgt := 30) (by decide) hx0 ⟨by decide, by decide⟩ (fun c21 => ?_) (fun c21 => ?_)
    · replace hp := hp.1 c21
      refine xJ_iload_n hX dX12_operate_30 rfl ?_
      refine xJ_iconst hX dX12_operate_31 ?_
      refine xJ_icmp_ne hX dX12_operate_32 (tgt := 41) (by decide) hx0 ⟨by decide, by decide⟩ (fun c32 => ?_) (fun c32 => ?_)
      · replace hp := hp.1 c32
        refine xJ_lload_n hX dX12_operate_41 rfl ?_
        refine xJ_lload_n hX dX12_operate_42 rfl ?_
        refine xJ_lmul hX dX12_operate_43 ?_
        obtain ⟨h43, hp⟩ := hp
        refine xJ_callS (As := [_]) hX hB dX12_operate_44 lk_X12_213 sm_X12_limited (c_X12_limited  hM h43 hp) (by decide) rfl rfl rfl (Nat.le_of_ble_eq_true rfl) (by decide) (by decide) (fun v t9 M44 hv => ?_) (fun _ _ _ q => q.elim)
        obtain ⟨r44, rfl, hM44, ht9, hp⟩ := hv
        replace ht9 := ht9.symm
        subst ht9
        dsimp only [Option.toList, List.cons_append, List.nil_append]
        refine xJ_lret hX hB dX12_operate_47 (by decide) (by decide) ⟨_, rfl, hM44, rfl, hp⟩
      · replace hp := hp.2 c32
        refine xJ_lload_n hX dX12_operate_35 rfl ?_
        refine xJ_lload_n hX dX12_operate_36 rfl ?_
        refine xJ_lsub hX dX12_operate_37 ?_
        obtain ⟨h37, hp⟩ := hp
        refine xJ_goto hX dX12_operate_38 (tgt := 44) (by decide) ?_
        refine xJ_callS (As := [_]) hX hB dX12_operate_44 lk_X12_213 sm_X12_limited (c_X12_limited  hM h37 hp) (by decide) rfl rfl rfl (Nat.le_of_ble_eq_true rfl) (by decide) (by decide) (fun v t9 M44 hv => ?_) (fun _ _ _ q => q.elim)
        obtain ⟨r44, rfl, hM44, ht9, hp⟩ := hv
        replace ht9 := ht9.symm
        subst ht9
        dsimp only [Option.toList, List.cons_append, List.nil_append]
        refine xJ_lret hX hB dX12_operate_47 (by decide) (by decide) ⟨_, rfl, hM44, rfl, hp⟩
    · replace hp := hp.2 c21
      refine xJ_lload_n hX dX12_operate_24 rfl ?_
      refine xJ_lload_n hX dX12_operate_25 rfl ?_
      refine xJ_ladd hX dX12_operate_26 ?_
      obtain ⟨h26, hp⟩ := hp
      refine xJ_goto hX dX12_operate_27 (tgt := 44) (by decide) ?_
      refine xJ_callS (As := [_]) hX hB dX12_operate_44 lk_X12_213 sm_X12_limited (c_X12_limited  hM h26 hp) (by decide) rfl rfl rfl (Nat.le_of_ble_eq_true rfl) (by decide) (by decide) (fun v t9 M44 hv => ?_) (fun _ _ _ q => q.elim)
      obtain ⟨r44, rfl, hM44, ht9, hp⟩ := hv
      replace ht9 := ht9.symm
      subst ht9
      dsimp only [Option.toList, List.cons_append, List.nil_append]
      refine xJ_lret hX hB dX12_operate_47 (by decide) (by decide) ⟨_, rfl, hM44, rfl, hp⟩
  · replace hp := hp.2 c2
    refine xJ_lload_n hX dX12_operate_5 rfl ?_
    refine xJ_lconst hX dX12_operate_6 ?_
    refine xJ_lcmp hX dX12_operate_7 hx3 ⟨by decide, by decide⟩ ?_
    refine xJ_if_ne hX dX12_operate_8 (tgt := 15) (by decide) (xR_cmp _ _) (fun c8 => ?_) (fun c8 => ?_)
    · replace hp := hp.1 c8
      refine xJ_lload_n hX dX12_operate_15 rfl ?_
      refine xJ_lload_n hX dX12_operate_16 rfl ?_
      obtain ⟨h17, hp⟩ := hp
      refine xJ_ldiv hX dX12_operate_17 hx1 hx3 h17.1 ?_
      refine xJ_lret hX hB dX12_operate_18 (by decide) (by decide) ⟨_, rfl, hM, rfl, hp⟩
    · replace hp := hp.2 c8
      refine xJ_lconst hX dX12_operate_11 ?_
      refine xJ_goto hX dX12_operate_12 (tgt := 18) (by decide) ?_
      refine xJ_lret hX hB dX12_operate_18 (by decide) (by decide) ⟨_, rfl, hM, rfl, hp⟩
def p_X12_priceOf_14 (F : Nat) (a : Nat) (Q : Int → xMe → Prop) : Nat → Int → Int → Int → Int → Int → Int → xMe → Prop
  | 0, _, _, _, _, _, _, _ => False
  | k + 1, x1, x2, x3, x4, x5, x6, M =>
    ((0 : Int) ≤ 13 ∧ (13 : Int) < 2105) ∧ (((M (a + 2) 13) ≤ x6 → ((0 : Int) ≤ 0 ∧ (0 : Int) < 1200) ∧ ((0 ≤ (xcmp (M (a + 15) 0) 0) → ((0 : Int) ≤ 0 ∧ (0 : Int) < 1200) ∧ (((xcmp (M (a + 15) 0) 9999) ≤ 0 → ((0 : Int) ≤ 0 ∧ (0 : Int) < 1200) ∧ (xR (M (a + 15) 0)) ∧ Q (M (a + 15) 0) M) ∧ (0 < (xcmp (M (a + 15) 0) 9999) → Q 9999 M))) ∧ ((xcmp (M (a + 15) 0) 0) < 0 → Q 0 M))) ∧ (x6 < (M (a + 2) 13) → (xR (905 + x6)) ∧ ((0 : Int) ≤ (905 + x6) ∧ ((905 + x6) : Int) < 2105) ∧ (∀ z37 : Int, z37 = M (a + 2) (905 + x6).toNat → ((1 < z37 → (xR (x5 + (-1))) ∧ (xR ((x5 + (-1)) - 1)) ∧ (xR ((x5 + (-1)) - 1)) ∧ ((0 : Int) ≤ ((x5 + (-1)) - 1) ∧ (((x5 + (-1)) - 1) : Int) < 1200) ∧ ((0 : Int) ≤ (x5 + (-1)) ∧ ((x5 + (-1)) : Int) < 1200) ∧ p_X12_operate z37 (M (a + 15) ((x5 + (-1)) - 1).toNat) (M (a + 15) (x5 + (-1)).toNat) M (fun r149 M149 => ((0 : Int) ≤ ((x5 + (-1)) - 1) ∧ (((x5 + (-1)) - 1) : Int) < 1200) ∧ (xR (r149)) ∧ (∀ M152 : xMe, M152 = xw M149 (a + 15) ((x5 + (-1)) - 1).toNat r149 → (xR (x6 + 1)) ∧ p_X12_priceOf_14 F a Q k x1 x2 x3 x4 (x5 + (-1)) (x6 + 1) M152))) ∧ (z37 ≤ 1 → (xR (x6 + 1)) ∧ (xR (905 + (x6 + 1))) ∧ ((0 : Int) ≤ (905 + (x6 + 1)) ∧ ((905 + (x6 + 1)) : Int) < 2105) ∧ (∀ z59 : Int, z59 = M (a + 2) (905 + (x6 + 1)).toNat → ((z37 ≠ 0 → ((z59 ≠ 0 → ((z59 ≠ 1 → ((z59 ≠ 2 → ((0 : Int) ≤ x5 ∧ (x5 : Int) < 1200) ∧ (xR (x4)) ∧ (∀ M113 : xMe, M113 = xw M (a + 15) x5.toNat x4 → (xR (x5 + 1)) ∧ (xR ((x6 + 1) + 1)) ∧ p_X12_priceOf_14 F a Q k x1 x2 x3 x4 (x5 + 1) ((x6 + 1) + 1) M113)) ∧ (z59 = 2 → ((0 : Int) ≤ x5 ∧ (x5 : Int) < 1200) ∧ (xR (x3)) ∧ (∀ M113 : xMe, M113 = xw M (a + 15) x5.toNat x3 → (xR (x5 + 1)) ∧ (xR ((x6 + 1) + 1)) ∧ p_X12_priceOf_14 F a Q k x1 x2 x3 x4 (x5 + 1) ((x6 + 1) + 1) M113)))) ∧ (z59 = 1 → ((0 : Int) ≤ x5 ∧ (x5 : Int) < 1200) ∧ (xR (x2)) ∧ (∀ M113 : xMe, M113 = xw M (a + 15) x5.toNat x2 → (xR (x5 + 1)) ∧ (xR ((x6 + 1) + 1)) ∧ p_X12_priceOf_14 F a Q k x1 x2 x3 x4 (x5 + 1) ((x6 + 1) + 1) M113)))) ∧ (z59 = 0 → ((0 : Int) ≤ x5 ∧ (x5 : Int) < 1200) ∧ (xR (x1)) ∧ (∀ M113 : xMe, M113 = xw M (a + 15) x5.toNat x1 → (xR (x5 + 1)) ∧ (xR ((x6 + 1) + 1)) ∧ p_X12_priceOf_14 F a Q k x1 x2 x3 x4 (x5 + 1) ((x6 + 1) + 1) M113)))) ∧ (z37 = 0 → ((0 : Int) ≤ x5 ∧ (x5 : Int) < 1200) ∧ (xR (z59)) ∧ (∀ M113 : xMe, M113 = xw M (a + 15) x5.toNat z59 → (xR (x5 + 1)) ∧ (xR ((x6 + 1) + 1)) ∧ p_X12_priceOf_14 F a Q k x1 x2 x3 x4 (x5 + 1) ((x6 + 1) + 1) M113)))))))))
def p_X12_priceOf (F : Nat) (a : Nat) (x1 : Int) (x2 : Int) (x3 : Int) (x4 : Int) (M : xMe) (Q : Int → xMe → Prop) : Prop :=
  ((0 : Int) ≤ 0 ∧ (0 : Int) < 1200) ∧ (xR (x1)) ∧ (∀ M10 : xMe, M10 = xw M (a + 15) 0 x1 → p_X12_priceOf_14 F a Q F x1 x2 x3 x4 0 0 M10)
set_option maxHeartbeats 4000000 in
set_option maxRecDepth 100000 in
theorem c_X12_priceOf {G : xGx} {t : xTh} {M : xMe} {F : Nat} {a : Nat} {x1 : Int} {x2 : Int} {x3 : Int} {x4 : Int} {Q : Int → xMe → Prop} (hL : oX12 t a) (hM : xMR M) (hx1 : xR x1) (hx2 : xR x2) (hx3 : xR x3) (hx4 : xR x4) (hp : p_X12_priceOf F a x1 x2 x3 x4 M Q) : xCt G yX12_priceOf cX12_priceOf 9 (some .int) 2 0 0 [vr a, vi x1, vi x2, vi x3, vi x4] t M (fun v t' M' => ∃ r, v = some (vi r) ∧ xR r ∧ xMR M' ∧ t' = t ∧ Q r M') (fun _ _ _ => False) := by
  refine xCt_of (L0 := [vr a, vi x1, vi x2, vi x3, vi x4, vU, vU, vU, vU]) (by decide +kernel) (Nat.le_of_ble_eq_true rfl) rfl ?_
  intro X hX hB
  unfold p_X12_priceOf at hp
  refine xJ_iconst hX dX12_priceOf_0 ?_
  refine xJ_istore hX dX12_priceOf_1 (Nat.le_of_ble_eq_true rfl) rfl ?_
  dsimp only [List.set]
  refine xJ_aload_n hX dX12_priceOf_3 rfl ?_
  refine xJ_getR (b := (a + 15)) hX dX12_priceOf_4 fd_X12_34 rfl (oX12_k hL) (oX12_r17 hL) ?_
  refine xJ_iconst hX dX12_priceOf_7 ?_
  refine xJ_iload_n hX dX12_priceOf_8 rfl ?_
  refine xJ_i2l hX dX12_priceOf_9 hx1 ?_
  obtain ⟨h10, hp⟩ := hp
  obtain ⟨h10v, hp⟩ := hp
  refine xJ_lastM hX dX12_priceOf_10 (oX12_k17 hL) h10.1 (xnlt (oX12_n17 hL) h10.2) hM h10v (fun M10 e10 hM10 => ?_)
  replace hp := hp M10 e10
  refine xJ_iconst hX dX12_priceOf_11 ?_
  refine xJ_istore hX dX12_priceOf_12 (Nat.le_of_ble_eq_true rfl) rfl ?_
  dsimp only [List.set]
  have lp14 : ∀ (k : Nat) (x1 : Int) (x2 : Int) (x3 : Int) (x4 : Int) (x5 : Int) (x6 : Int) (M : xMe) (hM : xMR M) (hx1 : xR x1) (hx2 : xR x2) (hx3 : xR x3) (hx4 : xR x4) (hx5 : xR x5) (hx6 : xR x6) (hp : p_X12_priceOf_14 F a Q k x1 x2 x3 x4 x5 x6 M), xJ X 0 0 t M 14 [vr a, vi x1, vi x2, vi x3, vi x4, vi x5, vi x6, vU, vU] [] := by
    intro k
    induction k with
    | zero => intro x1 x2 x3 x4 x5 x6 M hM hx1 hx2 hx3 hx4 hx5 hx6 hp; exact hp.elim
    | succ k ih =>
      intro x1 x2 x3 x4 x5 x6 M hM hx1 hx2 hx3 hx4 hx5 hx6 hp
      unfold p_X12_priceOf_14 at hp
      refine xJ_iload hX dX12_priceOf_14 rfl ?_
      refine xJ_aload_n hX dX12_priceOf_16 rfl ?_
      refine xJ_getR (b := (a + 2)) hX dX12_priceOf_17 fd_X12_17 rfl (oX12_k hL) (oX12_r8 hL) ?_
      refine xJ_bipush hX dX12_priceOf_20 rfl ?_
      obtain ⟨h22, hp⟩ := hp
      refine xJ_iald hX dX12_priceOf_22 (oX12_k8 hL) h22.1 (xnlt (oX12_n8 hL) h22.2) ?_
      refine xJ_icmp_ge hX dX12_priceOf_23 (tgt := 159) (by decide) hx6 (hM _ _) (fun c23 => ?_) (fun c23 => ?_)
      · replace hp := hp.1 c23
        refine xJ_aload_n hX dX12_priceOf_159 rfl ?_
        refine xJ_getR (b := (a + 15)) hX dX12_priceOf_160 fd_X12_34 rfl (oX12_k hL) (oX12_r17 hL) ?_
        refine xJ_iconst hX dX12_priceOf_163 ?_
        obtain ⟨h164, hp⟩ := hp
        refine xJ_lald hX dX12_priceOf_164 (oX12_k17 hL) h164.1 (xnlt (oX12_n17 hL) h164.2) ?_
        refine xJ_lconst hX dX12_priceOf_165 ?_
        refine xJ_lcmp hX dX12_priceOf_166 (xRl_of (hM _ _)) ⟨by decide, by decide⟩ ?_
        refine xJ_if_ge hX dX12_priceOf_167 (tgt := 174) (by decide) (xR_cmp _ _) (fun c167 => ?_) (fun c167 => ?_)
        · replace hp := hp.1 c167
          refine xJ_aload_n hX dX12_priceOf_174 rfl ?_
          refine xJ_getR (b := (a + 15)) hX dX12_priceOf_175 fd_X12_34 rfl (oX12_k hL) (oX12_r17 hL) ?_
          refine xJ_iconst hX dX12_priceOf_178 ?_
          obtain ⟨h179, hp⟩ := hp
          refine xJ_lald hX dX12_priceOf_179 (oX12_k17 hL) h179.1 (xnlt (oX12_n17 hL) h179.2) ?_
          refine xJ_ldc2 (9999) hX dX12_priceOf_180 kc_X12_221 ?_
          refine xJ_lcmp hX dX12_priceOf_183 (xRl_of (hM _ _)) ⟨by decide, by decide⟩ ?_
          refine xJ_if_le hX dX12_priceOf_184 (tgt := 193) (by decide) (xR_cmp _ _) (fun c184 => ?_) (fun c184 => ?_)
          · replace hp := hp.1 c184
            refine xJ_aload_n hX dX12_priceOf_193 rfl ?_
            refine xJ_getR (b := (a + 15)) hX dX12_priceOf_194 fd_X12_34 rfl (oX12_k hL) (oX12_r17 hL) ?_
            refine xJ_iconst hX dX12_priceOf_197 ?_
            obtain ⟨h198, hp⟩ := hp
            refine xJ_lald hX dX12_priceOf_198 (oX12_k17 hL) h198.1 (xnlt (oX12_n17 hL) h198.2) ?_
            obtain ⟨h199, hp⟩ := hp
            refine xJ_l2i hX dX12_priceOf_199 ?_
            refine xJ_iret hX hB dX12_priceOf_200 (by decide) (by decide) ⟨_, rfl, h199, hM, rfl, hp⟩
          · replace hp := hp.2 c184
            refine xJ_sipush hX dX12_priceOf_187 rfl ?_
            refine xJ_goto hX dX12_priceOf_190 (tgt := 200) (by decide) ?_
            refine xJ_iret hX hB dX12_priceOf_200 (by decide) (by decide) ⟨_, rfl, ⟨by decide, by decide⟩, hM, rfl, hp⟩
        · replace hp := hp.2 c167
          refine xJ_iconst hX dX12_priceOf_170 ?_
          refine xJ_goto hX dX12_priceOf_171 (tgt := 200) (by decide) ?_
          refine xJ_iret hX hB dX12_priceOf_200 (by decide) (by decide) ⟨_, rfl, ⟨by decide, by decide⟩, hM, rfl, hp⟩
      · replace hp := hp.2 c23
        refine xJ_aload_n hX dX12_priceOf_26 rfl ?_
        refine xJ_getR (b := (a + 2)) hX dX12_priceOf_27 fd_X12_17 rfl (oX12_k hL) (oX12_r8 hL) ?_
        refine xJ_sipush hX dX12_priceOf_30 rfl ?_
        refine xJ_iload hX dX12_priceOf_33 rfl ?_
        refine xJ_iadd hX dX12_priceOf_35 ?_
        obtain ⟨h35, hp⟩ := hp
        obtain ⟨h36, hp⟩ := hp
        refine xJ_iald hX dX12_priceOf_36 (oX12_k8 hL) h36.1 (xnlt (oX12_n8 hL) h36.2) ?_
        refine xJ_istore hX dX12_priceOf_37 (Nat.le_of_ble_eq_true rfl) rfl ?_
        dsimp only [List.set]
        replace hp := hp _ rfl
        refine xJ_iload hX dX12_priceOf_39 rfl ?_
        refine xJ_iconst hX dX12_priceOf_41 ?_
        refine xJ_icmp_gt hX dX12_priceOf_42 (tgt := 120) (by decide) (hM _ _) ⟨by decide, by decide⟩ (fun c42 => ?_) (fun c42 => ?_)
        · replace hp := hp.1 c42
          refine xJ_iinc hX dX12_priceOf_120 rfl rfl ?_
          dsimp only [List.set]
          obtain ⟨h120, hp⟩ := hp
          refine xJ_aload_n hX dX12_priceOf_123 rfl ?_
          refine xJ_getR (b := (a + 15)) hX dX12_priceOf_124 fd_X12_34 rfl (oX12_k hL) (oX12_r17 hL) ?_
          refine xJ_iload hX dX12_priceOf_127 rfl ?_
          refine xJ_iconst hX dX12_priceOf_129 ?_
          refine xJ_isub hX dX12_priceOf_130 ?_
          obtain ⟨h130, hp⟩ := hp
          refine xJ_iload hX dX12_priceOf_131 rfl ?_
          refine xJ_aload_n hX dX12_priceOf_133 rfl ?_
          refine xJ_getR (b := (a + 15)) hX dX12_priceOf_134 fd_X12_34 rfl (oX12_k hL) (oX12_r17 hL) ?_
          refine xJ_iload hX dX12_priceOf_137 rfl ?_
          refine xJ_iconst hX dX12_priceOf_139 ?_
          refine xJ_isub hX dX12_priceOf_140 ?_
          obtain ⟨h140, hp⟩ := hp
          obtain ⟨h141, hp⟩ := hp
          refine xJ_lald hX dX12_priceOf_141 (oX12_k17 hL) h141.1 (xnlt (oX12_n17 hL) h141.2) ?_
          refine xJ_aload_n hX dX12_priceOf_142 rfl ?_
          refine xJ_getR (b := (a + 15)) hX dX12_priceOf_143 fd_X12_34 rfl (oX12_k hL) (oX12_r17 hL) ?_
          refine xJ_iload hX dX12_priceOf_146 rfl ?_
          obtain ⟨h148, hp⟩ := hp
          refine xJ_lald hX dX12_priceOf_148 (oX12_k17 hL) h148.1 (xnlt (oX12_n17 hL) h148.2) ?_
          refine xJ_callS (As := [_, _, _]) hX hB dX12_priceOf_149 lk_X12_217 sm_X12_operate (c_X12_operate  hM (hM _ _) (xRl_of (hM _ _)) (xRl_of (hM _ _)) hp) (by decide) rfl rfl rfl (Nat.le_of_ble_eq_true rfl) (by decide) (by decide) (fun v t9 M149 hv => ?_) (fun _ _ _ q => q.elim)
          obtain ⟨r149, rfl, hM149, ht9, hp⟩ := hv
          replace ht9 := ht9.symm
          subst ht9
          dsimp only [Option.toList, List.cons_append, List.nil_append]
          obtain ⟨h152, hp⟩ := hp
          obtain ⟨h152v, hp⟩ := hp
          refine xJ_lastM hX dX12_priceOf_152 (oX12_k17 hL) h152.1 (xnlt (oX12_n17 hL) h152.2) hM149 h152v (fun M152 e152 hM152 => ?_)
          replace hp := hp M152 e152
          refine xJ_iinc hX dX12_priceOf_153 rfl rfl ?_
          dsimp only [List.set]
          obtain ⟨h153, hp⟩ := hp
          refine xJ_goto hX dX12_priceOf_156 (tgt := 14) (by decide) ?_
          refine xJ_fg 7 ?_
          dsimp only [List.set]
          exact ih _ _ _ _ _ _ _ hM152 hx1 hx2 hx3 hx4 h120 h153 hp
        · replace hp := hp.2 c42
          refine xJ_iinc hX dX12_priceOf_45 rfl rfl ?_
          dsimp only [List.set]
          obtain ⟨h45, hp⟩ := hp
          refine xJ_aload_n hX dX12_priceOf_48 rfl ?_
          refine xJ_getR (b := (a + 2)) hX dX12_priceOf_49 fd_X12_17 rfl (oX12_k hL) (oX12_r8 hL) ?_
          refine xJ_sipush hX dX12_priceOf_52 rfl ?_
          refine xJ_iload hX dX12_priceOf_55 rfl ?_
          refine xJ_iadd hX dX12_priceOf_57 ?_
          obtain ⟨h57, hp⟩ := hp
          obtain ⟨h58, hp⟩ := hp
          refine xJ_iald hX dX12_priceOf_58 (oX12_k8 hL) h58.1 (xnlt (oX12_n8 hL) h58.2) ?_
          refine xJ_istore hX dX12_priceOf_59 (Nat.le_of_ble_eq_true rfl) rfl ?_
          dsimp only [List.set]
          replace hp := hp _ rfl
          refine xJ_aload_n hX dX12_priceOf_61 rfl ?_
          refine xJ_getR (b := (a + 15)) hX dX12_priceOf_62 fd_X12_34 rfl (oX12_k hL) (oX12_r17 hL) ?_
          refine xJ_iload hX dX12_priceOf_65 rfl ?_
          refine xJ_iload hX dX12_priceOf_67 rfl ?_
          refine xJ_if_ne hX dX12_priceOf_69 (tgt := 78) (by decide) (hM _ _) (fun c69 => ?_) (fun c69 => ?_)
          · replace hp := hp.1 c69
            refine xJ_iload hX dX12_priceOf_78 rfl ?_
            refine xJ_if_ne hX dX12_priceOf_80 (tgt := 88) (by decide) (hM _ _) (fun c80 => ?_) (fun c80 => ?_)
            · replace hp := hp.1 c80
              refine xJ_iload hX dX12_priceOf_88 rfl ?_
              refine xJ_iconst hX dX12_priceOf_90 ?_
              refine xJ_icmp_ne hX dX12_priceOf_91 (tgt := 99) (by decide) (hM _ _) ⟨by decide, by decide⟩ (fun c91 => ?_) (fun c91 => ?_)
              · replace hp := hp.1 c91
                refine xJ_iload hX dX12_priceOf_99 rfl ?_
                refine xJ_iconst hX dX12_priceOf_101 ?_
                refine xJ_icmp_ne hX dX12_priceOf_102 (tgt := 110) (by decide) (hM _ _) ⟨by decide, by decide⟩ (fun c102 => ?_) (fun c102 => ?_)
                · replace hp := hp.1 c102
                  refine xJ_iload hX dX12_priceOf_110 rfl ?_
                  refine xJ_i2l hX dX12_priceOf_112 hx4 ?_
                  obtain ⟨h113, hp⟩ := hp
                  obtain ⟨h113v, hp⟩ := hp
                  refine xJ_lastM hX dX12_priceOf_113 (oX12_k17 hL) h113.1 (xnlt (oX12_n17 hL) h113.2) hM h113v (fun M113 e113 hM113 => ?_)
                  replace hp := hp M113 e113
                  refine xJ_iinc hX dX12_priceOf_114 rfl rfl ?_
                  dsimp only [List.set]
                  obtain ⟨h114, hp⟩ := hp
                  refine xJ_goto hX dX12_priceOf_117 (tgt := 153) (by decide) ?_
                  refine xJ_iinc hX dX12_priceOf_153 rfl rfl ?_
                  dsimp only [List.set]
                  obtain ⟨h153, hp⟩ := hp
                  refine xJ_goto hX dX12_priceOf_156 (tgt := 14) (by decide) ?_
                  refine xJ_fg 7 ?_
                  dsimp only [List.set]
                  refine xJ_fg 8 ?_
                  dsimp only [List.set]
                  exact ih _ _ _ _ _ _ _ hM113 hx1 hx2 hx3 hx4 h114 h153 hp
                · replace hp := hp.2 c102
                  refine xJ_iload_n hX dX12_priceOf_105 rfl ?_
                  refine xJ_i2l hX dX12_priceOf_106 hx3 ?_
                  refine xJ_goto hX dX12_priceOf_107 (tgt := 113) (by decide) ?_
                  obtain ⟨h113, hp⟩ := hp
                  obtain ⟨h113v, hp⟩ := hp
                  refine xJ_lastM hX dX12_priceOf_113 (oX12_k17 hL) h113.1 (xnlt (oX12_n17 hL) h113.2) hM h113v (fun M113 e113 hM113 => ?_)
                  replace hp := hp M113 e113
                  refine xJ_iinc hX dX12_priceOf_114 rfl rfl ?_
                  dsimp only [List.set]
                  obtain ⟨h114, hp⟩ := hp
                  refine xJ_goto hX dX12_priceOf_117 (tgt := 153) (by decide) ?_
                  refine xJ_iinc hX dX12_priceOf_153 rfl rfl ?_
                  dsimp only [List.set]
                  obtain ⟨h153, hp⟩ := hp
                  refine xJ_goto hX dX12_priceOf_156 (tgt := 14) (by decide) ?_
                  refine xJ_fg 7 ?_
                  dsimp only [List.set]
                  refine xJ_fg 8 ?_
                  dsimp only [List.set]
                  exact ih _ _ _ _ _ _ _ hM113 hx1 hx2 hx3 hx4 h114 h153 hp
              · replace hp := hp.2 c91
                refine xJ_iload_n hX dX12_priceOf_94 rfl ?_
                refine xJ_i2l hX dX12_priceOf_95 hx2 ?_
                refine xJ_goto hX dX12_priceOf_96 (tgt := 113) (by decide) ?_
                obtain ⟨h113, hp⟩ := hp
                obtain ⟨h113v, hp⟩ := hp
                refine xJ_lastM hX dX12_priceOf_113 (oX12_k17 hL) h113.1 (xnlt (oX12_n17 hL) h113.2) hM h113v (fun M113 e113 hM113 => ?_)
                replace hp := hp M113 e113
                refine xJ_iinc hX dX12_priceOf_114 rfl rfl ?_
                dsimp only [List.set]
                obtain ⟨h114, hp⟩ := hp
                refine xJ_goto hX dX12_priceOf_117 (tgt := 153) (by decide) ?_
                refine xJ_iinc hX dX12_priceOf_153 rfl rfl ?_
                dsimp only [List.set]
                obtain ⟨h153, hp⟩ := hp
                refine xJ_goto hX dX12_priceOf_156 (tgt := 14) (by decide) ?_
                refine xJ_fg 7 ?_
                dsimp only [List.set]
                refine xJ_fg 8 ?_
                dsimp only [List.set]
                exact ih _ _ _ _ _ _ _ hM113 hx1 hx2 hx3 hx4 h114 h153 hp
            · replace hp := hp.2 c80
              refine xJ_iload_n hX dX12_priceOf_83 rfl ?_
              refine xJ_i2l hX dX12_priceOf_84 hx1 ?_
              refine xJ_goto hX dX12_priceOf_85 (tgt := 113) (by decide) ?_
              obtain ⟨h113, hp⟩ := hp
              obtain ⟨h113v, hp⟩ := hp
              refine xJ_lastM hX dX12_priceOf_113 (oX12_k17 hL) h113.1 (xnlt (oX12_n17 hL) h113.2) hM h113v (fun M113 e113 hM113 => ?_)
              replace hp := hp M113 e113
              refine xJ_iinc hX dX12_priceOf_114 rfl rfl ?_
              dsimp only [List.set]
              obtain ⟨h114, hp⟩ := hp
              refine xJ_goto hX dX12_priceOf_117 (tgt := 153) (by decide) ?_
              refine xJ_iinc hX dX12_priceOf_153 rfl rfl ?_
              dsimp only [List.set]
              obtain ⟨h153, hp⟩ := hp
              refine xJ_goto hX dX12_priceOf_156 (tgt := 14) (by decide) ?_
              refine xJ_fg 7 ?_
              dsimp only [List.set]
              refine xJ_fg 8 ?_
              dsimp only [List.set]
              exact ih _ _ _ _ _ _ _ hM113 hx1 hx2 hx3 hx4 h114 h153 hp
          · replace hp := hp.2 c69
            refine xJ_iload hX dX12_priceOf_72 rfl ?_
            refine xJ_i2l hX dX12_priceOf_74 (hM _ _) ?_
            refine xJ_goto hX dX12_priceOf_75 (tgt := 113) (by decide) ?_
            obtain ⟨h113, hp⟩ := hp
            obtain ⟨h113v, hp⟩ := hp
            refine xJ_lastM hX dX12_priceOf_113 (oX12_k17 hL) h113.1 (xnlt (oX12_n17 hL) h113.2) hM h113v (fun M113 e113 hM113 => ?_)
            replace hp := hp M113 e113
            refine xJ_iinc hX dX12_priceOf_114 rfl rfl ?_
            dsimp only [List.set]
            obtain ⟨h114, hp⟩ := hp
            refine xJ_goto hX dX12_priceOf_117 (tgt := 153) (by decide) ?_
            refine xJ_iinc hX dX12_priceOf_153 rfl rfl ?_
            dsimp only [List.set]
            obtain ⟨h153, hp⟩ := hp
            refine xJ_goto hX dX12_priceOf_156 (tgt := 14) (by decide) ?_
            refine xJ_fg 7 ?_
            dsimp only [List.set]
            refine xJ_fg 8 ?_
            dsimp only [List.set]
            exact ih _ _ _ _ _ _ _ hM113 hx1 hx2 hx3 hx4 h114 h153 hp
  refine lp14 F _ _ _ _ _ _ _ hM10 hx1 hx2 hx3 hx4 ⟨by decide, by decide⟩ ⟨by decide, by decide⟩ hp
def p_X12_end (a : Nat) (x1 : Int) (x2 : Int) (M : xMe) (Q : xMe → Prop) : Prop :=
  p_X12_packetAt x1 M (fun r5 M5 => (xR (r5 + 3)) ∧ ((0 : Int) ≤ (r5 + 3) ∧ ((r5 + 3) : Int) < 2105) ∧ (∀ M11 : xMe, M11 = xw M5 (a + 2) (r5 + 3).toNat x2 → p_X12_packetAt x1 M11 (fun r17 M17 => (xR (r17 + 6)) ∧ ((0 : Int) ≤ 0 ∧ (0 : Int) < 2105) ∧ ((0 : Int) ≤ (r17 + 6) ∧ ((r17 + 6) : Int) < 2105) ∧ (∀ M29 : xMe, M29 = xw M17 (a + 2) (r17 + 6).toNat (M17 (a + 2) 0) → ((x2 ≠ 3 → ((0 : Int) ≤ 6 ∧ (6 : Int) < 2105) ∧ (xR ((M29 (a + 2) 6) + 1)) ∧ ((0 : Int) ≤ 6 ∧ (6 : Int) < 2105) ∧ (∀ M49 : xMe, M49 = xw M29 (a + 2) 6 ((M29 (a + 2) 6) + 1) → Q M49)) ∧ (x2 = 3 → ((0 : Int) ≤ 5 ∧ (5 : Int) < 2105) ∧ (xR ((M29 (a + 2) 5) + 1)) ∧ ((0 : Int) ≤ 5 ∧ (5 : Int) < 2105) ∧ (∀ M49 : xMe, M49 = xw M29 (a + 2) 5 ((M29 (a + 2) 5) + 1) → Q M49)))))))
set_option maxHeartbeats 4000000 in
set_option maxRecDepth 100000 in
theorem c_X12_end {G : xGx} {t : xTh} {M : xMe} {a : Nat} {x1 : Int} {x2 : Int} {Q : xMe → Prop} (hL : oX12 t a) (hM : xMR M) (hx1 : xR x1) (hx2 : xR x2) (hp : p_X12_end a x1 x2 M Q) : xCt G yX12_end cX12_end 3 none 1 0 0 [vr a, vi x1, vi x2] t M (fun v t' M' => v = none ∧ xMR M' ∧ t' = t ∧ Q M') (fun _ _ _ => False) := by
  refine xCt_of (L0 := [vr a, vi x1, vi x2]) (by decide +kernel) (Nat.le_of_ble_eq_true rfl) rfl ?_
  intro X hX hB
  unfold p_X12_end at hp
  refine xJ_aload_n hX dX12_end_0 rfl ?_
  refine xJ_getR (b := (a + 2)) hX dX12_end_1 fd_X12_17 rfl (oX12_k hL) (oX12_r8 hL) ?_
  refine xJ_iload_n hX dX12_end_4 rfl ?_
  refine xJ_callS (As := [_]) hX hB dX12_end_5 lk_X12_197 sm_X12_packetAt (c_X12_packetAt  hM hx1 hp) (by decide) rfl rfl rfl (Nat.le_of_ble_eq_true rfl) (by decide) (by decide) (fun v t9 M5 hv => ?_) (fun _ _ _ q => q.elim)
  obtain ⟨r5, rfl, h5, hM5, ht9, hp⟩ := hv
  replace ht9 := ht9.symm
  subst ht9
  dsimp only [Option.toList, List.cons_append, List.nil_append]
  refine xJ_iconst hX dX12_end_8 ?_
  refine xJ_iadd hX dX12_end_9 ?_
  obtain ⟨h9, hp⟩ := hp
  refine xJ_iload_n hX dX12_end_10 rfl ?_
  obtain ⟨h11, hp⟩ := hp
  refine xJ_iastM hX dX12_end_11 (oX12_k8 hL) h11.1 (xnlt (oX12_n8 hL) h11.2) hM5 hx2 (fun M11 e11 hM11 => ?_)
  replace hp := hp M11 e11
  refine xJ_aload_n hX dX12_end_12 rfl ?_
  refine xJ_getR (b := (a + 2)) hX dX12_end_13 fd_X12_17 rfl (oX12_k hL) (oX12_r8 hL) ?_
  refine xJ_iload_n hX dX12_end_16 rfl ?_
  refine xJ_callS (As := [_]) hX hB dX12_end_17 lk_X12_197 sm_X12_packetAt (c_X12_packetAt  hM11 hx1 hp) (by decide) rfl rfl rfl (Nat.le_of_ble_eq_true rfl) (by decide) (by decide) (fun v t9 M17 hv => ?_) (fun _ _ _ q => q.elim)
  obtain ⟨r17, rfl, h17, hM17, ht9, hp⟩ := hv
  replace ht9 := ht9.symm
  subst ht9
  dsimp only [Option.toList, List.cons_append, List.nil_append]
  refine xJ_bipush hX dX12_end_20 rfl ?_
  refine xJ_iadd hX dX12_end_22 ?_
  obtain ⟨h22, hp⟩ := hp
  refine xJ_aload_n hX dX12_end_23 rfl ?_
  refine xJ_getR (b := (a + 2)) hX dX12_end_24 fd_X12_17 rfl (oX12_k hL) (oX12_r8 hL) ?_
  refine xJ_iconst hX dX12_end_27 ?_
  obtain ⟨h28, hp⟩ := hp
  refine xJ_iald hX dX12_end_28 (oX12_k8 hL) h28.1 (xnlt (oX12_n8 hL) h28.2) ?_
  obtain ⟨h29, hp⟩ := hp
  refine xJ_iastM hX dX12_end_29 (oX12_k8 hL) h29.1 (xnlt (oX12_n8 hL) h29.2) hM17 (hM17 _ _) (fun M29 e29 hM29 => ?_)
  replace hp := hp M29 e29
  refine xJ_aload_n hX dX12_end_30 rfl ?_
  refine xJ_getR (b := (a + 2)) hX dX12_end_31 fd_X12_17 rfl (oX12_k hL) (oX12_r8 hL) ?_
  refine xJ_iload_n hX dX12_end_34 rfl ?_
  refine xJ_iconst hX dX12_end_35 ?_
  refine xJ_icmp_ne hX dX12_end_36 (tgt := 43) (by decide) hx2 ⟨by decide, by decide⟩ (fun c36 => ?_) (fun c36 => ?_)
  · replace hp := hp.1 c36
    refine xJ_bipush hX dX12_end_43 rfl ?_
    refine xJ_dup2 hX dX12_end_45 rfl rfl ?_
    obtain ⟨h46, hp⟩ := hp
    refine xJ_iald hX dX12_end_46 (oX12_k8 hL) h46.1 (xnlt (oX12_n8 hL) h46.2) ?_
    refine xJ_iconst hX dX12_end_47 ?_
    refine xJ_iadd hX dX12_end_48 ?_
    obtain ⟨h48, hp⟩ := hp
    obtain ⟨h49, hp⟩ := hp
    refine xJ_iastM hX dX12_end_49 (oX12_k8 hL) h49.1 (xnlt (oX12_n8 hL) h49.2) hM29 h48 (fun M49 e49 hM49 => ?_)
    replace hp := hp M49 e49
    refine xJ_vret hX hB dX12_end_50 (by decide) (by decide) ⟨rfl, hM49, rfl, hp⟩
  · replace hp := hp.2 c36
    refine xJ_iconst hX dX12_end_39 ?_
    refine xJ_goto hX dX12_end_40 (tgt := 45) (by decide) ?_
    refine xJ_dup2 hX dX12_end_45 rfl rfl ?_
    obtain ⟨h46, hp⟩ := hp
    refine xJ_iald hX dX12_end_46 (oX12_k8 hL) h46.1 (xnlt (oX12_n8 hL) h46.2) ?_
    refine xJ_iconst hX dX12_end_47 ?_
    refine xJ_iadd hX dX12_end_48 ?_
    obtain ⟨h48, hp⟩ := hp
    obtain ⟨h49, hp⟩ := hp
    refine xJ_iastM hX dX12_end_49 (oX12_k8 hL) h49.1 (xnlt (oX12_n8 hL) h49.2) hM29 h48 (fun M49 e49 hM49 => ?_)
    replace hp := hp M49 e49
    refine xJ_vret hX hB dX12_end_50 (by decide) (by decide) ⟨rfl, hM49, rfl, hp⟩
def p_X12_refund (a : Nat) (x1 : Int) (M : xMe) (Q : xMe → Prop) : Prop :=
  p_X12_packetAt x1 M (fun r1 M1 => (xR (r1 + 5)) ∧ ((0 : Int) ≤ (r1 + 5) ∧ ((r1 + 5) : Int) < 2105) ∧ ((0 : Int) ≤ 10 ∧ (10 : Int) < 2105) ∧ (xR ((M1 (a + 2) (r1 + 5).toNat) * (M1 (a + 2) 10))) ∧ (100 ≠ (0 : Int) ∧ xR (Int.tdiv ((M1 (a + 2) (r1 + 5).toNat) * (M1 (a + 2) 10)) 100)) ∧ p_X12_min 9999 (Int.tdiv ((M1 (a + 2) (r1 + 5).toNat) * (M1 (a + 2) 10)) 100) M1 (fun r27 M27 => ((r27 ≤ 0 → Q M27) ∧ (0 < r27 → ((0 : Int) ≤ 4 ∧ (4 : Int) < 2105) ∧ ((30 ≤ (M27 (a + 2) 4) → Q M27) ∧ ((M27 (a + 2) 4) < 30 → (xR (r1 + 0)) ∧ ((0 : Int) ≤ (r1 + 0) ∧ ((r1 + 0) : Int) < 2105) ∧ ((0 : Int) ≤ 0 ∧ (0 : Int) < 2105) ∧ ((0 : Int) ≤ 11 ∧ (11 : Int) < 2105) ∧ (xR ((M27 (a + 2) 0) + (M27 (a + 2) 11))) ∧ p_X12_putCoupon (a + 2) 2105 (M27 (a + 2) (r1 + 0).toNat) r27 ((M27 (a + 2) 0) + (M27 (a + 2) 11)) M27 (fun M73 => Q M73)))))))
set_option maxHeartbeats 4000000 in
set_option maxRecDepth 100000 in
theorem c_X12_refund {G : xGx} {t : xTh} {M : xMe} {a : Nat} {x1 : Int} {Q : xMe → Prop} (hL : oX12 t a) (hM : xMR M) (hx1 : xR x1) (hp : p_X12_refund a x1 M Q) : xCt G yX12_refund cX12_refund 4 none 1 0 0 [vr a, vi x1] t M (fun v t' M' => v = none ∧ xMR M' ∧ t' = t ∧ Q M') (fun _ _ _ => False) := by
  refine xCt_of (L0 := [vr a, vi x1, vU, vU]) (by decide +kernel) (Nat.le_of_ble_eq_true rfl) rfl ?_
  intro X hX hB
  unfold p_X12_refund at hp
  refine xJ_iload_n hX dX12_refund_0 rfl ?_
  refine xJ_callS (As := [_]) hX hB dX12_refund_1 lk_X12_197 sm_X12_packetAt (c_X12_packetAt  hM hx1 hp) (by decide) rfl rfl rfl (Nat.le_of_ble_eq_true rfl) (by decide) (by decide) (fun v t9 M1 hv => ?_) (fun _ _ _ q => q.elim)
  obtain ⟨r1, rfl, h1, hM1, ht9, hp⟩ := hv
  replace ht9 := ht9.symm
  subst ht9
  dsimp only [Option.toList, List.cons_append, List.nil_append]
  refine xJ_istore_n hX dX12_refund_4 (Nat.le_of_ble_eq_true rfl) rfl ?_
  dsimp only [List.set]
  refine xJ_sipush hX dX12_refund_5 rfl ?_
  refine xJ_aload_n hX dX12_refund_8 rfl ?_
  refine xJ_getR (b := (a + 2)) hX dX12_refund_9 fd_X12_17 rfl (oX12_k hL) (oX12_r8 hL) ?_
  refine xJ_iload_n hX dX12_refund_12 rfl ?_
  refine xJ_iconst hX dX12_refund_13 ?_
  refine xJ_iadd hX dX12_refund_14 ?_
  obtain ⟨h14, hp⟩ := hp
  obtain ⟨h15, hp⟩ := hp
  refine xJ_iald hX dX12_refund_15 (oX12_k8 hL) h15.1 (xnlt (oX12_n8 hL) h15.2) ?_
  refine xJ_aload_n hX dX12_refund_16 rfl ?_
  refine xJ_getR (b := (a + 2)) hX dX12_refund_17 fd_X12_17 rfl (oX12_k hL) (oX12_r8 hL) ?_
  refine xJ_bipush hX dX12_refund_20 rfl ?_
  obtain ⟨h22, hp⟩ := hp
  refine xJ_iald hX dX12_refund_22 (oX12_k8 hL) h22.1 (xnlt (oX12_n8 hL) h22.2) ?_
  refine xJ_imul hX dX12_refund_23 ?_
  obtain ⟨h23, hp⟩ := hp
  refine xJ_bipush hX dX12_refund_24 rfl ?_
  obtain ⟨h26, hp⟩ := hp
  refine xJ_idiv hX dX12_refund_26 h23 ⟨by decide, by decide⟩ h26.1 ?_
  refine xJ_callS (As := [_, _]) hX hB dX12_refund_27 lk_X12_97 sm_X12_min (c_X12_min  hM1 ⟨by decide, by decide⟩ h26.2 hp) (by decide) rfl rfl rfl (Nat.le_of_ble_eq_true rfl) (by decide) (by decide) (fun v t9 M27 hv => ?_) (fun _ _ _ q => q.elim)
  obtain ⟨r27, rfl, h27, hM27, ht9, hp⟩ := hv
  replace ht9 := ht9.symm
  subst ht9
  dsimp only [Option.toList, List.cons_append, List.nil_append]
  refine xJ_istore_n hX dX12_refund_30 (Nat.le_of_ble_eq_true rfl) rfl ?_
  dsimp only [List.set]
  refine xJ_iload_n hX dX12_refund_31 rfl ?_
  refine xJ_if_le hX dX12_refund_32 (tgt := 76) (by decide) h27 (fun c32 => ?_) (fun c32 => ?_)
  · replace hp := hp.1 c32
    refine xJ_vret hX hB dX12_refund_76 (by decide) (by decide) ⟨rfl, hM27, rfl, hp⟩
  · replace hp := hp.2 c32
    refine xJ_aload_n hX dX12_refund_35 rfl ?_
    refine xJ_getR (b := (a + 2)) hX dX12_refund_36 fd_X12_17 rfl (oX12_k hL) (oX12_r8 hL) ?_
    refine xJ_iconst hX dX12_refund_39 ?_
    obtain ⟨h40, hp⟩ := hp
    refine xJ_iald hX dX12_refund_40 (oX12_k8 hL) h40.1 (xnlt (oX12_n8 hL) h40.2) ?_
    refine xJ_bipush hX dX12_refund_41 rfl ?_
    refine xJ_icmp_ge hX dX12_refund_43 (tgt := 76) (by decide) (hM27 _ _) ⟨by decide, by decide⟩ (fun c43 => ?_) (fun c43 => ?_)
    · replace hp := hp.1 c43
      refine xJ_vret hX hB dX12_refund_76 (by decide) (by decide) ⟨rfl, hM27, rfl, hp⟩
    · replace hp := hp.2 c43
      refine xJ_aload_n hX dX12_refund_46 rfl ?_
      refine xJ_getR (b := (a + 2)) hX dX12_refund_47 fd_X12_17 rfl (oX12_k hL) (oX12_r8 hL) ?_
      refine xJ_aload_n hX dX12_refund_50 rfl ?_
      refine xJ_getR (b := (a + 2)) hX dX12_refund_51 fd_X12_17 rfl (oX12_k hL) (oX12_r8 hL) ?_
      refine xJ_iload_n hX dX12_refund_54 rfl ?_
      refine xJ_iconst hX dX12_refund_55 ?_
      refine xJ_iadd hX dX12_refund_56 ?_
      obtain ⟨h56, hp⟩ := hp
      obtain ⟨h57, hp⟩ := hp
      refine xJ_iald hX dX12_refund_57 (oX12_k8 hL) h57.1 (xnlt (oX12_n8 hL) h57.2) ?_
      refine xJ_iload_n hX dX12_refund_58 rfl ?_
      refine xJ_aload_n hX dX12_refund_59 rfl ?_
      refine xJ_getR (b := (a + 2)) hX dX12_refund_60 fd_X12_17 rfl (oX12_k hL) (oX12_r8 hL) ?_
      refine xJ_iconst hX dX12_refund_63 ?_
      obtain ⟨h64, hp⟩ := hp
      refine xJ_iald hX dX12_refund_64 (oX12_k8 hL) h64.1 (xnlt (oX12_n8 hL) h64.2) ?_
      refine xJ_aload_n hX dX12_refund_65 rfl ?_
      refine xJ_getR (b := (a + 2)) hX dX12_refund_66 fd_X12_17 rfl (oX12_k hL) (oX12_r8 hL) ?_
      refine xJ_bipush hX dX12_refund_69 rfl ?_
      obtain ⟨h71, hp⟩ := hp
      refine xJ_iald hX dX12_refund_71 (oX12_k8 hL) h71.1 (xnlt (oX12_n8 hL) h71.2) ?_
      refine xJ_iadd hX dX12_refund_72 ?_
      obtain ⟨h72, hp⟩ := hp
      refine xJ_callS (As := [_, _, _, _]) hX hB dX12_refund_73 lk_X12_148 sm_X12_putCoupon (c_X12_putCoupon (oX12_k8 hL) (oX12_n8 hL) ⟨by decide, by decide⟩ hM27 (hM27 _ _) h27 h72 hp) (by decide) rfl rfl rfl (Nat.le_of_ble_eq_true rfl) (by decide) (by decide) (fun v t9 M73 hv => ?_) (fun _ _ _ q => q.elim)
      obtain ⟨rfl, hM73, ht9, hp⟩ := hv
      replace ht9 := ht9.symm
      subst ht9
      dsimp only [Option.toList, List.cons_append, List.nil_append]
      refine xJ_vret hX hB dX12_refund_76 (by decide) (by decide) ⟨rfl, hM73, rfl, hp⟩
def p_X12_arrive (a : Nat) (x1 : Int) (M : xMe) (Q : xMe → Prop) : Prop :=
  p_X12_packetAt x1 M (fun r1 M1 => p_X12_gateOf a x1 M1 (fun r7 M7 => (xR (r1 + 0)) ∧ ((0 : Int) ≤ (r1 + 0) ∧ ((r1 + 0) : Int) < 2105) ∧ p_X12_pairAt r7 (M7 (a + 2) (r1 + 0).toNat) M7 (fun r20 M20 => (xR (r20 + 1)) ∧ ((0 : Int) ≤ (r20 + 1) ∧ ((r20 + 1) : Int) < 2105) ∧ p_X12_ofGate a r7 2 M20 (fun r37 M37 => (((M20 (a + 2) (r20 + 1).toNat) ≠ r37 → (xR (r1 + 3)) ∧ ((0 : Int) ≤ (r1 + 3) ∧ ((r1 + 3) : Int) < 2105) ∧ (∀ M63 : xMe, M63 = xw M37 (a + 2) (r1 + 3).toNat 1 → (xR (r1 + 7)) ∧ ((0 : Int) ≤ 0 ∧ (0 : Int) < 2105) ∧ ((0 : Int) ≤ (r1 + 7) ∧ ((r1 + 7) : Int) < 2105) ∧ (∀ M78 : xMe, M78 = xw M63 (a + 2) (r1 + 7).toNat (M63 (a + 2) 0) → (xR (r20 + 1)) ∧ ((0 : Int) ≤ (r20 + 1) ∧ ((r20 + 1) : Int) < 2105) ∧ (((M78 (a + 2) (r20 + 1).toNat) ≠ 0 → (xR (r20 + 3)) ∧ ((0 : Int) ≤ (r20 + 3) ∧ ((r20 + 3) : Int) < 2105) ∧ p_X12_packetAt (M78 (a + 2) (r20 + 3).toNat) M78 (fun r111 M111 => (xR (r111 + 8)) ∧ ((0 : Int) ≤ (r111 + 8) ∧ ((r111 + 8) : Int) < 2105) ∧ (∀ M118 : xMe, M118 = xw M111 (a + 2) (r111 + 8).toNat x1 → (xR (r20 + 3)) ∧ ((0 : Int) ≤ (r20 + 3) ∧ ((r20 + 3) : Int) < 2105) ∧ (∀ M128 : xMe, M128 = xw M118 (a + 2) (r20 + 3).toNat x1 → (xR (r20 + 1)) ∧ ((0 : Int) ≤ (r20 + 1) ∧ ((r20 + 1) : Int) < 2105) ∧ (xR ((M128 (a + 2) (r20 + 1).toNat) + 1)) ∧ ((0 : Int) ≤ (r20 + 1) ∧ ((r20 + 1) : Int) < 2105) ∧ (∀ M141 : xMe, M141 = xw M128 (a + 2) (r20 + 1).toNat ((M128 (a + 2) (r20 + 1).toNat) + 1) → Q M141))))) ∧ ((M78 (a + 2) (r20 + 1).toNat) = 0 → (xR (r20 + 2)) ∧ ((0 : Int) ≤ (r20 + 2) ∧ ((r20 + 2) : Int) < 2105) ∧ (∀ M118 : xMe, M118 = xw M78 (a + 2) (r20 + 2).toNat x1 → (xR (r20 + 3)) ∧ ((0 : Int) ≤ (r20 + 3) ∧ ((r20 + 3) : Int) < 2105) ∧ (∀ M128 : xMe, M128 = xw M118 (a + 2) (r20 + 3).toNat x1 → (xR (r20 + 1)) ∧ ((0 : Int) ≤ (r20 + 1) ∧ ((r20 + 1) : Int) < 2105) ∧ (xR ((M128 (a + 2) (r20 + 1).toNat) + 1)) ∧ ((0 : Int) ≤ (r20 + 1) ∧ ((r20 + 1) : Int) < 2105) ∧ (∀ M141 : xMe, M141 = xw M128 (a + 2) (r20 + 1).toNat ((M128 (a + 2) (r20 + 1).toNat) + 1) → Q M141)))))))) ∧ ((M20 (a + 2) (r20 + 1).toNat) = r37 → p_X12_end a x1 4 M37 (fun M46 => p_X12_refund a x1 M46 (fun M51 => Q M51))))))))
set_option maxHeartbeats 4000000 in
set_option maxRecDepth 100000 in
theorem c_X12_arrive {G : xGx} {t : xTh} {M : xMe} {a : Nat} {x1 : Int} {Q : xMe → Prop} (hL : oX12 t a) (hM : xMR M) (hx1 : xR x1) (hp : p_X12_arrive a x1 M Q) : xCt G yX12_arrive cX12_arrive 5 none 2 0 0 [vr a, vi x1] t M (fun v t' M' => v = none ∧ xMR M' ∧ t' = t ∧ Q M') (fun _ _ _ => False) := by
  refine xCt_of (L0 := [vr a, vi x1, vU, vU, vU]) (by decide +kernel) (Nat.le_of_ble_eq_true rfl) rfl ?_
  intro X hX hB
  unfold p_X12_arrive at hp
  refine xJ_iload_n hX dX12_arrive_0 rfl ?_
  refine xJ_callS (As := [_]) hX hB dX12_arrive_1 lk_X12_197 sm_X12_packetAt (c_X12_packetAt  hM hx1 hp) (by decide) rfl rfl rfl (Nat.le_of_ble_eq_true rfl) (by decide) (by decide) (fun v t9 M1 hv => ?_) (fun _ _ _ q => q.elim)
  obtain ⟨r1, rfl, h1, hM1, ht9, hp⟩ := hv
  replace ht9 := ht9.symm
  subst ht9
  dsimp only [Option.toList, List.cons_append, List.nil_append]
  refine xJ_istore_n hX dX12_arrive_4 (Nat.le_of_ble_eq_true rfl) rfl ?_
  dsimp only [List.set]
  refine xJ_aload_n hX dX12_arrive_5 rfl ?_
  refine xJ_iload_n hX dX12_arrive_6 rfl ?_
  refine xJ_callV (As := [_]) hX hB dX12_arrive_7 lk_X12_223 im_X12_gateOf se_X12_gateOf rfl (by decide) (oX12_k hL) (c_X12_gateOf hL hM1 hx1 hp) (by decide) rfl rfl rfl (Nat.le_of_ble_eq_true rfl) (by decide) (by decide) (fun v t9 M7 hv => ?_) (fun _ _ _ q => q.elim)
  obtain ⟨r7, rfl, h7, hM7, ht9, hp⟩ := hv
  replace ht9 := ht9.symm
  subst ht9
  dsimp only [Option.toList, List.cons_append, List.nil_append]
  refine xJ_istore_n hX dX12_arrive_10 (Nat.le_of_ble_eq_true rfl) rfl ?_
  dsimp only [List.set]
  refine xJ_iload_n hX dX12_arrive_11 rfl ?_
  refine xJ_aload_n hX dX12_arrive_12 rfl ?_
  refine xJ_getR (b := (a + 2)) hX dX12_arrive_13 fd_X12_17 rfl (oX12_k hL) (oX12_r8 hL) ?_
  refine xJ_iload_n hX dX12_arrive_16 rfl ?_
  refine xJ_iconst hX dX12_arrive_17 ?_
  refine xJ_iadd hX dX12_arrive_18 ?_
  obtain ⟨h18, hp⟩ := hp
  obtain ⟨h19, hp⟩ := hp
  refine xJ_iald hX dX12_arrive_19 (oX12_k8 hL) h19.1 (xnlt (oX12_n8 hL) h19.2) ?_
  refine xJ_callS (As := [_, _]) hX hB dX12_arrive_20 lk_X12_187 sm_X12_pairAt (c_X12_pairAt  hM7 h7 (hM7 _ _) hp) (by decide) rfl rfl rfl (Nat.le_of_ble_eq_true rfl) (by decide) (by decide) (fun v t9 M20 hv => ?_) (fun _ _ _ q => q.elim)
  obtain ⟨r20, rfl, h20, hM20, ht9, hp⟩ := hv
  replace ht9 := ht9.symm
  subst ht9
  dsimp only [Option.toList, List.cons_append, List.nil_append]
  refine xJ_istore hX dX12_arrive_23 (Nat.le_of_ble_eq_true rfl) rfl ?_
  dsimp only [List.set]
  refine xJ_aload_n hX dX12_arrive_25 rfl ?_
  refine xJ_getR (b := (a + 2)) hX dX12_arrive_26 fd_X12_17 rfl (oX12_k hL) (oX12_r8 hL) ?_
  refine xJ_iload hX dX12_arrive_29 rfl ?_
  refine xJ_iconst hX dX12_arrive_31 ?_
  refine xJ_iadd hX dX12_arrive_32 ?_
  obtain ⟨h32, hp⟩ := hp
  obtain ⟨h33, hp⟩ := hp
  refine xJ_iald hX dX12_arrive_33 (oX12_k8 hL) h33.1 (xnlt (oX12_n8 hL) h33.2) ?_
  refine xJ_aload_n hX dX12_arrive_34 rfl ?_
  refine xJ_iload_n hX dX12_arrive_35 rfl ?_
  refine xJ_iconst hX dX12_arrive_36 ?_
  refine xJ_callV (As := [_, _]) hX hB dX12_arrive_37 lk_X12_226 im_X12_ofGate se_X12_ofGate rfl (by decide) (oX12_k hL) (c_X12_ofGate hL hM20 h7 ⟨by decide, by decide⟩ hp) (by decide) rfl rfl rfl (Nat.le_of_ble_eq_true rfl) (by decide) (by decide) (fun v t9 M37 hv => ?_) (fun _ _ _ q => q.elim)
  obtain ⟨r37, rfl, h37, hM37, ht9, hp⟩ := hv
  replace ht9 := ht9.symm
  subst ht9
  dsimp only [Option.toList, List.cons_append, List.nil_append]
  refine xJ_icmp_ne hX dX12_arrive_40 (tgt := 55) (by decide) (hM20 _ _) h37 (fun c40 => ?_) (fun c40 => ?_)
  · replace hp := hp.1 c40
    refine xJ_aload_n hX dX12_arrive_55 rfl ?_
    refine xJ_getR (b := (a + 2)) hX dX12_arrive_56 fd_X12_17 rfl (oX12_k hL) (oX12_r8 hL) ?_
    refine xJ_iload_n hX dX12_arrive_59 rfl ?_
    refine xJ_iconst hX dX12_arrive_60 ?_
    refine xJ_iadd hX dX12_arrive_61 ?_
    obtain ⟨h61, hp⟩ := hp
    refine xJ_iconst hX dX12_arrive_62 ?_
    obtain ⟨h63, hp⟩ := hp
    refine xJ_iastM hX dX12_arrive_63 (oX12_k8 hL) h63.1 (xnlt (oX12_n8 hL) h63.2) hM37 ⟨by decide, by decide⟩ (fun M63 e63 hM63 => ?_)
    replace hp := hp M63 e63
    refine xJ_aload_n hX dX12_arrive_64 rfl ?_
    refine xJ_getR (b := (a + 2)) hX dX12_arrive_65 fd_X12_17 rfl (oX12_k hL) (oX12_r8 hL) ?_
    refine xJ_iload_n hX dX12_arrive_68 rfl ?_
    refine xJ_bipush hX dX12_arrive_69 rfl ?_
    refine xJ_iadd hX dX12_arrive_71 ?_
    obtain ⟨h71, hp⟩ := hp
    refine xJ_aload_n hX dX12_arrive_72 rfl ?_
    refine xJ_getR (b := (a + 2)) hX dX12_arrive_73 fd_X12_17 rfl (oX12_k hL) (oX12_r8 hL) ?_
    refine xJ_iconst hX dX12_arrive_76 ?_
    obtain ⟨h77, hp⟩ := hp
    refine xJ_iald hX dX12_arrive_77 (oX12_k8 hL) h77.1 (xnlt (oX12_n8 hL) h77.2) ?_
    obtain ⟨h78, hp⟩ := hp
    refine xJ_iastM hX dX12_arrive_78 (oX12_k8 hL) h78.1 (xnlt (oX12_n8 hL) h78.2) hM63 (hM63 _ _) (fun M78 e78 hM78 => ?_)
    replace hp := hp M78 e78
    refine xJ_aload_n hX dX12_arrive_79 rfl ?_
    refine xJ_getR (b := (a + 2)) hX dX12_arrive_80 fd_X12_17 rfl (oX12_k hL) (oX12_r8 hL) ?_
    refine xJ_aload_n hX dX12_arrive_83 rfl ?_
    refine xJ_getR (b := (a + 2)) hX dX12_arrive_84 fd_X12_17 rfl (oX12_k hL) (oX12_r8 hL) ?_
    refine xJ_iload hX dX12_arrive_87 rfl ?_
    refine xJ_iconst hX dX12_arrive_89 ?_
    refine xJ_iadd hX dX12_arrive_90 ?_
    obtain ⟨h90, hp⟩ := hp
    obtain ⟨h91, hp⟩ := hp
    refine xJ_iald hX dX12_arrive_91 (oX12_k8 hL) h91.1 (xnlt (oX12_n8 hL) h91.2) ?_
    refine xJ_if_ne hX dX12_arrive_92 (tgt := 102) (by decide) (hM78 _ _) (fun c92 => ?_) (fun c92 => ?_)
    · replace hp := hp.1 c92
      refine xJ_aload_n hX dX12_arrive_102 rfl ?_
      refine xJ_getR (b := (a + 2)) hX dX12_arrive_103 fd_X12_17 rfl (oX12_k hL) (oX12_r8 hL) ?_
      refine xJ_iload hX dX12_arrive_106 rfl ?_
      refine xJ_iconst hX dX12_arrive_108 ?_
      refine xJ_iadd hX dX12_arrive_109 ?_
      obtain ⟨h109, hp⟩ := hp
      obtain ⟨h110, hp⟩ := hp
      refine xJ_iald hX dX12_arrive_110 (oX12_k8 hL) h110.1 (xnlt (oX12_n8 hL) h110.2) ?_
      refine xJ_callS (As := [_]) hX hB dX12_arrive_111 lk_X12_197 sm_X12_packetAt (c_X12_packetAt  hM78 (hM78 _ _) hp) (by decide) rfl rfl rfl (Nat.le_of_ble_eq_true rfl) (by decide) (by decide) (fun v t9 M111 hv => ?_) (fun _ _ _ q => q.elim)
      obtain ⟨r111, rfl, h111, hM111, ht9, hp⟩ := hv
      replace ht9 := ht9.symm
      subst ht9
      dsimp only [Option.toList, List.cons_append, List.nil_append]
      refine xJ_bipush hX dX12_arrive_114 rfl ?_
      refine xJ_iadd hX dX12_arrive_116 ?_
      obtain ⟨h116, hp⟩ := hp
      refine xJ_iload_n hX dX12_arrive_117 rfl ?_
      obtain ⟨h118, hp⟩ := hp
      refine xJ_iastM hX dX12_arrive_118 (oX12_k8 hL) h118.1 (xnlt (oX12_n8 hL) h118.2) hM111 hx1 (fun M118 e118 hM118 => ?_)
      replace hp := hp M118 e118
      refine xJ_aload_n hX dX12_arrive_119 rfl ?_
      refine xJ_getR (b := (a + 2)) hX dX12_arrive_120 fd_X12_17 rfl (oX12_k hL) (oX12_r8 hL) ?_
      refine xJ_iload hX dX12_arrive_123 rfl ?_
      refine xJ_iconst hX dX12_arrive_125 ?_
      refine xJ_iadd hX dX12_arrive_126 ?_
      obtain ⟨h126, hp⟩ := hp
      refine xJ_iload_n hX dX12_arrive_127 rfl ?_
      obtain ⟨h128, hp⟩ := hp
      refine xJ_iastM hX dX12_arrive_128 (oX12_k8 hL) h128.1 (xnlt (oX12_n8 hL) h128.2) hM118 hx1 (fun M128 e128 hM128 => ?_)
      replace hp := hp M128 e128
      refine xJ_aload_n hX dX12_arrive_129 rfl ?_
      refine xJ_getR (b := (a + 2)) hX dX12_arrive_130 fd_X12_17 rfl (oX12_k hL) (oX12_r8 hL) ?_
      refine xJ_iload hX dX12_arrive_133 rfl ?_
      refine xJ_iconst hX dX12_arrive_135 ?_
      refine xJ_iadd hX dX12_arrive_136 ?_
      obtain ⟨h136, hp⟩ := hp
      refine xJ_dup2 hX dX12_arrive_137 rfl rfl ?_
      obtain ⟨h138, hp⟩ := hp
      refine xJ_iald hX dX12_arrive_138 (oX12_k8 hL) h138.1 (xnlt (oX12_n8 hL) h138.2) ?_
      refine xJ_iconst hX dX12_arrive_139 ?_
      refine xJ_iadd hX dX12_arrive_140 ?_
      obtain ⟨h140, hp⟩ := hp
      obtain ⟨h141, hp⟩ := hp
      refine xJ_iastM hX dX12_arrive_141 (oX12_k8 hL) h141.1 (xnlt (oX12_n8 hL) h141.2) hM128 h140 (fun M141 e141 hM141 => ?_)
      replace hp := hp M141 e141
      refine xJ_vret hX hB dX12_arrive_142 (by decide) (by decide) ⟨rfl, hM141, rfl, hp⟩
    · replace hp := hp.2 c92
      refine xJ_iload hX dX12_arrive_95 rfl ?_
      refine xJ_iconst hX dX12_arrive_97 ?_
      refine xJ_iadd hX dX12_arrive_98 ?_
      obtain ⟨h98, hp⟩ := hp
      refine xJ_goto hX dX12_arrive_99 (tgt := 117) (by decide) ?_
      refine xJ_iload_n hX dX12_arrive_117 rfl ?_
      obtain ⟨h118, hp⟩ := hp
      refine xJ_iastM hX dX12_arrive_118 (oX12_k8 hL) h118.1 (xnlt (oX12_n8 hL) h118.2) hM78 hx1 (fun M118 e118 hM118 => ?_)
      replace hp := hp M118 e118
      refine xJ_aload_n hX dX12_arrive_119 rfl ?_
      refine xJ_getR (b := (a + 2)) hX dX12_arrive_120 fd_X12_17 rfl (oX12_k hL) (oX12_r8 hL) ?_
      refine xJ_iload hX dX12_arrive_123 rfl ?_
      refine xJ_iconst hX dX12_arrive_125 ?_
      refine xJ_iadd hX dX12_arrive_126 ?_
      obtain ⟨h126, hp⟩ := hp
      refine xJ_iload_n hX dX12_arrive_127 rfl ?_
      obtain ⟨h128, hp⟩ := hp
      refine xJ_iastM hX dX12_arrive_128 (oX12_k8 hL) h128.1 (xnlt (oX12_n8 hL) h128.2) hM118 hx1 (fun M128 e128 hM128 => ?_)
      replace hp := hp M128 e128
      refine xJ_aload_n hX dX12_arrive_129 rfl ?_
      refine xJ_getR (b := (a + 2)) hX dX12_arrive_130 fd_X12_17 rfl (oX12_k hL) (oX12_r8 hL) ?_
      refine xJ_iload hX dX12_arrive_133 rfl ?_
      refine xJ_iconst hX dX12_arrive_135 ?_
      refine xJ_iadd hX dX12_arrive_136 ?_
      obtain ⟨h136, hp⟩ := hp
      refine xJ_dup2 hX dX12_arrive_137 rfl rfl ?_
      obtain ⟨h138, hp⟩ := hp
      refine xJ_iald hX dX12_arrive_138 (oX12_k8 hL) h138.1 (xnlt (oX12_n8 hL) h138.2) ?_
      refine xJ_iconst hX dX12_arrive_139 ?_
      refine xJ_iadd hX dX12_arrive_140 ?_
      obtain ⟨h140, hp⟩ := hp
      obtain ⟨h141, hp⟩ := hp
      refine xJ_iastM hX dX12_arrive_141 (oX12_k8 hL) h141.1 (xnlt (oX12_n8 hL) h141.2) hM128 h140 (fun M141 e141 hM141 => ?_)
      replace hp := hp M141 e141
      refine xJ_vret hX hB dX12_arrive_142 (by decide) (by decide) ⟨rfl, hM141, rfl, hp⟩
  · replace hp := hp.2 c40
    refine xJ_aload_n hX dX12_arrive_43 rfl ?_
    refine xJ_iload_n hX dX12_arrive_44 rfl ?_
    refine xJ_iconst hX dX12_arrive_45 ?_
    refine xJ_callV (As := [_, _]) hX hB dX12_arrive_46 lk_X12_229 im_X12_end se_X12_end rfl (by decide) (oX12_k hL) (c_X12_end hL hM37 hx1 ⟨by decide, by decide⟩ hp) (by decide) rfl rfl rfl (Nat.le_of_ble_eq_true rfl) (by decide) (by decide) (fun v t9 M46 hv => ?_) (fun _ _ _ q => q.elim)
    obtain ⟨rfl, hM46, ht9, hp⟩ := hv
    replace ht9 := ht9.symm
    subst ht9
    dsimp only [Option.toList, List.cons_append, List.nil_append]
    refine xJ_aload_n hX dX12_arrive_49 rfl ?_
    refine xJ_iload_n hX dX12_arrive_50 rfl ?_
    refine xJ_callV (As := [_]) hX hB dX12_arrive_51 lk_X12_232 im_X12_refund se_X12_refund rfl (by decide) (oX12_k hL) (c_X12_refund hL hM46 hx1 hp) (by decide) rfl rfl rfl (Nat.le_of_ble_eq_true rfl) (by decide) (by decide) (fun v t9 M51 hv => ?_) (fun _ _ _ q => q.elim)
    obtain ⟨rfl, hM51, ht9, hp⟩ := hv
    replace ht9 := ht9.symm
    subst ht9
    dsimp only [Option.toList, List.cons_append, List.nil_append]
    refine xJ_vret hX hB dX12_arrive_54 (by decide) (by decide) ⟨rfl, hM51, rfl, hp⟩
def p_X12_canPass (F : Nat) (a : Nat) (x1 : Int) (x2 : Int) (M : xMe) (Q : Int → xMe → Prop) : Prop :=
  p_X12_packetAt x1 M (fun r1 M1 => (xR (r1 + 2)) ∧ ((0 : Int) ≤ (r1 + 2) ∧ ((r1 + 2) : Int) < 2105) ∧ (∀ z13 : Int, z13 = M1 (a + 2) (r1 + 2).toNat → (xR (r1 + 0)) ∧ ((0 : Int) ≤ (r1 + 0) ∧ ((r1 + 0) : Int) < 2105) ∧ (∀ z23 : Int, z23 = M1 (a + 2) (r1 + 0).toNat → (xR (x2 + 0)) ∧ ((0 : Int) ≤ (x2 + 0) ∧ ((x2 + 0) : Int) < 2105) ∧ (((M1 (a + 2) (x2 + 0).toNat) < z13 → ((0 : Int) ≤ 0 ∧ (0 : Int) < 2105) ∧ (xR (r1 + 7)) ∧ ((0 : Int) ≤ (r1 + 7) ∧ ((r1 + 7) : Int) < 2105) ∧ (xR ((M1 (a + 2) 0) - (M1 (a + 2) (r1 + 7).toNat))) ∧ p_X12_ofFlow a z23 1 M1 (fun r60 M60 => ((((M1 (a + 2) 0) - (M1 (a + 2) (r1 + 7).toNat)) < r60 → Q 0 M60) ∧ (r60 ≤ ((M1 (a + 2) 0) - (M1 (a + 2) (r1 + 7).toNat)) → (xR (x2 + 0)) ∧ ((0 : Int) ≤ (x2 + 0) ∧ ((x2 + 0) : Int) < 2105) ∧ p_X12_valuesOf F a z23 M60 (fun r79 M79 => (xR ((M60 (a + 2) (x2 + 0).toNat) + r79)) ∧ ((((M60 (a + 2) (x2 + 0).toNat) + r79) < z13 → Q 0 M79) ∧ (z13 ≤ ((M60 (a + 2) (x2 + 0).toNat) + r79) → Q 1 M79))))))) ∧ (z13 ≤ (M1 (a + 2) (x2 + 0).toNat) → Q 1 M1)))))
set_option maxHeartbeats 4000000 in
set_option maxRecDepth 100000 in
theorem c_X12_canPass {G : xGx} {t : xTh} {M : xMe} {F : Nat} {a : Nat} {x1 : Int} {x2 : Int} {Q : Int → xMe → Prop} (hL : oX12 t a) (hM : xMR M) (hx1 : xR x1) (hx2 : xR x2) (hp : p_X12_canPass F a x1 x2 M Q) : xCt G yX12_canPass cX12_canPass 6 (some .boolean) 2 0 0 [vr a, vi x1, vi x2] t M (fun v t' M' => ∃ r, v = some (vi r) ∧ xR r ∧ xMR M' ∧ t' = t ∧ Q r M') (fun _ _ _ => False) := by
  refine xCt_of (L0 := [vr a, vi x1, vi x2, vU, vU, vU]) (by decide +kernel) (Nat.le_of_ble_eq_true rfl) rfl ?_
  intro X hX hB
  unfold p_X12_canPass at hp
  refine xJ_iload_n hX dX12_canPass_0 rfl ?_
  refine xJ_callS (As := [_]) hX hB dX12_canPass_1 lk_X12_197 sm_X12_packetAt (c_X12_packetAt  hM hx1 hp) (by decide) rfl rfl rfl (Nat.le_of_ble_eq_true rfl) (by decide) (by decide) (fun v t9 M1 hv => ?_) (fun _ _ _ q => q.elim)
  obtain ⟨r1, rfl, h1, hM1, ht9, hp⟩ := hv
  replace ht9 := ht9.symm
  subst ht9
  dsimp only [Option.toList, List.cons_append, List.nil_append]
  refine xJ_istore_n hX dX12_canPass_4 (Nat.le_of_ble_eq_true rfl) rfl ?_
  dsimp only [List.set]
  refine xJ_aload_n hX dX12_canPass_5 rfl ?_
  refine xJ_getR (b := (a + 2)) hX dX12_canPass_6 fd_X12_17 rfl (oX12_k hL) (oX12_r8 hL) ?_
  refine xJ_iload_n hX dX12_canPass_9 rfl ?_
  refine xJ_iconst hX dX12_canPass_10 ?_
  refine xJ_iadd hX dX12_canPass_11 ?_
  obtain ⟨h11, hp⟩ := hp
  obtain ⟨h12, hp⟩ := hp
  refine xJ_iald hX dX12_canPass_12 (oX12_k8 hL) h12.1 (xnlt (oX12_n8 hL) h12.2) ?_
  refine xJ_istore hX dX12_canPass_13 (Nat.le_of_ble_eq_true rfl) rfl ?_
  dsimp only [List.set]
  replace hp := hp _ rfl
  refine xJ_aload_n hX dX12_canPass_15 rfl ?_
  refine xJ_getR (b := (a + 2)) hX dX12_canPass_16 fd_X12_17 rfl (oX12_k hL) (oX12_r8 hL) ?_
  refine xJ_iload_n hX dX12_canPass_19 rfl ?_
  refine xJ_iconst hX dX12_canPass_20 ?_
  refine xJ_iadd hX dX12_canPass_21 ?_
  obtain ⟨h21, hp⟩ := hp
  obtain ⟨h22, hp⟩ := hp
  refine xJ_iald hX dX12_canPass_22 (oX12_k8 hL) h22.1 (xnlt (oX12_n8 hL) h22.2) ?_
  refine xJ_istore hX dX12_canPass_23 (Nat.le_of_ble_eq_true rfl) rfl ?_
  dsimp only [List.set]
  replace hp := hp _ rfl
  refine xJ_iload hX dX12_canPass_25 rfl ?_
  refine xJ_aload_n hX dX12_canPass_27 rfl ?_
  refine xJ_getR (b := (a + 2)) hX dX12_canPass_28 fd_X12_17 rfl (oX12_k hL) (oX12_r8 hL) ?_
  refine xJ_iload_n hX dX12_canPass_31 rfl ?_
  refine xJ_iconst hX dX12_canPass_32 ?_
  refine xJ_iadd hX dX12_canPass_33 ?_
  obtain ⟨h33, hp⟩ := hp
  obtain ⟨h34, hp⟩ := hp
  refine xJ_iald hX dX12_canPass_34 (oX12_k8 hL) h34.1 (xnlt (oX12_n8 hL) h34.2) ?_
  refine xJ_icmp_gt hX dX12_canPass_35 (tgt := 40) (by decide) (hM1 _ _) (hM1 _ _) (fun c35 => ?_) (fun c35 => ?_)
  · replace hp := hp.1 c35
    refine xJ_aload_n hX dX12_canPass_40 rfl ?_
    refine xJ_getR (b := (a + 2)) hX dX12_canPass_41 fd_X12_17 rfl (oX12_k hL) (oX12_r8 hL) ?_
    refine xJ_iconst hX dX12_canPass_44 ?_
    obtain ⟨h45, hp⟩ := hp
    refine xJ_iald hX dX12_canPass_45 (oX12_k8 hL) h45.1 (xnlt (oX12_n8 hL) h45.2) ?_
    refine xJ_aload_n hX dX12_canPass_46 rfl ?_
    refine xJ_getR (b := (a + 2)) hX dX12_canPass_47 fd_X12_17 rfl (oX12_k hL) (oX12_r8 hL) ?_
    refine xJ_iload_n hX dX12_canPass_50 rfl ?_
    refine xJ_bipush hX dX12_canPass_51 rfl ?_
    refine xJ_iadd hX dX12_canPass_53 ?_
    obtain ⟨h53, hp⟩ := hp
    obtain ⟨h54, hp⟩ := hp
    refine xJ_iald hX dX12_canPass_54 (oX12_k8 hL) h54.1 (xnlt (oX12_n8 hL) h54.2) ?_
    refine xJ_isub hX dX12_canPass_55 ?_
    obtain ⟨h55, hp⟩ := hp
    refine xJ_aload_n hX dX12_canPass_56 rfl ?_
    refine xJ_iload hX dX12_canPass_57 rfl ?_
    refine xJ_iconst hX dX12_canPass_59 ?_
    refine xJ_callV (As := [_, _]) hX hB dX12_canPass_60 lk_X12_200 im_X12_ofFlow se_X12_ofFlow rfl (by decide) (oX12_k hL) (c_X12_ofFlow hL hM1 (hM1 _ _) ⟨by decide, by decide⟩ hp) (by decide) rfl rfl rfl (Nat.le_of_ble_eq_true rfl) (by decide) (by decide) (fun v t9 M60 hv => ?_) (fun _ _ _ q => q.elim)
    obtain ⟨r60, rfl, h60, hM60, ht9, hp⟩ := hv
    replace ht9 := ht9.symm
    subst ht9
    dsimp only [Option.toList, List.cons_append, List.nil_append]
    refine xJ_icmp_lt hX dX12_canPass_63 (tgt := 90) (by decide) h55 h60 (fun c63 => ?_) (fun c63 => ?_)
    · replace hp := hp.1 c63
      refine xJ_iconst hX dX12_canPass_90 ?_
      refine xJ_zret hX hB dX12_canPass_91 rfl (by decide) (by decide) ⟨_, rfl, ⟨by decide, by decide⟩, hM60, rfl, hp⟩
    · replace hp := hp.2 c63
      refine xJ_iload hX dX12_canPass_66 rfl ?_
      refine xJ_aload_n hX dX12_canPass_68 rfl ?_
      refine xJ_getR (b := (a + 2)) hX dX12_canPass_69 fd_X12_17 rfl (oX12_k hL) (oX12_r8 hL) ?_
      refine xJ_iload_n hX dX12_canPass_72 rfl ?_
      refine xJ_iconst hX dX12_canPass_73 ?_
      refine xJ_iadd hX dX12_canPass_74 ?_
      obtain ⟨h74, hp⟩ := hp
      obtain ⟨h75, hp⟩ := hp
      refine xJ_iald hX dX12_canPass_75 (oX12_k8 hL) h75.1 (xnlt (oX12_n8 hL) h75.2) ?_
      refine xJ_aload_n hX dX12_canPass_76 rfl ?_
      refine xJ_iload hX dX12_canPass_77 rfl ?_
      refine xJ_callV (As := [_]) hX hB dX12_canPass_79 lk_X12_234 im_X12_valuesOf se_X12_valuesOf rfl (by decide) (oX12_k hL) (c_X12_valuesOf hL hM60 (hM1 _ _) hp) (by decide) rfl rfl rfl (Nat.le_of_ble_eq_true rfl) (by decide) (by decide) (fun v t9 M79 hv => ?_) (fun _ _ _ q => q.elim)
      obtain ⟨r79, rfl, h79, hM79, ht9, hp⟩ := hv
      replace ht9 := ht9.symm
      subst ht9
      dsimp only [Option.toList, List.cons_append, List.nil_append]
      refine xJ_iadd hX dX12_canPass_82 ?_
      obtain ⟨h82, hp⟩ := hp
      refine xJ_icmp_gt hX dX12_canPass_83 (tgt := 90) (by decide) (hM1 _ _) h82 (fun c83 => ?_) (fun c83 => ?_)
      · replace hp := hp.1 c83
        refine xJ_iconst hX dX12_canPass_90 ?_
        refine xJ_zret hX hB dX12_canPass_91 rfl (by decide) (by decide) ⟨_, rfl, ⟨by decide, by decide⟩, hM79, rfl, hp⟩
      · replace hp := hp.2 c83
        refine xJ_iconst hX dX12_canPass_86 ?_
        refine xJ_goto hX dX12_canPass_87 (tgt := 91) (by decide) ?_
        refine xJ_zret hX hB dX12_canPass_91 rfl (by decide) (by decide) ⟨_, rfl, ⟨by decide, by decide⟩, hM79, rfl, hp⟩
  · replace hp := hp.2 c35
    refine xJ_iconst hX dX12_canPass_38 ?_
    refine xJ_zret hX hB dX12_canPass_39 rfl (by decide) (by decide) ⟨_, rfl, ⟨by decide, by decide⟩, hM1, rfl, hp⟩
def p_X12_note_17 (F : Nat) (a : Nat) (Q : xMe → Prop) (K47 : Int → Int → Int → Int → xMe → Prop) : Nat → Int → Int → Int → Int → Int → xMe → Prop
  | 0, _, _, _, _, _, _ => False
  | k + 1, x1, x2, x3, x4, x5, M =>
    ((900 ≤ x5 → K47 x1 x2 x3 x4 M) ∧ (x5 < 900 → (xR (x5 + 5)) ∧ ((0 : Int) ≤ (x5 + 5) ∧ ((x5 + 5) : Int) < 2105) ∧ ((0 : Int) ≤ x5 ∧ (x5 : Int) < 2105) ∧ (∀ M40 : xMe, M40 = xw M (a + 2) x5.toNat (M (a + 2) (x5 + 5).toNat) → (xR (x5 + 1)) ∧ p_X12_note_17 F a Q K47 k x1 x2 x3 x4 (x5 + 1) M40)))
def p_X12_note (F : Nat) (a : Nat) (x1 : Int) (x2 : Int) (x3 : Int) (x4 : Int) (M : xMe) (Q : xMe → Prop) : Prop :=
  ((0 : Int) ≤ 14 ∧ (14 : Int) < 2105) ∧ (((M (a + 2) 14) ≠ 40 → ((0 : Int) ≤ 14 ∧ (14 : Int) < 2105) ∧ (xR (5 * (M (a + 2) 14))) ∧ (xR (705 + (5 * (M (a + 2) 14)))) ∧ (∀ z71 : Int, z71 = 705 + (5 * (M (a + 2) 14)) → ((0 : Int) ≤ 0 ∧ (0 : Int) < 2105) ∧ ((0 : Int) ≤ z71 ∧ (z71 : Int) < 2105) ∧ (∀ M85 : xMe, M85 = xw M (a + 2) z71.toNat (M (a + 2) 0) → (xR (z71 + 1)) ∧ ((0 : Int) ≤ (z71 + 1) ∧ ((z71 + 1) : Int) < 2105) ∧ (∀ M95 : xMe, M95 = xw M85 (a + 2) (z71 + 1).toNat x1 → (xR (z71 + 2)) ∧ ((0 : Int) ≤ (z71 + 2) ∧ ((z71 + 2) : Int) < 2105) ∧ (∀ M105 : xMe, M105 = xw M95 (a + 2) (z71 + 2).toNat x2 → (xR (z71 + 3)) ∧ ((0 : Int) ≤ (z71 + 3) ∧ ((z71 + 3) : Int) < 2105) ∧ (∀ M115 : xMe, M115 = xw M105 (a + 2) (z71 + 3).toNat x3 → (xR (z71 + 4)) ∧ ((0 : Int) ≤ (z71 + 4) ∧ ((z71 + 4) : Int) < 2105) ∧ (∀ M126 : xMe, M126 = xw M115 (a + 2) (z71 + 4).toNat x4 → ((0 : Int) ≤ 14 ∧ (14 : Int) < 2105) ∧ (xR ((M126 (a + 2) 14) + 1)) ∧ ((0 : Int) ≤ 14 ∧ (14 : Int) < 2105) ∧ (∀ M137 : xMe, M137 = xw M126 (a + 2) 14 ((M126 (a + 2) 14) + 1) → Q M137)))))))) ∧ ((M (a + 2) 14) = 40 → p_X12_note_17 F a Q (fun y1 y2 y3 y4 M => ((0 : Int) ≤ 14 ∧ (14 : Int) < 2105) ∧ (xR ((M (a + 2) 14) - 1)) ∧ ((0 : Int) ≤ 14 ∧ (14 : Int) < 2105) ∧ (∀ M57 : xMe, M57 = xw M (a + 2) 14 ((M (a + 2) 14) - 1) → ((0 : Int) ≤ 14 ∧ (14 : Int) < 2105) ∧ (xR (5 * (M57 (a + 2) 14))) ∧ (xR (705 + (5 * (M57 (a + 2) 14)))) ∧ (∀ z71 : Int, z71 = 705 + (5 * (M57 (a + 2) 14)) → ((0 : Int) ≤ 0 ∧ (0 : Int) < 2105) ∧ ((0 : Int) ≤ z71 ∧ (z71 : Int) < 2105) ∧ (∀ M85 : xMe, M85 = xw M57 (a + 2) z71.toNat (M57 (a + 2) 0) → (xR (z71 + 1)) ∧ ((0 : Int) ≤ (z71 + 1) ∧ ((z71 + 1) : Int) < 2105) ∧ (∀ M95 : xMe, M95 = xw M85 (a + 2) (z71 + 1).toNat y1 → (xR (z71 + 2)) ∧ ((0 : Int) ≤ (z71 + 2) ∧ ((z71 + 2) : Int) < 2105) ∧ (∀ M105 : xMe, M105 = xw M95 (a + 2) (z71 + 2).toNat y2 → (xR (z71 + 3)) ∧ ((0 : Int) ≤ (z71 + 3) ∧ ((z71 + 3) : Int) < 2105) ∧ (∀ M115 : xMe, M115 = xw M105 (a + 2) (z71 + 3).toNat y3 → (xR (z71 + 4)) ∧ ((0 : Int) ≤ (z71 + 4) ∧ ((z71 + 4) : Int) < 2105) ∧ (∀ M126 : xMe, M126 = xw M115 (a + 2) (z71 + 4).toNat y4 → ((0 : Int) ≤ 14 ∧ (14 : Int) < 2105) ∧ (xR ((M126 (a + 2) 14) + 1)) ∧ ((0 : Int) ≤ 14 ∧ (14 : Int) < 2105) ∧ (∀ M137 : xMe, M137 = xw M126 (a + 2) 14 ((M126 (a + 2) 14) + 1) → Q M137))))))))) F x1 x2 x3 x4 705 M))
set_option maxHeartbeats 4000000 in
set_option maxRecDepth 100000 in
theorem c_X12_note {G : xGx} {t : xTh} {M : xMe} {F : Nat} {a : Nat} {x1 : Int} {x2 : Int} {x3 : Int} {x4 : Int} {Q : xMe → Prop} (hL : oX12 t a) (hM : xMR M) (hx1 : xR x1) (hx2 : xR x2) (hx3 : xR x3) (hx4 : xR x4) (hp : p_X12_note F a x1 x2 x3 x4 M Q) : xCt G yX12_note cX12_note 6 none 0 0 0 [vr a, vi x1, vi x2, vi x3, vi x4] t M (fun v t' M' => v = none ∧ xMR M' ∧ t' = t ∧ Q M') (fun _ _ _ => False) := by
  refine xCt_of (L0 := [vr a, vi x1, vi x2, vi x3, vi x4, vU]) (by decide +kernel) (Nat.le_of_ble_eq_true rfl) rfl ?_
  intro X hX hB
  unfold p_X12_note at hp
  refine xJ_aload_n hX dX12_note_0 rfl ?_
  refine xJ_getR (b := (a + 2)) hX dX12_note_1 fd_X12_17 rfl (oX12_k hL) (oX12_r8 hL) ?_
  refine xJ_bipush hX dX12_note_4 rfl ?_
  obtain ⟨h6, hp⟩ := hp
  refine xJ_iald hX dX12_note_6 (oX12_k8 hL) h6.1 (xnlt (oX12_n8 hL) h6.2) ?_
  refine xJ_bipush hX dX12_note_7 rfl ?_
  refine xJ_icmp_ne hX dX12_note_9 (tgt := 58) (by decide) (hM _ _) ⟨by decide, by decide⟩ (fun c9 => ?_) (fun c9 => ?_)
  · replace hp := hp.1 c9
    refine xJ_sipush hX dX12_note_58 rfl ?_
    refine xJ_iconst hX dX12_note_61 ?_
    refine xJ_aload_n hX dX12_note_62 rfl ?_
    refine xJ_getR (b := (a + 2)) hX dX12_note_63 fd_X12_17 rfl (oX12_k hL) (oX12_r8 hL) ?_
    refine xJ_bipush hX dX12_note_66 rfl ?_
    obtain ⟨h68, hp⟩ := hp
    refine xJ_iald hX dX12_note_68 (oX12_k8 hL) h68.1 (xnlt (oX12_n8 hL) h68.2) ?_
    refine xJ_imul hX dX12_note_69 ?_
    obtain ⟨h69, hp⟩ := hp
    refine xJ_iadd hX dX12_note_70 ?_
    obtain ⟨h70, hp⟩ := hp
    refine xJ_istore hX dX12_note_71 (Nat.le_of_ble_eq_true rfl) rfl ?_
    dsimp only [List.set]
    replace hp := hp _ rfl
    refine xJ_aload_n hX dX12_note_73 rfl ?_
    refine xJ_getR (b := (a + 2)) hX dX12_note_74 fd_X12_17 rfl (oX12_k hL) (oX12_r8 hL) ?_
    refine xJ_iload hX dX12_note_77 rfl ?_
    refine xJ_aload_n hX dX12_note_79 rfl ?_
    refine xJ_getR (b := (a + 2)) hX dX12_note_80 fd_X12_17 rfl (oX12_k hL) (oX12_r8 hL) ?_
    refine xJ_iconst hX dX12_note_83 ?_
    obtain ⟨h84, hp⟩ := hp
    refine xJ_iald hX dX12_note_84 (oX12_k8 hL) h84.1 (xnlt (oX12_n8 hL) h84.2) ?_
    obtain ⟨h85, hp⟩ := hp
    refine xJ_iastM hX dX12_note_85 (oX12_k8 hL) h85.1 (xnlt (oX12_n8 hL) h85.2) hM (hM _ _) (fun M85 e85 hM85 => ?_)
    replace hp := hp M85 e85
    refine xJ_aload_n hX dX12_note_86 rfl ?_
    refine xJ_getR (b := (a + 2)) hX dX12_note_87 fd_X12_17 rfl (oX12_k hL) (oX12_r8 hL) ?_
    refine xJ_iload hX dX12_note_90 rfl ?_
    refine xJ_iconst hX dX12_note_92 ?_
    refine xJ_iadd hX dX12_note_93 ?_
    obtain ⟨h93, hp⟩ := hp
    refine xJ_iload_n hX dX12_note_94 rfl ?_
    obtain ⟨h95, hp⟩ := hp
    refine xJ_iastM hX dX12_note_95 (oX12_k8 hL) h95.1 (xnlt (oX12_n8 hL) h95.2) hM85 hx1 (fun M95 e95 hM95 => ?_)
    replace hp := hp M95 e95
    refine xJ_aload_n hX dX12_note_96 rfl ?_
    refine xJ_getR (b := (a + 2)) hX dX12_note_97 fd_X12_17 rfl (oX12_k hL) (oX12_r8 hL) ?_
    refine xJ_iload hX dX12_note_100 rfl ?_
    refine xJ_iconst hX dX12_note_102 ?_
    refine xJ_iadd hX dX12_note_103 ?_
    obtain ⟨h103, hp⟩ := hp
    refine xJ_iload_n hX dX12_note_104 rfl ?_
    obtain ⟨h105, hp⟩ := hp
    refine xJ_iastM hX dX12_note_105 (oX12_k8 hL) h105.1 (xnlt (oX12_n8 hL) h105.2) hM95 hx2 (fun M105 e105 hM105 => ?_)
    replace hp := hp M105 e105
    refine xJ_aload_n hX dX12_note_106 rfl ?_
    refine xJ_getR (b := (a + 2)) hX dX12_note_107 fd_X12_17 rfl (oX12_k hL) (oX12_r8 hL) ?_
    refine xJ_iload hX dX12_note_110 rfl ?_
    refine xJ_iconst hX dX12_note_112 ?_
    refine xJ_iadd hX dX12_note_113 ?_
    obtain ⟨h113, hp⟩ := hp
    refine xJ_iload_n hX dX12_note_114 rfl ?_
    obtain ⟨h115, hp⟩ := hp
    refine xJ_iastM hX dX12_note_115 (oX12_k8 hL) h115.1 (xnlt (oX12_n8 hL) h115.2) hM105 hx3 (fun M115 e115 hM115 => ?_)
    replace hp := hp M115 e115
    refine xJ_aload_n hX dX12_note_116 rfl ?_
    refine xJ_getR (b := (a + 2)) hX dX12_note_117 fd_X12_17 rfl (oX12_k hL) (oX12_r8 hL) ?_
    refine xJ_iload hX dX12_note_120 rfl ?_
    refine xJ_iconst hX dX12_note_122 ?_
    refine xJ_iadd hX dX12_note_123 ?_
    obtain ⟨h123, hp⟩ := hp
    refine xJ_iload hX dX12_note_124 rfl ?_
    obtain ⟨h126, hp⟩ := hp
    refine xJ_iastM hX dX12_note_126 (oX12_k8 hL) h126.1 (xnlt (oX12_n8 hL) h126.2) hM115 hx4 (fun M126 e126 hM126 => ?_)
    replace hp := hp M126 e126
    refine xJ_aload_n hX dX12_note_127 rfl ?_
    refine xJ_getR (b := (a + 2)) hX dX12_note_128 fd_X12_17 rfl (oX12_k hL) (oX12_r8 hL) ?_
    refine xJ_bipush hX dX12_note_131 rfl ?_
    refine xJ_dup2 hX dX12_note_133 rfl rfl ?_
    obtain ⟨h134, hp⟩ := hp
    refine xJ_iald hX dX12_note_134 (oX12_k8 hL) h134.1 (xnlt (oX12_n8 hL) h134.2) ?_
    refine xJ_iconst hX dX12_note_135 ?_
    refine xJ_iadd hX dX12_note_136 ?_
    obtain ⟨h136, hp⟩ := hp
    obtain ⟨h137, hp⟩ := hp
    refine xJ_iastM hX dX12_note_137 (oX12_k8 hL) h137.1 (xnlt (oX12_n8 hL) h137.2) hM126 h136 (fun M137 e137 hM137 => ?_)
    replace hp := hp M137 e137
    refine xJ_vret hX hB dX12_note_138 (by decide) (by decide) ⟨rfl, hM137, rfl, hp⟩
  · replace hp := hp.2 c9
    refine xJ_sipush hX dX12_note_12 rfl ?_
    refine xJ_istore hX dX12_note_15 (Nat.le_of_ble_eq_true rfl) rfl ?_
    dsimp only [List.set]
    have lp17 : ∀ (K47 : Int → Int → Int → Int → xMe → Prop) (hK47 : ∀ (y1 : Int) (y2 : Int) (y3 : Int) (y4 : Int) (M : xMe) (hM : xMR M) (hy1 : xR y1) (hy2 : xR y2) (hy3 : xR y3) (hy4 : xR y4) (hp : K47 y1 y2 y3 y4 M), xJ X 0 0 t M 47 [vr a, vi y1, vi y2, vi y3, vi y4, vU] []) (k : Nat) (x1 : Int) (x2 : Int) (x3 : Int) (x4 : Int) (x5 : Int) (M : xMe) (hM : xMR M) (hx1 : xR x1) (hx2 : xR x2) (hx3 : xR x3) (hx4 : xR x4) (hx5 : xR x5) (hp : p_X12_note_17 F a Q K47 k x1 x2 x3 x4 x5 M), xJ X 0 0 t M 17 [vr a, vi x1, vi x2, vi x3, vi x4, vi x5] [] := by
      intro K47 hK47 k
      induction k with
      | zero => intro x1 x2 x3 x4 x5 M hM hx1 hx2 hx3 hx4 hx5 hp; exact hp.elim
      | succ k ih =>
        intro x1 x2 x3 x4 x5 M hM hx1 hx2 hx3 hx4 hx5 hp
        unfold p_X12_note_17 at hp
        refine xJ_iload hX dX12_note_17 rfl ?_
        refine xJ_sipush hX dX12_note_19 rfl ?_
        refine xJ_icmp_ge hX dX12_note_22 (tgt := 47) (by decide) hx5 ⟨by decide, by decide⟩ (fun c22 => ?_) (fun c22 => ?_)
        · replace hp := hp.1 c22
          refine xJ_fg 5 ?_
          dsimp only [List.set]
          exact hK47 _ _ _ _ _ hM hx1 hx2 hx3 hx4 hp
        · replace hp := hp.2 c22
          refine xJ_aload_n hX dX12_note_25 rfl ?_
          refine xJ_getR (b := (a + 2)) hX dX12_note_26 fd_X12_17 rfl (oX12_k hL) (oX12_r8 hL) ?_
          refine xJ_iload hX dX12_note_29 rfl ?_
          refine xJ_aload_n hX dX12_note_31 rfl ?_
          refine xJ_getR (b := (a + 2)) hX dX12_note_32 fd_X12_17 rfl (oX12_k hL) (oX12_r8 hL) ?_
          refine xJ_iload hX dX12_note_35 rfl ?_
          refine xJ_iconst hX dX12_note_37 ?_
          refine xJ_iadd hX dX12_note_38 ?_
          obtain ⟨h38, hp⟩ := hp
          obtain ⟨h39, hp⟩ := hp
          refine xJ_iald hX dX12_note_39 (oX12_k8 hL) h39.1 (xnlt (oX12_n8 hL) h39.2) ?_
          obtain ⟨h40, hp⟩ := hp
          refine xJ_iastM hX dX12_note_40 (oX12_k8 hL) h40.1 (xnlt (oX12_n8 hL) h40.2) hM (hM _ _) (fun M40 e40 hM40 => ?_)
          replace hp := hp M40 e40
          refine xJ_iinc hX dX12_note_41 rfl rfl ?_
          dsimp only [List.set]
          obtain ⟨h41, hp⟩ := hp
          refine xJ_goto hX dX12_note_44 (tgt := 17) (by decide) ?_
          exact ih _ _ _ _ _ _ hM40 hx1 hx2 hx3 hx4 h41 hp
    refine lp17 _ (fun y1 y2 y3 y4 M hM hy1 hy2 hy3 hy4 hp => ?_) F _ _ _ _ _ _ hM hx1 hx2 hx3 hx4 ⟨by decide, by decide⟩ hp
    · refine xJ_aload_n hX dX12_note_47 rfl ?_
      refine xJ_getR (b := (a + 2)) hX dX12_note_48 fd_X12_17 rfl (oX12_k hL) (oX12_r8 hL) ?_
      refine xJ_bipush hX dX12_note_51 rfl ?_
      refine xJ_dup2 hX dX12_note_53 rfl rfl ?_
      obtain ⟨h54, hp⟩ := hp
      refine xJ_iald hX dX12_note_54 (oX12_k8 hL) h54.1 (xnlt (oX12_n8 hL) h54.2) ?_
      refine xJ_iconst hX dX12_note_55 ?_
      refine xJ_isub hX dX12_note_56 ?_
      obtain ⟨h56, hp⟩ := hp
      obtain ⟨h57, hp⟩ := hp
      refine xJ_iastM hX dX12_note_57 (oX12_k8 hL) h57.1 (xnlt (oX12_n8 hL) h57.2) hM h56 (fun M57 e57 hM57 => ?_)
      replace hp := hp M57 e57
      refine xJ_sipush hX dX12_note_58 rfl ?_
      refine xJ_iconst hX dX12_note_61 ?_
      refine xJ_aload_n hX dX12_note_62 rfl ?_
      refine xJ_getR (b := (a + 2)) hX dX12_note_63 fd_X12_17 rfl (oX12_k hL) (oX12_r8 hL) ?_
      refine xJ_bipush hX dX12_note_66 rfl ?_
      obtain ⟨h68, hp⟩ := hp
      refine xJ_iald hX dX12_note_68 (oX12_k8 hL) h68.1 (xnlt (oX12_n8 hL) h68.2) ?_
      refine xJ_imul hX dX12_note_69 ?_
      obtain ⟨h69, hp⟩ := hp
      refine xJ_iadd hX dX12_note_70 ?_
      obtain ⟨h70, hp⟩ := hp
      refine xJ_istore hX dX12_note_71 (Nat.le_of_ble_eq_true rfl) rfl ?_
      dsimp only [List.set]
      replace hp := hp _ rfl
      refine xJ_aload_n hX dX12_note_73 rfl ?_
      refine xJ_getR (b := (a + 2)) hX dX12_note_74 fd_X12_17 rfl (oX12_k hL) (oX12_r8 hL) ?_
      refine xJ_iload hX dX12_note_77 rfl ?_
      refine xJ_aload_n hX dX12_note_79 rfl ?_
      refine xJ_getR (b := (a + 2)) hX dX12_note_80 fd_X12_17 rfl (oX12_k hL) (oX12_r8 hL) ?_
      refine xJ_iconst hX dX12_note_83 ?_
      obtain ⟨h84, hp⟩ := hp
      refine xJ_iald hX dX12_note_84 (oX12_k8 hL) h84.1 (xnlt (oX12_n8 hL) h84.2) ?_
      obtain ⟨h85, hp⟩ := hp
      refine xJ_iastM hX dX12_note_85 (oX12_k8 hL) h85.1 (xnlt (oX12_n8 hL) h85.2) hM57 (hM57 _ _) (fun M85 e85 hM85 => ?_)
      replace hp := hp M85 e85
      refine xJ_aload_n hX dX12_note_86 rfl ?_
      refine xJ_getR (b := (a + 2)) hX dX12_note_87 fd_X12_17 rfl (oX12_k hL) (oX12_r8 hL) ?_
      refine xJ_iload hX dX12_note_90 rfl ?_
      refine xJ_iconst hX dX12_note_92 ?_
      refine xJ_iadd hX dX12_note_93 ?_
      obtain ⟨h93, hp⟩ := hp
      refine xJ_iload_n hX dX12_note_94 rfl ?_
      obtain ⟨h95, hp⟩ := hp
      refine xJ_iastM hX dX12_note_95 (oX12_k8 hL) h95.1 (xnlt (oX12_n8 hL) h95.2) hM85 hy1 (fun M95 e95 hM95 => ?_)
      replace hp := hp M95 e95
      refine xJ_aload_n hX dX12_note_96 rfl ?_
      refine xJ_getR (b := (a + 2)) hX dX12_note_97 fd_X12_17 rfl (oX12_k hL) (oX12_r8 hL) ?_
      refine xJ_iload hX dX12_note_100 rfl ?_
      refine xJ_iconst hX dX12_note_102 ?_
      refine xJ_iadd hX dX12_note_103 ?_
      obtain ⟨h103, hp⟩ := hp
      refine xJ_iload_n hX dX12_note_104 rfl ?_
      obtain ⟨h105, hp⟩ := hp
      refine xJ_iastM hX dX12_note_105 (oX12_k8 hL) h105.1 (xnlt (oX12_n8 hL) h105.2) hM95 hy2 (fun M105 e105 hM105 => ?_)
      replace hp := hp M105 e105
      refine xJ_aload_n hX dX12_note_106 rfl ?_
      refine xJ_getR (b := (a + 2)) hX dX12_note_107 fd_X12_17 rfl (oX12_k hL) (oX12_r8 hL) ?_
      refine xJ_iload hX dX12_note_110 rfl ?_
      refine xJ_iconst hX dX12_note_112 ?_
      refine xJ_iadd hX dX12_note_113 ?_
      obtain ⟨h113, hp⟩ := hp
      refine xJ_iload_n hX dX12_note_114 rfl ?_
      obtain ⟨h115, hp⟩ := hp
      refine xJ_iastM hX dX12_note_115 (oX12_k8 hL) h115.1 (xnlt (oX12_n8 hL) h115.2) hM105 hy3 (fun M115 e115 hM115 => ?_)
      replace hp := hp M115 e115
      refine xJ_aload_n hX dX12_note_116 rfl ?_
      refine xJ_getR (b := (a + 2)) hX dX12_note_117 fd_X12_17 rfl (oX12_k hL) (oX12_r8 hL) ?_
      refine xJ_iload hX dX12_note_120 rfl ?_
      refine xJ_iconst hX dX12_note_122 ?_
      refine xJ_iadd hX dX12_note_123 ?_
      obtain ⟨h123, hp⟩ := hp
      refine xJ_iload hX dX12_note_124 rfl ?_
      obtain ⟨h126, hp⟩ := hp
      refine xJ_iastM hX dX12_note_126 (oX12_k8 hL) h126.1 (xnlt (oX12_n8 hL) h126.2) hM115 hy4 (fun M126 e126 hM126 => ?_)
      replace hp := hp M126 e126
      refine xJ_aload_n hX dX12_note_127 rfl ?_
      refine xJ_getR (b := (a + 2)) hX dX12_note_128 fd_X12_17 rfl (oX12_k hL) (oX12_r8 hL) ?_
      refine xJ_bipush hX dX12_note_131 rfl ?_
      refine xJ_dup2 hX dX12_note_133 rfl rfl ?_
      obtain ⟨h134, hp⟩ := hp
      refine xJ_iald hX dX12_note_134 (oX12_k8 hL) h134.1 (xnlt (oX12_n8 hL) h134.2) ?_
      refine xJ_iconst hX dX12_note_135 ?_
      refine xJ_iadd hX dX12_note_136 ?_
      obtain ⟨h136, hp⟩ := hp
      obtain ⟨h137, hp⟩ := hp
      refine xJ_iastM hX dX12_note_137 (oX12_k8 hL) h137.1 (xnlt (oX12_n8 hL) h137.2) hM126 h136 (fun M137 e137 hM137 => ?_)
      replace hp := hp M137 e137
      refine xJ_vret hX hB dX12_note_138 (by decide) (by decide) ⟨rfl, hM137, rfl, hp⟩
def p_X12_passOne (F : Nat) (a : Nat) (x1 : Int) (x2 : Int) (x3 : Int) (M : xMe) (Q : xMe → Prop) : Prop :=
  p_X12_packetAt x1 M (fun r1 M1 => (xR (r1 + 0)) ∧ ((0 : Int) ≤ (r1 + 0) ∧ ((r1 + 0) : Int) < 2105) ∧ (∀ z15 : Int, z15 = M1 (a + 2) (r1 + 0).toNat → (xR (r1 + 2)) ∧ ((0 : Int) ≤ (r1 + 2) ∧ ((r1 + 2) : Int) < 2105) ∧ (∀ z26 : Int, z26 = M1 (a + 2) (r1 + 2).toNat → (xR (x3 + 0)) ∧ ((0 : Int) ≤ (x3 + 0) ∧ ((x3 + 0) : Int) < 2105) ∧ p_X12_min z26 (M1 (a + 2) (x3 + 0).toNat) M1 (fun r38 M38 => (xR (z26 - r38)) ∧ (∀ z48 : Int, z48 = z26 - r38 → (xR (8 * z15)) ∧ (xR (33 + (8 * z15))) ∧ (∀ z58 : Int, z58 = 33 + (8 * z15) → (xR (x3 + 0)) ∧ ((0 : Int) ≤ (x3 + 0) ∧ ((x3 + 0) : Int) < 2105) ∧ (xR ((M38 (a + 2) (x3 + 0).toNat) - r38)) ∧ ((0 : Int) ≤ (x3 + 0) ∧ ((x3 + 0) : Int) < 2105) ∧ (∀ M72 : xMe, M72 = xw M38 (a + 2) (x3 + 0).toNat ((M38 (a + 2) (x3 + 0).toNat) - r38) → (xR (x3 + 2)) ∧ (xR (r1 + 8)) ∧ ((0 : Int) ≤ (r1 + 8) ∧ ((r1 + 8) : Int) < 2105) ∧ ((0 : Int) ≤ (x3 + 2) ∧ ((x3 + 2) : Int) < 2105) ∧ (∀ M90 : xMe, M90 = xw M72 (a + 2) (x3 + 2).toNat (M72 (a + 2) (r1 + 8).toNat) → (xR (x3 + 1)) ∧ ((0 : Int) ≤ (x3 + 1) ∧ ((x3 + 1) : Int) < 2105) ∧ (xR ((M90 (a + 2) (x3 + 1).toNat) - 1)) ∧ ((0 : Int) ≤ (x3 + 1) ∧ ((x3 + 1) : Int) < 2105) ∧ (∀ M102 : xMe, M102 = xw M90 (a + 2) (x3 + 1).toNat ((M90 (a + 2) (x3 + 1).toNat) - 1) → ((z48 ≤ 0 → (xR (r1 + 5)) ∧ ((0 : Int) ≤ (r1 + 5) ∧ ((r1 + 5) : Int) < 2105) ∧ (xR ((M102 (a + 2) (r1 + 5).toNat) + z48)) ∧ ((0 : Int) ≤ (r1 + 5) ∧ ((r1 + 5) : Int) < 2105) ∧ (∀ M129 : xMe, M129 = xw M102 (a + 2) (r1 + 5).toNat ((M102 (a + 2) (r1 + 5).toNat) + z48) → (xR (z58 + 2)) ∧ ((0 : Int) ≤ (z58 + 2) ∧ ((z58 + 2) : Int) < 2105) ∧ ((0 : Int) ≤ 0 ∧ (0 : Int) < 2105) ∧ (xR (r1 + 7)) ∧ ((0 : Int) ≤ (r1 + 7) ∧ ((r1 + 7) : Int) < 2105) ∧ (xR ((M129 (a + 2) 0) - (M129 (a + 2) (r1 + 7).toNat))) ∧ p_X12_priceOf F a z26 x2 z48 ((M129 (a + 2) 0) - (M129 (a + 2) (r1 + 7).toNat)) M129 (fun r163 M163 => (xR ((M129 (a + 2) (z58 + 2).toNat) + r163)) ∧ ((0 : Int) ≤ (z58 + 2) ∧ ((z58 + 2) : Int) < 2105) ∧ (∀ M167 : xMe, M167 = xw M163 (a + 2) (z58 + 2).toNat ((M129 (a + 2) (z58 + 2).toNat) + r163) → p_X12_note F a x2 z15 z26 z48 M167 (fun M176 => (xR (r1 + 4)) ∧ ((0 : Int) ≤ (r1 + 4) ∧ ((r1 + 4) : Int) < 2105) ∧ (xR ((M176 (a + 2) (r1 + 4).toNat) + 1)) ∧ ((0 : Int) ≤ (r1 + 4) ∧ ((r1 + 4) : Int) < 2105) ∧ (∀ M191 : xMe, M191 = xw M176 (a + 2) (r1 + 4).toNat ((M176 (a + 2) (r1 + 4).toNat) + 1) → (xR (r1 + 3)) ∧ ((0 : Int) ≤ (r1 + 3) ∧ ((r1 + 3) : Int) < 2105) ∧ (∀ M201 : xMe, M201 = xw M191 (a + 2) (r1 + 3).toNat 2 → (xR (r1 + 4)) ∧ ((0 : Int) ≤ (r1 + 4) ∧ ((r1 + 4) : Int) < 2105) ∧ (xR (z58 + 0)) ∧ ((0 : Int) ≤ (z58 + 0) ∧ ((z58 + 0) : Int) < 2105) ∧ (((M201 (a + 2) (z58 + 0).toNat) ≤ (M201 (a + 2) (r1 + 4).toNat) → p_X12_end a x1 3 M201 (fun M227 => (xR (z58 + 3)) ∧ ((0 : Int) ≤ (z58 + 3) ∧ ((z58 + 3) : Int) < 2105) ∧ (xR ((M227 (a + 2) (z58 + 3).toNat) + z26)) ∧ ((0 : Int) ≤ (z58 + 3) ∧ ((z58 + 3) : Int) < 2105) ∧ (∀ M243 : xMe, M243 = xw M227 (a + 2) (z58 + 3).toNat ((M227 (a + 2) (z58 + 3).toNat) + z26) → Q M243))) ∧ ((M201 (a + 2) (r1 + 4).toNat) < (M201 (a + 2) (z58 + 0).toNat) → Q M201))))))))) ∧ (0 < z48 → p_X12_spend F a z15 z48 M102 (fun M113 => (xR (r1 + 5)) ∧ ((0 : Int) ≤ (r1 + 5) ∧ ((r1 + 5) : Int) < 2105) ∧ (xR ((M113 (a + 2) (r1 + 5).toNat) + z48)) ∧ ((0 : Int) ≤ (r1 + 5) ∧ ((r1 + 5) : Int) < 2105) ∧ (∀ M129 : xMe, M129 = xw M113 (a + 2) (r1 + 5).toNat ((M113 (a + 2) (r1 + 5).toNat) + z48) → (xR (z58 + 2)) ∧ ((0 : Int) ≤ (z58 + 2) ∧ ((z58 + 2) : Int) < 2105) ∧ ((0 : Int) ≤ 0 ∧ (0 : Int) < 2105) ∧ (xR (r1 + 7)) ∧ ((0 : Int) ≤ (r1 + 7) ∧ ((r1 + 7) : Int) < 2105) ∧ (xR ((M129 (a + 2) 0) - (M129 (a + 2) (r1 + 7).toNat))) ∧ p_X12_priceOf F a z26 x2 z48 ((M129 (a + 2) 0) - (M129 (a + 2) (r1 + 7).toNat)) M129 (fun r163 M163 => (xR ((M129 (a + 2) (z58 + 2).toNat) + r163)) ∧ ((0 : Int) ≤ (z58 + 2) ∧ ((z58 + 2) : Int) < 2105) ∧ (∀ M167 : xMe, M167 = xw M163 (a + 2) (z58 + 2).toNat ((M129 (a + 2) (z58 + 2).toNat) + r163) → p_X12_note F a x2 z15 z26 z48 M167 (fun M176 => (xR (r1 + 4)) ∧ ((0 : Int) ≤ (r1 + 4) ∧ ((r1 + 4) : Int) < 2105) ∧ (xR ((M176 (a + 2) (r1 + 4).toNat) + 1)) ∧ ((0 : Int) ≤ (r1 + 4) ∧ ((r1 + 4) : Int) < 2105) ∧ (∀ M191 : xMe, M191 = xw M176 (a + 2) (r1 + 4).toNat ((M176 (a + 2) (r1 + 4).toNat) + 1) → (xR (r1 + 3)) ∧ ((0 : Int) ≤ (r1 + 3) ∧ ((r1 + 3) : Int) < 2105) ∧ (∀ M201 : xMe, M201 = xw M191 (a + 2) (r1 + 3).toNat 2 → (xR (r1 + 4)) ∧ ((0 : Int) ≤ (r1 + 4) ∧ ((r1 + 4) : Int) < 2105) ∧ (xR (z58 + 0)) ∧ ((0 : Int) ≤ (z58 + 0) ∧ ((z58 + 0) : Int) < 2105) ∧ (((M201 (a + 2) (z58 + 0).toNat) ≤ (M201 (a + 2) (r1 + 4).toNat) → p_X12_end a x1 3 M201 (fun M227 => (xR (z58 + 3)) ∧ ((0 : Int) ≤ (z58 + 3) ∧ ((z58 + 3) : Int) < 2105) ∧ (xR ((M227 (a + 2) (z58 + 3).toNat) + z26)) ∧ ((0 : Int) ≤ (z58 + 3) ∧ ((z58 + 3) : Int) < 2105) ∧ (∀ M243 : xMe, M243 = xw M227 (a + 2) (z58 + 3).toNat ((M227 (a + 2) (z58 + 3).toNat) + z26) → Q M243))) ∧ ((M201 (a + 2) (r1 + 4).toNat) < (M201 (a + 2) (z58 + 0).toNat) → Q M201))))))))))))))))))))
set_option maxHeartbeats 4000000 in
set_option maxRecDepth 100000 in
theorem c_X12_passOne {G : xGx} {t : xTh} {M : xMe} {F : Nat} {a : Nat} {x1 : Int} {x2 : Int} {x3 : Int} {Q : xMe → Prop} (hL : oX12 t a) (hM : xMR M) (hx1 : xR x1) (hx2 : xR x2) (hx3 : xR x3) (hp : p_X12_passOne F a x1 x2 x3 M Q) : xCt G yX12_passOne cX12_passOne 10 none 3 0 0 [vr a, vi x1, vi x2, vi x3] t M (fun v t' M' => v = none ∧ xMR M' ∧ t' = t ∧ Q M') (fun _ _ _ => False) := by
  refine xCt_of (L0 := [vr a, vi x1, vi x2, vi x3, vU, vU, vU, vU, vU, vU]) (by decide +kernel) (Nat.le_of_ble_eq_true rfl) rfl ?_
  intro X hX hB
  unfold p_X12_passOne at hp
  refine xJ_iload_n hX dX12_passOne_0 rfl ?_
  refine xJ_callS (As := [_]) hX hB dX12_passOne_1 lk_X12_197 sm_X12_packetAt (c_X12_packetAt  hM hx1 hp) (by decide) rfl rfl rfl (Nat.le_of_ble_eq_true rfl) (by decide) (by decide) (fun v t9 M1 hv => ?_) (fun _ _ _ q => q.elim)
  obtain ⟨r1, rfl, h1, hM1, ht9, hp⟩ := hv
  replace ht9 := ht9.symm
  subst ht9
  dsimp only [Option.toList, List.cons_append, List.nil_append]
  refine xJ_istore hX dX12_passOne_4 (Nat.le_of_ble_eq_true rfl) rfl ?_
  dsimp only [List.set]
  refine xJ_aload_n hX dX12_passOne_6 rfl ?_
  refine xJ_getR (b := (a + 2)) hX dX12_passOne_7 fd_X12_17 rfl (oX12_k hL) (oX12_r8 hL) ?_
  refine xJ_iload hX dX12_passOne_10 rfl ?_
  refine xJ_iconst hX dX12_passOne_12 ?_
  refine xJ_iadd hX dX12_passOne_13 ?_
  obtain ⟨h13, hp⟩ := hp
  obtain ⟨h14, hp⟩ := hp
  refine xJ_iald hX dX12_passOne_14 (oX12_k8 hL) h14.1 (xnlt (oX12_n8 hL) h14.2) ?_
  refine xJ_istore hX dX12_passOne_15 (Nat.le_of_ble_eq_true rfl) rfl ?_
  dsimp only [List.set]
  replace hp := hp _ rfl
  refine xJ_aload_n hX dX12_passOne_17 rfl ?_
  refine xJ_getR (b := (a + 2)) hX dX12_passOne_18 fd_X12_17 rfl (oX12_k hL) (oX12_r8 hL) ?_
  refine xJ_iload hX dX12_passOne_21 rfl ?_
  refine xJ_iconst hX dX12_passOne_23 ?_
  refine xJ_iadd hX dX12_passOne_24 ?_
  obtain ⟨h24, hp⟩ := hp
  obtain ⟨h25, hp⟩ := hp
  refine xJ_iald hX dX12_passOne_25 (oX12_k8 hL) h25.1 (xnlt (oX12_n8 hL) h25.2) ?_
  refine xJ_istore hX dX12_passOne_26 (Nat.le_of_ble_eq_true rfl) rfl ?_
  dsimp only [List.set]
  replace hp := hp _ rfl
  refine xJ_iload hX dX12_passOne_28 rfl ?_
  refine xJ_aload_n hX dX12_passOne_30 rfl ?_
  refine xJ_getR (b := (a + 2)) hX dX12_passOne_31 fd_X12_17 rfl (oX12_k hL) (oX12_r8 hL) ?_
  refine xJ_iload_n hX dX12_passOne_34 rfl ?_
  refine xJ_iconst hX dX12_passOne_35 ?_
  refine xJ_iadd hX dX12_passOne_36 ?_
  obtain ⟨h36, hp⟩ := hp
  obtain ⟨h37, hp⟩ := hp
  refine xJ_iald hX dX12_passOne_37 (oX12_k8 hL) h37.1 (xnlt (oX12_n8 hL) h37.2) ?_
  refine xJ_callS (As := [_, _]) hX hB dX12_passOne_38 lk_X12_97 sm_X12_min (c_X12_min  hM1 (hM1 _ _) (hM1 _ _) hp) (by decide) rfl rfl rfl (Nat.le_of_ble_eq_true rfl) (by decide) (by decide) (fun v t9 M38 hv => ?_) (fun _ _ _ q => q.elim)
  obtain ⟨r38, rfl, h38, hM38, ht9, hp⟩ := hv
  replace ht9 := ht9.symm
  subst ht9
  dsimp only [Option.toList, List.cons_append, List.nil_append]
  refine xJ_istore hX dX12_passOne_41 (Nat.le_of_ble_eq_true rfl) rfl ?_
  dsimp only [List.set]
  refine xJ_iload hX dX12_passOne_43 rfl ?_
  refine xJ_iload hX dX12_passOne_45 rfl ?_
  refine xJ_isub hX dX12_passOne_47 ?_
  obtain ⟨h47, hp⟩ := hp
  refine xJ_istore hX dX12_passOne_48 (Nat.le_of_ble_eq_true rfl) rfl ?_
  dsimp only [List.set]
  replace hp := hp _ rfl
  refine xJ_bipush hX dX12_passOne_50 rfl ?_
  refine xJ_bipush hX dX12_passOne_52 rfl ?_
  refine xJ_iload hX dX12_passOne_54 rfl ?_
  refine xJ_imul hX dX12_passOne_56 ?_
  obtain ⟨h56, hp⟩ := hp
  refine xJ_iadd hX dX12_passOne_57 ?_
  obtain ⟨h57, hp⟩ := hp
  refine xJ_istore hX dX12_passOne_58 (Nat.le_of_ble_eq_true rfl) rfl ?_
  dsimp only [List.set]
  replace hp := hp _ rfl
  refine xJ_aload_n hX dX12_passOne_60 rfl ?_
  refine xJ_getR (b := (a + 2)) hX dX12_passOne_61 fd_X12_17 rfl (oX12_k hL) (oX12_r8 hL) ?_
  refine xJ_iload_n hX dX12_passOne_64 rfl ?_
  refine xJ_iconst hX dX12_passOne_65 ?_
  refine xJ_iadd hX dX12_passOne_66 ?_
  obtain ⟨h66, hp⟩ := hp
  refine xJ_dup2 hX dX12_passOne_67 rfl rfl ?_
  obtain ⟨h68, hp⟩ := hp
  refine xJ_iald hX dX12_passOne_68 (oX12_k8 hL) h68.1 (xnlt (oX12_n8 hL) h68.2) ?_
  refine xJ_iload hX dX12_passOne_69 rfl ?_
  refine xJ_isub hX dX12_passOne_71 ?_
  obtain ⟨h71, hp⟩ := hp
  obtain ⟨h72, hp⟩ := hp
  refine xJ_iastM hX dX12_passOne_72 (oX12_k8 hL) h72.1 (xnlt (oX12_n8 hL) h72.2) hM38 h71 (fun M72 e72 hM72 => ?_)
  replace hp := hp M72 e72
  refine xJ_aload_n hX dX12_passOne_73 rfl ?_
  refine xJ_getR (b := (a + 2)) hX dX12_passOne_74 fd_X12_17 rfl (oX12_k hL) (oX12_r8 hL) ?_
  refine xJ_iload_n hX dX12_passOne_77 rfl ?_
  refine xJ_iconst hX dX12_passOne_78 ?_
  refine xJ_iadd hX dX12_passOne_79 ?_
  obtain ⟨h79, hp⟩ := hp
  refine xJ_aload_n hX dX12_passOne_80 rfl ?_
  refine xJ_getR (b := (a + 2)) hX dX12_passOne_81 fd_X12_17 rfl (oX12_k hL) (oX12_r8 hL) ?_
  refine xJ_iload hX dX12_passOne_84 rfl ?_
  refine xJ_bipush hX dX12_passOne_86 rfl ?_
  refine xJ_iadd hX dX12_passOne_88 ?_
  obtain ⟨h88, hp⟩ := hp
  obtain ⟨h89, hp⟩ := hp
  refine xJ_iald hX dX12_passOne_89 (oX12_k8 hL) h89.1 (xnlt (oX12_n8 hL) h89.2) ?_
  obtain ⟨h90, hp⟩ := hp
  refine xJ_iastM hX dX12_passOne_90 (oX12_k8 hL) h90.1 (xnlt (oX12_n8 hL) h90.2) hM72 (hM72 _ _) (fun M90 e90 hM90 => ?_)
  replace hp := hp M90 e90
  refine xJ_aload_n hX dX12_passOne_91 rfl ?_
  refine xJ_getR (b := (a + 2)) hX dX12_passOne_92 fd_X12_17 rfl (oX12_k hL) (oX12_r8 hL) ?_
  refine xJ_iload_n hX dX12_passOne_95 rfl ?_
  refine xJ_iconst hX dX12_passOne_96 ?_
  refine xJ_iadd hX dX12_passOne_97 ?_
  obtain ⟨h97, hp⟩ := hp
  refine xJ_dup2 hX dX12_passOne_98 rfl rfl ?_
  obtain ⟨h99, hp⟩ := hp
  refine xJ_iald hX dX12_passOne_99 (oX12_k8 hL) h99.1 (xnlt (oX12_n8 hL) h99.2) ?_
  refine xJ_iconst hX dX12_passOne_100 ?_
  refine xJ_isub hX dX12_passOne_101 ?_
  obtain ⟨h101, hp⟩ := hp
  obtain ⟨h102, hp⟩ := hp
  refine xJ_iastM hX dX12_passOne_102 (oX12_k8 hL) h102.1 (xnlt (oX12_n8 hL) h102.2) hM90 h101 (fun M102 e102 hM102 => ?_)
  replace hp := hp M102 e102
  refine xJ_iload hX dX12_passOne_103 rfl ?_
  refine xJ_if_le hX dX12_passOne_105 (tgt := 116) (by decide) h47 (fun c105 => ?_) (fun c105 => ?_)
  · replace hp := hp.1 c105
    refine xJ_aload_n hX dX12_passOne_116 rfl ?_
    refine xJ_getR (b := (a + 2)) hX dX12_passOne_117 fd_X12_17 rfl (oX12_k hL) (oX12_r8 hL) ?_
    refine xJ_iload hX dX12_passOne_120 rfl ?_
    refine xJ_iconst hX dX12_passOne_122 ?_
    refine xJ_iadd hX dX12_passOne_123 ?_
    obtain ⟨h123, hp⟩ := hp
    refine xJ_dup2 hX dX12_passOne_124 rfl rfl ?_
    obtain ⟨h125, hp⟩ := hp
    refine xJ_iald hX dX12_passOne_125 (oX12_k8 hL) h125.1 (xnlt (oX12_n8 hL) h125.2) ?_
    refine xJ_iload hX dX12_passOne_126 rfl ?_
    refine xJ_iadd hX dX12_passOne_128 ?_
    obtain ⟨h128, hp⟩ := hp
    obtain ⟨h129, hp⟩ := hp
    refine xJ_iastM hX dX12_passOne_129 (oX12_k8 hL) h129.1 (xnlt (oX12_n8 hL) h129.2) hM102 h128 (fun M129 e129 hM129 => ?_)
    replace hp := hp M129 e129
    refine xJ_aload_n hX dX12_passOne_130 rfl ?_
    refine xJ_getR (b := (a + 2)) hX dX12_passOne_131 fd_X12_17 rfl (oX12_k hL) (oX12_r8 hL) ?_
    refine xJ_iload hX dX12_passOne_134 rfl ?_
    refine xJ_iconst hX dX12_passOne_136 ?_
    refine xJ_iadd hX dX12_passOne_137 ?_
    obtain ⟨h137, hp⟩ := hp
    refine xJ_dup2 hX dX12_passOne_138 rfl rfl ?_
    obtain ⟨h139, hp⟩ := hp
    refine xJ_iald hX dX12_passOne_139 (oX12_k8 hL) h139.1 (xnlt (oX12_n8 hL) h139.2) ?_
    refine xJ_aload_n hX dX12_passOne_140 rfl ?_
    refine xJ_iload hX dX12_passOne_141 rfl ?_
    refine xJ_iload_n hX dX12_passOne_143 rfl ?_
    refine xJ_iload hX dX12_passOne_144 rfl ?_
    refine xJ_aload_n hX dX12_passOne_146 rfl ?_
    refine xJ_getR (b := (a + 2)) hX dX12_passOne_147 fd_X12_17 rfl (oX12_k hL) (oX12_r8 hL) ?_
    refine xJ_iconst hX dX12_passOne_150 ?_
    obtain ⟨h151, hp⟩ := hp
    refine xJ_iald hX dX12_passOne_151 (oX12_k8 hL) h151.1 (xnlt (oX12_n8 hL) h151.2) ?_
    refine xJ_aload_n hX dX12_passOne_152 rfl ?_
    refine xJ_getR (b := (a + 2)) hX dX12_passOne_153 fd_X12_17 rfl (oX12_k hL) (oX12_r8 hL) ?_
    refine xJ_iload hX dX12_passOne_156 rfl ?_
    refine xJ_bipush hX dX12_passOne_158 rfl ?_
    refine xJ_iadd hX dX12_passOne_160 ?_
    obtain ⟨h160, hp⟩ := hp
    obtain ⟨h161, hp⟩ := hp
    refine xJ_iald hX dX12_passOne_161 (oX12_k8 hL) h161.1 (xnlt (oX12_n8 hL) h161.2) ?_
    refine xJ_isub hX dX12_passOne_162 ?_
    obtain ⟨h162, hp⟩ := hp
    refine xJ_callV (As := [_, _, _, _]) hX hB dX12_passOne_163 lk_X12_240 im_X12_priceOf se_X12_priceOf rfl (by decide) (oX12_k hL) (c_X12_priceOf hL hM129 (hM1 _ _) hx2 h47 h162 hp) (by decide) rfl rfl rfl (Nat.le_of_ble_eq_true rfl) (by decide) (by decide) (fun v t9 M163 hv => ?_) (fun _ _ _ q => q.elim)
    obtain ⟨r163, rfl, h163, hM163, ht9, hp⟩ := hv
    replace ht9 := ht9.symm
    subst ht9
    dsimp only [Option.toList, List.cons_append, List.nil_append]
    refine xJ_iadd hX dX12_passOne_166 ?_
    obtain ⟨h166, hp⟩ := hp
    obtain ⟨h167, hp⟩ := hp
    refine xJ_iastM hX dX12_passOne_167 (oX12_k8 hL) h167.1 (xnlt (oX12_n8 hL) h167.2) hM163 h166 (fun M167 e167 hM167 => ?_)
    replace hp := hp M167 e167
    refine xJ_aload_n hX dX12_passOne_168 rfl ?_
    refine xJ_iload_n hX dX12_passOne_169 rfl ?_
    refine xJ_iload hX dX12_passOne_170 rfl ?_
    refine xJ_iload hX dX12_passOne_172 rfl ?_
    refine xJ_iload hX dX12_passOne_174 rfl ?_
    refine xJ_callV (As := [_, _, _, _]) hX hB dX12_passOne_176 lk_X12_244 im_X12_note se_X12_note rfl (by decide) (oX12_k hL) (c_X12_note hL hM167 hx2 (hM1 _ _) (hM1 _ _) h47 hp) (by decide) rfl rfl rfl (Nat.le_of_ble_eq_true rfl) (by decide) (by decide) (fun v t9 M176 hv => ?_) (fun _ _ _ q => q.elim)
    obtain ⟨rfl, hM176, ht9, hp⟩ := hv
    replace ht9 := ht9.symm
    subst ht9
    dsimp only [Option.toList, List.cons_append, List.nil_append]
    refine xJ_aload_n hX dX12_passOne_179 rfl ?_
    refine xJ_getR (b := (a + 2)) hX dX12_passOne_180 fd_X12_17 rfl (oX12_k hL) (oX12_r8 hL) ?_
    refine xJ_iload hX dX12_passOne_183 rfl ?_
    refine xJ_iconst hX dX12_passOne_185 ?_
    refine xJ_iadd hX dX12_passOne_186 ?_
    obtain ⟨h186, hp⟩ := hp
    refine xJ_dup2 hX dX12_passOne_187 rfl rfl ?_
    obtain ⟨h188, hp⟩ := hp
    refine xJ_iald hX dX12_passOne_188 (oX12_k8 hL) h188.1 (xnlt (oX12_n8 hL) h188.2) ?_
    refine xJ_iconst hX dX12_passOne_189 ?_
    refine xJ_iadd hX dX12_passOne_190 ?_
    obtain ⟨h190, hp⟩ := hp
    obtain ⟨h191, hp⟩ := hp
    refine xJ_iastM hX dX12_passOne_191 (oX12_k8 hL) h191.1 (xnlt (oX12_n8 hL) h191.2) hM176 h190 (fun M191 e191 hM191 => ?_)
    replace hp := hp M191 e191
    refine xJ_aload_n hX dX12_passOne_192 rfl ?_
    refine xJ_getR (b := (a + 2)) hX dX12_passOne_193 fd_X12_17 rfl (oX12_k hL) (oX12_r8 hL) ?_
    refine xJ_iload hX dX12_passOne_196 rfl ?_
    refine xJ_iconst hX dX12_passOne_198 ?_
    refine xJ_iadd hX dX12_passOne_199 ?_
    obtain ⟨h199, hp⟩ := hp
    refine xJ_iconst hX dX12_passOne_200 ?_
    obtain ⟨h201, hp⟩ := hp
    refine xJ_iastM hX dX12_passOne_201 (oX12_k8 hL) h201.1 (xnlt (oX12_n8 hL) h201.2) hM191 ⟨by decide, by decide⟩ (fun M201 e201 hM201 => ?_)
    replace hp := hp M201 e201
    refine xJ_aload_n hX dX12_passOne_202 rfl ?_
    refine xJ_getR (b := (a + 2)) hX dX12_passOne_203 fd_X12_17 rfl (oX12_k hL) (oX12_r8 hL) ?_
    refine xJ_iload hX dX12_passOne_206 rfl ?_
    refine xJ_iconst hX dX12_passOne_208 ?_
    refine xJ_iadd hX dX12_passOne_209 ?_
    obtain ⟨h209, hp⟩ := hp
    obtain ⟨h210, hp⟩ := hp
    refine xJ_iald hX dX12_passOne_210 (oX12_k8 hL) h210.1 (xnlt (oX12_n8 hL) h210.2) ?_
    refine xJ_aload_n hX dX12_passOne_211 rfl ?_
    refine xJ_getR (b := (a + 2)) hX dX12_passOne_212 fd_X12_17 rfl (oX12_k hL) (oX12_r8 hL) ?_
    refine xJ_iload hX dX12_passOne_215 rfl ?_
    refine xJ_iconst hX dX12_passOne_217 ?_
    refine xJ_iadd hX dX12_passOne_218 ?_
    obtain ⟨h218, hp⟩ := hp
    obtain ⟨h219, hp⟩ := hp
    refine xJ_iald hX dX12_passOne_219 (oX12_k8 hL) h219.1 (xnlt (oX12_n8 hL) h219.2) ?_
    refine xJ_icmp_ge hX dX12_passOne_220 (tgt := 224) (by decide) (hM201 _ _) (hM201 _ _) (fun c220 => ?_) (fun c220 => ?_)
    · replace hp := hp.1 c220
      refine xJ_aload_n hX dX12_passOne_224 rfl ?_
      refine xJ_iload_n hX dX12_passOne_225 rfl ?_
      refine xJ_iconst hX dX12_passOne_226 ?_
      refine xJ_callV (As := [_, _]) hX hB dX12_passOne_227 lk_X12_229 im_X12_end se_X12_end rfl (by decide) (oX12_k hL) (c_X12_end hL hM201 hx1 ⟨by decide, by decide⟩ hp) (by decide) rfl rfl rfl (Nat.le_of_ble_eq_true rfl) (by decide) (by decide) (fun v t9 M227 hv => ?_) (fun _ _ _ q => q.elim)
      obtain ⟨rfl, hM227, ht9, hp⟩ := hv
      replace ht9 := ht9.symm
      subst ht9
      dsimp only [Option.toList, List.cons_append, List.nil_append]
      refine xJ_aload_n hX dX12_passOne_230 rfl ?_
      refine xJ_getR (b := (a + 2)) hX dX12_passOne_231 fd_X12_17 rfl (oX12_k hL) (oX12_r8 hL) ?_
      refine xJ_iload hX dX12_passOne_234 rfl ?_
      refine xJ_iconst hX dX12_passOne_236 ?_
      refine xJ_iadd hX dX12_passOne_237 ?_
      obtain ⟨h237, hp⟩ := hp
      refine xJ_dup2 hX dX12_passOne_238 rfl rfl ?_
      obtain ⟨h239, hp⟩ := hp
      refine xJ_iald hX dX12_passOne_239 (oX12_k8 hL) h239.1 (xnlt (oX12_n8 hL) h239.2) ?_
      refine xJ_iload hX dX12_passOne_240 rfl ?_
      refine xJ_iadd hX dX12_passOne_242 ?_
      obtain ⟨h242, hp⟩ := hp
      obtain ⟨h243, hp⟩ := hp
      refine xJ_iastM hX dX12_passOne_243 (oX12_k8 hL) h243.1 (xnlt (oX12_n8 hL) h243.2) hM227 h242 (fun M243 e243 hM243 => ?_)
      replace hp := hp M243 e243
      refine xJ_vret hX hB dX12_passOne_244 (by decide) (by decide) ⟨rfl, hM243, rfl, hp⟩
    · replace hp := hp.2 c220
      refine xJ_vret hX hB dX12_passOne_223 (by decide) (by decide) ⟨rfl, hM201, rfl, hp⟩
  · replace hp := hp.2 c105
    refine xJ_aload_n hX dX12_passOne_108 rfl ?_
    refine xJ_iload hX dX12_passOne_109 rfl ?_
    refine xJ_iload hX dX12_passOne_111 rfl ?_
    refine xJ_callV (As := [_, _]) hX hB dX12_passOne_113 lk_X12_237 im_X12_spend se_X12_spend rfl (by decide) (oX12_k hL) (c_X12_spend hL hM102 (hM1 _ _) h47 hp) (by decide) rfl rfl rfl (Nat.le_of_ble_eq_true rfl) (by decide) (by decide) (fun v t9 M113 hv => ?_) (fun _ _ _ q => q.elim)
    obtain ⟨rfl, hM113, ht9, hp⟩ := hv
    replace ht9 := ht9.symm
    subst ht9
    dsimp only [Option.toList, List.cons_append, List.nil_append]
    refine xJ_aload_n hX dX12_passOne_116 rfl ?_
    refine xJ_getR (b := (a + 2)) hX dX12_passOne_117 fd_X12_17 rfl (oX12_k hL) (oX12_r8 hL) ?_
    refine xJ_iload hX dX12_passOne_120 rfl ?_
    refine xJ_iconst hX dX12_passOne_122 ?_
    refine xJ_iadd hX dX12_passOne_123 ?_
    obtain ⟨h123, hp⟩ := hp
    refine xJ_dup2 hX dX12_passOne_124 rfl rfl ?_
    obtain ⟨h125, hp⟩ := hp
    refine xJ_iald hX dX12_passOne_125 (oX12_k8 hL) h125.1 (xnlt (oX12_n8 hL) h125.2) ?_
    refine xJ_iload hX dX12_passOne_126 rfl ?_
    refine xJ_iadd hX dX12_passOne_128 ?_
    obtain ⟨h128, hp⟩ := hp
    obtain ⟨h129, hp⟩ := hp
    refine xJ_iastM hX dX12_passOne_129 (oX12_k8 hL) h129.1 (xnlt (oX12_n8 hL) h129.2) hM113 h128 (fun M129 e129 hM129 => ?_)
    replace hp := hp M129 e129
    refine xJ_aload_n hX dX12_passOne_130 rfl ?_
    refine xJ_getR (b := (a + 2)) hX dX12_passOne_131 fd_X12_17 rfl (oX12_k hL) (oX12_r8 hL) ?_
    refine xJ_iload hX dX12_passOne_134 rfl ?_
    refine xJ_iconst hX dX12_passOne_136 ?_
    refine xJ_iadd hX dX12_passOne_137 ?_
    obtain ⟨h137, hp⟩ := hp
    refine xJ_dup2 hX dX12_passOne_138 rfl rfl ?_
    obtain ⟨h139, hp⟩ := hp
    refine xJ_iald hX dX12_passOne_139 (oX12_k8 hL) h139.1 (xnlt (oX12_n8 hL) h139.2) ?_
    refine xJ_aload_n hX dX12_passOne_140 rfl ?_
    refine xJ_iload hX dX12_passOne_141 rfl ?_
    refine xJ_iload_n hX dX12_passOne_143 rfl ?_
    refine xJ_iload hX dX12_passOne_144 rfl ?_
    refine xJ_aload_n hX dX12_passOne_146 rfl ?_
    refine xJ_getR (b := (a + 2)) hX dX12_passOne_147 fd_X12_17 rfl (oX12_k hL) (oX12_r8 hL) ?_
    refine xJ_iconst hX dX12_passOne_150 ?_
    obtain ⟨h151, hp⟩ := hp
    refine xJ_iald hX dX12_passOne_151 (oX12_k8 hL) h151.1 (xnlt (oX12_n8 hL) h151.2) ?_
    refine xJ_aload_n hX dX12_passOne_152 rfl ?_
    refine xJ_getR (b := (a + 2)) hX dX12_passOne_153 fd_X12_17 rfl (oX12_k hL) (oX12_r8 hL) ?_
    refine xJ_iload hX dX12_passOne_156 rfl ?_
    refine xJ_bipush hX dX12_passOne_158 rfl ?_
    refine xJ_iadd hX dX12_passOne_160 ?_
    obtain ⟨h160, hp⟩ := hp
    obtain ⟨h161, hp⟩ := hp
    refine xJ_iald hX dX12_passOne_161 (oX12_k8 hL) h161.1 (xnlt (oX12_n8 hL) h161.2) ?_
    refine xJ_isub hX dX12_passOne_162 ?_
    obtain ⟨h162, hp⟩ := hp
    refine xJ_callV (As := [_, _, _, _]) hX hB dX12_passOne_163 lk_X12_240 im_X12_priceOf se_X12_priceOf rfl (by decide) (oX12_k hL) (c_X12_priceOf hL hM129 (hM1 _ _) hx2 h47 h162 hp) (by decide) rfl rfl rfl (Nat.le_of_ble_eq_true rfl) (by decide) (by decide) (fun v t9 M163 hv => ?_) (fun _ _ _ q => q.elim)
    obtain ⟨r163, rfl, h163, hM163, ht9, hp⟩ := hv
    replace ht9 := ht9.symm
    subst ht9
    dsimp only [Option.toList, List.cons_append, List.nil_append]
    refine xJ_iadd hX dX12_passOne_166 ?_
    obtain ⟨h166, hp⟩ := hp
    obtain ⟨h167, hp⟩ := hp
    refine xJ_iastM hX dX12_passOne_167 (oX12_k8 hL) h167.1 (xnlt (oX12_n8 hL) h167.2) hM163 h166 (fun M167 e167 hM167 => ?_)
    replace hp := hp M167 e167
    refine xJ_aload_n hX dX12_passOne_168 rfl ?_
    refine xJ_iload_n hX dX12_passOne_169 rfl ?_
    refine xJ_iload hX dX12_passOne_170 rfl ?_
    refine xJ_iload hX dX12_passOne_172 rfl ?_
    refine xJ_iload hX dX12_passOne_174 rfl ?_
    refine xJ_callV (As := [_, _, _, _]) hX hB dX12_passOne_176 lk_X12_244 im_X12_note se_X12_note rfl (by decide) (oX12_k hL) (c_X12_note hL hM167 hx2 (hM1 _ _) (hM1 _ _) h47 hp) (by decide) rfl rfl rfl (Nat.le_of_ble_eq_true rfl) (by decide) (by decide) (fun v t9 M176 hv => ?_) (fun _ _ _ q => q.elim)
    obtain ⟨rfl, hM176, ht9, hp⟩ := hv
    replace ht9 := ht9.symm
    subst ht9
    dsimp only [Option.toList, List.cons_append, List.nil_append]
    refine xJ_aload_n hX dX12_passOne_179 rfl ?_
    refine xJ_getR (b := (a + 2)) hX dX12_passOne_180 fd_X12_17 rfl (oX12_k hL) (oX12_r8 hL) ?_
    refine xJ_iload hX dX12_passOne_183 rfl ?_
    refine xJ_iconst hX dX12_passOne_185 ?_
    refine xJ_iadd hX dX12_passOne_186 ?_
    obtain ⟨h186, hp⟩ := hp
    refine xJ_dup2 hX dX12_passOne_187 rfl rfl ?_
    obtain ⟨h188, hp⟩ := hp
    refine xJ_iald hX dX12_passOne_188 (oX12_k8 hL) h188.1 (xnlt (oX12_n8 hL) h188.2) ?_
    refine xJ_iconst hX dX12_passOne_189 ?_
    refine xJ_iadd hX dX12_passOne_190 ?_
    obtain ⟨h190, hp⟩ := hp
    obtain ⟨h191, hp⟩ := hp
    refine xJ_iastM hX dX12_passOne_191 (oX12_k8 hL) h191.1 (xnlt (oX12_n8 hL) h191.2) hM176 h190 (fun M191 e191 hM191 => ?_)
    replace hp := hp M191 e191
    refine xJ_aload_n hX dX12_passOne_192 rfl ?_
    refine xJ_getR (b := (a + 2)) hX dX12_passOne_193 fd_X12_17 rfl (oX12_k hL) (oX12_r8 hL) ?_
    refine xJ_iload hX dX12_passOne_196 rfl ?_
    refine xJ_iconst hX dX12_passOne_198 ?_
    refine xJ_iadd hX dX12_passOne_199 ?_
    obtain ⟨h199, hp⟩ := hp
    refine xJ_iconst hX dX12_passOne_200 ?_
    obtain ⟨h201, hp⟩ := hp
    refine xJ_iastM hX dX12_passOne_201 (oX12_k8 hL) h201.1 (xnlt (oX12_n8 hL) h201.2) hM191 ⟨by decide, by decide⟩ (fun M201 e201 hM201 => ?_)
    replace hp := hp M201 e201
    refine xJ_aload_n hX dX12_passOne_202 rfl ?_
    refine xJ_getR (b := (a + 2)) hX dX12_passOne_203 fd_X12_17 rfl (oX12_k hL) (oX12_r8 hL) ?_
    refine xJ_iload hX dX12_passOne_206 rfl ?_
    refine xJ_iconst hX dX12_passOne_208 ?_
    refine xJ_iadd hX dX12_passOne_209 ?_
    obtain ⟨h209, hp⟩ := hp
    obtain ⟨h210, hp⟩ := hp
    refine xJ_iald hX dX12_passOne_210 (oX12_k8 hL) h210.1 (xnlt (oX12_n8 hL) h210.2) ?_
    refine xJ_aload_n hX dX12_passOne_211 rfl ?_
    refine xJ_getR (b := (a + 2)) hX dX12_passOne_212 fd_X12_17 rfl (oX12_k hL) (oX12_r8 hL) ?_
    refine xJ_iload hX dX12_passOne_215 rfl ?_
    refine xJ_iconst hX dX12_passOne_217 ?_
    refine xJ_iadd hX dX12_passOne_218 ?_
    obtain ⟨h218, hp⟩ := hp
    obtain ⟨h219, hp⟩ := hp
    refine xJ_iald hX dX12_passOne_219 (oX12_k8 hL) h219.1 (xnlt (oX12_n8 hL) h219.2) ?_
    refine xJ_icmp_ge hX dX12_passOne_220 (tgt := 224) (by decide) (hM201 _ _) (hM201 _ _) (fun c220 => ?_) (fun c220 => ?_)
    · replace hp := hp.1 c220
      refine xJ_aload_n hX dX12_passOne_224 rfl ?_
      refine xJ_iload_n hX dX12_passOne_225 rfl ?_
      refine xJ_iconst hX dX12_passOne_226 ?_
      refine xJ_callV (As := [_, _]) hX hB dX12_passOne_227 lk_X12_229 im_X12_end se_X12_end rfl (by decide) (oX12_k hL) (c_X12_end hL hM201 hx1 ⟨by decide, by decide⟩ hp) (by decide) rfl rfl rfl (Nat.le_of_ble_eq_true rfl) (by decide) (by decide) (fun v t9 M227 hv => ?_) (fun _ _ _ q => q.elim)
      obtain ⟨rfl, hM227, ht9, hp⟩ := hv
      replace ht9 := ht9.symm
      subst ht9
      dsimp only [Option.toList, List.cons_append, List.nil_append]
      refine xJ_aload_n hX dX12_passOne_230 rfl ?_
      refine xJ_getR (b := (a + 2)) hX dX12_passOne_231 fd_X12_17 rfl (oX12_k hL) (oX12_r8 hL) ?_
      refine xJ_iload hX dX12_passOne_234 rfl ?_
      refine xJ_iconst hX dX12_passOne_236 ?_
      refine xJ_iadd hX dX12_passOne_237 ?_
      obtain ⟨h237, hp⟩ := hp
      refine xJ_dup2 hX dX12_passOne_238 rfl rfl ?_
      obtain ⟨h239, hp⟩ := hp
      refine xJ_iald hX dX12_passOne_239 (oX12_k8 hL) h239.1 (xnlt (oX12_n8 hL) h239.2) ?_
      refine xJ_iload hX dX12_passOne_240 rfl ?_
      refine xJ_iadd hX dX12_passOne_242 ?_
      obtain ⟨h242, hp⟩ := hp
      obtain ⟨h243, hp⟩ := hp
      refine xJ_iastM hX dX12_passOne_243 (oX12_k8 hL) h243.1 (xnlt (oX12_n8 hL) h243.2) hM227 h242 (fun M243 e243 hM243 => ?_)
      replace hp := hp M243 e243
      refine xJ_vret hX hB dX12_passOne_244 (by decide) (by decide) ⟨rfl, hM243, rfl, hp⟩
    · replace hp := hp.2 c220
      refine xJ_vret hX hB dX12_passOne_223 (by decide) (by decide) ⟨rfl, hM201, rfl, hp⟩
def p_X12_tick_14 (F : Nat) (a : Nat) (Q : xMe → Prop) (K70 : Int → xMe → Prop) : Nat → Int → Int → xMe → Prop
  | 0, _, _, _ => False
  | k + 1, x1, x2, M =>
    ((0 : Int) ≤ 2 ∧ (2 : Int) < 2105) ∧ (((M (a + 2) 2) ≤ x2 → K70 x1 M) ∧ (x2 < (M (a + 2) 2) → p_X12_pairAt x1 x2 M (fun r30 M30 => (xR (r30 + 0)) ∧ p_X12_ofGate a x1 1 M30 (fun r38 M38 => p_X12_pairAt x1 x2 M38 (fun r47 M47 => (xR (r47 + 0)) ∧ ((0 : Int) ≤ (r47 + 0) ∧ ((r47 + 0) : Int) < 2105) ∧ p_X12_ofGate a x1 0 M47 (fun r56 M56 => (xR ((M47 (a + 2) (r47 + 0).toNat) + r56)) ∧ p_X12_min r38 ((M47 (a + 2) (r47 + 0).toNat) + r56) M56 (fun r60 M60 => ((0 : Int) ≤ (r30 + 0) ∧ ((r30 + 0) : Int) < 2105) ∧ (∀ M63 : xMe, M63 = xw M60 (a + 2) (r30 + 0).toNat r60 → (xR (x2 + 1)) ∧ p_X12_tick_14 F a Q K70 k x1 (x2 + 1) M63))))))))
def p_X12_tick_2 (F : Nat) (a : Nat) (Q : xMe → Prop) (K76 : xMe → Prop) : Nat → Int → xMe → Prop
  | 0, _, _ => False
  | k + 1, x1, M =>
    ((0 : Int) ≤ 1 ∧ (1 : Int) < 2105) ∧ (((M (a + 2) 1) ≤ x1 → K76 M) ∧ (x1 < (M (a + 2) 1) → p_X12_tick_14 F a Q (fun y1 M => (xR (y1 + 1)) ∧ p_X12_tick_2 F a Q K76 k (y1 + 1) M) F x1 0 M))
def p_X12_tick_85 (F : Nat) (a : Nat) (Q : xMe → Prop) (K134 : xMe → Prop) : Nat → Int → xMe → Prop
  | 0, _, _ => False
  | k + 1, x1, M =>
    ((x1 < 0 → K134 M) ∧ (0 ≤ x1 → p_X12_couponAt x1 M (fun r94 M94 => (xR (r94 + 2)) ∧ ((0 : Int) ≤ (r94 + 2) ∧ ((r94 + 2) : Int) < 2105) ∧ ((0 : Int) ≤ 0 ∧ (0 : Int) < 2105) ∧ (((M94 (a + 2) (r94 + 2).toNat) = (M94 (a + 2) 0) → p_X12_dropCoupon F a x1 M94 (fun M114 => ((0 : Int) ≤ 7 ∧ (7 : Int) < 2105) ∧ (xR ((M114 (a + 2) 7) + 1)) ∧ ((0 : Int) ≤ 7 ∧ (7 : Int) < 2105) ∧ (∀ M127 : xMe, M127 = xw M114 (a + 2) 7 ((M114 (a + 2) 7) + 1) → (xR (x1 + (-1))) ∧ p_X12_tick_85 F a Q K134 k (x1 + (-1)) M127))) ∧ ((M94 (a + 2) (r94 + 2).toNat) ≠ (M94 (a + 2) 0) → (xR (x1 + (-1))) ∧ p_X12_tick_85 F a Q K134 k (x1 + (-1)) M94)))))
def p_X12_tick_136 (F : Nat) (a : Nat) (Q : xMe → Prop) (K198 : xMe → Prop) : Nat → Int → xMe → Prop
  | 0, _, _ => False
  | k + 1, x1, M =>
    ((0 : Int) ≤ 3 ∧ (3 : Int) < 2105) ∧ (((M (a + 2) 3) ≤ x1 → K198 M) ∧ (x1 < (M (a + 2) 3) → p_X12_packetAt x1 M (fun r151 M151 => (xR (r151 + 3)) ∧ ((0 : Int) ≤ (r151 + 3) ∧ ((r151 + 3) : Int) < 2105) ∧ (∀ z157 : Int, z157 = M151 (a + 2) (r151 + 3).toNat → ((z157 = 2 → p_X12_arrive a x1 M151 (fun M189 => (xR (x1 + 1)) ∧ p_X12_tick_136 F a Q K198 k (x1 + 1) M189)) ∧ (z157 ≠ 2 → ((z157 ≠ 0 → (xR (x1 + 1)) ∧ p_X12_tick_136 F a Q K198 k (x1 + 1) M151) ∧ (z157 = 0 → p_X12_packetAt x1 M151 (fun r172 M172 => (xR (r172 + 1)) ∧ ((0 : Int) ≤ (r172 + 1) ∧ ((r172 + 1) : Int) < 2105) ∧ ((0 : Int) ≤ 0 ∧ (0 : Int) < 2105) ∧ (((M172 (a + 2) (r172 + 1).toNat) ≠ (M172 (a + 2) 0) → (xR (x1 + 1)) ∧ p_X12_tick_136 F a Q K198 k (x1 + 1) M172) ∧ ((M172 (a + 2) (r172 + 1).toNat) = (M172 (a + 2) 0) → p_X12_arrive a x1 M172 (fun M189 => (xR (x1 + 1)) ∧ p_X12_tick_136 F a Q K198 k (x1 + 1) M189))))))))))))
def p_X12_tick_228 (F : Nat) (a : Nat) (Q : xMe → Prop) (K272 : Int → Int → xMe → Prop) : Nat → Int → Int → Int → xMe → Prop
  | 0, _, _, _, _ => False
  | k + 1, x1, x2, x3, M =>
    (xR (x3 + 1)) ∧ ((0 : Int) ≤ (x3 + 1) ∧ ((x3 + 1) : Int) < 2105) ∧ (((M (a + 2) (x3 + 1).toNat) ≤ 0 → K272 x1 x2 M) ∧ (0 < (M (a + 2) (x3 + 1).toNat) → (xR (x3 + 2)) ∧ ((0 : Int) ≤ (x3 + 2) ∧ ((x3 + 2) : Int) < 2105) ∧ p_X12_canPass F a (M (a + 2) (x3 + 2).toNat) x3 M (fun r249 M249 => ((r249 = 0 → K272 x1 x2 M249) ∧ (r249 ≠ 0 → (xR (x3 + 2)) ∧ ((0 : Int) ≤ (x3 + 2) ∧ ((x3 + 2) : Int) < 2105) ∧ p_X12_passOne F a (M249 (a + 2) (x3 + 2).toNat) x1 x3 M249 (fun M266 => p_X12_tick_228 F a Q K272 k x1 x2 x3 M266))))))
def p_X12_tick_212 (F : Nat) (a : Nat) (Q : xMe → Prop) (K278 : Int → xMe → Prop) : Nat → Int → Int → xMe → Prop
  | 0, _, _, _ => False
  | k + 1, x1, x2, M =>
    ((0 : Int) ≤ 2 ∧ (2 : Int) < 2105) ∧ (((M (a + 2) 2) ≤ x2 → K278 x1 M) ∧ (x2 < (M (a + 2) 2) → p_X12_pairAt x1 x2 M (fun r224 M224 => p_X12_tick_228 F a Q (fun y1 y2 M => (xR (y2 + 1)) ∧ p_X12_tick_212 F a Q K278 k y1 (y2 + 1) M) F x1 x2 r224 M224)))
def p_X12_tick_200 (F : Nat) (a : Nat) (Q : xMe → Prop) : Nat → Int → xMe → Prop
  | 0, _, _ => False
  | k + 1, x1, M =>
    ((0 : Int) ≤ 1 ∧ (1 : Int) < 2105) ∧ (((M (a + 2) 1) ≤ x1 → ((0 : Int) ≤ 0 ∧ (0 : Int) < 2105) ∧ (xR ((M (a + 2) 0) + 1)) ∧ ((0 : Int) ≤ 0 ∧ (0 : Int) < 2105) ∧ (∀ M293 : xMe, M293 = xw M (a + 2) 0 ((M (a + 2) 0) + 1) → Q M293)) ∧ (x1 < (M (a + 2) 1) → p_X12_tick_212 F a Q (fun y1 M => (xR (y1 + 1)) ∧ p_X12_tick_200 F a Q k (y1 + 1) M) F x1 0 M))
def p_X12_tick (F : Nat) (a : Nat) (M : xMe) (Q : xMe → Prop) : Prop :=
  p_X12_tick_2 F a Q (fun M => ((0 : Int) ≤ 4 ∧ (4 : Int) < 2105) ∧ (xR ((M (a + 2) 4) - 1)) ∧ (∀ z84 : Int, z84 = (M (a + 2) 4) - 1 → p_X12_tick_85 F a Q (fun M => p_X12_tick_136 F a Q (fun M => p_X12_tick_200 F a Q F 0 M) F 0 M) F z84 M)) F 0 M
set_option maxHeartbeats 4000000 in
set_option maxRecDepth 100000 in
theorem c_X12_tick {G : xGx} {t : xTh} {M : xMe} {F : Nat} {a : Nat} {Q : xMe → Prop} (hL : oX12 t a) (hM : xMR M)(hp : p_X12_tick F a M Q) : xCt G yX12_tick cX12_tick 4 none 4 0 0 [vr a] t M (fun v t' M' => v = none ∧ xMR M' ∧ t' = t ∧ Q M') (fun _ _ _ => False) := by
  refine xCt_of (L0 := [vr a, vU, vU, vU]) (by decide +kernel) (Nat.le_of_ble_eq_true rfl) rfl ?_
  intro X hX hB
  unfold p_X12_tick at hp
  refine xJ_iconst hX dX12_tick_0 ?_
  refine xJ_istore_n hX dX12_tick_1 (Nat.le_of_ble_eq_true rfl) rfl ?_
  dsimp only [List.set]
  have lp2 : ∀ (K76 : xMe → Prop) (hK76 : ∀ (M : xMe) (hM : xMR M) (hp : K76 M), xJ X 0 0 t M 76 [vr a, vU, vU, vU] []) (k : Nat) (x1 : Int) (M : xMe) (hM : xMR M) (hx1 : xR x1) (hp : p_X12_tick_2 F a Q K76 k x1 M), xJ X 0 0 t M 2 [vr a, vi x1, vU, vU] [] := by
    intro K76 hK76 k
    induction k with
    | zero => intro x1 M hM hx1 hp; exact hp.elim
    | succ k ih =>
      intro x1 M hM hx1 hp
      unfold p_X12_tick_2 at hp
      refine xJ_iload_n hX dX12_tick_2 rfl ?_
      refine xJ_aload_n hX dX12_tick_3 rfl ?_
      refine xJ_getR (b := (a + 2)) hX dX12_tick_4 fd_X12_17 rfl (oX12_k hL) (oX12_r8 hL) ?_
      refine xJ_iconst hX dX12_tick_7 ?_
      obtain ⟨h8, hp⟩ := hp
      refine xJ_iald hX dX12_tick_8 (oX12_k8 hL) h8.1 (xnlt (oX12_n8 hL) h8.2) ?_
      refine xJ_icmp_ge hX dX12_tick_9 (tgt := 76) (by decide) hx1 (hM _ _) (fun c9 => ?_) (fun c9 => ?_)
      · replace hp := hp.1 c9
        refine xJ_fg 1 ?_
        dsimp only [List.set]
        exact hK76 _ hM hp
      · replace hp := hp.2 c9
        refine xJ_iconst hX dX12_tick_12 ?_
        refine xJ_istore_n hX dX12_tick_13 (Nat.le_of_ble_eq_true rfl) rfl ?_
        dsimp only [List.set]
        have lp14 : ∀ (K70 : Int → xMe → Prop) (hK70 : ∀ (y1 : Int) (M : xMe) (hM : xMR M) (hy1 : xR y1) (hp : K70 y1 M), xJ X 0 0 t M 70 [vr a, vi y1, vU, vU] []) (k : Nat) (x1 : Int) (x2 : Int) (M : xMe) (hM : xMR M) (hx1 : xR x1) (hx2 : xR x2) (hp : p_X12_tick_14 F a Q K70 k x1 x2 M), xJ X 0 0 t M 14 [vr a, vi x1, vi x2, vU] [] := by
          intro K70 hK70 k
          induction k with
          | zero => intro x1 x2 M hM hx1 hx2 hp; exact hp.elim
          | succ k ih =>
            intro x1 x2 M hM hx1 hx2 hp
            unfold p_X12_tick_14 at hp
            refine xJ_iload_n hX dX12_tick_14 rfl ?_
            refine xJ_aload_n hX dX12_tick_15 rfl ?_
            refine xJ_getR (b := (a + 2)) hX dX12_tick_16 fd_X12_17 rfl (oX12_k hL) (oX12_r8 hL) ?_
            refine xJ_iconst hX dX12_tick_19 ?_
            obtain ⟨h20, hp⟩ := hp
            refine xJ_iald hX dX12_tick_20 (oX12_k8 hL) h20.1 (xnlt (oX12_n8 hL) h20.2) ?_
            refine xJ_icmp_ge hX dX12_tick_21 (tgt := 70) (by decide) hx2 (hM _ _) (fun c21 => ?_) (fun c21 => ?_)
            · replace hp := hp.1 c21
              refine xJ_fg 2 ?_
              dsimp only [List.set]
              exact hK70 _ _ hM hx1 hp
            · replace hp := hp.2 c21
              refine xJ_aload_n hX dX12_tick_24 rfl ?_
              refine xJ_getR (b := (a + 2)) hX dX12_tick_25 fd_X12_17 rfl (oX12_k hL) (oX12_r8 hL) ?_
              refine xJ_iload_n hX dX12_tick_28 rfl ?_
              refine xJ_iload_n hX dX12_tick_29 rfl ?_
              refine xJ_callS (As := [_, _]) hX hB dX12_tick_30 lk_X12_187 sm_X12_pairAt (c_X12_pairAt  hM hx1 hx2 hp) (by decide) rfl rfl rfl (Nat.le_of_ble_eq_true rfl) (by decide) (by decide) (fun v t9 M30 hv => ?_) (fun _ _ _ q => q.elim)
              obtain ⟨r30, rfl, h30, hM30, ht9, hp⟩ := hv
              replace ht9 := ht9.symm
              subst ht9
              dsimp only [Option.toList, List.cons_append, List.nil_append]
              refine xJ_iconst hX dX12_tick_33 ?_
              refine xJ_iadd hX dX12_tick_34 ?_
              obtain ⟨h34, hp⟩ := hp
              refine xJ_aload_n hX dX12_tick_35 rfl ?_
              refine xJ_iload_n hX dX12_tick_36 rfl ?_
              refine xJ_iconst hX dX12_tick_37 ?_
              refine xJ_callV (As := [_, _]) hX hB dX12_tick_38 lk_X12_226 im_X12_ofGate se_X12_ofGate rfl (by decide) (oX12_k hL) (c_X12_ofGate hL hM30 hx1 ⟨by decide, by decide⟩ hp) (by decide) rfl rfl rfl (Nat.le_of_ble_eq_true rfl) (by decide) (by decide) (fun v t9 M38 hv => ?_) (fun _ _ _ q => q.elim)
              obtain ⟨r38, rfl, h38, hM38, ht9, hp⟩ := hv
              replace ht9 := ht9.symm
              subst ht9
              dsimp only [Option.toList, List.cons_append, List.nil_append]
              refine xJ_aload_n hX dX12_tick_41 rfl ?_
              refine xJ_getR (b := (a + 2)) hX dX12_tick_42 fd_X12_17 rfl (oX12_k hL) (oX12_r8 hL) ?_
              refine xJ_iload_n hX dX12_tick_45 rfl ?_
              refine xJ_iload_n hX dX12_tick_46 rfl ?_
              refine xJ_callS (As := [_, _]) hX hB dX12_tick_47 lk_X12_187 sm_X12_pairAt (c_X12_pairAt  hM38 hx1 hx2 hp) (by decide) rfl rfl rfl (Nat.le_of_ble_eq_true rfl) (by decide) (by decide) (fun v t9 M47 hv => ?_) (fun _ _ _ q => q.elim)
              obtain ⟨r47, rfl, h47, hM47, ht9, hp⟩ := hv
              replace ht9 := ht9.symm
              subst ht9
              dsimp only [Option.toList, List.cons_append, List.nil_append]
              refine xJ_iconst hX dX12_tick_50 ?_
              refine xJ_iadd hX dX12_tick_51 ?_
              obtain ⟨h51, hp⟩ := hp
              obtain ⟨h52, hp⟩ := hp
              refine xJ_iald hX dX12_tick_52 (oX12_k8 hL) h52.1 (xnlt (oX12_n8 hL) h52.2) ?_
              refine xJ_aload_n hX dX12_tick_53 rfl ?_
              refine xJ_iload_n hX dX12_tick_54 rfl ?_
              refine xJ_iconst hX dX12_tick_55 ?_
              refine xJ_callV (As := [_, _]) hX hB dX12_tick_56 lk_X12_226 im_X12_ofGate se_X12_ofGate rfl (by decide) (oX12_k hL) (c_X12_ofGate hL hM47 hx1 ⟨by decide, by decide⟩ hp) (by decide) rfl rfl rfl (Nat.le_of_ble_eq_true rfl) (by decide) (by decide) (fun v t9 M56 hv => ?_) (fun _ _ _ q => q.elim)
              obtain ⟨r56, rfl, h56, hM56, ht9, hp⟩ := hv
              replace ht9 := ht9.symm
              subst ht9
              dsimp only [Option.toList, List.cons_append, List.nil_append]
              refine xJ_iadd hX dX12_tick_59 ?_
              obtain ⟨h59, hp⟩ := hp
              refine xJ_callS (As := [_, _]) hX hB dX12_tick_60 lk_X12_97 sm_X12_min (c_X12_min  hM56 h38 h59 hp) (by decide) rfl rfl rfl (Nat.le_of_ble_eq_true rfl) (by decide) (by decide) (fun v t9 M60 hv => ?_) (fun _ _ _ q => q.elim)
              obtain ⟨r60, rfl, h60, hM60, ht9, hp⟩ := hv
              replace ht9 := ht9.symm
              subst ht9
              dsimp only [Option.toList, List.cons_append, List.nil_append]
              obtain ⟨h63, hp⟩ := hp
              refine xJ_iastM hX dX12_tick_63 (oX12_k8 hL) h63.1 (xnlt (oX12_n8 hL) h63.2) hM60 h60 (fun M63 e63 hM63 => ?_)
              replace hp := hp M63 e63
              refine xJ_iinc hX dX12_tick_64 rfl rfl ?_
              dsimp only [List.set]
              obtain ⟨h64, hp⟩ := hp
              refine xJ_goto hX dX12_tick_67 (tgt := 14) (by decide) ?_
              exact ih _ _ _ hM63 hx1 h64 hp
        refine lp14 _ (fun y1 M hM hy1 hp => ?_) F _ _ _ hM hx1 ⟨by decide, by decide⟩ hp
        · refine xJ_iinc hX dX12_tick_70 rfl rfl ?_
          dsimp only [List.set]
          obtain ⟨h70, hp⟩ := hp
          refine xJ_goto hX dX12_tick_73 (tgt := 2) (by decide) ?_
          exact ih _ _ hM h70 hp
  refine lp2 _ (fun M hM hp => ?_) F _ _ hM ⟨by decide, by decide⟩ hp
  · refine xJ_aload_n hX dX12_tick_76 rfl ?_
    refine xJ_getR (b := (a + 2)) hX dX12_tick_77 fd_X12_17 rfl (oX12_k hL) (oX12_r8 hL) ?_
    refine xJ_iconst hX dX12_tick_80 ?_
    obtain ⟨h81, hp⟩ := hp
    refine xJ_iald hX dX12_tick_81 (oX12_k8 hL) h81.1 (xnlt (oX12_n8 hL) h81.2) ?_
    refine xJ_iconst hX dX12_tick_82 ?_
    refine xJ_isub hX dX12_tick_83 ?_
    obtain ⟨h83, hp⟩ := hp
    refine xJ_istore_n hX dX12_tick_84 (Nat.le_of_ble_eq_true rfl) rfl ?_
    dsimp only [List.set]
    replace hp := hp _ rfl
    have lp85 : ∀ (K134 : xMe → Prop) (hK134 : ∀ (M : xMe) (hM : xMR M) (hp : K134 M), xJ X 0 0 t M 134 [vr a, vU, vU, vU] []) (k : Nat) (x1 : Int) (M : xMe) (hM : xMR M) (hx1 : xR x1) (hp : p_X12_tick_85 F a Q K134 k x1 M), xJ X 0 0 t M 85 [vr a, vi x1, vU, vU] [] := by
      intro K134 hK134 k
      induction k with
      | zero => intro x1 M hM hx1 hp; exact hp.elim
      | succ k ih =>
        intro x1 M hM hx1 hp
        unfold p_X12_tick_85 at hp
        refine xJ_iload_n hX dX12_tick_85 rfl ?_
        refine xJ_if_lt hX dX12_tick_86 (tgt := 134) (by decide) hx1 (fun c86 => ?_) (fun c86 => ?_)
        · replace hp := hp.1 c86
          refine xJ_fg 1 ?_
          dsimp only [List.set]
          exact hK134 _ hM hp
        · replace hp := hp.2 c86
          refine xJ_aload_n hX dX12_tick_89 rfl ?_
          refine xJ_getR (b := (a + 2)) hX dX12_tick_90 fd_X12_17 rfl (oX12_k hL) (oX12_r8 hL) ?_
          refine xJ_iload_n hX dX12_tick_93 rfl ?_
          refine xJ_callS (As := [_]) hX hB dX12_tick_94 lk_X12_203 sm_X12_couponAt (c_X12_couponAt  hM hx1 hp) (by decide) rfl rfl rfl (Nat.le_of_ble_eq_true rfl) (by decide) (by decide) (fun v t9 M94 hv => ?_) (fun _ _ _ q => q.elim)
          obtain ⟨r94, rfl, h94, hM94, ht9, hp⟩ := hv
          replace ht9 := ht9.symm
          subst ht9
          dsimp only [Option.toList, List.cons_append, List.nil_append]
          refine xJ_iconst hX dX12_tick_97 ?_
          refine xJ_iadd hX dX12_tick_98 ?_
          obtain ⟨h98, hp⟩ := hp
          obtain ⟨h99, hp⟩ := hp
          refine xJ_iald hX dX12_tick_99 (oX12_k8 hL) h99.1 (xnlt (oX12_n8 hL) h99.2) ?_
          refine xJ_aload_n hX dX12_tick_100 rfl ?_
          refine xJ_getR (b := (a + 2)) hX dX12_tick_101 fd_X12_17 rfl (oX12_k hL) (oX12_r8 hL) ?_
          refine xJ_iconst hX dX12_tick_104 ?_
          obtain ⟨h105, hp⟩ := hp
          refine xJ_iald hX dX12_tick_105 (oX12_k8 hL) h105.1 (xnlt (oX12_n8 hL) h105.2) ?_
          refine xJ_icmp_eq hX dX12_tick_106 (tgt := 112) (by decide) (hM94 _ _) (hM94 _ _) (fun c106 => ?_) (fun c106 => ?_)
          · replace hp := hp.1 c106
            refine xJ_aload_n hX dX12_tick_112 rfl ?_
            refine xJ_iload_n hX dX12_tick_113 rfl ?_
            refine xJ_callV (As := [_]) hX hB dX12_tick_114 lk_X12_206 im_X12_dropCoupon se_X12_dropCoupon rfl (by decide) (oX12_k hL) (c_X12_dropCoupon hL hM94 hx1 hp) (by decide) rfl rfl rfl (Nat.le_of_ble_eq_true rfl) (by decide) (by decide) (fun v t9 M114 hv => ?_) (fun _ _ _ q => q.elim)
            obtain ⟨rfl, hM114, ht9, hp⟩ := hv
            replace ht9 := ht9.symm
            subst ht9
            dsimp only [Option.toList, List.cons_append, List.nil_append]
            refine xJ_aload_n hX dX12_tick_117 rfl ?_
            refine xJ_getR (b := (a + 2)) hX dX12_tick_118 fd_X12_17 rfl (oX12_k hL) (oX12_r8 hL) ?_
            refine xJ_bipush hX dX12_tick_121 rfl ?_
            refine xJ_dup2 hX dX12_tick_123 rfl rfl ?_
            obtain ⟨h124, hp⟩ := hp
            refine xJ_iald hX dX12_tick_124 (oX12_k8 hL) h124.1 (xnlt (oX12_n8 hL) h124.2) ?_
            refine xJ_iconst hX dX12_tick_125 ?_
            refine xJ_iadd hX dX12_tick_126 ?_
            obtain ⟨h126, hp⟩ := hp
            obtain ⟨h127, hp⟩ := hp
            refine xJ_iastM hX dX12_tick_127 (oX12_k8 hL) h127.1 (xnlt (oX12_n8 hL) h127.2) hM114 h126 (fun M127 e127 hM127 => ?_)
            replace hp := hp M127 e127
            refine xJ_iinc hX dX12_tick_128 rfl rfl ?_
            dsimp only [List.set]
            obtain ⟨h128, hp⟩ := hp
            refine xJ_goto hX dX12_tick_131 (tgt := 85) (by decide) ?_
            exact ih _ _ hM127 h128 hp
          · replace hp := hp.2 c106
            refine xJ_goto hX dX12_tick_109 (tgt := 128) (by decide) ?_
            refine xJ_iinc hX dX12_tick_128 rfl rfl ?_
            dsimp only [List.set]
            obtain ⟨h128, hp⟩ := hp
            refine xJ_goto hX dX12_tick_131 (tgt := 85) (by decide) ?_
            exact ih _ _ hM94 h128 hp
    refine lp85 _ (fun M hM hp => ?_) F _ _ hM h83 hp
    · refine xJ_iconst hX dX12_tick_134 ?_
      refine xJ_istore_n hX dX12_tick_135 (Nat.le_of_ble_eq_true rfl) rfl ?_
      dsimp only [List.set]
      have lp136 : ∀ (K198 : xMe → Prop) (hK198 : ∀ (M : xMe) (hM : xMR M) (hp : K198 M), xJ X 0 0 t M 198 [vr a, vU, vU, vU] []) (k : Nat) (x1 : Int) (M : xMe) (hM : xMR M) (hx1 : xR x1) (hp : p_X12_tick_136 F a Q K198 k x1 M), xJ X 0 0 t M 136 [vr a, vi x1, vU, vU] [] := by
        intro K198 hK198 k
        induction k with
        | zero => intro x1 M hM hx1 hp; exact hp.elim
        | succ k ih =>
          intro x1 M hM hx1 hp
          unfold p_X12_tick_136 at hp
          refine xJ_iload_n hX dX12_tick_136 rfl ?_
          refine xJ_aload_n hX dX12_tick_137 rfl ?_
          refine xJ_getR (b := (a + 2)) hX dX12_tick_138 fd_X12_17 rfl (oX12_k hL) (oX12_r8 hL) ?_
          refine xJ_iconst hX dX12_tick_141 ?_
          obtain ⟨h142, hp⟩ := hp
          refine xJ_iald hX dX12_tick_142 (oX12_k8 hL) h142.1 (xnlt (oX12_n8 hL) h142.2) ?_
          refine xJ_icmp_ge hX dX12_tick_143 (tgt := 198) (by decide) hx1 (hM _ _) (fun c143 => ?_) (fun c143 => ?_)
          · replace hp := hp.1 c143
            refine xJ_fg 1 ?_
            dsimp only [List.set]
            exact hK198 _ hM hp
          · replace hp := hp.2 c143
            refine xJ_aload_n hX dX12_tick_146 rfl ?_
            refine xJ_getR (b := (a + 2)) hX dX12_tick_147 fd_X12_17 rfl (oX12_k hL) (oX12_r8 hL) ?_
            refine xJ_iload_n hX dX12_tick_150 rfl ?_
            refine xJ_callS (As := [_]) hX hB dX12_tick_151 lk_X12_197 sm_X12_packetAt (c_X12_packetAt  hM hx1 hp) (by decide) rfl rfl rfl (Nat.le_of_ble_eq_true rfl) (by decide) (by decide) (fun v t9 M151 hv => ?_) (fun _ _ _ q => q.elim)
            obtain ⟨r151, rfl, h151, hM151, ht9, hp⟩ := hv
            replace ht9 := ht9.symm
            subst ht9
            dsimp only [Option.toList, List.cons_append, List.nil_append]
            refine xJ_iconst hX dX12_tick_154 ?_
            refine xJ_iadd hX dX12_tick_155 ?_
            obtain ⟨h155, hp⟩ := hp
            obtain ⟨h156, hp⟩ := hp
            refine xJ_iald hX dX12_tick_156 (oX12_k8 hL) h156.1 (xnlt (oX12_n8 hL) h156.2) ?_
            refine xJ_istore_n hX dX12_tick_157 (Nat.le_of_ble_eq_true rfl) rfl ?_
            dsimp only [List.set]
            replace hp := hp _ rfl
            refine xJ_iload_n hX dX12_tick_158 rfl ?_
            refine xJ_iconst hX dX12_tick_159 ?_
            refine xJ_icmp_eq hX dX12_tick_160 (tgt := 187) (by decide) (hM151 _ _) ⟨by decide, by decide⟩ (fun c160 => ?_) (fun c160 => ?_)
            · replace hp := hp.1 c160
              refine xJ_aload_n hX dX12_tick_187 rfl ?_
              refine xJ_iload_n hX dX12_tick_188 rfl ?_
              refine xJ_callV (As := [_]) hX hB dX12_tick_189 lk_X12_248 im_X12_arrive se_X12_arrive rfl (by decide) (oX12_k hL) (c_X12_arrive hL hM151 hx1 hp) (by decide) rfl rfl rfl (Nat.le_of_ble_eq_true rfl) (by decide) (by decide) (fun v t9 M189 hv => ?_) (fun _ _ _ q => q.elim)
              obtain ⟨rfl, hM189, ht9, hp⟩ := hv
              replace ht9 := ht9.symm
              subst ht9
              dsimp only [Option.toList, List.cons_append, List.nil_append]
              refine xJ_iinc hX dX12_tick_192 rfl rfl ?_
              dsimp only [List.set]
              obtain ⟨h192, hp⟩ := hp
              refine xJ_goto hX dX12_tick_195 (tgt := 136) (by decide) ?_
              refine xJ_fg 2 ?_
              dsimp only [List.set]
              exact ih _ _ hM189 h192 hp
            · replace hp := hp.2 c160
              refine xJ_iload_n hX dX12_tick_163 rfl ?_
              refine xJ_if_ne hX dX12_tick_164 (tgt := 192) (by decide) (hM151 _ _) (fun c164 => ?_) (fun c164 => ?_)
              · replace hp := hp.1 c164
                refine xJ_iinc hX dX12_tick_192 rfl rfl ?_
                dsimp only [List.set]
                obtain ⟨h192, hp⟩ := hp
                refine xJ_goto hX dX12_tick_195 (tgt := 136) (by decide) ?_
                refine xJ_fg 2 ?_
                dsimp only [List.set]
                exact ih _ _ hM151 h192 hp
              · replace hp := hp.2 c164
                refine xJ_aload_n hX dX12_tick_167 rfl ?_
                refine xJ_getR (b := (a + 2)) hX dX12_tick_168 fd_X12_17 rfl (oX12_k hL) (oX12_r8 hL) ?_
                refine xJ_iload_n hX dX12_tick_171 rfl ?_
                refine xJ_callS (As := [_]) hX hB dX12_tick_172 lk_X12_197 sm_X12_packetAt (c_X12_packetAt  hM151 hx1 hp) (by decide) rfl rfl rfl (Nat.le_of_ble_eq_true rfl) (by decide) (by decide) (fun v t9 M172 hv => ?_) (fun _ _ _ q => q.elim)
                obtain ⟨r172, rfl, h172, hM172, ht9, hp⟩ := hv
                replace ht9 := ht9.symm
                subst ht9
                dsimp only [Option.toList, List.cons_append, List.nil_append]
                refine xJ_iconst hX dX12_tick_175 ?_
                refine xJ_iadd hX dX12_tick_176 ?_
                obtain ⟨h176, hp⟩ := hp
                obtain ⟨h177, hp⟩ := hp
                refine xJ_iald hX dX12_tick_177 (oX12_k8 hL) h177.1 (xnlt (oX12_n8 hL) h177.2) ?_
                refine xJ_aload_n hX dX12_tick_178 rfl ?_
                refine xJ_getR (b := (a + 2)) hX dX12_tick_179 fd_X12_17 rfl (oX12_k hL) (oX12_r8 hL) ?_
                refine xJ_iconst hX dX12_tick_182 ?_
                obtain ⟨h183, hp⟩ := hp
                refine xJ_iald hX dX12_tick_183 (oX12_k8 hL) h183.1 (xnlt (oX12_n8 hL) h183.2) ?_
                refine xJ_icmp_ne hX dX12_tick_184 (tgt := 192) (by decide) (hM172 _ _) (hM172 _ _) (fun c184 => ?_) (fun c184 => ?_)
                · replace hp := hp.1 c184
                  refine xJ_iinc hX dX12_tick_192 rfl rfl ?_
                  dsimp only [List.set]
                  obtain ⟨h192, hp⟩ := hp
                  refine xJ_goto hX dX12_tick_195 (tgt := 136) (by decide) ?_
                  refine xJ_fg 2 ?_
                  dsimp only [List.set]
                  exact ih _ _ hM172 h192 hp
                · replace hp := hp.2 c184
                  refine xJ_aload_n hX dX12_tick_187 rfl ?_
                  refine xJ_iload_n hX dX12_tick_188 rfl ?_
                  refine xJ_callV (As := [_]) hX hB dX12_tick_189 lk_X12_248 im_X12_arrive se_X12_arrive rfl (by decide) (oX12_k hL) (c_X12_arrive hL hM172 hx1 hp) (by decide) rfl rfl rfl (Nat.le_of_ble_eq_true rfl) (by decide) (by decide) (fun v t9 M189 hv => ?_) (fun _ _ _ q => q.elim)
                  obtain ⟨rfl, hM189, ht9, hp⟩ := hv
                  replace ht9 := ht9.symm
                  subst ht9
                  dsimp only [Option.toList, List.cons_append, List.nil_append]
                  refine xJ_iinc hX dX12_tick_192 rfl rfl ?_
                  dsimp only [List.set]
                  obtain ⟨h192, hp⟩ := hp
                  refine xJ_goto hX dX12_tick_195 (tgt := 136) (by decide) ?_
                  refine xJ_fg 2 ?_
                  dsimp only [List.set]
                  exact ih _ _ hM189 h192 hp
      refine lp136 _ (fun M hM hp => ?_) F _ _ hM ⟨by decide, by decide⟩ hp
      · refine xJ_iconst hX dX12_tick_198 ?_
        refine xJ_istore_n hX dX12_tick_199 (Nat.le_of_ble_eq_true rfl) rfl ?_
        dsimp only [List.set]
        have lp200 : ∀ (k : Nat) (x1 : Int) (M : xMe) (hM : xMR M) (hx1 : xR x1) (hp : p_X12_tick_200 F a Q k x1 M), xJ X 0 0 t M 200 [vr a, vi x1, vU, vU] [] := by
          intro k
          induction k with
          | zero => intro x1 M hM hx1 hp; exact hp.elim
          | succ k ih =>
            intro x1 M hM hx1 hp
            unfold p_X12_tick_200 at hp
            refine xJ_iload_n hX dX12_tick_200 rfl ?_
            refine xJ_aload_n hX dX12_tick_201 rfl ?_
            refine xJ_getR (b := (a + 2)) hX dX12_tick_202 fd_X12_17 rfl (oX12_k hL) (oX12_r8 hL) ?_
            refine xJ_iconst hX dX12_tick_205 ?_
            obtain ⟨h206, hp⟩ := hp
            refine xJ_iald hX dX12_tick_206 (oX12_k8 hL) h206.1 (xnlt (oX12_n8 hL) h206.2) ?_
            refine xJ_icmp_ge hX dX12_tick_207 (tgt := 284) (by decide) hx1 (hM _ _) (fun c207 => ?_) (fun c207 => ?_)
            · replace hp := hp.1 c207
              refine xJ_aload_n hX dX12_tick_284 rfl ?_
              refine xJ_getR (b := (a + 2)) hX dX12_tick_285 fd_X12_17 rfl (oX12_k hL) (oX12_r8 hL) ?_
              refine xJ_iconst hX dX12_tick_288 ?_
              refine xJ_dup2 hX dX12_tick_289 rfl rfl ?_
              obtain ⟨h290, hp⟩ := hp
              refine xJ_iald hX dX12_tick_290 (oX12_k8 hL) h290.1 (xnlt (oX12_n8 hL) h290.2) ?_
              refine xJ_iconst hX dX12_tick_291 ?_
              refine xJ_iadd hX dX12_tick_292 ?_
              obtain ⟨h292, hp⟩ := hp
              obtain ⟨h293, hp⟩ := hp
              refine xJ_iastM hX dX12_tick_293 (oX12_k8 hL) h293.1 (xnlt (oX12_n8 hL) h293.2) hM h292 (fun M293 e293 hM293 => ?_)
              replace hp := hp M293 e293
              refine xJ_vret hX hB dX12_tick_294 (by decide) (by decide) ⟨rfl, hM293, rfl, hp⟩
            · replace hp := hp.2 c207
              refine xJ_iconst hX dX12_tick_210 ?_
              refine xJ_istore_n hX dX12_tick_211 (Nat.le_of_ble_eq_true rfl) rfl ?_
              dsimp only [List.set]
              have lp212 : ∀ (K278 : Int → xMe → Prop) (hK278 : ∀ (y1 : Int) (M : xMe) (hM : xMR M) (hy1 : xR y1) (hp : K278 y1 M), xJ X 0 0 t M 278 [vr a, vi y1, vU, vU] []) (k : Nat) (x1 : Int) (x2 : Int) (M : xMe) (hM : xMR M) (hx1 : xR x1) (hx2 : xR x2) (hp : p_X12_tick_212 F a Q K278 k x1 x2 M), xJ X 0 0 t M 212 [vr a, vi x1, vi x2, vU] [] := by
                intro K278 hK278 k
                induction k with
                | zero => intro x1 x2 M hM hx1 hx2 hp; exact hp.elim
                | succ k ih =>
                  intro x1 x2 M hM hx1 hx2 hp
                  unfold p_X12_tick_212 at hp
                  refine xJ_iload_n hX dX12_tick_212 rfl ?_
                  refine xJ_aload_n hX dX12_tick_213 rfl ?_
                  refine xJ_getR (b := (a + 2)) hX dX12_tick_214 fd_X12_17 rfl (oX12_k hL) (oX12_r8 hL) ?_
                  refine xJ_iconst hX dX12_tick_217 ?_
                  obtain ⟨h218, hp⟩ := hp
                  refine xJ_iald hX dX12_tick_218 (oX12_k8 hL) h218.1 (xnlt (oX12_n8 hL) h218.2) ?_
                  refine xJ_icmp_ge hX dX12_tick_219 (tgt := 278) (by decide) hx2 (hM _ _) (fun c219 => ?_) (fun c219 => ?_)
                  · replace hp := hp.1 c219
                    refine xJ_fg 2 ?_
                    dsimp only [List.set]
                    exact hK278 _ _ hM hx1 hp
                  · replace hp := hp.2 c219
                    refine xJ_iload_n hX dX12_tick_222 rfl ?_
                    refine xJ_iload_n hX dX12_tick_223 rfl ?_
                    refine xJ_callS (As := [_, _]) hX hB dX12_tick_224 lk_X12_187 sm_X12_pairAt (c_X12_pairAt  hM hx1 hx2 hp) (by decide) rfl rfl rfl (Nat.le_of_ble_eq_true rfl) (by decide) (by decide) (fun v t9 M224 hv => ?_) (fun _ _ _ q => q.elim)
                    obtain ⟨r224, rfl, h224, hM224, ht9, hp⟩ := hv
                    replace ht9 := ht9.symm
                    subst ht9
                    dsimp only [Option.toList, List.cons_append, List.nil_append]
                    refine xJ_istore_n hX dX12_tick_227 (Nat.le_of_ble_eq_true rfl) rfl ?_
                    dsimp only [List.set]
                    have lp228 : ∀ (K272 : Int → Int → xMe → Prop) (hK272 : ∀ (y1 : Int) (y2 : Int) (M : xMe) (hM : xMR M) (hy1 : xR y1) (hy2 : xR y2) (hp : K272 y1 y2 M), xJ X 0 0 t M 272 [vr a, vi y1, vi y2, vU] []) (k : Nat) (x1 : Int) (x2 : Int) (x3 : Int) (M : xMe) (hM : xMR M) (hx1 : xR x1) (hx2 : xR x2) (hx3 : xR x3) (hp : p_X12_tick_228 F a Q K272 k x1 x2 x3 M), xJ X 0 0 t M 228 [vr a, vi x1, vi x2, vi x3] [] := by
                      intro K272 hK272 k
                      induction k with
                      | zero => intro x1 x2 x3 M hM hx1 hx2 hx3 hp; exact hp.elim
                      | succ k ih =>
                        intro x1 x2 x3 M hM hx1 hx2 hx3 hp
                        unfold p_X12_tick_228 at hp
                        refine xJ_aload_n hX dX12_tick_228 rfl ?_
                        refine xJ_getR (b := (a + 2)) hX dX12_tick_229 fd_X12_17 rfl (oX12_k hL) (oX12_r8 hL) ?_
                        refine xJ_iload_n hX dX12_tick_232 rfl ?_
                        refine xJ_iconst hX dX12_tick_233 ?_
                        refine xJ_iadd hX dX12_tick_234 ?_
                        obtain ⟨h234, hp⟩ := hp
                        obtain ⟨h235, hp⟩ := hp
                        refine xJ_iald hX dX12_tick_235 (oX12_k8 hL) h235.1 (xnlt (oX12_n8 hL) h235.2) ?_
                        refine xJ_if_le hX dX12_tick_236 (tgt := 272) (by decide) (hM _ _) (fun c236 => ?_) (fun c236 => ?_)
                        · replace hp := hp.1 c236
                          refine xJ_fg 3 ?_
                          dsimp only [List.set]
                          exact hK272 _ _ _ hM hx1 hx2 hp
                        · replace hp := hp.2 c236
                          refine xJ_aload_n hX dX12_tick_239 rfl ?_
                          refine xJ_aload_n hX dX12_tick_240 rfl ?_
                          refine xJ_getR (b := (a + 2)) hX dX12_tick_241 fd_X12_17 rfl (oX12_k hL) (oX12_r8 hL) ?_
                          refine xJ_iload_n hX dX12_tick_244 rfl ?_
                          refine xJ_iconst hX dX12_tick_245 ?_
                          refine xJ_iadd hX dX12_tick_246 ?_
                          obtain ⟨h246, hp⟩ := hp
                          obtain ⟨h247, hp⟩ := hp
                          refine xJ_iald hX dX12_tick_247 (oX12_k8 hL) h247.1 (xnlt (oX12_n8 hL) h247.2) ?_
                          refine xJ_iload_n hX dX12_tick_248 rfl ?_
                          refine xJ_callV (As := [_, _]) hX hB dX12_tick_249 lk_X12_251 im_X12_canPass se_X12_canPass rfl (by decide) (oX12_k hL) (c_X12_canPass hL hM (hM _ _) hx3 hp) (by decide) rfl rfl rfl (Nat.le_of_ble_eq_true rfl) (by decide) (by decide) (fun v t9 M249 hv => ?_) (fun _ _ _ q => q.elim)
                          obtain ⟨r249, rfl, h249, hM249, ht9, hp⟩ := hv
                          replace ht9 := ht9.symm
                          subst ht9
                          dsimp only [Option.toList, List.cons_append, List.nil_append]
                          refine xJ_if_eq hX dX12_tick_252 (tgt := 272) (by decide) h249 (fun c252 => ?_) (fun c252 => ?_)
                          · replace hp := hp.1 c252
                            refine xJ_fg 3 ?_
                            dsimp only [List.set]
                            exact hK272 _ _ _ hM249 hx1 hx2 hp
                          · replace hp := hp.2 c252
                            refine xJ_aload_n hX dX12_tick_255 rfl ?_
                            refine xJ_aload_n hX dX12_tick_256 rfl ?_
                            refine xJ_getR (b := (a + 2)) hX dX12_tick_257 fd_X12_17 rfl (oX12_k hL) (oX12_r8 hL) ?_
                            refine xJ_iload_n hX dX12_tick_260 rfl ?_
                            refine xJ_iconst hX dX12_tick_261 ?_
                            refine xJ_iadd hX dX12_tick_262 ?_
                            obtain ⟨h262, hp⟩ := hp
                            obtain ⟨h263, hp⟩ := hp
                            refine xJ_iald hX dX12_tick_263 (oX12_k8 hL) h263.1 (xnlt (oX12_n8 hL) h263.2) ?_
                            refine xJ_iload_n hX dX12_tick_264 rfl ?_
                            refine xJ_iload_n hX dX12_tick_265 rfl ?_
                            refine xJ_callV (As := [_, _, _]) hX hB dX12_tick_266 lk_X12_255 im_X12_passOne se_X12_passOne rfl (by decide) (oX12_k hL) (c_X12_passOne hL hM249 (hM249 _ _) hx1 hx3 hp) (by decide) rfl rfl rfl (Nat.le_of_ble_eq_true rfl) (by decide) (by decide) (fun v t9 M266 hv => ?_) (fun _ _ _ q => q.elim)
                            obtain ⟨rfl, hM266, ht9, hp⟩ := hv
                            replace ht9 := ht9.symm
                            subst ht9
                            dsimp only [Option.toList, List.cons_append, List.nil_append]
                            refine xJ_goto hX dX12_tick_269 (tgt := 228) (by decide) ?_
                            exact ih _ _ _ _ hM266 hx1 hx2 hx3 hp
                    refine lp228 _ (fun y1 y2 M hM hy1 hy2 hp => ?_) F _ _ _ _ hM224 hx1 hx2 h224 hp
                    · refine xJ_iinc hX dX12_tick_272 rfl rfl ?_
                      dsimp only [List.set]
                      obtain ⟨h272, hp⟩ := hp
                      refine xJ_goto hX dX12_tick_275 (tgt := 212) (by decide) ?_
                      exact ih _ _ _ hM hy1 h272 hp
              refine lp212 _ (fun y1 M hM hy1 hp => ?_) F _ _ _ hM hx1 ⟨by decide, by decide⟩ hp
              · refine xJ_iinc hX dX12_tick_278 rfl rfl ?_
                dsimp only [List.set]
                obtain ⟨h278, hp⟩ := hp
                refine xJ_goto hX dX12_tick_281 (tgt := 200) (by decide) ?_
                exact ih _ _ hM h278 hp
        refine lp200 F _ _ hM ⟨by decide, by decide⟩ hp
def p_X12_hasEnded (a : Nat) (x1 : Int) (M : xMe) (Q : Int → xMe → Prop) : Prop :=
  p_X12_packetAt x1 M (fun r5 M5 => (xR (r5 + 3)) ∧ ((0 : Int) ≤ (r5 + 3) ∧ ((r5 + 3) : Int) < 2105) ∧ (((M5 (a + 2) (r5 + 3).toNat) < 3 → Q 0 M5) ∧ (3 ≤ (M5 (a + 2) (r5 + 3).toNat) → Q 1 M5)))
set_option maxHeartbeats 4000000 in
set_option maxRecDepth 100000 in
theorem c_X12_hasEnded {G : xGx} {t : xTh} {M : xMe} {a : Nat} {x1 : Int} {Q : Int → xMe → Prop} (hL : oX12 t a) (hM : xMR M) (hx1 : xR x1) (hp : p_X12_hasEnded a x1 M Q) : xCt G yX12_hasEnded cX12_hasEnded 2 (some .boolean) 1 0 0 [vr a, vi x1] t M (fun v t' M' => ∃ r, v = some (vi r) ∧ xR r ∧ xMR M' ∧ t' = t ∧ Q r M') (fun _ _ _ => False) := by
  refine xCt_of (L0 := [vr a, vi x1]) (by decide +kernel) (Nat.le_of_ble_eq_true rfl) rfl ?_
  intro X hX hB
  unfold p_X12_hasEnded at hp
  refine xJ_aload_n hX dX12_hasEnded_0 rfl ?_
  refine xJ_getR (b := (a + 2)) hX dX12_hasEnded_1 fd_X12_17 rfl (oX12_k hL) (oX12_r8 hL) ?_
  refine xJ_iload_n hX dX12_hasEnded_4 rfl ?_
  refine xJ_callS (As := [_]) hX hB dX12_hasEnded_5 lk_X12_197 sm_X12_packetAt (c_X12_packetAt  hM hx1 hp) (by decide) rfl rfl rfl (Nat.le_of_ble_eq_true rfl) (by decide) (by decide) (fun v t9 M5 hv => ?_) (fun _ _ _ q => q.elim)
  obtain ⟨r5, rfl, h5, hM5, ht9, hp⟩ := hv
  replace ht9 := ht9.symm
  subst ht9
  dsimp only [Option.toList, List.cons_append, List.nil_append]
  refine xJ_iconst hX dX12_hasEnded_8 ?_
  refine xJ_iadd hX dX12_hasEnded_9 ?_
  obtain ⟨h9, hp⟩ := hp
  obtain ⟨h10, hp⟩ := hp
  refine xJ_iald hX dX12_hasEnded_10 (oX12_k8 hL) h10.1 (xnlt (oX12_n8 hL) h10.2) ?_
  refine xJ_iconst hX dX12_hasEnded_11 ?_
  refine xJ_icmp_lt hX dX12_hasEnded_12 (tgt := 19) (by decide) (hM5 _ _) ⟨by decide, by decide⟩ (fun c12 => ?_) (fun c12 => ?_)
  · replace hp := hp.1 c12
    refine xJ_iconst hX dX12_hasEnded_19 ?_
    refine xJ_zret hX hB dX12_hasEnded_20 rfl (by decide) (by decide) ⟨_, rfl, ⟨by decide, by decide⟩, hM5, rfl, hp⟩
  · replace hp := hp.2 c12
    refine xJ_iconst hX dX12_hasEnded_15 ?_
    refine xJ_goto hX dX12_hasEnded_16 (tgt := 20) (by decide) ?_
    refine xJ_zret hX hB dX12_hasEnded_20 rfl (by decide) (by decide) ⟨_, rfl, ⟨by decide, by decide⟩, hM5, rfl, hp⟩
def p_X12_endOf_2 (F : Nat) (a : Nat) (Q : Int → xMe → Prop) : Nat → Int → Int → Int → xMe → Prop
  | 0, _, _, _, _ => False
  | k + 1, x1, x2, x3, M =>
    ((x2 ≤ x3 → p_X12_packetAt x1 M (fun r30 M30 => (xR (r30 + 6)) ∧ ((0 : Int) ≤ (r30 + 6) ∧ ((r30 + 6) : Int) < 2105) ∧ Q (M30 (a + 2) (r30 + 6).toNat) M30)) ∧ (x3 < x2 → p_X12_hasEnded a x1 M (fun r9 M9 => ((r9 ≠ 0 → p_X12_packetAt x1 M9 (fun r30 M30 => (xR (r30 + 6)) ∧ ((0 : Int) ≤ (r30 + 6) ∧ ((r30 + 6) : Int) < 2105) ∧ Q (M30 (a + 2) (r30 + 6).toNat) M30)) ∧ (r9 = 0 → p_X12_tick F a M9 (fun M16 => (xR (x3 + 1)) ∧ p_X12_endOf_2 F a Q k x1 x2 (x3 + 1) M16))))))
def p_X12_endOf (F : Nat) (a : Nat) (x1 : Int) (x2 : Int) (M : xMe) (Q : Int → xMe → Prop) : Prop :=
  p_X12_endOf_2 F a Q F x1 x2 0 M
set_option maxHeartbeats 4000000 in
set_option maxRecDepth 100000 in
theorem c_X12_endOf {G : xGx} {t : xTh} {M : xMe} {F : Nat} {a : Nat} {x1 : Int} {x2 : Int} {Q : Int → xMe → Prop} (hL : oX12 t a) (hM : xMR M) (hx1 : xR x1) (hx2 : xR x2) (hp : p_X12_endOf F a x1 x2 M Q) : xCt G yX12_endOf cX12_endOf 4 (some .int) 5 0 0 [vr a, vi x1, vi x2] t M (fun v t' M' => ∃ r, v = some (vi r) ∧ xR r ∧ xMR M' ∧ t' = t ∧ Q r M') (fun _ _ _ => False) := by
  refine xCt_of (L0 := [vr a, vi x1, vi x2, vU]) (by decide +kernel) (Nat.le_of_ble_eq_true rfl) rfl ?_
  intro X hX hB
  unfold p_X12_endOf at hp
  refine xJ_iconst hX dX12_endOf_0 ?_
  refine xJ_istore_n hX dX12_endOf_1 (Nat.le_of_ble_eq_true rfl) rfl ?_
  dsimp only [List.set]
  have lp2 : ∀ (k : Nat) (x1 : Int) (x2 : Int) (x3 : Int) (M : xMe) (hM : xMR M) (hx1 : xR x1) (hx2 : xR x2) (hx3 : xR x3) (hp : p_X12_endOf_2 F a Q k x1 x2 x3 M), xJ X 0 0 t M 2 [vr a, vi x1, vi x2, vi x3] [] := by
    intro k
    induction k with
    | zero => intro x1 x2 x3 M hM hx1 hx2 hx3 hp; exact hp.elim
    | succ k ih =>
      intro x1 x2 x3 M hM hx1 hx2 hx3 hp
      unfold p_X12_endOf_2 at hp
      refine xJ_iload_n hX dX12_endOf_2 rfl ?_
      refine xJ_iload_n hX dX12_endOf_3 rfl ?_
      refine xJ_icmp_ge hX dX12_endOf_4 (tgt := 25) (by decide) hx3 hx2 (fun c4 => ?_) (fun c4 => ?_)
      · replace hp := hp.1 c4
        refine xJ_aload_n hX dX12_endOf_25 rfl ?_
        refine xJ_getR (b := (a + 2)) hX dX12_endOf_26 fd_X12_17 rfl (oX12_k hL) (oX12_r8 hL) ?_
        refine xJ_iload_n hX dX12_endOf_29 rfl ?_
        refine xJ_callS (As := [_]) hX hB dX12_endOf_30 lk_X12_197 sm_X12_packetAt (c_X12_packetAt  hM hx1 hp) (by decide) rfl rfl rfl (Nat.le_of_ble_eq_true rfl) (by decide) (by decide) (fun v t9 M30 hv => ?_) (fun _ _ _ q => q.elim)
        obtain ⟨r30, rfl, h30, hM30, ht9, hp⟩ := hv
        replace ht9 := ht9.symm
        subst ht9
        dsimp only [Option.toList, List.cons_append, List.nil_append]
        refine xJ_bipush hX dX12_endOf_33 rfl ?_
        refine xJ_iadd hX dX12_endOf_35 ?_
        obtain ⟨h35, hp⟩ := hp
        obtain ⟨h36, hp⟩ := hp
        refine xJ_iald hX dX12_endOf_36 (oX12_k8 hL) h36.1 (xnlt (oX12_n8 hL) h36.2) ?_
        refine xJ_iret hX hB dX12_endOf_37 (by decide) (by decide) ⟨_, rfl, (hM30 _ _), hM30, rfl, hp⟩
      · replace hp := hp.2 c4
        refine xJ_aload_n hX dX12_endOf_7 rfl ?_
        refine xJ_iload_n hX dX12_endOf_8 rfl ?_
        refine xJ_callV (As := [_]) hX hB dX12_endOf_9 lk_X12_259 im_X12_hasEnded se_X12_hasEnded rfl (by decide) (oX12_k hL) (c_X12_hasEnded hL hM hx1 hp) (by decide) rfl rfl rfl (Nat.le_of_ble_eq_true rfl) (by decide) (by decide) (fun v t9 M9 hv => ?_) (fun _ _ _ q => q.elim)
        obtain ⟨r9, rfl, h9, hM9, ht9, hp⟩ := hv
        replace ht9 := ht9.symm
        subst ht9
        dsimp only [Option.toList, List.cons_append, List.nil_append]
        refine xJ_if_ne hX dX12_endOf_12 (tgt := 25) (by decide) h9 (fun c12 => ?_) (fun c12 => ?_)
        · replace hp := hp.1 c12
          refine xJ_aload_n hX dX12_endOf_25 rfl ?_
          refine xJ_getR (b := (a + 2)) hX dX12_endOf_26 fd_X12_17 rfl (oX12_k hL) (oX12_r8 hL) ?_
          refine xJ_iload_n hX dX12_endOf_29 rfl ?_
          refine xJ_callS (As := [_]) hX hB dX12_endOf_30 lk_X12_197 sm_X12_packetAt (c_X12_packetAt  hM9 hx1 hp) (by decide) rfl rfl rfl (Nat.le_of_ble_eq_true rfl) (by decide) (by decide) (fun v t9 M30 hv => ?_) (fun _ _ _ q => q.elim)
          obtain ⟨r30, rfl, h30, hM30, ht9, hp⟩ := hv
          replace ht9 := ht9.symm
          subst ht9
          dsimp only [Option.toList, List.cons_append, List.nil_append]
          refine xJ_bipush hX dX12_endOf_33 rfl ?_
          refine xJ_iadd hX dX12_endOf_35 ?_
          obtain ⟨h35, hp⟩ := hp
          obtain ⟨h36, hp⟩ := hp
          refine xJ_iald hX dX12_endOf_36 (oX12_k8 hL) h36.1 (xnlt (oX12_n8 hL) h36.2) ?_
          refine xJ_iret hX hB dX12_endOf_37 (by decide) (by decide) ⟨_, rfl, (hM30 _ _), hM30, rfl, hp⟩
        · replace hp := hp.2 c12
          refine xJ_aload_n hX dX12_endOf_15 rfl ?_
          refine xJ_callV (As := []) hX hB dX12_endOf_16 lk_X12_262 im_X12_tick se_X12_tick rfl (by decide) (oX12_k hL) (c_X12_tick hL hM9 hp) (by decide) rfl rfl rfl (Nat.le_of_ble_eq_true rfl) (by decide) (by decide) (fun v t9 M16 hv => ?_) (fun _ _ _ q => q.elim)
          obtain ⟨rfl, hM16, ht9, hp⟩ := hv
          replace ht9 := ht9.symm
          subst ht9
          dsimp only [Option.toList, List.cons_append, List.nil_append]
          refine xJ_iinc hX dX12_endOf_19 rfl rfl ?_
          dsimp only [List.set]
          obtain ⟨h19, hp⟩ := hp
          refine xJ_goto hX dX12_endOf_22 (tgt := 2) (by decide) ?_
          exact ih _ _ _ _ hM16 hx1 hx2 h19 hp
  refine lp2 F _ _ _ _ hM hx1 hx2 ⟨by decide, by decide⟩ hp
def p_X12_noGate (a : Nat) (x1 : Int) (M : xMe) (Q : Int → xMe → Prop) : Prop :=
  ((0 : Int) ≤ 1 ∧ (1 : Int) < 2105) ∧ (xR ((M (a + 2) 1) - 1)) ∧ p_X12_in x1 0 ((M (a + 2) 1) - 1) M (fun r11 M11 => ((r11 ≠ 0 → p_X12_fails a 0 1 M11 (fun r23 M23 => (r23 = 0 ∨ r23 = 1) ∧ Q r23 M23)) ∧ (r11 = 0 → p_X12_fails a 1 1 M11 (fun r23 M23 => (r23 = 0 ∨ r23 = 1) ∧ Q r23 M23))))
set_option maxHeartbeats 4000000 in
set_option maxRecDepth 100000 in
theorem c_X12_noGate {G : xGx} {t : xTh} {M : xMe} {a : Nat} {x1 : Int} {Q : Int → xMe → Prop} (hL : oX12 t a) (hM : xMR M) (hx1 : xR x1) (hp : p_X12_noGate a x1 M Q) : xCt G yX12_noGate cX12_noGate 2 (some .boolean) 1 0 0 [vr a, vi x1] t M (fun v t' M' => ∃ r, v = some (vi r) ∧ xR r ∧ xMR M' ∧ t' = t ∧ Q r M') (fun _ _ _ => False) := by
  refine xCt_of (L0 := [vr a, vi x1]) (by decide +kernel) (Nat.le_of_ble_eq_true rfl) rfl ?_
  intro X hX hB
  unfold p_X12_noGate at hp
  refine xJ_aload_n hX dX12_noGate_0 rfl ?_
  refine xJ_iload_n hX dX12_noGate_1 rfl ?_
  refine xJ_iconst hX dX12_noGate_2 ?_
  refine xJ_aload_n hX dX12_noGate_3 rfl ?_
  refine xJ_getR (b := (a + 2)) hX dX12_noGate_4 fd_X12_17 rfl (oX12_k hL) (oX12_r8 hL) ?_
  refine xJ_iconst hX dX12_noGate_7 ?_
  obtain ⟨h8, hp⟩ := hp
  refine xJ_iald hX dX12_noGate_8 (oX12_k8 hL) h8.1 (xnlt (oX12_n8 hL) h8.2) ?_
  refine xJ_iconst hX dX12_noGate_9 ?_
  refine xJ_isub hX dX12_noGate_10 ?_
  obtain ⟨h10, hp⟩ := hp
  refine xJ_callS (As := [_, _, _]) hX hB dX12_noGate_11 lk_X12_64 sm_X12_in (c_X12_in  hM hx1 ⟨by decide, by decide⟩ h10 hp) (by decide) rfl rfl rfl (Nat.le_of_ble_eq_true rfl) (by decide) (by decide) (fun v t9 M11 hv => ?_) (fun _ _ _ q => q.elim)
  obtain ⟨r11, rfl, h11, hM11, ht9, hp⟩ := hv
  replace ht9 := ht9.symm
  subst ht9
  dsimp only [Option.toList, List.cons_append, List.nil_append]
  refine xJ_if_ne hX dX12_noGate_14 (tgt := 21) (by decide) h11 (fun c14 => ?_) (fun c14 => ?_)
  · replace hp := hp.1 c14
    refine xJ_iconst hX dX12_noGate_21 ?_
    refine xJ_iconst hX dX12_noGate_22 ?_
    refine xJ_callV (As := [_, _]) hX hB dX12_noGate_23 lk_X12_178 im_X12_fails se_X12_fails rfl (by decide) (oX12_k hL) (c_X12_fails hL hM11 ⟨by decide, by decide⟩ ⟨by decide, by decide⟩ hp) (by decide) rfl rfl rfl (Nat.le_of_ble_eq_true rfl) (by decide) (by decide) (fun v t9 M23 hv => ?_) (fun _ _ _ q => q.elim)
    obtain ⟨r23, rfl, h23, hM23, ht9, hp⟩ := hv
    replace ht9 := ht9.symm
    subst ht9
    dsimp only [Option.toList, List.cons_append, List.nil_append]
    obtain ⟨h26, hp⟩ := hp
    refine xJ_zret hX hB dX12_noGate_26 (xnz h26) (by decide) (by decide) ⟨_, rfl, h23, hM23, rfl, hp⟩
  · replace hp := hp.2 c14
    refine xJ_iconst hX dX12_noGate_17 ?_
    refine xJ_goto hX dX12_noGate_18 (tgt := 22) (by decide) ?_
    refine xJ_iconst hX dX12_noGate_22 ?_
    refine xJ_callV (As := [_, _]) hX hB dX12_noGate_23 lk_X12_178 im_X12_fails se_X12_fails rfl (by decide) (oX12_k hL) (c_X12_fails hL hM11 ⟨by decide, by decide⟩ ⟨by decide, by decide⟩ hp) (by decide) rfl rfl rfl (Nat.le_of_ble_eq_true rfl) (by decide) (by decide) (fun v t9 M23 hv => ?_) (fun _ _ _ q => q.elim)
    obtain ⟨r23, rfl, h23, hM23, ht9, hp⟩ := hv
    replace ht9 := ht9.symm
    subst ht9
    dsimp only [Option.toList, List.cons_append, List.nil_append]
    obtain ⟨h26, hp⟩ := hp
    refine xJ_zret hX hB dX12_noGate_26 (xnz h26) (by decide) (by decide) ⟨_, rfl, h23, hM23, rfl, hp⟩
def p_X12_noFlow (a : Nat) (x1 : Int) (M : xMe) (Q : Int → xMe → Prop) : Prop :=
  ((0 : Int) ≤ 2 ∧ (2 : Int) < 2105) ∧ (xR ((M (a + 2) 2) - 1)) ∧ p_X12_in x1 0 ((M (a + 2) 2) - 1) M (fun r11 M11 => ((r11 ≠ 0 → p_X12_fails a 0 1 M11 (fun r23 M23 => (r23 = 0 ∨ r23 = 1) ∧ Q r23 M23)) ∧ (r11 = 0 → p_X12_fails a 1 1 M11 (fun r23 M23 => (r23 = 0 ∨ r23 = 1) ∧ Q r23 M23))))
set_option maxHeartbeats 4000000 in
set_option maxRecDepth 100000 in
theorem c_X12_noFlow {G : xGx} {t : xTh} {M : xMe} {a : Nat} {x1 : Int} {Q : Int → xMe → Prop} (hL : oX12 t a) (hM : xMR M) (hx1 : xR x1) (hp : p_X12_noFlow a x1 M Q) : xCt G yX12_noFlow cX12_noFlow 2 (some .boolean) 1 0 0 [vr a, vi x1] t M (fun v t' M' => ∃ r, v = some (vi r) ∧ xR r ∧ xMR M' ∧ t' = t ∧ Q r M') (fun _ _ _ => False) := by
  refine xCt_of (L0 := [vr a, vi x1]) (by decide +kernel) (Nat.le_of_ble_eq_true rfl) rfl ?_
  intro X hX hB
  unfold p_X12_noFlow at hp
  refine xJ_aload_n hX dX12_noFlow_0 rfl ?_
  refine xJ_iload_n hX dX12_noFlow_1 rfl ?_
  refine xJ_iconst hX dX12_noFlow_2 ?_
  refine xJ_aload_n hX dX12_noFlow_3 rfl ?_
  refine xJ_getR (b := (a + 2)) hX dX12_noFlow_4 fd_X12_17 rfl (oX12_k hL) (oX12_r8 hL) ?_
  refine xJ_iconst hX dX12_noFlow_7 ?_
  obtain ⟨h8, hp⟩ := hp
  refine xJ_iald hX dX12_noFlow_8 (oX12_k8 hL) h8.1 (xnlt (oX12_n8 hL) h8.2) ?_
  refine xJ_iconst hX dX12_noFlow_9 ?_
  refine xJ_isub hX dX12_noFlow_10 ?_
  obtain ⟨h10, hp⟩ := hp
  refine xJ_callS (As := [_, _, _]) hX hB dX12_noFlow_11 lk_X12_64 sm_X12_in (c_X12_in  hM hx1 ⟨by decide, by decide⟩ h10 hp) (by decide) rfl rfl rfl (Nat.le_of_ble_eq_true rfl) (by decide) (by decide) (fun v t9 M11 hv => ?_) (fun _ _ _ q => q.elim)
  obtain ⟨r11, rfl, h11, hM11, ht9, hp⟩ := hv
  replace ht9 := ht9.symm
  subst ht9
  dsimp only [Option.toList, List.cons_append, List.nil_append]
  refine xJ_if_ne hX dX12_noFlow_14 (tgt := 21) (by decide) h11 (fun c14 => ?_) (fun c14 => ?_)
  · replace hp := hp.1 c14
    refine xJ_iconst hX dX12_noFlow_21 ?_
    refine xJ_iconst hX dX12_noFlow_22 ?_
    refine xJ_callV (As := [_, _]) hX hB dX12_noFlow_23 lk_X12_178 im_X12_fails se_X12_fails rfl (by decide) (oX12_k hL) (c_X12_fails hL hM11 ⟨by decide, by decide⟩ ⟨by decide, by decide⟩ hp) (by decide) rfl rfl rfl (Nat.le_of_ble_eq_true rfl) (by decide) (by decide) (fun v t9 M23 hv => ?_) (fun _ _ _ q => q.elim)
    obtain ⟨r23, rfl, h23, hM23, ht9, hp⟩ := hv
    replace ht9 := ht9.symm
    subst ht9
    dsimp only [Option.toList, List.cons_append, List.nil_append]
    obtain ⟨h26, hp⟩ := hp
    refine xJ_zret hX hB dX12_noFlow_26 (xnz h26) (by decide) (by decide) ⟨_, rfl, h23, hM23, rfl, hp⟩
  · replace hp := hp.2 c14
    refine xJ_iconst hX dX12_noFlow_17 ?_
    refine xJ_goto hX dX12_noFlow_18 (tgt := 22) (by decide) ?_
    refine xJ_iconst hX dX12_noFlow_22 ?_
    refine xJ_callV (As := [_, _]) hX hB dX12_noFlow_23 lk_X12_178 im_X12_fails se_X12_fails rfl (by decide) (oX12_k hL) (c_X12_fails hL hM11 ⟨by decide, by decide⟩ ⟨by decide, by decide⟩ hp) (by decide) rfl rfl rfl (Nat.le_of_ble_eq_true rfl) (by decide) (by decide) (fun v t9 M23 hv => ?_) (fun _ _ _ q => q.elim)
    obtain ⟨r23, rfl, h23, hM23, ht9, hp⟩ := hv
    replace ht9 := ht9.symm
    subst ht9
    dsimp only [Option.toList, List.cons_append, List.nil_append]
    obtain ⟨h26, hp⟩ := hp
    refine xJ_zret hX hB dX12_noFlow_26 (xnz h26) (by decide) (by decide) ⟨_, rfl, h23, hM23, rfl, hp⟩
def p_X12_noPacket (a : Nat) (x1 : Int) (M : xMe) (Q : Int → xMe → Prop) : Prop :=
  ((0 : Int) ≤ 3 ∧ (3 : Int) < 2105) ∧ (xR ((M (a + 2) 3) - 1)) ∧ p_X12_in x1 0 ((M (a + 2) 3) - 1) M (fun r11 M11 => ((r11 ≠ 0 → p_X12_fails a 0 1 M11 (fun r23 M23 => (r23 = 0 ∨ r23 = 1) ∧ Q r23 M23)) ∧ (r11 = 0 → p_X12_fails a 1 1 M11 (fun r23 M23 => (r23 = 0 ∨ r23 = 1) ∧ Q r23 M23))))
set_option maxHeartbeats 4000000 in
set_option maxRecDepth 100000 in
theorem c_X12_noPacket {G : xGx} {t : xTh} {M : xMe} {a : Nat} {x1 : Int} {Q : Int → xMe → Prop} (hL : oX12 t a) (hM : xMR M) (hx1 : xR x1) (hp : p_X12_noPacket a x1 M Q) : xCt G yX12_noPacket cX12_noPacket 2 (some .boolean) 1 0 0 [vr a, vi x1] t M (fun v t' M' => ∃ r, v = some (vi r) ∧ xR r ∧ xMR M' ∧ t' = t ∧ Q r M') (fun _ _ _ => False) := by
  refine xCt_of (L0 := [vr a, vi x1]) (by decide +kernel) (Nat.le_of_ble_eq_true rfl) rfl ?_
  intro X hX hB
  unfold p_X12_noPacket at hp
  refine xJ_aload_n hX dX12_noPacket_0 rfl ?_
  refine xJ_iload_n hX dX12_noPacket_1 rfl ?_
  refine xJ_iconst hX dX12_noPacket_2 ?_
  refine xJ_aload_n hX dX12_noPacket_3 rfl ?_
  refine xJ_getR (b := (a + 2)) hX dX12_noPacket_4 fd_X12_17 rfl (oX12_k hL) (oX12_r8 hL) ?_
  refine xJ_iconst hX dX12_noPacket_7 ?_
  obtain ⟨h8, hp⟩ := hp
  refine xJ_iald hX dX12_noPacket_8 (oX12_k8 hL) h8.1 (xnlt (oX12_n8 hL) h8.2) ?_
  refine xJ_iconst hX dX12_noPacket_9 ?_
  refine xJ_isub hX dX12_noPacket_10 ?_
  obtain ⟨h10, hp⟩ := hp
  refine xJ_callS (As := [_, _, _]) hX hB dX12_noPacket_11 lk_X12_64 sm_X12_in (c_X12_in  hM hx1 ⟨by decide, by decide⟩ h10 hp) (by decide) rfl rfl rfl (Nat.le_of_ble_eq_true rfl) (by decide) (by decide) (fun v t9 M11 hv => ?_) (fun _ _ _ q => q.elim)
  obtain ⟨r11, rfl, h11, hM11, ht9, hp⟩ := hv
  replace ht9 := ht9.symm
  subst ht9
  dsimp only [Option.toList, List.cons_append, List.nil_append]
  refine xJ_if_ne hX dX12_noPacket_14 (tgt := 21) (by decide) h11 (fun c14 => ?_) (fun c14 => ?_)
  · replace hp := hp.1 c14
    refine xJ_iconst hX dX12_noPacket_21 ?_
    refine xJ_iconst hX dX12_noPacket_22 ?_
    refine xJ_callV (As := [_, _]) hX hB dX12_noPacket_23 lk_X12_178 im_X12_fails se_X12_fails rfl (by decide) (oX12_k hL) (c_X12_fails hL hM11 ⟨by decide, by decide⟩ ⟨by decide, by decide⟩ hp) (by decide) rfl rfl rfl (Nat.le_of_ble_eq_true rfl) (by decide) (by decide) (fun v t9 M23 hv => ?_) (fun _ _ _ q => q.elim)
    obtain ⟨r23, rfl, h23, hM23, ht9, hp⟩ := hv
    replace ht9 := ht9.symm
    subst ht9
    dsimp only [Option.toList, List.cons_append, List.nil_append]
    obtain ⟨h26, hp⟩ := hp
    refine xJ_zret hX hB dX12_noPacket_26 (xnz h26) (by decide) (by decide) ⟨_, rfl, h23, hM23, rfl, hp⟩
  · replace hp := hp.2 c14
    refine xJ_iconst hX dX12_noPacket_17 ?_
    refine xJ_goto hX dX12_noPacket_18 (tgt := 22) (by decide) ?_
    refine xJ_iconst hX dX12_noPacket_22 ?_
    refine xJ_callV (As := [_, _]) hX hB dX12_noPacket_23 lk_X12_178 im_X12_fails se_X12_fails rfl (by decide) (oX12_k hL) (c_X12_fails hL hM11 ⟨by decide, by decide⟩ ⟨by decide, by decide⟩ hp) (by decide) rfl rfl rfl (Nat.le_of_ble_eq_true rfl) (by decide) (by decide) (fun v t9 M23 hv => ?_) (fun _ _ _ q => q.elim)
    obtain ⟨r23, rfl, h23, hM23, ht9, hp⟩ := hv
    replace ht9 := ht9.symm
    subst ht9
    dsimp only [Option.toList, List.cons_append, List.nil_append]
    obtain ⟨h26, hp⟩ := hp
    refine xJ_zret hX hB dX12_noPacket_26 (xnz h26) (by decide) (by decide) ⟨_, rfl, h23, hM23, rfl, hp⟩
def p_X12_noCoupon (a : Nat) (x1 : Int) (M : xMe) (Q : Int → xMe → Prop) : Prop :=
  ((0 : Int) ≤ 4 ∧ (4 : Int) < 2105) ∧ (xR ((M (a + 2) 4) - 1)) ∧ p_X12_in x1 0 ((M (a + 2) 4) - 1) M (fun r11 M11 => ((r11 ≠ 0 → p_X12_fails a 0 1 M11 (fun r23 M23 => (r23 = 0 ∨ r23 = 1) ∧ Q r23 M23)) ∧ (r11 = 0 → p_X12_fails a 1 1 M11 (fun r23 M23 => (r23 = 0 ∨ r23 = 1) ∧ Q r23 M23))))
set_option maxHeartbeats 4000000 in
set_option maxRecDepth 100000 in
theorem c_X12_noCoupon {G : xGx} {t : xTh} {M : xMe} {a : Nat} {x1 : Int} {Q : Int → xMe → Prop} (hL : oX12 t a) (hM : xMR M) (hx1 : xR x1) (hp : p_X12_noCoupon a x1 M Q) : xCt G yX12_noCoupon cX12_noCoupon 2 (some .boolean) 1 0 0 [vr a, vi x1] t M (fun v t' M' => ∃ r, v = some (vi r) ∧ xR r ∧ xMR M' ∧ t' = t ∧ Q r M') (fun _ _ _ => False) := by
  refine xCt_of (L0 := [vr a, vi x1]) (by decide +kernel) (Nat.le_of_ble_eq_true rfl) rfl ?_
  intro X hX hB
  unfold p_X12_noCoupon at hp
  refine xJ_aload_n hX dX12_noCoupon_0 rfl ?_
  refine xJ_iload_n hX dX12_noCoupon_1 rfl ?_
  refine xJ_iconst hX dX12_noCoupon_2 ?_
  refine xJ_aload_n hX dX12_noCoupon_3 rfl ?_
  refine xJ_getR (b := (a + 2)) hX dX12_noCoupon_4 fd_X12_17 rfl (oX12_k hL) (oX12_r8 hL) ?_
  refine xJ_iconst hX dX12_noCoupon_7 ?_
  obtain ⟨h8, hp⟩ := hp
  refine xJ_iald hX dX12_noCoupon_8 (oX12_k8 hL) h8.1 (xnlt (oX12_n8 hL) h8.2) ?_
  refine xJ_iconst hX dX12_noCoupon_9 ?_
  refine xJ_isub hX dX12_noCoupon_10 ?_
  obtain ⟨h10, hp⟩ := hp
  refine xJ_callS (As := [_, _, _]) hX hB dX12_noCoupon_11 lk_X12_64 sm_X12_in (c_X12_in  hM hx1 ⟨by decide, by decide⟩ h10 hp) (by decide) rfl rfl rfl (Nat.le_of_ble_eq_true rfl) (by decide) (by decide) (fun v t9 M11 hv => ?_) (fun _ _ _ q => q.elim)
  obtain ⟨r11, rfl, h11, hM11, ht9, hp⟩ := hv
  replace ht9 := ht9.symm
  subst ht9
  dsimp only [Option.toList, List.cons_append, List.nil_append]
  refine xJ_if_ne hX dX12_noCoupon_14 (tgt := 21) (by decide) h11 (fun c14 => ?_) (fun c14 => ?_)
  · replace hp := hp.1 c14
    refine xJ_iconst hX dX12_noCoupon_21 ?_
    refine xJ_iconst hX dX12_noCoupon_22 ?_
    refine xJ_callV (As := [_, _]) hX hB dX12_noCoupon_23 lk_X12_178 im_X12_fails se_X12_fails rfl (by decide) (oX12_k hL) (c_X12_fails hL hM11 ⟨by decide, by decide⟩ ⟨by decide, by decide⟩ hp) (by decide) rfl rfl rfl (Nat.le_of_ble_eq_true rfl) (by decide) (by decide) (fun v t9 M23 hv => ?_) (fun _ _ _ q => q.elim)
    obtain ⟨r23, rfl, h23, hM23, ht9, hp⟩ := hv
    replace ht9 := ht9.symm
    subst ht9
    dsimp only [Option.toList, List.cons_append, List.nil_append]
    obtain ⟨h26, hp⟩ := hp
    refine xJ_zret hX hB dX12_noCoupon_26 (xnz h26) (by decide) (by decide) ⟨_, rfl, h23, hM23, rfl, hp⟩
  · replace hp := hp.2 c14
    refine xJ_iconst hX dX12_noCoupon_17 ?_
    refine xJ_goto hX dX12_noCoupon_18 (tgt := 22) (by decide) ?_
    refine xJ_iconst hX dX12_noCoupon_22 ?_
    refine xJ_callV (As := [_, _]) hX hB dX12_noCoupon_23 lk_X12_178 im_X12_fails se_X12_fails rfl (by decide) (oX12_k hL) (c_X12_fails hL hM11 ⟨by decide, by decide⟩ ⟨by decide, by decide⟩ hp) (by decide) rfl rfl rfl (Nat.le_of_ble_eq_true rfl) (by decide) (by decide) (fun v t9 M23 hv => ?_) (fun _ _ _ q => q.elim)
    obtain ⟨r23, rfl, h23, hM23, ht9, hp⟩ := hv
    replace ht9 := ht9.symm
    subst ht9
    dsimp only [Option.toList, List.cons_append, List.nil_append]
    obtain ⟨h26, hp⟩ := hp
    refine xJ_zret hX hB dX12_noCoupon_26 (xnz h26) (by decide) (by decide) ⟨_, rfl, h23, hM23, rfl, hp⟩
def p_X12_noNumber (a : Nat) (x1 : Int) (x2 : Int) (x3 : Int) (M : xMe) (Q : Int → xMe → Prop) : Prop :=
  p_X12_in x1 x2 x3 M (fun r4 M4 => ((r4 ≠ 0 → p_X12_fails a 0 2 M4 (fun r16 M16 => (r16 = 0 ∨ r16 = 1) ∧ Q r16 M16)) ∧ (r4 = 0 → p_X12_fails a 1 2 M4 (fun r16 M16 => (r16 = 0 ∨ r16 = 1) ∧ Q r16 M16))))
set_option maxHeartbeats 4000000 in
set_option maxRecDepth 100000 in
theorem c_X12_noNumber {G : xGx} {t : xTh} {M : xMe} {a : Nat} {x1 : Int} {x2 : Int} {x3 : Int} {Q : Int → xMe → Prop} (hL : oX12 t a) (hM : xMR M) (hx1 : xR x1) (hx2 : xR x2) (hx3 : xR x3) (hp : p_X12_noNumber a x1 x2 x3 M Q) : xCt G yX12_noNumber cX12_noNumber 4 (some .boolean) 1 0 0 [vr a, vi x1, vi x2, vi x3] t M (fun v t' M' => ∃ r, v = some (vi r) ∧ xR r ∧ xMR M' ∧ t' = t ∧ Q r M') (fun _ _ _ => False) := by
  refine xCt_of (L0 := [vr a, vi x1, vi x2, vi x3]) (by decide +kernel) (Nat.le_of_ble_eq_true rfl) rfl ?_
  intro X hX hB
  unfold p_X12_noNumber at hp
  refine xJ_aload_n hX dX12_noNumber_0 rfl ?_
  refine xJ_iload_n hX dX12_noNumber_1 rfl ?_
  refine xJ_iload_n hX dX12_noNumber_2 rfl ?_
  refine xJ_iload_n hX dX12_noNumber_3 rfl ?_
  refine xJ_callS (As := [_, _, _]) hX hB dX12_noNumber_4 lk_X12_64 sm_X12_in (c_X12_in  hM hx1 hx2 hx3 hp) (by decide) rfl rfl rfl (Nat.le_of_ble_eq_true rfl) (by decide) (by decide) (fun v t9 M4 hv => ?_) (fun _ _ _ q => q.elim)
  obtain ⟨r4, rfl, h4, hM4, ht9, hp⟩ := hv
  replace ht9 := ht9.symm
  subst ht9
  dsimp only [Option.toList, List.cons_append, List.nil_append]
  refine xJ_if_ne hX dX12_noNumber_7 (tgt := 14) (by decide) h4 (fun c7 => ?_) (fun c7 => ?_)
  · replace hp := hp.1 c7
    refine xJ_iconst hX dX12_noNumber_14 ?_
    refine xJ_iconst hX dX12_noNumber_15 ?_
    refine xJ_callV (As := [_, _]) hX hB dX12_noNumber_16 lk_X12_178 im_X12_fails se_X12_fails rfl (by decide) (oX12_k hL) (c_X12_fails hL hM4 ⟨by decide, by decide⟩ ⟨by decide, by decide⟩ hp) (by decide) rfl rfl rfl (Nat.le_of_ble_eq_true rfl) (by decide) (by decide) (fun v t9 M16 hv => ?_) (fun _ _ _ q => q.elim)
    obtain ⟨r16, rfl, h16, hM16, ht9, hp⟩ := hv
    replace ht9 := ht9.symm
    subst ht9
    dsimp only [Option.toList, List.cons_append, List.nil_append]
    obtain ⟨h19, hp⟩ := hp
    refine xJ_zret hX hB dX12_noNumber_19 (xnz h19) (by decide) (by decide) ⟨_, rfl, h16, hM16, rfl, hp⟩
  · replace hp := hp.2 c7
    refine xJ_iconst hX dX12_noNumber_10 ?_
    refine xJ_goto hX dX12_noNumber_11 (tgt := 15) (by decide) ?_
    refine xJ_iconst hX dX12_noNumber_15 ?_
    refine xJ_callV (As := [_, _]) hX hB dX12_noNumber_16 lk_X12_178 im_X12_fails se_X12_fails rfl (by decide) (oX12_k hL) (c_X12_fails hL hM4 ⟨by decide, by decide⟩ ⟨by decide, by decide⟩ hp) (by decide) rfl rfl rfl (Nat.le_of_ble_eq_true rfl) (by decide) (by decide) (fun v t9 M16 hv => ?_) (fun _ _ _ q => q.elim)
    obtain ⟨r16, rfl, h16, hM16, ht9, hp⟩ := hv
    replace ht9 := ht9.symm
    subst ht9
    dsimp only [Option.toList, List.cons_append, List.nil_append]
    obtain ⟨h19, hp⟩ := hp
    refine xJ_zret hX hB dX12_noNumber_19 (xnz h19) (by decide) (by decide) ⟨_, rfl, h16, hM16, rfl, hp⟩
def p_X12_state (a : Nat) (x1 : Int) (M : xMe) (Q : Int → xMe → Prop) : Prop :=
  (∀ M2 : xMe, M2 = xw M a 0 0 → p_X12_in x1 0 9 M2 (fun r10 M10 => ((r10 ≠ 0 → p_X12_fails a 0 1 M10 (fun r22 M22 => ((r22 = 0 → ((0 : Int) ≤ x1 ∧ (x1 : Int) < 2105) ∧ Q (M22 (a + 2) x1.toNat) M22) ∧ (r22 ≠ 0 → Q 0 M22)))) ∧ (r10 = 0 → p_X12_fails a 1 1 M10 (fun r22 M22 => ((r22 = 0 → ((0 : Int) ≤ x1 ∧ (x1 : Int) < 2105) ∧ Q (M22 (a + 2) x1.toNat) M22) ∧ (r22 ≠ 0 → Q 0 M22)))))))
set_option maxHeartbeats 4000000 in
set_option maxRecDepth 100000 in
theorem c_X12_state {G : xGx} {t : xTh} {M : xMe} {a : Nat} {x1 : Int} {Q : Int → xMe → Prop} (hL : oX12 t a) (hM : xMR M) (hx1 : xR x1) (hp : p_X12_state a x1 M Q) : xCt G yX12_state cX12_state 2 (some .int) 1 0 0 [vr a, vi x1] t M (fun v t' M' => ∃ r, v = some (vi r) ∧ xR r ∧ xMR M' ∧ t' = t ∧ Q r M') (fun _ _ _ => False) := by
  refine xCt_of (L0 := [vr a, vi x1]) (by decide +kernel) (Nat.le_of_ble_eq_true rfl) rfl ?_
  intro X hX hB
  unfold p_X12_state at hp
  refine xJ_aload_n hX dX12_state_0 rfl ?_
  refine xJ_iconst hX dX12_state_1 ?_
  refine xJ_putIM hX dX12_state_2 fd_X12_42 ft_X12 rfl rfl rfl rfl (oX12_k hL) hM ⟨by decide, by decide⟩ (fun M2 e2 hM2 => ?_)
  replace hp := hp M2 e2
  refine xJ_aload_n hX dX12_state_5 rfl ?_
  refine xJ_iload_n hX dX12_state_6 rfl ?_
  refine xJ_iconst hX dX12_state_7 ?_
  refine xJ_bipush hX dX12_state_8 rfl ?_
  refine xJ_callS (As := [_, _, _]) hX hB dX12_state_10 lk_X12_64 sm_X12_in (c_X12_in  hM2 hx1 ⟨by decide, by decide⟩ ⟨by decide, by decide⟩ hp) (by decide) rfl rfl rfl (Nat.le_of_ble_eq_true rfl) (by decide) (by decide) (fun v t9 M10 hv => ?_) (fun _ _ _ q => q.elim)
  obtain ⟨r10, rfl, h10, hM10, ht9, hp⟩ := hv
  replace ht9 := ht9.symm
  subst ht9
  dsimp only [Option.toList, List.cons_append, List.nil_append]
  refine xJ_if_ne hX dX12_state_13 (tgt := 20) (by decide) h10 (fun c13 => ?_) (fun c13 => ?_)
  · replace hp := hp.1 c13
    refine xJ_iconst hX dX12_state_20 ?_
    refine xJ_iconst hX dX12_state_21 ?_
    refine xJ_callV (As := [_, _]) hX hB dX12_state_22 lk_X12_178 im_X12_fails se_X12_fails rfl (by decide) (oX12_k hL) (c_X12_fails hL hM10 ⟨by decide, by decide⟩ ⟨by decide, by decide⟩ hp) (by decide) rfl rfl rfl (Nat.le_of_ble_eq_true rfl) (by decide) (by decide) (fun v t9 M22 hv => ?_) (fun _ _ _ q => q.elim)
    obtain ⟨r22, rfl, h22, hM22, ht9, hp⟩ := hv
    replace ht9 := ht9.symm
    subst ht9
    dsimp only [Option.toList, List.cons_append, List.nil_append]
    refine xJ_if_eq hX dX12_state_25 (tgt := 32) (by decide) h22 (fun c25 => ?_) (fun c25 => ?_)
    · replace hp := hp.1 c25
      refine xJ_aload_n hX dX12_state_32 rfl ?_
      refine xJ_getR (b := (a + 2)) hX dX12_state_33 fd_X12_17 rfl (oX12_k hL) (oX12_r8 hL) ?_
      refine xJ_iload_n hX dX12_state_36 rfl ?_
      obtain ⟨h37, hp⟩ := hp
      refine xJ_iald hX dX12_state_37 (oX12_k8 hL) h37.1 (xnlt (oX12_n8 hL) h37.2) ?_
      refine xJ_iret hX hB dX12_state_38 (by decide) (by decide) ⟨_, rfl, (hM22 _ _), hM22, rfl, hp⟩
    · replace hp := hp.2 c25
      refine xJ_iconst hX dX12_state_28 ?_
      refine xJ_goto hX dX12_state_29 (tgt := 38) (by decide) ?_
      refine xJ_iret hX hB dX12_state_38 (by decide) (by decide) ⟨_, rfl, ⟨by decide, by decide⟩, hM22, rfl, hp⟩
  · replace hp := hp.2 c13
    refine xJ_iconst hX dX12_state_16 ?_
    refine xJ_goto hX dX12_state_17 (tgt := 21) (by decide) ?_
    refine xJ_iconst hX dX12_state_21 ?_
    refine xJ_callV (As := [_, _]) hX hB dX12_state_22 lk_X12_178 im_X12_fails se_X12_fails rfl (by decide) (oX12_k hL) (c_X12_fails hL hM10 ⟨by decide, by decide⟩ ⟨by decide, by decide⟩ hp) (by decide) rfl rfl rfl (Nat.le_of_ble_eq_true rfl) (by decide) (by decide) (fun v t9 M22 hv => ?_) (fun _ _ _ q => q.elim)
    obtain ⟨r22, rfl, h22, hM22, ht9, hp⟩ := hv
    replace ht9 := ht9.symm
    subst ht9
    dsimp only [Option.toList, List.cons_append, List.nil_append]
    refine xJ_if_eq hX dX12_state_25 (tgt := 32) (by decide) h22 (fun c25 => ?_) (fun c25 => ?_)
    · replace hp := hp.1 c25
      refine xJ_aload_n hX dX12_state_32 rfl ?_
      refine xJ_getR (b := (a + 2)) hX dX12_state_33 fd_X12_17 rfl (oX12_k hL) (oX12_r8 hL) ?_
      refine xJ_iload_n hX dX12_state_36 rfl ?_
      obtain ⟨h37, hp⟩ := hp
      refine xJ_iald hX dX12_state_37 (oX12_k8 hL) h37.1 (xnlt (oX12_n8 hL) h37.2) ?_
      refine xJ_iret hX hB dX12_state_38 (by decide) (by decide) ⟨_, rfl, (hM22 _ _), hM22, rfl, hp⟩
    · replace hp := hp.2 c25
      refine xJ_iconst hX dX12_state_28 ?_
      refine xJ_goto hX dX12_state_29 (tgt := 38) (by decide) ?_
      refine xJ_iret hX hB dX12_state_38 (by decide) (by decide) ⟨_, rfl, ⟨by decide, by decide⟩, hM22, rfl, hp⟩
def p_X12_gate (a : Nat) (x1 : Int) (x2 : Int) (M : xMe) (Q : Int → xMe → Prop) : Prop :=
  (∀ M2 : xMe, M2 = xw M a 0 0 → p_X12_noGate a x1 M2 (fun r7 M7 => ((r7 ≠ 0 → Q 0 M7) ∧ (r7 = 0 → p_X12_noNumber a x2 0 2 M7 (fun r17 M17 => ((r17 = 0 → p_X12_ofGate a x1 x2 M17 (fun r30 M30 => Q r30 M30)) ∧ (r17 ≠ 0 → Q 0 M17)))))))
set_option maxHeartbeats 4000000 in
set_option maxRecDepth 100000 in
theorem c_X12_gate {G : xGx} {t : xTh} {M : xMe} {a : Nat} {x1 : Int} {x2 : Int} {Q : Int → xMe → Prop} (hL : oX12 t a) (hM : xMR M) (hx1 : xR x1) (hx2 : xR x2) (hp : p_X12_gate a x1 x2 M Q) : xCt G yX12_gate cX12_gate 3 (some .int) 2 0 0 [vr a, vi x1, vi x2] t M (fun v t' M' => ∃ r, v = some (vi r) ∧ xR r ∧ xMR M' ∧ t' = t ∧ Q r M') (fun _ _ _ => False) := by
  refine xCt_of (L0 := [vr a, vi x1, vi x2]) (by decide +kernel) (Nat.le_of_ble_eq_true rfl) rfl ?_
  intro X hX hB
  unfold p_X12_gate at hp
  refine xJ_aload_n hX dX12_gate_0 rfl ?_
  refine xJ_iconst hX dX12_gate_1 ?_
  refine xJ_putIM hX dX12_gate_2 fd_X12_42 ft_X12 rfl rfl rfl rfl (oX12_k hL) hM ⟨by decide, by decide⟩ (fun M2 e2 hM2 => ?_)
  replace hp := hp M2 e2
  refine xJ_aload_n hX dX12_gate_5 rfl ?_
  refine xJ_iload_n hX dX12_gate_6 rfl ?_
  refine xJ_callV (As := [_]) hX hB dX12_gate_7 lk_X12_265 im_X12_noGate se_X12_noGate rfl (by decide) (oX12_k hL) (c_X12_noGate hL hM2 hx1 hp) (by decide) rfl rfl rfl (Nat.le_of_ble_eq_true rfl) (by decide) (by decide) (fun v t9 M7 hv => ?_) (fun _ _ _ q => q.elim)
  obtain ⟨r7, rfl, h7, hM7, ht9, hp⟩ := hv
  replace ht9 := ht9.symm
  subst ht9
  dsimp only [Option.toList, List.cons_append, List.nil_append]
  refine xJ_if_ne hX dX12_gate_10 (tgt := 23) (by decide) h7 (fun c10 => ?_) (fun c10 => ?_)
  · replace hp := hp.1 c10
    refine xJ_iconst hX dX12_gate_23 ?_
    refine xJ_goto hX dX12_gate_24 (tgt := 33) (by decide) ?_
    refine xJ_iret hX hB dX12_gate_33 (by decide) (by decide) ⟨_, rfl, ⟨by decide, by decide⟩, hM7, rfl, hp⟩
  · replace hp := hp.2 c10
    refine xJ_aload_n hX dX12_gate_13 rfl ?_
    refine xJ_iload_n hX dX12_gate_14 rfl ?_
    refine xJ_iconst hX dX12_gate_15 ?_
    refine xJ_iconst hX dX12_gate_16 ?_
    refine xJ_callV (As := [_, _, _]) hX hB dX12_gate_17 lk_X12_268 im_X12_noNumber se_X12_noNumber rfl (by decide) (oX12_k hL) (c_X12_noNumber hL hM7 hx2 ⟨by decide, by decide⟩ ⟨by decide, by decide⟩ hp) (by decide) rfl rfl rfl (Nat.le_of_ble_eq_true rfl) (by decide) (by decide) (fun v t9 M17 hv => ?_) (fun _ _ _ q => q.elim)
    obtain ⟨r17, rfl, h17, hM17, ht9, hp⟩ := hv
    replace ht9 := ht9.symm
    subst ht9
    dsimp only [Option.toList, List.cons_append, List.nil_append]
    refine xJ_if_eq hX dX12_gate_20 (tgt := 27) (by decide) h17 (fun c20 => ?_) (fun c20 => ?_)
    · replace hp := hp.1 c20
      refine xJ_aload_n hX dX12_gate_27 rfl ?_
      refine xJ_iload_n hX dX12_gate_28 rfl ?_
      refine xJ_iload_n hX dX12_gate_29 rfl ?_
      refine xJ_callV (As := [_, _]) hX hB dX12_gate_30 lk_X12_226 im_X12_ofGate se_X12_ofGate rfl (by decide) (oX12_k hL) (c_X12_ofGate hL hM17 hx1 hx2 hp) (by decide) rfl rfl rfl (Nat.le_of_ble_eq_true rfl) (by decide) (by decide) (fun v t9 M30 hv => ?_) (fun _ _ _ q => q.elim)
      obtain ⟨r30, rfl, h30, hM30, ht9, hp⟩ := hv
      replace ht9 := ht9.symm
      subst ht9
      dsimp only [Option.toList, List.cons_append, List.nil_append]
      refine xJ_iret hX hB dX12_gate_33 (by decide) (by decide) ⟨_, rfl, h30, hM30, rfl, hp⟩
    · replace hp := hp.2 c20
      refine xJ_iconst hX dX12_gate_23 ?_
      refine xJ_goto hX dX12_gate_24 (tgt := 33) (by decide) ?_
      refine xJ_iret hX hB dX12_gate_33 (by decide) (by decide) ⟨_, rfl, ⟨by decide, by decide⟩, hM17, rfl, hp⟩
def p_X12_toldFlow (F : Nat) (a : Nat) (x1 : Int) (x2 : Int) (M : xMe) (Q : Int → xMe → Prop) : Prop :=
  ((3 ≤ x2 → ((x2 ≠ 3 → ((x2 ≠ 4 → p_X12_ofFlow a x1 3 M (fun r43 M43 => Q r43 M43)) ∧ (x2 = 4 → p_X12_valuesOf F a x1 M (fun r34 M34 => Q r34 M34)))) ∧ (x2 = 3 → p_X12_couponsOf F a x1 M (fun r21 M21 => Q r21 M21)))) ∧ (x2 < 3 → p_X12_ofFlow a x1 x2 M (fun r8 M8 => Q r8 M8)))
set_option maxHeartbeats 4000000 in
set_option maxRecDepth 100000 in
theorem c_X12_toldFlow {G : xGx} {t : xTh} {M : xMe} {F : Nat} {a : Nat} {x1 : Int} {x2 : Int} {Q : Int → xMe → Prop} (hL : oX12 t a) (hM : xMR M) (hx1 : xR x1) (hx2 : xR x2) (hp : p_X12_toldFlow F a x1 x2 M Q) : xCt G yX12_toldFlow cX12_toldFlow 3 (some .int) 2 0 0 [vr a, vi x1, vi x2] t M (fun v t' M' => ∃ r, v = some (vi r) ∧ xR r ∧ xMR M' ∧ t' = t ∧ Q r M') (fun _ _ _ => False) := by
  refine xCt_of (L0 := [vr a, vi x1, vi x2]) (by decide +kernel) (Nat.le_of_ble_eq_true rfl) rfl ?_
  intro X hX hB
  unfold p_X12_toldFlow at hp
  refine xJ_iload_n hX dX12_toldFlow_0 rfl ?_
  refine xJ_iconst hX dX12_toldFlow_1 ?_
  refine xJ_icmp_ge hX dX12_toldFlow_2 (tgt := 14) (by decide) hx2 ⟨by decide, by decide⟩ (fun c2 => ?_) (fun c2 => ?_)
  · replace hp := hp.1 c2
    refine xJ_iload_n hX dX12_toldFlow_14 rfl ?_
    refine xJ_iconst hX dX12_toldFlow_15 ?_
    refine xJ_icmp_ne hX dX12_toldFlow_16 (tgt := 27) (by decide) hx2 ⟨by decide, by decide⟩ (fun c16 => ?_) (fun c16 => ?_)
    · replace hp := hp.1 c16
      refine xJ_iload_n hX dX12_toldFlow_27 rfl ?_
      refine xJ_iconst hX dX12_toldFlow_28 ?_
      refine xJ_icmp_ne hX dX12_toldFlow_29 (tgt := 40) (by decide) hx2 ⟨by decide, by decide⟩ (fun c29 => ?_) (fun c29 => ?_)
      · replace hp := hp.1 c29
        refine xJ_aload_n hX dX12_toldFlow_40 rfl ?_
        refine xJ_iload_n hX dX12_toldFlow_41 rfl ?_
        refine xJ_iconst hX dX12_toldFlow_42 ?_
        refine xJ_callV (As := [_, _]) hX hB dX12_toldFlow_43 lk_X12_200 im_X12_ofFlow se_X12_ofFlow rfl (by decide) (oX12_k hL) (c_X12_ofFlow hL hM hx1 ⟨by decide, by decide⟩ hp) (by decide) rfl rfl rfl (Nat.le_of_ble_eq_true rfl) (by decide) (by decide) (fun v t9 M43 hv => ?_) (fun _ _ _ q => q.elim)
        obtain ⟨r43, rfl, h43, hM43, ht9, hp⟩ := hv
        replace ht9 := ht9.symm
        subst ht9
        dsimp only [Option.toList, List.cons_append, List.nil_append]
        refine xJ_iret hX hB dX12_toldFlow_46 (by decide) (by decide) ⟨_, rfl, h43, hM43, rfl, hp⟩
      · replace hp := hp.2 c29
        refine xJ_aload_n hX dX12_toldFlow_32 rfl ?_
        refine xJ_iload_n hX dX12_toldFlow_33 rfl ?_
        refine xJ_callV (As := [_]) hX hB dX12_toldFlow_34 lk_X12_234 im_X12_valuesOf se_X12_valuesOf rfl (by decide) (oX12_k hL) (c_X12_valuesOf hL hM hx1 hp) (by decide) rfl rfl rfl (Nat.le_of_ble_eq_true rfl) (by decide) (by decide) (fun v t9 M34 hv => ?_) (fun _ _ _ q => q.elim)
        obtain ⟨r34, rfl, h34, hM34, ht9, hp⟩ := hv
        replace ht9 := ht9.symm
        subst ht9
        dsimp only [Option.toList, List.cons_append, List.nil_append]
        refine xJ_goto hX dX12_toldFlow_37 (tgt := 46) (by decide) ?_
        refine xJ_iret hX hB dX12_toldFlow_46 (by decide) (by decide) ⟨_, rfl, h34, hM34, rfl, hp⟩
    · replace hp := hp.2 c16
      refine xJ_aload_n hX dX12_toldFlow_19 rfl ?_
      refine xJ_iload_n hX dX12_toldFlow_20 rfl ?_
      refine xJ_callV (As := [_]) hX hB dX12_toldFlow_21 lk_X12_271 im_X12_couponsOf se_X12_couponsOf rfl (by decide) (oX12_k hL) (c_X12_couponsOf hL hM hx1 hp) (by decide) rfl rfl rfl (Nat.le_of_ble_eq_true rfl) (by decide) (by decide) (fun v t9 M21 hv => ?_) (fun _ _ _ q => q.elim)
      obtain ⟨r21, rfl, h21, hM21, ht9, hp⟩ := hv
      replace ht9 := ht9.symm
      subst ht9
      dsimp only [Option.toList, List.cons_append, List.nil_append]
      refine xJ_goto hX dX12_toldFlow_24 (tgt := 46) (by decide) ?_
      refine xJ_iret hX hB dX12_toldFlow_46 (by decide) (by decide) ⟨_, rfl, h21, hM21, rfl, hp⟩
  · replace hp := hp.2 c2
    refine xJ_aload_n hX dX12_toldFlow_5 rfl ?_
    refine xJ_iload_n hX dX12_toldFlow_6 rfl ?_
    refine xJ_iload_n hX dX12_toldFlow_7 rfl ?_
    refine xJ_callV (As := [_, _]) hX hB dX12_toldFlow_8 lk_X12_200 im_X12_ofFlow se_X12_ofFlow rfl (by decide) (oX12_k hL) (c_X12_ofFlow hL hM hx1 hx2 hp) (by decide) rfl rfl rfl (Nat.le_of_ble_eq_true rfl) (by decide) (by decide) (fun v t9 M8 hv => ?_) (fun _ _ _ q => q.elim)
    obtain ⟨r8, rfl, h8, hM8, ht9, hp⟩ := hv
    replace ht9 := ht9.symm
    subst ht9
    dsimp only [Option.toList, List.cons_append, List.nil_append]
    refine xJ_goto hX dX12_toldFlow_11 (tgt := 46) (by decide) ?_
    refine xJ_iret hX hB dX12_toldFlow_46 (by decide) (by decide) ⟨_, rfl, h8, hM8, rfl, hp⟩
def p_X12_flow (F : Nat) (a : Nat) (x1 : Int) (x2 : Int) (M : xMe) (Q : Int → xMe → Prop) : Prop :=
  (∀ M2 : xMe, M2 = xw M a 0 0 → p_X12_noFlow a x1 M2 (fun r7 M7 => ((r7 ≠ 0 → Q 0 M7) ∧ (r7 = 0 → p_X12_noNumber a x2 0 5 M7 (fun r17 M17 => ((r17 = 0 → p_X12_toldFlow F a x1 x2 M17 (fun r30 M30 => Q r30 M30)) ∧ (r17 ≠ 0 → Q 0 M17)))))))
set_option maxHeartbeats 4000000 in
set_option maxRecDepth 100000 in
theorem c_X12_flow {G : xGx} {t : xTh} {M : xMe} {F : Nat} {a : Nat} {x1 : Int} {x2 : Int} {Q : Int → xMe → Prop} (hL : oX12 t a) (hM : xMR M) (hx1 : xR x1) (hx2 : xR x2) (hp : p_X12_flow F a x1 x2 M Q) : xCt G yX12_flow cX12_flow 3 (some .int) 3 0 0 [vr a, vi x1, vi x2] t M (fun v t' M' => ∃ r, v = some (vi r) ∧ xR r ∧ xMR M' ∧ t' = t ∧ Q r M') (fun _ _ _ => False) := by
  refine xCt_of (L0 := [vr a, vi x1, vi x2]) (by decide +kernel) (Nat.le_of_ble_eq_true rfl) rfl ?_
  intro X hX hB
  unfold p_X12_flow at hp
  refine xJ_aload_n hX dX12_flow_0 rfl ?_
  refine xJ_iconst hX dX12_flow_1 ?_
  refine xJ_putIM hX dX12_flow_2 fd_X12_42 ft_X12 rfl rfl rfl rfl (oX12_k hL) hM ⟨by decide, by decide⟩ (fun M2 e2 hM2 => ?_)
  replace hp := hp M2 e2
  refine xJ_aload_n hX dX12_flow_5 rfl ?_
  refine xJ_iload_n hX dX12_flow_6 rfl ?_
  refine xJ_callV (As := [_]) hX hB dX12_flow_7 lk_X12_274 im_X12_noFlow se_X12_noFlow rfl (by decide) (oX12_k hL) (c_X12_noFlow hL hM2 hx1 hp) (by decide) rfl rfl rfl (Nat.le_of_ble_eq_true rfl) (by decide) (by decide) (fun v t9 M7 hv => ?_) (fun _ _ _ q => q.elim)
  obtain ⟨r7, rfl, h7, hM7, ht9, hp⟩ := hv
  replace ht9 := ht9.symm
  subst ht9
  dsimp only [Option.toList, List.cons_append, List.nil_append]
  refine xJ_if_ne hX dX12_flow_10 (tgt := 23) (by decide) h7 (fun c10 => ?_) (fun c10 => ?_)
  · replace hp := hp.1 c10
    refine xJ_iconst hX dX12_flow_23 ?_
    refine xJ_goto hX dX12_flow_24 (tgt := 33) (by decide) ?_
    refine xJ_iret hX hB dX12_flow_33 (by decide) (by decide) ⟨_, rfl, ⟨by decide, by decide⟩, hM7, rfl, hp⟩
  · replace hp := hp.2 c10
    refine xJ_aload_n hX dX12_flow_13 rfl ?_
    refine xJ_iload_n hX dX12_flow_14 rfl ?_
    refine xJ_iconst hX dX12_flow_15 ?_
    refine xJ_iconst hX dX12_flow_16 ?_
    refine xJ_callV (As := [_, _, _]) hX hB dX12_flow_17 lk_X12_268 im_X12_noNumber se_X12_noNumber rfl (by decide) (oX12_k hL) (c_X12_noNumber hL hM7 hx2 ⟨by decide, by decide⟩ ⟨by decide, by decide⟩ hp) (by decide) rfl rfl rfl (Nat.le_of_ble_eq_true rfl) (by decide) (by decide) (fun v t9 M17 hv => ?_) (fun _ _ _ q => q.elim)
    obtain ⟨r17, rfl, h17, hM17, ht9, hp⟩ := hv
    replace ht9 := ht9.symm
    subst ht9
    dsimp only [Option.toList, List.cons_append, List.nil_append]
    refine xJ_if_eq hX dX12_flow_20 (tgt := 27) (by decide) h17 (fun c20 => ?_) (fun c20 => ?_)
    · replace hp := hp.1 c20
      refine xJ_aload_n hX dX12_flow_27 rfl ?_
      refine xJ_iload_n hX dX12_flow_28 rfl ?_
      refine xJ_iload_n hX dX12_flow_29 rfl ?_
      refine xJ_callV (As := [_, _]) hX hB dX12_flow_30 lk_X12_277 im_X12_toldFlow se_X12_toldFlow rfl (by decide) (oX12_k hL) (c_X12_toldFlow hL hM17 hx1 hx2 hp) (by decide) rfl rfl rfl (Nat.le_of_ble_eq_true rfl) (by decide) (by decide) (fun v t9 M30 hv => ?_) (fun _ _ _ q => q.elim)
      obtain ⟨r30, rfl, h30, hM30, ht9, hp⟩ := hv
      replace ht9 := ht9.symm
      subst ht9
      dsimp only [Option.toList, List.cons_append, List.nil_append]
      refine xJ_iret hX hB dX12_flow_33 (by decide) (by decide) ⟨_, rfl, h30, hM30, rfl, hp⟩
    · replace hp := hp.2 c20
      refine xJ_iconst hX dX12_flow_23 ?_
      refine xJ_goto hX dX12_flow_24 (tgt := 33) (by decide) ?_
      refine xJ_iret hX hB dX12_flow_33 (by decide) (by decide) ⟨_, rfl, ⟨by decide, by decide⟩, hM17, rfl, hp⟩
def p_X12_route (a : Nat) (x1 : Int) (x2 : Int) (M : xMe) (Q : Int → xMe → Prop) : Prop :=
  (∀ M2 : xMe, M2 = xw M a 0 0 → p_X12_noFlow a x1 M2 (fun r7 M7 => ((r7 ≠ 0 → Q 0 M7) ∧ (r7 = 0 → p_X12_ofFlow a x1 0 M7 (fun r19 M19 => (xR (r19 - 1)) ∧ p_X12_noNumber a x2 0 (r19 - 1) M19 (fun r24 M24 => ((r24 = 0 → (xR (4 + x2)) ∧ p_X12_ofFlow a x1 (4 + x2) M24 (fun r39 M39 => Q r39 M39)) ∧ (r24 ≠ 0 → Q 0 M24))))))))
set_option maxHeartbeats 4000000 in
set_option maxRecDepth 100000 in
theorem c_X12_route {G : xGx} {t : xTh} {M : xMe} {a : Nat} {x1 : Int} {x2 : Int} {Q : Int → xMe → Prop} (hL : oX12 t a) (hM : xMR M) (hx1 : xR x1) (hx2 : xR x2) (hp : p_X12_route a x1 x2 M Q) : xCt G yX12_route cX12_route 3 (some .int) 2 0 0 [vr a, vi x1, vi x2] t M (fun v t' M' => ∃ r, v = some (vi r) ∧ xR r ∧ xMR M' ∧ t' = t ∧ Q r M') (fun _ _ _ => False) := by
  refine xCt_of (L0 := [vr a, vi x1, vi x2]) (by decide +kernel) (Nat.le_of_ble_eq_true rfl) rfl ?_
  intro X hX hB
  unfold p_X12_route at hp
  refine xJ_aload_n hX dX12_route_0 rfl ?_
  refine xJ_iconst hX dX12_route_1 ?_
  refine xJ_putIM hX dX12_route_2 fd_X12_42 ft_X12 rfl rfl rfl rfl (oX12_k hL) hM ⟨by decide, by decide⟩ (fun M2 e2 hM2 => ?_)
  replace hp := hp M2 e2
  refine xJ_aload_n hX dX12_route_5 rfl ?_
  refine xJ_iload_n hX dX12_route_6 rfl ?_
  refine xJ_callV (As := [_]) hX hB dX12_route_7 lk_X12_274 im_X12_noFlow se_X12_noFlow rfl (by decide) (oX12_k hL) (c_X12_noFlow hL hM2 hx1 hp) (by decide) rfl rfl rfl (Nat.le_of_ble_eq_true rfl) (by decide) (by decide) (fun v t9 M7 hv => ?_) (fun _ _ _ q => q.elim)
  obtain ⟨r7, rfl, h7, hM7, ht9, hp⟩ := hv
  replace ht9 := ht9.symm
  subst ht9
  dsimp only [Option.toList, List.cons_append, List.nil_append]
  refine xJ_if_ne hX dX12_route_10 (tgt := 30) (by decide) h7 (fun c10 => ?_) (fun c10 => ?_)
  · replace hp := hp.1 c10
    refine xJ_iconst hX dX12_route_30 ?_
    refine xJ_goto hX dX12_route_31 (tgt := 42) (by decide) ?_
    refine xJ_iret hX hB dX12_route_42 (by decide) (by decide) ⟨_, rfl, ⟨by decide, by decide⟩, hM7, rfl, hp⟩
  · replace hp := hp.2 c10
    refine xJ_aload_n hX dX12_route_13 rfl ?_
    refine xJ_iload_n hX dX12_route_14 rfl ?_
    refine xJ_iconst hX dX12_route_15 ?_
    refine xJ_aload_n hX dX12_route_16 rfl ?_
    refine xJ_iload_n hX dX12_route_17 rfl ?_
    refine xJ_iconst hX dX12_route_18 ?_
    refine xJ_callV (As := [_, _]) hX hB dX12_route_19 lk_X12_200 im_X12_ofFlow se_X12_ofFlow rfl (by decide) (oX12_k hL) (c_X12_ofFlow hL hM7 hx1 ⟨by decide, by decide⟩ hp) (by decide) rfl rfl rfl (Nat.le_of_ble_eq_true rfl) (by decide) (by decide) (fun v t9 M19 hv => ?_) (fun _ _ _ q => q.elim)
    obtain ⟨r19, rfl, h19, hM19, ht9, hp⟩ := hv
    replace ht9 := ht9.symm
    subst ht9
    dsimp only [Option.toList, List.cons_append, List.nil_append]
    refine xJ_iconst hX dX12_route_22 ?_
    refine xJ_isub hX dX12_route_23 ?_
    obtain ⟨h23, hp⟩ := hp
    refine xJ_callV (As := [_, _, _]) hX hB dX12_route_24 lk_X12_268 im_X12_noNumber se_X12_noNumber rfl (by decide) (oX12_k hL) (c_X12_noNumber hL hM19 hx2 ⟨by decide, by decide⟩ h23 hp) (by decide) rfl rfl rfl (Nat.le_of_ble_eq_true rfl) (by decide) (by decide) (fun v t9 M24 hv => ?_) (fun _ _ _ q => q.elim)
    obtain ⟨r24, rfl, h24, hM24, ht9, hp⟩ := hv
    replace ht9 := ht9.symm
    subst ht9
    dsimp only [Option.toList, List.cons_append, List.nil_append]
    refine xJ_if_eq hX dX12_route_27 (tgt := 34) (by decide) h24 (fun c27 => ?_) (fun c27 => ?_)
    · replace hp := hp.1 c27
      refine xJ_aload_n hX dX12_route_34 rfl ?_
      refine xJ_iload_n hX dX12_route_35 rfl ?_
      refine xJ_iconst hX dX12_route_36 ?_
      refine xJ_iload_n hX dX12_route_37 rfl ?_
      refine xJ_iadd hX dX12_route_38 ?_
      obtain ⟨h38, hp⟩ := hp
      refine xJ_callV (As := [_, _]) hX hB dX12_route_39 lk_X12_200 im_X12_ofFlow se_X12_ofFlow rfl (by decide) (oX12_k hL) (c_X12_ofFlow hL hM24 hx1 h38 hp) (by decide) rfl rfl rfl (Nat.le_of_ble_eq_true rfl) (by decide) (by decide) (fun v t9 M39 hv => ?_) (fun _ _ _ q => q.elim)
      obtain ⟨r39, rfl, h39, hM39, ht9, hp⟩ := hv
      replace ht9 := ht9.symm
      subst ht9
      dsimp only [Option.toList, List.cons_append, List.nil_append]
      refine xJ_iret hX hB dX12_route_42 (by decide) (by decide) ⟨_, rfl, h39, hM39, rfl, hp⟩
    · replace hp := hp.2 c27
      refine xJ_iconst hX dX12_route_30 ?_
      refine xJ_goto hX dX12_route_31 (tgt := 42) (by decide) ?_
      refine xJ_iret hX hB dX12_route_42 (by decide) (by decide) ⟨_, rfl, ⟨by decide, by decide⟩, hM24, rfl, hp⟩
def p_X12_tokens (a : Nat) (x1 : Int) (x2 : Int) (M : xMe) (Q : Int → xMe → Prop) : Prop :=
  (∀ M2 : xMe, M2 = xw M a 0 0 → p_X12_noGate a x1 M2 (fun r7 M7 => ((r7 ≠ 0 → Q 0 M7) ∧ (r7 = 0 → p_X12_noFlow a x2 M7 (fun r15 M15 => ((r15 = 0 → p_X12_pairAt x1 x2 M15 (fun r31 M31 => (xR (r31 + 0)) ∧ ((0 : Int) ≤ (r31 + 0) ∧ ((r31 + 0) : Int) < 2105) ∧ Q (M31 (a + 2) (r31 + 0).toNat) M31)) ∧ (r15 ≠ 0 → Q 0 M15)))))))
set_option maxHeartbeats 4000000 in
set_option maxRecDepth 100000 in
theorem c_X12_tokens {G : xGx} {t : xTh} {M : xMe} {a : Nat} {x1 : Int} {x2 : Int} {Q : Int → xMe → Prop} (hL : oX12 t a) (hM : xMR M) (hx1 : xR x1) (hx2 : xR x2) (hp : p_X12_tokens a x1 x2 M Q) : xCt G yX12_tokens cX12_tokens 3 (some .int) 2 0 0 [vr a, vi x1, vi x2] t M (fun v t' M' => ∃ r, v = some (vi r) ∧ xR r ∧ xMR M' ∧ t' = t ∧ Q r M') (fun _ _ _ => False) := by
  refine xCt_of (L0 := [vr a, vi x1, vi x2]) (by decide +kernel) (Nat.le_of_ble_eq_true rfl) rfl ?_
  intro X hX hB
  unfold p_X12_tokens at hp
  refine xJ_aload_n hX dX12_tokens_0 rfl ?_
  refine xJ_iconst hX dX12_tokens_1 ?_
  refine xJ_putIM hX dX12_tokens_2 fd_X12_42 ft_X12 rfl rfl rfl rfl (oX12_k hL) hM ⟨by decide, by decide⟩ (fun M2 e2 hM2 => ?_)
  replace hp := hp M2 e2
  refine xJ_aload_n hX dX12_tokens_5 rfl ?_
  refine xJ_iload_n hX dX12_tokens_6 rfl ?_
  refine xJ_callV (As := [_]) hX hB dX12_tokens_7 lk_X12_265 im_X12_noGate se_X12_noGate rfl (by decide) (oX12_k hL) (c_X12_noGate hL hM2 hx1 hp) (by decide) rfl rfl rfl (Nat.le_of_ble_eq_true rfl) (by decide) (by decide) (fun v t9 M7 hv => ?_) (fun _ _ _ q => q.elim)
  obtain ⟨r7, rfl, h7, hM7, ht9, hp⟩ := hv
  replace ht9 := ht9.symm
  subst ht9
  dsimp only [Option.toList, List.cons_append, List.nil_append]
  refine xJ_if_ne hX dX12_tokens_10 (tgt := 21) (by decide) h7 (fun c10 => ?_) (fun c10 => ?_)
  · replace hp := hp.1 c10
    refine xJ_iconst hX dX12_tokens_21 ?_
    refine xJ_goto hX dX12_tokens_22 (tgt := 37) (by decide) ?_
    refine xJ_iret hX hB dX12_tokens_37 (by decide) (by decide) ⟨_, rfl, ⟨by decide, by decide⟩, hM7, rfl, hp⟩
  · replace hp := hp.2 c10
    refine xJ_aload_n hX dX12_tokens_13 rfl ?_
    refine xJ_iload_n hX dX12_tokens_14 rfl ?_
    refine xJ_callV (As := [_]) hX hB dX12_tokens_15 lk_X12_274 im_X12_noFlow se_X12_noFlow rfl (by decide) (oX12_k hL) (c_X12_noFlow hL hM7 hx2 hp) (by decide) rfl rfl rfl (Nat.le_of_ble_eq_true rfl) (by decide) (by decide) (fun v t9 M15 hv => ?_) (fun _ _ _ q => q.elim)
    obtain ⟨r15, rfl, h15, hM15, ht9, hp⟩ := hv
    replace ht9 := ht9.symm
    subst ht9
    dsimp only [Option.toList, List.cons_append, List.nil_append]
    refine xJ_if_eq hX dX12_tokens_18 (tgt := 25) (by decide) h15 (fun c18 => ?_) (fun c18 => ?_)
    · replace hp := hp.1 c18
      refine xJ_aload_n hX dX12_tokens_25 rfl ?_
      refine xJ_getR (b := (a + 2)) hX dX12_tokens_26 fd_X12_17 rfl (oX12_k hL) (oX12_r8 hL) ?_
      refine xJ_iload_n hX dX12_tokens_29 rfl ?_
      refine xJ_iload_n hX dX12_tokens_30 rfl ?_
      refine xJ_callS (As := [_, _]) hX hB dX12_tokens_31 lk_X12_187 sm_X12_pairAt (c_X12_pairAt  hM15 hx1 hx2 hp) (by decide) rfl rfl rfl (Nat.le_of_ble_eq_true rfl) (by decide) (by decide) (fun v t9 M31 hv => ?_) (fun _ _ _ q => q.elim)
      obtain ⟨r31, rfl, h31, hM31, ht9, hp⟩ := hv
      replace ht9 := ht9.symm
      subst ht9
      dsimp only [Option.toList, List.cons_append, List.nil_append]
      refine xJ_iconst hX dX12_tokens_34 ?_
      refine xJ_iadd hX dX12_tokens_35 ?_
      obtain ⟨h35, hp⟩ := hp
      obtain ⟨h36, hp⟩ := hp
      refine xJ_iald hX dX12_tokens_36 (oX12_k8 hL) h36.1 (xnlt (oX12_n8 hL) h36.2) ?_
      refine xJ_iret hX hB dX12_tokens_37 (by decide) (by decide) ⟨_, rfl, (hM31 _ _), hM31, rfl, hp⟩
    · replace hp := hp.2 c18
      refine xJ_iconst hX dX12_tokens_21 ?_
      refine xJ_goto hX dX12_tokens_22 (tgt := 37) (by decide) ?_
      refine xJ_iret hX hB dX12_tokens_37 (by decide) (by decide) ⟨_, rfl, ⟨by decide, by decide⟩, hM15, rfl, hp⟩
def p_X12_queue (a : Nat) (x1 : Int) (x2 : Int) (M : xMe) (Q : Int → xMe → Prop) : Prop :=
  (∀ M2 : xMe, M2 = xw M a 0 0 → p_X12_noGate a x1 M2 (fun r7 M7 => ((r7 ≠ 0 → Q 0 M7) ∧ (r7 = 0 → p_X12_noFlow a x2 M7 (fun r15 M15 => ((r15 = 0 → p_X12_pairAt x1 x2 M15 (fun r31 M31 => (xR (r31 + 1)) ∧ ((0 : Int) ≤ (r31 + 1) ∧ ((r31 + 1) : Int) < 2105) ∧ Q (M31 (a + 2) (r31 + 1).toNat) M31)) ∧ (r15 ≠ 0 → Q 0 M15)))))))
set_option maxHeartbeats 4000000 in
set_option maxRecDepth 100000 in
theorem c_X12_queue {G : xGx} {t : xTh} {M : xMe} {a : Nat} {x1 : Int} {x2 : Int} {Q : Int → xMe → Prop} (hL : oX12 t a) (hM : xMR M) (hx1 : xR x1) (hx2 : xR x2) (hp : p_X12_queue a x1 x2 M Q) : xCt G yX12_queue cX12_queue 3 (some .int) 2 0 0 [vr a, vi x1, vi x2] t M (fun v t' M' => ∃ r, v = some (vi r) ∧ xR r ∧ xMR M' ∧ t' = t ∧ Q r M') (fun _ _ _ => False) := by
  refine xCt_of (L0 := [vr a, vi x1, vi x2]) (by decide +kernel) (Nat.le_of_ble_eq_true rfl) rfl ?_
  intro X hX hB
  unfold p_X12_queue at hp
  refine xJ_aload_n hX dX12_queue_0 rfl ?_
  refine xJ_iconst hX dX12_queue_1 ?_
  refine xJ_putIM hX dX12_queue_2 fd_X12_42 ft_X12 rfl rfl rfl rfl (oX12_k hL) hM ⟨by decide, by decide⟩ (fun M2 e2 hM2 => ?_)
  replace hp := hp M2 e2
  refine xJ_aload_n hX dX12_queue_5 rfl ?_
  refine xJ_iload_n hX dX12_queue_6 rfl ?_
  refine xJ_callV (As := [_]) hX hB dX12_queue_7 lk_X12_265 im_X12_noGate se_X12_noGate rfl (by decide) (oX12_k hL) (c_X12_noGate hL hM2 hx1 hp) (by decide) rfl rfl rfl (Nat.le_of_ble_eq_true rfl) (by decide) (by decide) (fun v t9 M7 hv => ?_) (fun _ _ _ q => q.elim)
  obtain ⟨r7, rfl, h7, hM7, ht9, hp⟩ := hv
  replace ht9 := ht9.symm
  subst ht9
  dsimp only [Option.toList, List.cons_append, List.nil_append]
  refine xJ_if_ne hX dX12_queue_10 (tgt := 21) (by decide) h7 (fun c10 => ?_) (fun c10 => ?_)
  · replace hp := hp.1 c10
    refine xJ_iconst hX dX12_queue_21 ?_
    refine xJ_goto hX dX12_queue_22 (tgt := 37) (by decide) ?_
    refine xJ_iret hX hB dX12_queue_37 (by decide) (by decide) ⟨_, rfl, ⟨by decide, by decide⟩, hM7, rfl, hp⟩
  · replace hp := hp.2 c10
    refine xJ_aload_n hX dX12_queue_13 rfl ?_
    refine xJ_iload_n hX dX12_queue_14 rfl ?_
    refine xJ_callV (As := [_]) hX hB dX12_queue_15 lk_X12_274 im_X12_noFlow se_X12_noFlow rfl (by decide) (oX12_k hL) (c_X12_noFlow hL hM7 hx2 hp) (by decide) rfl rfl rfl (Nat.le_of_ble_eq_true rfl) (by decide) (by decide) (fun v t9 M15 hv => ?_) (fun _ _ _ q => q.elim)
    obtain ⟨r15, rfl, h15, hM15, ht9, hp⟩ := hv
    replace ht9 := ht9.symm
    subst ht9
    dsimp only [Option.toList, List.cons_append, List.nil_append]
    refine xJ_if_eq hX dX12_queue_18 (tgt := 25) (by decide) h15 (fun c18 => ?_) (fun c18 => ?_)
    · replace hp := hp.1 c18
      refine xJ_aload_n hX dX12_queue_25 rfl ?_
      refine xJ_getR (b := (a + 2)) hX dX12_queue_26 fd_X12_17 rfl (oX12_k hL) (oX12_r8 hL) ?_
      refine xJ_iload_n hX dX12_queue_29 rfl ?_
      refine xJ_iload_n hX dX12_queue_30 rfl ?_
      refine xJ_callS (As := [_, _]) hX hB dX12_queue_31 lk_X12_187 sm_X12_pairAt (c_X12_pairAt  hM15 hx1 hx2 hp) (by decide) rfl rfl rfl (Nat.le_of_ble_eq_true rfl) (by decide) (by decide) (fun v t9 M31 hv => ?_) (fun _ _ _ q => q.elim)
      obtain ⟨r31, rfl, h31, hM31, ht9, hp⟩ := hv
      replace ht9 := ht9.symm
      subst ht9
      dsimp only [Option.toList, List.cons_append, List.nil_append]
      refine xJ_iconst hX dX12_queue_34 ?_
      refine xJ_iadd hX dX12_queue_35 ?_
      obtain ⟨h35, hp⟩ := hp
      obtain ⟨h36, hp⟩ := hp
      refine xJ_iald hX dX12_queue_36 (oX12_k8 hL) h36.1 (xnlt (oX12_n8 hL) h36.2) ?_
      refine xJ_iret hX hB dX12_queue_37 (by decide) (by decide) ⟨_, rfl, (hM31 _ _), hM31, rfl, hp⟩
    · replace hp := hp.2 c18
      refine xJ_iconst hX dX12_queue_21 ?_
      refine xJ_goto hX dX12_queue_22 (tgt := 37) (by decide) ?_
      refine xJ_iret hX hB dX12_queue_37 (by decide) (by decide) ⟨_, rfl, ⟨by decide, by decide⟩, hM15, rfl, hp⟩
def p_X12_toldPacket (a : Nat) (x1 : Int) (x2 : Int) (M : xMe) (Q : Int → xMe → Prop) : Prop :=
  p_X12_packetAt x1 M (fun r5 M5 => (xR (r5 + 3)) ∧ ((0 : Int) ≤ (r5 + 3) ∧ ((r5 + 3) : Int) < 2105) ∧ (∀ z11 : Int, z11 = M5 (a + 2) (r5 + 3).toNat → ((x2 = 4 → ((z11 = 1 → p_X12_gateOf a x1 M5 (fun r43 M43 => Q r43 M43)) ∧ (z11 ≠ 1 → ((z11 ≠ 2 → Q ((-1)) M5) ∧ (z11 = 2 → p_X12_gateOf a x1 M5 (fun r43 M43 => Q r43 M43)))))) ∧ (x2 ≠ 4 → p_X12_packetAt x1 M5 (fun r22 M22 => (xR (r22 + x2)) ∧ ((0 : Int) ≤ (r22 + x2) ∧ ((r22 + x2) : Int) < 2105) ∧ Q (M22 (a + 2) (r22 + x2).toNat) M22)))))
set_option maxHeartbeats 4000000 in
set_option maxRecDepth 100000 in
theorem c_X12_toldPacket {G : xGx} {t : xTh} {M : xMe} {a : Nat} {x1 : Int} {x2 : Int} {Q : Int → xMe → Prop} (hL : oX12 t a) (hM : xMR M) (hx1 : xR x1) (hx2 : xR x2) (hp : p_X12_toldPacket a x1 x2 M Q) : xCt G yX12_toldPacket cX12_toldPacket 4 (some .int) 2 0 0 [vr a, vi x1, vi x2] t M (fun v t' M' => ∃ r, v = some (vi r) ∧ xR r ∧ xMR M' ∧ t' = t ∧ Q r M') (fun _ _ _ => False) := by
  refine xCt_of (L0 := [vr a, vi x1, vi x2, vU]) (by decide +kernel) (Nat.le_of_ble_eq_true rfl) rfl ?_
  intro X hX hB
  unfold p_X12_toldPacket at hp
  refine xJ_aload_n hX dX12_toldPacket_0 rfl ?_
  refine xJ_getR (b := (a + 2)) hX dX12_toldPacket_1 fd_X12_17 rfl (oX12_k hL) (oX12_r8 hL) ?_
  refine xJ_iload_n hX dX12_toldPacket_4 rfl ?_
  refine xJ_callS (As := [_]) hX hB dX12_toldPacket_5 lk_X12_197 sm_X12_packetAt (c_X12_packetAt  hM hx1 hp) (by decide) rfl rfl rfl (Nat.le_of_ble_eq_true rfl) (by decide) (by decide) (fun v t9 M5 hv => ?_) (fun _ _ _ q => q.elim)
  obtain ⟨r5, rfl, h5, hM5, ht9, hp⟩ := hv
  replace ht9 := ht9.symm
  subst ht9
  dsimp only [Option.toList, List.cons_append, List.nil_append]
  refine xJ_iconst hX dX12_toldPacket_8 ?_
  refine xJ_iadd hX dX12_toldPacket_9 ?_
  obtain ⟨h9, hp⟩ := hp
  obtain ⟨h10, hp⟩ := hp
  refine xJ_iald hX dX12_toldPacket_10 (oX12_k8 hL) h10.1 (xnlt (oX12_n8 hL) h10.2) ?_
  refine xJ_istore_n hX dX12_toldPacket_11 (Nat.le_of_ble_eq_true rfl) rfl ?_
  dsimp only [List.set]
  replace hp := hp _ rfl
  refine xJ_iload_n hX dX12_toldPacket_12 rfl ?_
  refine xJ_iconst hX dX12_toldPacket_13 ?_
  refine xJ_icmp_eq hX dX12_toldPacket_14 (tgt := 31) (by decide) hx2 ⟨by decide, by decide⟩ (fun c14 => ?_) (fun c14 => ?_)
  · replace hp := hp.1 c14
    refine xJ_iload_n hX dX12_toldPacket_31 rfl ?_
    refine xJ_iconst hX dX12_toldPacket_32 ?_
    refine xJ_icmp_eq hX dX12_toldPacket_33 (tgt := 41) (by decide) (hM5 _ _) ⟨by decide, by decide⟩ (fun c33 => ?_) (fun c33 => ?_)
    · replace hp := hp.1 c33
      refine xJ_aload_n hX dX12_toldPacket_41 rfl ?_
      refine xJ_iload_n hX dX12_toldPacket_42 rfl ?_
      refine xJ_callV (As := [_]) hX hB dX12_toldPacket_43 lk_X12_223 im_X12_gateOf se_X12_gateOf rfl (by decide) (oX12_k hL) (c_X12_gateOf hL hM5 hx1 hp) (by decide) rfl rfl rfl (Nat.le_of_ble_eq_true rfl) (by decide) (by decide) (fun v t9 M43 hv => ?_) (fun _ _ _ q => q.elim)
      obtain ⟨r43, rfl, h43, hM43, ht9, hp⟩ := hv
      replace ht9 := ht9.symm
      subst ht9
      dsimp only [Option.toList, List.cons_append, List.nil_append]
      refine xJ_goto hX dX12_toldPacket_46 (tgt := 50) (by decide) ?_
      refine xJ_iret hX hB dX12_toldPacket_50 (by decide) (by decide) ⟨_, rfl, h43, hM43, rfl, hp⟩
    · replace hp := hp.2 c33
      refine xJ_iload_n hX dX12_toldPacket_36 rfl ?_
      refine xJ_iconst hX dX12_toldPacket_37 ?_
      refine xJ_icmp_ne hX dX12_toldPacket_38 (tgt := 49) (by decide) (hM5 _ _) ⟨by decide, by decide⟩ (fun c38 => ?_) (fun c38 => ?_)
      · replace hp := hp.1 c38
        refine xJ_iconst hX dX12_toldPacket_49 ?_
        refine xJ_iret hX hB dX12_toldPacket_50 (by decide) (by decide) ⟨_, rfl, ⟨by decide, by decide⟩, hM5, rfl, hp⟩
      · replace hp := hp.2 c38
        refine xJ_aload_n hX dX12_toldPacket_41 rfl ?_
        refine xJ_iload_n hX dX12_toldPacket_42 rfl ?_
        refine xJ_callV (As := [_]) hX hB dX12_toldPacket_43 lk_X12_223 im_X12_gateOf se_X12_gateOf rfl (by decide) (oX12_k hL) (c_X12_gateOf hL hM5 hx1 hp) (by decide) rfl rfl rfl (Nat.le_of_ble_eq_true rfl) (by decide) (by decide) (fun v t9 M43 hv => ?_) (fun _ _ _ q => q.elim)
        obtain ⟨r43, rfl, h43, hM43, ht9, hp⟩ := hv
        replace ht9 := ht9.symm
        subst ht9
        dsimp only [Option.toList, List.cons_append, List.nil_append]
        refine xJ_goto hX dX12_toldPacket_46 (tgt := 50) (by decide) ?_
        refine xJ_iret hX hB dX12_toldPacket_50 (by decide) (by decide) ⟨_, rfl, h43, hM43, rfl, hp⟩
  · replace hp := hp.2 c14
    refine xJ_aload_n hX dX12_toldPacket_17 rfl ?_
    refine xJ_getR (b := (a + 2)) hX dX12_toldPacket_18 fd_X12_17 rfl (oX12_k hL) (oX12_r8 hL) ?_
    refine xJ_iload_n hX dX12_toldPacket_21 rfl ?_
    refine xJ_callS (As := [_]) hX hB dX12_toldPacket_22 lk_X12_197 sm_X12_packetAt (c_X12_packetAt  hM5 hx1 hp) (by decide) rfl rfl rfl (Nat.le_of_ble_eq_true rfl) (by decide) (by decide) (fun v t9 M22 hv => ?_) (fun _ _ _ q => q.elim)
    obtain ⟨r22, rfl, h22, hM22, ht9, hp⟩ := hv
    replace ht9 := ht9.symm
    subst ht9
    dsimp only [Option.toList, List.cons_append, List.nil_append]
    refine xJ_iload_n hX dX12_toldPacket_25 rfl ?_
    refine xJ_iadd hX dX12_toldPacket_26 ?_
    obtain ⟨h26, hp⟩ := hp
    obtain ⟨h27, hp⟩ := hp
    refine xJ_iald hX dX12_toldPacket_27 (oX12_k8 hL) h27.1 (xnlt (oX12_n8 hL) h27.2) ?_
    refine xJ_goto hX dX12_toldPacket_28 (tgt := 50) (by decide) ?_
    refine xJ_iret hX hB dX12_toldPacket_50 (by decide) (by decide) ⟨_, rfl, (hM22 _ _), hM22, rfl, hp⟩
def p_X12_packet (a : Nat) (x1 : Int) (x2 : Int) (M : xMe) (Q : Int → xMe → Prop) : Prop :=
  (∀ M2 : xMe, M2 = xw M a 0 0 → p_X12_noPacket a x1 M2 (fun r7 M7 => ((r7 ≠ 0 → Q 0 M7) ∧ (r7 = 0 → p_X12_noNumber a x2 0 6 M7 (fun r18 M18 => ((r18 = 0 → p_X12_toldPacket a x1 x2 M18 (fun r31 M31 => Q r31 M31)) ∧ (r18 ≠ 0 → Q 0 M18)))))))
set_option maxHeartbeats 4000000 in
set_option maxRecDepth 100000 in
theorem c_X12_packet {G : xGx} {t : xTh} {M : xMe} {a : Nat} {x1 : Int} {x2 : Int} {Q : Int → xMe → Prop} (hL : oX12 t a) (hM : xMR M) (hx1 : xR x1) (hx2 : xR x2) (hp : p_X12_packet a x1 x2 M Q) : xCt G yX12_packet cX12_packet 3 (some .int) 3 0 0 [vr a, vi x1, vi x2] t M (fun v t' M' => ∃ r, v = some (vi r) ∧ xR r ∧ xMR M' ∧ t' = t ∧ Q r M') (fun _ _ _ => False) := by
  refine xCt_of (L0 := [vr a, vi x1, vi x2]) (by decide +kernel) (Nat.le_of_ble_eq_true rfl) rfl ?_
  intro X hX hB
  unfold p_X12_packet at hp
  refine xJ_aload_n hX dX12_packet_0 rfl ?_
  refine xJ_iconst hX dX12_packet_1 ?_
  refine xJ_putIM hX dX12_packet_2 fd_X12_42 ft_X12 rfl rfl rfl rfl (oX12_k hL) hM ⟨by decide, by decide⟩ (fun M2 e2 hM2 => ?_)
  replace hp := hp M2 e2
  refine xJ_aload_n hX dX12_packet_5 rfl ?_
  refine xJ_iload_n hX dX12_packet_6 rfl ?_
  refine xJ_callV (As := [_]) hX hB dX12_packet_7 lk_X12_280 im_X12_noPacket se_X12_noPacket rfl (by decide) (oX12_k hL) (c_X12_noPacket hL hM2 hx1 hp) (by decide) rfl rfl rfl (Nat.le_of_ble_eq_true rfl) (by decide) (by decide) (fun v t9 M7 hv => ?_) (fun _ _ _ q => q.elim)
  obtain ⟨r7, rfl, h7, hM7, ht9, hp⟩ := hv
  replace ht9 := ht9.symm
  subst ht9
  dsimp only [Option.toList, List.cons_append, List.nil_append]
  refine xJ_if_ne hX dX12_packet_10 (tgt := 24) (by decide) h7 (fun c10 => ?_) (fun c10 => ?_)
  · replace hp := hp.1 c10
    refine xJ_iconst hX dX12_packet_24 ?_
    refine xJ_goto hX dX12_packet_25 (tgt := 34) (by decide) ?_
    refine xJ_iret hX hB dX12_packet_34 (by decide) (by decide) ⟨_, rfl, ⟨by decide, by decide⟩, hM7, rfl, hp⟩
  · replace hp := hp.2 c10
    refine xJ_aload_n hX dX12_packet_13 rfl ?_
    refine xJ_iload_n hX dX12_packet_14 rfl ?_
    refine xJ_iconst hX dX12_packet_15 ?_
    refine xJ_bipush hX dX12_packet_16 rfl ?_
    refine xJ_callV (As := [_, _, _]) hX hB dX12_packet_18 lk_X12_268 im_X12_noNumber se_X12_noNumber rfl (by decide) (oX12_k hL) (c_X12_noNumber hL hM7 hx2 ⟨by decide, by decide⟩ ⟨by decide, by decide⟩ hp) (by decide) rfl rfl rfl (Nat.le_of_ble_eq_true rfl) (by decide) (by decide) (fun v t9 M18 hv => ?_) (fun _ _ _ q => q.elim)
    obtain ⟨r18, rfl, h18, hM18, ht9, hp⟩ := hv
    replace ht9 := ht9.symm
    subst ht9
    dsimp only [Option.toList, List.cons_append, List.nil_append]
    refine xJ_if_eq hX dX12_packet_21 (tgt := 28) (by decide) h18 (fun c21 => ?_) (fun c21 => ?_)
    · replace hp := hp.1 c21
      refine xJ_aload_n hX dX12_packet_28 rfl ?_
      refine xJ_iload_n hX dX12_packet_29 rfl ?_
      refine xJ_iload_n hX dX12_packet_30 rfl ?_
      refine xJ_callV (As := [_, _]) hX hB dX12_packet_31 lk_X12_283 im_X12_toldPacket se_X12_toldPacket rfl (by decide) (oX12_k hL) (c_X12_toldPacket hL hM18 hx1 hx2 hp) (by decide) rfl rfl rfl (Nat.le_of_ble_eq_true rfl) (by decide) (by decide) (fun v t9 M31 hv => ?_) (fun _ _ _ q => q.elim)
      obtain ⟨r31, rfl, h31, hM31, ht9, hp⟩ := hv
      replace ht9 := ht9.symm
      subst ht9
      dsimp only [Option.toList, List.cons_append, List.nil_append]
      refine xJ_iret hX hB dX12_packet_34 (by decide) (by decide) ⟨_, rfl, h31, hM31, rfl, hp⟩
    · replace hp := hp.2 c21
      refine xJ_iconst hX dX12_packet_24 ?_
      refine xJ_goto hX dX12_packet_25 (tgt := 34) (by decide) ?_
      refine xJ_iret hX hB dX12_packet_34 (by decide) (by decide) ⟨_, rfl, ⟨by decide, by decide⟩, hM18, rfl, hp⟩
def p_X12_coupon (a : Nat) (x1 : Int) (x2 : Int) (M : xMe) (Q : Int → xMe → Prop) : Prop :=
  (∀ M2 : xMe, M2 = xw M a 0 0 → p_X12_noCoupon a x1 M2 (fun r7 M7 => ((r7 ≠ 0 → Q 0 M7) ∧ (r7 = 0 → p_X12_noNumber a x2 0 3 M7 (fun r17 M17 => ((r17 = 0 → p_X12_couponAt x1 M17 (fun r32 M32 => (xR (r32 + x2)) ∧ ((0 : Int) ≤ (r32 + x2) ∧ ((r32 + x2) : Int) < 2105) ∧ Q (M32 (a + 2) (r32 + x2).toNat) M32)) ∧ (r17 ≠ 0 → Q 0 M17)))))))
set_option maxHeartbeats 4000000 in
set_option maxRecDepth 100000 in
theorem c_X12_coupon {G : xGx} {t : xTh} {M : xMe} {a : Nat} {x1 : Int} {x2 : Int} {Q : Int → xMe → Prop} (hL : oX12 t a) (hM : xMR M) (hx1 : xR x1) (hx2 : xR x2) (hp : p_X12_coupon a x1 x2 M Q) : xCt G yX12_coupon cX12_coupon 3 (some .int) 2 0 0 [vr a, vi x1, vi x2] t M (fun v t' M' => ∃ r, v = some (vi r) ∧ xR r ∧ xMR M' ∧ t' = t ∧ Q r M') (fun _ _ _ => False) := by
  refine xCt_of (L0 := [vr a, vi x1, vi x2]) (by decide +kernel) (Nat.le_of_ble_eq_true rfl) rfl ?_
  intro X hX hB
  unfold p_X12_coupon at hp
  refine xJ_aload_n hX dX12_coupon_0 rfl ?_
  refine xJ_iconst hX dX12_coupon_1 ?_
  refine xJ_putIM hX dX12_coupon_2 fd_X12_42 ft_X12 rfl rfl rfl rfl (oX12_k hL) hM ⟨by decide, by decide⟩ (fun M2 e2 hM2 => ?_)
  replace hp := hp M2 e2
  refine xJ_aload_n hX dX12_coupon_5 rfl ?_
  refine xJ_iload_n hX dX12_coupon_6 rfl ?_
  refine xJ_callV (As := [_]) hX hB dX12_coupon_7 lk_X12_286 im_X12_noCoupon se_X12_noCoupon rfl (by decide) (oX12_k hL) (c_X12_noCoupon hL hM2 hx1 hp) (by decide) rfl rfl rfl (Nat.le_of_ble_eq_true rfl) (by decide) (by decide) (fun v t9 M7 hv => ?_) (fun _ _ _ q => q.elim)
  obtain ⟨r7, rfl, h7, hM7, ht9, hp⟩ := hv
  replace ht9 := ht9.symm
  subst ht9
  dsimp only [Option.toList, List.cons_append, List.nil_append]
  refine xJ_if_ne hX dX12_coupon_10 (tgt := 23) (by decide) h7 (fun c10 => ?_) (fun c10 => ?_)
  · replace hp := hp.1 c10
    refine xJ_iconst hX dX12_coupon_23 ?_
    refine xJ_goto hX dX12_coupon_24 (tgt := 38) (by decide) ?_
    refine xJ_iret hX hB dX12_coupon_38 (by decide) (by decide) ⟨_, rfl, ⟨by decide, by decide⟩, hM7, rfl, hp⟩
  · replace hp := hp.2 c10
    refine xJ_aload_n hX dX12_coupon_13 rfl ?_
    refine xJ_iload_n hX dX12_coupon_14 rfl ?_
    refine xJ_iconst hX dX12_coupon_15 ?_
    refine xJ_iconst hX dX12_coupon_16 ?_
    refine xJ_callV (As := [_, _, _]) hX hB dX12_coupon_17 lk_X12_268 im_X12_noNumber se_X12_noNumber rfl (by decide) (oX12_k hL) (c_X12_noNumber hL hM7 hx2 ⟨by decide, by decide⟩ ⟨by decide, by decide⟩ hp) (by decide) rfl rfl rfl (Nat.le_of_ble_eq_true rfl) (by decide) (by decide) (fun v t9 M17 hv => ?_) (fun _ _ _ q => q.elim)
    obtain ⟨r17, rfl, h17, hM17, ht9, hp⟩ := hv
    replace ht9 := ht9.symm
    subst ht9
    dsimp only [Option.toList, List.cons_append, List.nil_append]
    refine xJ_if_eq hX dX12_coupon_20 (tgt := 27) (by decide) h17 (fun c20 => ?_) (fun c20 => ?_)
    · replace hp := hp.1 c20
      refine xJ_aload_n hX dX12_coupon_27 rfl ?_
      refine xJ_getR (b := (a + 2)) hX dX12_coupon_28 fd_X12_17 rfl (oX12_k hL) (oX12_r8 hL) ?_
      refine xJ_iload_n hX dX12_coupon_31 rfl ?_
      refine xJ_callS (As := [_]) hX hB dX12_coupon_32 lk_X12_203 sm_X12_couponAt (c_X12_couponAt  hM17 hx1 hp) (by decide) rfl rfl rfl (Nat.le_of_ble_eq_true rfl) (by decide) (by decide) (fun v t9 M32 hv => ?_) (fun _ _ _ q => q.elim)
      obtain ⟨r32, rfl, h32, hM32, ht9, hp⟩ := hv
      replace ht9 := ht9.symm
      subst ht9
      dsimp only [Option.toList, List.cons_append, List.nil_append]
      refine xJ_iload_n hX dX12_coupon_35 rfl ?_
      refine xJ_iadd hX dX12_coupon_36 ?_
      obtain ⟨h36, hp⟩ := hp
      obtain ⟨h37, hp⟩ := hp
      refine xJ_iald hX dX12_coupon_37 (oX12_k8 hL) h37.1 (xnlt (oX12_n8 hL) h37.2) ?_
      refine xJ_iret hX hB dX12_coupon_38 (by decide) (by decide) ⟨_, rfl, (hM32 _ _), hM32, rfl, hp⟩
    · replace hp := hp.2 c20
      refine xJ_iconst hX dX12_coupon_23 ?_
      refine xJ_goto hX dX12_coupon_24 (tgt := 38) (by decide) ?_
      refine xJ_iret hX hB dX12_coupon_38 (by decide) (by decide) ⟨_, rfl, ⟨by decide, by decide⟩, hM17, rfl, hp⟩
def p_X12_kept (a : Nat) (x1 : Int) (x2 : Int) (M : xMe) (Q : Int → xMe → Prop) : Prop :=
  (xR (5 * x1)) ∧ (xR (705 + (5 * x1))) ∧ (xR ((705 + (5 * x1)) + x2)) ∧ ((0 : Int) ≤ ((705 + (5 * x1)) + x2) ∧ (((705 + (5 * x1)) + x2) : Int) < 2105) ∧ Q (M (a + 2) ((705 + (5 * x1)) + x2).toNat) M
set_option maxHeartbeats 4000000 in
set_option maxRecDepth 100000 in
theorem c_X12_kept {G : xGx} {t : xTh} {M : xMe} {a : Nat} {x1 : Int} {x2 : Int} {Q : Int → xMe → Prop} (hL : oX12 t a) (hM : xMR M) (hx1 : xR x1) (hx2 : xR x2) (hp : p_X12_kept a x1 x2 M Q) : xCt G yX12_kept cX12_kept 3 (some .int) 0 0 0 [vr a, vi x1, vi x2] t M (fun v t' M' => ∃ r, v = some (vi r) ∧ xR r ∧ xMR M' ∧ t' = t ∧ Q r M') (fun _ _ _ => False) := by
  refine xCt_of (L0 := [vr a, vi x1, vi x2]) (by decide +kernel) (Nat.le_of_ble_eq_true rfl) rfl ?_
  intro X hX hB
  unfold p_X12_kept at hp
  refine xJ_aload_n hX dX12_kept_0 rfl ?_
  refine xJ_getR (b := (a + 2)) hX dX12_kept_1 fd_X12_17 rfl (oX12_k hL) (oX12_r8 hL) ?_
  refine xJ_sipush hX dX12_kept_4 rfl ?_
  refine xJ_iconst hX dX12_kept_7 ?_
  refine xJ_iload_n hX dX12_kept_8 rfl ?_
  refine xJ_imul hX dX12_kept_9 ?_
  obtain ⟨h9, hp⟩ := hp
  refine xJ_iadd hX dX12_kept_10 ?_
  obtain ⟨h10, hp⟩ := hp
  refine xJ_iload_n hX dX12_kept_11 rfl ?_
  refine xJ_iadd hX dX12_kept_12 ?_
  obtain ⟨h12, hp⟩ := hp
  obtain ⟨h13, hp⟩ := hp
  refine xJ_iald hX dX12_kept_13 (oX12_k8 hL) h13.1 (xnlt (oX12_n8 hL) h13.2) ?_
  refine xJ_iret hX hB dX12_kept_14 (by decide) (by decide) ⟨_, rfl, (hM _ _), hM, rfl, hp⟩
def p_X12_isKept (a : Nat) (x1 : Int) (x2 : Int) (x3 : Int) (M : xMe) (Q : Int → xMe → Prop) : Prop :=
  p_X12_kept a x1 1 M (fun r3 M3 => ((r3 ≠ x2 → Q 0 M3) ∧ (r3 = x2 → p_X12_kept a x1 2 M3 (fun r13 M13 => ((r13 ≠ x3 → Q 0 M13) ∧ (r13 = x3 → Q 1 M13))))))
set_option maxHeartbeats 4000000 in
set_option maxRecDepth 100000 in
theorem c_X12_isKept {G : xGx} {t : xTh} {M : xMe} {a : Nat} {x1 : Int} {x2 : Int} {x3 : Int} {Q : Int → xMe → Prop} (hL : oX12 t a) (hM : xMR M) (hx1 : xR x1) (hx2 : xR x2) (hx3 : xR x3) (hp : p_X12_isKept a x1 x2 x3 M Q) : xCt G yX12_isKept cX12_isKept 4 (some .boolean) 1 0 0 [vr a, vi x1, vi x2, vi x3] t M (fun v t' M' => ∃ r, v = some (vi r) ∧ xR r ∧ xMR M' ∧ t' = t ∧ Q r M') (fun _ _ _ => False) := by
  refine xCt_of (L0 := [vr a, vi x1, vi x2, vi x3]) (by decide +kernel) (Nat.le_of_ble_eq_true rfl) rfl ?_
  intro X hX hB
  unfold p_X12_isKept at hp
  refine xJ_aload_n hX dX12_isKept_0 rfl ?_
  refine xJ_iload_n hX dX12_isKept_1 rfl ?_
  refine xJ_iconst hX dX12_isKept_2 ?_
  refine xJ_callV (As := [_, _]) hX hB dX12_isKept_3 lk_X12_289 im_X12_kept se_X12_kept rfl (by decide) (oX12_k hL) (c_X12_kept hL hM hx1 ⟨by decide, by decide⟩ hp) (by decide) rfl rfl rfl (Nat.le_of_ble_eq_true rfl) (by decide) (by decide) (fun v t9 M3 hv => ?_) (fun _ _ _ q => q.elim)
  obtain ⟨r3, rfl, h3, hM3, ht9, hp⟩ := hv
  replace ht9 := ht9.symm
  subst ht9
  dsimp only [Option.toList, List.cons_append, List.nil_append]
  refine xJ_iload_n hX dX12_isKept_6 rfl ?_
  refine xJ_icmp_ne hX dX12_isKept_7 (tgt := 24) (by decide) h3 hx2 (fun c7 => ?_) (fun c7 => ?_)
  · replace hp := hp.1 c7
    refine xJ_iconst hX dX12_isKept_24 ?_
    refine xJ_zret hX hB dX12_isKept_25 rfl (by decide) (by decide) ⟨_, rfl, ⟨by decide, by decide⟩, hM3, rfl, hp⟩
  · replace hp := hp.2 c7
    refine xJ_aload_n hX dX12_isKept_10 rfl ?_
    refine xJ_iload_n hX dX12_isKept_11 rfl ?_
    refine xJ_iconst hX dX12_isKept_12 ?_
    refine xJ_callV (As := [_, _]) hX hB dX12_isKept_13 lk_X12_289 im_X12_kept se_X12_kept rfl (by decide) (oX12_k hL) (c_X12_kept hL hM3 hx1 ⟨by decide, by decide⟩ hp) (by decide) rfl rfl rfl (Nat.le_of_ble_eq_true rfl) (by decide) (by decide) (fun v t9 M13 hv => ?_) (fun _ _ _ q => q.elim)
    obtain ⟨r13, rfl, h13, hM13, ht9, hp⟩ := hv
    replace ht9 := ht9.symm
    subst ht9
    dsimp only [Option.toList, List.cons_append, List.nil_append]
    refine xJ_iload_n hX dX12_isKept_16 rfl ?_
    refine xJ_icmp_ne hX dX12_isKept_17 (tgt := 24) (by decide) h13 hx3 (fun c17 => ?_) (fun c17 => ?_)
    · replace hp := hp.1 c17
      refine xJ_iconst hX dX12_isKept_24 ?_
      refine xJ_zret hX hB dX12_isKept_25 rfl (by decide) (by decide) ⟨_, rfl, ⟨by decide, by decide⟩, hM13, rfl, hp⟩
    · replace hp := hp.2 c17
      refine xJ_iconst hX dX12_isKept_20 ?_
      refine xJ_goto hX dX12_isKept_21 (tgt := 25) (by decide) ?_
      refine xJ_zret hX hB dX12_isKept_25 rfl (by decide) (by decide) ⟨_, rfl, ⟨by decide, by decide⟩, hM13, rfl, hp⟩
def p_X12_loadOver_73 (F : Nat) (a : Nat) (Q : Int → xMe → Prop) (K147 : Int → Int → Int → Int → Int → Int → xMe → Prop) : Nat → Int → Int → Int → Int → Int → Int → Int → xMe → Prop
  | 0, _, _, _, _, _, _, _, _ => False
  | k + 1, x1, x2, x3, x4, x5, x6, x7, M =>
    ((0 : Int) ≤ 14 ∧ (14 : Int) < 2105) ∧ (((M (a + 2) 14) ≤ x7 → K147 x1 x2 x3 x4 x5 x6 M) ∧ (x7 < (M (a + 2) 14) → p_X12_isKept a x7 x1 x2 M (fun r90 M90 => ((r90 = 0 → (xR (x7 + 1)) ∧ p_X12_loadOver_73 F a Q K147 k x1 x2 x3 x4 x5 x6 (x7 + 1) M90) ∧ (r90 ≠ 0 → p_X12_kept a x7 0 M90 (fun r100 M100 => p_X12_kept a x5 0 M100 (fun r107 M107 => (xR (r100 - r107)) ∧ (xR (x3 - 1)) ∧ p_X12_in (r100 - r107) 0 (x3 - 1) M107 (fun r115 M115 => ((r115 = 0 → (xR (x7 + 1)) ∧ p_X12_loadOver_73 F a Q K147 k x1 x2 x3 x4 x5 x6 (x7 + 1) M115) ∧ (r115 ≠ 0 → p_X12_kept a x7 3 M115 (fun r127 M127 => p_X12_kept a x7 4 M127 (fun r134 M134 => (xR (r127 - r134)) ∧ (xR (x6 + (r127 - r134))) ∧ (∀ z139 : Int, z139 = x6 + (r127 - r134) → (xR (x7 + 1)) ∧ p_X12_loadOver_73 F a Q K147 k x1 x2 x3 x4 x5 z139 (x7 + 1) M134)))))))))))))
def p_X12_loadOver_41 (F : Nat) (a : Nat) (Q : Int → xMe → Prop) : Nat → Int → Int → Int → Int → Int → xMe → Prop
  | 0, _, _, _, _, _, _ => False
  | k + 1, x1, x2, x3, x4, x5, M =>
    ((0 : Int) ≤ 14 ∧ (14 : Int) < 2105) ∧ (((M (a + 2) 14) ≤ x5 → Q x4 M) ∧ (x5 < (M (a + 2) 14) → p_X12_isKept a x5 x1 x2 M (fun r58 M58 => ((r58 ≠ 0 → p_X12_loadOver_73 F a Q (fun y1 y2 y3 y4 y5 y6 M => ((y6 ≤ y4 → (xR (y5 + 1)) ∧ p_X12_loadOver_41 F a Q k y1 y2 y3 y4 (y5 + 1) M) ∧ (y4 < y6 → (xR (y5 + 1)) ∧ p_X12_loadOver_41 F a Q k y1 y2 y3 y6 (y5 + 1) M))) F x1 x2 x3 x4 x5 0 0 M58) ∧ (r58 = 0 → (xR (x5 + 1)) ∧ p_X12_loadOver_41 F a Q k x1 x2 x3 x4 (x5 + 1) M58)))))
def p_X12_loadOver (F : Nat) (a : Nat) (x1 : Int) (x2 : Int) (x3 : Int) (M : xMe) (Q : Int → xMe → Prop) : Prop :=
  (∀ M2 : xMe, M2 = xw M a 0 0 → p_X12_noGate a x1 M2 (fun r7 M7 => ((r7 ≠ 0 → Q 0 M7) ∧ (r7 = 0 → p_X12_noFlow a x2 M7 (fun r15 M15 => ((r15 ≠ 0 → Q 0 M15) ∧ (r15 = 0 → p_X12_noNumber a x3 1 999 M15 (fun r27 M27 => ((r27 = 0 → p_X12_loadOver_41 F a Q F x1 x2 x3 0 0 M27) ∧ (r27 ≠ 0 → Q 0 M27))))))))))
set_option maxHeartbeats 4000000 in
set_option maxRecDepth 100000 in
theorem c_X12_loadOver {G : xGx} {t : xTh} {M : xMe} {F : Nat} {a : Nat} {x1 : Int} {x2 : Int} {x3 : Int} {Q : Int → xMe → Prop} (hL : oX12 t a) (hM : xMR M) (hx1 : xR x1) (hx2 : xR x2) (hx3 : xR x3) (hp : p_X12_loadOver F a x1 x2 x3 M Q) : xCt G yX12_loadOver cX12_loadOver 8 (some .int) 2 0 0 [vr a, vi x1, vi x2, vi x3] t M (fun v t' M' => ∃ r, v = some (vi r) ∧ xR r ∧ xMR M' ∧ t' = t ∧ Q r M') (fun _ _ _ => False) := by
  refine xCt_of (L0 := [vr a, vi x1, vi x2, vi x3, vU, vU, vU, vU]) (by decide +kernel) (Nat.le_of_ble_eq_true rfl) rfl ?_
  intro X hX hB
  unfold p_X12_loadOver at hp
  refine xJ_aload_n hX dX12_loadOver_0 rfl ?_
  refine xJ_iconst hX dX12_loadOver_1 ?_
  refine xJ_putIM hX dX12_loadOver_2 fd_X12_42 ft_X12 rfl rfl rfl rfl (oX12_k hL) hM ⟨by decide, by decide⟩ (fun M2 e2 hM2 => ?_)
  replace hp := hp M2 e2
  refine xJ_aload_n hX dX12_loadOver_5 rfl ?_
  refine xJ_iload_n hX dX12_loadOver_6 rfl ?_
  refine xJ_callV (As := [_]) hX hB dX12_loadOver_7 lk_X12_265 im_X12_noGate se_X12_noGate rfl (by decide) (oX12_k hL) (c_X12_noGate hL hM2 hx1 hp) (by decide) rfl rfl rfl (Nat.le_of_ble_eq_true rfl) (by decide) (by decide) (fun v t9 M7 hv => ?_) (fun _ _ _ q => q.elim)
  obtain ⟨r7, rfl, h7, hM7, ht9, hp⟩ := hv
  replace ht9 := ht9.symm
  subst ht9
  dsimp only [Option.toList, List.cons_append, List.nil_append]
  refine xJ_if_ne hX dX12_loadOver_10 (tgt := 33) (by decide) h7 (fun c10 => ?_) (fun c10 => ?_)
  · replace hp := hp.1 c10
    refine xJ_iconst hX dX12_loadOver_33 ?_
    refine xJ_iret hX hB dX12_loadOver_34 (by decide) (by decide) ⟨_, rfl, ⟨by decide, by decide⟩, hM7, rfl, hp⟩
  · replace hp := hp.2 c10
    refine xJ_aload_n hX dX12_loadOver_13 rfl ?_
    refine xJ_iload_n hX dX12_loadOver_14 rfl ?_
    refine xJ_callV (As := [_]) hX hB dX12_loadOver_15 lk_X12_274 im_X12_noFlow se_X12_noFlow rfl (by decide) (oX12_k hL) (c_X12_noFlow hL hM7 hx2 hp) (by decide) rfl rfl rfl (Nat.le_of_ble_eq_true rfl) (by decide) (by decide) (fun v t9 M15 hv => ?_) (fun _ _ _ q => q.elim)
    obtain ⟨r15, rfl, h15, hM15, ht9, hp⟩ := hv
    replace ht9 := ht9.symm
    subst ht9
    dsimp only [Option.toList, List.cons_append, List.nil_append]
    refine xJ_if_ne hX dX12_loadOver_18 (tgt := 33) (by decide) h15 (fun c18 => ?_) (fun c18 => ?_)
    · replace hp := hp.1 c18
      refine xJ_iconst hX dX12_loadOver_33 ?_
      refine xJ_iret hX hB dX12_loadOver_34 (by decide) (by decide) ⟨_, rfl, ⟨by decide, by decide⟩, hM15, rfl, hp⟩
    · replace hp := hp.2 c18
      refine xJ_aload_n hX dX12_loadOver_21 rfl ?_
      refine xJ_iload_n hX dX12_loadOver_22 rfl ?_
      refine xJ_iconst hX dX12_loadOver_23 ?_
      refine xJ_sipush hX dX12_loadOver_24 rfl ?_
      refine xJ_callV (As := [_, _, _]) hX hB dX12_loadOver_27 lk_X12_268 im_X12_noNumber se_X12_noNumber rfl (by decide) (oX12_k hL) (c_X12_noNumber hL hM15 hx3 ⟨by decide, by decide⟩ ⟨by decide, by decide⟩ hp) (by decide) rfl rfl rfl (Nat.le_of_ble_eq_true rfl) (by decide) (by decide) (fun v t9 M27 hv => ?_) (fun _ _ _ q => q.elim)
      obtain ⟨r27, rfl, h27, hM27, ht9, hp⟩ := hv
      replace ht9 := ht9.symm
      subst ht9
      dsimp only [Option.toList, List.cons_append, List.nil_append]
      refine xJ_if_eq hX dX12_loadOver_30 (tgt := 35) (by decide) h27 (fun c30 => ?_) (fun c30 => ?_)
      · replace hp := hp.1 c30
        refine xJ_iconst hX dX12_loadOver_35 ?_
        refine xJ_istore hX dX12_loadOver_36 (Nat.le_of_ble_eq_true rfl) rfl ?_
        dsimp only [List.set]
        refine xJ_iconst hX dX12_loadOver_38 ?_
        refine xJ_istore hX dX12_loadOver_39 (Nat.le_of_ble_eq_true rfl) rfl ?_
        dsimp only [List.set]
        have lp41 : ∀ (k : Nat) (x1 : Int) (x2 : Int) (x3 : Int) (x4 : Int) (x5 : Int) (M : xMe) (hM : xMR M) (hx1 : xR x1) (hx2 : xR x2) (hx3 : xR x3) (hx4 : xR x4) (hx5 : xR x5) (hp : p_X12_loadOver_41 F a Q k x1 x2 x3 x4 x5 M), xJ X 0 0 t M 41 [vr a, vi x1, vi x2, vi x3, vi x4, vi x5, vU, vU] [] := by
          intro k
          induction k with
          | zero => intro x1 x2 x3 x4 x5 M hM hx1 hx2 hx3 hx4 hx5 hp; exact hp.elim
          | succ k ih =>
            intro x1 x2 x3 x4 x5 M hM hx1 hx2 hx3 hx4 hx5 hp
            unfold p_X12_loadOver_41 at hp
            refine xJ_iload hX dX12_loadOver_41 rfl ?_
            refine xJ_aload_n hX dX12_loadOver_43 rfl ?_
            refine xJ_getR (b := (a + 2)) hX dX12_loadOver_44 fd_X12_17 rfl (oX12_k hL) (oX12_r8 hL) ?_
            refine xJ_bipush hX dX12_loadOver_47 rfl ?_
            obtain ⟨h49, hp⟩ := hp
            refine xJ_iald hX dX12_loadOver_49 (oX12_k8 hL) h49.1 (xnlt (oX12_n8 hL) h49.2) ?_
            refine xJ_icmp_ge hX dX12_loadOver_50 (tgt := 169) (by decide) hx5 (hM _ _) (fun c50 => ?_) (fun c50 => ?_)
            · replace hp := hp.1 c50
              refine xJ_iload hX dX12_loadOver_169 rfl ?_
              refine xJ_iret hX hB dX12_loadOver_171 (by decide) (by decide) ⟨_, rfl, hx4, hM, rfl, hp⟩
            · replace hp := hp.2 c50
              refine xJ_aload_n hX dX12_loadOver_53 rfl ?_
              refine xJ_iload hX dX12_loadOver_54 rfl ?_
              refine xJ_iload_n hX dX12_loadOver_56 rfl ?_
              refine xJ_iload_n hX dX12_loadOver_57 rfl ?_
              refine xJ_callV (As := [_, _, _]) hX hB dX12_loadOver_58 lk_X12_292 im_X12_isKept se_X12_isKept rfl (by decide) (oX12_k hL) (c_X12_isKept hL hM hx5 hx1 hx2 hp) (by decide) rfl rfl rfl (Nat.le_of_ble_eq_true rfl) (by decide) (by decide) (fun v t9 M58 hv => ?_) (fun _ _ _ q => q.elim)
              obtain ⟨r58, rfl, h58, hM58, ht9, hp⟩ := hv
              replace ht9 := ht9.symm
              subst ht9
              dsimp only [Option.toList, List.cons_append, List.nil_append]
              refine xJ_if_ne hX dX12_loadOver_61 (tgt := 67) (by decide) h58 (fun c61 => ?_) (fun c61 => ?_)
              · replace hp := hp.1 c61
                refine xJ_iconst hX dX12_loadOver_67 ?_
                refine xJ_istore hX dX12_loadOver_68 (Nat.le_of_ble_eq_true rfl) rfl ?_
                dsimp only [List.set]
                refine xJ_iconst hX dX12_loadOver_70 ?_
                refine xJ_istore hX dX12_loadOver_71 (Nat.le_of_ble_eq_true rfl) rfl ?_
                dsimp only [List.set]
                have lp73 : ∀ (K147 : Int → Int → Int → Int → Int → Int → xMe → Prop) (hK147 : ∀ (y1 : Int) (y2 : Int) (y3 : Int) (y4 : Int) (y5 : Int) (y6 : Int) (M : xMe) (hM : xMR M) (hy1 : xR y1) (hy2 : xR y2) (hy3 : xR y3) (hy4 : xR y4) (hy5 : xR y5) (hy6 : xR y6) (hp : K147 y1 y2 y3 y4 y5 y6 M), xJ X 0 0 t M 147 [vr a, vi y1, vi y2, vi y3, vi y4, vi y5, vi y6, vU] []) (k : Nat) (x1 : Int) (x2 : Int) (x3 : Int) (x4 : Int) (x5 : Int) (x6 : Int) (x7 : Int) (M : xMe) (hM : xMR M) (hx1 : xR x1) (hx2 : xR x2) (hx3 : xR x3) (hx4 : xR x4) (hx5 : xR x5) (hx6 : xR x6) (hx7 : xR x7) (hp : p_X12_loadOver_73 F a Q K147 k x1 x2 x3 x4 x5 x6 x7 M), xJ X 0 0 t M 73 [vr a, vi x1, vi x2, vi x3, vi x4, vi x5, vi x6, vi x7] [] := by
                  intro K147 hK147 k
                  induction k with
                  | zero => intro x1 x2 x3 x4 x5 x6 x7 M hM hx1 hx2 hx3 hx4 hx5 hx6 hx7 hp; exact hp.elim
                  | succ k ih =>
                    intro x1 x2 x3 x4 x5 x6 x7 M hM hx1 hx2 hx3 hx4 hx5 hx6 hx7 hp
                    unfold p_X12_loadOver_73 at hp
                    refine xJ_iload hX dX12_loadOver_73 rfl ?_
                    refine xJ_aload_n hX dX12_loadOver_75 rfl ?_
                    refine xJ_getR (b := (a + 2)) hX dX12_loadOver_76 fd_X12_17 rfl (oX12_k hL) (oX12_r8 hL) ?_
                    refine xJ_bipush hX dX12_loadOver_79 rfl ?_
                    obtain ⟨h81, hp⟩ := hp
                    refine xJ_iald hX dX12_loadOver_81 (oX12_k8 hL) h81.1 (xnlt (oX12_n8 hL) h81.2) ?_
                    refine xJ_icmp_ge hX dX12_loadOver_82 (tgt := 147) (by decide) hx7 (hM _ _) (fun c82 => ?_) (fun c82 => ?_)
                    · replace hp := hp.1 c82
                      refine xJ_fg 7 ?_
                      dsimp only [List.set]
                      exact hK147 _ _ _ _ _ _ _ hM hx1 hx2 hx3 hx4 hx5 hx6 hp
                    · replace hp := hp.2 c82
                      refine xJ_aload_n hX dX12_loadOver_85 rfl ?_
                      refine xJ_iload hX dX12_loadOver_86 rfl ?_
                      refine xJ_iload_n hX dX12_loadOver_88 rfl ?_
                      refine xJ_iload_n hX dX12_loadOver_89 rfl ?_
                      refine xJ_callV (As := [_, _, _]) hX hB dX12_loadOver_90 lk_X12_292 im_X12_isKept se_X12_isKept rfl (by decide) (oX12_k hL) (c_X12_isKept hL hM hx7 hx1 hx2 hp) (by decide) rfl rfl rfl (Nat.le_of_ble_eq_true rfl) (by decide) (by decide) (fun v t9 M90 hv => ?_) (fun _ _ _ q => q.elim)
                      obtain ⟨r90, rfl, h90, hM90, ht9, hp⟩ := hv
                      replace ht9 := ht9.symm
                      subst ht9
                      dsimp only [Option.toList, List.cons_append, List.nil_append]
                      refine xJ_if_eq hX dX12_loadOver_93 (tgt := 141) (by decide) h90 (fun c93 => ?_) (fun c93 => ?_)
                      · replace hp := hp.1 c93
                        refine xJ_iinc hX dX12_loadOver_141 rfl rfl ?_
                        dsimp only [List.set]
                        obtain ⟨h141, hp⟩ := hp
                        refine xJ_goto hX dX12_loadOver_144 (tgt := 73) (by decide) ?_
                        exact ih _ _ _ _ _ _ _ _ hM90 hx1 hx2 hx3 hx4 hx5 hx6 h141 hp
                      · replace hp := hp.2 c93
                        refine xJ_aload_n hX dX12_loadOver_96 rfl ?_
                        refine xJ_iload hX dX12_loadOver_97 rfl ?_
                        refine xJ_iconst hX dX12_loadOver_99 ?_
                        refine xJ_callV (As := [_, _]) hX hB dX12_loadOver_100 lk_X12_289 im_X12_kept se_X12_kept rfl (by decide) (oX12_k hL) (c_X12_kept hL hM90 hx7 ⟨by decide, by decide⟩ hp) (by decide) rfl rfl rfl (Nat.le_of_ble_eq_true rfl) (by decide) (by decide) (fun v t9 M100 hv => ?_) (fun _ _ _ q => q.elim)
                        obtain ⟨r100, rfl, h100, hM100, ht9, hp⟩ := hv
                        replace ht9 := ht9.symm
                        subst ht9
                        dsimp only [Option.toList, List.cons_append, List.nil_append]
                        refine xJ_aload_n hX dX12_loadOver_103 rfl ?_
                        refine xJ_iload hX dX12_loadOver_104 rfl ?_
                        refine xJ_iconst hX dX12_loadOver_106 ?_
                        refine xJ_callV (As := [_, _]) hX hB dX12_loadOver_107 lk_X12_289 im_X12_kept se_X12_kept rfl (by decide) (oX12_k hL) (c_X12_kept hL hM100 hx5 ⟨by decide, by decide⟩ hp) (by decide) rfl rfl rfl (Nat.le_of_ble_eq_true rfl) (by decide) (by decide) (fun v t9 M107 hv => ?_) (fun _ _ _ q => q.elim)
                        obtain ⟨r107, rfl, h107, hM107, ht9, hp⟩ := hv
                        replace ht9 := ht9.symm
                        subst ht9
                        dsimp only [Option.toList, List.cons_append, List.nil_append]
                        refine xJ_isub hX dX12_loadOver_110 ?_
                        obtain ⟨h110, hp⟩ := hp
                        refine xJ_iconst hX dX12_loadOver_111 ?_
                        refine xJ_iload_n hX dX12_loadOver_112 rfl ?_
                        refine xJ_iconst hX dX12_loadOver_113 ?_
                        refine xJ_isub hX dX12_loadOver_114 ?_
                        obtain ⟨h114, hp⟩ := hp
                        refine xJ_callS (As := [_, _, _]) hX hB dX12_loadOver_115 lk_X12_64 sm_X12_in (c_X12_in  hM107 h110 ⟨by decide, by decide⟩ h114 hp) (by decide) rfl rfl rfl (Nat.le_of_ble_eq_true rfl) (by decide) (by decide) (fun v t9 M115 hv => ?_) (fun _ _ _ q => q.elim)
                        obtain ⟨r115, rfl, h115, hM115, ht9, hp⟩ := hv
                        replace ht9 := ht9.symm
                        subst ht9
                        dsimp only [Option.toList, List.cons_append, List.nil_append]
                        refine xJ_if_eq hX dX12_loadOver_118 (tgt := 141) (by decide) h115 (fun c118 => ?_) (fun c118 => ?_)
                        · replace hp := hp.1 c118
                          refine xJ_iinc hX dX12_loadOver_141 rfl rfl ?_
                          dsimp only [List.set]
                          obtain ⟨h141, hp⟩ := hp
                          refine xJ_goto hX dX12_loadOver_144 (tgt := 73) (by decide) ?_
                          exact ih _ _ _ _ _ _ _ _ hM115 hx1 hx2 hx3 hx4 hx5 hx6 h141 hp
                        · replace hp := hp.2 c118
                          refine xJ_iload hX dX12_loadOver_121 rfl ?_
                          refine xJ_aload_n hX dX12_loadOver_123 rfl ?_
                          refine xJ_iload hX dX12_loadOver_124 rfl ?_
                          refine xJ_iconst hX dX12_loadOver_126 ?_
                          refine xJ_callV (As := [_, _]) hX hB dX12_loadOver_127 lk_X12_289 im_X12_kept se_X12_kept rfl (by decide) (oX12_k hL) (c_X12_kept hL hM115 hx7 ⟨by decide, by decide⟩ hp) (by decide) rfl rfl rfl (Nat.le_of_ble_eq_true rfl) (by decide) (by decide) (fun v t9 M127 hv => ?_) (fun _ _ _ q => q.elim)
                          obtain ⟨r127, rfl, h127, hM127, ht9, hp⟩ := hv
                          replace ht9 := ht9.symm
                          subst ht9
                          dsimp only [Option.toList, List.cons_append, List.nil_append]
                          refine xJ_aload_n hX dX12_loadOver_130 rfl ?_
                          refine xJ_iload hX dX12_loadOver_131 rfl ?_
                          refine xJ_iconst hX dX12_loadOver_133 ?_
                          refine xJ_callV (As := [_, _]) hX hB dX12_loadOver_134 lk_X12_289 im_X12_kept se_X12_kept rfl (by decide) (oX12_k hL) (c_X12_kept hL hM127 hx7 ⟨by decide, by decide⟩ hp) (by decide) rfl rfl rfl (Nat.le_of_ble_eq_true rfl) (by decide) (by decide) (fun v t9 M134 hv => ?_) (fun _ _ _ q => q.elim)
                          obtain ⟨r134, rfl, h134, hM134, ht9, hp⟩ := hv
                          replace ht9 := ht9.symm
                          subst ht9
                          dsimp only [Option.toList, List.cons_append, List.nil_append]
                          refine xJ_isub hX dX12_loadOver_137 ?_
                          obtain ⟨h137, hp⟩ := hp
                          refine xJ_iadd hX dX12_loadOver_138 ?_
                          obtain ⟨h138, hp⟩ := hp
                          refine xJ_istore hX dX12_loadOver_139 (Nat.le_of_ble_eq_true rfl) rfl ?_
                          dsimp only [List.set]
                          replace hp := hp _ rfl
                          refine xJ_iinc hX dX12_loadOver_141 rfl rfl ?_
                          dsimp only [List.set]
                          obtain ⟨h141, hp⟩ := hp
                          refine xJ_goto hX dX12_loadOver_144 (tgt := 73) (by decide) ?_
                          exact ih _ _ _ _ _ _ _ _ hM134 hx1 hx2 hx3 hx4 hx5 h138 h141 hp
                refine lp73 _ (fun y1 y2 y3 y4 y5 y6 M hM hy1 hy2 hy3 hy4 hy5 hy6 hp => ?_) F _ _ _ _ _ _ _ _ hM58 hx1 hx2 hx3 hx4 hx5 ⟨by decide, by decide⟩ ⟨by decide, by decide⟩ hp
                · refine xJ_iload hX dX12_loadOver_147 rfl ?_
                  refine xJ_iload hX dX12_loadOver_149 rfl ?_
                  refine xJ_icmp_le hX dX12_loadOver_151 (tgt := 159) (by decide) hy6 hy4 (fun c151 => ?_) (fun c151 => ?_)
                  · replace hp := hp.1 c151
                    refine xJ_iload hX dX12_loadOver_159 rfl ?_
                    refine xJ_istore hX dX12_loadOver_161 (Nat.le_of_ble_eq_true rfl) rfl ?_
                    dsimp only [List.set]
                    refine xJ_iinc hX dX12_loadOver_163 rfl rfl ?_
                    dsimp only [List.set]
                    obtain ⟨h163, hp⟩ := hp
                    refine xJ_goto hX dX12_loadOver_166 (tgt := 41) (by decide) ?_
                    refine xJ_fg 6 ?_
                    dsimp only [List.set]
                    exact ih _ _ _ _ _ _ hM hy1 hy2 hy3 hy4 h163 hp
                  · replace hp := hp.2 c151
                    refine xJ_iload hX dX12_loadOver_154 rfl ?_
                    refine xJ_goto hX dX12_loadOver_156 (tgt := 161) (by decide) ?_
                    refine xJ_istore hX dX12_loadOver_161 (Nat.le_of_ble_eq_true rfl) rfl ?_
                    dsimp only [List.set]
                    refine xJ_iinc hX dX12_loadOver_163 rfl rfl ?_
                    dsimp only [List.set]
                    obtain ⟨h163, hp⟩ := hp
                    refine xJ_goto hX dX12_loadOver_166 (tgt := 41) (by decide) ?_
                    refine xJ_fg 6 ?_
                    dsimp only [List.set]
                    exact ih _ _ _ _ _ _ hM hy1 hy2 hy3 hy6 h163 hp
              · replace hp := hp.2 c61
                refine xJ_goto hX dX12_loadOver_64 (tgt := 163) (by decide) ?_
                refine xJ_iinc hX dX12_loadOver_163 rfl rfl ?_
                dsimp only [List.set]
                obtain ⟨h163, hp⟩ := hp
                refine xJ_goto hX dX12_loadOver_166 (tgt := 41) (by decide) ?_
                exact ih _ _ _ _ _ _ hM58 hx1 hx2 hx3 hx4 h163 hp
        refine lp41 F _ _ _ _ _ _ hM27 hx1 hx2 hx3 ⟨by decide, by decide⟩ ⟨by decide, by decide⟩ hp
      · replace hp := hp.2 c30
        refine xJ_iconst hX dX12_loadOver_33 ?_
        refine xJ_iret hX hB dX12_loadOver_34 (by decide) (by decide) ⟨_, rfl, ⟨by decide, by decide⟩, hM27, rfl, hp⟩
def p_X12_curve (a : Nat) (x1 : Int) (x2 : Int) (M : xMe) (Q : Int → xMe → Prop) : Prop :=
  (∀ M2 : xMe, M2 = xw M a 0 0 → p_X12_noGate a x1 M2 (fun r7 M7 => ((r7 ≠ 0 → Q 0 M7) ∧ (r7 = 0 → p_X12_noNumber a x2 1 999 M7 (fun r19 M19 => ((r19 = 0 → p_X12_ofGate a x1 1 M19 (fun r32 M32 => p_X12_ofGate a x1 0 M32 (fun r38 M38 => (xR (r38 * x2)) ∧ (xR (r32 + (r38 * x2))) ∧ Q (r32 + (r38 * x2)) M38))) ∧ (r19 ≠ 0 → Q 0 M19)))))))
set_option maxHeartbeats 4000000 in
set_option maxRecDepth 100000 in
theorem c_X12_curve {G : xGx} {t : xTh} {M : xMe} {a : Nat} {x1 : Int} {x2 : Int} {Q : Int → xMe → Prop} (hL : oX12 t a) (hM : xMR M) (hx1 : xR x1) (hx2 : xR x2) (hp : p_X12_curve a x1 x2 M Q) : xCt G yX12_curve cX12_curve 3 (some .int) 2 0 0 [vr a, vi x1, vi x2] t M (fun v t' M' => ∃ r, v = some (vi r) ∧ xR r ∧ xMR M' ∧ t' = t ∧ Q r M') (fun _ _ _ => False) := by
  refine xCt_of (L0 := [vr a, vi x1, vi x2]) (by decide +kernel) (Nat.le_of_ble_eq_true rfl) rfl ?_
  intro X hX hB
  unfold p_X12_curve at hp
  refine xJ_aload_n hX dX12_curve_0 rfl ?_
  refine xJ_iconst hX dX12_curve_1 ?_
  refine xJ_putIM hX dX12_curve_2 fd_X12_42 ft_X12 rfl rfl rfl rfl (oX12_k hL) hM ⟨by decide, by decide⟩ (fun M2 e2 hM2 => ?_)
  replace hp := hp M2 e2
  refine xJ_aload_n hX dX12_curve_5 rfl ?_
  refine xJ_iload_n hX dX12_curve_6 rfl ?_
  refine xJ_callV (As := [_]) hX hB dX12_curve_7 lk_X12_265 im_X12_noGate se_X12_noGate rfl (by decide) (oX12_k hL) (c_X12_noGate hL hM2 hx1 hp) (by decide) rfl rfl rfl (Nat.le_of_ble_eq_true rfl) (by decide) (by decide) (fun v t9 M7 hv => ?_) (fun _ _ _ q => q.elim)
  obtain ⟨r7, rfl, h7, hM7, ht9, hp⟩ := hv
  replace ht9 := ht9.symm
  subst ht9
  dsimp only [Option.toList, List.cons_append, List.nil_append]
  refine xJ_if_ne hX dX12_curve_10 (tgt := 25) (by decide) h7 (fun c10 => ?_) (fun c10 => ?_)
  · replace hp := hp.1 c10
    refine xJ_iconst hX dX12_curve_25 ?_
    refine xJ_goto hX dX12_curve_26 (tgt := 44) (by decide) ?_
    refine xJ_iret hX hB dX12_curve_44 (by decide) (by decide) ⟨_, rfl, ⟨by decide, by decide⟩, hM7, rfl, hp⟩
  · replace hp := hp.2 c10
    refine xJ_aload_n hX dX12_curve_13 rfl ?_
    refine xJ_iload_n hX dX12_curve_14 rfl ?_
    refine xJ_iconst hX dX12_curve_15 ?_
    refine xJ_sipush hX dX12_curve_16 rfl ?_
    refine xJ_callV (As := [_, _, _]) hX hB dX12_curve_19 lk_X12_268 im_X12_noNumber se_X12_noNumber rfl (by decide) (oX12_k hL) (c_X12_noNumber hL hM7 hx2 ⟨by decide, by decide⟩ ⟨by decide, by decide⟩ hp) (by decide) rfl rfl rfl (Nat.le_of_ble_eq_true rfl) (by decide) (by decide) (fun v t9 M19 hv => ?_) (fun _ _ _ q => q.elim)
    obtain ⟨r19, rfl, h19, hM19, ht9, hp⟩ := hv
    replace ht9 := ht9.symm
    subst ht9
    dsimp only [Option.toList, List.cons_append, List.nil_append]
    refine xJ_if_eq hX dX12_curve_22 (tgt := 29) (by decide) h19 (fun c22 => ?_) (fun c22 => ?_)
    · replace hp := hp.1 c22
      refine xJ_aload_n hX dX12_curve_29 rfl ?_
      refine xJ_iload_n hX dX12_curve_30 rfl ?_
      refine xJ_iconst hX dX12_curve_31 ?_
      refine xJ_callV (As := [_, _]) hX hB dX12_curve_32 lk_X12_226 im_X12_ofGate se_X12_ofGate rfl (by decide) (oX12_k hL) (c_X12_ofGate hL hM19 hx1 ⟨by decide, by decide⟩ hp) (by decide) rfl rfl rfl (Nat.le_of_ble_eq_true rfl) (by decide) (by decide) (fun v t9 M32 hv => ?_) (fun _ _ _ q => q.elim)
      obtain ⟨r32, rfl, h32, hM32, ht9, hp⟩ := hv
      replace ht9 := ht9.symm
      subst ht9
      dsimp only [Option.toList, List.cons_append, List.nil_append]
      refine xJ_aload_n hX dX12_curve_35 rfl ?_
      refine xJ_iload_n hX dX12_curve_36 rfl ?_
      refine xJ_iconst hX dX12_curve_37 ?_
      refine xJ_callV (As := [_, _]) hX hB dX12_curve_38 lk_X12_226 im_X12_ofGate se_X12_ofGate rfl (by decide) (oX12_k hL) (c_X12_ofGate hL hM32 hx1 ⟨by decide, by decide⟩ hp) (by decide) rfl rfl rfl (Nat.le_of_ble_eq_true rfl) (by decide) (by decide) (fun v t9 M38 hv => ?_) (fun _ _ _ q => q.elim)
      obtain ⟨r38, rfl, h38, hM38, ht9, hp⟩ := hv
      replace ht9 := ht9.symm
      subst ht9
      dsimp only [Option.toList, List.cons_append, List.nil_append]
      refine xJ_iload_n hX dX12_curve_41 rfl ?_
      refine xJ_imul hX dX12_curve_42 ?_
      obtain ⟨h42, hp⟩ := hp
      refine xJ_iadd hX dX12_curve_43 ?_
      obtain ⟨h43, hp⟩ := hp
      refine xJ_iret hX hB dX12_curve_44 (by decide) (by decide) ⟨_, rfl, h43, hM38, rfl, hp⟩
    · replace hp := hp.2 c22
      refine xJ_iconst hX dX12_curve_25 ?_
      refine xJ_goto hX dX12_curve_26 (tgt := 44) (by decide) ?_
      refine xJ_iret hX hB dX12_curve_44 (by decide) (by decide) ⟨_, rfl, ⟨by decide, by decide⟩, hM19, rfl, hp⟩
def p_X12_endsAt (F : Nat) (a : Nat) (x1 : Int) (M : xMe) (Q : Int → xMe → Prop) : Prop :=
  (∀ M2 : xMe, M2 = xw M a 0 0 → p_X12_noPacket a x1 M2 (fun r7 M7 => ((r7 = 0 → p_X12_copy F (a + 2) 2105 (a + 4) 905 905 M7 (fun M26 => p_X12_endOf F a x1 500 M26 (fun r34 M34 => p_X12_copy F (a + 4) 905 (a + 2) 2105 905 M34 (fun M49 => Q r34 M49)))) ∧ (r7 ≠ 0 → Q 0 M7))))
set_option maxHeartbeats 4000000 in
set_option maxRecDepth 100000 in
theorem c_X12_endsAt {G : xGx} {t : xTh} {M : xMe} {F : Nat} {a : Nat} {x1 : Int} {Q : Int → xMe → Prop} (hL : oX12 t a) (hM : xMR M) (hx1 : xR x1) (hp : p_X12_endsAt F a x1 M Q) : xCt G yX12_endsAt cX12_endsAt 3 (some .int) 6 0 0 [vr a, vi x1] t M (fun v t' M' => ∃ r, v = some (vi r) ∧ xR r ∧ xMR M' ∧ t' = t ∧ Q r M') (fun _ _ _ => False) := by
  refine xCt_of (L0 := [vr a, vi x1, vU]) (by decide +kernel) (Nat.le_of_ble_eq_true rfl) rfl ?_
  intro X hX hB
  unfold p_X12_endsAt at hp
  refine xJ_aload_n hX dX12_endsAt_0 rfl ?_
  refine xJ_iconst hX dX12_endsAt_1 ?_
  refine xJ_putIM hX dX12_endsAt_2 fd_X12_42 ft_X12 rfl rfl rfl rfl (oX12_k hL) hM ⟨by decide, by decide⟩ (fun M2 e2 hM2 => ?_)
  replace hp := hp M2 e2
  refine xJ_aload_n hX dX12_endsAt_5 rfl ?_
  refine xJ_iload_n hX dX12_endsAt_6 rfl ?_
  refine xJ_callV (As := [_]) hX hB dX12_endsAt_7 lk_X12_280 im_X12_noPacket se_X12_noPacket rfl (by decide) (oX12_k hL) (c_X12_noPacket hL hM2 hx1 hp) (by decide) rfl rfl rfl (Nat.le_of_ble_eq_true rfl) (by decide) (by decide) (fun v t9 M7 hv => ?_) (fun _ _ _ q => q.elim)
  obtain ⟨r7, rfl, h7, hM7, ht9, hp⟩ := hv
  replace ht9 := ht9.symm
  subst ht9
  dsimp only [Option.toList, List.cons_append, List.nil_append]
  refine xJ_if_eq hX dX12_endsAt_10 (tgt := 15) (by decide) h7 (fun c10 => ?_) (fun c10 => ?_)
  · replace hp := hp.1 c10
    refine xJ_aload_n hX dX12_endsAt_15 rfl ?_
    refine xJ_getR (b := (a + 2)) hX dX12_endsAt_16 fd_X12_17 rfl (oX12_k hL) (oX12_r8 hL) ?_
    refine xJ_aload_n hX dX12_endsAt_19 rfl ?_
    refine xJ_getR (b := (a + 4)) hX dX12_endsAt_20 fd_X12_23 rfl (oX12_k hL) (oX12_r10 hL) ?_
    refine xJ_sipush hX dX12_endsAt_23 rfl ?_
    refine xJ_callS (As := [_, _, _]) hX hB dX12_endsAt_26 lk_X12_193 sm_X12_copy (c_X12_copy (oX12_k8 hL) (oX12_n8 hL) ⟨by decide, by decide⟩ (oX12_k10 hL) (oX12_n10 hL) ⟨by decide, by decide⟩ hM7 ⟨by decide, by decide⟩ hp) (by decide) rfl rfl rfl (Nat.le_of_ble_eq_true rfl) (by decide) (by decide) (fun v t9 M26 hv => ?_) (fun _ _ _ q => q.elim)
    obtain ⟨rfl, hM26, ht9, hp⟩ := hv
    replace ht9 := ht9.symm
    subst ht9
    dsimp only [Option.toList, List.cons_append, List.nil_append]
    refine xJ_aload_n hX dX12_endsAt_29 rfl ?_
    refine xJ_iload_n hX dX12_endsAt_30 rfl ?_
    refine xJ_sipush hX dX12_endsAt_31 rfl ?_
    refine xJ_callV (As := [_, _]) hX hB dX12_endsAt_34 lk_X12_295 im_X12_endOf se_X12_endOf rfl (by decide) (oX12_k hL) (c_X12_endOf hL hM26 hx1 ⟨by decide, by decide⟩ hp) (by decide) rfl rfl rfl (Nat.le_of_ble_eq_true rfl) (by decide) (by decide) (fun v t9 M34 hv => ?_) (fun _ _ _ q => q.elim)
    obtain ⟨r34, rfl, h34, hM34, ht9, hp⟩ := hv
    replace ht9 := ht9.symm
    subst ht9
    dsimp only [Option.toList, List.cons_append, List.nil_append]
    refine xJ_istore_n hX dX12_endsAt_37 (Nat.le_of_ble_eq_true rfl) rfl ?_
    dsimp only [List.set]
    refine xJ_aload_n hX dX12_endsAt_38 rfl ?_
    refine xJ_getR (b := (a + 4)) hX dX12_endsAt_39 fd_X12_23 rfl (oX12_k hL) (oX12_r10 hL) ?_
    refine xJ_aload_n hX dX12_endsAt_42 rfl ?_
    refine xJ_getR (b := (a + 2)) hX dX12_endsAt_43 fd_X12_17 rfl (oX12_k hL) (oX12_r8 hL) ?_
    refine xJ_sipush hX dX12_endsAt_46 rfl ?_
    refine xJ_callS (As := [_, _, _]) hX hB dX12_endsAt_49 lk_X12_193 sm_X12_copy (c_X12_copy (oX12_k10 hL) (oX12_n10 hL) ⟨by decide, by decide⟩ (oX12_k8 hL) (oX12_n8 hL) ⟨by decide, by decide⟩ hM34 ⟨by decide, by decide⟩ hp) (by decide) rfl rfl rfl (Nat.le_of_ble_eq_true rfl) (by decide) (by decide) (fun v t9 M49 hv => ?_) (fun _ _ _ q => q.elim)
    obtain ⟨rfl, hM49, ht9, hp⟩ := hv
    replace ht9 := ht9.symm
    subst ht9
    dsimp only [Option.toList, List.cons_append, List.nil_append]
    refine xJ_iload_n hX dX12_endsAt_52 rfl ?_
    refine xJ_iret hX hB dX12_endsAt_53 (by decide) (by decide) ⟨_, rfl, h34, hM49, rfl, hp⟩
  · replace hp := hp.2 c10
    refine xJ_iconst hX dX12_endsAt_13 ?_
    refine xJ_iret hX hB dX12_endsAt_14 (by decide) (by decide) ⟨_, rfl, ⟨by decide, by decide⟩, hM7, rfl, hp⟩
def p_X12_billAfter_43 (F : Nat) (a : Nat) (Q : Int → xMe → Prop) : Nat → Int → Int → Int → xMe → Prop
  | 0, _, _, _, _ => False
  | k + 1, x1, x2, x3, M =>
    ((x2 ≤ x3 → p_X12_ofFlow a x1 2 M (fun r61 M61 => p_X12_copy F (a + 4) 905 (a + 2) 2105 905 M61 (fun M76 => Q r61 M76))) ∧ (x3 < x2 → p_X12_tick F a M (fun M49 => (xR (x3 + 1)) ∧ p_X12_billAfter_43 F a Q k x1 x2 (x3 + 1) M49)))
def p_X12_billAfter (F : Nat) (a : Nat) (x1 : Int) (x2 : Int) (M : xMe) (Q : Int → xMe → Prop) : Prop :=
  (∀ M2 : xMe, M2 = xw M a 0 0 → p_X12_noFlow a x1 M2 (fun r7 M7 => ((r7 ≠ 0 → Q 0 M7) ∧ (r7 = 0 → p_X12_noNumber a x2 0 500 M7 (fun r19 M19 => ((r19 = 0 → p_X12_copy F (a + 2) 2105 (a + 4) 905 905 M19 (fun M38 => p_X12_billAfter_43 F a Q F x1 x2 0 M38)) ∧ (r19 ≠ 0 → Q 0 M19)))))))
set_option maxHeartbeats 4000000 in
set_option maxRecDepth 100000 in
theorem c_X12_billAfter {G : xGx} {t : xTh} {M : xMe} {F : Nat} {a : Nat} {x1 : Int} {x2 : Int} {Q : Int → xMe → Prop} (hL : oX12 t a) (hM : xMR M) (hx1 : xR x1) (hx2 : xR x2) (hp : p_X12_billAfter F a x1 x2 M Q) : xCt G yX12_billAfter cX12_billAfter 4 (some .int) 5 0 0 [vr a, vi x1, vi x2] t M (fun v t' M' => ∃ r, v = some (vi r) ∧ xR r ∧ xMR M' ∧ t' = t ∧ Q r M') (fun _ _ _ => False) := by
  refine xCt_of (L0 := [vr a, vi x1, vi x2, vU]) (by decide +kernel) (Nat.le_of_ble_eq_true rfl) rfl ?_
  intro X hX hB
  unfold p_X12_billAfter at hp
  refine xJ_aload_n hX dX12_billAfter_0 rfl ?_
  refine xJ_iconst hX dX12_billAfter_1 ?_
  refine xJ_putIM hX dX12_billAfter_2 fd_X12_42 ft_X12 rfl rfl rfl rfl (oX12_k hL) hM ⟨by decide, by decide⟩ (fun M2 e2 hM2 => ?_)
  replace hp := hp M2 e2
  refine xJ_aload_n hX dX12_billAfter_5 rfl ?_
  refine xJ_iload_n hX dX12_billAfter_6 rfl ?_
  refine xJ_callV (As := [_]) hX hB dX12_billAfter_7 lk_X12_274 im_X12_noFlow se_X12_noFlow rfl (by decide) (oX12_k hL) (c_X12_noFlow hL hM2 hx1 hp) (by decide) rfl rfl rfl (Nat.le_of_ble_eq_true rfl) (by decide) (by decide) (fun v t9 M7 hv => ?_) (fun _ _ _ q => q.elim)
  obtain ⟨r7, rfl, h7, hM7, ht9, hp⟩ := hv
  replace ht9 := ht9.symm
  subst ht9
  dsimp only [Option.toList, List.cons_append, List.nil_append]
  refine xJ_if_ne hX dX12_billAfter_10 (tgt := 25) (by decide) h7 (fun c10 => ?_) (fun c10 => ?_)
  · replace hp := hp.1 c10
    refine xJ_iconst hX dX12_billAfter_25 ?_
    refine xJ_iret hX hB dX12_billAfter_26 (by decide) (by decide) ⟨_, rfl, ⟨by decide, by decide⟩, hM7, rfl, hp⟩
  · replace hp := hp.2 c10
    refine xJ_aload_n hX dX12_billAfter_13 rfl ?_
    refine xJ_iload_n hX dX12_billAfter_14 rfl ?_
    refine xJ_iconst hX dX12_billAfter_15 ?_
    refine xJ_sipush hX dX12_billAfter_16 rfl ?_
    refine xJ_callV (As := [_, _, _]) hX hB dX12_billAfter_19 lk_X12_268 im_X12_noNumber se_X12_noNumber rfl (by decide) (oX12_k hL) (c_X12_noNumber hL hM7 hx2 ⟨by decide, by decide⟩ ⟨by decide, by decide⟩ hp) (by decide) rfl rfl rfl (Nat.le_of_ble_eq_true rfl) (by decide) (by decide) (fun v t9 M19 hv => ?_) (fun _ _ _ q => q.elim)
    obtain ⟨r19, rfl, h19, hM19, ht9, hp⟩ := hv
    replace ht9 := ht9.symm
    subst ht9
    dsimp only [Option.toList, List.cons_append, List.nil_append]
    refine xJ_if_eq hX dX12_billAfter_22 (tgt := 27) (by decide) h19 (fun c22 => ?_) (fun c22 => ?_)
    · replace hp := hp.1 c22
      refine xJ_aload_n hX dX12_billAfter_27 rfl ?_
      refine xJ_getR (b := (a + 2)) hX dX12_billAfter_28 fd_X12_17 rfl (oX12_k hL) (oX12_r8 hL) ?_
      refine xJ_aload_n hX dX12_billAfter_31 rfl ?_
      refine xJ_getR (b := (a + 4)) hX dX12_billAfter_32 fd_X12_23 rfl (oX12_k hL) (oX12_r10 hL) ?_
      refine xJ_sipush hX dX12_billAfter_35 rfl ?_
      refine xJ_callS (As := [_, _, _]) hX hB dX12_billAfter_38 lk_X12_193 sm_X12_copy (c_X12_copy (oX12_k8 hL) (oX12_n8 hL) ⟨by decide, by decide⟩ (oX12_k10 hL) (oX12_n10 hL) ⟨by decide, by decide⟩ hM19 ⟨by decide, by decide⟩ hp) (by decide) rfl rfl rfl (Nat.le_of_ble_eq_true rfl) (by decide) (by decide) (fun v t9 M38 hv => ?_) (fun _ _ _ q => q.elim)
      obtain ⟨rfl, hM38, ht9, hp⟩ := hv
      replace ht9 := ht9.symm
      subst ht9
      dsimp only [Option.toList, List.cons_append, List.nil_append]
      refine xJ_iconst hX dX12_billAfter_41 ?_
      refine xJ_istore_n hX dX12_billAfter_42 (Nat.le_of_ble_eq_true rfl) rfl ?_
      dsimp only [List.set]
      have lp43 : ∀ (k : Nat) (x1 : Int) (x2 : Int) (x3 : Int) (M : xMe) (hM : xMR M) (hx1 : xR x1) (hx2 : xR x2) (hx3 : xR x3) (hp : p_X12_billAfter_43 F a Q k x1 x2 x3 M), xJ X 0 0 t M 43 [vr a, vi x1, vi x2, vi x3] [] := by
        intro k
        induction k with
        | zero => intro x1 x2 x3 M hM hx1 hx2 hx3 hp; exact hp.elim
        | succ k ih =>
          intro x1 x2 x3 M hM hx1 hx2 hx3 hp
          unfold p_X12_billAfter_43 at hp
          refine xJ_iload_n hX dX12_billAfter_43 rfl ?_
          refine xJ_iload_n hX dX12_billAfter_44 rfl ?_
          refine xJ_icmp_ge hX dX12_billAfter_45 (tgt := 58) (by decide) hx3 hx2 (fun c45 => ?_) (fun c45 => ?_)
          · replace hp := hp.1 c45
            refine xJ_aload_n hX dX12_billAfter_58 rfl ?_
            refine xJ_iload_n hX dX12_billAfter_59 rfl ?_
            refine xJ_iconst hX dX12_billAfter_60 ?_
            refine xJ_callV (As := [_, _]) hX hB dX12_billAfter_61 lk_X12_200 im_X12_ofFlow se_X12_ofFlow rfl (by decide) (oX12_k hL) (c_X12_ofFlow hL hM hx1 ⟨by decide, by decide⟩ hp) (by decide) rfl rfl rfl (Nat.le_of_ble_eq_true rfl) (by decide) (by decide) (fun v t9 M61 hv => ?_) (fun _ _ _ q => q.elim)
            obtain ⟨r61, rfl, h61, hM61, ht9, hp⟩ := hv
            replace ht9 := ht9.symm
            subst ht9
            dsimp only [Option.toList, List.cons_append, List.nil_append]
            refine xJ_istore_n hX dX12_billAfter_64 (Nat.le_of_ble_eq_true rfl) rfl ?_
            dsimp only [List.set]
            refine xJ_aload_n hX dX12_billAfter_65 rfl ?_
            refine xJ_getR (b := (a + 4)) hX dX12_billAfter_66 fd_X12_23 rfl (oX12_k hL) (oX12_r10 hL) ?_
            refine xJ_aload_n hX dX12_billAfter_69 rfl ?_
            refine xJ_getR (b := (a + 2)) hX dX12_billAfter_70 fd_X12_17 rfl (oX12_k hL) (oX12_r8 hL) ?_
            refine xJ_sipush hX dX12_billAfter_73 rfl ?_
            refine xJ_callS (As := [_, _, _]) hX hB dX12_billAfter_76 lk_X12_193 sm_X12_copy (c_X12_copy (oX12_k10 hL) (oX12_n10 hL) ⟨by decide, by decide⟩ (oX12_k8 hL) (oX12_n8 hL) ⟨by decide, by decide⟩ hM61 ⟨by decide, by decide⟩ hp) (by decide) rfl rfl rfl (Nat.le_of_ble_eq_true rfl) (by decide) (by decide) (fun v t9 M76 hv => ?_) (fun _ _ _ q => q.elim)
            obtain ⟨rfl, hM76, ht9, hp⟩ := hv
            replace ht9 := ht9.symm
            subst ht9
            dsimp only [Option.toList, List.cons_append, List.nil_append]
            refine xJ_iload_n hX dX12_billAfter_79 rfl ?_
            refine xJ_iret hX hB dX12_billAfter_80 (by decide) (by decide) ⟨_, rfl, h61, hM76, rfl, hp⟩
          · replace hp := hp.2 c45
            refine xJ_aload_n hX dX12_billAfter_48 rfl ?_
            refine xJ_callV (As := []) hX hB dX12_billAfter_49 lk_X12_262 im_X12_tick se_X12_tick rfl (by decide) (oX12_k hL) (c_X12_tick hL hM hp) (by decide) rfl rfl rfl (Nat.le_of_ble_eq_true rfl) (by decide) (by decide) (fun v t9 M49 hv => ?_) (fun _ _ _ q => q.elim)
            obtain ⟨rfl, hM49, ht9, hp⟩ := hv
            replace ht9 := ht9.symm
            subst ht9
            dsimp only [Option.toList, List.cons_append, List.nil_append]
            refine xJ_iinc hX dX12_billAfter_52 rfl rfl ?_
            dsimp only [List.set]
            obtain ⟨h52, hp⟩ := hp
            refine xJ_goto hX dX12_billAfter_55 (tgt := 43) (by decide) ?_
            exact ih _ _ _ _ hM49 hx1 hx2 h52 hp
      refine lp43 F _ _ _ _ hM38 hx1 hx2 ⟨by decide, by decide⟩ hp
    · replace hp := hp.2 c22
      refine xJ_iconst hX dX12_billAfter_25 ?_
      refine xJ_iret hX hB dX12_billAfter_26 (by decide) (by decide) ⟨_, rfl, ⟨by decide, by decide⟩, hM19, rfl, hp⟩
def p_X12_helps (F : Nat) (a : Nat) (x1 : Int) (x2 : Int) (x3 : Int) (M : xMe) (Q : Int → xMe → Prop) : Prop :=
  p_X12_copy F (a + 2) 2105 (a + 5) 905 905 M (fun M11 => p_X12_packetAt x1 M11 (fun r23 M23 => (xR (r23 + 0)) ∧ ((0 : Int) ≤ (r23 + 0) ∧ ((r23 + 0) : Int) < 2105) ∧ ((0 : Int) ≤ 0 ∧ (0 : Int) < 2105) ∧ (xR ((M23 (a + 2) 0) + 9999)) ∧ p_X12_putCoupon (a + 2) 2105 (M23 (a + 2) (r23 + 0).toNat) x2 ((M23 (a + 2) 0) + 9999) M23 (fun M40 => p_X12_endOf F a x1 x3 M40 (fun r46 M46 => ((r46 = ((-1)) → p_X12_copy F (a + 5) 905 (a + 2) 2105 905 M46 (fun M71 => Q 0 M71)) ∧ (r46 ≠ ((-1)) → p_X12_copy F (a + 5) 905 (a + 2) 2105 905 M46 (fun M71 => Q 1 M71)))))))
set_option maxHeartbeats 4000000 in
set_option maxRecDepth 100000 in
theorem c_X12_helps {G : xGx} {t : xTh} {M : xMe} {F : Nat} {a : Nat} {x1 : Int} {x2 : Int} {x3 : Int} {Q : Int → xMe → Prop} (hL : oX12 t a) (hM : xMR M) (hx1 : xR x1) (hx2 : xR x2) (hx3 : xR x3) (hp : p_X12_helps F a x1 x2 x3 M Q) : xCt G yX12_helps cX12_helps 5 (some .boolean) 6 0 0 [vr a, vi x1, vi x2, vi x3] t M (fun v t' M' => ∃ r, v = some (vi r) ∧ xR r ∧ xMR M' ∧ t' = t ∧ Q r M') (fun _ _ _ => False) := by
  refine xCt_of (L0 := [vr a, vi x1, vi x2, vi x3, vU]) (by decide +kernel) (Nat.le_of_ble_eq_true rfl) rfl ?_
  intro X hX hB
  unfold p_X12_helps at hp
  refine xJ_aload_n hX dX12_helps_0 rfl ?_
  refine xJ_getR (b := (a + 2)) hX dX12_helps_1 fd_X12_17 rfl (oX12_k hL) (oX12_r8 hL) ?_
  refine xJ_aload_n hX dX12_helps_4 rfl ?_
  refine xJ_getR (b := (a + 5)) hX dX12_helps_5 fd_X12_26 rfl (oX12_k hL) (oX12_r11 hL) ?_
  refine xJ_sipush hX dX12_helps_8 rfl ?_
  refine xJ_callS (As := [_, _, _]) hX hB dX12_helps_11 lk_X12_193 sm_X12_copy (c_X12_copy (oX12_k8 hL) (oX12_n8 hL) ⟨by decide, by decide⟩ (oX12_k11 hL) (oX12_n11 hL) ⟨by decide, by decide⟩ hM ⟨by decide, by decide⟩ hp) (by decide) rfl rfl rfl (Nat.le_of_ble_eq_true rfl) (by decide) (by decide) (fun v t9 M11 hv => ?_) (fun _ _ _ q => q.elim)
  obtain ⟨rfl, hM11, ht9, hp⟩ := hv
  replace ht9 := ht9.symm
  subst ht9
  dsimp only [Option.toList, List.cons_append, List.nil_append]
  refine xJ_aload_n hX dX12_helps_14 rfl ?_
  refine xJ_getR (b := (a + 2)) hX dX12_helps_15 fd_X12_17 rfl (oX12_k hL) (oX12_r8 hL) ?_
  refine xJ_aload_n hX dX12_helps_18 rfl ?_
  refine xJ_getR (b := (a + 2)) hX dX12_helps_19 fd_X12_17 rfl (oX12_k hL) (oX12_r8 hL) ?_
  refine xJ_iload_n hX dX12_helps_22 rfl ?_
  refine xJ_callS (As := [_]) hX hB dX12_helps_23 lk_X12_197 sm_X12_packetAt (c_X12_packetAt  hM11 hx1 hp) (by decide) rfl rfl rfl (Nat.le_of_ble_eq_true rfl) (by decide) (by decide) (fun v t9 M23 hv => ?_) (fun _ _ _ q => q.elim)
  obtain ⟨r23, rfl, h23, hM23, ht9, hp⟩ := hv
  replace ht9 := ht9.symm
  subst ht9
  dsimp only [Option.toList, List.cons_append, List.nil_append]
  refine xJ_iconst hX dX12_helps_26 ?_
  refine xJ_iadd hX dX12_helps_27 ?_
  obtain ⟨h27, hp⟩ := hp
  obtain ⟨h28, hp⟩ := hp
  refine xJ_iald hX dX12_helps_28 (oX12_k8 hL) h28.1 (xnlt (oX12_n8 hL) h28.2) ?_
  refine xJ_iload_n hX dX12_helps_29 rfl ?_
  refine xJ_aload_n hX dX12_helps_30 rfl ?_
  refine xJ_getR (b := (a + 2)) hX dX12_helps_31 fd_X12_17 rfl (oX12_k hL) (oX12_r8 hL) ?_
  refine xJ_iconst hX dX12_helps_34 ?_
  obtain ⟨h35, hp⟩ := hp
  refine xJ_iald hX dX12_helps_35 (oX12_k8 hL) h35.1 (xnlt (oX12_n8 hL) h35.2) ?_
  refine xJ_sipush hX dX12_helps_36 rfl ?_
  refine xJ_iadd hX dX12_helps_39 ?_
  obtain ⟨h39, hp⟩ := hp
  refine xJ_callS (As := [_, _, _, _]) hX hB dX12_helps_40 lk_X12_148 sm_X12_putCoupon (c_X12_putCoupon (oX12_k8 hL) (oX12_n8 hL) ⟨by decide, by decide⟩ hM23 (hM23 _ _) hx2 h39 hp) (by decide) rfl rfl rfl (Nat.le_of_ble_eq_true rfl) (by decide) (by decide) (fun v t9 M40 hv => ?_) (fun _ _ _ q => q.elim)
  obtain ⟨rfl, hM40, ht9, hp⟩ := hv
  replace ht9 := ht9.symm
  subst ht9
  dsimp only [Option.toList, List.cons_append, List.nil_append]
  refine xJ_aload_n hX dX12_helps_43 rfl ?_
  refine xJ_iload_n hX dX12_helps_44 rfl ?_
  refine xJ_iload_n hX dX12_helps_45 rfl ?_
  refine xJ_callV (As := [_, _]) hX hB dX12_helps_46 lk_X12_295 im_X12_endOf se_X12_endOf rfl (by decide) (oX12_k hL) (c_X12_endOf hL hM40 hx1 hx3 hp) (by decide) rfl rfl rfl (Nat.le_of_ble_eq_true rfl) (by decide) (by decide) (fun v t9 M46 hv => ?_) (fun _ _ _ q => q.elim)
  obtain ⟨r46, rfl, h46, hM46, ht9, hp⟩ := hv
  replace ht9 := ht9.symm
  subst ht9
  dsimp only [Option.toList, List.cons_append, List.nil_append]
  refine xJ_iconst hX dX12_helps_49 ?_
  refine xJ_icmp_eq hX dX12_helps_50 (tgt := 57) (by decide) h46 ⟨by decide, by decide⟩ (fun c50 => ?_) (fun c50 => ?_)
  · replace hp := hp.1 c50
    refine xJ_iconst hX dX12_helps_57 ?_
    refine xJ_istore hX dX12_helps_58 (Nat.le_of_ble_eq_true rfl) rfl ?_
    dsimp only [List.set]
    refine xJ_aload_n hX dX12_helps_60 rfl ?_
    refine xJ_getR (b := (a + 5)) hX dX12_helps_61 fd_X12_26 rfl (oX12_k hL) (oX12_r11 hL) ?_
    refine xJ_aload_n hX dX12_helps_64 rfl ?_
    refine xJ_getR (b := (a + 2)) hX dX12_helps_65 fd_X12_17 rfl (oX12_k hL) (oX12_r8 hL) ?_
    refine xJ_sipush hX dX12_helps_68 rfl ?_
    refine xJ_callS (As := [_, _, _]) hX hB dX12_helps_71 lk_X12_193 sm_X12_copy (c_X12_copy (oX12_k11 hL) (oX12_n11 hL) ⟨by decide, by decide⟩ (oX12_k8 hL) (oX12_n8 hL) ⟨by decide, by decide⟩ hM46 ⟨by decide, by decide⟩ hp) (by decide) rfl rfl rfl (Nat.le_of_ble_eq_true rfl) (by decide) (by decide) (fun v t9 M71 hv => ?_) (fun _ _ _ q => q.elim)
    obtain ⟨rfl, hM71, ht9, hp⟩ := hv
    replace ht9 := ht9.symm
    subst ht9
    dsimp only [Option.toList, List.cons_append, List.nil_append]
    refine xJ_iload hX dX12_helps_74 rfl ?_
    refine xJ_zret hX hB dX12_helps_76 rfl (by decide) (by decide) ⟨_, rfl, ⟨by decide, by decide⟩, hM71, rfl, hp⟩
  · replace hp := hp.2 c50
    refine xJ_iconst hX dX12_helps_53 ?_
    refine xJ_goto hX dX12_helps_54 (tgt := 58) (by decide) ?_
    refine xJ_istore hX dX12_helps_58 (Nat.le_of_ble_eq_true rfl) rfl ?_
    dsimp only [List.set]
    refine xJ_aload_n hX dX12_helps_60 rfl ?_
    refine xJ_getR (b := (a + 5)) hX dX12_helps_61 fd_X12_26 rfl (oX12_k hL) (oX12_r11 hL) ?_
    refine xJ_aload_n hX dX12_helps_64 rfl ?_
    refine xJ_getR (b := (a + 2)) hX dX12_helps_65 fd_X12_17 rfl (oX12_k hL) (oX12_r8 hL) ?_
    refine xJ_sipush hX dX12_helps_68 rfl ?_
    refine xJ_callS (As := [_, _, _]) hX hB dX12_helps_71 lk_X12_193 sm_X12_copy (c_X12_copy (oX12_k11 hL) (oX12_n11 hL) ⟨by decide, by decide⟩ (oX12_k8 hL) (oX12_n8 hL) ⟨by decide, by decide⟩ hM46 ⟨by decide, by decide⟩ hp) (by decide) rfl rfl rfl (Nat.le_of_ble_eq_true rfl) (by decide) (by decide) (fun v t9 M71 hv => ?_) (fun _ _ _ q => q.elim)
    obtain ⟨rfl, hM71, ht9, hp⟩ := hv
    replace ht9 := ht9.symm
    subst ht9
    dsimp only [Option.toList, List.cons_append, List.nil_append]
    refine xJ_iload hX dX12_helps_74 rfl ?_
    refine xJ_zret hX hB dX12_helps_76 rfl (by decide) (by decide) ⟨_, rfl, ⟨by decide, by decide⟩, hM71, rfl, hp⟩
def p_X12_help_96 (F : Nat) (a : Nat) (Q : Int → xMe → Prop) : Nat → Int → Int → Int → xMe → Prop
  | 0, _, _, _, _ => False
  | k + 1, x1, x3, x4, M =>
    ((999 < x4 → Q ((-1)) M) ∧ (x4 ≤ 999 → p_X12_helps F a x1 x4 x3 M (fun r109 M109 => ((r109 = 0 → (xR (x4 + 1)) ∧ p_X12_help_96 F a Q k x1 x3 (x4 + 1) M109) ∧ (r109 ≠ 0 → Q x4 M109)))))
def p_X12_help (F : Nat) (a : Nat) (x1 : Int) (M : xMe) (Q : Int → xMe → Prop) : Prop :=
  (∀ M2 : xMe, M2 = xw M a 0 0 → p_X12_noPacket a x1 M2 (fun r7 M7 => ((r7 = 0 → p_X12_hasEnded a x1 M7 (fun r17 M17 => ((r17 ≠ 0 → Q ((-1)) M17) ∧ (r17 = 0 → ((0 : Int) ≤ 4 ∧ (4 : Int) < 2105) ∧ (((M17 (a + 2) 4) ≠ 30 → p_X12_copy F (a + 2) 2105 (a + 4) 905 905 M17 (fun M47 => p_X12_endOf F a x1 500 M47 (fun r55 M55 => p_X12_copy F (a + 4) 905 (a + 2) 2105 905 M55 (fun M70 => ((r55 ≠ ((-1)) → ((0 : Int) ≤ 0 ∧ (0 : Int) < 2105) ∧ (xR (r55 - (M70 (a + 2) 0))) ∧ (∀ z92 : Int, z92 = r55 - (M70 (a + 2) 0) → p_X12_help_96 F a Q F x1 z92 1 M70)) ∧ (r55 = ((-1)) → p_X12_help_96 F a Q F x1 500 1 M70)))))) ∧ ((M17 (a + 2) 4) = 30 → Q ((-1)) M17)))))) ∧ (r7 ≠ 0 → Q 0 M7))))
set_option maxHeartbeats 4000000 in
set_option maxRecDepth 100000 in
theorem c_X12_help {G : xGx} {t : xTh} {M : xMe} {F : Nat} {a : Nat} {x1 : Int} {Q : Int → xMe → Prop} (hL : oX12 t a) (hM : xMR M) (hx1 : xR x1) (hp : p_X12_help F a x1 M Q) : xCt G yX12_help cX12_help 5 (some .int) 7 0 0 [vr a, vi x1] t M (fun v t' M' => ∃ r, v = some (vi r) ∧ xR r ∧ xMR M' ∧ t' = t ∧ Q r M') (fun _ _ _ => False) := by
  refine xCt_of (L0 := [vr a, vi x1, vU, vU, vU]) (by decide +kernel) (Nat.le_of_ble_eq_true rfl) rfl ?_
  intro X hX hB
  unfold p_X12_help at hp
  refine xJ_aload_n hX dX12_help_0 rfl ?_
  refine xJ_iconst hX dX12_help_1 ?_
  refine xJ_putIM hX dX12_help_2 fd_X12_42 ft_X12 rfl rfl rfl rfl (oX12_k hL) hM ⟨by decide, by decide⟩ (fun M2 e2 hM2 => ?_)
  replace hp := hp M2 e2
  refine xJ_aload_n hX dX12_help_5 rfl ?_
  refine xJ_iload_n hX dX12_help_6 rfl ?_
  refine xJ_callV (As := [_]) hX hB dX12_help_7 lk_X12_280 im_X12_noPacket se_X12_noPacket rfl (by decide) (oX12_k hL) (c_X12_noPacket hL hM2 hx1 hp) (by decide) rfl rfl rfl (Nat.le_of_ble_eq_true rfl) (by decide) (by decide) (fun v t9 M7 hv => ?_) (fun _ _ _ q => q.elim)
  obtain ⟨r7, rfl, h7, hM7, ht9, hp⟩ := hv
  replace ht9 := ht9.symm
  subst ht9
  dsimp only [Option.toList, List.cons_append, List.nil_append]
  refine xJ_if_eq hX dX12_help_10 (tgt := 15) (by decide) h7 (fun c10 => ?_) (fun c10 => ?_)
  · replace hp := hp.1 c10
    refine xJ_aload_n hX dX12_help_15 rfl ?_
    refine xJ_iload_n hX dX12_help_16 rfl ?_
    refine xJ_callV (As := [_]) hX hB dX12_help_17 lk_X12_259 im_X12_hasEnded se_X12_hasEnded rfl (by decide) (oX12_k hL) (c_X12_hasEnded hL hM7 hx1 hp) (by decide) rfl rfl rfl (Nat.le_of_ble_eq_true rfl) (by decide) (by decide) (fun v t9 M17 hv => ?_) (fun _ _ _ q => q.elim)
    obtain ⟨r17, rfl, h17, hM17, ht9, hp⟩ := hv
    replace ht9 := ht9.symm
    subst ht9
    dsimp only [Option.toList, List.cons_append, List.nil_append]
    refine xJ_if_ne hX dX12_help_20 (tgt := 34) (by decide) h17 (fun c20 => ?_) (fun c20 => ?_)
    · replace hp := hp.1 c20
      refine xJ_iconst hX dX12_help_34 ?_
      refine xJ_iret hX hB dX12_help_35 (by decide) (by decide) ⟨_, rfl, ⟨by decide, by decide⟩, hM17, rfl, hp⟩
    · replace hp := hp.2 c20
      refine xJ_aload_n hX dX12_help_23 rfl ?_
      refine xJ_getR (b := (a + 2)) hX dX12_help_24 fd_X12_17 rfl (oX12_k hL) (oX12_r8 hL) ?_
      refine xJ_iconst hX dX12_help_27 ?_
      obtain ⟨h28, hp⟩ := hp
      refine xJ_iald hX dX12_help_28 (oX12_k8 hL) h28.1 (xnlt (oX12_n8 hL) h28.2) ?_
      refine xJ_bipush hX dX12_help_29 rfl ?_
      refine xJ_icmp_ne hX dX12_help_31 (tgt := 36) (by decide) (hM17 _ _) ⟨by decide, by decide⟩ (fun c31 => ?_) (fun c31 => ?_)
      · replace hp := hp.1 c31
        refine xJ_aload_n hX dX12_help_36 rfl ?_
        refine xJ_getR (b := (a + 2)) hX dX12_help_37 fd_X12_17 rfl (oX12_k hL) (oX12_r8 hL) ?_
        refine xJ_aload_n hX dX12_help_40 rfl ?_
        refine xJ_getR (b := (a + 4)) hX dX12_help_41 fd_X12_23 rfl (oX12_k hL) (oX12_r10 hL) ?_
        refine xJ_sipush hX dX12_help_44 rfl ?_
        refine xJ_callS (As := [_, _, _]) hX hB dX12_help_47 lk_X12_193 sm_X12_copy (c_X12_copy (oX12_k8 hL) (oX12_n8 hL) ⟨by decide, by decide⟩ (oX12_k10 hL) (oX12_n10 hL) ⟨by decide, by decide⟩ hM17 ⟨by decide, by decide⟩ hp) (by decide) rfl rfl rfl (Nat.le_of_ble_eq_true rfl) (by decide) (by decide) (fun v t9 M47 hv => ?_) (fun _ _ _ q => q.elim)
        obtain ⟨rfl, hM47, ht9, hp⟩ := hv
        replace ht9 := ht9.symm
        subst ht9
        dsimp only [Option.toList, List.cons_append, List.nil_append]
        refine xJ_aload_n hX dX12_help_50 rfl ?_
        refine xJ_iload_n hX dX12_help_51 rfl ?_
        refine xJ_sipush hX dX12_help_52 rfl ?_
        refine xJ_callV (As := [_, _]) hX hB dX12_help_55 lk_X12_295 im_X12_endOf se_X12_endOf rfl (by decide) (oX12_k hL) (c_X12_endOf hL hM47 hx1 ⟨by decide, by decide⟩ hp) (by decide) rfl rfl rfl (Nat.le_of_ble_eq_true rfl) (by decide) (by decide) (fun v t9 M55 hv => ?_) (fun _ _ _ q => q.elim)
        obtain ⟨r55, rfl, h55, hM55, ht9, hp⟩ := hv
        replace ht9 := ht9.symm
        subst ht9
        dsimp only [Option.toList, List.cons_append, List.nil_append]
        refine xJ_istore_n hX dX12_help_58 (Nat.le_of_ble_eq_true rfl) rfl ?_
        dsimp only [List.set]
        refine xJ_aload_n hX dX12_help_59 rfl ?_
        refine xJ_getR (b := (a + 4)) hX dX12_help_60 fd_X12_23 rfl (oX12_k hL) (oX12_r10 hL) ?_
        refine xJ_aload_n hX dX12_help_63 rfl ?_
        refine xJ_getR (b := (a + 2)) hX dX12_help_64 fd_X12_17 rfl (oX12_k hL) (oX12_r8 hL) ?_
        refine xJ_sipush hX dX12_help_67 rfl ?_
        refine xJ_callS (As := [_, _, _]) hX hB dX12_help_70 lk_X12_193 sm_X12_copy (c_X12_copy (oX12_k10 hL) (oX12_n10 hL) ⟨by decide, by decide⟩ (oX12_k8 hL) (oX12_n8 hL) ⟨by decide, by decide⟩ hM55 ⟨by decide, by decide⟩ hp) (by decide) rfl rfl rfl (Nat.le_of_ble_eq_true rfl) (by decide) (by decide) (fun v t9 M70 hv => ?_) (fun _ _ _ q => q.elim)
        obtain ⟨rfl, hM70, ht9, hp⟩ := hv
        replace ht9 := ht9.symm
        subst ht9
        dsimp only [Option.toList, List.cons_append, List.nil_append]
        refine xJ_iload_n hX dX12_help_73 rfl ?_
        refine xJ_iconst hX dX12_help_74 ?_
        refine xJ_icmp_ne hX dX12_help_75 (tgt := 84) (by decide) h55 ⟨by decide, by decide⟩ (fun c75 => ?_) (fun c75 => ?_)
        · replace hp := hp.1 c75
          refine xJ_iload_n hX dX12_help_84 rfl ?_
          refine xJ_aload_n hX dX12_help_85 rfl ?_
          refine xJ_getR (b := (a + 2)) hX dX12_help_86 fd_X12_17 rfl (oX12_k hL) (oX12_r8 hL) ?_
          refine xJ_iconst hX dX12_help_89 ?_
          obtain ⟨h90, hp⟩ := hp
          refine xJ_iald hX dX12_help_90 (oX12_k8 hL) h90.1 (xnlt (oX12_n8 hL) h90.2) ?_
          refine xJ_isub hX dX12_help_91 ?_
          obtain ⟨h91, hp⟩ := hp
          refine xJ_istore_n hX dX12_help_92 (Nat.le_of_ble_eq_true rfl) rfl ?_
          dsimp only [List.set]
          replace hp := hp _ rfl
          refine xJ_iconst hX dX12_help_93 ?_
          refine xJ_istore hX dX12_help_94 (Nat.le_of_ble_eq_true rfl) rfl ?_
          dsimp only [List.set]
          refine xJ_fg 2 ?_
          dsimp only [List.set]
          have lp96 : ∀ (k : Nat) (x1 : Int) (x3 : Int) (x4 : Int) (M : xMe) (hM : xMR M) (hx1 : xR x1) (hx3 : xR x3) (hx4 : xR x4) (hp : p_X12_help_96 F a Q k x1 x3 x4 M), xJ X 0 0 t M 96 [vr a, vi x1, vU, vi x3, vi x4] [] := by
            intro k
            induction k with
            | zero => intro x1 x3 x4 M hM hx1 hx3 hx4 hp; exact hp.elim
            | succ k ih =>
              intro x1 x3 x4 M hM hx1 hx3 hx4 hp
              unfold p_X12_help_96 at hp
              refine xJ_iload hX dX12_help_96 rfl ?_
              refine xJ_sipush hX dX12_help_98 rfl ?_
              refine xJ_icmp_gt hX dX12_help_101 (tgt := 124) (by decide) hx4 ⟨by decide, by decide⟩ (fun c101 => ?_) (fun c101 => ?_)
              · replace hp := hp.1 c101
                refine xJ_iconst hX dX12_help_124 ?_
                refine xJ_iret hX hB dX12_help_125 (by decide) (by decide) ⟨_, rfl, ⟨by decide, by decide⟩, hM, rfl, hp⟩
              · replace hp := hp.2 c101
                refine xJ_aload_n hX dX12_help_104 rfl ?_
                refine xJ_iload_n hX dX12_help_105 rfl ?_
                refine xJ_iload hX dX12_help_106 rfl ?_
                refine xJ_iload_n hX dX12_help_108 rfl ?_
                refine xJ_callV (As := [_, _, _]) hX hB dX12_help_109 lk_X12_298 im_X12_helps se_X12_helps rfl (by decide) (oX12_k hL) (c_X12_helps hL hM hx1 hx4 hx3 hp) (by decide) rfl rfl rfl (Nat.le_of_ble_eq_true rfl) (by decide) (by decide) (fun v t9 M109 hv => ?_) (fun _ _ _ q => q.elim)
                obtain ⟨r109, rfl, h109, hM109, ht9, hp⟩ := hv
                replace ht9 := ht9.symm
                subst ht9
                dsimp only [Option.toList, List.cons_append, List.nil_append]
                refine xJ_if_eq hX dX12_help_112 (tgt := 118) (by decide) h109 (fun c112 => ?_) (fun c112 => ?_)
                · replace hp := hp.1 c112
                  refine xJ_iinc hX dX12_help_118 rfl rfl ?_
                  dsimp only [List.set]
                  obtain ⟨h118, hp⟩ := hp
                  refine xJ_goto hX dX12_help_121 (tgt := 96) (by decide) ?_
                  exact ih _ _ _ _ hM109 hx1 hx3 h118 hp
                · replace hp := hp.2 c112
                  refine xJ_iload hX dX12_help_115 rfl ?_
                  refine xJ_iret hX hB dX12_help_117 (by decide) (by decide) ⟨_, rfl, hx4, hM109, rfl, hp⟩
          refine lp96 F _ _ _ _ hM70 hx1 h91 ⟨by decide, by decide⟩ hp
        · replace hp := hp.2 c75
          refine xJ_sipush hX dX12_help_78 rfl ?_
          refine xJ_goto hX dX12_help_81 (tgt := 92) (by decide) ?_
          refine xJ_istore_n hX dX12_help_92 (Nat.le_of_ble_eq_true rfl) rfl ?_
          dsimp only [List.set]
          refine xJ_iconst hX dX12_help_93 ?_
          refine xJ_istore hX dX12_help_94 (Nat.le_of_ble_eq_true rfl) rfl ?_
          dsimp only [List.set]
          refine xJ_fg 2 ?_
          dsimp only [List.set]
          have lp96 : ∀ (k : Nat) (x1 : Int) (x3 : Int) (x4 : Int) (M : xMe) (hM : xMR M) (hx1 : xR x1) (hx3 : xR x3) (hx4 : xR x4) (hp : p_X12_help_96 F a Q k x1 x3 x4 M), xJ X 0 0 t M 96 [vr a, vi x1, vU, vi x3, vi x4] [] := by
            intro k
            induction k with
            | zero => intro x1 x3 x4 M hM hx1 hx3 hx4 hp; exact hp.elim
            | succ k ih =>
              intro x1 x3 x4 M hM hx1 hx3 hx4 hp
              unfold p_X12_help_96 at hp
              refine xJ_iload hX dX12_help_96 rfl ?_
              refine xJ_sipush hX dX12_help_98 rfl ?_
              refine xJ_icmp_gt hX dX12_help_101 (tgt := 124) (by decide) hx4 ⟨by decide, by decide⟩ (fun c101 => ?_) (fun c101 => ?_)
              · replace hp := hp.1 c101
                refine xJ_iconst hX dX12_help_124 ?_
                refine xJ_iret hX hB dX12_help_125 (by decide) (by decide) ⟨_, rfl, ⟨by decide, by decide⟩, hM, rfl, hp⟩
              · replace hp := hp.2 c101
                refine xJ_aload_n hX dX12_help_104 rfl ?_
                refine xJ_iload_n hX dX12_help_105 rfl ?_
                refine xJ_iload hX dX12_help_106 rfl ?_
                refine xJ_iload_n hX dX12_help_108 rfl ?_
                refine xJ_callV (As := [_, _, _]) hX hB dX12_help_109 lk_X12_298 im_X12_helps se_X12_helps rfl (by decide) (oX12_k hL) (c_X12_helps hL hM hx1 hx4 hx3 hp) (by decide) rfl rfl rfl (Nat.le_of_ble_eq_true rfl) (by decide) (by decide) (fun v t9 M109 hv => ?_) (fun _ _ _ q => q.elim)
                obtain ⟨r109, rfl, h109, hM109, ht9, hp⟩ := hv
                replace ht9 := ht9.symm
                subst ht9
                dsimp only [Option.toList, List.cons_append, List.nil_append]
                refine xJ_if_eq hX dX12_help_112 (tgt := 118) (by decide) h109 (fun c112 => ?_) (fun c112 => ?_)
                · replace hp := hp.1 c112
                  refine xJ_iinc hX dX12_help_118 rfl rfl ?_
                  dsimp only [List.set]
                  obtain ⟨h118, hp⟩ := hp
                  refine xJ_goto hX dX12_help_121 (tgt := 96) (by decide) ?_
                  exact ih _ _ _ _ hM109 hx1 hx3 h118 hp
                · replace hp := hp.2 c112
                  refine xJ_iload hX dX12_help_115 rfl ?_
                  refine xJ_iret hX hB dX12_help_117 (by decide) (by decide) ⟨_, rfl, hx4, hM109, rfl, hp⟩
          refine lp96 F _ _ _ _ hM70 hx1 ⟨by decide, by decide⟩ ⟨by decide, by decide⟩ hp
      · replace hp := hp.2 c31
        refine xJ_iconst hX dX12_help_34 ?_
        refine xJ_iret hX hB dX12_help_35 (by decide) (by decide) ⟨_, rfl, ⟨by decide, by decide⟩, hM17, rfl, hp⟩
  · replace hp := hp.2 c10
    refine xJ_iconst hX dX12_help_13 ?_
    refine xJ_iret hX hB dX12_help_14 (by decide) (by decide) ⟨_, rfl, ⟨by decide, by decide⟩, hM7, rfl, hp⟩
def p_X12_remember_11 (F : Nat) (a : Nat) (Q : xMe → Prop) : Nat → Int → xMe → Prop
  | 0, _, _ => False
  | k + 1, x1, M =>
    ((8 ≤ x1 → (xR ((M a 13) - 1)) ∧ (∀ M50 : xMe, M50 = xw M a 13 ((M a 13) - 1) → ((0 : Int) ≤ (M50 a 13) ∧ ((M50 a 13) : Int) < 8) ∧ p_X12_copy F (a + 2) 2105 (a + 7 + (M50 a 13).toNat) 2105 2105 M50 (fun M69 => (xR ((M69 a 13) + 1)) ∧ (∀ M79 : xMe, M79 = xw M69 a 13 ((M69 a 13) + 1) → Q M79)))) ∧ (x1 < 8 → ((0 : Int) ≤ x1 ∧ (x1 : Int) < 8) ∧ (xR (x1 - 1)) ∧ ((0 : Int) ≤ (x1 - 1) ∧ ((x1 - 1) : Int) < 8) ∧ p_X12_copy F (a + 7 + x1.toNat) 2105 (a + 7 + (x1 - 1).toNat) 2105 2105 M (fun M34 => (xR (x1 + 1)) ∧ p_X12_remember_11 F a Q k (x1 + 1) M34)))
def p_X12_remember (F : Nat) (a : Nat) (M : xMe) (Q : xMe → Prop) : Prop :=
  (((M a 13) ≠ 8 → ((0 : Int) ≤ (M a 13) ∧ ((M a 13) : Int) < 8) ∧ p_X12_copy F (a + 2) 2105 (a + 7 + (M a 13).toNat) 2105 2105 M (fun M69 => (xR ((M69 a 13) + 1)) ∧ (∀ M79 : xMe, M79 = xw M69 a 13 ((M69 a 13) + 1) → Q M79))) ∧ ((M a 13) = 8 → p_X12_remember_11 F a Q F 1 M))
set_option maxHeartbeats 4000000 in
set_option maxRecDepth 100000 in
theorem c_X12_remember {G : xGx} {t : xTh} {M : xMe} {F : Nat} {a : Nat} {Q : xMe → Prop} (hL : oX12 t a) (hM : xMR M)(hp : p_X12_remember F a M Q) : xCt G yX12_remember cX12_remember 2 none 1 0 0 [vr a] t M (fun v t' M' => v = none ∧ xMR M' ∧ t' = t ∧ Q M') (fun _ _ _ => False) := by
  refine xCt_of (L0 := [vr a, vU]) (by decide +kernel) (Nat.le_of_ble_eq_true rfl) rfl ?_
  intro X hX hB
  unfold p_X12_remember at hp
  refine xJ_aload_n hX dX12_remember_0 rfl ?_
  refine xJ_getI hX dX12_remember_1 fd_X12_301 rfl (oX12_k hL) ?_
  refine xJ_bipush hX dX12_remember_4 rfl ?_
  refine xJ_icmp_ne hX dX12_remember_6 (tgt := 53) (by decide) (hM _ _) ⟨by decide, by decide⟩ (fun c6 => ?_) (fun c6 => ?_)
  · replace hp := hp.1 c6
    refine xJ_aload_n hX dX12_remember_53 rfl ?_
    refine xJ_getR (b := (a + 2)) hX dX12_remember_54 fd_X12_17 rfl (oX12_k hL) (oX12_r8 hL) ?_
    refine xJ_aload_n hX dX12_remember_57 rfl ?_
    refine xJ_getR (b := (a + 6)) hX dX12_remember_58 fd_X12_31 rfl (oX12_k hL) (oX12_r12 hL) ?_
    refine xJ_aload_n hX dX12_remember_61 rfl ?_
    refine xJ_getI hX dX12_remember_62 fd_X12_301 rfl (oX12_k hL) ?_
    obtain ⟨h65, hp⟩ := hp
    refine xJ_aaldIb hX dX12_remember_65 (oX12_k12 hL) h65.1 (xnlt (oX12_n12 hL) h65.2) (oX12_h hL _ (xtoN (N := 8) h65.1 h65.2)).1 ?_
    refine xJ_sipush hX dX12_remember_66 rfl ?_
    refine xJ_callS (As := [_, _, _]) hX hB dX12_remember_69 lk_X12_193 sm_X12_copy (c_X12_copy (oX12_k8 hL) (oX12_n8 hL) ⟨by decide, by decide⟩ (oX12_h hL _ (xtoN (N := 8) h65.1 h65.2)).2.1 (oX12_h hL _ (xtoN (N := 8) h65.1 h65.2)).2.2 ⟨by decide, by decide⟩ hM ⟨by decide, by decide⟩ hp) (by decide) rfl rfl rfl (Nat.le_of_ble_eq_true rfl) (by decide) (by decide) (fun v t9 M69 hv => ?_) (fun _ _ _ q => q.elim)
    obtain ⟨rfl, hM69, ht9, hp⟩ := hv
    replace ht9 := ht9.symm
    subst ht9
    dsimp only [Option.toList, List.cons_append, List.nil_append]
    refine xJ_aload_n hX dX12_remember_72 rfl ?_
    refine xJ_dup hX dX12_remember_73 rfl ?_
    refine xJ_getI hX dX12_remember_74 fd_X12_301 rfl (oX12_k hL) ?_
    refine xJ_iconst hX dX12_remember_77 ?_
    refine xJ_iadd hX dX12_remember_78 ?_
    obtain ⟨h78, hp⟩ := hp
    refine xJ_putIM hX dX12_remember_79 fd_X12_301 ft_X12 rfl rfl rfl rfl (oX12_k hL) hM69 h78 (fun M79 e79 hM79 => ?_)
    replace hp := hp M79 e79
    refine xJ_vret hX hB dX12_remember_82 (by decide) (by decide) ⟨rfl, hM79, rfl, hp⟩
  · replace hp := hp.2 c6
    refine xJ_iconst hX dX12_remember_9 ?_
    refine xJ_istore_n hX dX12_remember_10 (Nat.le_of_ble_eq_true rfl) rfl ?_
    dsimp only [List.set]
    have lp11 : ∀ (k : Nat) (x1 : Int) (M : xMe) (hM : xMR M) (hx1 : xR x1) (hp : p_X12_remember_11 F a Q k x1 M), xJ X 0 0 t M 11 [vr a, vi x1] [] := by
      intro k
      induction k with
      | zero => intro x1 M hM hx1 hp; exact hp.elim
      | succ k ih =>
        intro x1 M hM hx1 hp
        unfold p_X12_remember_11 at hp
        refine xJ_iload_n hX dX12_remember_11 rfl ?_
        refine xJ_bipush hX dX12_remember_12 rfl ?_
        refine xJ_icmp_ge hX dX12_remember_14 (tgt := 43) (by decide) hx1 ⟨by decide, by decide⟩ (fun c14 => ?_) (fun c14 => ?_)
        · replace hp := hp.1 c14
          refine xJ_aload_n hX dX12_remember_43 rfl ?_
          refine xJ_dup hX dX12_remember_44 rfl ?_
          refine xJ_getI hX dX12_remember_45 fd_X12_301 rfl (oX12_k hL) ?_
          refine xJ_iconst hX dX12_remember_48 ?_
          refine xJ_isub hX dX12_remember_49 ?_
          obtain ⟨h49, hp⟩ := hp
          refine xJ_putIM hX dX12_remember_50 fd_X12_301 ft_X12 rfl rfl rfl rfl (oX12_k hL) hM h49 (fun M50 e50 hM50 => ?_)
          replace hp := hp M50 e50
          refine xJ_aload_n hX dX12_remember_53 rfl ?_
          refine xJ_getR (b := (a + 2)) hX dX12_remember_54 fd_X12_17 rfl (oX12_k hL) (oX12_r8 hL) ?_
          refine xJ_aload_n hX dX12_remember_57 rfl ?_
          refine xJ_getR (b := (a + 6)) hX dX12_remember_58 fd_X12_31 rfl (oX12_k hL) (oX12_r12 hL) ?_
          refine xJ_aload_n hX dX12_remember_61 rfl ?_
          refine xJ_getI hX dX12_remember_62 fd_X12_301 rfl (oX12_k hL) ?_
          obtain ⟨h65, hp⟩ := hp
          refine xJ_aaldIb hX dX12_remember_65 (oX12_k12 hL) h65.1 (xnlt (oX12_n12 hL) h65.2) (oX12_h hL _ (xtoN (N := 8) h65.1 h65.2)).1 ?_
          refine xJ_sipush hX dX12_remember_66 rfl ?_
          refine xJ_callS (As := [_, _, _]) hX hB dX12_remember_69 lk_X12_193 sm_X12_copy (c_X12_copy (oX12_k8 hL) (oX12_n8 hL) ⟨by decide, by decide⟩ (oX12_h hL _ (xtoN (N := 8) h65.1 h65.2)).2.1 (oX12_h hL _ (xtoN (N := 8) h65.1 h65.2)).2.2 ⟨by decide, by decide⟩ hM50 ⟨by decide, by decide⟩ hp) (by decide) rfl rfl rfl (Nat.le_of_ble_eq_true rfl) (by decide) (by decide) (fun v t9 M69 hv => ?_) (fun _ _ _ q => q.elim)
          obtain ⟨rfl, hM69, ht9, hp⟩ := hv
          replace ht9 := ht9.symm
          subst ht9
          dsimp only [Option.toList, List.cons_append, List.nil_append]
          refine xJ_aload_n hX dX12_remember_72 rfl ?_
          refine xJ_dup hX dX12_remember_73 rfl ?_
          refine xJ_getI hX dX12_remember_74 fd_X12_301 rfl (oX12_k hL) ?_
          refine xJ_iconst hX dX12_remember_77 ?_
          refine xJ_iadd hX dX12_remember_78 ?_
          obtain ⟨h78, hp⟩ := hp
          refine xJ_putIM hX dX12_remember_79 fd_X12_301 ft_X12 rfl rfl rfl rfl (oX12_k hL) hM69 h78 (fun M79 e79 hM79 => ?_)
          replace hp := hp M79 e79
          refine xJ_vret hX hB dX12_remember_82 (by decide) (by decide) ⟨rfl, hM79, rfl, hp⟩
        · replace hp := hp.2 c14
          refine xJ_aload_n hX dX12_remember_17 rfl ?_
          refine xJ_getR (b := (a + 6)) hX dX12_remember_18 fd_X12_31 rfl (oX12_k hL) (oX12_r12 hL) ?_
          refine xJ_iload_n hX dX12_remember_21 rfl ?_
          obtain ⟨h22, hp⟩ := hp
          refine xJ_aaldIb hX dX12_remember_22 (oX12_k12 hL) h22.1 (xnlt (oX12_n12 hL) h22.2) (oX12_h hL _ (xtoN (N := 8) h22.1 h22.2)).1 ?_
          refine xJ_aload_n hX dX12_remember_23 rfl ?_
          refine xJ_getR (b := (a + 6)) hX dX12_remember_24 fd_X12_31 rfl (oX12_k hL) (oX12_r12 hL) ?_
          refine xJ_iload_n hX dX12_remember_27 rfl ?_
          refine xJ_iconst hX dX12_remember_28 ?_
          refine xJ_isub hX dX12_remember_29 ?_
          obtain ⟨h29, hp⟩ := hp
          obtain ⟨h30, hp⟩ := hp
          refine xJ_aaldIb hX dX12_remember_30 (oX12_k12 hL) h30.1 (xnlt (oX12_n12 hL) h30.2) (oX12_h hL _ (xtoN (N := 8) h30.1 h30.2)).1 ?_
          refine xJ_sipush hX dX12_remember_31 rfl ?_
          refine xJ_callS (As := [_, _, _]) hX hB dX12_remember_34 lk_X12_193 sm_X12_copy (c_X12_copy (oX12_h hL _ (xtoN (N := 8) h22.1 h22.2)).2.1 (oX12_h hL _ (xtoN (N := 8) h22.1 h22.2)).2.2 ⟨by decide, by decide⟩ (oX12_h hL _ (xtoN (N := 8) h30.1 h30.2)).2.1 (oX12_h hL _ (xtoN (N := 8) h30.1 h30.2)).2.2 ⟨by decide, by decide⟩ hM ⟨by decide, by decide⟩ hp) (by decide) rfl rfl rfl (Nat.le_of_ble_eq_true rfl) (by decide) (by decide) (fun v t9 M34 hv => ?_) (fun _ _ _ q => q.elim)
          obtain ⟨rfl, hM34, ht9, hp⟩ := hv
          replace ht9 := ht9.symm
          subst ht9
          dsimp only [Option.toList, List.cons_append, List.nil_append]
          refine xJ_iinc hX dX12_remember_37 rfl rfl ?_
          dsimp only [List.set]
          obtain ⟨h37, hp⟩ := hp
          refine xJ_goto hX dX12_remember_40 (tgt := 11) (by decide) ?_
          exact ih _ _ hM34 h37 hp
    refine lp11 F _ _ hM ⟨by decide, by decide⟩ hp
def p_X12_pass_58 (F : Nat) (a : Nat) (Q : Int → xMe → Prop) : Nat → Int → Int → Int → xMe → Prop
  | 0, _, _, _, _ => False
  | k + 1, x1, x2, x3, M =>
    ((x1 ≤ x3 → ((0 : Int) ≤ 5 ∧ (5 : Int) < 2105) ∧ (xR ((M (a + 2) 5) - x2)) ∧ Q ((M (a + 2) 5) - x2) M) ∧ (x3 < x1 → p_X12_tick F a M (fun M64 => (xR (x3 + 1)) ∧ p_X12_pass_58 F a Q k x1 x2 (x3 + 1) M64)))
def p_X12_pass (F : Nat) (a : Nat) (x1 : Int) (M : xMe) (Q : Int → xMe → Prop) : Prop :=
  (∀ M2 : xMe, M2 = xw M a 0 0 → p_X12_in x1 1 200 M2 (fun r11 M11 => ((r11 = 0 → p_X12_fails a 1 1 M11 (fun r37 M37 => ((r37 = 0 → p_X12_remember F a M37 (fun M46 => ((0 : Int) ≤ 5 ∧ (5 : Int) < 2105) ∧ (∀ z55 : Int, z55 = M46 (a + 2) 5 → p_X12_pass_58 F a Q F x1 z55 0 M46))) ∧ (r37 ≠ 0 → Q 0 M37)))) ∧ (r11 ≠ 0 → ((0 : Int) ≤ 0 ∧ (0 : Int) < 2105) ∧ (xR ((M11 (a + 2) 0) + x1)) ∧ ((((M11 (a + 2) 0) + x1) ≤ 9999 → p_X12_fails a 0 1 M11 (fun r37 M37 => ((r37 = 0 → p_X12_remember F a M37 (fun M46 => ((0 : Int) ≤ 5 ∧ (5 : Int) < 2105) ∧ (∀ z55 : Int, z55 = M46 (a + 2) 5 → p_X12_pass_58 F a Q F x1 z55 0 M46))) ∧ (r37 ≠ 0 → Q 0 M37)))) ∧ (9999 < ((M11 (a + 2) 0) + x1) → p_X12_fails a 1 1 M11 (fun r37 M37 => ((r37 = 0 → p_X12_remember F a M37 (fun M46 => ((0 : Int) ≤ 5 ∧ (5 : Int) < 2105) ∧ (∀ z55 : Int, z55 = M46 (a + 2) 5 → p_X12_pass_58 F a Q F x1 z55 0 M46))) ∧ (r37 ≠ 0 → Q 0 M37)))))))))
set_option maxHeartbeats 4000000 in
set_option maxRecDepth 100000 in
theorem c_X12_pass {G : xGx} {t : xTh} {M : xMe} {F : Nat} {a : Nat} {x1 : Int} {Q : Int → xMe → Prop} (hL : oX12 t a) (hM : xMR M) (hx1 : xR x1) (hp : p_X12_pass F a x1 M Q) : xCt G yX12_pass cX12_pass 4 (some .int) 5 0 0 [vr a, vi x1] t M (fun v t' M' => ∃ r, v = some (vi r) ∧ xR r ∧ xMR M' ∧ t' = t ∧ Q r M') (fun _ _ _ => False) := by
  refine xCt_of (L0 := [vr a, vi x1, vU, vU]) (by decide +kernel) (Nat.le_of_ble_eq_true rfl) rfl ?_
  intro X hX hB
  unfold p_X12_pass at hp
  refine xJ_aload_n hX dX12_pass_0 rfl ?_
  refine xJ_iconst hX dX12_pass_1 ?_
  refine xJ_putIM hX dX12_pass_2 fd_X12_42 ft_X12 rfl rfl rfl rfl (oX12_k hL) hM ⟨by decide, by decide⟩ (fun M2 e2 hM2 => ?_)
  replace hp := hp M2 e2
  refine xJ_aload_n hX dX12_pass_5 rfl ?_
  refine xJ_iload_n hX dX12_pass_6 rfl ?_
  refine xJ_iconst hX dX12_pass_7 ?_
  refine xJ_sipush hX dX12_pass_8 rfl ?_
  refine xJ_callS (As := [_, _, _]) hX hB dX12_pass_11 lk_X12_64 sm_X12_in (c_X12_in  hM2 hx1 ⟨by decide, by decide⟩ ⟨by decide, by decide⟩ hp) (by decide) rfl rfl rfl (Nat.le_of_ble_eq_true rfl) (by decide) (by decide) (fun v t9 M11 hv => ?_) (fun _ _ _ q => q.elim)
  obtain ⟨r11, rfl, h11, hM11, ht9, hp⟩ := hv
  replace ht9 := ht9.symm
  subst ht9
  dsimp only [Option.toList, List.cons_append, List.nil_append]
  refine xJ_if_eq hX dX12_pass_14 (tgt := 31) (by decide) h11 (fun c14 => ?_) (fun c14 => ?_)
  · replace hp := hp.1 c14
    refine xJ_iconst hX dX12_pass_31 ?_
    refine xJ_goto hX dX12_pass_32 (tgt := 36) (by decide) ?_
    refine xJ_iconst hX dX12_pass_36 ?_
    refine xJ_callV (As := [_, _]) hX hB dX12_pass_37 lk_X12_178 im_X12_fails se_X12_fails rfl (by decide) (oX12_k hL) (c_X12_fails hL hM11 ⟨by decide, by decide⟩ ⟨by decide, by decide⟩ hp) (by decide) rfl rfl rfl (Nat.le_of_ble_eq_true rfl) (by decide) (by decide) (fun v t9 M37 hv => ?_) (fun _ _ _ q => q.elim)
    obtain ⟨r37, rfl, h37, hM37, ht9, hp⟩ := hv
    replace ht9 := ht9.symm
    subst ht9
    dsimp only [Option.toList, List.cons_append, List.nil_append]
    refine xJ_if_eq hX dX12_pass_40 (tgt := 45) (by decide) h37 (fun c40 => ?_) (fun c40 => ?_)
    · replace hp := hp.1 c40
      refine xJ_aload_n hX dX12_pass_45 rfl ?_
      refine xJ_callV (As := []) hX hB dX12_pass_46 lk_X12_190 im_X12_remember se_X12_remember rfl (by decide) (oX12_k hL) (c_X12_remember hL hM37 hp) (by decide) rfl rfl rfl (Nat.le_of_ble_eq_true rfl) (by decide) (by decide) (fun v t9 M46 hv => ?_) (fun _ _ _ q => q.elim)
      obtain ⟨rfl, hM46, ht9, hp⟩ := hv
      replace ht9 := ht9.symm
      subst ht9
      dsimp only [Option.toList, List.cons_append, List.nil_append]
      refine xJ_aload_n hX dX12_pass_49 rfl ?_
      refine xJ_getR (b := (a + 2)) hX dX12_pass_50 fd_X12_17 rfl (oX12_k hL) (oX12_r8 hL) ?_
      refine xJ_iconst hX dX12_pass_53 ?_
      obtain ⟨h54, hp⟩ := hp
      refine xJ_iald hX dX12_pass_54 (oX12_k8 hL) h54.1 (xnlt (oX12_n8 hL) h54.2) ?_
      refine xJ_istore_n hX dX12_pass_55 (Nat.le_of_ble_eq_true rfl) rfl ?_
      dsimp only [List.set]
      replace hp := hp _ rfl
      refine xJ_iconst hX dX12_pass_56 ?_
      refine xJ_istore_n hX dX12_pass_57 (Nat.le_of_ble_eq_true rfl) rfl ?_
      dsimp only [List.set]
      have lp58 : ∀ (k : Nat) (x1 : Int) (x2 : Int) (x3 : Int) (M : xMe) (hM : xMR M) (hx1 : xR x1) (hx2 : xR x2) (hx3 : xR x3) (hp : p_X12_pass_58 F a Q k x1 x2 x3 M), xJ X 0 0 t M 58 [vr a, vi x1, vi x2, vi x3] [] := by
        intro k
        induction k with
        | zero => intro x1 x2 x3 M hM hx1 hx2 hx3 hp; exact hp.elim
        | succ k ih =>
          intro x1 x2 x3 M hM hx1 hx2 hx3 hp
          unfold p_X12_pass_58 at hp
          refine xJ_iload_n hX dX12_pass_58 rfl ?_
          refine xJ_iload_n hX dX12_pass_59 rfl ?_
          refine xJ_icmp_ge hX dX12_pass_60 (tgt := 73) (by decide) hx3 hx1 (fun c60 => ?_) (fun c60 => ?_)
          · replace hp := hp.1 c60
            refine xJ_aload_n hX dX12_pass_73 rfl ?_
            refine xJ_getR (b := (a + 2)) hX dX12_pass_74 fd_X12_17 rfl (oX12_k hL) (oX12_r8 hL) ?_
            refine xJ_iconst hX dX12_pass_77 ?_
            obtain ⟨h78, hp⟩ := hp
            refine xJ_iald hX dX12_pass_78 (oX12_k8 hL) h78.1 (xnlt (oX12_n8 hL) h78.2) ?_
            refine xJ_iload_n hX dX12_pass_79 rfl ?_
            refine xJ_isub hX dX12_pass_80 ?_
            obtain ⟨h80, hp⟩ := hp
            refine xJ_iret hX hB dX12_pass_81 (by decide) (by decide) ⟨_, rfl, h80, hM, rfl, hp⟩
          · replace hp := hp.2 c60
            refine xJ_aload_n hX dX12_pass_63 rfl ?_
            refine xJ_callV (As := []) hX hB dX12_pass_64 lk_X12_262 im_X12_tick se_X12_tick rfl (by decide) (oX12_k hL) (c_X12_tick hL hM hp) (by decide) rfl rfl rfl (Nat.le_of_ble_eq_true rfl) (by decide) (by decide) (fun v t9 M64 hv => ?_) (fun _ _ _ q => q.elim)
            obtain ⟨rfl, hM64, ht9, hp⟩ := hv
            replace ht9 := ht9.symm
            subst ht9
            dsimp only [Option.toList, List.cons_append, List.nil_append]
            refine xJ_iinc hX dX12_pass_67 rfl rfl ?_
            dsimp only [List.set]
            obtain ⟨h67, hp⟩ := hp
            refine xJ_goto hX dX12_pass_70 (tgt := 58) (by decide) ?_
            exact ih _ _ _ _ hM64 hx1 hx2 h67 hp
      refine lp58 F _ _ _ _ hM46 hx1 (hM46 _ _) ⟨by decide, by decide⟩ hp
    · replace hp := hp.2 c40
      refine xJ_iconst hX dX12_pass_43 ?_
      refine xJ_iret hX hB dX12_pass_44 (by decide) (by decide) ⟨_, rfl, ⟨by decide, by decide⟩, hM37, rfl, hp⟩
  · replace hp := hp.2 c14
    refine xJ_aload_n hX dX12_pass_17 rfl ?_
    refine xJ_getR (b := (a + 2)) hX dX12_pass_18 fd_X12_17 rfl (oX12_k hL) (oX12_r8 hL) ?_
    refine xJ_iconst hX dX12_pass_21 ?_
    obtain ⟨h22, hp⟩ := hp
    refine xJ_iald hX dX12_pass_22 (oX12_k8 hL) h22.1 (xnlt (oX12_n8 hL) h22.2) ?_
    refine xJ_iload_n hX dX12_pass_23 rfl ?_
    refine xJ_iadd hX dX12_pass_24 ?_
    obtain ⟨h24, hp⟩ := hp
    refine xJ_sipush hX dX12_pass_25 rfl ?_
    refine xJ_icmp_le hX dX12_pass_28 (tgt := 35) (by decide) h24 ⟨by decide, by decide⟩ (fun c28 => ?_) (fun c28 => ?_)
    · replace hp := hp.1 c28
      refine xJ_iconst hX dX12_pass_35 ?_
      refine xJ_iconst hX dX12_pass_36 ?_
      refine xJ_callV (As := [_, _]) hX hB dX12_pass_37 lk_X12_178 im_X12_fails se_X12_fails rfl (by decide) (oX12_k hL) (c_X12_fails hL hM11 ⟨by decide, by decide⟩ ⟨by decide, by decide⟩ hp) (by decide) rfl rfl rfl (Nat.le_of_ble_eq_true rfl) (by decide) (by decide) (fun v t9 M37 hv => ?_) (fun _ _ _ q => q.elim)
      obtain ⟨r37, rfl, h37, hM37, ht9, hp⟩ := hv
      replace ht9 := ht9.symm
      subst ht9
      dsimp only [Option.toList, List.cons_append, List.nil_append]
      refine xJ_if_eq hX dX12_pass_40 (tgt := 45) (by decide) h37 (fun c40 => ?_) (fun c40 => ?_)
      · replace hp := hp.1 c40
        refine xJ_aload_n hX dX12_pass_45 rfl ?_
        refine xJ_callV (As := []) hX hB dX12_pass_46 lk_X12_190 im_X12_remember se_X12_remember rfl (by decide) (oX12_k hL) (c_X12_remember hL hM37 hp) (by decide) rfl rfl rfl (Nat.le_of_ble_eq_true rfl) (by decide) (by decide) (fun v t9 M46 hv => ?_) (fun _ _ _ q => q.elim)
        obtain ⟨rfl, hM46, ht9, hp⟩ := hv
        replace ht9 := ht9.symm
        subst ht9
        dsimp only [Option.toList, List.cons_append, List.nil_append]
        refine xJ_aload_n hX dX12_pass_49 rfl ?_
        refine xJ_getR (b := (a + 2)) hX dX12_pass_50 fd_X12_17 rfl (oX12_k hL) (oX12_r8 hL) ?_
        refine xJ_iconst hX dX12_pass_53 ?_
        obtain ⟨h54, hp⟩ := hp
        refine xJ_iald hX dX12_pass_54 (oX12_k8 hL) h54.1 (xnlt (oX12_n8 hL) h54.2) ?_
        refine xJ_istore_n hX dX12_pass_55 (Nat.le_of_ble_eq_true rfl) rfl ?_
        dsimp only [List.set]
        replace hp := hp _ rfl
        refine xJ_iconst hX dX12_pass_56 ?_
        refine xJ_istore_n hX dX12_pass_57 (Nat.le_of_ble_eq_true rfl) rfl ?_
        dsimp only [List.set]
        have lp58 : ∀ (k : Nat) (x1 : Int) (x2 : Int) (x3 : Int) (M : xMe) (hM : xMR M) (hx1 : xR x1) (hx2 : xR x2) (hx3 : xR x3) (hp : p_X12_pass_58 F a Q k x1 x2 x3 M), xJ X 0 0 t M 58 [vr a, vi x1, vi x2, vi x3] [] := by
          intro k
          induction k with
          | zero => intro x1 x2 x3 M hM hx1 hx2 hx3 hp; exact hp.elim
          | succ k ih =>
            intro x1 x2 x3 M hM hx1 hx2 hx3 hp
            unfold p_X12_pass_58 at hp
            refine xJ_iload_n hX dX12_pass_58 rfl ?_
            refine xJ_iload_n hX dX12_pass_59 rfl ?_
            refine xJ_icmp_ge hX dX12_pass_60 (tgt := 73) (by decide) hx3 hx1 (fun c60 => ?_) (fun c60 => ?_)
            · replace hp := hp.1 c60
              refine xJ_aload_n hX dX12_pass_73 rfl ?_
              refine xJ_getR (b := (a + 2)) hX dX12_pass_74 fd_X12_17 rfl (oX12_k hL) (oX12_r8 hL) ?_
              refine xJ_iconst hX dX12_pass_77 ?_
              obtain ⟨h78, hp⟩ := hp
              refine xJ_iald hX dX12_pass_78 (oX12_k8 hL) h78.1 (xnlt (oX12_n8 hL) h78.2) ?_
              refine xJ_iload_n hX dX12_pass_79 rfl ?_
              refine xJ_isub hX dX12_pass_80 ?_
              obtain ⟨h80, hp⟩ := hp
              refine xJ_iret hX hB dX12_pass_81 (by decide) (by decide) ⟨_, rfl, h80, hM, rfl, hp⟩
            · replace hp := hp.2 c60
              refine xJ_aload_n hX dX12_pass_63 rfl ?_
              refine xJ_callV (As := []) hX hB dX12_pass_64 lk_X12_262 im_X12_tick se_X12_tick rfl (by decide) (oX12_k hL) (c_X12_tick hL hM hp) (by decide) rfl rfl rfl (Nat.le_of_ble_eq_true rfl) (by decide) (by decide) (fun v t9 M64 hv => ?_) (fun _ _ _ q => q.elim)
              obtain ⟨rfl, hM64, ht9, hp⟩ := hv
              replace ht9 := ht9.symm
              subst ht9
              dsimp only [Option.toList, List.cons_append, List.nil_append]
              refine xJ_iinc hX dX12_pass_67 rfl rfl ?_
              dsimp only [List.set]
              obtain ⟨h67, hp⟩ := hp
              refine xJ_goto hX dX12_pass_70 (tgt := 58) (by decide) ?_
              exact ih _ _ _ _ hM64 hx1 hx2 h67 hp
        refine lp58 F _ _ _ _ hM46 hx1 (hM46 _ _) ⟨by decide, by decide⟩ hp
      · replace hp := hp.2 c40
        refine xJ_iconst hX dX12_pass_43 ?_
        refine xJ_iret hX hB dX12_pass_44 (by decide) (by decide) ⟨_, rfl, ⟨by decide, by decide⟩, hM37, rfl, hp⟩
    · replace hp := hp.2 c28
      refine xJ_iconst hX dX12_pass_31 ?_
      refine xJ_goto hX dX12_pass_32 (tgt := 36) (by decide) ?_
      refine xJ_iconst hX dX12_pass_36 ?_
      refine xJ_callV (As := [_, _]) hX hB dX12_pass_37 lk_X12_178 im_X12_fails se_X12_fails rfl (by decide) (oX12_k hL) (c_X12_fails hL hM11 ⟨by decide, by decide⟩ ⟨by decide, by decide⟩ hp) (by decide) rfl rfl rfl (Nat.le_of_ble_eq_true rfl) (by decide) (by decide) (fun v t9 M37 hv => ?_) (fun _ _ _ q => q.elim)
      obtain ⟨r37, rfl, h37, hM37, ht9, hp⟩ := hv
      replace ht9 := ht9.symm
      subst ht9
      dsimp only [Option.toList, List.cons_append, List.nil_append]
      refine xJ_if_eq hX dX12_pass_40 (tgt := 45) (by decide) h37 (fun c40 => ?_) (fun c40 => ?_)
      · replace hp := hp.1 c40
        refine xJ_aload_n hX dX12_pass_45 rfl ?_
        refine xJ_callV (As := []) hX hB dX12_pass_46 lk_X12_190 im_X12_remember se_X12_remember rfl (by decide) (oX12_k hL) (c_X12_remember hL hM37 hp) (by decide) rfl rfl rfl (Nat.le_of_ble_eq_true rfl) (by decide) (by decide) (fun v t9 M46 hv => ?_) (fun _ _ _ q => q.elim)
        obtain ⟨rfl, hM46, ht9, hp⟩ := hv
        replace ht9 := ht9.symm
        subst ht9
        dsimp only [Option.toList, List.cons_append, List.nil_append]
        refine xJ_aload_n hX dX12_pass_49 rfl ?_
        refine xJ_getR (b := (a + 2)) hX dX12_pass_50 fd_X12_17 rfl (oX12_k hL) (oX12_r8 hL) ?_
        refine xJ_iconst hX dX12_pass_53 ?_
        obtain ⟨h54, hp⟩ := hp
        refine xJ_iald hX dX12_pass_54 (oX12_k8 hL) h54.1 (xnlt (oX12_n8 hL) h54.2) ?_
        refine xJ_istore_n hX dX12_pass_55 (Nat.le_of_ble_eq_true rfl) rfl ?_
        dsimp only [List.set]
        replace hp := hp _ rfl
        refine xJ_iconst hX dX12_pass_56 ?_
        refine xJ_istore_n hX dX12_pass_57 (Nat.le_of_ble_eq_true rfl) rfl ?_
        dsimp only [List.set]
        have lp58 : ∀ (k : Nat) (x1 : Int) (x2 : Int) (x3 : Int) (M : xMe) (hM : xMR M) (hx1 : xR x1) (hx2 : xR x2) (hx3 : xR x3) (hp : p_X12_pass_58 F a Q k x1 x2 x3 M), xJ X 0 0 t M 58 [vr a, vi x1, vi x2, vi x3] [] := by
          intro k
          induction k with
          | zero => intro x1 x2 x3 M hM hx1 hx2 hx3 hp; exact hp.elim
          | succ k ih =>
            intro x1 x2 x3 M hM hx1 hx2 hx3 hp
            unfold p_X12_pass_58 at hp
            refine xJ_iload_n hX dX12_pass_58 rfl ?_
            refine xJ_iload_n hX dX12_pass_59 rfl ?_
            refine xJ_icmp_ge hX dX12_pass_60 (tgt := 73) (by decide) hx3 hx1 (fun c60 => ?_) (fun c60 => ?_)
            · replace hp := hp.1 c60
              refine xJ_aload_n hX dX12_pass_73 rfl ?_
              refine xJ_getR (b := (a + 2)) hX dX12_pass_74 fd_X12_17 rfl (oX12_k hL) (oX12_r8 hL) ?_
              refine xJ_iconst hX dX12_pass_77 ?_
              obtain ⟨h78, hp⟩ := hp
              refine xJ_iald hX dX12_pass_78 (oX12_k8 hL) h78.1 (xnlt (oX12_n8 hL) h78.2) ?_
              refine xJ_iload_n hX dX12_pass_79 rfl ?_
              refine xJ_isub hX dX12_pass_80 ?_
              obtain ⟨h80, hp⟩ := hp
              refine xJ_iret hX hB dX12_pass_81 (by decide) (by decide) ⟨_, rfl, h80, hM, rfl, hp⟩
            · replace hp := hp.2 c60
              refine xJ_aload_n hX dX12_pass_63 rfl ?_
              refine xJ_callV (As := []) hX hB dX12_pass_64 lk_X12_262 im_X12_tick se_X12_tick rfl (by decide) (oX12_k hL) (c_X12_tick hL hM hp) (by decide) rfl rfl rfl (Nat.le_of_ble_eq_true rfl) (by decide) (by decide) (fun v t9 M64 hv => ?_) (fun _ _ _ q => q.elim)
              obtain ⟨rfl, hM64, ht9, hp⟩ := hv
              replace ht9 := ht9.symm
              subst ht9
              dsimp only [Option.toList, List.cons_append, List.nil_append]
              refine xJ_iinc hX dX12_pass_67 rfl rfl ?_
              dsimp only [List.set]
              obtain ⟨h67, hp⟩ := hp
              refine xJ_goto hX dX12_pass_70 (tgt := 58) (by decide) ?_
              exact ih _ _ _ _ hM64 hx1 hx2 h67 hp
        refine lp58 F _ _ _ _ hM46 hx1 (hM46 _ _) ⟨by decide, by decide⟩ hp
      · replace hp := hp.2 c40
        refine xJ_iconst hX dX12_pass_43 ?_
        refine xJ_iret hX hB dX12_pass_44 (by decide) (by decide) ⟨_, rfl, ⟨by decide, by decide⟩, hM37, rfl, hp⟩
def p_X12_forward (F : Nat) (a : Nat) (x1 : Int) (x2 : Int) (M : xMe) (Q : Int → xMe → Prop) : Prop :=
  (∀ M2 : xMe, M2 = xw M a 0 0 → p_X12_noCoupon a x1 M2 (fun r7 M7 => ((r7 ≠ 0 → Q 0 M7) ∧ (r7 = 0 → p_X12_noFlow a x2 M7 (fun r15 M15 => ((r15 = 0 → p_X12_remember F a M15 (fun M24 => p_X12_couponAt x1 M24 (fun r28 M28 => (xR (r28 + 0)) ∧ ((0 : Int) ≤ (r28 + 0) ∧ ((r28 + 0) : Int) < 2105) ∧ (((M28 (a + 2) (r28 + 0).toNat) = x2 → Q ((-1)) M28) ∧ ((M28 (a + 2) (r28 + 0).toNat) ≠ x2 → (xR (r28 + 3)) ∧ ((0 : Int) ≤ (r28 + 3) ∧ ((r28 + 3) : Int) < 2105) ∧ (((M28 (a + 2) (r28 + 3).toNat) = 2 → Q ((-1)) M28) ∧ ((M28 (a + 2) (r28 + 3).toNat) ≠ 2 → (xR (r28 + 1)) ∧ ((0 : Int) ≤ (r28 + 1) ∧ ((r28 + 1) : Int) < 2105) ∧ ((0 : Int) ≤ 9 ∧ (9 : Int) < 2105) ∧ (((M28 (a + 2) 9) < (M28 (a + 2) (r28 + 1).toNat) → (xR (r28 + 0)) ∧ ((0 : Int) ≤ (r28 + 0) ∧ ((r28 + 0) : Int) < 2105) ∧ (∀ M84 : xMe, M84 = xw M28 (a + 2) (r28 + 0).toNat x2 → (xR (r28 + 1)) ∧ ((0 : Int) ≤ (r28 + 1) ∧ ((r28 + 1) : Int) < 2105) ∧ ((0 : Int) ≤ 9 ∧ (9 : Int) < 2105) ∧ (xR ((M84 (a + 2) (r28 + 1).toNat) - (M84 (a + 2) 9))) ∧ ((0 : Int) ≤ (r28 + 1) ∧ ((r28 + 1) : Int) < 2105) ∧ (∀ M102 : xMe, M102 = xw M84 (a + 2) (r28 + 1).toNat ((M84 (a + 2) (r28 + 1).toNat) - (M84 (a + 2) 9)) → (xR (r28 + 3)) ∧ ((0 : Int) ≤ (r28 + 3) ∧ ((r28 + 3) : Int) < 2105) ∧ (xR ((M102 (a + 2) (r28 + 3).toNat) + 1)) ∧ ((0 : Int) ≤ (r28 + 3) ∧ ((r28 + 3) : Int) < 2105) ∧ (∀ M114 : xMe, M114 = xw M102 (a + 2) (r28 + 3).toNat ((M102 (a + 2) (r28 + 3).toNat) + 1) → (xR (r28 + 1)) ∧ ((0 : Int) ≤ (r28 + 1) ∧ ((r28 + 1) : Int) < 2105) ∧ Q (M114 (a + 2) (r28 + 1).toNat) M114)))) ∧ ((M28 (a + 2) (r28 + 1).toNat) ≤ (M28 (a + 2) 9) → Q ((-1)) M28))))))))) ∧ (r15 ≠ 0 → Q 0 M15)))))))
set_option maxHeartbeats 4000000 in
set_option maxRecDepth 100000 in
theorem c_X12_forward {G : xGx} {t : xTh} {M : xMe} {F : Nat} {a : Nat} {x1 : Int} {x2 : Int} {Q : Int → xMe → Prop} (hL : oX12 t a) (hM : xMR M) (hx1 : xR x1) (hx2 : xR x2) (hp : p_X12_forward F a x1 x2 M Q) : xCt G yX12_forward cX12_forward 4 (some .int) 2 0 0 [vr a, vi x1, vi x2] t M (fun v t' M' => ∃ r, v = some (vi r) ∧ xR r ∧ xMR M' ∧ t' = t ∧ Q r M') (fun _ _ _ => False) := by
  refine xCt_of (L0 := [vr a, vi x1, vi x2, vU]) (by decide +kernel) (Nat.le_of_ble_eq_true rfl) rfl ?_
  intro X hX hB
  unfold p_X12_forward at hp
  refine xJ_aload_n hX dX12_forward_0 rfl ?_
  refine xJ_iconst hX dX12_forward_1 ?_
  refine xJ_putIM hX dX12_forward_2 fd_X12_42 ft_X12 rfl rfl rfl rfl (oX12_k hL) hM ⟨by decide, by decide⟩ (fun M2 e2 hM2 => ?_)
  replace hp := hp M2 e2
  refine xJ_aload_n hX dX12_forward_5 rfl ?_
  refine xJ_iload_n hX dX12_forward_6 rfl ?_
  refine xJ_callV (As := [_]) hX hB dX12_forward_7 lk_X12_286 im_X12_noCoupon se_X12_noCoupon rfl (by decide) (oX12_k hL) (c_X12_noCoupon hL hM2 hx1 hp) (by decide) rfl rfl rfl (Nat.le_of_ble_eq_true rfl) (by decide) (by decide) (fun v t9 M7 hv => ?_) (fun _ _ _ q => q.elim)
  obtain ⟨r7, rfl, h7, hM7, ht9, hp⟩ := hv
  replace ht9 := ht9.symm
  subst ht9
  dsimp only [Option.toList, List.cons_append, List.nil_append]
  refine xJ_if_ne hX dX12_forward_10 (tgt := 21) (by decide) h7 (fun c10 => ?_) (fun c10 => ?_)
  · replace hp := hp.1 c10
    refine xJ_iconst hX dX12_forward_21 ?_
    refine xJ_iret hX hB dX12_forward_22 (by decide) (by decide) ⟨_, rfl, ⟨by decide, by decide⟩, hM7, rfl, hp⟩
  · replace hp := hp.2 c10
    refine xJ_aload_n hX dX12_forward_13 rfl ?_
    refine xJ_iload_n hX dX12_forward_14 rfl ?_
    refine xJ_callV (As := [_]) hX hB dX12_forward_15 lk_X12_274 im_X12_noFlow se_X12_noFlow rfl (by decide) (oX12_k hL) (c_X12_noFlow hL hM7 hx2 hp) (by decide) rfl rfl rfl (Nat.le_of_ble_eq_true rfl) (by decide) (by decide) (fun v t9 M15 hv => ?_) (fun _ _ _ q => q.elim)
    obtain ⟨r15, rfl, h15, hM15, ht9, hp⟩ := hv
    replace ht9 := ht9.symm
    subst ht9
    dsimp only [Option.toList, List.cons_append, List.nil_append]
    refine xJ_if_eq hX dX12_forward_18 (tgt := 23) (by decide) h15 (fun c18 => ?_) (fun c18 => ?_)
    · replace hp := hp.1 c18
      refine xJ_aload_n hX dX12_forward_23 rfl ?_
      refine xJ_callV (As := []) hX hB dX12_forward_24 lk_X12_190 im_X12_remember se_X12_remember rfl (by decide) (oX12_k hL) (c_X12_remember hL hM15 hp) (by decide) rfl rfl rfl (Nat.le_of_ble_eq_true rfl) (by decide) (by decide) (fun v t9 M24 hv => ?_) (fun _ _ _ q => q.elim)
      obtain ⟨rfl, hM24, ht9, hp⟩ := hv
      replace ht9 := ht9.symm
      subst ht9
      dsimp only [Option.toList, List.cons_append, List.nil_append]
      refine xJ_iload_n hX dX12_forward_27 rfl ?_
      refine xJ_callS (As := [_]) hX hB dX12_forward_28 lk_X12_203 sm_X12_couponAt (c_X12_couponAt  hM24 hx1 hp) (by decide) rfl rfl rfl (Nat.le_of_ble_eq_true rfl) (by decide) (by decide) (fun v t9 M28 hv => ?_) (fun _ _ _ q => q.elim)
      obtain ⟨r28, rfl, h28, hM28, ht9, hp⟩ := hv
      replace ht9 := ht9.symm
      subst ht9
      dsimp only [Option.toList, List.cons_append, List.nil_append]
      refine xJ_istore_n hX dX12_forward_31 (Nat.le_of_ble_eq_true rfl) rfl ?_
      dsimp only [List.set]
      refine xJ_aload_n hX dX12_forward_32 rfl ?_
      refine xJ_getR (b := (a + 2)) hX dX12_forward_33 fd_X12_17 rfl (oX12_k hL) (oX12_r8 hL) ?_
      refine xJ_iload_n hX dX12_forward_36 rfl ?_
      refine xJ_iconst hX dX12_forward_37 ?_
      refine xJ_iadd hX dX12_forward_38 ?_
      obtain ⟨h38, hp⟩ := hp
      obtain ⟨h39, hp⟩ := hp
      refine xJ_iald hX dX12_forward_39 (oX12_k8 hL) h39.1 (xnlt (oX12_n8 hL) h39.2) ?_
      refine xJ_iload_n hX dX12_forward_40 rfl ?_
      refine xJ_icmp_eq hX dX12_forward_41 (tgt := 74) (by decide) (hM28 _ _) hx2 (fun c41 => ?_) (fun c41 => ?_)
      · replace hp := hp.1 c41
        refine xJ_iconst hX dX12_forward_74 ?_
        refine xJ_iret hX hB dX12_forward_75 (by decide) (by decide) ⟨_, rfl, ⟨by decide, by decide⟩, hM28, rfl, hp⟩
      · replace hp := hp.2 c41
        refine xJ_aload_n hX dX12_forward_44 rfl ?_
        refine xJ_getR (b := (a + 2)) hX dX12_forward_45 fd_X12_17 rfl (oX12_k hL) (oX12_r8 hL) ?_
        refine xJ_iload_n hX dX12_forward_48 rfl ?_
        refine xJ_iconst hX dX12_forward_49 ?_
        refine xJ_iadd hX dX12_forward_50 ?_
        obtain ⟨h50, hp⟩ := hp
        obtain ⟨h51, hp⟩ := hp
        refine xJ_iald hX dX12_forward_51 (oX12_k8 hL) h51.1 (xnlt (oX12_n8 hL) h51.2) ?_
        refine xJ_iconst hX dX12_forward_52 ?_
        refine xJ_icmp_eq hX dX12_forward_53 (tgt := 74) (by decide) (hM28 _ _) ⟨by decide, by decide⟩ (fun c53 => ?_) (fun c53 => ?_)
        · replace hp := hp.1 c53
          refine xJ_iconst hX dX12_forward_74 ?_
          refine xJ_iret hX hB dX12_forward_75 (by decide) (by decide) ⟨_, rfl, ⟨by decide, by decide⟩, hM28, rfl, hp⟩
        · replace hp := hp.2 c53
          refine xJ_aload_n hX dX12_forward_56 rfl ?_
          refine xJ_getR (b := (a + 2)) hX dX12_forward_57 fd_X12_17 rfl (oX12_k hL) (oX12_r8 hL) ?_
          refine xJ_iload_n hX dX12_forward_60 rfl ?_
          refine xJ_iconst hX dX12_forward_61 ?_
          refine xJ_iadd hX dX12_forward_62 ?_
          obtain ⟨h62, hp⟩ := hp
          obtain ⟨h63, hp⟩ := hp
          refine xJ_iald hX dX12_forward_63 (oX12_k8 hL) h63.1 (xnlt (oX12_n8 hL) h63.2) ?_
          refine xJ_aload_n hX dX12_forward_64 rfl ?_
          refine xJ_getR (b := (a + 2)) hX dX12_forward_65 fd_X12_17 rfl (oX12_k hL) (oX12_r8 hL) ?_
          refine xJ_bipush hX dX12_forward_68 rfl ?_
          obtain ⟨h70, hp⟩ := hp
          refine xJ_iald hX dX12_forward_70 (oX12_k8 hL) h70.1 (xnlt (oX12_n8 hL) h70.2) ?_
          refine xJ_icmp_gt hX dX12_forward_71 (tgt := 76) (by decide) (hM28 _ _) (hM28 _ _) (fun c71 => ?_) (fun c71 => ?_)
          · replace hp := hp.1 c71
            refine xJ_aload_n hX dX12_forward_76 rfl ?_
            refine xJ_getR (b := (a + 2)) hX dX12_forward_77 fd_X12_17 rfl (oX12_k hL) (oX12_r8 hL) ?_
            refine xJ_iload_n hX dX12_forward_80 rfl ?_
            refine xJ_iconst hX dX12_forward_81 ?_
            refine xJ_iadd hX dX12_forward_82 ?_
            obtain ⟨h82, hp⟩ := hp
            refine xJ_iload_n hX dX12_forward_83 rfl ?_
            obtain ⟨h84, hp⟩ := hp
            refine xJ_iastM hX dX12_forward_84 (oX12_k8 hL) h84.1 (xnlt (oX12_n8 hL) h84.2) hM28 hx2 (fun M84 e84 hM84 => ?_)
            replace hp := hp M84 e84
            refine xJ_aload_n hX dX12_forward_85 rfl ?_
            refine xJ_getR (b := (a + 2)) hX dX12_forward_86 fd_X12_17 rfl (oX12_k hL) (oX12_r8 hL) ?_
            refine xJ_iload_n hX dX12_forward_89 rfl ?_
            refine xJ_iconst hX dX12_forward_90 ?_
            refine xJ_iadd hX dX12_forward_91 ?_
            obtain ⟨h91, hp⟩ := hp
            refine xJ_dup2 hX dX12_forward_92 rfl rfl ?_
            obtain ⟨h93, hp⟩ := hp
            refine xJ_iald hX dX12_forward_93 (oX12_k8 hL) h93.1 (xnlt (oX12_n8 hL) h93.2) ?_
            refine xJ_aload_n hX dX12_forward_94 rfl ?_
            refine xJ_getR (b := (a + 2)) hX dX12_forward_95 fd_X12_17 rfl (oX12_k hL) (oX12_r8 hL) ?_
            refine xJ_bipush hX dX12_forward_98 rfl ?_
            obtain ⟨h100, hp⟩ := hp
            refine xJ_iald hX dX12_forward_100 (oX12_k8 hL) h100.1 (xnlt (oX12_n8 hL) h100.2) ?_
            refine xJ_isub hX dX12_forward_101 ?_
            obtain ⟨h101, hp⟩ := hp
            obtain ⟨h102, hp⟩ := hp
            refine xJ_iastM hX dX12_forward_102 (oX12_k8 hL) h102.1 (xnlt (oX12_n8 hL) h102.2) hM84 h101 (fun M102 e102 hM102 => ?_)
            replace hp := hp M102 e102
            refine xJ_aload_n hX dX12_forward_103 rfl ?_
            refine xJ_getR (b := (a + 2)) hX dX12_forward_104 fd_X12_17 rfl (oX12_k hL) (oX12_r8 hL) ?_
            refine xJ_iload_n hX dX12_forward_107 rfl ?_
            refine xJ_iconst hX dX12_forward_108 ?_
            refine xJ_iadd hX dX12_forward_109 ?_
            obtain ⟨h109, hp⟩ := hp
            refine xJ_dup2 hX dX12_forward_110 rfl rfl ?_
            obtain ⟨h111, hp⟩ := hp
            refine xJ_iald hX dX12_forward_111 (oX12_k8 hL) h111.1 (xnlt (oX12_n8 hL) h111.2) ?_
            refine xJ_iconst hX dX12_forward_112 ?_
            refine xJ_iadd hX dX12_forward_113 ?_
            obtain ⟨h113, hp⟩ := hp
            obtain ⟨h114, hp⟩ := hp
            refine xJ_iastM hX dX12_forward_114 (oX12_k8 hL) h114.1 (xnlt (oX12_n8 hL) h114.2) hM102 h113 (fun M114 e114 hM114 => ?_)
            replace hp := hp M114 e114
            refine xJ_aload_n hX dX12_forward_115 rfl ?_
            refine xJ_getR (b := (a + 2)) hX dX12_forward_116 fd_X12_17 rfl (oX12_k hL) (oX12_r8 hL) ?_
            refine xJ_iload_n hX dX12_forward_119 rfl ?_
            refine xJ_iconst hX dX12_forward_120 ?_
            refine xJ_iadd hX dX12_forward_121 ?_
            obtain ⟨h121, hp⟩ := hp
            obtain ⟨h122, hp⟩ := hp
            refine xJ_iald hX dX12_forward_122 (oX12_k8 hL) h122.1 (xnlt (oX12_n8 hL) h122.2) ?_
            refine xJ_iret hX hB dX12_forward_123 (by decide) (by decide) ⟨_, rfl, (hM114 _ _), hM114, rfl, hp⟩
          · replace hp := hp.2 c71
            refine xJ_iconst hX dX12_forward_74 ?_
            refine xJ_iret hX hB dX12_forward_75 (by decide) (by decide) ⟨_, rfl, ⟨by decide, by decide⟩, hM28, rfl, hp⟩
    · replace hp := hp.2 c18
      refine xJ_iconst hX dX12_forward_21 ?_
      refine xJ_iret hX hB dX12_forward_22 (by decide) (by decide) ⟨_, rfl, ⟨by decide, by decide⟩, hM15, rfl, hp⟩
def p_X12_grant (F : Nat) (a : Nat) (x1 : Int) (x2 : Int) (x3 : Int) (M : xMe) (Q : Int → xMe → Prop) : Prop :=
  (∀ M2 : xMe, M2 = xw M a 0 0 → p_X12_noFlow a x1 M2 (fun r7 M7 => ((r7 ≠ 0 → Q 0 M7) ∧ (r7 = 0 → p_X12_in x2 1 9999 M7 (fun r19 M19 => ((r19 = 0 → p_X12_fails a 1 2 M19 (fun r42 M42 => ((r42 ≠ 0 → Q 0 M42) ∧ (r42 = 0 → ((0 : Int) ≤ 4 ∧ (4 : Int) < 2105) ∧ (((M42 (a + 2) 4) ≠ 30 → p_X12_fails a 0 3 M42 (fun r66 M66 => ((r66 = 0 → p_X12_remember F a M66 (fun M75 => ((0 : Int) ≤ 0 ∧ (0 : Int) < 2105) ∧ (xR ((M75 (a + 2) 0) + x3)) ∧ p_X12_putCoupon (a + 2) 2105 x1 x2 ((M75 (a + 2) 0) + x3) M75 (fun M92 => ((0 : Int) ≤ 4 ∧ (4 : Int) < 2105) ∧ (xR ((M92 (a + 2) 4) - 1)) ∧ Q ((M92 (a + 2) 4) - 1) M92))) ∧ (r66 ≠ 0 → Q 0 M66)))) ∧ ((M42 (a + 2) 4) = 30 → p_X12_fails a 1 3 M42 (fun r66 M66 => ((r66 = 0 → p_X12_remember F a M66 (fun M75 => ((0 : Int) ≤ 0 ∧ (0 : Int) < 2105) ∧ (xR ((M75 (a + 2) 0) + x3)) ∧ p_X12_putCoupon (a + 2) 2105 x1 x2 ((M75 (a + 2) 0) + x3) M75 (fun M92 => ((0 : Int) ≤ 4 ∧ (4 : Int) < 2105) ∧ (xR ((M92 (a + 2) 4) - 1)) ∧ Q ((M92 (a + 2) 4) - 1) M92))) ∧ (r66 ≠ 0 → Q 0 M66))))))))) ∧ (r19 ≠ 0 → p_X12_in x3 1 9999 M19 (fun r30 M30 => ((r30 ≠ 0 → p_X12_fails a 0 2 M30 (fun r42 M42 => ((r42 ≠ 0 → Q 0 M42) ∧ (r42 = 0 → ((0 : Int) ≤ 4 ∧ (4 : Int) < 2105) ∧ (((M42 (a + 2) 4) ≠ 30 → p_X12_fails a 0 3 M42 (fun r66 M66 => ((r66 = 0 → p_X12_remember F a M66 (fun M75 => ((0 : Int) ≤ 0 ∧ (0 : Int) < 2105) ∧ (xR ((M75 (a + 2) 0) + x3)) ∧ p_X12_putCoupon (a + 2) 2105 x1 x2 ((M75 (a + 2) 0) + x3) M75 (fun M92 => ((0 : Int) ≤ 4 ∧ (4 : Int) < 2105) ∧ (xR ((M92 (a + 2) 4) - 1)) ∧ Q ((M92 (a + 2) 4) - 1) M92))) ∧ (r66 ≠ 0 → Q 0 M66)))) ∧ ((M42 (a + 2) 4) = 30 → p_X12_fails a 1 3 M42 (fun r66 M66 => ((r66 = 0 → p_X12_remember F a M66 (fun M75 => ((0 : Int) ≤ 0 ∧ (0 : Int) < 2105) ∧ (xR ((M75 (a + 2) 0) + x3)) ∧ p_X12_putCoupon (a + 2) 2105 x1 x2 ((M75 (a + 2) 0) + x3) M75 (fun M92 => ((0 : Int) ≤ 4 ∧ (4 : Int) < 2105) ∧ (xR ((M92 (a + 2) 4) - 1)) ∧ Q ((M92 (a + 2) 4) - 1) M92))) ∧ (r66 ≠ 0 → Q 0 M66))))))))) ∧ (r30 = 0 → p_X12_fails a 1 2 M30 (fun r42 M42 => ((r42 ≠ 0 → Q 0 M42) ∧ (r42 = 0 → ((0 : Int) ≤ 4 ∧ (4 : Int) < 2105) ∧ (((M42 (a + 2) 4) ≠ 30 → p_X12_fails a 0 3 M42 (fun r66 M66 => ((r66 = 0 → p_X12_remember F a M66 (fun M75 => ((0 : Int) ≤ 0 ∧ (0 : Int) < 2105) ∧ (xR ((M75 (a + 2) 0) + x3)) ∧ p_X12_putCoupon (a + 2) 2105 x1 x2 ((M75 (a + 2) 0) + x3) M75 (fun M92 => ((0 : Int) ≤ 4 ∧ (4 : Int) < 2105) ∧ (xR ((M92 (a + 2) 4) - 1)) ∧ Q ((M92 (a + 2) 4) - 1) M92))) ∧ (r66 ≠ 0 → Q 0 M66)))) ∧ ((M42 (a + 2) 4) = 30 → p_X12_fails a 1 3 M42 (fun r66 M66 => ((r66 = 0 → p_X12_remember F a M66 (fun M75 => ((0 : Int) ≤ 0 ∧ (0 : Int) < 2105) ∧ (xR ((M75 (a + 2) 0) + x3)) ∧ p_X12_putCoupon (a + 2) 2105 x1 x2 ((M75 (a + 2) 0) + x3) M75 (fun M92 => ((0 : Int) ≤ 4 ∧ (4 : Int) < 2105) ∧ (xR ((M92 (a + 2) 4) - 1)) ∧ Q ((M92 (a + 2) 4) - 1) M92))) ∧ (r66 ≠ 0 → Q 0 M66))))))))))))))))))
set_option maxHeartbeats 4000000 in
set_option maxRecDepth 100000 in
theorem c_X12_grant {G : xGx} {t : xTh} {M : xMe} {F : Nat} {a : Nat} {x1 : Int} {x2 : Int} {x3 : Int} {Q : Int → xMe → Prop} (hL : oX12 t a) (hM : xMR M) (hx1 : xR x1) (hx2 : xR x2) (hx3 : xR x3) (hp : p_X12_grant F a x1 x2 x3 M Q) : xCt G yX12_grant cX12_grant 4 (some .int) 2 0 0 [vr a, vi x1, vi x2, vi x3] t M (fun v t' M' => ∃ r, v = some (vi r) ∧ xR r ∧ xMR M' ∧ t' = t ∧ Q r M') (fun _ _ _ => False) := by
  refine xCt_of (L0 := [vr a, vi x1, vi x2, vi x3]) (by decide +kernel) (Nat.le_of_ble_eq_true rfl) rfl ?_
  intro X hX hB
  unfold p_X12_grant at hp
  refine xJ_aload_n hX dX12_grant_0 rfl ?_
  refine xJ_iconst hX dX12_grant_1 ?_
  refine xJ_putIM hX dX12_grant_2 fd_X12_42 ft_X12 rfl rfl rfl rfl (oX12_k hL) hM ⟨by decide, by decide⟩ (fun M2 e2 hM2 => ?_)
  replace hp := hp M2 e2
  refine xJ_aload_n hX dX12_grant_5 rfl ?_
  refine xJ_iload_n hX dX12_grant_6 rfl ?_
  refine xJ_callV (As := [_]) hX hB dX12_grant_7 lk_X12_274 im_X12_noFlow se_X12_noFlow rfl (by decide) (oX12_k hL) (c_X12_noFlow hL hM2 hx1 hp) (by decide) rfl rfl rfl (Nat.le_of_ble_eq_true rfl) (by decide) (by decide) (fun v t9 M7 hv => ?_) (fun _ _ _ q => q.elim)
  obtain ⟨r7, rfl, h7, hM7, ht9, hp⟩ := hv
  replace ht9 := ht9.symm
  subst ht9
  dsimp only [Option.toList, List.cons_append, List.nil_append]
  refine xJ_if_ne hX dX12_grant_10 (tgt := 72) (by decide) h7 (fun c10 => ?_) (fun c10 => ?_)
  · replace hp := hp.1 c10
    refine xJ_iconst hX dX12_grant_72 ?_
    refine xJ_iret hX hB dX12_grant_73 (by decide) (by decide) ⟨_, rfl, ⟨by decide, by decide⟩, hM7, rfl, hp⟩
  · replace hp := hp.2 c10
    refine xJ_aload_n hX dX12_grant_13 rfl ?_
    refine xJ_iload_n hX dX12_grant_14 rfl ?_
    refine xJ_iconst hX dX12_grant_15 ?_
    refine xJ_sipush hX dX12_grant_16 rfl ?_
    refine xJ_callS (As := [_, _, _]) hX hB dX12_grant_19 lk_X12_64 sm_X12_in (c_X12_in  hM7 hx2 ⟨by decide, by decide⟩ ⟨by decide, by decide⟩ hp) (by decide) rfl rfl rfl (Nat.le_of_ble_eq_true rfl) (by decide) (by decide) (fun v t9 M19 hv => ?_) (fun _ _ _ q => q.elim)
    obtain ⟨r19, rfl, h19, hM19, ht9, hp⟩ := hv
    replace ht9 := ht9.symm
    subst ht9
    dsimp only [Option.toList, List.cons_append, List.nil_append]
    refine xJ_if_eq hX dX12_grant_22 (tgt := 36) (by decide) h19 (fun c22 => ?_) (fun c22 => ?_)
    · replace hp := hp.1 c22
      refine xJ_iconst hX dX12_grant_36 ?_
      refine xJ_goto hX dX12_grant_37 (tgt := 41) (by decide) ?_
      refine xJ_iconst hX dX12_grant_41 ?_
      refine xJ_callV (As := [_, _]) hX hB dX12_grant_42 lk_X12_178 im_X12_fails se_X12_fails rfl (by decide) (oX12_k hL) (c_X12_fails hL hM19 ⟨by decide, by decide⟩ ⟨by decide, by decide⟩ hp) (by decide) rfl rfl rfl (Nat.le_of_ble_eq_true rfl) (by decide) (by decide) (fun v t9 M42 hv => ?_) (fun _ _ _ q => q.elim)
      obtain ⟨r42, rfl, h42, hM42, ht9, hp⟩ := hv
      replace ht9 := ht9.symm
      subst ht9
      dsimp only [Option.toList, List.cons_append, List.nil_append]
      refine xJ_if_ne hX dX12_grant_45 (tgt := 72) (by decide) h42 (fun c45 => ?_) (fun c45 => ?_)
      · replace hp := hp.1 c45
        refine xJ_iconst hX dX12_grant_72 ?_
        refine xJ_iret hX hB dX12_grant_73 (by decide) (by decide) ⟨_, rfl, ⟨by decide, by decide⟩, hM42, rfl, hp⟩
      · replace hp := hp.2 c45
        refine xJ_aload_n hX dX12_grant_48 rfl ?_
        refine xJ_aload_n hX dX12_grant_49 rfl ?_
        refine xJ_getR (b := (a + 2)) hX dX12_grant_50 fd_X12_17 rfl (oX12_k hL) (oX12_r8 hL) ?_
        refine xJ_iconst hX dX12_grant_53 ?_
        obtain ⟨h54, hp⟩ := hp
        refine xJ_iald hX dX12_grant_54 (oX12_k8 hL) h54.1 (xnlt (oX12_n8 hL) h54.2) ?_
        refine xJ_bipush hX dX12_grant_55 rfl ?_
        refine xJ_icmp_ne hX dX12_grant_57 (tgt := 64) (by decide) (hM42 _ _) ⟨by decide, by decide⟩ (fun c57 => ?_) (fun c57 => ?_)
        · replace hp := hp.1 c57
          refine xJ_iconst hX dX12_grant_64 ?_
          refine xJ_iconst hX dX12_grant_65 ?_
          refine xJ_callV (As := [_, _]) hX hB dX12_grant_66 lk_X12_178 im_X12_fails se_X12_fails rfl (by decide) (oX12_k hL) (c_X12_fails hL hM42 ⟨by decide, by decide⟩ ⟨by decide, by decide⟩ hp) (by decide) rfl rfl rfl (Nat.le_of_ble_eq_true rfl) (by decide) (by decide) (fun v t9 M66 hv => ?_) (fun _ _ _ q => q.elim)
          obtain ⟨r66, rfl, h66, hM66, ht9, hp⟩ := hv
          replace ht9 := ht9.symm
          subst ht9
          dsimp only [Option.toList, List.cons_append, List.nil_append]
          refine xJ_if_eq hX dX12_grant_69 (tgt := 74) (by decide) h66 (fun c69 => ?_) (fun c69 => ?_)
          · replace hp := hp.1 c69
            refine xJ_aload_n hX dX12_grant_74 rfl ?_
            refine xJ_callV (As := []) hX hB dX12_grant_75 lk_X12_190 im_X12_remember se_X12_remember rfl (by decide) (oX12_k hL) (c_X12_remember hL hM66 hp) (by decide) rfl rfl rfl (Nat.le_of_ble_eq_true rfl) (by decide) (by decide) (fun v t9 M75 hv => ?_) (fun _ _ _ q => q.elim)
            obtain ⟨rfl, hM75, ht9, hp⟩ := hv
            replace ht9 := ht9.symm
            subst ht9
            dsimp only [Option.toList, List.cons_append, List.nil_append]
            refine xJ_aload_n hX dX12_grant_78 rfl ?_
            refine xJ_getR (b := (a + 2)) hX dX12_grant_79 fd_X12_17 rfl (oX12_k hL) (oX12_r8 hL) ?_
            refine xJ_iload_n hX dX12_grant_82 rfl ?_
            refine xJ_iload_n hX dX12_grant_83 rfl ?_
            refine xJ_aload_n hX dX12_grant_84 rfl ?_
            refine xJ_getR (b := (a + 2)) hX dX12_grant_85 fd_X12_17 rfl (oX12_k hL) (oX12_r8 hL) ?_
            refine xJ_iconst hX dX12_grant_88 ?_
            obtain ⟨h89, hp⟩ := hp
            refine xJ_iald hX dX12_grant_89 (oX12_k8 hL) h89.1 (xnlt (oX12_n8 hL) h89.2) ?_
            refine xJ_iload_n hX dX12_grant_90 rfl ?_
            refine xJ_iadd hX dX12_grant_91 ?_
            obtain ⟨h91, hp⟩ := hp
            refine xJ_callS (As := [_, _, _, _]) hX hB dX12_grant_92 lk_X12_148 sm_X12_putCoupon (c_X12_putCoupon (oX12_k8 hL) (oX12_n8 hL) ⟨by decide, by decide⟩ hM75 hx1 hx2 h91 hp) (by decide) rfl rfl rfl (Nat.le_of_ble_eq_true rfl) (by decide) (by decide) (fun v t9 M92 hv => ?_) (fun _ _ _ q => q.elim)
            obtain ⟨rfl, hM92, ht9, hp⟩ := hv
            replace ht9 := ht9.symm
            subst ht9
            dsimp only [Option.toList, List.cons_append, List.nil_append]
            refine xJ_aload_n hX dX12_grant_95 rfl ?_
            refine xJ_getR (b := (a + 2)) hX dX12_grant_96 fd_X12_17 rfl (oX12_k hL) (oX12_r8 hL) ?_
            refine xJ_iconst hX dX12_grant_99 ?_
            obtain ⟨h100, hp⟩ := hp
            refine xJ_iald hX dX12_grant_100 (oX12_k8 hL) h100.1 (xnlt (oX12_n8 hL) h100.2) ?_
            refine xJ_iconst hX dX12_grant_101 ?_
            refine xJ_isub hX dX12_grant_102 ?_
            obtain ⟨h102, hp⟩ := hp
            refine xJ_iret hX hB dX12_grant_103 (by decide) (by decide) ⟨_, rfl, h102, hM92, rfl, hp⟩
          · replace hp := hp.2 c69
            refine xJ_iconst hX dX12_grant_72 ?_
            refine xJ_iret hX hB dX12_grant_73 (by decide) (by decide) ⟨_, rfl, ⟨by decide, by decide⟩, hM66, rfl, hp⟩
        · replace hp := hp.2 c57
          refine xJ_iconst hX dX12_grant_60 ?_
          refine xJ_goto hX dX12_grant_61 (tgt := 65) (by decide) ?_
          refine xJ_iconst hX dX12_grant_65 ?_
          refine xJ_callV (As := [_, _]) hX hB dX12_grant_66 lk_X12_178 im_X12_fails se_X12_fails rfl (by decide) (oX12_k hL) (c_X12_fails hL hM42 ⟨by decide, by decide⟩ ⟨by decide, by decide⟩ hp) (by decide) rfl rfl rfl (Nat.le_of_ble_eq_true rfl) (by decide) (by decide) (fun v t9 M66 hv => ?_) (fun _ _ _ q => q.elim)
          obtain ⟨r66, rfl, h66, hM66, ht9, hp⟩ := hv
          replace ht9 := ht9.symm
          subst ht9
          dsimp only [Option.toList, List.cons_append, List.nil_append]
          refine xJ_if_eq hX dX12_grant_69 (tgt := 74) (by decide) h66 (fun c69 => ?_) (fun c69 => ?_)
          · replace hp := hp.1 c69
            refine xJ_aload_n hX dX12_grant_74 rfl ?_
            refine xJ_callV (As := []) hX hB dX12_grant_75 lk_X12_190 im_X12_remember se_X12_remember rfl (by decide) (oX12_k hL) (c_X12_remember hL hM66 hp) (by decide) rfl rfl rfl (Nat.le_of_ble_eq_true rfl) (by decide) (by decide) (fun v t9 M75 hv => ?_) (fun _ _ _ q => q.elim)
            obtain ⟨rfl, hM75, ht9, hp⟩ := hv
            replace ht9 := ht9.symm
            subst ht9
            dsimp only [Option.toList, List.cons_append, List.nil_append]
            refine xJ_aload_n hX dX12_grant_78 rfl ?_
            refine xJ_getR (b := (a + 2)) hX dX12_grant_79 fd_X12_17 rfl (oX12_k hL) (oX12_r8 hL) ?_
            refine xJ_iload_n hX dX12_grant_82 rfl ?_
            refine xJ_iload_n hX dX12_grant_83 rfl ?_
            refine xJ_aload_n hX dX12_grant_84 rfl ?_
            refine xJ_getR (b := (a + 2)) hX dX12_grant_85 fd_X12_17 rfl (oX12_k hL) (oX12_r8 hL) ?_
            refine xJ_iconst hX dX12_grant_88 ?_
            obtain ⟨h89, hp⟩ := hp
            refine xJ_iald hX dX12_grant_89 (oX12_k8 hL) h89.1 (xnlt (oX12_n8 hL) h89.2) ?_
            refine xJ_iload_n hX dX12_grant_90 rfl ?_
            refine xJ_iadd hX dX12_grant_91 ?_
            obtain ⟨h91, hp⟩ := hp
            refine xJ_callS (As := [_, _, _, _]) hX hB dX12_grant_92 lk_X12_148 sm_X12_putCoupon (c_X12_putCoupon (oX12_k8 hL) (oX12_n8 hL) ⟨by decide, by decide⟩ hM75 hx1 hx2 h91 hp) (by decide) rfl rfl rfl (Nat.le_of_ble_eq_true rfl) (by decide) (by decide) (fun v t9 M92 hv => ?_) (fun _ _ _ q => q.elim)
            obtain ⟨rfl, hM92, ht9, hp⟩ := hv
            replace ht9 := ht9.symm
            subst ht9
            dsimp only [Option.toList, List.cons_append, List.nil_append]
            refine xJ_aload_n hX dX12_grant_95 rfl ?_
            refine xJ_getR (b := (a + 2)) hX dX12_grant_96 fd_X12_17 rfl (oX12_k hL) (oX12_r8 hL) ?_
            refine xJ_iconst hX dX12_grant_99 ?_
            obtain ⟨h100, hp⟩ := hp
            refine xJ_iald hX dX12_grant_100 (oX12_k8 hL) h100.1 (xnlt (oX12_n8 hL) h100.2) ?_
            refine xJ_iconst hX dX12_grant_101 ?_
            refine xJ_isub hX dX12_grant_102 ?_
            obtain ⟨h102, hp⟩ := hp
            refine xJ_iret hX hB dX12_grant_103 (by decide) (by decide) ⟨_, rfl, h102, hM92, rfl, hp⟩
          · replace hp := hp.2 c69
            refine xJ_iconst hX dX12_grant_72 ?_
            refine xJ_iret hX hB dX12_grant_73 (by decide) (by decide) ⟨_, rfl, ⟨by decide, by decide⟩, hM66, rfl, hp⟩
    · replace hp := hp.2 c22
      refine xJ_iload_n hX dX12_grant_25 rfl ?_
      refine xJ_iconst hX dX12_grant_26 ?_
      refine xJ_sipush hX dX12_grant_27 rfl ?_
      refine xJ_callS (As := [_, _, _]) hX hB dX12_grant_30 lk_X12_64 sm_X12_in (c_X12_in  hM19 hx3 ⟨by decide, by decide⟩ ⟨by decide, by decide⟩ hp) (by decide) rfl rfl rfl (Nat.le_of_ble_eq_true rfl) (by decide) (by decide) (fun v t9 M30 hv => ?_) (fun _ _ _ q => q.elim)
      obtain ⟨r30, rfl, h30, hM30, ht9, hp⟩ := hv
      replace ht9 := ht9.symm
      subst ht9
      dsimp only [Option.toList, List.cons_append, List.nil_append]
      refine xJ_if_ne hX dX12_grant_33 (tgt := 40) (by decide) h30 (fun c33 => ?_) (fun c33 => ?_)
      · replace hp := hp.1 c33
        refine xJ_iconst hX dX12_grant_40 ?_
        refine xJ_iconst hX dX12_grant_41 ?_
        refine xJ_callV (As := [_, _]) hX hB dX12_grant_42 lk_X12_178 im_X12_fails se_X12_fails rfl (by decide) (oX12_k hL) (c_X12_fails hL hM30 ⟨by decide, by decide⟩ ⟨by decide, by decide⟩ hp) (by decide) rfl rfl rfl (Nat.le_of_ble_eq_true rfl) (by decide) (by decide) (fun v t9 M42 hv => ?_) (fun _ _ _ q => q.elim)
        obtain ⟨r42, rfl, h42, hM42, ht9, hp⟩ := hv
        replace ht9 := ht9.symm
        subst ht9
        dsimp only [Option.toList, List.cons_append, List.nil_append]
        refine xJ_if_ne hX dX12_grant_45 (tgt := 72) (by decide) h42 (fun c45 => ?_) (fun c45 => ?_)
        · replace hp := hp.1 c45
          refine xJ_iconst hX dX12_grant_72 ?_
          refine xJ_iret hX hB dX12_grant_73 (by decide) (by decide) ⟨_, rfl, ⟨by decide, by decide⟩, hM42, rfl, hp⟩
        · replace hp := hp.2 c45
          refine xJ_aload_n hX dX12_grant_48 rfl ?_
          refine xJ_aload_n hX dX12_grant_49 rfl ?_
          refine xJ_getR (b := (a + 2)) hX dX12_grant_50 fd_X12_17 rfl (oX12_k hL) (oX12_r8 hL) ?_
          refine xJ_iconst hX dX12_grant_53 ?_
          obtain ⟨h54, hp⟩ := hp
          refine xJ_iald hX dX12_grant_54 (oX12_k8 hL) h54.1 (xnlt (oX12_n8 hL) h54.2) ?_
          refine xJ_bipush hX dX12_grant_55 rfl ?_
          refine xJ_icmp_ne hX dX12_grant_57 (tgt := 64) (by decide) (hM42 _ _) ⟨by decide, by decide⟩ (fun c57 => ?_) (fun c57 => ?_)
          · replace hp := hp.1 c57
            refine xJ_iconst hX dX12_grant_64 ?_
            refine xJ_iconst hX dX12_grant_65 ?_
            refine xJ_callV (As := [_, _]) hX hB dX12_grant_66 lk_X12_178 im_X12_fails se_X12_fails rfl (by decide) (oX12_k hL) (c_X12_fails hL hM42 ⟨by decide, by decide⟩ ⟨by decide, by decide⟩ hp) (by decide) rfl rfl rfl (Nat.le_of_ble_eq_true rfl) (by decide) (by decide) (fun v t9 M66 hv => ?_) (fun _ _ _ q => q.elim)
            obtain ⟨r66, rfl, h66, hM66, ht9, hp⟩ := hv
            replace ht9 := ht9.symm
            subst ht9
            dsimp only [Option.toList, List.cons_append, List.nil_append]
            refine xJ_if_eq hX dX12_grant_69 (tgt := 74) (by decide) h66 (fun c69 => ?_) (fun c69 => ?_)
            · replace hp := hp.1 c69
              refine xJ_aload_n hX dX12_grant_74 rfl ?_
              refine xJ_callV (As := []) hX hB dX12_grant_75 lk_X12_190 im_X12_remember se_X12_remember rfl (by decide) (oX12_k hL) (c_X12_remember hL hM66 hp) (by decide) rfl rfl rfl (Nat.le_of_ble_eq_true rfl) (by decide) (by decide) (fun v t9 M75 hv => ?_) (fun _ _ _ q => q.elim)
              obtain ⟨rfl, hM75, ht9, hp⟩ := hv
              replace ht9 := ht9.symm
              subst ht9
              dsimp only [Option.toList, List.cons_append, List.nil_append]
              refine xJ_aload_n hX dX12_grant_78 rfl ?_
              refine xJ_getR (b := (a + 2)) hX dX12_grant_79 fd_X12_17 rfl (oX12_k hL) (oX12_r8 hL) ?_
              refine xJ_iload_n hX dX12_grant_82 rfl ?_
              refine xJ_iload_n hX dX12_grant_83 rfl ?_
              refine xJ_aload_n hX dX12_grant_84 rfl ?_
              refine xJ_getR (b := (a + 2)) hX dX12_grant_85 fd_X12_17 rfl (oX12_k hL) (oX12_r8 hL) ?_
              refine xJ_iconst hX dX12_grant_88 ?_
              obtain ⟨h89, hp⟩ := hp
              refine xJ_iald hX dX12_grant_89 (oX12_k8 hL) h89.1 (xnlt (oX12_n8 hL) h89.2) ?_
              refine xJ_iload_n hX dX12_grant_90 rfl ?_
              refine xJ_iadd hX dX12_grant_91 ?_
              obtain ⟨h91, hp⟩ := hp
              refine xJ_callS (As := [_, _, _, _]) hX hB dX12_grant_92 lk_X12_148 sm_X12_putCoupon (c_X12_putCoupon (oX12_k8 hL) (oX12_n8 hL) ⟨by decide, by decide⟩ hM75 hx1 hx2 h91 hp) (by decide) rfl rfl rfl (Nat.le_of_ble_eq_true rfl) (by decide) (by decide) (fun v t9 M92 hv => ?_) (fun _ _ _ q => q.elim)
              obtain ⟨rfl, hM92, ht9, hp⟩ := hv
              replace ht9 := ht9.symm
              subst ht9
              dsimp only [Option.toList, List.cons_append, List.nil_append]
              refine xJ_aload_n hX dX12_grant_95 rfl ?_
              refine xJ_getR (b := (a + 2)) hX dX12_grant_96 fd_X12_17 rfl (oX12_k hL) (oX12_r8 hL) ?_
              refine xJ_iconst hX dX12_grant_99 ?_
              obtain ⟨h100, hp⟩ := hp
              refine xJ_iald hX dX12_grant_100 (oX12_k8 hL) h100.1 (xnlt (oX12_n8 hL) h100.2) ?_
              refine xJ_iconst hX dX12_grant_101 ?_
              refine xJ_isub hX dX12_grant_102 ?_
              obtain ⟨h102, hp⟩ := hp
              refine xJ_iret hX hB dX12_grant_103 (by decide) (by decide) ⟨_, rfl, h102, hM92, rfl, hp⟩
            · replace hp := hp.2 c69
              refine xJ_iconst hX dX12_grant_72 ?_
              refine xJ_iret hX hB dX12_grant_73 (by decide) (by decide) ⟨_, rfl, ⟨by decide, by decide⟩, hM66, rfl, hp⟩
          · replace hp := hp.2 c57
            refine xJ_iconst hX dX12_grant_60 ?_
            refine xJ_goto hX dX12_grant_61 (tgt := 65) (by decide) ?_
            refine xJ_iconst hX dX12_grant_65 ?_
            refine xJ_callV (As := [_, _]) hX hB dX12_grant_66 lk_X12_178 im_X12_fails se_X12_fails rfl (by decide) (oX12_k hL) (c_X12_fails hL hM42 ⟨by decide, by decide⟩ ⟨by decide, by decide⟩ hp) (by decide) rfl rfl rfl (Nat.le_of_ble_eq_true rfl) (by decide) (by decide) (fun v t9 M66 hv => ?_) (fun _ _ _ q => q.elim)
            obtain ⟨r66, rfl, h66, hM66, ht9, hp⟩ := hv
            replace ht9 := ht9.symm
            subst ht9
            dsimp only [Option.toList, List.cons_append, List.nil_append]
            refine xJ_if_eq hX dX12_grant_69 (tgt := 74) (by decide) h66 (fun c69 => ?_) (fun c69 => ?_)
            · replace hp := hp.1 c69
              refine xJ_aload_n hX dX12_grant_74 rfl ?_
              refine xJ_callV (As := []) hX hB dX12_grant_75 lk_X12_190 im_X12_remember se_X12_remember rfl (by decide) (oX12_k hL) (c_X12_remember hL hM66 hp) (by decide) rfl rfl rfl (Nat.le_of_ble_eq_true rfl) (by decide) (by decide) (fun v t9 M75 hv => ?_) (fun _ _ _ q => q.elim)
              obtain ⟨rfl, hM75, ht9, hp⟩ := hv
              replace ht9 := ht9.symm
              subst ht9
              dsimp only [Option.toList, List.cons_append, List.nil_append]
              refine xJ_aload_n hX dX12_grant_78 rfl ?_
              refine xJ_getR (b := (a + 2)) hX dX12_grant_79 fd_X12_17 rfl (oX12_k hL) (oX12_r8 hL) ?_
              refine xJ_iload_n hX dX12_grant_82 rfl ?_
              refine xJ_iload_n hX dX12_grant_83 rfl ?_
              refine xJ_aload_n hX dX12_grant_84 rfl ?_
              refine xJ_getR (b := (a + 2)) hX dX12_grant_85 fd_X12_17 rfl (oX12_k hL) (oX12_r8 hL) ?_
              refine xJ_iconst hX dX12_grant_88 ?_
              obtain ⟨h89, hp⟩ := hp
              refine xJ_iald hX dX12_grant_89 (oX12_k8 hL) h89.1 (xnlt (oX12_n8 hL) h89.2) ?_
              refine xJ_iload_n hX dX12_grant_90 rfl ?_
              refine xJ_iadd hX dX12_grant_91 ?_
              obtain ⟨h91, hp⟩ := hp
              refine xJ_callS (As := [_, _, _, _]) hX hB dX12_grant_92 lk_X12_148 sm_X12_putCoupon (c_X12_putCoupon (oX12_k8 hL) (oX12_n8 hL) ⟨by decide, by decide⟩ hM75 hx1 hx2 h91 hp) (by decide) rfl rfl rfl (Nat.le_of_ble_eq_true rfl) (by decide) (by decide) (fun v t9 M92 hv => ?_) (fun _ _ _ q => q.elim)
              obtain ⟨rfl, hM92, ht9, hp⟩ := hv
              replace ht9 := ht9.symm
              subst ht9
              dsimp only [Option.toList, List.cons_append, List.nil_append]
              refine xJ_aload_n hX dX12_grant_95 rfl ?_
              refine xJ_getR (b := (a + 2)) hX dX12_grant_96 fd_X12_17 rfl (oX12_k hL) (oX12_r8 hL) ?_
              refine xJ_iconst hX dX12_grant_99 ?_
              obtain ⟨h100, hp⟩ := hp
              refine xJ_iald hX dX12_grant_100 (oX12_k8 hL) h100.1 (xnlt (oX12_n8 hL) h100.2) ?_
              refine xJ_iconst hX dX12_grant_101 ?_
              refine xJ_isub hX dX12_grant_102 ?_
              obtain ⟨h102, hp⟩ := hp
              refine xJ_iret hX hB dX12_grant_103 (by decide) (by decide) ⟨_, rfl, h102, hM92, rfl, hp⟩
            · replace hp := hp.2 c69
              refine xJ_iconst hX dX12_grant_72 ?_
              refine xJ_iret hX hB dX12_grant_73 (by decide) (by decide) ⟨_, rfl, ⟨by decide, by decide⟩, hM66, rfl, hp⟩
      · replace hp := hp.2 c33
        refine xJ_iconst hX dX12_grant_36 ?_
        refine xJ_goto hX dX12_grant_37 (tgt := 41) (by decide) ?_
        refine xJ_iconst hX dX12_grant_41 ?_
        refine xJ_callV (As := [_, _]) hX hB dX12_grant_42 lk_X12_178 im_X12_fails se_X12_fails rfl (by decide) (oX12_k hL) (c_X12_fails hL hM30 ⟨by decide, by decide⟩ ⟨by decide, by decide⟩ hp) (by decide) rfl rfl rfl (Nat.le_of_ble_eq_true rfl) (by decide) (by decide) (fun v t9 M42 hv => ?_) (fun _ _ _ q => q.elim)
        obtain ⟨r42, rfl, h42, hM42, ht9, hp⟩ := hv
        replace ht9 := ht9.symm
        subst ht9
        dsimp only [Option.toList, List.cons_append, List.nil_append]
        refine xJ_if_ne hX dX12_grant_45 (tgt := 72) (by decide) h42 (fun c45 => ?_) (fun c45 => ?_)
        · replace hp := hp.1 c45
          refine xJ_iconst hX dX12_grant_72 ?_
          refine xJ_iret hX hB dX12_grant_73 (by decide) (by decide) ⟨_, rfl, ⟨by decide, by decide⟩, hM42, rfl, hp⟩
        · replace hp := hp.2 c45
          refine xJ_aload_n hX dX12_grant_48 rfl ?_
          refine xJ_aload_n hX dX12_grant_49 rfl ?_
          refine xJ_getR (b := (a + 2)) hX dX12_grant_50 fd_X12_17 rfl (oX12_k hL) (oX12_r8 hL) ?_
          refine xJ_iconst hX dX12_grant_53 ?_
          obtain ⟨h54, hp⟩ := hp
          refine xJ_iald hX dX12_grant_54 (oX12_k8 hL) h54.1 (xnlt (oX12_n8 hL) h54.2) ?_
          refine xJ_bipush hX dX12_grant_55 rfl ?_
          refine xJ_icmp_ne hX dX12_grant_57 (tgt := 64) (by decide) (hM42 _ _) ⟨by decide, by decide⟩ (fun c57 => ?_) (fun c57 => ?_)
          · replace hp := hp.1 c57
            refine xJ_iconst hX dX12_grant_64 ?_
            refine xJ_iconst hX dX12_grant_65 ?_
            refine xJ_callV (As := [_, _]) hX hB dX12_grant_66 lk_X12_178 im_X12_fails se_X12_fails rfl (by decide) (oX12_k hL) (c_X12_fails hL hM42 ⟨by decide, by decide⟩ ⟨by decide, by decide⟩ hp) (by decide) rfl rfl rfl (Nat.le_of_ble_eq_true rfl) (by decide) (by decide) (fun v t9 M66 hv => ?_) (fun _ _ _ q => q.elim)
            obtain ⟨r66, rfl, h66, hM66, ht9, hp⟩ := hv
            replace ht9 := ht9.symm
            subst ht9
            dsimp only [Option.toList, List.cons_append, List.nil_append]
            refine xJ_if_eq hX dX12_grant_69 (tgt := 74) (by decide) h66 (fun c69 => ?_) (fun c69 => ?_)
            · replace hp := hp.1 c69
              refine xJ_aload_n hX dX12_grant_74 rfl ?_
              refine xJ_callV (As := []) hX hB dX12_grant_75 lk_X12_190 im_X12_remember se_X12_remember rfl (by decide) (oX12_k hL) (c_X12_remember hL hM66 hp) (by decide) rfl rfl rfl (Nat.le_of_ble_eq_true rfl) (by decide) (by decide) (fun v t9 M75 hv => ?_) (fun _ _ _ q => q.elim)
              obtain ⟨rfl, hM75, ht9, hp⟩ := hv
              replace ht9 := ht9.symm
              subst ht9
              dsimp only [Option.toList, List.cons_append, List.nil_append]
              refine xJ_aload_n hX dX12_grant_78 rfl ?_
              refine xJ_getR (b := (a + 2)) hX dX12_grant_79 fd_X12_17 rfl (oX12_k hL) (oX12_r8 hL) ?_
              refine xJ_iload_n hX dX12_grant_82 rfl ?_
              refine xJ_iload_n hX dX12_grant_83 rfl ?_
              refine xJ_aload_n hX dX12_grant_84 rfl ?_
              refine xJ_getR (b := (a + 2)) hX dX12_grant_85 fd_X12_17 rfl (oX12_k hL) (oX12_r8 hL) ?_
              refine xJ_iconst hX dX12_grant_88 ?_
              obtain ⟨h89, hp⟩ := hp
              refine xJ_iald hX dX12_grant_89 (oX12_k8 hL) h89.1 (xnlt (oX12_n8 hL) h89.2) ?_
              refine xJ_iload_n hX dX12_grant_90 rfl ?_
              refine xJ_iadd hX dX12_grant_91 ?_
              obtain ⟨h91, hp⟩ := hp
              refine xJ_callS (As := [_, _, _, _]) hX hB dX12_grant_92 lk_X12_148 sm_X12_putCoupon (c_X12_putCoupon (oX12_k8 hL) (oX12_n8 hL) ⟨by decide, by decide⟩ hM75 hx1 hx2 h91 hp) (by decide) rfl rfl rfl (Nat.le_of_ble_eq_true rfl) (by decide) (by decide) (fun v t9 M92 hv => ?_) (fun _ _ _ q => q.elim)
              obtain ⟨rfl, hM92, ht9, hp⟩ := hv
              replace ht9 := ht9.symm
              subst ht9
              dsimp only [Option.toList, List.cons_append, List.nil_append]
              refine xJ_aload_n hX dX12_grant_95 rfl ?_
              refine xJ_getR (b := (a + 2)) hX dX12_grant_96 fd_X12_17 rfl (oX12_k hL) (oX12_r8 hL) ?_
              refine xJ_iconst hX dX12_grant_99 ?_
              obtain ⟨h100, hp⟩ := hp
              refine xJ_iald hX dX12_grant_100 (oX12_k8 hL) h100.1 (xnlt (oX12_n8 hL) h100.2) ?_
              refine xJ_iconst hX dX12_grant_101 ?_
              refine xJ_isub hX dX12_grant_102 ?_
              obtain ⟨h102, hp⟩ := hp
              refine xJ_iret hX hB dX12_grant_103 (by decide) (by decide) ⟨_, rfl, h102, hM92, rfl, hp⟩
            · replace hp := hp.2 c69
              refine xJ_iconst hX dX12_grant_72 ?_
              refine xJ_iret hX hB dX12_grant_73 (by decide) (by decide) ⟨_, rfl, ⟨by decide, by decide⟩, hM66, rfl, hp⟩
          · replace hp := hp.2 c57
            refine xJ_iconst hX dX12_grant_60 ?_
            refine xJ_goto hX dX12_grant_61 (tgt := 65) (by decide) ?_
            refine xJ_iconst hX dX12_grant_65 ?_
            refine xJ_callV (As := [_, _]) hX hB dX12_grant_66 lk_X12_178 im_X12_fails se_X12_fails rfl (by decide) (oX12_k hL) (c_X12_fails hL hM42 ⟨by decide, by decide⟩ ⟨by decide, by decide⟩ hp) (by decide) rfl rfl rfl (Nat.le_of_ble_eq_true rfl) (by decide) (by decide) (fun v t9 M66 hv => ?_) (fun _ _ _ q => q.elim)
            obtain ⟨r66, rfl, h66, hM66, ht9, hp⟩ := hv
            replace ht9 := ht9.symm
            subst ht9
            dsimp only [Option.toList, List.cons_append, List.nil_append]
            refine xJ_if_eq hX dX12_grant_69 (tgt := 74) (by decide) h66 (fun c69 => ?_) (fun c69 => ?_)
            · replace hp := hp.1 c69
              refine xJ_aload_n hX dX12_grant_74 rfl ?_
              refine xJ_callV (As := []) hX hB dX12_grant_75 lk_X12_190 im_X12_remember se_X12_remember rfl (by decide) (oX12_k hL) (c_X12_remember hL hM66 hp) (by decide) rfl rfl rfl (Nat.le_of_ble_eq_true rfl) (by decide) (by decide) (fun v t9 M75 hv => ?_) (fun _ _ _ q => q.elim)
              obtain ⟨rfl, hM75, ht9, hp⟩ := hv
              replace ht9 := ht9.symm
              subst ht9
              dsimp only [Option.toList, List.cons_append, List.nil_append]
              refine xJ_aload_n hX dX12_grant_78 rfl ?_
              refine xJ_getR (b := (a + 2)) hX dX12_grant_79 fd_X12_17 rfl (oX12_k hL) (oX12_r8 hL) ?_
              refine xJ_iload_n hX dX12_grant_82 rfl ?_
              refine xJ_iload_n hX dX12_grant_83 rfl ?_
              refine xJ_aload_n hX dX12_grant_84 rfl ?_
              refine xJ_getR (b := (a + 2)) hX dX12_grant_85 fd_X12_17 rfl (oX12_k hL) (oX12_r8 hL) ?_
              refine xJ_iconst hX dX12_grant_88 ?_
              obtain ⟨h89, hp⟩ := hp
              refine xJ_iald hX dX12_grant_89 (oX12_k8 hL) h89.1 (xnlt (oX12_n8 hL) h89.2) ?_
              refine xJ_iload_n hX dX12_grant_90 rfl ?_
              refine xJ_iadd hX dX12_grant_91 ?_
              obtain ⟨h91, hp⟩ := hp
              refine xJ_callS (As := [_, _, _, _]) hX hB dX12_grant_92 lk_X12_148 sm_X12_putCoupon (c_X12_putCoupon (oX12_k8 hL) (oX12_n8 hL) ⟨by decide, by decide⟩ hM75 hx1 hx2 h91 hp) (by decide) rfl rfl rfl (Nat.le_of_ble_eq_true rfl) (by decide) (by decide) (fun v t9 M92 hv => ?_) (fun _ _ _ q => q.elim)
              obtain ⟨rfl, hM92, ht9, hp⟩ := hv
              replace ht9 := ht9.symm
              subst ht9
              dsimp only [Option.toList, List.cons_append, List.nil_append]
              refine xJ_aload_n hX dX12_grant_95 rfl ?_
              refine xJ_getR (b := (a + 2)) hX dX12_grant_96 fd_X12_17 rfl (oX12_k hL) (oX12_r8 hL) ?_
              refine xJ_iconst hX dX12_grant_99 ?_
              obtain ⟨h100, hp⟩ := hp
              refine xJ_iald hX dX12_grant_100 (oX12_k8 hL) h100.1 (xnlt (oX12_n8 hL) h100.2) ?_
              refine xJ_iconst hX dX12_grant_101 ?_
              refine xJ_isub hX dX12_grant_102 ?_
              obtain ⟨h102, hp⟩ := hp
              refine xJ_iret hX hB dX12_grant_103 (by decide) (by decide) ⟨_, rfl, h102, hM92, rfl, hp⟩
            · replace hp := hp.2 c69
              refine xJ_iconst hX dX12_grant_72 ?_
              refine xJ_iret hX hB dX12_grant_73 (by decide) (by decide) ⟨_, rfl, ⟨by decide, by decide⟩, hM66, rfl, hp⟩
def p_X12_send (F : Nat) (a : Nat) (x1 : Int) (x2 : Int) (M : xMe) (Q : Int → xMe → Prop) : Prop :=
  (∀ M2 : xMe, M2 = xw M a 0 0 → p_X12_noFlow a x1 M2 (fun r7 M7 => ((r7 ≠ 0 → Q 0 M7) ∧ (r7 = 0 → p_X12_noNumber a x2 1 999 M7 (fun r19 M19 => ((r19 ≠ 0 → Q 0 M19) ∧ (r19 = 0 → ((0 : Int) ≤ 3 ∧ (3 : Int) < 2105) ∧ (((M19 (a + 2) 3) ≠ 40 → p_X12_fails a 0 3 M19 (fun r43 M43 => ((r43 = 0 → p_X12_remember F a M43 (fun M52 => ((0 : Int) ≤ 0 ∧ (0 : Int) < 2105) ∧ p_X12_putPacket F (a + 2) 2105 x1 (M52 (a + 2) 0) x2 M52 (fun M67 => ((0 : Int) ≤ 3 ∧ (3 : Int) < 2105) ∧ (xR ((M67 (a + 2) 3) - 1)) ∧ Q ((M67 (a + 2) 3) - 1) M67))) ∧ (r43 ≠ 0 → Q 0 M43)))) ∧ ((M19 (a + 2) 3) = 40 → p_X12_fails a 1 3 M19 (fun r43 M43 => ((r43 = 0 → p_X12_remember F a M43 (fun M52 => ((0 : Int) ≤ 0 ∧ (0 : Int) < 2105) ∧ p_X12_putPacket F (a + 2) 2105 x1 (M52 (a + 2) 0) x2 M52 (fun M67 => ((0 : Int) ≤ 3 ∧ (3 : Int) < 2105) ∧ (xR ((M67 (a + 2) 3) - 1)) ∧ Q ((M67 (a + 2) 3) - 1) M67))) ∧ (r43 ≠ 0 → Q 0 M43))))))))))))
set_option maxHeartbeats 4000000 in
set_option maxRecDepth 100000 in
theorem c_X12_send {G : xGx} {t : xTh} {M : xMe} {F : Nat} {a : Nat} {x1 : Int} {x2 : Int} {Q : Int → xMe → Prop} (hL : oX12 t a) (hM : xMR M) (hx1 : xR x1) (hx2 : xR x2) (hp : p_X12_send F a x1 x2 M Q) : xCt G yX12_send cX12_send 3 (some .int) 2 0 0 [vr a, vi x1, vi x2] t M (fun v t' M' => ∃ r, v = some (vi r) ∧ xR r ∧ xMR M' ∧ t' = t ∧ Q r M') (fun _ _ _ => False) := by
  refine xCt_of (L0 := [vr a, vi x1, vi x2]) (by decide +kernel) (Nat.le_of_ble_eq_true rfl) rfl ?_
  intro X hX hB
  unfold p_X12_send at hp
  refine xJ_aload_n hX dX12_send_0 rfl ?_
  refine xJ_iconst hX dX12_send_1 ?_
  refine xJ_putIM hX dX12_send_2 fd_X12_42 ft_X12 rfl rfl rfl rfl (oX12_k hL) hM ⟨by decide, by decide⟩ (fun M2 e2 hM2 => ?_)
  replace hp := hp M2 e2
  refine xJ_aload_n hX dX12_send_5 rfl ?_
  refine xJ_iload_n hX dX12_send_6 rfl ?_
  refine xJ_callV (As := [_]) hX hB dX12_send_7 lk_X12_274 im_X12_noFlow se_X12_noFlow rfl (by decide) (oX12_k hL) (c_X12_noFlow hL hM2 hx1 hp) (by decide) rfl rfl rfl (Nat.le_of_ble_eq_true rfl) (by decide) (by decide) (fun v t9 M7 hv => ?_) (fun _ _ _ q => q.elim)
  obtain ⟨r7, rfl, h7, hM7, ht9, hp⟩ := hv
  replace ht9 := ht9.symm
  subst ht9
  dsimp only [Option.toList, List.cons_append, List.nil_append]
  refine xJ_if_ne hX dX12_send_10 (tgt := 49) (by decide) h7 (fun c10 => ?_) (fun c10 => ?_)
  · replace hp := hp.1 c10
    refine xJ_iconst hX dX12_send_49 ?_
    refine xJ_iret hX hB dX12_send_50 (by decide) (by decide) ⟨_, rfl, ⟨by decide, by decide⟩, hM7, rfl, hp⟩
  · replace hp := hp.2 c10
    refine xJ_aload_n hX dX12_send_13 rfl ?_
    refine xJ_iload_n hX dX12_send_14 rfl ?_
    refine xJ_iconst hX dX12_send_15 ?_
    refine xJ_sipush hX dX12_send_16 rfl ?_
    refine xJ_callV (As := [_, _, _]) hX hB dX12_send_19 lk_X12_268 im_X12_noNumber se_X12_noNumber rfl (by decide) (oX12_k hL) (c_X12_noNumber hL hM7 hx2 ⟨by decide, by decide⟩ ⟨by decide, by decide⟩ hp) (by decide) rfl rfl rfl (Nat.le_of_ble_eq_true rfl) (by decide) (by decide) (fun v t9 M19 hv => ?_) (fun _ _ _ q => q.elim)
    obtain ⟨r19, rfl, h19, hM19, ht9, hp⟩ := hv
    replace ht9 := ht9.symm
    subst ht9
    dsimp only [Option.toList, List.cons_append, List.nil_append]
    refine xJ_if_ne hX dX12_send_22 (tgt := 49) (by decide) h19 (fun c22 => ?_) (fun c22 => ?_)
    · replace hp := hp.1 c22
      refine xJ_iconst hX dX12_send_49 ?_
      refine xJ_iret hX hB dX12_send_50 (by decide) (by decide) ⟨_, rfl, ⟨by decide, by decide⟩, hM19, rfl, hp⟩
    · replace hp := hp.2 c22
      refine xJ_aload_n hX dX12_send_25 rfl ?_
      refine xJ_aload_n hX dX12_send_26 rfl ?_
      refine xJ_getR (b := (a + 2)) hX dX12_send_27 fd_X12_17 rfl (oX12_k hL) (oX12_r8 hL) ?_
      refine xJ_iconst hX dX12_send_30 ?_
      obtain ⟨h31, hp⟩ := hp
      refine xJ_iald hX dX12_send_31 (oX12_k8 hL) h31.1 (xnlt (oX12_n8 hL) h31.2) ?_
      refine xJ_bipush hX dX12_send_32 rfl ?_
      refine xJ_icmp_ne hX dX12_send_34 (tgt := 41) (by decide) (hM19 _ _) ⟨by decide, by decide⟩ (fun c34 => ?_) (fun c34 => ?_)
      · replace hp := hp.1 c34
        refine xJ_iconst hX dX12_send_41 ?_
        refine xJ_iconst hX dX12_send_42 ?_
        refine xJ_callV (As := [_, _]) hX hB dX12_send_43 lk_X12_178 im_X12_fails se_X12_fails rfl (by decide) (oX12_k hL) (c_X12_fails hL hM19 ⟨by decide, by decide⟩ ⟨by decide, by decide⟩ hp) (by decide) rfl rfl rfl (Nat.le_of_ble_eq_true rfl) (by decide) (by decide) (fun v t9 M43 hv => ?_) (fun _ _ _ q => q.elim)
        obtain ⟨r43, rfl, h43, hM43, ht9, hp⟩ := hv
        replace ht9 := ht9.symm
        subst ht9
        dsimp only [Option.toList, List.cons_append, List.nil_append]
        refine xJ_if_eq hX dX12_send_46 (tgt := 51) (by decide) h43 (fun c46 => ?_) (fun c46 => ?_)
        · replace hp := hp.1 c46
          refine xJ_aload_n hX dX12_send_51 rfl ?_
          refine xJ_callV (As := []) hX hB dX12_send_52 lk_X12_190 im_X12_remember se_X12_remember rfl (by decide) (oX12_k hL) (c_X12_remember hL hM43 hp) (by decide) rfl rfl rfl (Nat.le_of_ble_eq_true rfl) (by decide) (by decide) (fun v t9 M52 hv => ?_) (fun _ _ _ q => q.elim)
          obtain ⟨rfl, hM52, ht9, hp⟩ := hv
          replace ht9 := ht9.symm
          subst ht9
          dsimp only [Option.toList, List.cons_append, List.nil_append]
          refine xJ_aload_n hX dX12_send_55 rfl ?_
          refine xJ_getR (b := (a + 2)) hX dX12_send_56 fd_X12_17 rfl (oX12_k hL) (oX12_r8 hL) ?_
          refine xJ_iload_n hX dX12_send_59 rfl ?_
          refine xJ_aload_n hX dX12_send_60 rfl ?_
          refine xJ_getR (b := (a + 2)) hX dX12_send_61 fd_X12_17 rfl (oX12_k hL) (oX12_r8 hL) ?_
          refine xJ_iconst hX dX12_send_64 ?_
          obtain ⟨h65, hp⟩ := hp
          refine xJ_iald hX dX12_send_65 (oX12_k8 hL) h65.1 (xnlt (oX12_n8 hL) h65.2) ?_
          refine xJ_iload_n hX dX12_send_66 rfl ?_
          refine xJ_callS (As := [_, _, _, _]) hX hB dX12_send_67 lk_X12_144 sm_X12_putPacket (c_X12_putPacket (oX12_k8 hL) (oX12_n8 hL) ⟨by decide, by decide⟩ hM52 hx1 (hM52 _ _) hx2 hp) (by decide) rfl rfl rfl (Nat.le_of_ble_eq_true rfl) (by decide) (by decide) (fun v t9 M67 hv => ?_) (fun _ _ _ q => q.elim)
          obtain ⟨rfl, hM67, ht9, hp⟩ := hv
          replace ht9 := ht9.symm
          subst ht9
          dsimp only [Option.toList, List.cons_append, List.nil_append]
          refine xJ_aload_n hX dX12_send_70 rfl ?_
          refine xJ_getR (b := (a + 2)) hX dX12_send_71 fd_X12_17 rfl (oX12_k hL) (oX12_r8 hL) ?_
          refine xJ_iconst hX dX12_send_74 ?_
          obtain ⟨h75, hp⟩ := hp
          refine xJ_iald hX dX12_send_75 (oX12_k8 hL) h75.1 (xnlt (oX12_n8 hL) h75.2) ?_
          refine xJ_iconst hX dX12_send_76 ?_
          refine xJ_isub hX dX12_send_77 ?_
          obtain ⟨h77, hp⟩ := hp
          refine xJ_iret hX hB dX12_send_78 (by decide) (by decide) ⟨_, rfl, h77, hM67, rfl, hp⟩
        · replace hp := hp.2 c46
          refine xJ_iconst hX dX12_send_49 ?_
          refine xJ_iret hX hB dX12_send_50 (by decide) (by decide) ⟨_, rfl, ⟨by decide, by decide⟩, hM43, rfl, hp⟩
      · replace hp := hp.2 c34
        refine xJ_iconst hX dX12_send_37 ?_
        refine xJ_goto hX dX12_send_38 (tgt := 42) (by decide) ?_
        refine xJ_iconst hX dX12_send_42 ?_
        refine xJ_callV (As := [_, _]) hX hB dX12_send_43 lk_X12_178 im_X12_fails se_X12_fails rfl (by decide) (oX12_k hL) (c_X12_fails hL hM19 ⟨by decide, by decide⟩ ⟨by decide, by decide⟩ hp) (by decide) rfl rfl rfl (Nat.le_of_ble_eq_true rfl) (by decide) (by decide) (fun v t9 M43 hv => ?_) (fun _ _ _ q => q.elim)
        obtain ⟨r43, rfl, h43, hM43, ht9, hp⟩ := hv
        replace ht9 := ht9.symm
        subst ht9
        dsimp only [Option.toList, List.cons_append, List.nil_append]
        refine xJ_if_eq hX dX12_send_46 (tgt := 51) (by decide) h43 (fun c46 => ?_) (fun c46 => ?_)
        · replace hp := hp.1 c46
          refine xJ_aload_n hX dX12_send_51 rfl ?_
          refine xJ_callV (As := []) hX hB dX12_send_52 lk_X12_190 im_X12_remember se_X12_remember rfl (by decide) (oX12_k hL) (c_X12_remember hL hM43 hp) (by decide) rfl rfl rfl (Nat.le_of_ble_eq_true rfl) (by decide) (by decide) (fun v t9 M52 hv => ?_) (fun _ _ _ q => q.elim)
          obtain ⟨rfl, hM52, ht9, hp⟩ := hv
          replace ht9 := ht9.symm
          subst ht9
          dsimp only [Option.toList, List.cons_append, List.nil_append]
          refine xJ_aload_n hX dX12_send_55 rfl ?_
          refine xJ_getR (b := (a + 2)) hX dX12_send_56 fd_X12_17 rfl (oX12_k hL) (oX12_r8 hL) ?_
          refine xJ_iload_n hX dX12_send_59 rfl ?_
          refine xJ_aload_n hX dX12_send_60 rfl ?_
          refine xJ_getR (b := (a + 2)) hX dX12_send_61 fd_X12_17 rfl (oX12_k hL) (oX12_r8 hL) ?_
          refine xJ_iconst hX dX12_send_64 ?_
          obtain ⟨h65, hp⟩ := hp
          refine xJ_iald hX dX12_send_65 (oX12_k8 hL) h65.1 (xnlt (oX12_n8 hL) h65.2) ?_
          refine xJ_iload_n hX dX12_send_66 rfl ?_
          refine xJ_callS (As := [_, _, _, _]) hX hB dX12_send_67 lk_X12_144 sm_X12_putPacket (c_X12_putPacket (oX12_k8 hL) (oX12_n8 hL) ⟨by decide, by decide⟩ hM52 hx1 (hM52 _ _) hx2 hp) (by decide) rfl rfl rfl (Nat.le_of_ble_eq_true rfl) (by decide) (by decide) (fun v t9 M67 hv => ?_) (fun _ _ _ q => q.elim)
          obtain ⟨rfl, hM67, ht9, hp⟩ := hv
          replace ht9 := ht9.symm
          subst ht9
          dsimp only [Option.toList, List.cons_append, List.nil_append]
          refine xJ_aload_n hX dX12_send_70 rfl ?_
          refine xJ_getR (b := (a + 2)) hX dX12_send_71 fd_X12_17 rfl (oX12_k hL) (oX12_r8 hL) ?_
          refine xJ_iconst hX dX12_send_74 ?_
          obtain ⟨h75, hp⟩ := hp
          refine xJ_iald hX dX12_send_75 (oX12_k8 hL) h75.1 (xnlt (oX12_n8 hL) h75.2) ?_
          refine xJ_iconst hX dX12_send_76 ?_
          refine xJ_isub hX dX12_send_77 ?_
          obtain ⟨h77, hp⟩ := hp
          refine xJ_iret hX hB dX12_send_78 (by decide) (by decide) ⟨_, rfl, h77, hM67, rfl, hp⟩
        · replace hp := hp.2 c46
          refine xJ_iconst hX dX12_send_49 ?_
          refine xJ_iret hX hB dX12_send_50 (by decide) (by decide) ⟨_, rfl, ⟨by decide, by decide⟩, hM43, rfl, hp⟩
def p_X12_setThrift (F : Nat) (a : Nat) (x1 : Int) (x2 : Int) (M : xMe) (Q : Int → xMe → Prop) : Prop :=
  (∀ M2 : xMe, M2 = xw M a 0 0 → p_X12_noFlow a x1 M2 (fun r7 M7 => ((r7 ≠ 0 → Q 0 M7) ∧ (r7 = 0 → p_X12_noNumber a x2 0 99 M7 (fun r18 M18 => ((r18 = 0 → p_X12_remember F a M18 (fun M27 => p_X12_ofFlow a x1 1 M27 (fun r33 M33 => (xR (8 * x1)) ∧ (xR (33 + (8 * x1))) ∧ (xR ((33 + (8 * x1)) + 1)) ∧ ((0 : Int) ≤ ((33 + (8 * x1)) + 1) ∧ (((33 + (8 * x1)) + 1) : Int) < 2105) ∧ (∀ M51 : xMe, M51 = xw M33 (a + 2) ((33 + (8 * x1)) + 1).toNat x2 → Q r33 M51)))) ∧ (r18 ≠ 0 → Q 0 M18)))))))
set_option maxHeartbeats 4000000 in
set_option maxRecDepth 100000 in
theorem c_X12_setThrift {G : xGx} {t : xTh} {M : xMe} {F : Nat} {a : Nat} {x1 : Int} {x2 : Int} {Q : Int → xMe → Prop} (hL : oX12 t a) (hM : xMR M) (hx1 : xR x1) (hx2 : xR x2) (hp : p_X12_setThrift F a x1 x2 M Q) : xCt G yX12_setThrift cX12_setThrift 4 (some .int) 2 0 0 [vr a, vi x1, vi x2] t M (fun v t' M' => ∃ r, v = some (vi r) ∧ xR r ∧ xMR M' ∧ t' = t ∧ Q r M') (fun _ _ _ => False) := by
  refine xCt_of (L0 := [vr a, vi x1, vi x2, vU]) (by decide +kernel) (Nat.le_of_ble_eq_true rfl) rfl ?_
  intro X hX hB
  unfold p_X12_setThrift at hp
  refine xJ_aload_n hX dX12_setThrift_0 rfl ?_
  refine xJ_iconst hX dX12_setThrift_1 ?_
  refine xJ_putIM hX dX12_setThrift_2 fd_X12_42 ft_X12 rfl rfl rfl rfl (oX12_k hL) hM ⟨by decide, by decide⟩ (fun M2 e2 hM2 => ?_)
  replace hp := hp M2 e2
  refine xJ_aload_n hX dX12_setThrift_5 rfl ?_
  refine xJ_iload_n hX dX12_setThrift_6 rfl ?_
  refine xJ_callV (As := [_]) hX hB dX12_setThrift_7 lk_X12_274 im_X12_noFlow se_X12_noFlow rfl (by decide) (oX12_k hL) (c_X12_noFlow hL hM2 hx1 hp) (by decide) rfl rfl rfl (Nat.le_of_ble_eq_true rfl) (by decide) (by decide) (fun v t9 M7 hv => ?_) (fun _ _ _ q => q.elim)
  obtain ⟨r7, rfl, h7, hM7, ht9, hp⟩ := hv
  replace ht9 := ht9.symm
  subst ht9
  dsimp only [Option.toList, List.cons_append, List.nil_append]
  refine xJ_if_ne hX dX12_setThrift_10 (tgt := 24) (by decide) h7 (fun c10 => ?_) (fun c10 => ?_)
  · replace hp := hp.1 c10
    refine xJ_iconst hX dX12_setThrift_24 ?_
    refine xJ_iret hX hB dX12_setThrift_25 (by decide) (by decide) ⟨_, rfl, ⟨by decide, by decide⟩, hM7, rfl, hp⟩
  · replace hp := hp.2 c10
    refine xJ_aload_n hX dX12_setThrift_13 rfl ?_
    refine xJ_iload_n hX dX12_setThrift_14 rfl ?_
    refine xJ_iconst hX dX12_setThrift_15 ?_
    refine xJ_bipush hX dX12_setThrift_16 rfl ?_
    refine xJ_callV (As := [_, _, _]) hX hB dX12_setThrift_18 lk_X12_268 im_X12_noNumber se_X12_noNumber rfl (by decide) (oX12_k hL) (c_X12_noNumber hL hM7 hx2 ⟨by decide, by decide⟩ ⟨by decide, by decide⟩ hp) (by decide) rfl rfl rfl (Nat.le_of_ble_eq_true rfl) (by decide) (by decide) (fun v t9 M18 hv => ?_) (fun _ _ _ q => q.elim)
    obtain ⟨r18, rfl, h18, hM18, ht9, hp⟩ := hv
    replace ht9 := ht9.symm
    subst ht9
    dsimp only [Option.toList, List.cons_append, List.nil_append]
    refine xJ_if_eq hX dX12_setThrift_21 (tgt := 26) (by decide) h18 (fun c21 => ?_) (fun c21 => ?_)
    · replace hp := hp.1 c21
      refine xJ_aload_n hX dX12_setThrift_26 rfl ?_
      refine xJ_callV (As := []) hX hB dX12_setThrift_27 lk_X12_190 im_X12_remember se_X12_remember rfl (by decide) (oX12_k hL) (c_X12_remember hL hM18 hp) (by decide) rfl rfl rfl (Nat.le_of_ble_eq_true rfl) (by decide) (by decide) (fun v t9 M27 hv => ?_) (fun _ _ _ q => q.elim)
      obtain ⟨rfl, hM27, ht9, hp⟩ := hv
      replace ht9 := ht9.symm
      subst ht9
      dsimp only [Option.toList, List.cons_append, List.nil_append]
      refine xJ_aload_n hX dX12_setThrift_30 rfl ?_
      refine xJ_iload_n hX dX12_setThrift_31 rfl ?_
      refine xJ_iconst hX dX12_setThrift_32 ?_
      refine xJ_callV (As := [_, _]) hX hB dX12_setThrift_33 lk_X12_200 im_X12_ofFlow se_X12_ofFlow rfl (by decide) (oX12_k hL) (c_X12_ofFlow hL hM27 hx1 ⟨by decide, by decide⟩ hp) (by decide) rfl rfl rfl (Nat.le_of_ble_eq_true rfl) (by decide) (by decide) (fun v t9 M33 hv => ?_) (fun _ _ _ q => q.elim)
      obtain ⟨r33, rfl, h33, hM33, ht9, hp⟩ := hv
      replace ht9 := ht9.symm
      subst ht9
      dsimp only [Option.toList, List.cons_append, List.nil_append]
      refine xJ_istore_n hX dX12_setThrift_36 (Nat.le_of_ble_eq_true rfl) rfl ?_
      dsimp only [List.set]
      refine xJ_aload_n hX dX12_setThrift_37 rfl ?_
      refine xJ_getR (b := (a + 2)) hX dX12_setThrift_38 fd_X12_17 rfl (oX12_k hL) (oX12_r8 hL) ?_
      refine xJ_bipush hX dX12_setThrift_41 rfl ?_
      refine xJ_bipush hX dX12_setThrift_43 rfl ?_
      refine xJ_iload_n hX dX12_setThrift_45 rfl ?_
      refine xJ_imul hX dX12_setThrift_46 ?_
      obtain ⟨h46, hp⟩ := hp
      refine xJ_iadd hX dX12_setThrift_47 ?_
      obtain ⟨h47, hp⟩ := hp
      refine xJ_iconst hX dX12_setThrift_48 ?_
      refine xJ_iadd hX dX12_setThrift_49 ?_
      obtain ⟨h49, hp⟩ := hp
      refine xJ_iload_n hX dX12_setThrift_50 rfl ?_
      obtain ⟨h51, hp⟩ := hp
      refine xJ_iastM hX dX12_setThrift_51 (oX12_k8 hL) h51.1 (xnlt (oX12_n8 hL) h51.2) hM33 hx2 (fun M51 e51 hM51 => ?_)
      replace hp := hp M51 e51
      refine xJ_iload_n hX dX12_setThrift_52 rfl ?_
      refine xJ_iret hX hB dX12_setThrift_53 (by decide) (by decide) ⟨_, rfl, h33, hM51, rfl, hp⟩
    · replace hp := hp.2 c21
      refine xJ_iconst hX dX12_setThrift_24 ?_
      refine xJ_iret hX hB dX12_setThrift_25 (by decide) (by decide) ⟨_, rfl, ⟨by decide, by decide⟩, hM18, rfl, hp⟩
def p_X12_undo (F : Nat) (a : Nat) (M : xMe) (Q : Int → xMe → Prop) : Prop :=
  (∀ M2 : xMe, M2 = xw M a 0 0 → (((M2 a 13) ≠ 0 → (xR ((M2 a 13) - 1)) ∧ (∀ M21 : xMe, M21 = xw M2 a 13 ((M2 a 13) - 1) → ((0 : Int) ≤ (M21 a 13) ∧ ((M21 a 13) : Int) < 8) ∧ p_X12_copy F (a + 7 + (M21 a 13).toNat) 2105 (a + 2) 2105 2105 M21 (fun M40 => Q (M40 a 13) M40))) ∧ ((M2 a 13) = 0 → Q ((-1)) M2)))
set_option maxHeartbeats 4000000 in
set_option maxRecDepth 100000 in
theorem c_X12_undo {G : xGx} {t : xTh} {M : xMe} {F : Nat} {a : Nat} {Q : Int → xMe → Prop} (hL : oX12 t a) (hM : xMR M)(hp : p_X12_undo F a M Q) : xCt G yX12_undo cX12_undo 1 (some .int) 1 0 0 [vr a] t M (fun v t' M' => ∃ r, v = some (vi r) ∧ xR r ∧ xMR M' ∧ t' = t ∧ Q r M') (fun _ _ _ => False) := by
  refine xCt_of (L0 := [vr a]) (by decide +kernel) (Nat.le_of_ble_eq_true rfl) rfl ?_
  intro X hX hB
  unfold p_X12_undo at hp
  refine xJ_aload_n hX dX12_undo_0 rfl ?_
  refine xJ_iconst hX dX12_undo_1 ?_
  refine xJ_putIM hX dX12_undo_2 fd_X12_42 ft_X12 rfl rfl rfl rfl (oX12_k hL) hM ⟨by decide, by decide⟩ (fun M2 e2 hM2 => ?_)
  replace hp := hp M2 e2
  refine xJ_aload_n hX dX12_undo_5 rfl ?_
  refine xJ_getI hX dX12_undo_6 fd_X12_301 rfl (oX12_k hL) ?_
  refine xJ_if_ne hX dX12_undo_9 (tgt := 14) (by decide) (hM2 _ _) (fun c9 => ?_) (fun c9 => ?_)
  · replace hp := hp.1 c9
    refine xJ_aload_n hX dX12_undo_14 rfl ?_
    refine xJ_dup hX dX12_undo_15 rfl ?_
    refine xJ_getI hX dX12_undo_16 fd_X12_301 rfl (oX12_k hL) ?_
    refine xJ_iconst hX dX12_undo_19 ?_
    refine xJ_isub hX dX12_undo_20 ?_
    obtain ⟨h20, hp⟩ := hp
    refine xJ_putIM hX dX12_undo_21 fd_X12_301 ft_X12 rfl rfl rfl rfl (oX12_k hL) hM2 h20 (fun M21 e21 hM21 => ?_)
    replace hp := hp M21 e21
    refine xJ_aload_n hX dX12_undo_24 rfl ?_
    refine xJ_getR (b := (a + 6)) hX dX12_undo_25 fd_X12_31 rfl (oX12_k hL) (oX12_r12 hL) ?_
    refine xJ_aload_n hX dX12_undo_28 rfl ?_
    refine xJ_getI hX dX12_undo_29 fd_X12_301 rfl (oX12_k hL) ?_
    obtain ⟨h32, hp⟩ := hp
    refine xJ_aaldIb hX dX12_undo_32 (oX12_k12 hL) h32.1 (xnlt (oX12_n12 hL) h32.2) (oX12_h hL _ (xtoN (N := 8) h32.1 h32.2)).1 ?_
    refine xJ_aload_n hX dX12_undo_33 rfl ?_
    refine xJ_getR (b := (a + 2)) hX dX12_undo_34 fd_X12_17 rfl (oX12_k hL) (oX12_r8 hL) ?_
    refine xJ_sipush hX dX12_undo_37 rfl ?_
    refine xJ_callS (As := [_, _, _]) hX hB dX12_undo_40 lk_X12_193 sm_X12_copy (c_X12_copy (oX12_h hL _ (xtoN (N := 8) h32.1 h32.2)).2.1 (oX12_h hL _ (xtoN (N := 8) h32.1 h32.2)).2.2 ⟨by decide, by decide⟩ (oX12_k8 hL) (oX12_n8 hL) ⟨by decide, by decide⟩ hM21 ⟨by decide, by decide⟩ hp) (by decide) rfl rfl rfl (Nat.le_of_ble_eq_true rfl) (by decide) (by decide) (fun v t9 M40 hv => ?_) (fun _ _ _ q => q.elim)
    obtain ⟨rfl, hM40, ht9, hp⟩ := hv
    replace ht9 := ht9.symm
    subst ht9
    dsimp only [Option.toList, List.cons_append, List.nil_append]
    refine xJ_aload_n hX dX12_undo_43 rfl ?_
    refine xJ_getI hX dX12_undo_44 fd_X12_301 rfl (oX12_k hL) ?_
    refine xJ_iret hX hB dX12_undo_47 (by decide) (by decide) ⟨_, rfl, (hM40 _ _), hM40, rfl, hp⟩
  · replace hp := hp.2 c9
    refine xJ_iconst hX dX12_undo_12 ?_
    refine xJ_iret hX hB dX12_undo_13 (by decide) (by decide) ⟨_, rfl, ⟨by decide, by decide⟩, hM2, rfl, hp⟩
def p_X12_checksum_9 (F : Nat) (a : Nat) (Q : Int → xMe → Prop) (K35 : Int → xMe → Prop) : Nat → Int → Int → xMe → Prop
  | 0, _, _, _ => False
  | k + 1, x1, x3, M =>
    ((9 < x3 → K35 x1 M) ∧ (x3 ≤ 9 → ((0 : Int) ≤ x3 ∧ (x3 : Int) < 2105) ∧ (xR (x3 + 1)) ∧ p_X12_checksum_9 F a Q K35 k ((31 * x1) + (M (a + 2) x3.toNat)) (x3 + 1) M))
def p_X12_checksum_50 (F : Nat) (a : Nat) (Q : Int → xMe → Prop) (K78 : Int → Int → xMe → Prop) : Nat → Int → Int → Int → xMe → Prop
  | 0, _, _, _, _ => False
  | k + 1, x1, x3, x4, M =>
    ((6 ≤ x4 → K78 x1 x3 M) ∧ (x4 < 6 → p_X12_toldFlow F a x3 x4 M (fun r66 M66 => (xR (x4 + 1)) ∧ p_X12_checksum_50 F a Q K78 k ((31 * x1) + r66) x3 (x4 + 1) M66)))
def p_X12_checksum_37 (F : Nat) (a : Nat) (Q : Int → xMe → Prop) (K84 : Int → xMe → Prop) : Nat → Int → Int → xMe → Prop
  | 0, _, _, _ => False
  | k + 1, x1, x3, M =>
    ((0 : Int) ≤ 2 ∧ (2 : Int) < 2105) ∧ (((M (a + 2) 2) ≤ x3 → K84 x1 M) ∧ (x3 < (M (a + 2) 2) → p_X12_checksum_50 F a Q (fun y1 y3 M => (xR (y3 + 1)) ∧ p_X12_checksum_37 F a Q K84 k y1 (y3 + 1) M) F x1 x3 0 M))
def p_X12_checksum_99 (F : Nat) (a : Nat) (Q : Int → xMe → Prop) (K127 : Int → Int → xMe → Prop) : Nat → Int → Int → Int → xMe → Prop
  | 0, _, _, _, _ => False
  | k + 1, x1, x3, x4, M =>
    ((7 ≤ x4 → K127 x1 x3 M) ∧ (x4 < 7 → p_X12_toldPacket a x3 x4 M (fun r115 M115 => (xR (x4 + 1)) ∧ p_X12_checksum_99 F a Q K127 k ((31 * x1) + r115) x3 (x4 + 1) M115)))
def p_X12_checksum_86 (F : Nat) (a : Nat) (Q : Int → xMe → Prop) (K133 : Int → xMe → Prop) : Nat → Int → Int → xMe → Prop
  | 0, _, _, _ => False
  | k + 1, x1, x3, M =>
    ((0 : Int) ≤ 3 ∧ (3 : Int) < 2105) ∧ (((M (a + 2) 3) ≤ x3 → K133 x1 M) ∧ (x3 < (M (a + 2) 3) → p_X12_checksum_99 F a Q (fun y1 y3 M => (xR (y3 + 1)) ∧ p_X12_checksum_86 F a Q K133 k y1 (y3 + 1) M) F x1 x3 0 M))
def p_X12_checksum_135 (F : Nat) (a : Nat) (Q : Int → xMe → Prop) (K171 : Int → xMe → Prop) : Nat → Int → Int → xMe → Prop
  | 0, _, _, _ => False
  | k + 1, x1, x3, M =>
    ((0 : Int) ≤ 4 ∧ (4 : Int) < 2105) ∧ (xR (4 * (M (a + 2) 4))) ∧ (((4 * (M (a + 2) 4)) ≤ x3 → K171 x1 M) ∧ (x3 < (4 * (M (a + 2) 4)) → (xR (441 + x3)) ∧ ((0 : Int) ≤ (441 + x3) ∧ ((441 + x3) : Int) < 2105) ∧ (xR (x3 + 1)) ∧ p_X12_checksum_135 F a Q K171 k ((31 * x1) + (M (a + 2) (441 + x3).toNat)) (x3 + 1) M))
def p_X12_checksum_186 (F : Nat) (a : Nat) (Q : Int → xMe → Prop) (K243 : Int → Int → xMe → Prop) : Nat → Int → Int → Int → xMe → Prop
  | 0, _, _, _, _ => False
  | k + 1, x1, x3, x4, M =>
    ((0 : Int) ≤ 2 ∧ (2 : Int) < 2105) ∧ (((M (a + 2) 2) ≤ x4 → K243 x1 x3 M) ∧ (x4 < (M (a + 2) 2) → p_X12_pairAt x3 x4 M (fun r212 M212 => (xR (r212 + 0)) ∧ ((0 : Int) ≤ (r212 + 0) ∧ ((r212 + 0) : Int) < 2105) ∧ p_X12_pairAt x3 x4 M212 (fun r228 M228 => (xR (r228 + 1)) ∧ ((0 : Int) ≤ (r228 + 1) ∧ ((r228 + 1) : Int) < 2105) ∧ (xR (x4 + 1)) ∧ p_X12_checksum_186 F a Q K243 k ((31 * ((31 * x1) + (M212 (a + 2) (r212 + 0).toNat))) + (M228 (a + 2) (r228 + 1).toNat)) x3 (x4 + 1) M228))))
def p_X12_checksum_173 (F : Nat) (a : Nat) (Q : Int → xMe → Prop) : Nat → Int → Int → xMe → Prop
  | 0, _, _, _ => False
  | k + 1, x1, x3, M =>
    ((0 : Int) ≤ 1 ∧ (1 : Int) < 2105) ∧ (((M (a + 2) 1) ≤ x3 → Q x1 M) ∧ (x3 < (M (a + 2) 1) → p_X12_checksum_186 F a Q (fun y1 y3 M => (xR (y3 + 1)) ∧ p_X12_checksum_173 F a Q k y1 (y3 + 1) M) F x1 x3 0 M))
def p_X12_checksum (F : Nat) (a : Nat) (M : xMe) (Q : Int → xMe → Prop) : Prop :=
  (∀ M2 : xMe, M2 = xw M a 0 0 → p_X12_checksum_9 F a Q (fun y1 M => p_X12_checksum_37 F a Q (fun y1 M => p_X12_checksum_86 F a Q (fun y1 M => p_X12_checksum_135 F a Q (fun y1 M => p_X12_checksum_173 F a Q F y1 0 M) F y1 0 M) F y1 0 M) F y1 0 M) F 0 0 M2)
set_option maxHeartbeats 4000000 in
set_option maxRecDepth 100000 in
theorem c_X12_checksum {G : xGx} {t : xTh} {M : xMe} {F : Nat} {a : Nat} {Q : Int → xMe → Prop} (hL : oX12 t a) (hM : xMR M)(hp : p_X12_checksum F a M Q) : xCt G yX12_checksum cX12_checksum 5 (some .long) 3 0 0 [vr a] t M (fun v t' M' => ∃ r, v = some (vl r) ∧ xMR M' ∧ t' = t ∧ Q r M') (fun _ _ _ => False) := by
  refine xCt_of (L0 := [vr a, vU, vU, vU, vU]) (by decide +kernel) (Nat.le_of_ble_eq_true rfl) rfl ?_
  intro X hX hB
  unfold p_X12_checksum at hp
  refine xJ_aload_n hX dX12_checksum_0 rfl ?_
  refine xJ_iconst hX dX12_checksum_1 ?_
  refine xJ_putIM hX dX12_checksum_2 fd_X12_42 ft_X12 rfl rfl rfl rfl (oX12_k hL) hM ⟨by decide, by decide⟩ (fun M2 e2 hM2 => ?_)
  replace hp := hp M2 e2
  refine xJ_lconst hX dX12_checksum_5 ?_
  refine xJ_lstore_n hX dX12_checksum_6 (Nat.le_of_ble_eq_true rfl) rfl ?_
  dsimp only [List.set]
  refine xJ_iconst hX dX12_checksum_7 ?_
  refine xJ_istore_n hX dX12_checksum_8 (Nat.le_of_ble_eq_true rfl) rfl ?_
  dsimp only [List.set]
  have lp9 : ∀ (K35 : Int → xMe → Prop) (hK35 : ∀ (y1 : Int) (M : xMe) (hM : xMR M) (hp : K35 y1 M), xJ X 0 0 t M 35 [vr a, vl y1, vU, vU, vU] []) (k : Nat) (x1 : Int) (x3 : Int) (M : xMe) (hM : xMR M) (hx3 : xR x3) (hp : p_X12_checksum_9 F a Q K35 k x1 x3 M), xJ X 0 0 t M 9 [vr a, vl x1, vU, vi x3, vU] [] := by
    intro K35 hK35 k
    induction k with
    | zero => intro x1 x3 M hM hx3 hp; exact hp.elim
    | succ k ih =>
      intro x1 x3 M hM hx3 hp
      unfold p_X12_checksum_9 at hp
      refine xJ_iload_n hX dX12_checksum_9 rfl ?_
      refine xJ_bipush hX dX12_checksum_10 rfl ?_
      refine xJ_icmp_gt hX dX12_checksum_12 (tgt := 35) (by decide) hx3 ⟨by decide, by decide⟩ (fun c12 => ?_) (fun c12 => ?_)
      · replace hp := hp.1 c12
        refine xJ_fg 3 ?_
        dsimp only [List.set]
        exact hK35 _ _ hM hp
      · replace hp := hp.2 c12
        refine xJ_ldc2 (31) hX dX12_checksum_15 kc_X12_304 ?_
        refine xJ_lload_n hX dX12_checksum_18 rfl ?_
        refine xJ_lmul hX dX12_checksum_19 ?_
        refine xJ_aload_n hX dX12_checksum_20 rfl ?_
        refine xJ_getR (b := (a + 2)) hX dX12_checksum_21 fd_X12_17 rfl (oX12_k hL) (oX12_r8 hL) ?_
        refine xJ_iload_n hX dX12_checksum_24 rfl ?_
        obtain ⟨h25, hp⟩ := hp
        refine xJ_iald hX dX12_checksum_25 (oX12_k8 hL) h25.1 (xnlt (oX12_n8 hL) h25.2) ?_
        refine xJ_i2l hX dX12_checksum_26 (hM _ _) ?_
        refine xJ_ladd hX dX12_checksum_27 ?_
        refine xJ_lstore_n hX dX12_checksum_28 (Nat.le_of_ble_eq_true rfl) rfl ?_
        dsimp only [List.set]
        refine xJ_iinc hX dX12_checksum_29 rfl rfl ?_
        dsimp only [List.set]
        obtain ⟨h29, hp⟩ := hp
        refine xJ_goto hX dX12_checksum_32 (tgt := 9) (by decide) ?_
        exact ih _ _ _ hM h29 hp
  refine lp9 _ (fun y1 M hM hp => ?_) F _ _ _ hM2 ⟨by decide, by decide⟩ hp
  · refine xJ_iconst hX dX12_checksum_35 ?_
    refine xJ_istore_n hX dX12_checksum_36 (Nat.le_of_ble_eq_true rfl) rfl ?_
    dsimp only [List.set]
    have lp37 : ∀ (K84 : Int → xMe → Prop) (hK84 : ∀ (y1 : Int) (M : xMe) (hM : xMR M) (hp : K84 y1 M), xJ X 0 0 t M 84 [vr a, vl y1, vU, vU, vU] []) (k : Nat) (x1 : Int) (x3 : Int) (M : xMe) (hM : xMR M) (hx3 : xR x3) (hp : p_X12_checksum_37 F a Q K84 k x1 x3 M), xJ X 0 0 t M 37 [vr a, vl x1, vU, vi x3, vU] [] := by
      intro K84 hK84 k
      induction k with
      | zero => intro x1 x3 M hM hx3 hp; exact hp.elim
      | succ k ih =>
        intro x1 x3 M hM hx3 hp
        unfold p_X12_checksum_37 at hp
        refine xJ_iload_n hX dX12_checksum_37 rfl ?_
        refine xJ_aload_n hX dX12_checksum_38 rfl ?_
        refine xJ_getR (b := (a + 2)) hX dX12_checksum_39 fd_X12_17 rfl (oX12_k hL) (oX12_r8 hL) ?_
        refine xJ_iconst hX dX12_checksum_42 ?_
        obtain ⟨h43, hp⟩ := hp
        refine xJ_iald hX dX12_checksum_43 (oX12_k8 hL) h43.1 (xnlt (oX12_n8 hL) h43.2) ?_
        refine xJ_icmp_ge hX dX12_checksum_44 (tgt := 84) (by decide) hx3 (hM _ _) (fun c44 => ?_) (fun c44 => ?_)
        · replace hp := hp.1 c44
          refine xJ_fg 3 ?_
          dsimp only [List.set]
          exact hK84 _ _ hM hp
        · replace hp := hp.2 c44
          refine xJ_iconst hX dX12_checksum_47 ?_
          refine xJ_istore hX dX12_checksum_48 (Nat.le_of_ble_eq_true rfl) rfl ?_
          dsimp only [List.set]
          have lp50 : ∀ (K78 : Int → Int → xMe → Prop) (hK78 : ∀ (y1 : Int) (y3 : Int) (M : xMe) (hM : xMR M) (hy3 : xR y3) (hp : K78 y1 y3 M), xJ X 0 0 t M 78 [vr a, vl y1, vU, vi y3, vU] []) (k : Nat) (x1 : Int) (x3 : Int) (x4 : Int) (M : xMe) (hM : xMR M) (hx3 : xR x3) (hx4 : xR x4) (hp : p_X12_checksum_50 F a Q K78 k x1 x3 x4 M), xJ X 0 0 t M 50 [vr a, vl x1, vU, vi x3, vi x4] [] := by
            intro K78 hK78 k
            induction k with
            | zero => intro x1 x3 x4 M hM hx3 hx4 hp; exact hp.elim
            | succ k ih =>
              intro x1 x3 x4 M hM hx3 hx4 hp
              unfold p_X12_checksum_50 at hp
              refine xJ_iload hX dX12_checksum_50 rfl ?_
              refine xJ_bipush hX dX12_checksum_52 rfl ?_
              refine xJ_icmp_ge hX dX12_checksum_54 (tgt := 78) (by decide) hx4 ⟨by decide, by decide⟩ (fun c54 => ?_) (fun c54 => ?_)
              · replace hp := hp.1 c54
                refine xJ_fg 4 ?_
                dsimp only [List.set]
                exact hK78 _ _ _ hM hx3 hp
              · replace hp := hp.2 c54
                refine xJ_ldc2 (31) hX dX12_checksum_57 kc_X12_304 ?_
                refine xJ_lload_n hX dX12_checksum_60 rfl ?_
                refine xJ_lmul hX dX12_checksum_61 ?_
                refine xJ_aload_n hX dX12_checksum_62 rfl ?_
                refine xJ_iload_n hX dX12_checksum_63 rfl ?_
                refine xJ_iload hX dX12_checksum_64 rfl ?_
                refine xJ_callV (As := [_, _]) hX hB dX12_checksum_66 lk_X12_277 im_X12_toldFlow se_X12_toldFlow rfl (by decide) (oX12_k hL) (c_X12_toldFlow hL hM hx3 hx4 hp) (by decide) rfl rfl rfl (Nat.le_of_ble_eq_true rfl) (by decide) (by decide) (fun v t9 M66 hv => ?_) (fun _ _ _ q => q.elim)
                obtain ⟨r66, rfl, h66, hM66, ht9, hp⟩ := hv
                replace ht9 := ht9.symm
                subst ht9
                dsimp only [Option.toList, List.cons_append, List.nil_append]
                refine xJ_i2l hX dX12_checksum_69 h66 ?_
                refine xJ_ladd hX dX12_checksum_70 ?_
                refine xJ_lstore_n hX dX12_checksum_71 (Nat.le_of_ble_eq_true rfl) rfl ?_
                dsimp only [List.set]
                refine xJ_iinc hX dX12_checksum_72 rfl rfl ?_
                dsimp only [List.set]
                obtain ⟨h72, hp⟩ := hp
                refine xJ_goto hX dX12_checksum_75 (tgt := 50) (by decide) ?_
                exact ih _ _ _ _ hM66 hx3 h72 hp
          refine lp50 _ (fun y1 y3 M hM hy3 hp => ?_) F _ _ _ _ hM hx3 ⟨by decide, by decide⟩ hp
          · refine xJ_iinc hX dX12_checksum_78 rfl rfl ?_
            dsimp only [List.set]
            obtain ⟨h78, hp⟩ := hp
            refine xJ_goto hX dX12_checksum_81 (tgt := 37) (by decide) ?_
            exact ih _ _ _ hM h78 hp
    refine lp37 _ (fun y1 M hM hp => ?_) F _ _ _ hM ⟨by decide, by decide⟩ hp
    · refine xJ_iconst hX dX12_checksum_84 ?_
      refine xJ_istore_n hX dX12_checksum_85 (Nat.le_of_ble_eq_true rfl) rfl ?_
      dsimp only [List.set]
      have lp86 : ∀ (K133 : Int → xMe → Prop) (hK133 : ∀ (y1 : Int) (M : xMe) (hM : xMR M) (hp : K133 y1 M), xJ X 0 0 t M 133 [vr a, vl y1, vU, vU, vU] []) (k : Nat) (x1 : Int) (x3 : Int) (M : xMe) (hM : xMR M) (hx3 : xR x3) (hp : p_X12_checksum_86 F a Q K133 k x1 x3 M), xJ X 0 0 t M 86 [vr a, vl x1, vU, vi x3, vU] [] := by
        intro K133 hK133 k
        induction k with
        | zero => intro x1 x3 M hM hx3 hp; exact hp.elim
        | succ k ih =>
          intro x1 x3 M hM hx3 hp
          unfold p_X12_checksum_86 at hp
          refine xJ_iload_n hX dX12_checksum_86 rfl ?_
          refine xJ_aload_n hX dX12_checksum_87 rfl ?_
          refine xJ_getR (b := (a + 2)) hX dX12_checksum_88 fd_X12_17 rfl (oX12_k hL) (oX12_r8 hL) ?_
          refine xJ_iconst hX dX12_checksum_91 ?_
          obtain ⟨h92, hp⟩ := hp
          refine xJ_iald hX dX12_checksum_92 (oX12_k8 hL) h92.1 (xnlt (oX12_n8 hL) h92.2) ?_
          refine xJ_icmp_ge hX dX12_checksum_93 (tgt := 133) (by decide) hx3 (hM _ _) (fun c93 => ?_) (fun c93 => ?_)
          · replace hp := hp.1 c93
            refine xJ_fg 3 ?_
            dsimp only [List.set]
            exact hK133 _ _ hM hp
          · replace hp := hp.2 c93
            refine xJ_iconst hX dX12_checksum_96 ?_
            refine xJ_istore hX dX12_checksum_97 (Nat.le_of_ble_eq_true rfl) rfl ?_
            dsimp only [List.set]
            have lp99 : ∀ (K127 : Int → Int → xMe → Prop) (hK127 : ∀ (y1 : Int) (y3 : Int) (M : xMe) (hM : xMR M) (hy3 : xR y3) (hp : K127 y1 y3 M), xJ X 0 0 t M 127 [vr a, vl y1, vU, vi y3, vU] []) (k : Nat) (x1 : Int) (x3 : Int) (x4 : Int) (M : xMe) (hM : xMR M) (hx3 : xR x3) (hx4 : xR x4) (hp : p_X12_checksum_99 F a Q K127 k x1 x3 x4 M), xJ X 0 0 t M 99 [vr a, vl x1, vU, vi x3, vi x4] [] := by
              intro K127 hK127 k
              induction k with
              | zero => intro x1 x3 x4 M hM hx3 hx4 hp; exact hp.elim
              | succ k ih =>
                intro x1 x3 x4 M hM hx3 hx4 hp
                unfold p_X12_checksum_99 at hp
                refine xJ_iload hX dX12_checksum_99 rfl ?_
                refine xJ_bipush hX dX12_checksum_101 rfl ?_
                refine xJ_icmp_ge hX dX12_checksum_103 (tgt := 127) (by decide) hx4 ⟨by decide, by decide⟩ (fun c103 => ?_) (fun c103 => ?_)
                · replace hp := hp.1 c103
                  refine xJ_fg 4 ?_
                  dsimp only [List.set]
                  exact hK127 _ _ _ hM hx3 hp
                · replace hp := hp.2 c103
                  refine xJ_ldc2 (31) hX dX12_checksum_106 kc_X12_304 ?_
                  refine xJ_lload_n hX dX12_checksum_109 rfl ?_
                  refine xJ_lmul hX dX12_checksum_110 ?_
                  refine xJ_aload_n hX dX12_checksum_111 rfl ?_
                  refine xJ_iload_n hX dX12_checksum_112 rfl ?_
                  refine xJ_iload hX dX12_checksum_113 rfl ?_
                  refine xJ_callV (As := [_, _]) hX hB dX12_checksum_115 lk_X12_283 im_X12_toldPacket se_X12_toldPacket rfl (by decide) (oX12_k hL) (c_X12_toldPacket hL hM hx3 hx4 hp) (by decide) rfl rfl rfl (Nat.le_of_ble_eq_true rfl) (by decide) (by decide) (fun v t9 M115 hv => ?_) (fun _ _ _ q => q.elim)
                  obtain ⟨r115, rfl, h115, hM115, ht9, hp⟩ := hv
                  replace ht9 := ht9.symm
                  subst ht9
                  dsimp only [Option.toList, List.cons_append, List.nil_append]
                  refine xJ_i2l hX dX12_checksum_118 h115 ?_
                  refine xJ_ladd hX dX12_checksum_119 ?_
                  refine xJ_lstore_n hX dX12_checksum_120 (Nat.le_of_ble_eq_true rfl) rfl ?_
                  dsimp only [List.set]
                  refine xJ_iinc hX dX12_checksum_121 rfl rfl ?_
                  dsimp only [List.set]
                  obtain ⟨h121, hp⟩ := hp
                  refine xJ_goto hX dX12_checksum_124 (tgt := 99) (by decide) ?_
                  exact ih _ _ _ _ hM115 hx3 h121 hp
            refine lp99 _ (fun y1 y3 M hM hy3 hp => ?_) F _ _ _ _ hM hx3 ⟨by decide, by decide⟩ hp
            · refine xJ_iinc hX dX12_checksum_127 rfl rfl ?_
              dsimp only [List.set]
              obtain ⟨h127, hp⟩ := hp
              refine xJ_goto hX dX12_checksum_130 (tgt := 86) (by decide) ?_
              exact ih _ _ _ hM h127 hp
      refine lp86 _ (fun y1 M hM hp => ?_) F _ _ _ hM ⟨by decide, by decide⟩ hp
      · refine xJ_iconst hX dX12_checksum_133 ?_
        refine xJ_istore_n hX dX12_checksum_134 (Nat.le_of_ble_eq_true rfl) rfl ?_
        dsimp only [List.set]
        have lp135 : ∀ (K171 : Int → xMe → Prop) (hK171 : ∀ (y1 : Int) (M : xMe) (hM : xMR M) (hp : K171 y1 M), xJ X 0 0 t M 171 [vr a, vl y1, vU, vU, vU] []) (k : Nat) (x1 : Int) (x3 : Int) (M : xMe) (hM : xMR M) (hx3 : xR x3) (hp : p_X12_checksum_135 F a Q K171 k x1 x3 M), xJ X 0 0 t M 135 [vr a, vl x1, vU, vi x3, vU] [] := by
          intro K171 hK171 k
          induction k with
          | zero => intro x1 x3 M hM hx3 hp; exact hp.elim
          | succ k ih =>
            intro x1 x3 M hM hx3 hp
            unfold p_X12_checksum_135 at hp
            refine xJ_iload_n hX dX12_checksum_135 rfl ?_
            refine xJ_iconst hX dX12_checksum_136 ?_
            refine xJ_aload_n hX dX12_checksum_137 rfl ?_
            refine xJ_getR (b := (a + 2)) hX dX12_checksum_138 fd_X12_17 rfl (oX12_k hL) (oX12_r8 hL) ?_
            refine xJ_iconst hX dX12_checksum_141 ?_
            obtain ⟨h142, hp⟩ := hp
            refine xJ_iald hX dX12_checksum_142 (oX12_k8 hL) h142.1 (xnlt (oX12_n8 hL) h142.2) ?_
            refine xJ_imul hX dX12_checksum_143 ?_
            obtain ⟨h143, hp⟩ := hp
            refine xJ_icmp_ge hX dX12_checksum_144 (tgt := 171) (by decide) hx3 h143 (fun c144 => ?_) (fun c144 => ?_)
            · replace hp := hp.1 c144
              refine xJ_fg 3 ?_
              dsimp only [List.set]
              exact hK171 _ _ hM hp
            · replace hp := hp.2 c144
              refine xJ_ldc2 (31) hX dX12_checksum_147 kc_X12_304 ?_
              refine xJ_lload_n hX dX12_checksum_150 rfl ?_
              refine xJ_lmul hX dX12_checksum_151 ?_
              refine xJ_aload_n hX dX12_checksum_152 rfl ?_
              refine xJ_getR (b := (a + 2)) hX dX12_checksum_153 fd_X12_17 rfl (oX12_k hL) (oX12_r8 hL) ?_
              refine xJ_sipush hX dX12_checksum_156 rfl ?_
              refine xJ_iload_n hX dX12_checksum_159 rfl ?_
              refine xJ_iadd hX dX12_checksum_160 ?_
              obtain ⟨h160, hp⟩ := hp
              obtain ⟨h161, hp⟩ := hp
              refine xJ_iald hX dX12_checksum_161 (oX12_k8 hL) h161.1 (xnlt (oX12_n8 hL) h161.2) ?_
              refine xJ_i2l hX dX12_checksum_162 (hM _ _) ?_
              refine xJ_ladd hX dX12_checksum_163 ?_
              refine xJ_lstore_n hX dX12_checksum_164 (Nat.le_of_ble_eq_true rfl) rfl ?_
              dsimp only [List.set]
              refine xJ_iinc hX dX12_checksum_165 rfl rfl ?_
              dsimp only [List.set]
              obtain ⟨h165, hp⟩ := hp
              refine xJ_goto hX dX12_checksum_168 (tgt := 135) (by decide) ?_
              exact ih _ _ _ hM h165 hp
        refine lp135 _ (fun y1 M hM hp => ?_) F _ _ _ hM ⟨by decide, by decide⟩ hp
        · refine xJ_iconst hX dX12_checksum_171 ?_
          refine xJ_istore_n hX dX12_checksum_172 (Nat.le_of_ble_eq_true rfl) rfl ?_
          dsimp only [List.set]
          have lp173 : ∀ (k : Nat) (x1 : Int) (x3 : Int) (M : xMe) (hM : xMR M) (hx3 : xR x3) (hp : p_X12_checksum_173 F a Q k x1 x3 M), xJ X 0 0 t M 173 [vr a, vl x1, vU, vi x3, vU] [] := by
            intro k
            induction k with
            | zero => intro x1 x3 M hM hx3 hp; exact hp.elim
            | succ k ih =>
              intro x1 x3 M hM hx3 hp
              unfold p_X12_checksum_173 at hp
              refine xJ_iload_n hX dX12_checksum_173 rfl ?_
              refine xJ_aload_n hX dX12_checksum_174 rfl ?_
              refine xJ_getR (b := (a + 2)) hX dX12_checksum_175 fd_X12_17 rfl (oX12_k hL) (oX12_r8 hL) ?_
              refine xJ_iconst hX dX12_checksum_178 ?_
              obtain ⟨h179, hp⟩ := hp
              refine xJ_iald hX dX12_checksum_179 (oX12_k8 hL) h179.1 (xnlt (oX12_n8 hL) h179.2) ?_
              refine xJ_icmp_ge hX dX12_checksum_180 (tgt := 249) (by decide) hx3 (hM _ _) (fun c180 => ?_) (fun c180 => ?_)
              · replace hp := hp.1 c180
                refine xJ_lload_n hX dX12_checksum_249 rfl ?_
                refine xJ_lret hX hB dX12_checksum_250 (by decide) (by decide) ⟨_, rfl, hM, rfl, hp⟩
              · replace hp := hp.2 c180
                refine xJ_iconst hX dX12_checksum_183 ?_
                refine xJ_istore hX dX12_checksum_184 (Nat.le_of_ble_eq_true rfl) rfl ?_
                dsimp only [List.set]
                have lp186 : ∀ (K243 : Int → Int → xMe → Prop) (hK243 : ∀ (y1 : Int) (y3 : Int) (M : xMe) (hM : xMR M) (hy3 : xR y3) (hp : K243 y1 y3 M), xJ X 0 0 t M 243 [vr a, vl y1, vU, vi y3, vU] []) (k : Nat) (x1 : Int) (x3 : Int) (x4 : Int) (M : xMe) (hM : xMR M) (hx3 : xR x3) (hx4 : xR x4) (hp : p_X12_checksum_186 F a Q K243 k x1 x3 x4 M), xJ X 0 0 t M 186 [vr a, vl x1, vU, vi x3, vi x4] [] := by
                  intro K243 hK243 k
                  induction k with
                  | zero => intro x1 x3 x4 M hM hx3 hx4 hp; exact hp.elim
                  | succ k ih =>
                    intro x1 x3 x4 M hM hx3 hx4 hp
                    unfold p_X12_checksum_186 at hp
                    refine xJ_iload hX dX12_checksum_186 rfl ?_
                    refine xJ_aload_n hX dX12_checksum_188 rfl ?_
                    refine xJ_getR (b := (a + 2)) hX dX12_checksum_189 fd_X12_17 rfl (oX12_k hL) (oX12_r8 hL) ?_
                    refine xJ_iconst hX dX12_checksum_192 ?_
                    obtain ⟨h193, hp⟩ := hp
                    refine xJ_iald hX dX12_checksum_193 (oX12_k8 hL) h193.1 (xnlt (oX12_n8 hL) h193.2) ?_
                    refine xJ_icmp_ge hX dX12_checksum_194 (tgt := 243) (by decide) hx4 (hM _ _) (fun c194 => ?_) (fun c194 => ?_)
                    · replace hp := hp.1 c194
                      refine xJ_fg 4 ?_
                      dsimp only [List.set]
                      exact hK243 _ _ _ hM hx3 hp
                    · replace hp := hp.2 c194
                      refine xJ_ldc2 (31) hX dX12_checksum_197 kc_X12_304 ?_
                      refine xJ_ldc2 (31) hX dX12_checksum_200 kc_X12_304 ?_
                      refine xJ_lload_n hX dX12_checksum_203 rfl ?_
                      refine xJ_lmul hX dX12_checksum_204 ?_
                      refine xJ_aload_n hX dX12_checksum_205 rfl ?_
                      refine xJ_getR (b := (a + 2)) hX dX12_checksum_206 fd_X12_17 rfl (oX12_k hL) (oX12_r8 hL) ?_
                      refine xJ_iload_n hX dX12_checksum_209 rfl ?_
                      refine xJ_iload hX dX12_checksum_210 rfl ?_
                      refine xJ_callS (As := [_, _]) hX hB dX12_checksum_212 lk_X12_187 sm_X12_pairAt (c_X12_pairAt  hM hx3 hx4 hp) (by decide) rfl rfl rfl (Nat.le_of_ble_eq_true rfl) (by decide) (by decide) (fun v t9 M212 hv => ?_) (fun _ _ _ q => q.elim)
                      obtain ⟨r212, rfl, h212, hM212, ht9, hp⟩ := hv
                      replace ht9 := ht9.symm
                      subst ht9
                      dsimp only [Option.toList, List.cons_append, List.nil_append]
                      refine xJ_iconst hX dX12_checksum_215 ?_
                      refine xJ_iadd hX dX12_checksum_216 ?_
                      obtain ⟨h216, hp⟩ := hp
                      obtain ⟨h217, hp⟩ := hp
                      refine xJ_iald hX dX12_checksum_217 (oX12_k8 hL) h217.1 (xnlt (oX12_n8 hL) h217.2) ?_
                      refine xJ_i2l hX dX12_checksum_218 (hM212 _ _) ?_
                      refine xJ_ladd hX dX12_checksum_219 ?_
                      refine xJ_lmul hX dX12_checksum_220 ?_
                      refine xJ_aload_n hX dX12_checksum_221 rfl ?_
                      refine xJ_getR (b := (a + 2)) hX dX12_checksum_222 fd_X12_17 rfl (oX12_k hL) (oX12_r8 hL) ?_
                      refine xJ_iload_n hX dX12_checksum_225 rfl ?_
                      refine xJ_iload hX dX12_checksum_226 rfl ?_
                      refine xJ_callS (As := [_, _]) hX hB dX12_checksum_228 lk_X12_187 sm_X12_pairAt (c_X12_pairAt  hM212 hx3 hx4 hp) (by decide) rfl rfl rfl (Nat.le_of_ble_eq_true rfl) (by decide) (by decide) (fun v t9 M228 hv => ?_) (fun _ _ _ q => q.elim)
                      obtain ⟨r228, rfl, h228, hM228, ht9, hp⟩ := hv
                      replace ht9 := ht9.symm
                      subst ht9
                      dsimp only [Option.toList, List.cons_append, List.nil_append]
                      refine xJ_iconst hX dX12_checksum_231 ?_
                      refine xJ_iadd hX dX12_checksum_232 ?_
                      obtain ⟨h232, hp⟩ := hp
                      obtain ⟨h233, hp⟩ := hp
                      refine xJ_iald hX dX12_checksum_233 (oX12_k8 hL) h233.1 (xnlt (oX12_n8 hL) h233.2) ?_
                      refine xJ_i2l hX dX12_checksum_234 (hM228 _ _) ?_
                      refine xJ_ladd hX dX12_checksum_235 ?_
                      refine xJ_lstore_n hX dX12_checksum_236 (Nat.le_of_ble_eq_true rfl) rfl ?_
                      dsimp only [List.set]
                      refine xJ_iinc hX dX12_checksum_237 rfl rfl ?_
                      dsimp only [List.set]
                      obtain ⟨h237, hp⟩ := hp
                      refine xJ_goto hX dX12_checksum_240 (tgt := 186) (by decide) ?_
                      exact ih _ _ _ _ hM228 hx3 h237 hp
                refine lp186 _ (fun y1 y3 M hM hy3 hp => ?_) F _ _ _ _ hM hx3 ⟨by decide, by decide⟩ hp
                · refine xJ_iinc hX dX12_checksum_243 rfl rfl ?_
                  dsimp only [List.set]
                  obtain ⟨h243, hp⟩ := hp
                  refine xJ_goto hX dX12_checksum_246 (tgt := 173) (by decide) ?_
                  exact ih _ _ _ hM h243 hp
          refine lp173 F _ _ _ hM ⟨by decide, by decide⟩ hp
