def p_X0_countOf_4 (F : Nat) (a : Nat) (Q : Int → xMe → Prop) : Nat → Int → Int → Int → xMe → Prop
  | 0, _, _, _, _ => False
  | k + 1, x1, x2, x3, M =>
    (((M a 4) ≤ x3 → Q x2 M) ∧ (x3 < (M a 4) → ((0 : Int) ≤ x3 ∧ (x3 : Int) < 30) ∧ (((M (a + 1) x3.toNat) ≠ x1 → (xR (x3 + 1)) ∧ p_X0_countOf_4 F a Q k x1 x2 (x3 + 1) M) ∧ ((M (a + 1) x3.toNat) = x1 → (xR (x2 + 1)) ∧ (xR (x3 + 1)) ∧ p_X0_countOf_4 F a Q k x1 (x2 + 1) (x3 + 1) M))))
def p_X0_countOf (F : Nat) (a : Nat) (x1 : Int) (M : xMe) (Q : Int → xMe → Prop) : Prop :=
  p_X0_countOf_4 F a Q F x1 0 0 M
set_option maxHeartbeats 4000000 in
set_option maxRecDepth 100000 in
theorem c_X0_countOf {G : xGx} {t : xTh} {M : xMe} {F : Nat} {a : Nat} {x1 : Int} {Q : Int → xMe → Prop} (hL : oX0 t a) (hM : xMR M) (hx1 : xR x1) (hp : p_X0_countOf F a x1 M Q) : xCt G yX0_countOf cX0_countOf 4 (some .int) 0 0 0 [vr a, vi x1] t M (fun v t' M' => ∃ r, v = some (vi r) ∧ xR r ∧ xMR M' ∧ t' = t ∧ Q r M') (fun _ _ _ => False) := by
  refine xCt_of (L0 := [vr a, vi x1, vU, vU]) (by decide +kernel) (Nat.le_of_ble_eq_true rfl) rfl ?_
  intro X hX hB
  unfold p_X0_countOf at hp
  refine xJ_iconst hX dX0_countOf_0 ?_
  refine xJ_istore_n hX dX0_countOf_1 (Nat.le_of_ble_eq_true rfl) rfl ?_
  dsimp only [List.set]
  refine xJ_iconst hX dX0_countOf_2 ?_
  refine xJ_istore_n hX dX0_countOf_3 (Nat.le_of_ble_eq_true rfl) rfl ?_
  dsimp only [List.set]
  have lp4 : ∀ (k : Nat) (x1 : Int) (x2 : Int) (x3 : Int) (M : xMe) (hM : xMR M) (hx1 : xR x1) (hx2 : xR x2) (hx3 : xR x3) (hp : p_X0_countOf_4 F a Q k x1 x2 x3 M), xJ X 0 0 t M 4 [vr a, vi x1, vi x2, vi x3] [] := by
    intro k
    induction k with
    | zero => intro x1 x2 x3 M hM hx1 hx2 hx3 hp; exact hp.elim
    | succ k ih =>
      intro x1 x2 x3 M hM hx1 hx2 hx3 hp
      unfold p_X0_countOf_4 at hp
      refine xJ_iload_n hX dX0_countOf_4 rfl ?_
      refine xJ_aload_n hX dX0_countOf_5 rfl ?_
      refine xJ_getI hX dX0_countOf_6 fd_X0_24 rfl (oX0_k hL) ?_
      refine xJ_icmp_ge hX dX0_countOf_9 (tgt := 31) (by decide) hx3 (hM _ _) (fun c9 => ?_) (fun c9 => ?_)
      · replace hp := hp.1 c9
        refine xJ_iload_n hX dX0_countOf_31 rfl ?_
        refine xJ_iret hX hB dX0_countOf_32 (by decide) (by decide) ⟨_, rfl, hx2, hM, rfl, hp⟩
      · replace hp := hp.2 c9
        refine xJ_aload_n hX dX0_countOf_12 rfl ?_
        refine xJ_getR (b := (a + 1)) hX dX0_countOf_13 fd_X0_9 rfl (oX0_k hL) (oX0_r0 hL) ?_
        refine xJ_iload_n hX dX0_countOf_16 rfl ?_
        obtain ⟨h17, hp⟩ := hp
        refine xJ_iald hX dX0_countOf_17 (oX0_k0 hL) h17.1 (xnlt (oX0_n0 hL) h17.2) ?_
        refine xJ_iload_n hX dX0_countOf_18 rfl ?_
        refine xJ_icmp_ne hX dX0_countOf_19 (tgt := 25) (by decide) (hM _ _) hx1 (fun c19 => ?_) (fun c19 => ?_)
        · replace hp := hp.1 c19
          refine xJ_iinc hX dX0_countOf_25 rfl rfl ?_
          dsimp only [List.set]
          obtain ⟨h25, hp⟩ := hp
          refine xJ_goto hX dX0_countOf_28 (tgt := 4) (by decide) ?_
          exact ih _ _ _ _ hM hx1 hx2 h25 hp
        · replace hp := hp.2 c19
          refine xJ_iinc hX dX0_countOf_22 rfl rfl ?_
          dsimp only [List.set]
          obtain ⟨h22, hp⟩ := hp
          refine xJ_iinc hX dX0_countOf_25 rfl rfl ?_
          dsimp only [List.set]
          obtain ⟨h25, hp⟩ := hp
          refine xJ_goto hX dX0_countOf_28 (tgt := 4) (by decide) ?_
          exact ih _ _ _ _ hM hx1 h22 h25 hp
  refine lp4 F _ _ _ _ hM hx1 ⟨by decide, by decide⟩ ⟨by decide, by decide⟩ hp
def p_X0_sumOf_4 (F : Nat) (a : Nat) (Q : Int → xMe → Prop) : Nat → Int → Int → Int → xMe → Prop
  | 0, _, _, _, _ => False
  | k + 1, x1, x2, x3, M =>
    (((M a 4) ≤ x3 → Q x2 M) ∧ (x3 < (M a 4) → ((0 : Int) ≤ x3 ∧ (x3 : Int) < 30) ∧ (((M (a + 1) x3.toNat) ≠ x1 → (xR (x3 + 1)) ∧ p_X0_sumOf_4 F a Q k x1 x2 (x3 + 1) M) ∧ ((M (a + 1) x3.toNat) = x1 → ((0 : Int) ≤ x3 ∧ (x3 : Int) < 30) ∧ (xR (x2 + (M (a + 2) x3.toNat))) ∧ (∀ z30 : Int, z30 = x2 + (M (a + 2) x3.toNat) → (xR (x3 + 1)) ∧ p_X0_sumOf_4 F a Q k x1 z30 (x3 + 1) M)))))
def p_X0_sumOf (F : Nat) (a : Nat) (x1 : Int) (M : xMe) (Q : Int → xMe → Prop) : Prop :=
  p_X0_sumOf_4 F a Q F x1 0 0 M
set_option maxHeartbeats 4000000 in
set_option maxRecDepth 100000 in
theorem c_X0_sumOf {G : xGx} {t : xTh} {M : xMe} {F : Nat} {a : Nat} {x1 : Int} {Q : Int → xMe → Prop} (hL : oX0 t a) (hM : xMR M) (hx1 : xR x1) (hp : p_X0_sumOf F a x1 M Q) : xCt G yX0_sumOf cX0_sumOf 4 (some .int) 0 0 0 [vr a, vi x1] t M (fun v t' M' => ∃ r, v = some (vi r) ∧ xR r ∧ xMR M' ∧ t' = t ∧ Q r M') (fun _ _ _ => False) := by
  refine xCt_of (L0 := [vr a, vi x1, vU, vU]) (by decide +kernel) (Nat.le_of_ble_eq_true rfl) rfl ?_
  intro X hX hB
  unfold p_X0_sumOf at hp
  refine xJ_iconst hX dX0_sumOf_0 ?_
  refine xJ_istore_n hX dX0_sumOf_1 (Nat.le_of_ble_eq_true rfl) rfl ?_
  dsimp only [List.set]
  refine xJ_iconst hX dX0_sumOf_2 ?_
  refine xJ_istore_n hX dX0_sumOf_3 (Nat.le_of_ble_eq_true rfl) rfl ?_
  dsimp only [List.set]
  have lp4 : ∀ (k : Nat) (x1 : Int) (x2 : Int) (x3 : Int) (M : xMe) (hM : xMR M) (hx1 : xR x1) (hx2 : xR x2) (hx3 : xR x3) (hp : p_X0_sumOf_4 F a Q k x1 x2 x3 M), xJ X 0 0 t M 4 [vr a, vi x1, vi x2, vi x3] [] := by
    intro k
    induction k with
    | zero => intro x1 x2 x3 M hM hx1 hx2 hx3 hp; exact hp.elim
    | succ k ih =>
      intro x1 x2 x3 M hM hx1 hx2 hx3 hp
      unfold p_X0_sumOf_4 at hp
      refine xJ_iload_n hX dX0_sumOf_4 rfl ?_
      refine xJ_aload_n hX dX0_sumOf_5 rfl ?_
      refine xJ_getI hX dX0_sumOf_6 fd_X0_24 rfl (oX0_k hL) ?_
      refine xJ_icmp_ge hX dX0_sumOf_9 (tgt := 37) (by decide) hx3 (hM _ _) (fun c9 => ?_) (fun c9 => ?_)
      · replace hp := hp.1 c9
        refine xJ_iload_n hX dX0_sumOf_37 rfl ?_
        refine xJ_iret hX hB dX0_sumOf_38 (by decide) (by decide) ⟨_, rfl, hx2, hM, rfl, hp⟩
      · replace hp := hp.2 c9
        refine xJ_aload_n hX dX0_sumOf_12 rfl ?_
        refine xJ_getR (b := (a + 1)) hX dX0_sumOf_13 fd_X0_9 rfl (oX0_k hL) (oX0_r0 hL) ?_
        refine xJ_iload_n hX dX0_sumOf_16 rfl ?_
        obtain ⟨h17, hp⟩ := hp
        refine xJ_iald hX dX0_sumOf_17 (oX0_k0 hL) h17.1 (xnlt (oX0_n0 hL) h17.2) ?_
        refine xJ_iload_n hX dX0_sumOf_18 rfl ?_
        refine xJ_icmp_ne hX dX0_sumOf_19 (tgt := 31) (by decide) (hM _ _) hx1 (fun c19 => ?_) (fun c19 => ?_)
        · replace hp := hp.1 c19
          refine xJ_iinc hX dX0_sumOf_31 rfl rfl ?_
          dsimp only [List.set]
          obtain ⟨h31, hp⟩ := hp
          refine xJ_goto hX dX0_sumOf_34 (tgt := 4) (by decide) ?_
          exact ih _ _ _ _ hM hx1 hx2 h31 hp
        · replace hp := hp.2 c19
          refine xJ_iload_n hX dX0_sumOf_22 rfl ?_
          refine xJ_aload_n hX dX0_sumOf_23 rfl ?_
          refine xJ_getR (b := (a + 2)) hX dX0_sumOf_24 fd_X0_15 rfl (oX0_k hL) (oX0_r1 hL) ?_
          refine xJ_iload_n hX dX0_sumOf_27 rfl ?_
          obtain ⟨h28, hp⟩ := hp
          refine xJ_iald hX dX0_sumOf_28 (oX0_k1 hL) h28.1 (xnlt (oX0_n1 hL) h28.2) ?_
          refine xJ_iadd hX dX0_sumOf_29 ?_
          obtain ⟨h29, hp⟩ := hp
          refine xJ_istore_n hX dX0_sumOf_30 (Nat.le_of_ble_eq_true rfl) rfl ?_
          dsimp only [List.set]
          replace hp := hp _ rfl
          refine xJ_iinc hX dX0_sumOf_31 rfl rfl ?_
          dsimp only [List.set]
          obtain ⟨h31, hp⟩ := hp
          refine xJ_goto hX dX0_sumOf_34 (tgt := 4) (by decide) ?_
          exact ih _ _ _ _ hM hx1 h29 h31 hp
  refine lp4 F _ _ _ _ hM hx1 ⟨by decide, by decide⟩ ⟨by decide, by decide⟩ hp
def p_X0_add (a : Nat) (x1 : Int) (x2 : Int) (x3 : Int) (M : xMe) (Q : xMe → Prop) : Prop :=
  (((M a 4) < 0 → Q M) ∧ (0 ≤ (M a 4) → (((M a 4) < 30 → ((0 : Int) ≤ (M a 4) ∧ ((M a 4) : Int) < 30) ∧ (∀ M26 : xMe, M26 = xw M (a + 1) (M a 4).toNat x1 → ((0 : Int) ≤ (M26 a 4) ∧ ((M26 a 4) : Int) < 30) ∧ (∀ M36 : xMe, M36 = xw M26 (a + 2) (M26 a 4).toNat x2 → ((0 : Int) ≤ (M36 a 4) ∧ ((M36 a 4) : Int) < 30) ∧ (∀ M46 : xMe, M46 = xw M36 (a + 3) (M36 a 4).toNat x3 → ((0 : Int) ≤ (M46 a 4) ∧ ((M46 a 4) : Int) < 30) ∧ (∀ M56 : xMe, M56 = xw M46 (a + 4) (M46 a 4).toNat 0 → (xR ((M56 a 4) + 1)) ∧ (∀ M64 : xMe, M64 = xw M56 a 4 ((M56 a 4) + 1) → Q M64)))))) ∧ (30 ≤ (M a 4) → Q M))))
set_option maxHeartbeats 4000000 in
set_option maxRecDepth 100000 in
theorem c_X0_add {G : xGx} {t : xTh} {M : xMe} {a : Nat} {x1 : Int} {x2 : Int} {x3 : Int} {Q : xMe → Prop} (hL : oX0 t a) (hM : xMR M) (hx1 : xR x1) (hx2 : xR x2) (hx3 : xR x3) (hp : p_X0_add a x1 x2 x3 M Q) : xCt G yX0_add cX0_add 4 none 0 0 0 [vr a, vi x1, vi x2, vi x3] t M (fun v t' M' => v = none ∧ xMR M' ∧ t' = t ∧ Q M') (fun _ _ _ => False) := by
  refine xCt_of (L0 := [vr a, vi x1, vi x2, vi x3]) (by decide +kernel) (Nat.le_of_ble_eq_true rfl) rfl ?_
  intro X hX hB
  unfold p_X0_add at hp
  refine xJ_aload_n hX dX0_add_0 rfl ?_
  refine xJ_getI hX dX0_add_1 fd_X0_24 rfl (oX0_k hL) ?_
  refine xJ_if_lt hX dX0_add_4 (tgt := 16) (by decide) (hM _ _) (fun c4 => ?_) (fun c4 => ?_)
  · replace hp := hp.1 c4
    refine xJ_vret hX hB dX0_add_16 (by decide) (by decide) ⟨rfl, hM, rfl, hp⟩
  · replace hp := hp.2 c4
    refine xJ_aload_n hX dX0_add_7 rfl ?_
    refine xJ_getI hX dX0_add_8 fd_X0_24 rfl (oX0_k hL) ?_
    refine xJ_bipush hX dX0_add_11 rfl ?_
    refine xJ_icmp_lt hX dX0_add_13 (tgt := 17) (by decide) (hM _ _) ⟨by decide, by decide⟩ (fun c13 => ?_) (fun c13 => ?_)
    · replace hp := hp.1 c13
      refine xJ_aload_n hX dX0_add_17 rfl ?_
      refine xJ_getR (b := (a + 1)) hX dX0_add_18 fd_X0_9 rfl (oX0_k hL) (oX0_r0 hL) ?_
      refine xJ_aload_n hX dX0_add_21 rfl ?_
      refine xJ_getI hX dX0_add_22 fd_X0_24 rfl (oX0_k hL) ?_
      refine xJ_iload_n hX dX0_add_25 rfl ?_
      obtain ⟨h26, hp⟩ := hp
      refine xJ_iastM hX dX0_add_26 (oX0_k0 hL) h26.1 (xnlt (oX0_n0 hL) h26.2) hM hx1 (fun M26 e26 hM26 => ?_)
      replace hp := hp M26 e26
      refine xJ_aload_n hX dX0_add_27 rfl ?_
      refine xJ_getR (b := (a + 2)) hX dX0_add_28 fd_X0_15 rfl (oX0_k hL) (oX0_r1 hL) ?_
      refine xJ_aload_n hX dX0_add_31 rfl ?_
      refine xJ_getI hX dX0_add_32 fd_X0_24 rfl (oX0_k hL) ?_
      refine xJ_iload_n hX dX0_add_35 rfl ?_
      obtain ⟨h36, hp⟩ := hp
      refine xJ_iastM hX dX0_add_36 (oX0_k1 hL) h36.1 (xnlt (oX0_n1 hL) h36.2) hM26 hx2 (fun M36 e36 hM36 => ?_)
      replace hp := hp M36 e36
      refine xJ_aload_n hX dX0_add_37 rfl ?_
      refine xJ_getR (b := (a + 3)) hX dX0_add_38 fd_X0_18 rfl (oX0_k hL) (oX0_r2 hL) ?_
      refine xJ_aload_n hX dX0_add_41 rfl ?_
      refine xJ_getI hX dX0_add_42 fd_X0_24 rfl (oX0_k hL) ?_
      refine xJ_iload_n hX dX0_add_45 rfl ?_
      obtain ⟨h46, hp⟩ := hp
      refine xJ_iastM hX dX0_add_46 (oX0_k2 hL) h46.1 (xnlt (oX0_n2 hL) h46.2) hM36 hx3 (fun M46 e46 hM46 => ?_)
      replace hp := hp M46 e46
      refine xJ_aload_n hX dX0_add_47 rfl ?_
      refine xJ_getR (b := (a + 4)) hX dX0_add_48 fd_X0_21 rfl (oX0_k hL) (oX0_r3 hL) ?_
      refine xJ_aload_n hX dX0_add_51 rfl ?_
      refine xJ_getI hX dX0_add_52 fd_X0_24 rfl (oX0_k hL) ?_
      refine xJ_iconst hX dX0_add_55 ?_
      obtain ⟨h56, hp⟩ := hp
      refine xJ_iastM hX dX0_add_56 (oX0_k3 hL) h56.1 (xnlt (oX0_n3 hL) h56.2) hM46 ⟨by decide, by decide⟩ (fun M56 e56 hM56 => ?_)
      replace hp := hp M56 e56
      refine xJ_aload_n hX dX0_add_57 rfl ?_
      refine xJ_dup hX dX0_add_58 rfl ?_
      refine xJ_getI hX dX0_add_59 fd_X0_24 rfl (oX0_k hL) ?_
      refine xJ_iconst hX dX0_add_62 ?_
      refine xJ_iadd hX dX0_add_63 ?_
      obtain ⟨h63, hp⟩ := hp
      refine xJ_putIM hX dX0_add_64 fd_X0_24 ft_X0 rfl rfl rfl rfl (oX0_k hL) hM56 h63 (fun M64 e64 hM64 => ?_)
      replace hp := hp M64 e64
      refine xJ_vret hX hB dX0_add_67 (by decide) (by decide) ⟨rfl, hM64, rfl, hp⟩
    · replace hp := hp.2 c13
      refine xJ_vret hX hB dX0_add_16 (by decide) (by decide) ⟨rfl, hM, rfl, hp⟩
def p_X0_removeAt_15 (F : Nat) (a : Nat) (Q : xMe → Prop) : Nat → Int → xMe → Prop
  | 0, _, _ => False
  | k + 1, x2, M =>
    (xR (x2 + 1)) ∧ (((M a 4) ≤ (x2 + 1) → (xR ((M a 4) - 1)) ∧ (∀ M94 : xMe, M94 = xw M a 4 ((M a 4) - 1) → Q M94)) ∧ ((x2 + 1) < (M a 4) → (xR (x2 + 1)) ∧ ((0 : Int) ≤ (x2 + 1) ∧ ((x2 + 1) : Int) < 30) ∧ ((0 : Int) ≤ x2 ∧ (x2 : Int) < 30) ∧ (∀ M38 : xMe, M38 = xw M (a + 1) x2.toNat (M (a + 1) (x2 + 1).toNat) → (xR (x2 + 1)) ∧ ((0 : Int) ≤ (x2 + 1) ∧ ((x2 + 1) : Int) < 30) ∧ ((0 : Int) ≤ x2 ∧ (x2 : Int) < 30) ∧ (∀ M52 : xMe, M52 = xw M38 (a + 2) x2.toNat (M38 (a + 2) (x2 + 1).toNat) → (xR (x2 + 1)) ∧ ((0 : Int) ≤ (x2 + 1) ∧ ((x2 + 1) : Int) < 30) ∧ ((0 : Int) ≤ x2 ∧ (x2 : Int) < 30) ∧ (∀ M66 : xMe, M66 = xw M52 (a + 3) x2.toNat (M52 (a + 3) (x2 + 1).toNat) → (xR (x2 + 1)) ∧ ((0 : Int) ≤ (x2 + 1) ∧ ((x2 + 1) : Int) < 30) ∧ ((0 : Int) ≤ x2 ∧ (x2 : Int) < 30) ∧ (∀ M80 : xMe, M80 = xw M66 (a + 4) x2.toNat (M66 (a + 4) (x2 + 1).toNat) → (xR (x2 + 1)) ∧ p_X0_removeAt_15 F a Q k (x2 + 1) M80))))))
def p_X0_removeAt (F : Nat) (a : Nat) (x1 : Int) (M : xMe) (Q : xMe → Prop) : Prop :=
  ((x1 < 0 → Q M) ∧ (0 ≤ x1 → ((x1 < (M a 4) → p_X0_removeAt_15 F a Q F x1 M) ∧ ((M a 4) ≤ x1 → Q M))))
set_option maxHeartbeats 4000000 in
set_option maxRecDepth 100000 in
theorem c_X0_removeAt {G : xGx} {t : xTh} {M : xMe} {F : Nat} {a : Nat} {x1 : Int} {Q : xMe → Prop} (hL : oX0 t a) (hM : xMR M) (hx1 : xR x1) (hp : p_X0_removeAt F a x1 M Q) : xCt G yX0_removeAt cX0_removeAt 3 none 0 0 0 [vr a, vi x1] t M (fun v t' M' => v = none ∧ xMR M' ∧ t' = t ∧ Q M') (fun _ _ _ => False) := by
  refine xCt_of (L0 := [vr a, vi x1, vU]) (by decide +kernel) (Nat.le_of_ble_eq_true rfl) rfl ?_
  intro X hX hB
  unfold p_X0_removeAt at hp
  refine xJ_iload_n hX dX0_removeAt_0 rfl ?_
  refine xJ_if_lt hX dX0_removeAt_1 (tgt := 12) (by decide) hx1 (fun c1 => ?_) (fun c1 => ?_)
  · replace hp := hp.1 c1
    refine xJ_vret hX hB dX0_removeAt_12 (by decide) (by decide) ⟨rfl, hM, rfl, hp⟩
  · replace hp := hp.2 c1
    refine xJ_iload_n hX dX0_removeAt_4 rfl ?_
    refine xJ_aload_n hX dX0_removeAt_5 rfl ?_
    refine xJ_getI hX dX0_removeAt_6 fd_X0_24 rfl (oX0_k hL) ?_
    refine xJ_icmp_lt hX dX0_removeAt_9 (tgt := 13) (by decide) hx1 (hM _ _) (fun c9 => ?_) (fun c9 => ?_)
    · replace hp := hp.1 c9
      refine xJ_iload_n hX dX0_removeAt_13 rfl ?_
      refine xJ_istore_n hX dX0_removeAt_14 (Nat.le_of_ble_eq_true rfl) rfl ?_
      dsimp only [List.set]
      refine xJ_fg 1 ?_
      dsimp only [List.set]
      have lp15 : ∀ (k : Nat) (x2 : Int) (M : xMe) (hM : xMR M) (hx2 : xR x2) (hp : p_X0_removeAt_15 F a Q k x2 M), xJ X 0 0 t M 15 [vr a, vU, vi x2] [] := by
        intro k
        induction k with
        | zero => intro x2 M hM hx2 hp; exact hp.elim
        | succ k ih =>
          intro x2 M hM hx2 hp
          unfold p_X0_removeAt_15 at hp
          refine xJ_iload_n hX dX0_removeAt_15 rfl ?_
          refine xJ_iconst hX dX0_removeAt_16 ?_
          refine xJ_iadd hX dX0_removeAt_17 ?_
          obtain ⟨h17, hp⟩ := hp
          refine xJ_aload_n hX dX0_removeAt_18 rfl ?_
          refine xJ_getI hX dX0_removeAt_19 fd_X0_24 rfl (oX0_k hL) ?_
          refine xJ_icmp_ge hX dX0_removeAt_22 (tgt := 87) (by decide) h17 (hM _ _) (fun c22 => ?_) (fun c22 => ?_)
          · replace hp := hp.1 c22
            refine xJ_aload_n hX dX0_removeAt_87 rfl ?_
            refine xJ_dup hX dX0_removeAt_88 rfl ?_
            refine xJ_getI hX dX0_removeAt_89 fd_X0_24 rfl (oX0_k hL) ?_
            refine xJ_iconst hX dX0_removeAt_92 ?_
            refine xJ_isub hX dX0_removeAt_93 ?_
            obtain ⟨h93, hp⟩ := hp
            refine xJ_putIM hX dX0_removeAt_94 fd_X0_24 ft_X0 rfl rfl rfl rfl (oX0_k hL) hM h93 (fun M94 e94 hM94 => ?_)
            replace hp := hp M94 e94
            refine xJ_vret hX hB dX0_removeAt_97 (by decide) (by decide) ⟨rfl, hM94, rfl, hp⟩
          · replace hp := hp.2 c22
            refine xJ_aload_n hX dX0_removeAt_25 rfl ?_
            refine xJ_getR (b := (a + 1)) hX dX0_removeAt_26 fd_X0_9 rfl (oX0_k hL) (oX0_r0 hL) ?_
            refine xJ_iload_n hX dX0_removeAt_29 rfl ?_
            refine xJ_aload_n hX dX0_removeAt_30 rfl ?_
            refine xJ_getR (b := (a + 1)) hX dX0_removeAt_31 fd_X0_9 rfl (oX0_k hL) (oX0_r0 hL) ?_
            refine xJ_iload_n hX dX0_removeAt_34 rfl ?_
            refine xJ_iconst hX dX0_removeAt_35 ?_
            refine xJ_iadd hX dX0_removeAt_36 ?_
            obtain ⟨h36, hp⟩ := hp
            obtain ⟨h37, hp⟩ := hp
            refine xJ_iald hX dX0_removeAt_37 (oX0_k0 hL) h37.1 (xnlt (oX0_n0 hL) h37.2) ?_
            obtain ⟨h38, hp⟩ := hp
            refine xJ_iastM hX dX0_removeAt_38 (oX0_k0 hL) h38.1 (xnlt (oX0_n0 hL) h38.2) hM (hM _ _) (fun M38 e38 hM38 => ?_)
            replace hp := hp M38 e38
            refine xJ_aload_n hX dX0_removeAt_39 rfl ?_
            refine xJ_getR (b := (a + 2)) hX dX0_removeAt_40 fd_X0_15 rfl (oX0_k hL) (oX0_r1 hL) ?_
            refine xJ_iload_n hX dX0_removeAt_43 rfl ?_
            refine xJ_aload_n hX dX0_removeAt_44 rfl ?_
            refine xJ_getR (b := (a + 2)) hX dX0_removeAt_45 fd_X0_15 rfl (oX0_k hL) (oX0_r1 hL) ?_
            refine xJ_iload_n hX dX0_removeAt_48 rfl ?_
            refine xJ_iconst hX dX0_removeAt_49 ?_
            refine xJ_iadd hX dX0_removeAt_50 ?_
            obtain ⟨h50, hp⟩ := hp
            obtain ⟨h51, hp⟩ := hp
            refine xJ_iald hX dX0_removeAt_51 (oX0_k1 hL) h51.1 (xnlt (oX0_n1 hL) h51.2) ?_
            obtain ⟨h52, hp⟩ := hp
            refine xJ_iastM hX dX0_removeAt_52 (oX0_k1 hL) h52.1 (xnlt (oX0_n1 hL) h52.2) hM38 (hM38 _ _) (fun M52 e52 hM52 => ?_)
            replace hp := hp M52 e52
            refine xJ_aload_n hX dX0_removeAt_53 rfl ?_
            refine xJ_getR (b := (a + 3)) hX dX0_removeAt_54 fd_X0_18 rfl (oX0_k hL) (oX0_r2 hL) ?_
            refine xJ_iload_n hX dX0_removeAt_57 rfl ?_
            refine xJ_aload_n hX dX0_removeAt_58 rfl ?_
            refine xJ_getR (b := (a + 3)) hX dX0_removeAt_59 fd_X0_18 rfl (oX0_k hL) (oX0_r2 hL) ?_
            refine xJ_iload_n hX dX0_removeAt_62 rfl ?_
            refine xJ_iconst hX dX0_removeAt_63 ?_
            refine xJ_iadd hX dX0_removeAt_64 ?_
            obtain ⟨h64, hp⟩ := hp
            obtain ⟨h65, hp⟩ := hp
            refine xJ_iald hX dX0_removeAt_65 (oX0_k2 hL) h65.1 (xnlt (oX0_n2 hL) h65.2) ?_
            obtain ⟨h66, hp⟩ := hp
            refine xJ_iastM hX dX0_removeAt_66 (oX0_k2 hL) h66.1 (xnlt (oX0_n2 hL) h66.2) hM52 (hM52 _ _) (fun M66 e66 hM66 => ?_)
            replace hp := hp M66 e66
            refine xJ_aload_n hX dX0_removeAt_67 rfl ?_
            refine xJ_getR (b := (a + 4)) hX dX0_removeAt_68 fd_X0_21 rfl (oX0_k hL) (oX0_r3 hL) ?_
            refine xJ_iload_n hX dX0_removeAt_71 rfl ?_
            refine xJ_aload_n hX dX0_removeAt_72 rfl ?_
            refine xJ_getR (b := (a + 4)) hX dX0_removeAt_73 fd_X0_21 rfl (oX0_k hL) (oX0_r3 hL) ?_
            refine xJ_iload_n hX dX0_removeAt_76 rfl ?_
            refine xJ_iconst hX dX0_removeAt_77 ?_
            refine xJ_iadd hX dX0_removeAt_78 ?_
            obtain ⟨h78, hp⟩ := hp
            obtain ⟨h79, hp⟩ := hp
            refine xJ_iald hX dX0_removeAt_79 (oX0_k3 hL) h79.1 (xnlt (oX0_n3 hL) h79.2) ?_
            obtain ⟨h80, hp⟩ := hp
            refine xJ_iastM hX dX0_removeAt_80 (oX0_k3 hL) h80.1 (xnlt (oX0_n3 hL) h80.2) hM66 (hM66 _ _) (fun M80 e80 hM80 => ?_)
            replace hp := hp M80 e80
            refine xJ_iinc hX dX0_removeAt_81 rfl rfl ?_
            dsimp only [List.set]
            obtain ⟨h81, hp⟩ := hp
            refine xJ_goto hX dX0_removeAt_84 (tgt := 15) (by decide) ?_
            exact ih _ _ hM80 h81 hp
      refine lp15 F _ _ hM hx1 hp
    · replace hp := hp.2 c9
      refine xJ_vret hX hB dX0_removeAt_12 (by decide) (by decide) ⟨rfl, hM, rfl, hp⟩
def p_X0_removeEnding_12 (F : Nat) (a : Nat) (Q : Int → xMe → Prop) : Nat → Int → Int → Int → xMe → Prop
  | 0, _, _, _, _ => False
  | k + 1, x1, x2, x3, M =>
    ((x3 < 0 → (xR (x2 - (M a 4))) ∧ Q (x2 - (M a 4)) M) ∧ (0 ≤ x3 → ((0 : Int) ≤ x3 ∧ (x3 : Int) < 30) ∧ (((M (a + 3) x3.toNat) ≠ x1 → (xR (x3 + (-1))) ∧ p_X0_removeEnding_12 F a Q k x1 x2 (x3 + (-1)) M) ∧ ((M (a + 3) x3.toNat) = x1 → p_X0_removeAt F a x3 M (fun M28 => (xR (x3 + (-1))) ∧ p_X0_removeEnding_12 F a Q k x1 x2 (x3 + (-1)) M28)))))
def p_X0_removeEnding (F : Nat) (a : Nat) (x1 : Int) (M : xMe) (Q : Int → xMe → Prop) : Prop :=
  (∀ z4 : Int, z4 = M a 4 → (xR ((M a 4) - 1)) ∧ (∀ z11 : Int, z11 = (M a 4) - 1 → p_X0_removeEnding_12 F a Q F x1 z4 z11 M))
set_option maxHeartbeats 4000000 in
set_option maxRecDepth 100000 in
theorem c_X0_removeEnding {G : xGx} {t : xTh} {M : xMe} {F : Nat} {a : Nat} {x1 : Int} {Q : Int → xMe → Prop} (hL : oX0 t a) (hM : xMR M) (hx1 : xR x1) (hp : p_X0_removeEnding F a x1 M Q) : xCt G yX0_removeEnding cX0_removeEnding 4 (some .int) 1 0 0 [vr a, vi x1] t M (fun v t' M' => ∃ r, v = some (vi r) ∧ xR r ∧ xMR M' ∧ t' = t ∧ Q r M') (fun _ _ _ => False) := by
  refine xCt_of (L0 := [vr a, vi x1, vU, vU]) (by decide +kernel) (Nat.le_of_ble_eq_true rfl) rfl ?_
  intro X hX hB
  unfold p_X0_removeEnding at hp
  refine xJ_aload_n hX dX0_removeEnding_0 rfl ?_
  refine xJ_getI hX dX0_removeEnding_1 fd_X0_24 rfl (oX0_k hL) ?_
  refine xJ_istore_n hX dX0_removeEnding_4 (Nat.le_of_ble_eq_true rfl) rfl ?_
  dsimp only [List.set]
  replace hp := hp _ rfl
  refine xJ_aload_n hX dX0_removeEnding_5 rfl ?_
  refine xJ_getI hX dX0_removeEnding_6 fd_X0_24 rfl (oX0_k hL) ?_
  refine xJ_iconst hX dX0_removeEnding_9 ?_
  refine xJ_isub hX dX0_removeEnding_10 ?_
  obtain ⟨h10, hp⟩ := hp
  refine xJ_istore_n hX dX0_removeEnding_11 (Nat.le_of_ble_eq_true rfl) rfl ?_
  dsimp only [List.set]
  replace hp := hp _ rfl
  have lp12 : ∀ (k : Nat) (x1 : Int) (x2 : Int) (x3 : Int) (M : xMe) (hM : xMR M) (hx1 : xR x1) (hx2 : xR x2) (hx3 : xR x3) (hp : p_X0_removeEnding_12 F a Q k x1 x2 x3 M), xJ X 0 0 t M 12 [vr a, vi x1, vi x2, vi x3] [] := by
    intro k
    induction k with
    | zero => intro x1 x2 x3 M hM hx1 hx2 hx3 hp; exact hp.elim
    | succ k ih =>
      intro x1 x2 x3 M hM hx1 hx2 hx3 hp
      unfold p_X0_removeEnding_12 at hp
      refine xJ_iload_n hX dX0_removeEnding_12 rfl ?_
      refine xJ_if_lt hX dX0_removeEnding_13 (tgt := 37) (by decide) hx3 (fun c13 => ?_) (fun c13 => ?_)
      · replace hp := hp.1 c13
        refine xJ_iload_n hX dX0_removeEnding_37 rfl ?_
        refine xJ_aload_n hX dX0_removeEnding_38 rfl ?_
        refine xJ_getI hX dX0_removeEnding_39 fd_X0_24 rfl (oX0_k hL) ?_
        refine xJ_isub hX dX0_removeEnding_42 ?_
        obtain ⟨h42, hp⟩ := hp
        refine xJ_iret hX hB dX0_removeEnding_43 (by decide) (by decide) ⟨_, rfl, h42, hM, rfl, hp⟩
      · replace hp := hp.2 c13
        refine xJ_aload_n hX dX0_removeEnding_16 rfl ?_
        refine xJ_getR (b := (a + 3)) hX dX0_removeEnding_17 fd_X0_18 rfl (oX0_k hL) (oX0_r2 hL) ?_
        refine xJ_iload_n hX dX0_removeEnding_20 rfl ?_
        obtain ⟨h21, hp⟩ := hp
        refine xJ_iald hX dX0_removeEnding_21 (oX0_k2 hL) h21.1 (xnlt (oX0_n2 hL) h21.2) ?_
        refine xJ_iload_n hX dX0_removeEnding_22 rfl ?_
        refine xJ_icmp_ne hX dX0_removeEnding_23 (tgt := 31) (by decide) (hM _ _) hx1 (fun c23 => ?_) (fun c23 => ?_)
        · replace hp := hp.1 c23
          refine xJ_iinc hX dX0_removeEnding_31 rfl rfl ?_
          dsimp only [List.set]
          obtain ⟨h31, hp⟩ := hp
          refine xJ_goto hX dX0_removeEnding_34 (tgt := 12) (by decide) ?_
          exact ih _ _ _ _ hM hx1 hx2 h31 hp
        · replace hp := hp.2 c23
          refine xJ_aload_n hX dX0_removeEnding_26 rfl ?_
          refine xJ_iload_n hX dX0_removeEnding_27 rfl ?_
          refine xJ_callV (As := [_]) hX hB dX0_removeEnding_28 lk_X0_32 im_X0_removeAt se_X0_removeAt rfl (by decide) (oX0_k hL) (c_X0_removeAt hL hM hx3 hp) (by decide) rfl rfl rfl (Nat.le_of_ble_eq_true rfl) (by decide) (by decide) (fun v t9 M28 hv => ?_) (fun _ _ _ q => q.elim)
          obtain ⟨rfl, hM28, ht9, hp⟩ := hv
          replace ht9 := ht9.symm
          subst ht9
          dsimp only [Option.toList, List.cons_append, List.nil_append]
          refine xJ_iinc hX dX0_removeEnding_31 rfl rfl ?_
          dsimp only [List.set]
          obtain ⟨h31, hp⟩ := hp
          refine xJ_goto hX dX0_removeEnding_34 (tgt := 12) (by decide) ?_
          exact ih _ _ _ _ hM28 hx1 hx2 h31 hp
  refine lp12 F _ _ _ _ hM hx1 (hM _ _) h10 hp
def p_X0_firstToEnd_4 (F : Nat) (a : Nat) (Q : Int → xMe → Prop) : Nat → Int → Int → Int → xMe → Prop
  | 0, _, _, _, _ => False
  | k + 1, x1, x2, x3, M =>
    (((M a 4) ≤ x3 → Q x2 M) ∧ (x3 < (M a 4) → ((0 : Int) ≤ x3 ∧ (x3 : Int) < 30) ∧ (((M (a + 1) x3.toNat) ≠ x1 → (xR (x3 + 1)) ∧ p_X0_firstToEnd_4 F a Q k x1 x2 (x3 + 1) M) ∧ ((M (a + 1) x3.toNat) = x1 → ((x2 < 0 → (xR (x3 + 1)) ∧ p_X0_firstToEnd_4 F a Q k x1 x3 (x3 + 1) M) ∧ (0 ≤ x2 → ((0 : Int) ≤ x3 ∧ (x3 : Int) < 30) ∧ ((0 : Int) ≤ x2 ∧ (x2 : Int) < 30) ∧ (((M (a + 3) x2.toNat) ≤ (M (a + 3) x3.toNat) → (xR (x3 + 1)) ∧ p_X0_firstToEnd_4 F a Q k x1 x2 (x3 + 1) M) ∧ ((M (a + 3) x3.toNat) < (M (a + 3) x2.toNat) → (xR (x3 + 1)) ∧ p_X0_firstToEnd_4 F a Q k x1 x3 (x3 + 1) M))))))))
def p_X0_firstToEnd (F : Nat) (a : Nat) (x1 : Int) (M : xMe) (Q : Int → xMe → Prop) : Prop :=
  p_X0_firstToEnd_4 F a Q F x1 ((-1)) 0 M
set_option maxHeartbeats 4000000 in
set_option maxRecDepth 100000 in
theorem c_X0_firstToEnd {G : xGx} {t : xTh} {M : xMe} {F : Nat} {a : Nat} {x1 : Int} {Q : Int → xMe → Prop} (hL : oX0 t a) (hM : xMR M) (hx1 : xR x1) (hp : p_X0_firstToEnd F a x1 M Q) : xCt G yX0_firstToEnd cX0_firstToEnd 4 (some .int) 0 0 0 [vr a, vi x1] t M (fun v t' M' => ∃ r, v = some (vi r) ∧ xR r ∧ xMR M' ∧ t' = t ∧ Q r M') (fun _ _ _ => False) := by
  refine xCt_of (L0 := [vr a, vi x1, vU, vU]) (by decide +kernel) (Nat.le_of_ble_eq_true rfl) rfl ?_
  intro X hX hB
  unfold p_X0_firstToEnd at hp
  refine xJ_iconst hX dX0_firstToEnd_0 ?_
  refine xJ_istore_n hX dX0_firstToEnd_1 (Nat.le_of_ble_eq_true rfl) rfl ?_
  dsimp only [List.set]
  refine xJ_iconst hX dX0_firstToEnd_2 ?_
  refine xJ_istore_n hX dX0_firstToEnd_3 (Nat.le_of_ble_eq_true rfl) rfl ?_
  dsimp only [List.set]
  have lp4 : ∀ (k : Nat) (x1 : Int) (x2 : Int) (x3 : Int) (M : xMe) (hM : xMR M) (hx1 : xR x1) (hx2 : xR x2) (hx3 : xR x3) (hp : p_X0_firstToEnd_4 F a Q k x1 x2 x3 M), xJ X 0 0 t M 4 [vr a, vi x1, vi x2, vi x3] [] := by
    intro k
    induction k with
    | zero => intro x1 x2 x3 M hM hx1 hx2 hx3 hp; exact hp.elim
    | succ k ih =>
      intro x1 x2 x3 M hM hx1 hx2 hx3 hp
      unfold p_X0_firstToEnd_4 at hp
      refine xJ_iload_n hX dX0_firstToEnd_4 rfl ?_
      refine xJ_aload_n hX dX0_firstToEnd_5 rfl ?_
      refine xJ_getI hX dX0_firstToEnd_6 fd_X0_24 rfl (oX0_k hL) ?_
      refine xJ_icmp_ge hX dX0_firstToEnd_9 (tgt := 49) (by decide) hx3 (hM _ _) (fun c9 => ?_) (fun c9 => ?_)
      · replace hp := hp.1 c9
        refine xJ_iload_n hX dX0_firstToEnd_49 rfl ?_
        refine xJ_iret hX hB dX0_firstToEnd_50 (by decide) (by decide) ⟨_, rfl, hx2, hM, rfl, hp⟩
      · replace hp := hp.2 c9
        refine xJ_aload_n hX dX0_firstToEnd_12 rfl ?_
        refine xJ_getR (b := (a + 1)) hX dX0_firstToEnd_13 fd_X0_9 rfl (oX0_k hL) (oX0_r0 hL) ?_
        refine xJ_iload_n hX dX0_firstToEnd_16 rfl ?_
        obtain ⟨h17, hp⟩ := hp
        refine xJ_iald hX dX0_firstToEnd_17 (oX0_k0 hL) h17.1 (xnlt (oX0_n0 hL) h17.2) ?_
        refine xJ_iload_n hX dX0_firstToEnd_18 rfl ?_
        refine xJ_icmp_ne hX dX0_firstToEnd_19 (tgt := 43) (by decide) (hM _ _) hx1 (fun c19 => ?_) (fun c19 => ?_)
        · replace hp := hp.1 c19
          refine xJ_iinc hX dX0_firstToEnd_43 rfl rfl ?_
          dsimp only [List.set]
          obtain ⟨h43, hp⟩ := hp
          refine xJ_goto hX dX0_firstToEnd_46 (tgt := 4) (by decide) ?_
          exact ih _ _ _ _ hM hx1 hx2 h43 hp
        · replace hp := hp.2 c19
          refine xJ_iload_n hX dX0_firstToEnd_22 rfl ?_
          refine xJ_if_lt hX dX0_firstToEnd_23 (tgt := 41) (by decide) hx2 (fun c23 => ?_) (fun c23 => ?_)
          · replace hp := hp.1 c23
            refine xJ_iload_n hX dX0_firstToEnd_41 rfl ?_
            refine xJ_istore_n hX dX0_firstToEnd_42 (Nat.le_of_ble_eq_true rfl) rfl ?_
            dsimp only [List.set]
            refine xJ_iinc hX dX0_firstToEnd_43 rfl rfl ?_
            dsimp only [List.set]
            obtain ⟨h43, hp⟩ := hp
            refine xJ_goto hX dX0_firstToEnd_46 (tgt := 4) (by decide) ?_
            exact ih _ _ _ _ hM hx1 hx3 h43 hp
          · replace hp := hp.2 c23
            refine xJ_aload_n hX dX0_firstToEnd_26 rfl ?_
            refine xJ_getR (b := (a + 3)) hX dX0_firstToEnd_27 fd_X0_18 rfl (oX0_k hL) (oX0_r2 hL) ?_
            refine xJ_iload_n hX dX0_firstToEnd_30 rfl ?_
            obtain ⟨h31, hp⟩ := hp
            refine xJ_iald hX dX0_firstToEnd_31 (oX0_k2 hL) h31.1 (xnlt (oX0_n2 hL) h31.2) ?_
            refine xJ_aload_n hX dX0_firstToEnd_32 rfl ?_
            refine xJ_getR (b := (a + 3)) hX dX0_firstToEnd_33 fd_X0_18 rfl (oX0_k hL) (oX0_r2 hL) ?_
            refine xJ_iload_n hX dX0_firstToEnd_36 rfl ?_
            obtain ⟨h37, hp⟩ := hp
            refine xJ_iald hX dX0_firstToEnd_37 (oX0_k2 hL) h37.1 (xnlt (oX0_n2 hL) h37.2) ?_
            refine xJ_icmp_ge hX dX0_firstToEnd_38 (tgt := 43) (by decide) (hM _ _) (hM _ _) (fun c38 => ?_) (fun c38 => ?_)
            · replace hp := hp.1 c38
              refine xJ_iinc hX dX0_firstToEnd_43 rfl rfl ?_
              dsimp only [List.set]
              obtain ⟨h43, hp⟩ := hp
              refine xJ_goto hX dX0_firstToEnd_46 (tgt := 4) (by decide) ?_
              exact ih _ _ _ _ hM hx1 hx2 h43 hp
            · replace hp := hp.2 c38
              refine xJ_iload_n hX dX0_firstToEnd_41 rfl ?_
              refine xJ_istore_n hX dX0_firstToEnd_42 (Nat.le_of_ble_eq_true rfl) rfl ?_
              dsimp only [List.set]
              refine xJ_iinc hX dX0_firstToEnd_43 rfl rfl ?_
              dsimp only [List.set]
              obtain ⟨h43, hp⟩ := hp
              refine xJ_goto hX dX0_firstToEnd_46 (tgt := 4) (by decide) ?_
              exact ih _ _ _ _ hM hx1 hx3 h43 hp
  refine lp4 F _ _ _ _ hM hx1 ⟨by decide, by decide⟩ ⟨by decide, by decide⟩ hp
def p_X0_spend_5 (F : Nat) (a : Nat) (Q : xMe → Prop) : Nat → Int → Int → Int → xMe → Prop
  | 0, _, _, _, _ => False
  | k + 1, x1, x3, x4, M =>
    ((30 ≤ x4 → Q M) ∧ (x4 < 30 → ((x3 ≤ 0 → Q M) ∧ (0 < x3 → p_X0_firstToEnd F a x1 M (fun r18 M18 => ((0 ≤ r18 → ((0 : Int) ≤ r18 ∧ (r18 : Int) < 30) ∧ (((M18 (a + 2) r18.toNat) ≤ x3 → ((0 : Int) ≤ r18 ∧ (r18 : Int) < 30) ∧ (xR (x3 - (M18 (a + 2) r18.toNat))) ∧ (∀ z61 : Int, z61 = x3 - (M18 (a + 2) r18.toNat) → p_X0_removeAt F a r18 M18 (fun M65 => (xR (x4 + 1)) ∧ p_X0_spend_5 F a Q k x1 z61 (x4 + 1) M65))) ∧ (x3 < (M18 (a + 2) r18.toNat) → ((0 : Int) ≤ r18 ∧ (r18 : Int) < 30) ∧ (xR ((M18 (a + 2) r18.toNat) - x3)) ∧ ((0 : Int) ≤ r18 ∧ (r18 : Int) < 30) ∧ (∀ M50 : xMe, M50 = xw M18 (a + 2) r18.toNat ((M18 (a + 2) r18.toNat) - x3) → Q M50)))) ∧ (r18 < 0 → Q M18)))))))
def p_X0_spend (F : Nat) (a : Nat) (x1 : Int) (x2 : Int) (M : xMe) (Q : xMe → Prop) : Prop :=
  p_X0_spend_5 F a Q F x1 x2 0 M
set_option maxHeartbeats 4000000 in
set_option maxRecDepth 100000 in
theorem c_X0_spend {G : xGx} {t : xTh} {M : xMe} {F : Nat} {a : Nat} {x1 : Int} {x2 : Int} {Q : xMe → Prop} (hL : oX0 t a) (hM : xMR M) (hx1 : xR x1) (hx2 : xR x2) (hp : p_X0_spend F a x1 x2 M Q) : xCt G yX0_spend cX0_spend 6 none 1 0 0 [vr a, vi x1, vi x2] t M (fun v t' M' => v = none ∧ xMR M' ∧ t' = t ∧ Q M') (fun _ _ _ => False) := by
  refine xCt_of (L0 := [vr a, vi x1, vi x2, vU, vU, vU]) (by decide +kernel) (Nat.le_of_ble_eq_true rfl) rfl ?_
  intro X hX hB
  unfold p_X0_spend at hp
  refine xJ_iload_n hX dX0_spend_0 rfl ?_
  refine xJ_istore_n hX dX0_spend_1 (Nat.le_of_ble_eq_true rfl) rfl ?_
  dsimp only [List.set]
  refine xJ_iconst hX dX0_spend_2 ?_
  refine xJ_istore hX dX0_spend_3 (Nat.le_of_ble_eq_true rfl) rfl ?_
  dsimp only [List.set]
  refine xJ_fg 2 ?_
  dsimp only [List.set]
  have lp5 : ∀ (k : Nat) (x1 : Int) (x3 : Int) (x4 : Int) (M : xMe) (hM : xMR M) (hx1 : xR x1) (hx3 : xR x3) (hx4 : xR x4) (hp : p_X0_spend_5 F a Q k x1 x3 x4 M), xJ X 0 0 t M 5 [vr a, vi x1, vU, vi x3, vi x4, vU] [] := by
    intro k
    induction k with
    | zero => intro x1 x3 x4 M hM hx1 hx3 hx4 hp; exact hp.elim
    | succ k ih =>
      intro x1 x3 x4 M hM hx1 hx3 hx4 hp
      unfold p_X0_spend_5 at hp
      refine xJ_iload hX dX0_spend_5 rfl ?_
      refine xJ_bipush hX dX0_spend_7 rfl ?_
      refine xJ_icmp_ge hX dX0_spend_9 (tgt := 74) (by decide) hx4 ⟨by decide, by decide⟩ (fun c9 => ?_) (fun c9 => ?_)
      · replace hp := hp.1 c9
        refine xJ_vret hX hB dX0_spend_74 (by decide) (by decide) ⟨rfl, hM, rfl, hp⟩
      · replace hp := hp.2 c9
        refine xJ_iload_n hX dX0_spend_12 rfl ?_
        refine xJ_if_le hX dX0_spend_13 (tgt := 74) (by decide) hx3 (fun c13 => ?_) (fun c13 => ?_)
        · replace hp := hp.1 c13
          refine xJ_vret hX hB dX0_spend_74 (by decide) (by decide) ⟨rfl, hM, rfl, hp⟩
        · replace hp := hp.2 c13
          refine xJ_aload_n hX dX0_spend_16 rfl ?_
          refine xJ_iload_n hX dX0_spend_17 rfl ?_
          refine xJ_callV (As := [_]) hX hB dX0_spend_18 lk_X0_36 im_X0_firstToEnd se_X0_firstToEnd rfl (by decide) (oX0_k hL) (c_X0_firstToEnd hL hM hx1 hp) (by decide) rfl rfl rfl (Nat.le_of_ble_eq_true rfl) (by decide) (by decide) (fun v t9 M18 hv => ?_) (fun _ _ _ q => q.elim)
          obtain ⟨r18, rfl, h18, hM18, ht9, hp⟩ := hv
          replace ht9 := ht9.symm
          subst ht9
          dsimp only [Option.toList, List.cons_append, List.nil_append]
          refine xJ_istore hX dX0_spend_21 (Nat.le_of_ble_eq_true rfl) rfl ?_
          dsimp only [List.set]
          refine xJ_iload hX dX0_spend_23 rfl ?_
          refine xJ_if_ge hX dX0_spend_25 (tgt := 29) (by decide) h18 (fun c25 => ?_) (fun c25 => ?_)
          · replace hp := hp.1 c25
            refine xJ_aload_n hX dX0_spend_29 rfl ?_
            refine xJ_getR (b := (a + 2)) hX dX0_spend_30 fd_X0_15 rfl (oX0_k hL) (oX0_r1 hL) ?_
            refine xJ_iload hX dX0_spend_33 rfl ?_
            obtain ⟨h35, hp⟩ := hp
            refine xJ_iald hX dX0_spend_35 (oX0_k1 hL) h35.1 (xnlt (oX0_n1 hL) h35.2) ?_
            refine xJ_iload_n hX dX0_spend_36 rfl ?_
            refine xJ_icmp_le hX dX0_spend_37 (tgt := 52) (by decide) (hM18 _ _) hx3 (fun c37 => ?_) (fun c37 => ?_)
            · replace hp := hp.1 c37
              refine xJ_iload_n hX dX0_spend_52 rfl ?_
              refine xJ_aload_n hX dX0_spend_53 rfl ?_
              refine xJ_getR (b := (a + 2)) hX dX0_spend_54 fd_X0_15 rfl (oX0_k hL) (oX0_r1 hL) ?_
              refine xJ_iload hX dX0_spend_57 rfl ?_
              obtain ⟨h59, hp⟩ := hp
              refine xJ_iald hX dX0_spend_59 (oX0_k1 hL) h59.1 (xnlt (oX0_n1 hL) h59.2) ?_
              refine xJ_isub hX dX0_spend_60 ?_
              obtain ⟨h60, hp⟩ := hp
              refine xJ_istore_n hX dX0_spend_61 (Nat.le_of_ble_eq_true rfl) rfl ?_
              dsimp only [List.set]
              replace hp := hp _ rfl
              refine xJ_aload_n hX dX0_spend_62 rfl ?_
              refine xJ_iload hX dX0_spend_63 rfl ?_
              refine xJ_callV (As := [_]) hX hB dX0_spend_65 lk_X0_32 im_X0_removeAt se_X0_removeAt rfl (by decide) (oX0_k hL) (c_X0_removeAt hL hM18 h18 hp) (by decide) rfl rfl rfl (Nat.le_of_ble_eq_true rfl) (by decide) (by decide) (fun v t9 M65 hv => ?_) (fun _ _ _ q => q.elim)
              obtain ⟨rfl, hM65, ht9, hp⟩ := hv
              replace ht9 := ht9.symm
              subst ht9
              dsimp only [Option.toList, List.cons_append, List.nil_append]
              refine xJ_iinc hX dX0_spend_68 rfl rfl ?_
              dsimp only [List.set]
              obtain ⟨h68, hp⟩ := hp
              refine xJ_goto hX dX0_spend_71 (tgt := 5) (by decide) ?_
              refine xJ_fg 5 ?_
              dsimp only [List.set]
              exact ih _ _ _ _ hM65 hx1 h60 h68 hp
            · replace hp := hp.2 c37
              refine xJ_aload_n hX dX0_spend_40 rfl ?_
              refine xJ_getR (b := (a + 2)) hX dX0_spend_41 fd_X0_15 rfl (oX0_k hL) (oX0_r1 hL) ?_
              refine xJ_iload hX dX0_spend_44 rfl ?_
              refine xJ_dup2 hX dX0_spend_46 rfl rfl ?_
              obtain ⟨h47, hp⟩ := hp
              refine xJ_iald hX dX0_spend_47 (oX0_k1 hL) h47.1 (xnlt (oX0_n1 hL) h47.2) ?_
              refine xJ_iload_n hX dX0_spend_48 rfl ?_
              refine xJ_isub hX dX0_spend_49 ?_
              obtain ⟨h49, hp⟩ := hp
              obtain ⟨h50, hp⟩ := hp
              refine xJ_iastM hX dX0_spend_50 (oX0_k1 hL) h50.1 (xnlt (oX0_n1 hL) h50.2) hM18 h49 (fun M50 e50 hM50 => ?_)
              replace hp := hp M50 e50
              refine xJ_vret hX hB dX0_spend_51 (by decide) (by decide) ⟨rfl, hM50, rfl, hp⟩
          · replace hp := hp.2 c25
            refine xJ_vret hX hB dX0_spend_28 (by decide) (by decide) ⟨rfl, hM18, rfl, hp⟩
  refine lp5 F _ _ _ _ hM hx1 hx2 ⟨by decide, by decide⟩ hp
def p_X1_gateAt (a : Nat) (x1 : Int) (x2 : Int) (M : xMe) (Q : Int → xMe → Prop) : Prop :=
  ((x1 < 0 → Q ((-1)) M) ∧ (0 ≤ x1 → ((6 ≤ x1 → Q ((-1)) M) ∧ (x1 < 6 → ((x2 < 0 → Q ((-1)) M) ∧ (0 ≤ x2 → ((4 ≤ x2 → Q ((-1)) M) ∧ (x2 < 4 → ((0 : Int) ≤ x1 ∧ (x1 : Int) < 6) ∧ ((x2 < (M (a + 2) x1.toNat) → (xR (x1 * 4)) ∧ (xR ((x1 * 4) + x2)) ∧ ((0 : Int) ≤ ((x1 * 4) + x2) ∧ (((x1 * 4) + x2) : Int) < 24) ∧ Q (M (a + 1) ((x1 * 4) + x2).toNat) M) ∧ ((M (a + 2) x1.toNat) ≤ x2 → Q ((-1)) M))))))))))
set_option maxHeartbeats 4000000 in
set_option maxRecDepth 100000 in
theorem c_X1_gateAt {G : xGx} {t : xTh} {M : xMe} {a : Nat} {x1 : Int} {x2 : Int} {Q : Int → xMe → Prop} (hL : oX1 t a) (hM : xMR M) (hx1 : xR x1) (hx2 : xR x2) (hp : p_X1_gateAt a x1 x2 M Q) : xCt G yX1_gateAt cX1_gateAt 3 (some .int) 0 0 0 [vr a, vi x1, vi x2] t M (fun v t' M' => ∃ r, v = some (vi r) ∧ xR r ∧ xMR M' ∧ t' = t ∧ Q r M') (fun _ _ _ => False) := by
  refine xCt_of (L0 := [vr a, vi x1, vi x2]) (by decide +kernel) (Nat.le_of_ble_eq_true rfl) rfl ?_
  intro X hX hB
  unfold p_X1_gateAt at hp
  refine xJ_iload_n hX dX1_gateAt_0 rfl ?_
  refine xJ_if_lt hX dX1_gateAt_1 (tgt := 29) (by decide) hx1 (fun c1 => ?_) (fun c1 => ?_)
  · replace hp := hp.1 c1
    refine xJ_iconst hX dX1_gateAt_29 ?_
    refine xJ_iret hX hB dX1_gateAt_30 (by decide) (by decide) ⟨_, rfl, ⟨by decide, by decide⟩, hM, rfl, hp⟩
  · replace hp := hp.2 c1
    refine xJ_iload_n hX dX1_gateAt_4 rfl ?_
    refine xJ_bipush hX dX1_gateAt_5 rfl ?_
    refine xJ_icmp_ge hX dX1_gateAt_7 (tgt := 29) (by decide) hx1 ⟨by decide, by decide⟩ (fun c7 => ?_) (fun c7 => ?_)
    · replace hp := hp.1 c7
      refine xJ_iconst hX dX1_gateAt_29 ?_
      refine xJ_iret hX hB dX1_gateAt_30 (by decide) (by decide) ⟨_, rfl, ⟨by decide, by decide⟩, hM, rfl, hp⟩
    · replace hp := hp.2 c7
      refine xJ_iload_n hX dX1_gateAt_10 rfl ?_
      refine xJ_if_lt hX dX1_gateAt_11 (tgt := 29) (by decide) hx2 (fun c11 => ?_) (fun c11 => ?_)
      · replace hp := hp.1 c11
        refine xJ_iconst hX dX1_gateAt_29 ?_
        refine xJ_iret hX hB dX1_gateAt_30 (by decide) (by decide) ⟨_, rfl, ⟨by decide, by decide⟩, hM, rfl, hp⟩
      · replace hp := hp.2 c11
        refine xJ_iload_n hX dX1_gateAt_14 rfl ?_
        refine xJ_iconst hX dX1_gateAt_15 ?_
        refine xJ_icmp_ge hX dX1_gateAt_16 (tgt := 29) (by decide) hx2 ⟨by decide, by decide⟩ (fun c16 => ?_) (fun c16 => ?_)
        · replace hp := hp.1 c16
          refine xJ_iconst hX dX1_gateAt_29 ?_
          refine xJ_iret hX hB dX1_gateAt_30 (by decide) (by decide) ⟨_, rfl, ⟨by decide, by decide⟩, hM, rfl, hp⟩
        · replace hp := hp.2 c16
          refine xJ_iload_n hX dX1_gateAt_19 rfl ?_
          refine xJ_aload_n hX dX1_gateAt_20 rfl ?_
          refine xJ_getR (b := (a + 2)) hX dX1_gateAt_21 fd_X1_15 rfl (oX1_k hL) (oX1_r1 hL) ?_
          refine xJ_iload_n hX dX1_gateAt_24 rfl ?_
          obtain ⟨h25, hp⟩ := hp
          refine xJ_iald hX dX1_gateAt_25 (oX1_k1 hL) h25.1 (xnlt (oX1_n1 hL) h25.2) ?_
          refine xJ_icmp_lt hX dX1_gateAt_26 (tgt := 31) (by decide) hx2 (hM _ _) (fun c26 => ?_) (fun c26 => ?_)
          · replace hp := hp.1 c26
            refine xJ_aload_n hX dX1_gateAt_31 rfl ?_
            refine xJ_getR (b := (a + 1)) hX dX1_gateAt_32 fd_X1_9 rfl (oX1_k hL) (oX1_r0 hL) ?_
            refine xJ_iload_n hX dX1_gateAt_35 rfl ?_
            refine xJ_iconst hX dX1_gateAt_36 ?_
            refine xJ_imul hX dX1_gateAt_37 ?_
            obtain ⟨h37, hp⟩ := hp
            refine xJ_iload_n hX dX1_gateAt_38 rfl ?_
            refine xJ_iadd hX dX1_gateAt_39 ?_
            obtain ⟨h39, hp⟩ := hp
            obtain ⟨h40, hp⟩ := hp
            refine xJ_iald hX dX1_gateAt_40 (oX1_k0 hL) h40.1 (xnlt (oX1_n0 hL) h40.2) ?_
            refine xJ_iret hX hB dX1_gateAt_41 (by decide) (by decide) ⟨_, rfl, (hM _ _), hM, rfl, hp⟩
          · replace hp := hp.2 c26
            refine xJ_iconst hX dX1_gateAt_29 ?_
            refine xJ_iret hX hB dX1_gateAt_30 (by decide) (by decide) ⟨_, rfl, ⟨by decide, by decide⟩, hM, rfl, hp⟩
def p_X1_openRouteHas_2 (F : Nat) (a : Nat) (Q : Int → xMe → Prop) : Nat → Int → Int → xMe → Prop
  | 0, _, _, _ => False
  | k + 1, x1, x2, M =>
    ((4 ≤ x2 → Q 0 M) ∧ (x2 < 4 → p_X1_gateAt a (M a 4) x2 M (fun r13 M13 => ((r13 ≠ x1 → (xR (x2 + 1)) ∧ p_X1_openRouteHas_2 F a Q k x1 (x2 + 1) M13) ∧ (r13 = x1 → Q 1 M13)))))
def p_X1_openRouteHas (F : Nat) (a : Nat) (x1 : Int) (M : xMe) (Q : Int → xMe → Prop) : Prop :=
  p_X1_openRouteHas_2 F a Q F x1 0 M
set_option maxHeartbeats 4000000 in
set_option maxRecDepth 100000 in
theorem c_X1_openRouteHas {G : xGx} {t : xTh} {M : xMe} {F : Nat} {a : Nat} {x1 : Int} {Q : Int → xMe → Prop} (hL : oX1 t a) (hM : xMR M) (hx1 : xR x1) (hp : p_X1_openRouteHas F a x1 M Q) : xCt G yX1_openRouteHas cX1_openRouteHas 3 (some .boolean) 1 0 0 [vr a, vi x1] t M (fun v t' M' => ∃ r, v = some (vi r) ∧ xR r ∧ xMR M' ∧ t' = t ∧ Q r M') (fun _ _ _ => False) := by
  refine xCt_of (L0 := [vr a, vi x1, vU]) (by decide +kernel) (Nat.le_of_ble_eq_true rfl) rfl ?_
  intro X hX hB
  unfold p_X1_openRouteHas at hp
  refine xJ_iconst hX dX1_openRouteHas_0 ?_
  refine xJ_istore_n hX dX1_openRouteHas_1 (Nat.le_of_ble_eq_true rfl) rfl ?_
  dsimp only [List.set]
  have lp2 : ∀ (k : Nat) (x1 : Int) (x2 : Int) (M : xMe) (hM : xMR M) (hx1 : xR x1) (hx2 : xR x2) (hp : p_X1_openRouteHas_2 F a Q k x1 x2 M), xJ X 0 0 t M 2 [vr a, vi x1, vi x2] [] := by
    intro k
    induction k with
    | zero => intro x1 x2 M hM hx1 hx2 hp; exact hp.elim
    | succ k ih =>
      intro x1 x2 M hM hx1 hx2 hp
      unfold p_X1_openRouteHas_2 at hp
      refine xJ_iload_n hX dX1_openRouteHas_2 rfl ?_
      refine xJ_iconst hX dX1_openRouteHas_3 ?_
      refine xJ_icmp_ge hX dX1_openRouteHas_4 (tgt := 28) (by decide) hx2 ⟨by decide, by decide⟩ (fun c4 => ?_) (fun c4 => ?_)
      · replace hp := hp.1 c4
        refine xJ_iconst hX dX1_openRouteHas_28 ?_
        refine xJ_zret hX hB dX1_openRouteHas_29 rfl (by decide) (by decide) ⟨_, rfl, ⟨by decide, by decide⟩, hM, rfl, hp⟩
      · replace hp := hp.2 c4
        refine xJ_aload_n hX dX1_openRouteHas_7 rfl ?_
        refine xJ_aload_n hX dX1_openRouteHas_8 rfl ?_
        refine xJ_getI hX dX1_openRouteHas_9 fd_X1_24 rfl (oX1_k hL) ?_
        refine xJ_iload_n hX dX1_openRouteHas_12 rfl ?_
        refine xJ_callV (As := [_, _]) hX hB dX1_openRouteHas_13 lk_X1_32 im_X1_gateAt se_X1_gateAt rfl (by decide) (oX1_k hL) (c_X1_gateAt hL hM (hM _ _) hx2 hp) (by decide) rfl rfl rfl (Nat.le_of_ble_eq_true rfl) (by decide) (by decide) (fun v t9 M13 hv => ?_) (fun _ _ _ q => q.elim)
        obtain ⟨r13, rfl, h13, hM13, ht9, hp⟩ := hv
        replace ht9 := ht9.symm
        subst ht9
        dsimp only [Option.toList, List.cons_append, List.nil_append]
        refine xJ_iload_n hX dX1_openRouteHas_16 rfl ?_
        refine xJ_icmp_ne hX dX1_openRouteHas_17 (tgt := 22) (by decide) h13 hx1 (fun c17 => ?_) (fun c17 => ?_)
        · replace hp := hp.1 c17
          refine xJ_iinc hX dX1_openRouteHas_22 rfl rfl ?_
          dsimp only [List.set]
          obtain ⟨h22, hp⟩ := hp
          refine xJ_goto hX dX1_openRouteHas_25 (tgt := 2) (by decide) ?_
          exact ih _ _ _ hM13 hx1 h22 hp
        · replace hp := hp.2 c17
          refine xJ_iconst hX dX1_openRouteHas_20 ?_
          refine xJ_zret hX hB dX1_openRouteHas_21 rfl (by decide) (by decide) ⟨_, rfl, ⟨by decide, by decide⟩, hM13, rfl, hp⟩
  refine lp2 F _ _ _ hM hx1 ⟨by decide, by decide⟩ hp
def p_X1_open (a : Nat) (M : xMe) (Q : xMe → Prop) : Prop :=
  (((M a 4) < 0 → Q M) ∧ (0 ≤ (M a 4) → ((6 ≤ (M a 4) → Q M) ∧ ((M a 4) < 6 → ((0 : Int) ≤ (M a 4) ∧ ((M a 4) : Int) < 6) ∧ (∀ M25 : xMe, M25 = xw M (a + 2) (M a 4).toNat 0 → Q M25)))))
set_option maxHeartbeats 4000000 in
set_option maxRecDepth 100000 in
theorem c_X1_open {G : xGx} {t : xTh} {M : xMe} {a : Nat} {Q : xMe → Prop} (hL : oX1 t a) (hM : xMR M)(hp : p_X1_open a M Q) : xCt G yX1_open cX1_open 1 none 0 0 0 [vr a] t M (fun v t' M' => v = none ∧ xMR M' ∧ t' = t ∧ Q M') (fun _ _ _ => False) := by
  refine xCt_of (L0 := [vr a]) (by decide +kernel) (Nat.le_of_ble_eq_true rfl) rfl ?_
  intro X hX hB
  unfold p_X1_open at hp
  refine xJ_aload_n hX dX1_open_0 rfl ?_
  refine xJ_getI hX dX1_open_1 fd_X1_24 rfl (oX1_k hL) ?_
  refine xJ_if_lt hX dX1_open_4 (tgt := 26) (by decide) (hM _ _) (fun c4 => ?_) (fun c4 => ?_)
  · replace hp := hp.1 c4
    refine xJ_vret hX hB dX1_open_26 (by decide) (by decide) ⟨rfl, hM, rfl, hp⟩
  · replace hp := hp.2 c4
    refine xJ_aload_n hX dX1_open_7 rfl ?_
    refine xJ_getI hX dX1_open_8 fd_X1_24 rfl (oX1_k hL) ?_
    refine xJ_bipush hX dX1_open_11 rfl ?_
    refine xJ_icmp_ge hX dX1_open_13 (tgt := 26) (by decide) (hM _ _) ⟨by decide, by decide⟩ (fun c13 => ?_) (fun c13 => ?_)
    · replace hp := hp.1 c13
      refine xJ_vret hX hB dX1_open_26 (by decide) (by decide) ⟨rfl, hM, rfl, hp⟩
    · replace hp := hp.2 c13
      refine xJ_aload_n hX dX1_open_16 rfl ?_
      refine xJ_getR (b := (a + 2)) hX dX1_open_17 fd_X1_15 rfl (oX1_k hL) (oX1_r1 hL) ?_
      refine xJ_aload_n hX dX1_open_20 rfl ?_
      refine xJ_getI hX dX1_open_21 fd_X1_24 rfl (oX1_k hL) ?_
      refine xJ_iconst hX dX1_open_24 ?_
      obtain ⟨h25, hp⟩ := hp
      refine xJ_iastM hX dX1_open_25 (oX1_k1 hL) h25.1 (xnlt (oX1_n1 hL) h25.2) hM ⟨by decide, by decide⟩ (fun M25 e25 hM25 => ?_)
      replace hp := hp M25 e25
      refine xJ_vret hX hB dX1_open_26 (by decide) (by decide) ⟨rfl, hM25, rfl, hp⟩
def p_X1_addPlace (a : Nat) (x1 : Int) (M : xMe) (Q : xMe → Prop) : Prop :=
  (((M a 4) < 0 → Q M) ∧ (0 ≤ (M a 4) → ((6 ≤ (M a 4) → Q M) ∧ ((M a 4) < 6 → ((0 : Int) ≤ (M a 4) ∧ ((M a 4) : Int) < 6) ∧ (((M (a + 2) (M a 4).toNat) < 0 → Q M) ∧ (0 ≤ (M (a + 2) (M a 4).toNat) → ((0 : Int) ≤ (M a 4) ∧ ((M a 4) : Int) < 6) ∧ (((M (a + 2) (M a 4).toNat) < 4 → (xR ((M a 4) * 4)) ∧ ((0 : Int) ≤ (M a 4) ∧ ((M a 4) : Int) < 6) ∧ (xR (((M a 4) * 4) + (M (a + 2) (M a 4).toNat))) ∧ ((0 : Int) ≤ (((M a 4) * 4) + (M (a + 2) (M a 4).toNat)) ∧ ((((M a 4) * 4) + (M (a + 2) (M a 4).toNat)) : Int) < 24) ∧ (∀ M63 : xMe, M63 = xw M (a + 1) (((M a 4) * 4) + (M (a + 2) (M a 4).toNat)).toNat x1 → ((0 : Int) ≤ (M63 a 4) ∧ ((M63 a 4) : Int) < 6) ∧ (xR ((M63 (a + 2) (M63 a 4).toNat) + 1)) ∧ ((0 : Int) ≤ (M63 a 4) ∧ ((M63 a 4) : Int) < 6) ∧ (∀ M76 : xMe, M76 = xw M63 (a + 2) (M63 a 4).toNat ((M63 (a + 2) (M63 a 4).toNat) + 1) → Q M76))) ∧ (4 ≤ (M (a + 2) (M a 4).toNat) → Q M))))))))
set_option maxHeartbeats 4000000 in
set_option maxRecDepth 100000 in
theorem c_X1_addPlace {G : xGx} {t : xTh} {M : xMe} {a : Nat} {x1 : Int} {Q : xMe → Prop} (hL : oX1 t a) (hM : xMR M) (hx1 : xR x1) (hp : p_X1_addPlace a x1 M Q) : xCt G yX1_addPlace cX1_addPlace 2 none 0 0 0 [vr a, vi x1] t M (fun v t' M' => v = none ∧ xMR M' ∧ t' = t ∧ Q M') (fun _ _ _ => False) := by
  refine xCt_of (L0 := [vr a, vi x1]) (by decide +kernel) (Nat.le_of_ble_eq_true rfl) rfl ?_
  intro X hX hB
  unfold p_X1_addPlace at hp
  refine xJ_aload_n hX dX1_addPlace_0 rfl ?_
  refine xJ_getI hX dX1_addPlace_1 fd_X1_24 rfl (oX1_k hL) ?_
  refine xJ_if_lt hX dX1_addPlace_4 (tgt := 41) (by decide) (hM _ _) (fun c4 => ?_) (fun c4 => ?_)
  · replace hp := hp.1 c4
    refine xJ_vret hX hB dX1_addPlace_41 (by decide) (by decide) ⟨rfl, hM, rfl, hp⟩
  · replace hp := hp.2 c4
    refine xJ_aload_n hX dX1_addPlace_7 rfl ?_
    refine xJ_getI hX dX1_addPlace_8 fd_X1_24 rfl (oX1_k hL) ?_
    refine xJ_bipush hX dX1_addPlace_11 rfl ?_
    refine xJ_icmp_ge hX dX1_addPlace_13 (tgt := 41) (by decide) (hM _ _) ⟨by decide, by decide⟩ (fun c13 => ?_) (fun c13 => ?_)
    · replace hp := hp.1 c13
      refine xJ_vret hX hB dX1_addPlace_41 (by decide) (by decide) ⟨rfl, hM, rfl, hp⟩
    · replace hp := hp.2 c13
      refine xJ_aload_n hX dX1_addPlace_16 rfl ?_
      refine xJ_getR (b := (a + 2)) hX dX1_addPlace_17 fd_X1_15 rfl (oX1_k hL) (oX1_r1 hL) ?_
      refine xJ_aload_n hX dX1_addPlace_20 rfl ?_
      refine xJ_getI hX dX1_addPlace_21 fd_X1_24 rfl (oX1_k hL) ?_
      obtain ⟨h24, hp⟩ := hp
      refine xJ_iald hX dX1_addPlace_24 (oX1_k1 hL) h24.1 (xnlt (oX1_n1 hL) h24.2) ?_
      refine xJ_if_lt hX dX1_addPlace_25 (tgt := 41) (by decide) (hM _ _) (fun c25 => ?_) (fun c25 => ?_)
      · replace hp := hp.1 c25
        refine xJ_vret hX hB dX1_addPlace_41 (by decide) (by decide) ⟨rfl, hM, rfl, hp⟩
      · replace hp := hp.2 c25
        refine xJ_aload_n hX dX1_addPlace_28 rfl ?_
        refine xJ_getR (b := (a + 2)) hX dX1_addPlace_29 fd_X1_15 rfl (oX1_k hL) (oX1_r1 hL) ?_
        refine xJ_aload_n hX dX1_addPlace_32 rfl ?_
        refine xJ_getI hX dX1_addPlace_33 fd_X1_24 rfl (oX1_k hL) ?_
        obtain ⟨h36, hp⟩ := hp
        refine xJ_iald hX dX1_addPlace_36 (oX1_k1 hL) h36.1 (xnlt (oX1_n1 hL) h36.2) ?_
        refine xJ_iconst hX dX1_addPlace_37 ?_
        refine xJ_icmp_lt hX dX1_addPlace_38 (tgt := 42) (by decide) (hM _ _) ⟨by decide, by decide⟩ (fun c38 => ?_) (fun c38 => ?_)
        · replace hp := hp.1 c38
          refine xJ_aload_n hX dX1_addPlace_42 rfl ?_
          refine xJ_getR (b := (a + 1)) hX dX1_addPlace_43 fd_X1_9 rfl (oX1_k hL) (oX1_r0 hL) ?_
          refine xJ_aload_n hX dX1_addPlace_46 rfl ?_
          refine xJ_getI hX dX1_addPlace_47 fd_X1_24 rfl (oX1_k hL) ?_
          refine xJ_iconst hX dX1_addPlace_50 ?_
          refine xJ_imul hX dX1_addPlace_51 ?_
          obtain ⟨h51, hp⟩ := hp
          refine xJ_aload_n hX dX1_addPlace_52 rfl ?_
          refine xJ_getR (b := (a + 2)) hX dX1_addPlace_53 fd_X1_15 rfl (oX1_k hL) (oX1_r1 hL) ?_
          refine xJ_aload_n hX dX1_addPlace_56 rfl ?_
          refine xJ_getI hX dX1_addPlace_57 fd_X1_24 rfl (oX1_k hL) ?_
          obtain ⟨h60, hp⟩ := hp
          refine xJ_iald hX dX1_addPlace_60 (oX1_k1 hL) h60.1 (xnlt (oX1_n1 hL) h60.2) ?_
          refine xJ_iadd hX dX1_addPlace_61 ?_
          obtain ⟨h61, hp⟩ := hp
          refine xJ_iload_n hX dX1_addPlace_62 rfl ?_
          obtain ⟨h63, hp⟩ := hp
          refine xJ_iastM hX dX1_addPlace_63 (oX1_k0 hL) h63.1 (xnlt (oX1_n0 hL) h63.2) hM hx1 (fun M63 e63 hM63 => ?_)
          replace hp := hp M63 e63
          refine xJ_aload_n hX dX1_addPlace_64 rfl ?_
          refine xJ_getR (b := (a + 2)) hX dX1_addPlace_65 fd_X1_15 rfl (oX1_k hL) (oX1_r1 hL) ?_
          refine xJ_aload_n hX dX1_addPlace_68 rfl ?_
          refine xJ_getI hX dX1_addPlace_69 fd_X1_24 rfl (oX1_k hL) ?_
          refine xJ_dup2 hX dX1_addPlace_72 rfl rfl ?_
          obtain ⟨h73, hp⟩ := hp
          refine xJ_iald hX dX1_addPlace_73 (oX1_k1 hL) h73.1 (xnlt (oX1_n1 hL) h73.2) ?_
          refine xJ_iconst hX dX1_addPlace_74 ?_
          refine xJ_iadd hX dX1_addPlace_75 ?_
          obtain ⟨h75, hp⟩ := hp
          obtain ⟨h76, hp⟩ := hp
          refine xJ_iastM hX dX1_addPlace_76 (oX1_k1 hL) h76.1 (xnlt (oX1_n1 hL) h76.2) hM63 h75 (fun M76 e76 hM76 => ?_)
          replace hp := hp M76 e76
          refine xJ_vret hX hB dX1_addPlace_77 (by decide) (by decide) ⟨rfl, hM76, rfl, hp⟩
        · replace hp := hp.2 c38
          refine xJ_vret hX hB dX1_addPlace_41 (by decide) (by decide) ⟨rfl, hM, rfl, hp⟩
def p_X1_close (a : Nat) (x1 : Int) (M : xMe) (Q : xMe → Prop) : Prop :=
  (((M a 4) < 0 → Q M) ∧ (0 ≤ (M a 4) → ((6 ≤ (M a 4) → Q M) ∧ ((M a 4) < 6 → ((0 : Int) ≤ (M a 4) ∧ ((M a 4) : Int) < 6) ∧ (∀ M25 : xMe, M25 = xw M (a + 3) (M a 4).toNat x1 → ((0 : Int) ≤ (M25 a 4) ∧ ((M25 a 4) : Int) < 6) ∧ (∀ M35 : xMe, M35 = xw M25 (a + 4) (M25 a 4).toNat 0 → (xR ((M35 a 4) + 1)) ∧ (∀ M43 : xMe, M43 = xw M35 a 4 ((M35 a 4) + 1) → Q M43)))))))
set_option maxHeartbeats 4000000 in
set_option maxRecDepth 100000 in
theorem c_X1_close {G : xGx} {t : xTh} {M : xMe} {a : Nat} {x1 : Int} {Q : xMe → Prop} (hL : oX1 t a) (hM : xMR M) (hx1 : xR x1) (hp : p_X1_close a x1 M Q) : xCt G yX1_close cX1_close 2 none 0 0 0 [vr a, vi x1] t M (fun v t' M' => v = none ∧ xMR M' ∧ t' = t ∧ Q M') (fun _ _ _ => False) := by
  refine xCt_of (L0 := [vr a, vi x1]) (by decide +kernel) (Nat.le_of_ble_eq_true rfl) rfl ?_
  intro X hX hB
  unfold p_X1_close at hp
  refine xJ_aload_n hX dX1_close_0 rfl ?_
  refine xJ_getI hX dX1_close_1 fd_X1_24 rfl (oX1_k hL) ?_
  refine xJ_if_lt hX dX1_close_4 (tgt := 46) (by decide) (hM _ _) (fun c4 => ?_) (fun c4 => ?_)
  · replace hp := hp.1 c4
    refine xJ_vret hX hB dX1_close_46 (by decide) (by decide) ⟨rfl, hM, rfl, hp⟩
  · replace hp := hp.2 c4
    refine xJ_aload_n hX dX1_close_7 rfl ?_
    refine xJ_getI hX dX1_close_8 fd_X1_24 rfl (oX1_k hL) ?_
    refine xJ_bipush hX dX1_close_11 rfl ?_
    refine xJ_icmp_ge hX dX1_close_13 (tgt := 46) (by decide) (hM _ _) ⟨by decide, by decide⟩ (fun c13 => ?_) (fun c13 => ?_)
    · replace hp := hp.1 c13
      refine xJ_vret hX hB dX1_close_46 (by decide) (by decide) ⟨rfl, hM, rfl, hp⟩
    · replace hp := hp.2 c13
      refine xJ_aload_n hX dX1_close_16 rfl ?_
      refine xJ_getR (b := (a + 3)) hX dX1_close_17 fd_X1_18 rfl (oX1_k hL) (oX1_r2 hL) ?_
      refine xJ_aload_n hX dX1_close_20 rfl ?_
      refine xJ_getI hX dX1_close_21 fd_X1_24 rfl (oX1_k hL) ?_
      refine xJ_iload_n hX dX1_close_24 rfl ?_
      obtain ⟨h25, hp⟩ := hp
      refine xJ_iastM hX dX1_close_25 (oX1_k2 hL) h25.1 (xnlt (oX1_n2 hL) h25.2) hM hx1 (fun M25 e25 hM25 => ?_)
      replace hp := hp M25 e25
      refine xJ_aload_n hX dX1_close_26 rfl ?_
      refine xJ_getR (b := (a + 4)) hX dX1_close_27 fd_X1_21 rfl (oX1_k hL) (oX1_r3 hL) ?_
      refine xJ_aload_n hX dX1_close_30 rfl ?_
      refine xJ_getI hX dX1_close_31 fd_X1_24 rfl (oX1_k hL) ?_
      refine xJ_iconst hX dX1_close_34 ?_
      obtain ⟨h35, hp⟩ := hp
      refine xJ_iastM hX dX1_close_35 (oX1_k3 hL) h35.1 (xnlt (oX1_n3 hL) h35.2) hM25 ⟨by decide, by decide⟩ (fun M35 e35 hM35 => ?_)
      replace hp := hp M35 e35
      refine xJ_aload_n hX dX1_close_36 rfl ?_
      refine xJ_dup hX dX1_close_37 rfl ?_
      refine xJ_getI hX dX1_close_38 fd_X1_24 rfl (oX1_k hL) ?_
      refine xJ_iconst hX dX1_close_41 ?_
      refine xJ_iadd hX dX1_close_42 ?_
      obtain ⟨h42, hp⟩ := hp
      refine xJ_putIM hX dX1_close_43 fd_X1_24 ft_X1 rfl rfl rfl rfl (oX1_k hL) hM35 h42 (fun M43 e43 hM43 => ?_)
      replace hp := hp M43 e43
      refine xJ_vret hX hB dX1_close_46 (by decide) (by decide) ⟨rfl, hM43, rfl, hp⟩
def p_X2_add (a : Nat) (x1 : Int) (x2 : Int) (x3 : Int) (M : xMe) (Q : xMe → Prop) : Prop :=
  (((M a 3) < 0 → Q M) ∧ (0 ≤ (M a 3) → (((M a 3) < 6 → ((0 : Int) ≤ (M a 3) ∧ ((M a 3) : Int) < 6) ∧ (∀ M26 : xMe, M26 = xw M (a + 1) (M a 3).toNat x1 → ((0 : Int) ≤ (M26 a 3) ∧ ((M26 a 3) : Int) < 6) ∧ (∀ M36 : xMe, M36 = xw M26 (a + 2) (M26 a 3).toNat x2 → ((0 : Int) ≤ (M36 a 3) ∧ ((M36 a 3) : Int) < 6) ∧ (∀ M46 : xMe, M46 = xw M36 (a + 3) (M36 a 3).toNat x3 → (xR ((M46 a 3) + 1)) ∧ (∀ M54 : xMe, M54 = xw M46 a 3 ((M46 a 3) + 1) → Q M54))))) ∧ (6 ≤ (M a 3) → Q M))))
set_option maxHeartbeats 4000000 in
set_option maxRecDepth 100000 in
theorem c_X2_add {G : xGx} {t : xTh} {M : xMe} {a : Nat} {x1 : Int} {x2 : Int} {x3 : Int} {Q : xMe → Prop} (hL : oX2 t a) (hM : xMR M) (hx1 : xR x1) (hx2 : xR x2) (hx3 : xR x3) (hp : p_X2_add a x1 x2 x3 M Q) : xCt G yX2_add cX2_add 4 none 0 0 0 [vr a, vi x1, vi x2, vi x3] t M (fun v t' M' => v = none ∧ xMR M' ∧ t' = t ∧ Q M') (fun _ _ _ => False) := by
  refine xCt_of (L0 := [vr a, vi x1, vi x2, vi x3]) (by decide +kernel) (Nat.le_of_ble_eq_true rfl) rfl ?_
  intro X hX hB
  unfold p_X2_add at hp
  refine xJ_aload_n hX dX2_add_0 rfl ?_
  refine xJ_getI hX dX2_add_1 fd_X2_21 rfl (oX2_k hL) ?_
  refine xJ_if_lt hX dX2_add_4 (tgt := 16) (by decide) (hM _ _) (fun c4 => ?_) (fun c4 => ?_)
  · replace hp := hp.1 c4
    refine xJ_vret hX hB dX2_add_16 (by decide) (by decide) ⟨rfl, hM, rfl, hp⟩
  · replace hp := hp.2 c4
    refine xJ_aload_n hX dX2_add_7 rfl ?_
    refine xJ_getI hX dX2_add_8 fd_X2_21 rfl (oX2_k hL) ?_
    refine xJ_bipush hX dX2_add_11 rfl ?_
    refine xJ_icmp_lt hX dX2_add_13 (tgt := 17) (by decide) (hM _ _) ⟨by decide, by decide⟩ (fun c13 => ?_) (fun c13 => ?_)
    · replace hp := hp.1 c13
      refine xJ_aload_n hX dX2_add_17 rfl ?_
      refine xJ_getR (b := (a + 1)) hX dX2_add_18 fd_X2_9 rfl (oX2_k hL) (oX2_r0 hL) ?_
      refine xJ_aload_n hX dX2_add_21 rfl ?_
      refine xJ_getI hX dX2_add_22 fd_X2_21 rfl (oX2_k hL) ?_
      refine xJ_iload_n hX dX2_add_25 rfl ?_
      obtain ⟨h26, hp⟩ := hp
      refine xJ_iastM hX dX2_add_26 (oX2_k0 hL) h26.1 (xnlt (oX2_n0 hL) h26.2) hM hx1 (fun M26 e26 hM26 => ?_)
      replace hp := hp M26 e26
      refine xJ_aload_n hX dX2_add_27 rfl ?_
      refine xJ_getR (b := (a + 2)) hX dX2_add_28 fd_X2_15 rfl (oX2_k hL) (oX2_r1 hL) ?_
      refine xJ_aload_n hX dX2_add_31 rfl ?_
      refine xJ_getI hX dX2_add_32 fd_X2_21 rfl (oX2_k hL) ?_
      refine xJ_iload_n hX dX2_add_35 rfl ?_
      obtain ⟨h36, hp⟩ := hp
      refine xJ_iastM hX dX2_add_36 (oX2_k1 hL) h36.1 (xnlt (oX2_n1 hL) h36.2) hM26 hx2 (fun M36 e36 hM36 => ?_)
      replace hp := hp M36 e36
      refine xJ_aload_n hX dX2_add_37 rfl ?_
      refine xJ_getR (b := (a + 3)) hX dX2_add_38 fd_X2_18 rfl (oX2_k hL) (oX2_r2 hL) ?_
      refine xJ_aload_n hX dX2_add_41 rfl ?_
      refine xJ_getI hX dX2_add_42 fd_X2_21 rfl (oX2_k hL) ?_
      refine xJ_iload_n hX dX2_add_45 rfl ?_
      obtain ⟨h46, hp⟩ := hp
      refine xJ_iastM hX dX2_add_46 (oX2_k2 hL) h46.1 (xnlt (oX2_n2 hL) h46.2) hM36 hx3 (fun M46 e46 hM46 => ?_)
      replace hp := hp M46 e46
      refine xJ_aload_n hX dX2_add_47 rfl ?_
      refine xJ_dup hX dX2_add_48 rfl ?_
      refine xJ_getI hX dX2_add_49 fd_X2_21 rfl (oX2_k hL) ?_
      refine xJ_iconst hX dX2_add_52 ?_
      refine xJ_iadd hX dX2_add_53 ?_
      obtain ⟨h53, hp⟩ := hp
      refine xJ_putIM hX dX2_add_54 fd_X2_21 ft_X2 rfl rfl rfl rfl (oX2_k hL) hM46 h53 (fun M54 e54 hM54 => ?_)
      replace hp := hp M54 e54
      refine xJ_vret hX hB dX2_add_57 (by decide) (by decide) ⟨rfl, hM54, rfl, hp⟩
    · replace hp := hp.2 c13
      refine xJ_vret hX hB dX2_add_16 (by decide) (by decide) ⟨rfl, hM, rfl, hp⟩
def p_X2_ticksBefore (a : Nat) (x1 : Int) (x2 : Int) (x3 : Int) (M : xMe) (Q : Int → xMe → Prop) : Prop :=
  ((x1 < 0 → Q 1000000 M) ∧ (0 ≤ x1 → (((M a 3) ≤ x1 → Q 1000000 M) ∧ (x1 < (M a 3) → ((0 : Int) ≤ x1 ∧ (x1 : Int) < 6) ∧ ((x3 ≤ (M (a + 2) x1.toNat) → ((0 : Int) ≤ x1 ∧ (x1 : Int) < 6) ∧ (xR (x2 + (M (a + 1) x1.toNat))) ∧ (((x2 + (M (a + 1) x1.toNat)) < x3 → ((0 : Int) ≤ x1 ∧ (x1 : Int) < 6) ∧ (((M (a + 1) x1.toNat) ≤ 0 → Q 1000000 M) ∧ (0 < (M (a + 1) x1.toNat) → (xR (x3 - x2)) ∧ (xR ((x3 - x2) - 1)) ∧ ((0 : Int) ≤ x1 ∧ (x1 : Int) < 6) ∧ ((M (a + 1) x1.toNat) ≠ (0 : Int) ∧ xR (Int.tdiv ((x3 - x2) - 1) (M (a + 1) x1.toNat))) ∧ Q (Int.tdiv ((x3 - x2) - 1) (M (a + 1) x1.toNat)) M))) ∧ (x3 ≤ (x2 + (M (a + 1) x1.toNat)) → Q 0 M))) ∧ ((M (a + 2) x1.toNat) < x3 → Q 1000000 M))))))
set_option maxHeartbeats 4000000 in
set_option maxRecDepth 100000 in
theorem c_X2_ticksBefore {G : xGx} {t : xTh} {M : xMe} {a : Nat} {x1 : Int} {x2 : Int} {x3 : Int} {Q : Int → xMe → Prop} (hL : oX2 t a) (hM : xMR M) (hx1 : xR x1) (hx2 : xR x2) (hx3 : xR x3) (hp : p_X2_ticksBefore a x1 x2 x3 M Q) : xCt G yX2_ticksBefore cX2_ticksBefore 4 (some .int) 0 0 0 [vr a, vi x1, vi x2, vi x3] t M (fun v t' M' => ∃ r, v = some (vi r) ∧ xR r ∧ xMR M' ∧ t' = t ∧ Q r M') (fun _ _ _ => False) := by
  refine xCt_of (L0 := [vr a, vi x1, vi x2, vi x3]) (by decide +kernel) (Nat.le_of_ble_eq_true rfl) rfl ?_
  intro X hX hB
  unfold p_X2_ticksBefore at hp
  refine xJ_iload_n hX dX2_ticksBefore_0 rfl ?_
  refine xJ_if_lt hX dX2_ticksBefore_1 (tgt := 22) (by decide) hx1 (fun c1 => ?_) (fun c1 => ?_)
  · replace hp := hp.1 c1
    refine xJ_ldc (1000000) hX dX2_ticksBefore_22 kc_X2_29 ?_
    refine xJ_iret hX hB dX2_ticksBefore_24 (by decide) (by decide) ⟨_, rfl, ⟨by decide, by decide⟩, hM, rfl, hp⟩
  · replace hp := hp.2 c1
    refine xJ_iload_n hX dX2_ticksBefore_4 rfl ?_
    refine xJ_aload_n hX dX2_ticksBefore_5 rfl ?_
    refine xJ_getI hX dX2_ticksBefore_6 fd_X2_21 rfl (oX2_k hL) ?_
    refine xJ_icmp_ge hX dX2_ticksBefore_9 (tgt := 22) (by decide) hx1 (hM _ _) (fun c9 => ?_) (fun c9 => ?_)
    · replace hp := hp.1 c9
      refine xJ_ldc (1000000) hX dX2_ticksBefore_22 kc_X2_29 ?_
      refine xJ_iret hX hB dX2_ticksBefore_24 (by decide) (by decide) ⟨_, rfl, ⟨by decide, by decide⟩, hM, rfl, hp⟩
    · replace hp := hp.2 c9
      refine xJ_iload_n hX dX2_ticksBefore_12 rfl ?_
      refine xJ_aload_n hX dX2_ticksBefore_13 rfl ?_
      refine xJ_getR (b := (a + 2)) hX dX2_ticksBefore_14 fd_X2_15 rfl (oX2_k hL) (oX2_r1 hL) ?_
      refine xJ_iload_n hX dX2_ticksBefore_17 rfl ?_
      obtain ⟨h18, hp⟩ := hp
      refine xJ_iald hX dX2_ticksBefore_18 (oX2_k1 hL) h18.1 (xnlt (oX2_n1 hL) h18.2) ?_
      refine xJ_icmp_le hX dX2_ticksBefore_19 (tgt := 25) (by decide) hx3 (hM _ _) (fun c19 => ?_) (fun c19 => ?_)
      · replace hp := hp.1 c19
        refine xJ_iload_n hX dX2_ticksBefore_25 rfl ?_
        refine xJ_iload_n hX dX2_ticksBefore_26 rfl ?_
        refine xJ_aload_n hX dX2_ticksBefore_27 rfl ?_
        refine xJ_getR (b := (a + 1)) hX dX2_ticksBefore_28 fd_X2_9 rfl (oX2_k hL) (oX2_r0 hL) ?_
        refine xJ_iload_n hX dX2_ticksBefore_31 rfl ?_
        obtain ⟨h32, hp⟩ := hp
        refine xJ_iald hX dX2_ticksBefore_32 (oX2_k0 hL) h32.1 (xnlt (oX2_n0 hL) h32.2) ?_
        refine xJ_iadd hX dX2_ticksBefore_33 ?_
        obtain ⟨h33, hp⟩ := hp
        refine xJ_icmp_gt hX dX2_ticksBefore_34 (tgt := 39) (by decide) hx3 h33 (fun c34 => ?_) (fun c34 => ?_)
        · replace hp := hp.1 c34
          refine xJ_aload_n hX dX2_ticksBefore_39 rfl ?_
          refine xJ_getR (b := (a + 1)) hX dX2_ticksBefore_40 fd_X2_9 rfl (oX2_k hL) (oX2_r0 hL) ?_
          refine xJ_iload_n hX dX2_ticksBefore_43 rfl ?_
          obtain ⟨h44, hp⟩ := hp
          refine xJ_iald hX dX2_ticksBefore_44 (oX2_k0 hL) h44.1 (xnlt (oX2_n0 hL) h44.2) ?_
          refine xJ_if_le hX dX2_ticksBefore_45 (tgt := 63) (by decide) (hM _ _) (fun c45 => ?_) (fun c45 => ?_)
          · replace hp := hp.1 c45
            refine xJ_ldc (1000000) hX dX2_ticksBefore_63 kc_X2_29 ?_
            refine xJ_iret hX hB dX2_ticksBefore_65 (by decide) (by decide) ⟨_, rfl, ⟨by decide, by decide⟩, hM, rfl, hp⟩
          · replace hp := hp.2 c45
            refine xJ_iload_n hX dX2_ticksBefore_48 rfl ?_
            refine xJ_iload_n hX dX2_ticksBefore_49 rfl ?_
            refine xJ_isub hX dX2_ticksBefore_50 ?_
            obtain ⟨h50, hp⟩ := hp
            refine xJ_iconst hX dX2_ticksBefore_51 ?_
            refine xJ_isub hX dX2_ticksBefore_52 ?_
            obtain ⟨h52, hp⟩ := hp
            refine xJ_aload_n hX dX2_ticksBefore_53 rfl ?_
            refine xJ_getR (b := (a + 1)) hX dX2_ticksBefore_54 fd_X2_9 rfl (oX2_k hL) (oX2_r0 hL) ?_
            refine xJ_iload_n hX dX2_ticksBefore_57 rfl ?_
            obtain ⟨h58, hp⟩ := hp
            refine xJ_iald hX dX2_ticksBefore_58 (oX2_k0 hL) h58.1 (xnlt (oX2_n0 hL) h58.2) ?_
            obtain ⟨h59, hp⟩ := hp
            refine xJ_idiv hX dX2_ticksBefore_59 h52 (hM _ _) h59.1 ?_
            refine xJ_goto hX dX2_ticksBefore_60 (tgt := 65) (by decide) ?_
            refine xJ_iret hX hB dX2_ticksBefore_65 (by decide) (by decide) ⟨_, rfl, h59.2, hM, rfl, hp⟩
        · replace hp := hp.2 c34
          refine xJ_iconst hX dX2_ticksBefore_37 ?_
          refine xJ_iret hX hB dX2_ticksBefore_38 (by decide) (by decide) ⟨_, rfl, ⟨by decide, by decide⟩, hM, rfl, hp⟩
      · replace hp := hp.2 c19
        refine xJ_ldc (1000000) hX dX2_ticksBefore_22 kc_X2_29 ?_
        refine xJ_iret hX hB dX2_ticksBefore_24 (by decide) (by decide) ⟨_, rfl, ⟨by decide, by decide⟩, hM, rfl, hp⟩
def p_X4_clear (a : Nat) (x1 : Int) (x2 : Int) (M : xMe) (Q : xMe → Prop) : Prop :=
  ((x1 < 0 → Q M) ∧ (0 ≤ x1 → ((36 ≤ x1 → Q M) ∧ (x1 < 36 → ((0 : Int) ≤ x1 ∧ (x1 : Int) < 36) ∧ (∀ M16 : xMe, M16 = xw M (a + 1) x1.toNat x2 → ((0 : Int) ≤ x1 ∧ (x1 : Int) < 36) ∧ (∀ M23 : xMe, M23 = xw M16 (a + 2) x1.toNat 0 → ((0 : Int) ≤ x1 ∧ (x1 : Int) < 36) ∧ (∀ M30 : xMe, M30 = xw M23 (a + 3) x1.toNat ((-1)) → ((0 : Int) ≤ x1 ∧ (x1 : Int) < 36) ∧ (∀ M37 : xMe, M37 = xw M30 (a + 4) x1.toNat ((-1)) → Q M37))))))))
set_option maxHeartbeats 4000000 in
set_option maxRecDepth 100000 in
theorem c_X4_clear {G : xGx} {t : xTh} {M : xMe} {a : Nat} {x1 : Int} {x2 : Int} {Q : xMe → Prop} (hL : oX4 t a) (hM : xMR M) (hx1 : xR x1) (hx2 : xR x2) (hp : p_X4_clear a x1 x2 M Q) : xCt G yX4_clear cX4_clear 3 none 0 0 0 [vr a, vi x1, vi x2] t M (fun v t' M' => v = none ∧ xMR M' ∧ t' = t ∧ Q M') (fun _ _ _ => False) := by
  refine xCt_of (L0 := [vr a, vi x1, vi x2]) (by decide +kernel) (Nat.le_of_ble_eq_true rfl) rfl ?_
  intro X hX hB
  unfold p_X4_clear at hp
  refine xJ_iload_n hX dX4_clear_0 rfl ?_
  refine xJ_if_lt hX dX4_clear_1 (tgt := 38) (by decide) hx1 (fun c1 => ?_) (fun c1 => ?_)
  · replace hp := hp.1 c1
    refine xJ_vret hX hB dX4_clear_38 (by decide) (by decide) ⟨rfl, hM, rfl, hp⟩
  · replace hp := hp.2 c1
    refine xJ_iload_n hX dX4_clear_4 rfl ?_
    refine xJ_bipush hX dX4_clear_5 rfl ?_
    refine xJ_icmp_ge hX dX4_clear_7 (tgt := 38) (by decide) hx1 ⟨by decide, by decide⟩ (fun c7 => ?_) (fun c7 => ?_)
    · replace hp := hp.1 c7
      refine xJ_vret hX hB dX4_clear_38 (by decide) (by decide) ⟨rfl, hM, rfl, hp⟩
    · replace hp := hp.2 c7
      refine xJ_aload_n hX dX4_clear_10 rfl ?_
      refine xJ_getR (b := (a + 1)) hX dX4_clear_11 fd_X4_11 rfl (oX4_k hL) (oX4_r0 hL) ?_
      refine xJ_iload_n hX dX4_clear_14 rfl ?_
      refine xJ_iload_n hX dX4_clear_15 rfl ?_
      obtain ⟨h16, hp⟩ := hp
      refine xJ_iastM hX dX4_clear_16 (oX4_k0 hL) h16.1 (xnlt (oX4_n0 hL) h16.2) hM hx2 (fun M16 e16 hM16 => ?_)
      replace hp := hp M16 e16
      refine xJ_aload_n hX dX4_clear_17 rfl ?_
      refine xJ_getR (b := (a + 2)) hX dX4_clear_18 fd_X4_15 rfl (oX4_k hL) (oX4_r1 hL) ?_
      refine xJ_iload_n hX dX4_clear_21 rfl ?_
      refine xJ_iconst hX dX4_clear_22 ?_
      obtain ⟨h23, hp⟩ := hp
      refine xJ_iastM hX dX4_clear_23 (oX4_k1 hL) h23.1 (xnlt (oX4_n1 hL) h23.2) hM16 ⟨by decide, by decide⟩ (fun M23 e23 hM23 => ?_)
      replace hp := hp M23 e23
      refine xJ_aload_n hX dX4_clear_24 rfl ?_
      refine xJ_getR (b := (a + 3)) hX dX4_clear_25 fd_X4_18 rfl (oX4_k hL) (oX4_r2 hL) ?_
      refine xJ_iload_n hX dX4_clear_28 rfl ?_
      refine xJ_iconst hX dX4_clear_29 ?_
      obtain ⟨h30, hp⟩ := hp
      refine xJ_iastM hX dX4_clear_30 (oX4_k2 hL) h30.1 (xnlt (oX4_n2 hL) h30.2) hM23 ⟨by decide, by decide⟩ (fun M30 e30 hM30 => ?_)
      replace hp := hp M30 e30
      refine xJ_aload_n hX dX4_clear_31 rfl ?_
      refine xJ_getR (b := (a + 4)) hX dX4_clear_32 fd_X4_21 rfl (oX4_k hL) (oX4_r3 hL) ?_
      refine xJ_iload_n hX dX4_clear_35 rfl ?_
      refine xJ_iconst hX dX4_clear_36 ?_
      obtain ⟨h37, hp⟩ := hp
      refine xJ_iastM hX dX4_clear_37 (oX4_k3 hL) h37.1 (xnlt (oX4_n3 hL) h37.2) hM30 ⟨by decide, by decide⟩ (fun M37 e37 hM37 => ?_)
      replace hp := hp M37 e37
      refine xJ_vret hX hB dX4_clear_38 (by decide) (by decide) ⟨rfl, hM37, rfl, hp⟩
def p_X4_firstIn (a : Nat) (x1 : Int) (M : xMe) (Q : Int → xMe → Prop) : Prop :=
  ((x1 < 0 → Q ((-1)) M) ∧ (0 ≤ x1 → ((36 ≤ x1 → Q ((-1)) M) ∧ (x1 < 36 → ((0 : Int) ≤ x1 ∧ (x1 : Int) < 36) ∧ ((0 < (M (a + 2) x1.toNat) → ((0 : Int) ≤ x1 ∧ (x1 : Int) < 36) ∧ (∀ z27 : Int, z27 = M (a + 3) x1.toNat → ((z27 < 0 → Q ((-1)) M) ∧ (0 ≤ z27 → ((40 ≤ z27 → Q ((-1)) M) ∧ (z27 < 40 → Q z27 M)))))) ∧ ((M (a + 2) x1.toNat) ≤ 0 → Q ((-1)) M))))))
set_option maxHeartbeats 4000000 in
set_option maxRecDepth 100000 in
theorem c_X4_firstIn {G : xGx} {t : xTh} {M : xMe} {a : Nat} {x1 : Int} {Q : Int → xMe → Prop} (hL : oX4 t a) (hM : xMR M) (hx1 : xR x1) (hp : p_X4_firstIn a x1 M Q) : xCt G yX4_firstIn cX4_firstIn 3 (some .int) 0 0 0 [vr a, vi x1] t M (fun v t' M' => ∃ r, v = some (vi r) ∧ xR r ∧ xMR M' ∧ t' = t ∧ Q r M') (fun _ _ _ => False) := by
  refine xCt_of (L0 := [vr a, vi x1, vU]) (by decide +kernel) (Nat.le_of_ble_eq_true rfl) rfl ?_
  intro X hX hB
  unfold p_X4_firstIn at hp
  refine xJ_iload_n hX dX4_firstIn_0 rfl ?_
  refine xJ_if_lt hX dX4_firstIn_1 (tgt := 19) (by decide) hx1 (fun c1 => ?_) (fun c1 => ?_)
  · replace hp := hp.1 c1
    refine xJ_iconst hX dX4_firstIn_19 ?_
    refine xJ_iret hX hB dX4_firstIn_20 (by decide) (by decide) ⟨_, rfl, ⟨by decide, by decide⟩, hM, rfl, hp⟩
  · replace hp := hp.2 c1
    refine xJ_iload_n hX dX4_firstIn_4 rfl ?_
    refine xJ_bipush hX dX4_firstIn_5 rfl ?_
    refine xJ_icmp_ge hX dX4_firstIn_7 (tgt := 19) (by decide) hx1 ⟨by decide, by decide⟩ (fun c7 => ?_) (fun c7 => ?_)
    · replace hp := hp.1 c7
      refine xJ_iconst hX dX4_firstIn_19 ?_
      refine xJ_iret hX hB dX4_firstIn_20 (by decide) (by decide) ⟨_, rfl, ⟨by decide, by decide⟩, hM, rfl, hp⟩
    · replace hp := hp.2 c7
      refine xJ_aload_n hX dX4_firstIn_10 rfl ?_
      refine xJ_getR (b := (a + 2)) hX dX4_firstIn_11 fd_X4_15 rfl (oX4_k hL) (oX4_r1 hL) ?_
      refine xJ_iload_n hX dX4_firstIn_14 rfl ?_
      obtain ⟨h15, hp⟩ := hp
      refine xJ_iald hX dX4_firstIn_15 (oX4_k1 hL) h15.1 (xnlt (oX4_n1 hL) h15.2) ?_
      refine xJ_if_gt hX dX4_firstIn_16 (tgt := 21) (by decide) (hM _ _) (fun c16 => ?_) (fun c16 => ?_)
      · replace hp := hp.1 c16
        refine xJ_aload_n hX dX4_firstIn_21 rfl ?_
        refine xJ_getR (b := (a + 3)) hX dX4_firstIn_22 fd_X4_18 rfl (oX4_k hL) (oX4_r2 hL) ?_
        refine xJ_iload_n hX dX4_firstIn_25 rfl ?_
        obtain ⟨h26, hp⟩ := hp
        refine xJ_iald hX dX4_firstIn_26 (oX4_k2 hL) h26.1 (xnlt (oX4_n2 hL) h26.2) ?_
        refine xJ_istore_n hX dX4_firstIn_27 (Nat.le_of_ble_eq_true rfl) rfl ?_
        dsimp only [List.set]
        replace hp := hp _ rfl
        refine xJ_iload_n hX dX4_firstIn_28 rfl ?_
        refine xJ_if_lt hX dX4_firstIn_29 (tgt := 42) (by decide) (hM _ _) (fun c29 => ?_) (fun c29 => ?_)
        · replace hp := hp.1 c29
          refine xJ_iconst hX dX4_firstIn_42 ?_
          refine xJ_iret hX hB dX4_firstIn_43 (by decide) (by decide) ⟨_, rfl, ⟨by decide, by decide⟩, hM, rfl, hp⟩
        · replace hp := hp.2 c29
          refine xJ_iload_n hX dX4_firstIn_32 rfl ?_
          refine xJ_bipush hX dX4_firstIn_33 rfl ?_
          refine xJ_icmp_ge hX dX4_firstIn_35 (tgt := 42) (by decide) (hM _ _) ⟨by decide, by decide⟩ (fun c35 => ?_) (fun c35 => ?_)
          · replace hp := hp.1 c35
            refine xJ_iconst hX dX4_firstIn_42 ?_
            refine xJ_iret hX hB dX4_firstIn_43 (by decide) (by decide) ⟨_, rfl, ⟨by decide, by decide⟩, hM, rfl, hp⟩
          · replace hp := hp.2 c35
            refine xJ_iload_n hX dX4_firstIn_38 rfl ?_
            refine xJ_goto hX dX4_firstIn_39 (tgt := 43) (by decide) ?_
            refine xJ_iret hX hB dX4_firstIn_43 (by decide) (by decide) ⟨_, rfl, (hM _ _), hM, rfl, hp⟩
      · replace hp := hp.2 c16
        refine xJ_iconst hX dX4_firstIn_19 ?_
        refine xJ_iret hX hB dX4_firstIn_20 (by decide) (by decide) ⟨_, rfl, ⟨by decide, by decide⟩, hM, rfl, hp⟩
def p_X4_join (a : Nat) (x1 : Int) (x2 : Int) (M : xMe) (Q : xMe → Prop) : Prop :=
  ((x1 < 0 → Q M) ∧ (0 ≤ x1 → ((36 ≤ x1 → Q M) ∧ (x1 < 36 → ((x2 < 0 → Q M) ∧ (0 ≤ x2 → ((x2 < 40 → ((0 : Int) ≤ x1 ∧ (x1 : Int) < 36) ∧ (∀ z27 : Int, z27 = M (a + 4) x1.toNat → ((0 : Int) ≤ x1 ∧ (x1 : Int) < 36) ∧ (((M (a + 2) x1.toNat) ≤ 0 → ((0 : Int) ≤ x1 ∧ (x1 : Int) < 36) ∧ (∀ M63 : xMe, M63 = xw M (a + 3) x1.toNat x2 → ((0 : Int) ≤ x1 ∧ (x1 : Int) < 36) ∧ (∀ M70 : xMe, M70 = xw M63 (a + 4) x1.toNat x2 → ((0 : Int) ≤ x2 ∧ (x2 : Int) < 40) ∧ (∀ M77 : xMe, M77 = xw M70 (a + 5) x2.toNat ((-1)) → ((0 : Int) ≤ x1 ∧ (x1 : Int) < 36) ∧ (xR ((M77 (a + 2) x1.toNat) + 1)) ∧ ((0 : Int) ≤ x1 ∧ (x1 : Int) < 36) ∧ (∀ M87 : xMe, M87 = xw M77 (a + 2) x1.toNat ((M77 (a + 2) x1.toNat) + 1) → Q M87))))) ∧ (0 < (M (a + 2) x1.toNat) → ((z27 < 0 → ((0 : Int) ≤ x1 ∧ (x1 : Int) < 36) ∧ (∀ M63 : xMe, M63 = xw M (a + 3) x1.toNat x2 → ((0 : Int) ≤ x1 ∧ (x1 : Int) < 36) ∧ (∀ M70 : xMe, M70 = xw M63 (a + 4) x1.toNat x2 → ((0 : Int) ≤ x2 ∧ (x2 : Int) < 40) ∧ (∀ M77 : xMe, M77 = xw M70 (a + 5) x2.toNat ((-1)) → ((0 : Int) ≤ x1 ∧ (x1 : Int) < 36) ∧ (xR ((M77 (a + 2) x1.toNat) + 1)) ∧ ((0 : Int) ≤ x1 ∧ (x1 : Int) < 36) ∧ (∀ M87 : xMe, M87 = xw M77 (a + 2) x1.toNat ((M77 (a + 2) x1.toNat) + 1) → Q M87))))) ∧ (0 ≤ z27 → ((40 ≤ z27 → ((0 : Int) ≤ x1 ∧ (x1 : Int) < 36) ∧ (∀ M63 : xMe, M63 = xw M (a + 3) x1.toNat x2 → ((0 : Int) ≤ x1 ∧ (x1 : Int) < 36) ∧ (∀ M70 : xMe, M70 = xw M63 (a + 4) x1.toNat x2 → ((0 : Int) ≤ x2 ∧ (x2 : Int) < 40) ∧ (∀ M77 : xMe, M77 = xw M70 (a + 5) x2.toNat ((-1)) → ((0 : Int) ≤ x1 ∧ (x1 : Int) < 36) ∧ (xR ((M77 (a + 2) x1.toNat) + 1)) ∧ ((0 : Int) ≤ x1 ∧ (x1 : Int) < 36) ∧ (∀ M87 : xMe, M87 = xw M77 (a + 2) x1.toNat ((M77 (a + 2) x1.toNat) + 1) → Q M87))))) ∧ (z27 < 40 → ((0 : Int) ≤ z27 ∧ (z27 : Int) < 40) ∧ (∀ M53 : xMe, M53 = xw M (a + 5) z27.toNat x2 → ((0 : Int) ≤ x1 ∧ (x1 : Int) < 36) ∧ (∀ M70 : xMe, M70 = xw M53 (a + 4) x1.toNat x2 → ((0 : Int) ≤ x2 ∧ (x2 : Int) < 40) ∧ (∀ M77 : xMe, M77 = xw M70 (a + 5) x2.toNat ((-1)) → ((0 : Int) ≤ x1 ∧ (x1 : Int) < 36) ∧ (xR ((M77 (a + 2) x1.toNat) + 1)) ∧ ((0 : Int) ≤ x1 ∧ (x1 : Int) < 36) ∧ (∀ M87 : xMe, M87 = xw M77 (a + 2) x1.toNat ((M77 (a + 2) x1.toNat) + 1) → Q M87)))))))))))) ∧ (40 ≤ x2 → Q M))))))))
set_option maxHeartbeats 4000000 in
set_option maxRecDepth 100000 in
theorem c_X4_join {G : xGx} {t : xTh} {M : xMe} {a : Nat} {x1 : Int} {x2 : Int} {Q : xMe → Prop} (hL : oX4 t a) (hM : xMR M) (hx1 : xR x1) (hx2 : xR x2) (hp : p_X4_join a x1 x2 M Q) : xCt G yX4_join cX4_join 4 none 0 0 0 [vr a, vi x1, vi x2] t M (fun v t' M' => v = none ∧ xMR M' ∧ t' = t ∧ Q M') (fun _ _ _ => False) := by
  refine xCt_of (L0 := [vr a, vi x1, vi x2, vU]) (by decide +kernel) (Nat.le_of_ble_eq_true rfl) rfl ?_
  intro X hX hB
  unfold p_X4_join at hp
  refine xJ_iload_n hX dX4_join_0 rfl ?_
  refine xJ_if_lt hX dX4_join_1 (tgt := 20) (by decide) hx1 (fun c1 => ?_) (fun c1 => ?_)
  · replace hp := hp.1 c1
    refine xJ_vret hX hB dX4_join_20 (by decide) (by decide) ⟨rfl, hM, rfl, hp⟩
  · replace hp := hp.2 c1
    refine xJ_iload_n hX dX4_join_4 rfl ?_
    refine xJ_bipush hX dX4_join_5 rfl ?_
    refine xJ_icmp_ge hX dX4_join_7 (tgt := 20) (by decide) hx1 ⟨by decide, by decide⟩ (fun c7 => ?_) (fun c7 => ?_)
    · replace hp := hp.1 c7
      refine xJ_vret hX hB dX4_join_20 (by decide) (by decide) ⟨rfl, hM, rfl, hp⟩
    · replace hp := hp.2 c7
      refine xJ_iload_n hX dX4_join_10 rfl ?_
      refine xJ_if_lt hX dX4_join_11 (tgt := 20) (by decide) hx2 (fun c11 => ?_) (fun c11 => ?_)
      · replace hp := hp.1 c11
        refine xJ_vret hX hB dX4_join_20 (by decide) (by decide) ⟨rfl, hM, rfl, hp⟩
      · replace hp := hp.2 c11
        refine xJ_iload_n hX dX4_join_14 rfl ?_
        refine xJ_bipush hX dX4_join_15 rfl ?_
        refine xJ_icmp_lt hX dX4_join_17 (tgt := 21) (by decide) hx2 ⟨by decide, by decide⟩ (fun c17 => ?_) (fun c17 => ?_)
        · replace hp := hp.1 c17
          refine xJ_aload_n hX dX4_join_21 rfl ?_
          refine xJ_getR (b := (a + 4)) hX dX4_join_22 fd_X4_21 rfl (oX4_k hL) (oX4_r3 hL) ?_
          refine xJ_iload_n hX dX4_join_25 rfl ?_
          obtain ⟨h26, hp⟩ := hp
          refine xJ_iald hX dX4_join_26 (oX4_k3 hL) h26.1 (xnlt (oX4_n3 hL) h26.2) ?_
          refine xJ_istore_n hX dX4_join_27 (Nat.le_of_ble_eq_true rfl) rfl ?_
          dsimp only [List.set]
          replace hp := hp _ rfl
          refine xJ_aload_n hX dX4_join_28 rfl ?_
          refine xJ_getR (b := (a + 2)) hX dX4_join_29 fd_X4_15 rfl (oX4_k hL) (oX4_r1 hL) ?_
          refine xJ_iload_n hX dX4_join_32 rfl ?_
          obtain ⟨h33, hp⟩ := hp
          refine xJ_iald hX dX4_join_33 (oX4_k1 hL) h33.1 (xnlt (oX4_n1 hL) h33.2) ?_
          refine xJ_if_le hX dX4_join_34 (tgt := 57) (by decide) (hM _ _) (fun c34 => ?_) (fun c34 => ?_)
          · replace hp := hp.1 c34
            refine xJ_aload_n hX dX4_join_57 rfl ?_
            refine xJ_getR (b := (a + 3)) hX dX4_join_58 fd_X4_18 rfl (oX4_k hL) (oX4_r2 hL) ?_
            refine xJ_iload_n hX dX4_join_61 rfl ?_
            refine xJ_iload_n hX dX4_join_62 rfl ?_
            obtain ⟨h63, hp⟩ := hp
            refine xJ_iastM hX dX4_join_63 (oX4_k2 hL) h63.1 (xnlt (oX4_n2 hL) h63.2) hM hx2 (fun M63 e63 hM63 => ?_)
            replace hp := hp M63 e63
            refine xJ_aload_n hX dX4_join_64 rfl ?_
            refine xJ_getR (b := (a + 4)) hX dX4_join_65 fd_X4_21 rfl (oX4_k hL) (oX4_r3 hL) ?_
            refine xJ_iload_n hX dX4_join_68 rfl ?_
            refine xJ_iload_n hX dX4_join_69 rfl ?_
            obtain ⟨h70, hp⟩ := hp
            refine xJ_iastM hX dX4_join_70 (oX4_k3 hL) h70.1 (xnlt (oX4_n3 hL) h70.2) hM63 hx2 (fun M70 e70 hM70 => ?_)
            replace hp := hp M70 e70
            refine xJ_aload_n hX dX4_join_71 rfl ?_
            refine xJ_getR (b := (a + 5)) hX dX4_join_72 fd_X4_24 rfl (oX4_k hL) (oX4_r4 hL) ?_
            refine xJ_iload_n hX dX4_join_75 rfl ?_
            refine xJ_iconst hX dX4_join_76 ?_
            obtain ⟨h77, hp⟩ := hp
            refine xJ_iastM hX dX4_join_77 (oX4_k4 hL) h77.1 (xnlt (oX4_n4 hL) h77.2) hM70 ⟨by decide, by decide⟩ (fun M77 e77 hM77 => ?_)
            replace hp := hp M77 e77
            refine xJ_aload_n hX dX4_join_78 rfl ?_
            refine xJ_getR (b := (a + 2)) hX dX4_join_79 fd_X4_15 rfl (oX4_k hL) (oX4_r1 hL) ?_
            refine xJ_iload_n hX dX4_join_82 rfl ?_
            refine xJ_dup2 hX dX4_join_83 rfl rfl ?_
            obtain ⟨h84, hp⟩ := hp
            refine xJ_iald hX dX4_join_84 (oX4_k1 hL) h84.1 (xnlt (oX4_n1 hL) h84.2) ?_
            refine xJ_iconst hX dX4_join_85 ?_
            refine xJ_iadd hX dX4_join_86 ?_
            obtain ⟨h86, hp⟩ := hp
            obtain ⟨h87, hp⟩ := hp
            refine xJ_iastM hX dX4_join_87 (oX4_k1 hL) h87.1 (xnlt (oX4_n1 hL) h87.2) hM77 h86 (fun M87 e87 hM87 => ?_)
            replace hp := hp M87 e87
            refine xJ_vret hX hB dX4_join_88 (by decide) (by decide) ⟨rfl, hM87, rfl, hp⟩
          · replace hp := hp.2 c34
            refine xJ_iload_n hX dX4_join_37 rfl ?_
            refine xJ_if_lt hX dX4_join_38 (tgt := 57) (by decide) (hM _ _) (fun c38 => ?_) (fun c38 => ?_)
            · replace hp := hp.1 c38
              refine xJ_aload_n hX dX4_join_57 rfl ?_
              refine xJ_getR (b := (a + 3)) hX dX4_join_58 fd_X4_18 rfl (oX4_k hL) (oX4_r2 hL) ?_
              refine xJ_iload_n hX dX4_join_61 rfl ?_
              refine xJ_iload_n hX dX4_join_62 rfl ?_
              obtain ⟨h63, hp⟩ := hp
              refine xJ_iastM hX dX4_join_63 (oX4_k2 hL) h63.1 (xnlt (oX4_n2 hL) h63.2) hM hx2 (fun M63 e63 hM63 => ?_)
              replace hp := hp M63 e63
              refine xJ_aload_n hX dX4_join_64 rfl ?_
              refine xJ_getR (b := (a + 4)) hX dX4_join_65 fd_X4_21 rfl (oX4_k hL) (oX4_r3 hL) ?_
              refine xJ_iload_n hX dX4_join_68 rfl ?_
              refine xJ_iload_n hX dX4_join_69 rfl ?_
              obtain ⟨h70, hp⟩ := hp
              refine xJ_iastM hX dX4_join_70 (oX4_k3 hL) h70.1 (xnlt (oX4_n3 hL) h70.2) hM63 hx2 (fun M70 e70 hM70 => ?_)
              replace hp := hp M70 e70
              refine xJ_aload_n hX dX4_join_71 rfl ?_
              refine xJ_getR (b := (a + 5)) hX dX4_join_72 fd_X4_24 rfl (oX4_k hL) (oX4_r4 hL) ?_
              refine xJ_iload_n hX dX4_join_75 rfl ?_
              refine xJ_iconst hX dX4_join_76 ?_
              obtain ⟨h77, hp⟩ := hp
              refine xJ_iastM hX dX4_join_77 (oX4_k4 hL) h77.1 (xnlt (oX4_n4 hL) h77.2) hM70 ⟨by decide, by decide⟩ (fun M77 e77 hM77 => ?_)
              replace hp := hp M77 e77
              refine xJ_aload_n hX dX4_join_78 rfl ?_
              refine xJ_getR (b := (a + 2)) hX dX4_join_79 fd_X4_15 rfl (oX4_k hL) (oX4_r1 hL) ?_
              refine xJ_iload_n hX dX4_join_82 rfl ?_
              refine xJ_dup2 hX dX4_join_83 rfl rfl ?_
              obtain ⟨h84, hp⟩ := hp
              refine xJ_iald hX dX4_join_84 (oX4_k1 hL) h84.1 (xnlt (oX4_n1 hL) h84.2) ?_
              refine xJ_iconst hX dX4_join_85 ?_
              refine xJ_iadd hX dX4_join_86 ?_
              obtain ⟨h86, hp⟩ := hp
              obtain ⟨h87, hp⟩ := hp
              refine xJ_iastM hX dX4_join_87 (oX4_k1 hL) h87.1 (xnlt (oX4_n1 hL) h87.2) hM77 h86 (fun M87 e87 hM87 => ?_)
              replace hp := hp M87 e87
              refine xJ_vret hX hB dX4_join_88 (by decide) (by decide) ⟨rfl, hM87, rfl, hp⟩
            · replace hp := hp.2 c38
              refine xJ_iload_n hX dX4_join_41 rfl ?_
              refine xJ_bipush hX dX4_join_42 rfl ?_
              refine xJ_icmp_ge hX dX4_join_44 (tgt := 57) (by decide) (hM _ _) ⟨by decide, by decide⟩ (fun c44 => ?_) (fun c44 => ?_)
              · replace hp := hp.1 c44
                refine xJ_aload_n hX dX4_join_57 rfl ?_
                refine xJ_getR (b := (a + 3)) hX dX4_join_58 fd_X4_18 rfl (oX4_k hL) (oX4_r2 hL) ?_
                refine xJ_iload_n hX dX4_join_61 rfl ?_
                refine xJ_iload_n hX dX4_join_62 rfl ?_
                obtain ⟨h63, hp⟩ := hp
                refine xJ_iastM hX dX4_join_63 (oX4_k2 hL) h63.1 (xnlt (oX4_n2 hL) h63.2) hM hx2 (fun M63 e63 hM63 => ?_)
                replace hp := hp M63 e63
                refine xJ_aload_n hX dX4_join_64 rfl ?_
                refine xJ_getR (b := (a + 4)) hX dX4_join_65 fd_X4_21 rfl (oX4_k hL) (oX4_r3 hL) ?_
                refine xJ_iload_n hX dX4_join_68 rfl ?_
                refine xJ_iload_n hX dX4_join_69 rfl ?_
                obtain ⟨h70, hp⟩ := hp
                refine xJ_iastM hX dX4_join_70 (oX4_k3 hL) h70.1 (xnlt (oX4_n3 hL) h70.2) hM63 hx2 (fun M70 e70 hM70 => ?_)
                replace hp := hp M70 e70
                refine xJ_aload_n hX dX4_join_71 rfl ?_
                refine xJ_getR (b := (a + 5)) hX dX4_join_72 fd_X4_24 rfl (oX4_k hL) (oX4_r4 hL) ?_
                refine xJ_iload_n hX dX4_join_75 rfl ?_
                refine xJ_iconst hX dX4_join_76 ?_
                obtain ⟨h77, hp⟩ := hp
                refine xJ_iastM hX dX4_join_77 (oX4_k4 hL) h77.1 (xnlt (oX4_n4 hL) h77.2) hM70 ⟨by decide, by decide⟩ (fun M77 e77 hM77 => ?_)
                replace hp := hp M77 e77
                refine xJ_aload_n hX dX4_join_78 rfl ?_
                refine xJ_getR (b := (a + 2)) hX dX4_join_79 fd_X4_15 rfl (oX4_k hL) (oX4_r1 hL) ?_
                refine xJ_iload_n hX dX4_join_82 rfl ?_
                refine xJ_dup2 hX dX4_join_83 rfl rfl ?_
                obtain ⟨h84, hp⟩ := hp
                refine xJ_iald hX dX4_join_84 (oX4_k1 hL) h84.1 (xnlt (oX4_n1 hL) h84.2) ?_
                refine xJ_iconst hX dX4_join_85 ?_
                refine xJ_iadd hX dX4_join_86 ?_
                obtain ⟨h86, hp⟩ := hp
                obtain ⟨h87, hp⟩ := hp
                refine xJ_iastM hX dX4_join_87 (oX4_k1 hL) h87.1 (xnlt (oX4_n1 hL) h87.2) hM77 h86 (fun M87 e87 hM87 => ?_)
                replace hp := hp M87 e87
                refine xJ_vret hX hB dX4_join_88 (by decide) (by decide) ⟨rfl, hM87, rfl, hp⟩
              · replace hp := hp.2 c44
                refine xJ_aload_n hX dX4_join_47 rfl ?_
                refine xJ_getR (b := (a + 5)) hX dX4_join_48 fd_X4_24 rfl (oX4_k hL) (oX4_r4 hL) ?_
                refine xJ_iload_n hX dX4_join_51 rfl ?_
                refine xJ_iload_n hX dX4_join_52 rfl ?_
                obtain ⟨h53, hp⟩ := hp
                refine xJ_iastM hX dX4_join_53 (oX4_k4 hL) h53.1 (xnlt (oX4_n4 hL) h53.2) hM hx2 (fun M53 e53 hM53 => ?_)
                replace hp := hp M53 e53
                refine xJ_goto hX dX4_join_54 (tgt := 64) (by decide) ?_
                refine xJ_aload_n hX dX4_join_64 rfl ?_
                refine xJ_getR (b := (a + 4)) hX dX4_join_65 fd_X4_21 rfl (oX4_k hL) (oX4_r3 hL) ?_
                refine xJ_iload_n hX dX4_join_68 rfl ?_
                refine xJ_iload_n hX dX4_join_69 rfl ?_
                obtain ⟨h70, hp⟩ := hp
                refine xJ_iastM hX dX4_join_70 (oX4_k3 hL) h70.1 (xnlt (oX4_n3 hL) h70.2) hM53 hx2 (fun M70 e70 hM70 => ?_)
                replace hp := hp M70 e70
                refine xJ_aload_n hX dX4_join_71 rfl ?_
                refine xJ_getR (b := (a + 5)) hX dX4_join_72 fd_X4_24 rfl (oX4_k hL) (oX4_r4 hL) ?_
                refine xJ_iload_n hX dX4_join_75 rfl ?_
                refine xJ_iconst hX dX4_join_76 ?_
                obtain ⟨h77, hp⟩ := hp
                refine xJ_iastM hX dX4_join_77 (oX4_k4 hL) h77.1 (xnlt (oX4_n4 hL) h77.2) hM70 ⟨by decide, by decide⟩ (fun M77 e77 hM77 => ?_)
                replace hp := hp M77 e77
                refine xJ_aload_n hX dX4_join_78 rfl ?_
                refine xJ_getR (b := (a + 2)) hX dX4_join_79 fd_X4_15 rfl (oX4_k hL) (oX4_r1 hL) ?_
                refine xJ_iload_n hX dX4_join_82 rfl ?_
                refine xJ_dup2 hX dX4_join_83 rfl rfl ?_
                obtain ⟨h84, hp⟩ := hp
                refine xJ_iald hX dX4_join_84 (oX4_k1 hL) h84.1 (xnlt (oX4_n1 hL) h84.2) ?_
                refine xJ_iconst hX dX4_join_85 ?_
                refine xJ_iadd hX dX4_join_86 ?_
                obtain ⟨h86, hp⟩ := hp
                obtain ⟨h87, hp⟩ := hp
                refine xJ_iastM hX dX4_join_87 (oX4_k1 hL) h87.1 (xnlt (oX4_n1 hL) h87.2) hM77 h86 (fun M87 e87 hM87 => ?_)
                replace hp := hp M87 e87
                refine xJ_vret hX hB dX4_join_88 (by decide) (by decide) ⟨rfl, hM87, rfl, hp⟩
        · replace hp := hp.2 c17
          refine xJ_vret hX hB dX4_join_20 (by decide) (by decide) ⟨rfl, hM, rfl, hp⟩
def p_X4_leave (a : Nat) (x1 : Int) (M : xMe) (Q : xMe → Prop) : Prop :=
  p_X4_firstIn a x1 M (fun r2 M2 => ((r2 < 0 → Q M2) ∧ (0 ≤ r2 → ((0 : Int) ≤ r2 ∧ (r2 : Int) < 40) ∧ ((0 : Int) ≤ x1 ∧ (x1 : Int) < 36) ∧ (∀ M21 : xMe, M21 = xw M2 (a + 3) x1.toNat (M2 (a + 5) r2.toNat) → ((0 : Int) ≤ x1 ∧ (x1 : Int) < 36) ∧ (xR ((M21 (a + 2) x1.toNat) - 1)) ∧ ((0 : Int) ≤ x1 ∧ (x1 : Int) < 36) ∧ (∀ M31 : xMe, M31 = xw M21 (a + 2) x1.toNat ((M21 (a + 2) x1.toNat) - 1) → Q M31)))))
set_option maxHeartbeats 4000000 in
set_option maxRecDepth 100000 in
theorem c_X4_leave {G : xGx} {t : xTh} {M : xMe} {a : Nat} {x1 : Int} {Q : xMe → Prop} (hL : oX4 t a) (hM : xMR M) (hx1 : xR x1) (hp : p_X4_leave a x1 M Q) : xCt G yX4_leave cX4_leave 3 none 1 0 0 [vr a, vi x1] t M (fun v t' M' => v = none ∧ xMR M' ∧ t' = t ∧ Q M') (fun _ _ _ => False) := by
  refine xCt_of (L0 := [vr a, vi x1, vU]) (by decide +kernel) (Nat.le_of_ble_eq_true rfl) rfl ?_
  intro X hX hB
  unfold p_X4_leave at hp
  refine xJ_aload_n hX dX4_leave_0 rfl ?_
  refine xJ_iload_n hX dX4_leave_1 rfl ?_
  refine xJ_callV (As := [_]) hX hB dX4_leave_2 lk_X4_31 im_X4_firstIn se_X4_firstIn rfl (by decide) (oX4_k hL) (c_X4_firstIn hL hM hx1 hp) (by decide) rfl rfl rfl (Nat.le_of_ble_eq_true rfl) (by decide) (by decide) (fun v t9 M2 hv => ?_) (fun _ _ _ q => q.elim)
  obtain ⟨r2, rfl, h2, hM2, ht9, hp⟩ := hv
  replace ht9 := ht9.symm
  subst ht9
  dsimp only [Option.toList, List.cons_append, List.nil_append]
  refine xJ_istore_n hX dX4_leave_5 (Nat.le_of_ble_eq_true rfl) rfl ?_
  dsimp only [List.set]
  refine xJ_iload_n hX dX4_leave_6 rfl ?_
  refine xJ_if_lt hX dX4_leave_7 (tgt := 32) (by decide) h2 (fun c7 => ?_) (fun c7 => ?_)
  · replace hp := hp.1 c7
    refine xJ_vret hX hB dX4_leave_32 (by decide) (by decide) ⟨rfl, hM2, rfl, hp⟩
  · replace hp := hp.2 c7
    refine xJ_aload_n hX dX4_leave_10 rfl ?_
    refine xJ_getR (b := (a + 3)) hX dX4_leave_11 fd_X4_18 rfl (oX4_k hL) (oX4_r2 hL) ?_
    refine xJ_iload_n hX dX4_leave_14 rfl ?_
    refine xJ_aload_n hX dX4_leave_15 rfl ?_
    refine xJ_getR (b := (a + 5)) hX dX4_leave_16 fd_X4_24 rfl (oX4_k hL) (oX4_r4 hL) ?_
    refine xJ_iload_n hX dX4_leave_19 rfl ?_
    obtain ⟨h20, hp⟩ := hp
    refine xJ_iald hX dX4_leave_20 (oX4_k4 hL) h20.1 (xnlt (oX4_n4 hL) h20.2) ?_
    obtain ⟨h21, hp⟩ := hp
    refine xJ_iastM hX dX4_leave_21 (oX4_k2 hL) h21.1 (xnlt (oX4_n2 hL) h21.2) hM2 (hM2 _ _) (fun M21 e21 hM21 => ?_)
    replace hp := hp M21 e21
    refine xJ_aload_n hX dX4_leave_22 rfl ?_
    refine xJ_getR (b := (a + 2)) hX dX4_leave_23 fd_X4_15 rfl (oX4_k hL) (oX4_r1 hL) ?_
    refine xJ_iload_n hX dX4_leave_26 rfl ?_
    refine xJ_dup2 hX dX4_leave_27 rfl rfl ?_
    obtain ⟨h28, hp⟩ := hp
    refine xJ_iald hX dX4_leave_28 (oX4_k1 hL) h28.1 (xnlt (oX4_n1 hL) h28.2) ?_
    refine xJ_iconst hX dX4_leave_29 ?_
    refine xJ_isub hX dX4_leave_30 ?_
    obtain ⟨h30, hp⟩ := hp
    obtain ⟨h31, hp⟩ := hp
    refine xJ_iastM hX dX4_leave_31 (oX4_k1 hL) h31.1 (xnlt (oX4_n1 hL) h31.2) hM21 h30 (fun M31 e31 hM31 => ?_)
    replace hp := hp M31 e31
    refine xJ_vret hX hB dX4_leave_32 (by decide) (by decide) ⟨rfl, hM31, rfl, hp⟩
def p_X5_add (a : Nat) (x1 : Int) (x2 : Int) (x3 : Int) (M : xMe) (Q : xMe → Prop) : Prop :=
  (((M a 8) < 0 → Q M) ∧ (0 ≤ (M a 8) → (((M a 8) < 40 → ((0 : Int) ≤ (M a 8) ∧ ((M a 8) : Int) < 40) ∧ (∀ M26 : xMe, M26 = xw M (a + 1) (M a 8).toNat x1 → ((0 : Int) ≤ (M26 a 8) ∧ ((M26 a 8) : Int) < 40) ∧ (∀ M36 : xMe, M36 = xw M26 (a + 2) (M26 a 8).toNat x2 → ((0 : Int) ≤ (M36 a 8) ∧ ((M36 a 8) : Int) < 40) ∧ (∀ M46 : xMe, M46 = xw M36 (a + 3) (M36 a 8).toNat x3 → ((0 : Int) ≤ (M46 a 8) ∧ ((M46 a 8) : Int) < 40) ∧ (∀ M56 : xMe, M56 = xw M46 (a + 4) (M46 a 8).toNat 0 → ((0 : Int) ≤ (M56 a 8) ∧ ((M56 a 8) : Int) < 40) ∧ (∀ M66 : xMe, M66 = xw M56 (a + 5) (M56 a 8).toNat 0 → ((0 : Int) ≤ (M66 a 8) ∧ ((M66 a 8) : Int) < 40) ∧ (∀ M76 : xMe, M76 = xw M66 (a + 6) (M66 a 8).toNat 0 → ((0 : Int) ≤ (M76 a 8) ∧ ((M76 a 8) : Int) < 40) ∧ (∀ M86 : xMe, M86 = xw M76 (a + 7) (M76 a 8).toNat 0 → ((0 : Int) ≤ (M86 a 8) ∧ ((M86 a 8) : Int) < 40) ∧ (∀ M96 : xMe, M96 = xw M86 (a + 8) (M86 a 8).toNat ((-1)) → (xR ((M96 a 8) + 1)) ∧ (∀ M104 : xMe, M104 = xw M96 a 8 ((M96 a 8) + 1) → Q M104)))))))))) ∧ (40 ≤ (M a 8) → Q M))))
set_option maxHeartbeats 4000000 in
set_option maxRecDepth 100000 in
theorem c_X5_add {G : xGx} {t : xTh} {M : xMe} {a : Nat} {x1 : Int} {x2 : Int} {x3 : Int} {Q : xMe → Prop} (hL : oX5 t a) (hM : xMR M) (hx1 : xR x1) (hx2 : xR x2) (hx3 : xR x3) (hp : p_X5_add a x1 x2 x3 M Q) : xCt G yX5_add cX5_add 4 none 0 0 0 [vr a, vi x1, vi x2, vi x3] t M (fun v t' M' => v = none ∧ xMR M' ∧ t' = t ∧ Q M') (fun _ _ _ => False) := by
  refine xCt_of (L0 := [vr a, vi x1, vi x2, vi x3]) (by decide +kernel) (Nat.le_of_ble_eq_true rfl) rfl ?_
  intro X hX hB
  unfold p_X5_add at hp
  refine xJ_aload_n hX dX5_add_0 rfl ?_
  refine xJ_getI hX dX5_add_1 fd_X5_36 rfl (oX5_k hL) ?_
  refine xJ_if_lt hX dX5_add_4 (tgt := 16) (by decide) (hM _ _) (fun c4 => ?_) (fun c4 => ?_)
  · replace hp := hp.1 c4
    refine xJ_vret hX hB dX5_add_16 (by decide) (by decide) ⟨rfl, hM, rfl, hp⟩
  · replace hp := hp.2 c4
    refine xJ_aload_n hX dX5_add_7 rfl ?_
    refine xJ_getI hX dX5_add_8 fd_X5_36 rfl (oX5_k hL) ?_
    refine xJ_bipush hX dX5_add_11 rfl ?_
    refine xJ_icmp_lt hX dX5_add_13 (tgt := 17) (by decide) (hM _ _) ⟨by decide, by decide⟩ (fun c13 => ?_) (fun c13 => ?_)
    · replace hp := hp.1 c13
      refine xJ_aload_n hX dX5_add_17 rfl ?_
      refine xJ_getR (b := (a + 1)) hX dX5_add_18 fd_X5_9 rfl (oX5_k hL) (oX5_r0 hL) ?_
      refine xJ_aload_n hX dX5_add_21 rfl ?_
      refine xJ_getI hX dX5_add_22 fd_X5_36 rfl (oX5_k hL) ?_
      refine xJ_iload_n hX dX5_add_25 rfl ?_
      obtain ⟨h26, hp⟩ := hp
      refine xJ_iastM hX dX5_add_26 (oX5_k0 hL) h26.1 (xnlt (oX5_n0 hL) h26.2) hM hx1 (fun M26 e26 hM26 => ?_)
      replace hp := hp M26 e26
      refine xJ_aload_n hX dX5_add_27 rfl ?_
      refine xJ_getR (b := (a + 2)) hX dX5_add_28 fd_X5_15 rfl (oX5_k hL) (oX5_r1 hL) ?_
      refine xJ_aload_n hX dX5_add_31 rfl ?_
      refine xJ_getI hX dX5_add_32 fd_X5_36 rfl (oX5_k hL) ?_
      refine xJ_iload_n hX dX5_add_35 rfl ?_
      obtain ⟨h36, hp⟩ := hp
      refine xJ_iastM hX dX5_add_36 (oX5_k1 hL) h36.1 (xnlt (oX5_n1 hL) h36.2) hM26 hx2 (fun M36 e36 hM36 => ?_)
      replace hp := hp M36 e36
      refine xJ_aload_n hX dX5_add_37 rfl ?_
      refine xJ_getR (b := (a + 3)) hX dX5_add_38 fd_X5_18 rfl (oX5_k hL) (oX5_r2 hL) ?_
      refine xJ_aload_n hX dX5_add_41 rfl ?_
      refine xJ_getI hX dX5_add_42 fd_X5_36 rfl (oX5_k hL) ?_
      refine xJ_iload_n hX dX5_add_45 rfl ?_
      obtain ⟨h46, hp⟩ := hp
      refine xJ_iastM hX dX5_add_46 (oX5_k2 hL) h46.1 (xnlt (oX5_n2 hL) h46.2) hM36 hx3 (fun M46 e46 hM46 => ?_)
      replace hp := hp M46 e46
      refine xJ_aload_n hX dX5_add_47 rfl ?_
      refine xJ_getR (b := (a + 4)) hX dX5_add_48 fd_X5_21 rfl (oX5_k hL) (oX5_r3 hL) ?_
      refine xJ_aload_n hX dX5_add_51 rfl ?_
      refine xJ_getI hX dX5_add_52 fd_X5_36 rfl (oX5_k hL) ?_
      refine xJ_iconst hX dX5_add_55 ?_
      obtain ⟨h56, hp⟩ := hp
      refine xJ_iastM hX dX5_add_56 (oX5_k3 hL) h56.1 (xnlt (oX5_n3 hL) h56.2) hM46 ⟨by decide, by decide⟩ (fun M56 e56 hM56 => ?_)
      replace hp := hp M56 e56
      refine xJ_aload_n hX dX5_add_57 rfl ?_
      refine xJ_getR (b := (a + 5)) hX dX5_add_58 fd_X5_24 rfl (oX5_k hL) (oX5_r4 hL) ?_
      refine xJ_aload_n hX dX5_add_61 rfl ?_
      refine xJ_getI hX dX5_add_62 fd_X5_36 rfl (oX5_k hL) ?_
      refine xJ_iconst hX dX5_add_65 ?_
      obtain ⟨h66, hp⟩ := hp
      refine xJ_iastM hX dX5_add_66 (oX5_k4 hL) h66.1 (xnlt (oX5_n4 hL) h66.2) hM56 ⟨by decide, by decide⟩ (fun M66 e66 hM66 => ?_)
      replace hp := hp M66 e66
      refine xJ_aload_n hX dX5_add_67 rfl ?_
      refine xJ_getR (b := (a + 6)) hX dX5_add_68 fd_X5_27 rfl (oX5_k hL) (oX5_r5 hL) ?_
      refine xJ_aload_n hX dX5_add_71 rfl ?_
      refine xJ_getI hX dX5_add_72 fd_X5_36 rfl (oX5_k hL) ?_
      refine xJ_iconst hX dX5_add_75 ?_
      obtain ⟨h76, hp⟩ := hp
      refine xJ_iastM hX dX5_add_76 (oX5_k5 hL) h76.1 (xnlt (oX5_n5 hL) h76.2) hM66 ⟨by decide, by decide⟩ (fun M76 e76 hM76 => ?_)
      replace hp := hp M76 e76
      refine xJ_aload_n hX dX5_add_77 rfl ?_
      refine xJ_getR (b := (a + 7)) hX dX5_add_78 fd_X5_30 rfl (oX5_k hL) (oX5_r6 hL) ?_
      refine xJ_aload_n hX dX5_add_81 rfl ?_
      refine xJ_getI hX dX5_add_82 fd_X5_36 rfl (oX5_k hL) ?_
      refine xJ_iconst hX dX5_add_85 ?_
      obtain ⟨h86, hp⟩ := hp
      refine xJ_iastM hX dX5_add_86 (oX5_k6 hL) h86.1 (xnlt (oX5_n6 hL) h86.2) hM76 ⟨by decide, by decide⟩ (fun M86 e86 hM86 => ?_)
      replace hp := hp M86 e86
      refine xJ_aload_n hX dX5_add_87 rfl ?_
      refine xJ_getR (b := (a + 8)) hX dX5_add_88 fd_X5_33 rfl (oX5_k hL) (oX5_r7 hL) ?_
      refine xJ_aload_n hX dX5_add_91 rfl ?_
      refine xJ_getI hX dX5_add_92 fd_X5_36 rfl (oX5_k hL) ?_
      refine xJ_iconst hX dX5_add_95 ?_
      obtain ⟨h96, hp⟩ := hp
      refine xJ_iastM hX dX5_add_96 (oX5_k7 hL) h96.1 (xnlt (oX5_n7 hL) h96.2) hM86 ⟨by decide, by decide⟩ (fun M96 e96 hM96 => ?_)
      replace hp := hp M96 e96
      refine xJ_aload_n hX dX5_add_97 rfl ?_
      refine xJ_dup hX dX5_add_98 rfl ?_
      refine xJ_getI hX dX5_add_99 fd_X5_36 rfl (oX5_k hL) ?_
      refine xJ_iconst hX dX5_add_102 ?_
      refine xJ_iadd hX dX5_add_103 ?_
      obtain ⟨h103, hp⟩ := hp
      refine xJ_putIM hX dX5_add_104 fd_X5_36 ft_X5 rfl rfl rfl rfl (oX5_k hL) hM96 h103 (fun M104 e104 hM104 => ?_)
      replace hp := hp M104 e104
      refine xJ_vret hX hB dX5_add_107 (by decide) (by decide) ⟨rfl, hM104, rfl, hp⟩
    · replace hp := hp.2 c13
      refine xJ_vret hX hB dX5_add_16 (by decide) (by decide) ⟨rfl, hM, rfl, hp⟩
def p_X5_hasEnded (a : Nat) (x1 : Int) (M : xMe) (Q : Int → xMe → Prop) : Prop :=
  ((x1 < 0 → Q 0 M) ∧ (0 ≤ x1 → (((M a 8) ≤ x1 → Q 0 M) ∧ (x1 < (M a 8) → ((0 : Int) ≤ x1 ∧ (x1 : Int) < 40) ∧ (((M (a + 4) x1.toNat) < 3 → Q 0 M) ∧ (3 ≤ (M (a + 4) x1.toNat) → Q 1 M))))))
set_option maxHeartbeats 4000000 in
set_option maxRecDepth 100000 in
theorem c_X5_hasEnded {G : xGx} {t : xTh} {M : xMe} {a : Nat} {x1 : Int} {Q : Int → xMe → Prop} (hL : oX5 t a) (hM : xMR M) (hx1 : xR x1) (hp : p_X5_hasEnded a x1 M Q) : xCt G yX5_hasEnded cX5_hasEnded 2 (some .boolean) 0 0 0 [vr a, vi x1] t M (fun v t' M' => ∃ r, v = some (vi r) ∧ xR r ∧ xMR M' ∧ t' = t ∧ Q r M') (fun _ _ _ => False) := by
  refine xCt_of (L0 := [vr a, vi x1]) (by decide +kernel) (Nat.le_of_ble_eq_true rfl) rfl ?_
  intro X hX hB
  unfold p_X5_hasEnded at hp
  refine xJ_iload_n hX dX5_hasEnded_0 rfl ?_
  refine xJ_if_lt hX dX5_hasEnded_1 (tgt := 26) (by decide) hx1 (fun c1 => ?_) (fun c1 => ?_)
  · replace hp := hp.1 c1
    refine xJ_iconst hX dX5_hasEnded_26 ?_
    refine xJ_zret hX hB dX5_hasEnded_27 rfl (by decide) (by decide) ⟨_, rfl, ⟨by decide, by decide⟩, hM, rfl, hp⟩
  · replace hp := hp.2 c1
    refine xJ_iload_n hX dX5_hasEnded_4 rfl ?_
    refine xJ_aload_n hX dX5_hasEnded_5 rfl ?_
    refine xJ_getI hX dX5_hasEnded_6 fd_X5_36 rfl (oX5_k hL) ?_
    refine xJ_icmp_ge hX dX5_hasEnded_9 (tgt := 26) (by decide) hx1 (hM _ _) (fun c9 => ?_) (fun c9 => ?_)
    · replace hp := hp.1 c9
      refine xJ_iconst hX dX5_hasEnded_26 ?_
      refine xJ_zret hX hB dX5_hasEnded_27 rfl (by decide) (by decide) ⟨_, rfl, ⟨by decide, by decide⟩, hM, rfl, hp⟩
    · replace hp := hp.2 c9
      refine xJ_aload_n hX dX5_hasEnded_12 rfl ?_
      refine xJ_getR (b := (a + 4)) hX dX5_hasEnded_13 fd_X5_21 rfl (oX5_k hL) (oX5_r3 hL) ?_
      refine xJ_iload_n hX dX5_hasEnded_16 rfl ?_
      obtain ⟨h17, hp⟩ := hp
      refine xJ_iald hX dX5_hasEnded_17 (oX5_k3 hL) h17.1 (xnlt (oX5_n3 hL) h17.2) ?_
      refine xJ_iconst hX dX5_hasEnded_18 ?_
      refine xJ_icmp_lt hX dX5_hasEnded_19 (tgt := 26) (by decide) (hM _ _) ⟨by decide, by decide⟩ (fun c19 => ?_) (fun c19 => ?_)
      · replace hp := hp.1 c19
        refine xJ_iconst hX dX5_hasEnded_26 ?_
        refine xJ_zret hX hB dX5_hasEnded_27 rfl (by decide) (by decide) ⟨_, rfl, ⟨by decide, by decide⟩, hM, rfl, hp⟩
      · replace hp := hp.2 c19
        refine xJ_iconst hX dX5_hasEnded_22 ?_
        refine xJ_goto hX dX5_hasEnded_23 (tgt := 27) (by decide) ?_
        refine xJ_zret hX hB dX5_hasEnded_27 rfl (by decide) (by decide) ⟨_, rfl, ⟨by decide, by decide⟩, hM, rfl, hp⟩
def p_X5_countIn_4 (F : Nat) (a : Nat) (Q : Int → xMe → Prop) : Nat → Int → Int → Int → xMe → Prop
  | 0, _, _, _, _ => False
  | k + 1, x1, x2, x3, M =>
    (((M a 8) ≤ x3 → Q x2 M) ∧ (x3 < (M a 8) → ((0 : Int) ≤ x3 ∧ (x3 : Int) < 40) ∧ (((M (a + 4) x3.toNat) ≠ x1 → (xR (x3 + 1)) ∧ p_X5_countIn_4 F a Q k x1 x2 (x3 + 1) M) ∧ ((M (a + 4) x3.toNat) = x1 → (xR (x2 + 1)) ∧ (xR (x3 + 1)) ∧ p_X5_countIn_4 F a Q k x1 (x2 + 1) (x3 + 1) M))))
def p_X5_countIn (F : Nat) (a : Nat) (x1 : Int) (M : xMe) (Q : Int → xMe → Prop) : Prop :=
  p_X5_countIn_4 F a Q F x1 0 0 M
set_option maxHeartbeats 4000000 in
set_option maxRecDepth 100000 in
theorem c_X5_countIn {G : xGx} {t : xTh} {M : xMe} {F : Nat} {a : Nat} {x1 : Int} {Q : Int → xMe → Prop} (hL : oX5 t a) (hM : xMR M) (hx1 : xR x1) (hp : p_X5_countIn F a x1 M Q) : xCt G yX5_countIn cX5_countIn 4 (some .int) 0 0 0 [vr a, vi x1] t M (fun v t' M' => ∃ r, v = some (vi r) ∧ xR r ∧ xMR M' ∧ t' = t ∧ Q r M') (fun _ _ _ => False) := by
  refine xCt_of (L0 := [vr a, vi x1, vU, vU]) (by decide +kernel) (Nat.le_of_ble_eq_true rfl) rfl ?_
  intro X hX hB
  unfold p_X5_countIn at hp
  refine xJ_iconst hX dX5_countIn_0 ?_
  refine xJ_istore_n hX dX5_countIn_1 (Nat.le_of_ble_eq_true rfl) rfl ?_
  dsimp only [List.set]
  refine xJ_iconst hX dX5_countIn_2 ?_
  refine xJ_istore_n hX dX5_countIn_3 (Nat.le_of_ble_eq_true rfl) rfl ?_
  dsimp only [List.set]
  have lp4 : ∀ (k : Nat) (x1 : Int) (x2 : Int) (x3 : Int) (M : xMe) (hM : xMR M) (hx1 : xR x1) (hx2 : xR x2) (hx3 : xR x3) (hp : p_X5_countIn_4 F a Q k x1 x2 x3 M), xJ X 0 0 t M 4 [vr a, vi x1, vi x2, vi x3] [] := by
    intro k
    induction k with
    | zero => intro x1 x2 x3 M hM hx1 hx2 hx3 hp; exact hp.elim
    | succ k ih =>
      intro x1 x2 x3 M hM hx1 hx2 hx3 hp
      unfold p_X5_countIn_4 at hp
      refine xJ_iload_n hX dX5_countIn_4 rfl ?_
      refine xJ_aload_n hX dX5_countIn_5 rfl ?_
      refine xJ_getI hX dX5_countIn_6 fd_X5_36 rfl (oX5_k hL) ?_
      refine xJ_icmp_ge hX dX5_countIn_9 (tgt := 31) (by decide) hx3 (hM _ _) (fun c9 => ?_) (fun c9 => ?_)
      · replace hp := hp.1 c9
        refine xJ_iload_n hX dX5_countIn_31 rfl ?_
        refine xJ_iret hX hB dX5_countIn_32 (by decide) (by decide) ⟨_, rfl, hx2, hM, rfl, hp⟩
      · replace hp := hp.2 c9
        refine xJ_aload_n hX dX5_countIn_12 rfl ?_
        refine xJ_getR (b := (a + 4)) hX dX5_countIn_13 fd_X5_21 rfl (oX5_k hL) (oX5_r3 hL) ?_
        refine xJ_iload_n hX dX5_countIn_16 rfl ?_
        obtain ⟨h17, hp⟩ := hp
        refine xJ_iald hX dX5_countIn_17 (oX5_k3 hL) h17.1 (xnlt (oX5_n3 hL) h17.2) ?_
        refine xJ_iload_n hX dX5_countIn_18 rfl ?_
        refine xJ_icmp_ne hX dX5_countIn_19 (tgt := 25) (by decide) (hM _ _) hx1 (fun c19 => ?_) (fun c19 => ?_)
        · replace hp := hp.1 c19
          refine xJ_iinc hX dX5_countIn_25 rfl rfl ?_
          dsimp only [List.set]
          obtain ⟨h25, hp⟩ := hp
          refine xJ_goto hX dX5_countIn_28 (tgt := 4) (by decide) ?_
          exact ih _ _ _ _ hM hx1 hx2 h25 hp
        · replace hp := hp.2 c19
          refine xJ_iinc hX dX5_countIn_22 rfl rfl ?_
          dsimp only [List.set]
          obtain ⟨h22, hp⟩ := hp
          refine xJ_iinc hX dX5_countIn_25 rfl rfl ?_
          dsimp only [List.set]
          obtain ⟨h25, hp⟩ := hp
          refine xJ_goto hX dX5_countIn_28 (tgt := 4) (by decide) ?_
          exact ih _ _ _ _ hM hx1 h22 h25 hp
  refine lp4 F _ _ _ _ hM hx1 ⟨by decide, by decide⟩ ⟨by decide, by decide⟩ hp
def p_X5_deliveredSizeOf_4 (F : Nat) (a : Nat) (Q : Int → xMe → Prop) : Nat → Int → Int → Int → xMe → Prop
  | 0, _, _, _, _ => False
  | k + 1, x1, x2, x3, M =>
    (((M a 8) ≤ x3 → Q x2 M) ∧ (x3 < (M a 8) → ((0 : Int) ≤ x3 ∧ (x3 : Int) < 40) ∧ (((M (a + 1) x3.toNat) ≠ x1 → (xR (x3 + 1)) ∧ p_X5_deliveredSizeOf_4 F a Q k x1 x2 (x3 + 1) M) ∧ ((M (a + 1) x3.toNat) = x1 → ((0 : Int) ≤ x3 ∧ (x3 : Int) < 40) ∧ (((M (a + 4) x3.toNat) ≠ 3 → (xR (x3 + 1)) ∧ p_X5_deliveredSizeOf_4 F a Q k x1 x2 (x3 + 1) M) ∧ ((M (a + 4) x3.toNat) = 3 → ((0 : Int) ≤ x3 ∧ (x3 : Int) < 40) ∧ (xR (x2 + (M (a + 3) x3.toNat))) ∧ (∀ z40 : Int, z40 = x2 + (M (a + 3) x3.toNat) → (xR (x3 + 1)) ∧ p_X5_deliveredSizeOf_4 F a Q k x1 z40 (x3 + 1) M)))))))
def p_X5_deliveredSizeOf (F : Nat) (a : Nat) (x1 : Int) (M : xMe) (Q : Int → xMe → Prop) : Prop :=
  p_X5_deliveredSizeOf_4 F a Q F x1 0 0 M
set_option maxHeartbeats 4000000 in
set_option maxRecDepth 100000 in
theorem c_X5_deliveredSizeOf {G : xGx} {t : xTh} {M : xMe} {F : Nat} {a : Nat} {x1 : Int} {Q : Int → xMe → Prop} (hL : oX5 t a) (hM : xMR M) (hx1 : xR x1) (hp : p_X5_deliveredSizeOf F a x1 M Q) : xCt G yX5_deliveredSizeOf cX5_deliveredSizeOf 4 (some .int) 0 0 0 [vr a, vi x1] t M (fun v t' M' => ∃ r, v = some (vi r) ∧ xR r ∧ xMR M' ∧ t' = t ∧ Q r M') (fun _ _ _ => False) := by
  refine xCt_of (L0 := [vr a, vi x1, vU, vU]) (by decide +kernel) (Nat.le_of_ble_eq_true rfl) rfl ?_
  intro X hX hB
  unfold p_X5_deliveredSizeOf at hp
  refine xJ_iconst hX dX5_deliveredSizeOf_0 ?_
  refine xJ_istore_n hX dX5_deliveredSizeOf_1 (Nat.le_of_ble_eq_true rfl) rfl ?_
  dsimp only [List.set]
  refine xJ_iconst hX dX5_deliveredSizeOf_2 ?_
  refine xJ_istore_n hX dX5_deliveredSizeOf_3 (Nat.le_of_ble_eq_true rfl) rfl ?_
  dsimp only [List.set]
  have lp4 : ∀ (k : Nat) (x1 : Int) (x2 : Int) (x3 : Int) (M : xMe) (hM : xMR M) (hx1 : xR x1) (hx2 : xR x2) (hx3 : xR x3) (hp : p_X5_deliveredSizeOf_4 F a Q k x1 x2 x3 M), xJ X 0 0 t M 4 [vr a, vi x1, vi x2, vi x3] [] := by
    intro k
    induction k with
    | zero => intro x1 x2 x3 M hM hx1 hx2 hx3 hp; exact hp.elim
    | succ k ih =>
      intro x1 x2 x3 M hM hx1 hx2 hx3 hp
      unfold p_X5_deliveredSizeOf_4 at hp
      refine xJ_iload_n hX dX5_deliveredSizeOf_4 rfl ?_
      refine xJ_aload_n hX dX5_deliveredSizeOf_5 rfl ?_
      refine xJ_getI hX dX5_deliveredSizeOf_6 fd_X5_36 rfl (oX5_k hL) ?_
      refine xJ_icmp_ge hX dX5_deliveredSizeOf_9 (tgt := 47) (by decide) hx3 (hM _ _) (fun c9 => ?_) (fun c9 => ?_)
      · replace hp := hp.1 c9
        refine xJ_iload_n hX dX5_deliveredSizeOf_47 rfl ?_
        refine xJ_iret hX hB dX5_deliveredSizeOf_48 (by decide) (by decide) ⟨_, rfl, hx2, hM, rfl, hp⟩
      · replace hp := hp.2 c9
        refine xJ_aload_n hX dX5_deliveredSizeOf_12 rfl ?_
        refine xJ_getR (b := (a + 1)) hX dX5_deliveredSizeOf_13 fd_X5_9 rfl (oX5_k hL) (oX5_r0 hL) ?_
        refine xJ_iload_n hX dX5_deliveredSizeOf_16 rfl ?_
        obtain ⟨h17, hp⟩ := hp
        refine xJ_iald hX dX5_deliveredSizeOf_17 (oX5_k0 hL) h17.1 (xnlt (oX5_n0 hL) h17.2) ?_
        refine xJ_iload_n hX dX5_deliveredSizeOf_18 rfl ?_
        refine xJ_icmp_ne hX dX5_deliveredSizeOf_19 (tgt := 41) (by decide) (hM _ _) hx1 (fun c19 => ?_) (fun c19 => ?_)
        · replace hp := hp.1 c19
          refine xJ_iinc hX dX5_deliveredSizeOf_41 rfl rfl ?_
          dsimp only [List.set]
          obtain ⟨h41, hp⟩ := hp
          refine xJ_goto hX dX5_deliveredSizeOf_44 (tgt := 4) (by decide) ?_
          exact ih _ _ _ _ hM hx1 hx2 h41 hp
        · replace hp := hp.2 c19
          refine xJ_aload_n hX dX5_deliveredSizeOf_22 rfl ?_
          refine xJ_getR (b := (a + 4)) hX dX5_deliveredSizeOf_23 fd_X5_21 rfl (oX5_k hL) (oX5_r3 hL) ?_
          refine xJ_iload_n hX dX5_deliveredSizeOf_26 rfl ?_
          obtain ⟨h27, hp⟩ := hp
          refine xJ_iald hX dX5_deliveredSizeOf_27 (oX5_k3 hL) h27.1 (xnlt (oX5_n3 hL) h27.2) ?_
          refine xJ_iconst hX dX5_deliveredSizeOf_28 ?_
          refine xJ_icmp_ne hX dX5_deliveredSizeOf_29 (tgt := 41) (by decide) (hM _ _) ⟨by decide, by decide⟩ (fun c29 => ?_) (fun c29 => ?_)
          · replace hp := hp.1 c29
            refine xJ_iinc hX dX5_deliveredSizeOf_41 rfl rfl ?_
            dsimp only [List.set]
            obtain ⟨h41, hp⟩ := hp
            refine xJ_goto hX dX5_deliveredSizeOf_44 (tgt := 4) (by decide) ?_
            exact ih _ _ _ _ hM hx1 hx2 h41 hp
          · replace hp := hp.2 c29
            refine xJ_iload_n hX dX5_deliveredSizeOf_32 rfl ?_
            refine xJ_aload_n hX dX5_deliveredSizeOf_33 rfl ?_
            refine xJ_getR (b := (a + 3)) hX dX5_deliveredSizeOf_34 fd_X5_18 rfl (oX5_k hL) (oX5_r2 hL) ?_
            refine xJ_iload_n hX dX5_deliveredSizeOf_37 rfl ?_
            obtain ⟨h38, hp⟩ := hp
            refine xJ_iald hX dX5_deliveredSizeOf_38 (oX5_k2 hL) h38.1 (xnlt (oX5_n2 hL) h38.2) ?_
            refine xJ_iadd hX dX5_deliveredSizeOf_39 ?_
            obtain ⟨h39, hp⟩ := hp
            refine xJ_istore_n hX dX5_deliveredSizeOf_40 (Nat.le_of_ble_eq_true rfl) rfl ?_
            dsimp only [List.set]
            replace hp := hp _ rfl
            refine xJ_iinc hX dX5_deliveredSizeOf_41 rfl rfl ?_
            dsimp only [List.set]
            obtain ⟨h41, hp⟩ := hp
            refine xJ_goto hX dX5_deliveredSizeOf_44 (tgt := 4) (by decide) ?_
            exact ih _ _ _ _ hM hx1 h39 h41 hp
  refine lp4 F _ _ _ _ hM hx1 ⟨by decide, by decide⟩ ⟨by decide, by decide⟩ hp
def p_X6_clear (a : Nat) (M : xMe) (Q : xMe → Prop) : Prop :=
  (∀ M2 : xMe, M2 = xw M a 5 0 → (∀ M7 : xMe, M7 = xw M2 a 6 0 → Q M7))
set_option maxHeartbeats 4000000 in
set_option maxRecDepth 100000 in
theorem c_X6_clear {G : xGx} {t : xTh} {M : xMe} {a : Nat} {Q : xMe → Prop} (hL : oX6 t a) (hM : xMR M)(hp : p_X6_clear a M Q) : xCt G yX6_clear cX6_clear 1 none 0 0 0 [vr a] t M (fun v t' M' => v = none ∧ xMR M' ∧ t' = t ∧ Q M') (fun _ _ _ => False) := by
  refine xCt_of (L0 := [vr a]) (by decide +kernel) (Nat.le_of_ble_eq_true rfl) rfl ?_
  intro X hX hB
  unfold p_X6_clear at hp
  refine xJ_aload_n hX dX6_clear_0 rfl ?_
  refine xJ_iconst hX dX6_clear_1 ?_
  refine xJ_putIM hX dX6_clear_2 fd_X6_27 ft_X6 rfl rfl rfl rfl (oX6_k hL) hM ⟨by decide, by decide⟩ (fun M2 e2 hM2 => ?_)
  replace hp := hp M2 e2
  refine xJ_aload_n hX dX6_clear_5 rfl ?_
  refine xJ_iconst hX dX6_clear_6 ?_
  refine xJ_putIM hX dX6_clear_7 fd_X6_31 ft_X6 rfl rfl rfl rfl (oX6_k hL) hM2 ⟨by decide, by decide⟩ (fun M7 e7 hM7 => ?_)
  replace hp := hp M7 e7
  refine xJ_vret hX hB dX6_clear_10 (by decide) (by decide) ⟨rfl, hM7, rfl, hp⟩
def p_X6_add (a : Nat) (x1 : Int) (x2 : Int) (x3 : Int) (x4 : Int) (x5 : Int) (M : xMe) (Q : xMe → Prop) : Prop :=
  ((40 ≤ (M a 5) → (∀ z20 : Int, z20 = M a 6 → ((z20 < 0 → Q M) ∧ (0 ≤ z20 → ((z20 < 40 → ((0 : Int) ≤ z20 ∧ (z20 : Int) < 40) ∧ (∀ M42 : xMe, M42 = xw M (a + 1) z20.toNat x1 → ((0 : Int) ≤ z20 ∧ (z20 : Int) < 40) ∧ (∀ M50 : xMe, M50 = xw M42 (a + 2) z20.toNat x2 → ((0 : Int) ≤ z20 ∧ (z20 : Int) < 40) ∧ (∀ M58 : xMe, M58 = xw M50 (a + 3) z20.toNat x3 → ((0 : Int) ≤ z20 ∧ (z20 : Int) < 40) ∧ (∀ M67 : xMe, M67 = xw M58 (a + 4) z20.toNat x4 → ((0 : Int) ≤ z20 ∧ (z20 : Int) < 40) ∧ (∀ M76 : xMe, M76 = xw M67 (a + 5) z20.toNat x5 → ((40 ≤ (M76 a 5) → (xR ((M76 a 6) + 1)) ∧ (40 ≠ (0 : Int) ∧ xR (Int.tmod ((M76 a 6) + 1) 40)) ∧ (∀ M109 : xMe, M109 = xw M76 a 6 (Int.tmod ((M76 a 6) + 1) 40) → Q M109)) ∧ ((M76 a 5) < 40 → (xR ((M76 a 5) + 1)) ∧ (∀ M93 : xMe, M93 = xw M76 a 5 ((M76 a 5) + 1) → Q M93))))))))) ∧ (40 ≤ z20 → Q M)))))) ∧ ((M a 5) < 40 → (∀ z20 : Int, z20 = M a 5 → ((z20 < 0 → Q M) ∧ (0 ≤ z20 → ((z20 < 40 → ((0 : Int) ≤ z20 ∧ (z20 : Int) < 40) ∧ (∀ M42 : xMe, M42 = xw M (a + 1) z20.toNat x1 → ((0 : Int) ≤ z20 ∧ (z20 : Int) < 40) ∧ (∀ M50 : xMe, M50 = xw M42 (a + 2) z20.toNat x2 → ((0 : Int) ≤ z20 ∧ (z20 : Int) < 40) ∧ (∀ M58 : xMe, M58 = xw M50 (a + 3) z20.toNat x3 → ((0 : Int) ≤ z20 ∧ (z20 : Int) < 40) ∧ (∀ M67 : xMe, M67 = xw M58 (a + 4) z20.toNat x4 → ((0 : Int) ≤ z20 ∧ (z20 : Int) < 40) ∧ (∀ M76 : xMe, M76 = xw M67 (a + 5) z20.toNat x5 → ((40 ≤ (M76 a 5) → (xR ((M76 a 6) + 1)) ∧ (40 ≠ (0 : Int) ∧ xR (Int.tmod ((M76 a 6) + 1) 40)) ∧ (∀ M109 : xMe, M109 = xw M76 a 6 (Int.tmod ((M76 a 6) + 1) 40) → Q M109)) ∧ ((M76 a 5) < 40 → (xR ((M76 a 5) + 1)) ∧ (∀ M93 : xMe, M93 = xw M76 a 5 ((M76 a 5) + 1) → Q M93))))))))) ∧ (40 ≤ z20 → Q M)))))))
set_option maxHeartbeats 4000000 in
set_option maxRecDepth 100000 in
theorem c_X6_add {G : xGx} {t : xTh} {M : xMe} {a : Nat} {x1 : Int} {x2 : Int} {x3 : Int} {x4 : Int} {x5 : Int} {Q : xMe → Prop} (hL : oX6 t a) (hM : xMR M) (hx1 : xR x1) (hx2 : xR x2) (hx3 : xR x3) (hx4 : xR x4) (hx5 : xR x5) (hp : p_X6_add a x1 x2 x3 x4 x5 M Q) : xCt G yX6_add cX6_add 7 none 0 0 0 [vr a, vi x1, vi x2, vi x3, vi x4, vi x5] t M (fun v t' M' => v = none ∧ xMR M' ∧ t' = t ∧ Q M') (fun _ _ _ => False) := by
  refine xCt_of (L0 := [vr a, vi x1, vi x2, vi x3, vi x4, vi x5, vU]) (by decide +kernel) (Nat.le_of_ble_eq_true rfl) rfl ?_
  intro X hX hB
  unfold p_X6_add at hp
  refine xJ_aload_n hX dX6_add_0 rfl ?_
  refine xJ_getI hX dX6_add_1 fd_X6_27 rfl (oX6_k hL) ?_
  refine xJ_bipush hX dX6_add_4 rfl ?_
  refine xJ_icmp_ge hX dX6_add_6 (tgt := 16) (by decide) (hM _ _) ⟨by decide, by decide⟩ (fun c6 => ?_) (fun c6 => ?_)
  · replace hp := hp.1 c6
    refine xJ_aload_n hX dX6_add_16 rfl ?_
    refine xJ_getI hX dX6_add_17 fd_X6_31 rfl (oX6_k hL) ?_
    refine xJ_istore hX dX6_add_20 (Nat.le_of_ble_eq_true rfl) rfl ?_
    dsimp only [List.set]
    replace hp := hp _ rfl
    refine xJ_iload hX dX6_add_22 rfl ?_
    refine xJ_if_lt hX dX6_add_24 (tgt := 34) (by decide) (hM _ _) (fun c24 => ?_) (fun c24 => ?_)
    · replace hp := hp.1 c24
      refine xJ_vret hX hB dX6_add_34 (by decide) (by decide) ⟨rfl, hM, rfl, hp⟩
    · replace hp := hp.2 c24
      refine xJ_iload hX dX6_add_27 rfl ?_
      refine xJ_bipush hX dX6_add_29 rfl ?_
      refine xJ_icmp_lt hX dX6_add_31 (tgt := 35) (by decide) (hM _ _) ⟨by decide, by decide⟩ (fun c31 => ?_) (fun c31 => ?_)
      · replace hp := hp.1 c31
        refine xJ_aload_n hX dX6_add_35 rfl ?_
        refine xJ_getR (b := (a + 1)) hX dX6_add_36 fd_X6_9 rfl (oX6_k hL) (oX6_r0 hL) ?_
        refine xJ_iload hX dX6_add_39 rfl ?_
        refine xJ_iload_n hX dX6_add_41 rfl ?_
        obtain ⟨h42, hp⟩ := hp
        refine xJ_iastM hX dX6_add_42 (oX6_k0 hL) h42.1 (xnlt (oX6_n0 hL) h42.2) hM hx1 (fun M42 e42 hM42 => ?_)
        replace hp := hp M42 e42
        refine xJ_aload_n hX dX6_add_43 rfl ?_
        refine xJ_getR (b := (a + 2)) hX dX6_add_44 fd_X6_15 rfl (oX6_k hL) (oX6_r1 hL) ?_
        refine xJ_iload hX dX6_add_47 rfl ?_
        refine xJ_iload_n hX dX6_add_49 rfl ?_
        obtain ⟨h50, hp⟩ := hp
        refine xJ_iastM hX dX6_add_50 (oX6_k1 hL) h50.1 (xnlt (oX6_n1 hL) h50.2) hM42 hx2 (fun M50 e50 hM50 => ?_)
        replace hp := hp M50 e50
        refine xJ_aload_n hX dX6_add_51 rfl ?_
        refine xJ_getR (b := (a + 3)) hX dX6_add_52 fd_X6_18 rfl (oX6_k hL) (oX6_r2 hL) ?_
        refine xJ_iload hX dX6_add_55 rfl ?_
        refine xJ_iload_n hX dX6_add_57 rfl ?_
        obtain ⟨h58, hp⟩ := hp
        refine xJ_iastM hX dX6_add_58 (oX6_k2 hL) h58.1 (xnlt (oX6_n2 hL) h58.2) hM50 hx3 (fun M58 e58 hM58 => ?_)
        replace hp := hp M58 e58
        refine xJ_aload_n hX dX6_add_59 rfl ?_
        refine xJ_getR (b := (a + 4)) hX dX6_add_60 fd_X6_21 rfl (oX6_k hL) (oX6_r3 hL) ?_
        refine xJ_iload hX dX6_add_63 rfl ?_
        refine xJ_iload hX dX6_add_65 rfl ?_
        obtain ⟨h67, hp⟩ := hp
        refine xJ_iastM hX dX6_add_67 (oX6_k3 hL) h67.1 (xnlt (oX6_n3 hL) h67.2) hM58 hx4 (fun M67 e67 hM67 => ?_)
        replace hp := hp M67 e67
        refine xJ_aload_n hX dX6_add_68 rfl ?_
        refine xJ_getR (b := (a + 5)) hX dX6_add_69 fd_X6_24 rfl (oX6_k hL) (oX6_r4 hL) ?_
        refine xJ_iload hX dX6_add_72 rfl ?_
        refine xJ_iload hX dX6_add_74 rfl ?_
        obtain ⟨h76, hp⟩ := hp
        refine xJ_iastM hX dX6_add_76 (oX6_k4 hL) h76.1 (xnlt (oX6_n4 hL) h76.2) hM67 hx5 (fun M76 e76 hM76 => ?_)
        replace hp := hp M76 e76
        refine xJ_aload_n hX dX6_add_77 rfl ?_
        refine xJ_getI hX dX6_add_78 fd_X6_27 rfl (oX6_k hL) ?_
        refine xJ_bipush hX dX6_add_81 rfl ?_
        refine xJ_icmp_ge hX dX6_add_83 (tgt := 99) (by decide) (hM76 _ _) ⟨by decide, by decide⟩ (fun c83 => ?_) (fun c83 => ?_)
        · replace hp := hp.1 c83
          refine xJ_aload_n hX dX6_add_99 rfl ?_
          refine xJ_aload_n hX dX6_add_100 rfl ?_
          refine xJ_getI hX dX6_add_101 fd_X6_31 rfl (oX6_k hL) ?_
          refine xJ_iconst hX dX6_add_104 ?_
          refine xJ_iadd hX dX6_add_105 ?_
          obtain ⟨h105, hp⟩ := hp
          refine xJ_bipush hX dX6_add_106 rfl ?_
          obtain ⟨h108, hp⟩ := hp
          refine xJ_irem hX dX6_add_108 h105 ⟨by decide, by decide⟩ h108.1 ?_
          refine xJ_putIM hX dX6_add_109 fd_X6_31 ft_X6 rfl rfl rfl rfl (oX6_k hL) hM76 h108.2 (fun M109 e109 hM109 => ?_)
          replace hp := hp M109 e109
          refine xJ_vret hX hB dX6_add_112 (by decide) (by decide) ⟨rfl, hM109, rfl, hp⟩
        · replace hp := hp.2 c83
          refine xJ_aload_n hX dX6_add_86 rfl ?_
          refine xJ_dup hX dX6_add_87 rfl ?_
          refine xJ_getI hX dX6_add_88 fd_X6_27 rfl (oX6_k hL) ?_
          refine xJ_iconst hX dX6_add_91 ?_
          refine xJ_iadd hX dX6_add_92 ?_
          obtain ⟨h92, hp⟩ := hp
          refine xJ_putIM hX dX6_add_93 fd_X6_27 ft_X6 rfl rfl rfl rfl (oX6_k hL) hM76 h92 (fun M93 e93 hM93 => ?_)
          replace hp := hp M93 e93
          refine xJ_goto hX dX6_add_96 (tgt := 112) (by decide) ?_
          refine xJ_vret hX hB dX6_add_112 (by decide) (by decide) ⟨rfl, hM93, rfl, hp⟩
      · replace hp := hp.2 c31
        refine xJ_vret hX hB dX6_add_34 (by decide) (by decide) ⟨rfl, hM, rfl, hp⟩
  · replace hp := hp.2 c6
    refine xJ_aload_n hX dX6_add_9 rfl ?_
    refine xJ_getI hX dX6_add_10 fd_X6_27 rfl (oX6_k hL) ?_
    refine xJ_goto hX dX6_add_13 (tgt := 20) (by decide) ?_
    refine xJ_istore hX dX6_add_20 (Nat.le_of_ble_eq_true rfl) rfl ?_
    dsimp only [List.set]
    replace hp := hp _ rfl
    refine xJ_iload hX dX6_add_22 rfl ?_
    refine xJ_if_lt hX dX6_add_24 (tgt := 34) (by decide) (hM _ _) (fun c24 => ?_) (fun c24 => ?_)
    · replace hp := hp.1 c24
      refine xJ_vret hX hB dX6_add_34 (by decide) (by decide) ⟨rfl, hM, rfl, hp⟩
    · replace hp := hp.2 c24
      refine xJ_iload hX dX6_add_27 rfl ?_
      refine xJ_bipush hX dX6_add_29 rfl ?_
      refine xJ_icmp_lt hX dX6_add_31 (tgt := 35) (by decide) (hM _ _) ⟨by decide, by decide⟩ (fun c31 => ?_) (fun c31 => ?_)
      · replace hp := hp.1 c31
        refine xJ_aload_n hX dX6_add_35 rfl ?_
        refine xJ_getR (b := (a + 1)) hX dX6_add_36 fd_X6_9 rfl (oX6_k hL) (oX6_r0 hL) ?_
        refine xJ_iload hX dX6_add_39 rfl ?_
        refine xJ_iload_n hX dX6_add_41 rfl ?_
        obtain ⟨h42, hp⟩ := hp
        refine xJ_iastM hX dX6_add_42 (oX6_k0 hL) h42.1 (xnlt (oX6_n0 hL) h42.2) hM hx1 (fun M42 e42 hM42 => ?_)
        replace hp := hp M42 e42
        refine xJ_aload_n hX dX6_add_43 rfl ?_
        refine xJ_getR (b := (a + 2)) hX dX6_add_44 fd_X6_15 rfl (oX6_k hL) (oX6_r1 hL) ?_
        refine xJ_iload hX dX6_add_47 rfl ?_
        refine xJ_iload_n hX dX6_add_49 rfl ?_
        obtain ⟨h50, hp⟩ := hp
        refine xJ_iastM hX dX6_add_50 (oX6_k1 hL) h50.1 (xnlt (oX6_n1 hL) h50.2) hM42 hx2 (fun M50 e50 hM50 => ?_)
        replace hp := hp M50 e50
        refine xJ_aload_n hX dX6_add_51 rfl ?_
        refine xJ_getR (b := (a + 3)) hX dX6_add_52 fd_X6_18 rfl (oX6_k hL) (oX6_r2 hL) ?_
        refine xJ_iload hX dX6_add_55 rfl ?_
        refine xJ_iload_n hX dX6_add_57 rfl ?_
        obtain ⟨h58, hp⟩ := hp
        refine xJ_iastM hX dX6_add_58 (oX6_k2 hL) h58.1 (xnlt (oX6_n2 hL) h58.2) hM50 hx3 (fun M58 e58 hM58 => ?_)
        replace hp := hp M58 e58
        refine xJ_aload_n hX dX6_add_59 rfl ?_
        refine xJ_getR (b := (a + 4)) hX dX6_add_60 fd_X6_21 rfl (oX6_k hL) (oX6_r3 hL) ?_
        refine xJ_iload hX dX6_add_63 rfl ?_
        refine xJ_iload hX dX6_add_65 rfl ?_
        obtain ⟨h67, hp⟩ := hp
        refine xJ_iastM hX dX6_add_67 (oX6_k3 hL) h67.1 (xnlt (oX6_n3 hL) h67.2) hM58 hx4 (fun M67 e67 hM67 => ?_)
        replace hp := hp M67 e67
        refine xJ_aload_n hX dX6_add_68 rfl ?_
        refine xJ_getR (b := (a + 5)) hX dX6_add_69 fd_X6_24 rfl (oX6_k hL) (oX6_r4 hL) ?_
        refine xJ_iload hX dX6_add_72 rfl ?_
        refine xJ_iload hX dX6_add_74 rfl ?_
        obtain ⟨h76, hp⟩ := hp
        refine xJ_iastM hX dX6_add_76 (oX6_k4 hL) h76.1 (xnlt (oX6_n4 hL) h76.2) hM67 hx5 (fun M76 e76 hM76 => ?_)
        replace hp := hp M76 e76
        refine xJ_aload_n hX dX6_add_77 rfl ?_
        refine xJ_getI hX dX6_add_78 fd_X6_27 rfl (oX6_k hL) ?_
        refine xJ_bipush hX dX6_add_81 rfl ?_
        refine xJ_icmp_ge hX dX6_add_83 (tgt := 99) (by decide) (hM76 _ _) ⟨by decide, by decide⟩ (fun c83 => ?_) (fun c83 => ?_)
        · replace hp := hp.1 c83
          refine xJ_aload_n hX dX6_add_99 rfl ?_
          refine xJ_aload_n hX dX6_add_100 rfl ?_
          refine xJ_getI hX dX6_add_101 fd_X6_31 rfl (oX6_k hL) ?_
          refine xJ_iconst hX dX6_add_104 ?_
          refine xJ_iadd hX dX6_add_105 ?_
          obtain ⟨h105, hp⟩ := hp
          refine xJ_bipush hX dX6_add_106 rfl ?_
          obtain ⟨h108, hp⟩ := hp
          refine xJ_irem hX dX6_add_108 h105 ⟨by decide, by decide⟩ h108.1 ?_
          refine xJ_putIM hX dX6_add_109 fd_X6_31 ft_X6 rfl rfl rfl rfl (oX6_k hL) hM76 h108.2 (fun M109 e109 hM109 => ?_)
          replace hp := hp M109 e109
          refine xJ_vret hX hB dX6_add_112 (by decide) (by decide) ⟨rfl, hM109, rfl, hp⟩
        · replace hp := hp.2 c83
          refine xJ_aload_n hX dX6_add_86 rfl ?_
          refine xJ_dup hX dX6_add_87 rfl ?_
          refine xJ_getI hX dX6_add_88 fd_X6_27 rfl (oX6_k hL) ?_
          refine xJ_iconst hX dX6_add_91 ?_
          refine xJ_iadd hX dX6_add_92 ?_
          obtain ⟨h92, hp⟩ := hp
          refine xJ_putIM hX dX6_add_93 fd_X6_27 ft_X6 rfl rfl rfl rfl (oX6_k hL) hM76 h92 (fun M93 e93 hM93 => ?_)
          replace hp := hp M93 e93
          refine xJ_goto hX dX6_add_96 (tgt := 112) (by decide) ?_
          refine xJ_vret hX hB dX6_add_112 (by decide) (by decide) ⟨rfl, hM93, rfl, hp⟩
      · replace hp := hp.2 c31
        refine xJ_vret hX hB dX6_add_34 (by decide) (by decide) ⟨rfl, hM, rfl, hp⟩
def p_X11_copyRow (b0 : Nat) (n0 : Nat) (b1 : Nat) (n1 : Nat) (x2 : Int) (M : xMe) (Q : xMe → Prop) : Prop :=
  ((x2 ≤ 0 → Q M) ∧ (0 < x2 → (((((n0 : Nat) : Int)) < x2 → Q M) ∧ (x2 ≤ (((n0 : Nat) : Int)) → (((((n1 : Nat) : Int)) < x2 → Q M) ∧ (x2 ≤ (((n1 : Nat) : Int)) → (((0 : Int) ≤ 0 ∧ (0 : Int) ≤ 0 ∧ (0 : Int) ≤ x2) ∧ 0 + x2 ≤ n0 ∧ 0 + x2 ≤ n1) ∧ (∀ M21 : xMe, M21 = xcp M b0 b1 0 0 x2.toNat → Q M21)))))))
set_option maxHeartbeats 4000000 in
set_option maxRecDepth 100000 in
theorem c_X11_copyRow {G : xGx} {t : xTh} {M : xMe} {b0 : Nat} {n0 : Nat} {b1 : Nat} {n1 : Nat} {x2 : Int} {Q : xMe → Prop} (hk0 : xk t b0 = 14) (hn0 : xn t b0 = n0) (hn0R : xR (n0 : Int)) (hk1 : xk t b1 = 14) (hn1 : xn t b1 = n1) (hn1R : xR (n1 : Int)) (hM : xMR M) (hx2 : xR x2) (hp : p_X11_copyRow b0 n0 b1 n1 x2 M Q) : xCt G yX11_copyRow cX11_copyRow 3 none 1 0 0 [vr b0, vr b1, vi x2] t M (fun v t' M' => v = none ∧ xMR M' ∧ t' = t ∧ Q M') (fun _ _ _ => False) := by
  refine xCt_of (L0 := [vr b0, vr b1, vi x2]) (by decide +kernel) (Nat.le_of_ble_eq_true rfl) rfl ?_
  intro X hX hB
  unfold p_X11_copyRow at hp
  refine xJ_iload_n hX dX11_copyRow_0 rfl ?_
  refine xJ_if_le hX dX11_copyRow_1 (tgt := 24) (by decide) hx2 (fun c1 => ?_) (fun c1 => ?_)
  · replace hp := hp.1 c1
    refine xJ_vret hX hB dX11_copyRow_24 (by decide) (by decide) ⟨rfl, hM, rfl, hp⟩
  · replace hp := hp.2 c1
    refine xJ_iload_n hX dX11_copyRow_4 rfl ?_
    refine xJ_aload_n hX dX11_copyRow_5 rfl ?_
    refine xJ_alen hX dX11_copyRow_6 (by rw [hk0]; decide) (by rw [hk0]; decide) ?_
    rw [hn0]
    refine xJ_icmp_gt hX dX11_copyRow_7 (tgt := 24) (by decide) hx2 hn0R (fun c7 => ?_) (fun c7 => ?_)
    · replace hp := hp.1 c7
      refine xJ_vret hX hB dX11_copyRow_24 (by decide) (by decide) ⟨rfl, hM, rfl, hp⟩
    · replace hp := hp.2 c7
      refine xJ_iload_n hX dX11_copyRow_10 rfl ?_
      refine xJ_aload_n hX dX11_copyRow_11 rfl ?_
      refine xJ_alen hX dX11_copyRow_12 (by rw [hk1]; decide) (by rw [hk1]; decide) ?_
      rw [hn1]
      refine xJ_icmp_gt hX dX11_copyRow_13 (tgt := 24) (by decide) hx2 hn1R (fun c13 => ?_) (fun c13 => ?_)
      · replace hp := hp.1 c13
        refine xJ_vret hX hB dX11_copyRow_24 (by decide) (by decide) ⟨rfl, hM, rfl, hp⟩
      · replace hp := hp.2 c13
        refine xJ_aload_n hX dX11_copyRow_16 rfl ?_
        refine xJ_iconst hX dX11_copyRow_17 ?_
        refine xJ_aload_n hX dX11_copyRow_18 rfl ?_
        refine xJ_iconst hX dX11_copyRow_19 ?_
        refine xJ_iload_n hX dX11_copyRow_20 rfl ?_
        obtain ⟨h21, hp⟩ := hp
        refine xJ_copyM hX hB dX11_copyRow_21 lj_X11_287 jw_cp_nat jw_cp_st jw_cp_in rfl (by decide) (Nat.le_of_ble_eq_true rfl) hk0 hk1 h21.1.1 h21.1.2.1 h21.1.2.2 (by rw [hn0]; exact h21.2.1) (by rw [hn1]; exact h21.2.2) hM (fun M21 e21 hM21 => ?_)
        replace hp := hp M21 e21
        refine xJ_vret hX hB dX11_copyRow_24 (by decide) (by decide) ⟨rfl, hM21, rfl, hp⟩
def p_X0_copyFrom (a : Nat) (b1 : Nat) (M : xMe) (Q : xMe → Prop) : Prop :=
  (∀ M5 : xMe, M5 = xw M a 4 (M b1 4) → p_X11_copyRow (b1 + 1) 30 (a + 1) 30 (M5 a 4) M5 (fun M20 => p_X11_copyRow (b1 + 2) 30 (a + 2) 30 (M20 a 4) M20 (fun M35 => p_X11_copyRow (b1 + 3) 30 (a + 3) 30 (M35 a 4) M35 (fun M50 => p_X11_copyRow (b1 + 4) 30 (a + 4) 30 (M50 a 4) M50 (fun M65 => Q M65)))))
set_option maxHeartbeats 4000000 in
set_option maxRecDepth 100000 in
theorem c_X0_copyFrom {G : xGx} {t : xTh} {M : xMe} {a : Nat} {b1 : Nat} {Q : xMe → Prop} (hL : oX0 t a) (hL1 : oX0 t b1) (hM : xMR M)(hp : p_X0_copyFrom a b1 M Q) : xCt G yX0_copyFrom cX0_copyFrom 2 none 2 0 0 [vr a, vr b1] t M (fun v t' M' => v = none ∧ xMR M' ∧ t' = t ∧ Q M') (fun _ _ _ => False) := by
  refine xCt_of (L0 := [vr a, vr b1]) (by decide +kernel) (Nat.le_of_ble_eq_true rfl) rfl ?_
  intro X hX hB
  unfold p_X0_copyFrom at hp
  refine xJ_aload_n hX dX0_copyFrom_0 rfl ?_
  refine xJ_aload_n hX dX0_copyFrom_1 rfl ?_
  refine xJ_getI hX dX0_copyFrom_2 fd_X0_24 rfl (oX0_k hL1) ?_
  refine xJ_putIM hX dX0_copyFrom_5 fd_X0_24 ft_X0 rfl rfl rfl rfl (oX0_k hL) hM (hM _ _) (fun M5 e5 hM5 => ?_)
  replace hp := hp M5 e5
  refine xJ_aload_n hX dX0_copyFrom_8 rfl ?_
  refine xJ_getR (b := (b1 + 1)) hX dX0_copyFrom_9 fd_X0_9 rfl (oX0_k hL1) (oX0_r0 hL1) ?_
  refine xJ_aload_n hX dX0_copyFrom_12 rfl ?_
  refine xJ_getR (b := (a + 1)) hX dX0_copyFrom_13 fd_X0_9 rfl (oX0_k hL) (oX0_r0 hL) ?_
  refine xJ_aload_n hX dX0_copyFrom_16 rfl ?_
  refine xJ_getI hX dX0_copyFrom_17 fd_X0_24 rfl (oX0_k hL) ?_
  refine xJ_callSN (As := [_, _, _]) hX hB dX0_copyFrom_20 ln_X0_28 sm_X11_copyRow (c_X11_copyRow (oX0_k0 hL1) (oX0_n0 hL1) ⟨by decide, by decide⟩ (oX0_k0 hL) (oX0_n0 hL) ⟨by decide, by decide⟩ hM5 (hM5 _ _) hp) (by decide) rfl rfl rfl (Nat.le_of_ble_eq_true rfl) (by decide) (by decide) (fun v t9 M20 hv => ?_)
  obtain ⟨rfl, hM20, ht9, hp⟩ := hv
  replace ht9 := ht9.symm
  subst ht9
  dsimp only [Option.toList, List.cons_append, List.nil_append]
  refine xJ_aload_n hX dX0_copyFrom_23 rfl ?_
  refine xJ_getR (b := (b1 + 2)) hX dX0_copyFrom_24 fd_X0_15 rfl (oX0_k hL1) (oX0_r1 hL1) ?_
  refine xJ_aload_n hX dX0_copyFrom_27 rfl ?_
  refine xJ_getR (b := (a + 2)) hX dX0_copyFrom_28 fd_X0_15 rfl (oX0_k hL) (oX0_r1 hL) ?_
  refine xJ_aload_n hX dX0_copyFrom_31 rfl ?_
  refine xJ_getI hX dX0_copyFrom_32 fd_X0_24 rfl (oX0_k hL) ?_
  refine xJ_callSN (As := [_, _, _]) hX hB dX0_copyFrom_35 ln_X0_28 sm_X11_copyRow (c_X11_copyRow (oX0_k1 hL1) (oX0_n1 hL1) ⟨by decide, by decide⟩ (oX0_k1 hL) (oX0_n1 hL) ⟨by decide, by decide⟩ hM20 (hM20 _ _) hp) (by decide) rfl rfl rfl (Nat.le_of_ble_eq_true rfl) (by decide) (by decide) (fun v t9 M35 hv => ?_)
  obtain ⟨rfl, hM35, ht9, hp⟩ := hv
  replace ht9 := ht9.symm
  subst ht9
  dsimp only [Option.toList, List.cons_append, List.nil_append]
  refine xJ_aload_n hX dX0_copyFrom_38 rfl ?_
  refine xJ_getR (b := (b1 + 3)) hX dX0_copyFrom_39 fd_X0_18 rfl (oX0_k hL1) (oX0_r2 hL1) ?_
  refine xJ_aload_n hX dX0_copyFrom_42 rfl ?_
  refine xJ_getR (b := (a + 3)) hX dX0_copyFrom_43 fd_X0_18 rfl (oX0_k hL) (oX0_r2 hL) ?_
  refine xJ_aload_n hX dX0_copyFrom_46 rfl ?_
  refine xJ_getI hX dX0_copyFrom_47 fd_X0_24 rfl (oX0_k hL) ?_
  refine xJ_callSN (As := [_, _, _]) hX hB dX0_copyFrom_50 ln_X0_28 sm_X11_copyRow (c_X11_copyRow (oX0_k2 hL1) (oX0_n2 hL1) ⟨by decide, by decide⟩ (oX0_k2 hL) (oX0_n2 hL) ⟨by decide, by decide⟩ hM35 (hM35 _ _) hp) (by decide) rfl rfl rfl (Nat.le_of_ble_eq_true rfl) (by decide) (by decide) (fun v t9 M50 hv => ?_)
  obtain ⟨rfl, hM50, ht9, hp⟩ := hv
  replace ht9 := ht9.symm
  subst ht9
  dsimp only [Option.toList, List.cons_append, List.nil_append]
  refine xJ_aload_n hX dX0_copyFrom_53 rfl ?_
  refine xJ_getR (b := (b1 + 4)) hX dX0_copyFrom_54 fd_X0_21 rfl (oX0_k hL1) (oX0_r3 hL1) ?_
  refine xJ_aload_n hX dX0_copyFrom_57 rfl ?_
  refine xJ_getR (b := (a + 4)) hX dX0_copyFrom_58 fd_X0_21 rfl (oX0_k hL) (oX0_r3 hL) ?_
  refine xJ_aload_n hX dX0_copyFrom_61 rfl ?_
  refine xJ_getI hX dX0_copyFrom_62 fd_X0_24 rfl (oX0_k hL) ?_
  refine xJ_callSN (As := [_, _, _]) hX hB dX0_copyFrom_65 ln_X0_28 sm_X11_copyRow (c_X11_copyRow (oX0_k3 hL1) (oX0_n3 hL1) ⟨by decide, by decide⟩ (oX0_k3 hL) (oX0_n3 hL) ⟨by decide, by decide⟩ hM50 (hM50 _ _) hp) (by decide) rfl rfl rfl (Nat.le_of_ble_eq_true rfl) (by decide) (by decide) (fun v t9 M65 hv => ?_)
  obtain ⟨rfl, hM65, ht9, hp⟩ := hv
  replace ht9 := ht9.symm
  subst ht9
  dsimp only [Option.toList, List.cons_append, List.nil_append]
  refine xJ_vret hX hB dX0_copyFrom_68 (by decide) (by decide) ⟨rfl, hM65, rfl, hp⟩
def p_X1_copyFrom (a : Nat) (b1 : Nat) (M : xMe) (Q : xMe → Prop) : Prop :=
  (∀ M5 : xMe, M5 = xw M a 4 (M b1 4) → (xR ((M5 a 4) * 4)) ∧ p_X11_copyRow (b1 + 1) 24 (a + 1) 24 ((M5 a 4) * 4) M5 (fun M22 => p_X11_copyRow (b1 + 2) 6 (a + 2) 6 (M22 a 4) M22 (fun M37 => p_X11_copyRow (b1 + 3) 6 (a + 3) 6 (M37 a 4) M37 (fun M52 => p_X11_copyRow (b1 + 4) 6 (a + 4) 6 (M52 a 4) M52 (fun M67 => Q M67)))))
set_option maxHeartbeats 4000000 in
set_option maxRecDepth 100000 in
theorem c_X1_copyFrom {G : xGx} {t : xTh} {M : xMe} {a : Nat} {b1 : Nat} {Q : xMe → Prop} (hL : oX1 t a) (hL1 : oX1 t b1) (hM : xMR M)(hp : p_X1_copyFrom a b1 M Q) : xCt G yX1_copyFrom cX1_copyFrom 2 none 2 0 0 [vr a, vr b1] t M (fun v t' M' => v = none ∧ xMR M' ∧ t' = t ∧ Q M') (fun _ _ _ => False) := by
  refine xCt_of (L0 := [vr a, vr b1]) (by decide +kernel) (Nat.le_of_ble_eq_true rfl) rfl ?_
  intro X hX hB
  unfold p_X1_copyFrom at hp
  refine xJ_aload_n hX dX1_copyFrom_0 rfl ?_
  refine xJ_aload_n hX dX1_copyFrom_1 rfl ?_
  refine xJ_getI hX dX1_copyFrom_2 fd_X1_24 rfl (oX1_k hL1) ?_
  refine xJ_putIM hX dX1_copyFrom_5 fd_X1_24 ft_X1 rfl rfl rfl rfl (oX1_k hL) hM (hM _ _) (fun M5 e5 hM5 => ?_)
  replace hp := hp M5 e5
  refine xJ_aload_n hX dX1_copyFrom_8 rfl ?_
  refine xJ_getR (b := (b1 + 1)) hX dX1_copyFrom_9 fd_X1_9 rfl (oX1_k hL1) (oX1_r0 hL1) ?_
  refine xJ_aload_n hX dX1_copyFrom_12 rfl ?_
  refine xJ_getR (b := (a + 1)) hX dX1_copyFrom_13 fd_X1_9 rfl (oX1_k hL) (oX1_r0 hL) ?_
  refine xJ_aload_n hX dX1_copyFrom_16 rfl ?_
  refine xJ_getI hX dX1_copyFrom_17 fd_X1_24 rfl (oX1_k hL) ?_
  refine xJ_iconst hX dX1_copyFrom_20 ?_
  refine xJ_imul hX dX1_copyFrom_21 ?_
  obtain ⟨h21, hp⟩ := hp
  refine xJ_callSN (As := [_, _, _]) hX hB dX1_copyFrom_22 ln_X1_28 sm_X11_copyRow (c_X11_copyRow (oX1_k0 hL1) (oX1_n0 hL1) ⟨by decide, by decide⟩ (oX1_k0 hL) (oX1_n0 hL) ⟨by decide, by decide⟩ hM5 h21 hp) (by decide) rfl rfl rfl (Nat.le_of_ble_eq_true rfl) (by decide) (by decide) (fun v t9 M22 hv => ?_)
  obtain ⟨rfl, hM22, ht9, hp⟩ := hv
  replace ht9 := ht9.symm
  subst ht9
  dsimp only [Option.toList, List.cons_append, List.nil_append]
  refine xJ_aload_n hX dX1_copyFrom_25 rfl ?_
  refine xJ_getR (b := (b1 + 2)) hX dX1_copyFrom_26 fd_X1_15 rfl (oX1_k hL1) (oX1_r1 hL1) ?_
  refine xJ_aload_n hX dX1_copyFrom_29 rfl ?_
  refine xJ_getR (b := (a + 2)) hX dX1_copyFrom_30 fd_X1_15 rfl (oX1_k hL) (oX1_r1 hL) ?_
  refine xJ_aload_n hX dX1_copyFrom_33 rfl ?_
  refine xJ_getI hX dX1_copyFrom_34 fd_X1_24 rfl (oX1_k hL) ?_
  refine xJ_callSN (As := [_, _, _]) hX hB dX1_copyFrom_37 ln_X1_28 sm_X11_copyRow (c_X11_copyRow (oX1_k1 hL1) (oX1_n1 hL1) ⟨by decide, by decide⟩ (oX1_k1 hL) (oX1_n1 hL) ⟨by decide, by decide⟩ hM22 (hM22 _ _) hp) (by decide) rfl rfl rfl (Nat.le_of_ble_eq_true rfl) (by decide) (by decide) (fun v t9 M37 hv => ?_)
  obtain ⟨rfl, hM37, ht9, hp⟩ := hv
  replace ht9 := ht9.symm
  subst ht9
  dsimp only [Option.toList, List.cons_append, List.nil_append]
  refine xJ_aload_n hX dX1_copyFrom_40 rfl ?_
  refine xJ_getR (b := (b1 + 3)) hX dX1_copyFrom_41 fd_X1_18 rfl (oX1_k hL1) (oX1_r2 hL1) ?_
  refine xJ_aload_n hX dX1_copyFrom_44 rfl ?_
  refine xJ_getR (b := (a + 3)) hX dX1_copyFrom_45 fd_X1_18 rfl (oX1_k hL) (oX1_r2 hL) ?_
  refine xJ_aload_n hX dX1_copyFrom_48 rfl ?_
  refine xJ_getI hX dX1_copyFrom_49 fd_X1_24 rfl (oX1_k hL) ?_
  refine xJ_callSN (As := [_, _, _]) hX hB dX1_copyFrom_52 ln_X1_28 sm_X11_copyRow (c_X11_copyRow (oX1_k2 hL1) (oX1_n2 hL1) ⟨by decide, by decide⟩ (oX1_k2 hL) (oX1_n2 hL) ⟨by decide, by decide⟩ hM37 (hM37 _ _) hp) (by decide) rfl rfl rfl (Nat.le_of_ble_eq_true rfl) (by decide) (by decide) (fun v t9 M52 hv => ?_)
  obtain ⟨rfl, hM52, ht9, hp⟩ := hv
  replace ht9 := ht9.symm
  subst ht9
  dsimp only [Option.toList, List.cons_append, List.nil_append]
  refine xJ_aload_n hX dX1_copyFrom_55 rfl ?_
  refine xJ_getR (b := (b1 + 4)) hX dX1_copyFrom_56 fd_X1_21 rfl (oX1_k hL1) (oX1_r3 hL1) ?_
  refine xJ_aload_n hX dX1_copyFrom_59 rfl ?_
  refine xJ_getR (b := (a + 4)) hX dX1_copyFrom_60 fd_X1_21 rfl (oX1_k hL) (oX1_r3 hL) ?_
  refine xJ_aload_n hX dX1_copyFrom_63 rfl ?_
  refine xJ_getI hX dX1_copyFrom_64 fd_X1_24 rfl (oX1_k hL) ?_
  refine xJ_callSN (As := [_, _, _]) hX hB dX1_copyFrom_67 ln_X1_28 sm_X11_copyRow (c_X11_copyRow (oX1_k3 hL1) (oX1_n3 hL1) ⟨by decide, by decide⟩ (oX1_k3 hL) (oX1_n3 hL) ⟨by decide, by decide⟩ hM52 (hM52 _ _) hp) (by decide) rfl rfl rfl (Nat.le_of_ble_eq_true rfl) (by decide) (by decide) (fun v t9 M67 hv => ?_)
  obtain ⟨rfl, hM67, ht9, hp⟩ := hv
  replace ht9 := ht9.symm
  subst ht9
  dsimp only [Option.toList, List.cons_append, List.nil_append]
  refine xJ_vret hX hB dX1_copyFrom_70 (by decide) (by decide) ⟨rfl, hM67, rfl, hp⟩
def p_X2_copyFrom (a : Nat) (b1 : Nat) (M : xMe) (Q : xMe → Prop) : Prop :=
  (∀ M5 : xMe, M5 = xw M a 3 (M b1 3) → p_X11_copyRow (b1 + 1) 6 (a + 1) 6 (M5 a 3) M5 (fun M20 => p_X11_copyRow (b1 + 2) 6 (a + 2) 6 (M20 a 3) M20 (fun M35 => p_X11_copyRow (b1 + 3) 6 (a + 3) 6 (M35 a 3) M35 (fun M50 => Q M50))))
set_option maxHeartbeats 4000000 in
set_option maxRecDepth 100000 in
theorem c_X2_copyFrom {G : xGx} {t : xTh} {M : xMe} {a : Nat} {b1 : Nat} {Q : xMe → Prop} (hL : oX2 t a) (hL1 : oX2 t b1) (hM : xMR M)(hp : p_X2_copyFrom a b1 M Q) : xCt G yX2_copyFrom cX2_copyFrom 2 none 2 0 0 [vr a, vr b1] t M (fun v t' M' => v = none ∧ xMR M' ∧ t' = t ∧ Q M') (fun _ _ _ => False) := by
  refine xCt_of (L0 := [vr a, vr b1]) (by decide +kernel) (Nat.le_of_ble_eq_true rfl) rfl ?_
  intro X hX hB
  unfold p_X2_copyFrom at hp
  refine xJ_aload_n hX dX2_copyFrom_0 rfl ?_
  refine xJ_aload_n hX dX2_copyFrom_1 rfl ?_
  refine xJ_getI hX dX2_copyFrom_2 fd_X2_21 rfl (oX2_k hL1) ?_
  refine xJ_putIM hX dX2_copyFrom_5 fd_X2_21 ft_X2 rfl rfl rfl rfl (oX2_k hL) hM (hM _ _) (fun M5 e5 hM5 => ?_)
  replace hp := hp M5 e5
  refine xJ_aload_n hX dX2_copyFrom_8 rfl ?_
  refine xJ_getR (b := (b1 + 1)) hX dX2_copyFrom_9 fd_X2_9 rfl (oX2_k hL1) (oX2_r0 hL1) ?_
  refine xJ_aload_n hX dX2_copyFrom_12 rfl ?_
  refine xJ_getR (b := (a + 1)) hX dX2_copyFrom_13 fd_X2_9 rfl (oX2_k hL) (oX2_r0 hL) ?_
  refine xJ_aload_n hX dX2_copyFrom_16 rfl ?_
  refine xJ_getI hX dX2_copyFrom_17 fd_X2_21 rfl (oX2_k hL) ?_
  refine xJ_callSN (As := [_, _, _]) hX hB dX2_copyFrom_20 ln_X2_25 sm_X11_copyRow (c_X11_copyRow (oX2_k0 hL1) (oX2_n0 hL1) ⟨by decide, by decide⟩ (oX2_k0 hL) (oX2_n0 hL) ⟨by decide, by decide⟩ hM5 (hM5 _ _) hp) (by decide) rfl rfl rfl (Nat.le_of_ble_eq_true rfl) (by decide) (by decide) (fun v t9 M20 hv => ?_)
  obtain ⟨rfl, hM20, ht9, hp⟩ := hv
  replace ht9 := ht9.symm
  subst ht9
  dsimp only [Option.toList, List.cons_append, List.nil_append]
  refine xJ_aload_n hX dX2_copyFrom_23 rfl ?_
  refine xJ_getR (b := (b1 + 2)) hX dX2_copyFrom_24 fd_X2_15 rfl (oX2_k hL1) (oX2_r1 hL1) ?_
  refine xJ_aload_n hX dX2_copyFrom_27 rfl ?_
  refine xJ_getR (b := (a + 2)) hX dX2_copyFrom_28 fd_X2_15 rfl (oX2_k hL) (oX2_r1 hL) ?_
  refine xJ_aload_n hX dX2_copyFrom_31 rfl ?_
  refine xJ_getI hX dX2_copyFrom_32 fd_X2_21 rfl (oX2_k hL) ?_
  refine xJ_callSN (As := [_, _, _]) hX hB dX2_copyFrom_35 ln_X2_25 sm_X11_copyRow (c_X11_copyRow (oX2_k1 hL1) (oX2_n1 hL1) ⟨by decide, by decide⟩ (oX2_k1 hL) (oX2_n1 hL) ⟨by decide, by decide⟩ hM20 (hM20 _ _) hp) (by decide) rfl rfl rfl (Nat.le_of_ble_eq_true rfl) (by decide) (by decide) (fun v t9 M35 hv => ?_)
  obtain ⟨rfl, hM35, ht9, hp⟩ := hv
  replace ht9 := ht9.symm
  subst ht9
  dsimp only [Option.toList, List.cons_append, List.nil_append]
  refine xJ_aload_n hX dX2_copyFrom_38 rfl ?_
  refine xJ_getR (b := (b1 + 3)) hX dX2_copyFrom_39 fd_X2_18 rfl (oX2_k hL1) (oX2_r2 hL1) ?_
  refine xJ_aload_n hX dX2_copyFrom_42 rfl ?_
  refine xJ_getR (b := (a + 3)) hX dX2_copyFrom_43 fd_X2_18 rfl (oX2_k hL) (oX2_r2 hL) ?_
  refine xJ_aload_n hX dX2_copyFrom_46 rfl ?_
  refine xJ_getI hX dX2_copyFrom_47 fd_X2_21 rfl (oX2_k hL) ?_
  refine xJ_callSN (As := [_, _, _]) hX hB dX2_copyFrom_50 ln_X2_25 sm_X11_copyRow (c_X11_copyRow (oX2_k2 hL1) (oX2_n2 hL1) ⟨by decide, by decide⟩ (oX2_k2 hL) (oX2_n2 hL) ⟨by decide, by decide⟩ hM35 (hM35 _ _) hp) (by decide) rfl rfl rfl (Nat.le_of_ble_eq_true rfl) (by decide) (by decide) (fun v t9 M50 hv => ?_)
  obtain ⟨rfl, hM50, ht9, hp⟩ := hv
  replace ht9 := ht9.symm
  subst ht9
  dsimp only [Option.toList, List.cons_append, List.nil_append]
  refine xJ_vret hX hB dX2_copyFrom_53 (by decide) (by decide) ⟨rfl, hM50, rfl, hp⟩
def p_X4_copyFrom (a : Nat) (b1 : Nat) (M : xMe) (Q : xMe → Prop) : Prop :=
  p_X11_copyRow (b1 + 1) 36 (a + 1) 36 36 M (fun M10 => p_X11_copyRow (b1 + 2) 36 (a + 2) 36 36 M10 (fun M23 => p_X11_copyRow (b1 + 3) 36 (a + 3) 36 36 M23 (fun M36 => p_X11_copyRow (b1 + 4) 36 (a + 4) 36 36 M36 (fun M49 => p_X11_copyRow (b1 + 5) 40 (a + 5) 40 40 M49 (fun M62 => Q M62)))))
set_option maxHeartbeats 4000000 in
set_option maxRecDepth 100000 in
theorem c_X4_copyFrom {G : xGx} {t : xTh} {M : xMe} {a : Nat} {b1 : Nat} {Q : xMe → Prop} (hL : oX4 t a) (hL1 : oX4 t b1) (hM : xMR M)(hp : p_X4_copyFrom a b1 M Q) : xCt G yX4_copyFrom cX4_copyFrom 2 none 2 0 0 [vr a, vr b1] t M (fun v t' M' => v = none ∧ xMR M' ∧ t' = t ∧ Q M') (fun _ _ _ => False) := by
  refine xCt_of (L0 := [vr a, vr b1]) (by decide +kernel) (Nat.le_of_ble_eq_true rfl) rfl ?_
  intro X hX hB
  unfold p_X4_copyFrom at hp
  refine xJ_aload_n hX dX4_copyFrom_0 rfl ?_
  refine xJ_getR (b := (b1 + 1)) hX dX4_copyFrom_1 fd_X4_11 rfl (oX4_k hL1) (oX4_r0 hL1) ?_
  refine xJ_aload_n hX dX4_copyFrom_4 rfl ?_
  refine xJ_getR (b := (a + 1)) hX dX4_copyFrom_5 fd_X4_11 rfl (oX4_k hL) (oX4_r0 hL) ?_
  refine xJ_bipush hX dX4_copyFrom_8 rfl ?_
  refine xJ_callSN (As := [_, _, _]) hX hB dX4_copyFrom_10 ln_X4_27 sm_X11_copyRow (c_X11_copyRow (oX4_k0 hL1) (oX4_n0 hL1) ⟨by decide, by decide⟩ (oX4_k0 hL) (oX4_n0 hL) ⟨by decide, by decide⟩ hM ⟨by decide, by decide⟩ hp) (by decide) rfl rfl rfl (Nat.le_of_ble_eq_true rfl) (by decide) (by decide) (fun v t9 M10 hv => ?_)
  obtain ⟨rfl, hM10, ht9, hp⟩ := hv
  replace ht9 := ht9.symm
  subst ht9
  dsimp only [Option.toList, List.cons_append, List.nil_append]
  refine xJ_aload_n hX dX4_copyFrom_13 rfl ?_
  refine xJ_getR (b := (b1 + 2)) hX dX4_copyFrom_14 fd_X4_15 rfl (oX4_k hL1) (oX4_r1 hL1) ?_
  refine xJ_aload_n hX dX4_copyFrom_17 rfl ?_
  refine xJ_getR (b := (a + 2)) hX dX4_copyFrom_18 fd_X4_15 rfl (oX4_k hL) (oX4_r1 hL) ?_
  refine xJ_bipush hX dX4_copyFrom_21 rfl ?_
  refine xJ_callSN (As := [_, _, _]) hX hB dX4_copyFrom_23 ln_X4_27 sm_X11_copyRow (c_X11_copyRow (oX4_k1 hL1) (oX4_n1 hL1) ⟨by decide, by decide⟩ (oX4_k1 hL) (oX4_n1 hL) ⟨by decide, by decide⟩ hM10 ⟨by decide, by decide⟩ hp) (by decide) rfl rfl rfl (Nat.le_of_ble_eq_true rfl) (by decide) (by decide) (fun v t9 M23 hv => ?_)
  obtain ⟨rfl, hM23, ht9, hp⟩ := hv
  replace ht9 := ht9.symm
  subst ht9
  dsimp only [Option.toList, List.cons_append, List.nil_append]
  refine xJ_aload_n hX dX4_copyFrom_26 rfl ?_
  refine xJ_getR (b := (b1 + 3)) hX dX4_copyFrom_27 fd_X4_18 rfl (oX4_k hL1) (oX4_r2 hL1) ?_
  refine xJ_aload_n hX dX4_copyFrom_30 rfl ?_
  refine xJ_getR (b := (a + 3)) hX dX4_copyFrom_31 fd_X4_18 rfl (oX4_k hL) (oX4_r2 hL) ?_
  refine xJ_bipush hX dX4_copyFrom_34 rfl ?_
  refine xJ_callSN (As := [_, _, _]) hX hB dX4_copyFrom_36 ln_X4_27 sm_X11_copyRow (c_X11_copyRow (oX4_k2 hL1) (oX4_n2 hL1) ⟨by decide, by decide⟩ (oX4_k2 hL) (oX4_n2 hL) ⟨by decide, by decide⟩ hM23 ⟨by decide, by decide⟩ hp) (by decide) rfl rfl rfl (Nat.le_of_ble_eq_true rfl) (by decide) (by decide) (fun v t9 M36 hv => ?_)
  obtain ⟨rfl, hM36, ht9, hp⟩ := hv
  replace ht9 := ht9.symm
  subst ht9
  dsimp only [Option.toList, List.cons_append, List.nil_append]
  refine xJ_aload_n hX dX4_copyFrom_39 rfl ?_
  refine xJ_getR (b := (b1 + 4)) hX dX4_copyFrom_40 fd_X4_21 rfl (oX4_k hL1) (oX4_r3 hL1) ?_
  refine xJ_aload_n hX dX4_copyFrom_43 rfl ?_
  refine xJ_getR (b := (a + 4)) hX dX4_copyFrom_44 fd_X4_21 rfl (oX4_k hL) (oX4_r3 hL) ?_
  refine xJ_bipush hX dX4_copyFrom_47 rfl ?_
  refine xJ_callSN (As := [_, _, _]) hX hB dX4_copyFrom_49 ln_X4_27 sm_X11_copyRow (c_X11_copyRow (oX4_k3 hL1) (oX4_n3 hL1) ⟨by decide, by decide⟩ (oX4_k3 hL) (oX4_n3 hL) ⟨by decide, by decide⟩ hM36 ⟨by decide, by decide⟩ hp) (by decide) rfl rfl rfl (Nat.le_of_ble_eq_true rfl) (by decide) (by decide) (fun v t9 M49 hv => ?_)
  obtain ⟨rfl, hM49, ht9, hp⟩ := hv
  replace ht9 := ht9.symm
  subst ht9
  dsimp only [Option.toList, List.cons_append, List.nil_append]
  refine xJ_aload_n hX dX4_copyFrom_52 rfl ?_
  refine xJ_getR (b := (b1 + 5)) hX dX4_copyFrom_53 fd_X4_24 rfl (oX4_k hL1) (oX4_r4 hL1) ?_
  refine xJ_aload_n hX dX4_copyFrom_56 rfl ?_
  refine xJ_getR (b := (a + 5)) hX dX4_copyFrom_57 fd_X4_24 rfl (oX4_k hL) (oX4_r4 hL) ?_
  refine xJ_bipush hX dX4_copyFrom_60 rfl ?_
  refine xJ_callSN (As := [_, _, _]) hX hB dX4_copyFrom_62 ln_X4_27 sm_X11_copyRow (c_X11_copyRow (oX4_k4 hL1) (oX4_n4 hL1) ⟨by decide, by decide⟩ (oX4_k4 hL) (oX4_n4 hL) ⟨by decide, by decide⟩ hM49 ⟨by decide, by decide⟩ hp) (by decide) rfl rfl rfl (Nat.le_of_ble_eq_true rfl) (by decide) (by decide) (fun v t9 M62 hv => ?_)
  obtain ⟨rfl, hM62, ht9, hp⟩ := hv
  replace ht9 := ht9.symm
  subst ht9
  dsimp only [Option.toList, List.cons_append, List.nil_append]
  refine xJ_vret hX hB dX4_copyFrom_65 (by decide) (by decide) ⟨rfl, hM62, rfl, hp⟩
def p_X5_copyFrom (a : Nat) (b1 : Nat) (M : xMe) (Q : xMe → Prop) : Prop :=
  (∀ M5 : xMe, M5 = xw M a 8 (M b1 8) → p_X11_copyRow (b1 + 1) 40 (a + 1) 40 (M5 a 8) M5 (fun M20 => p_X11_copyRow (b1 + 2) 40 (a + 2) 40 (M20 a 8) M20 (fun M35 => p_X11_copyRow (b1 + 3) 40 (a + 3) 40 (M35 a 8) M35 (fun M50 => p_X11_copyRow (b1 + 4) 40 (a + 4) 40 (M50 a 8) M50 (fun M65 => p_X11_copyRow (b1 + 5) 40 (a + 5) 40 (M65 a 8) M65 (fun M80 => p_X11_copyRow (b1 + 6) 40 (a + 6) 40 (M80 a 8) M80 (fun M95 => p_X11_copyRow (b1 + 7) 40 (a + 7) 40 (M95 a 8) M95 (fun M110 => p_X11_copyRow (b1 + 8) 40 (a + 8) 40 (M110 a 8) M110 (fun M125 => Q M125)))))))))
set_option maxHeartbeats 4000000 in
set_option maxRecDepth 100000 in
theorem c_X5_copyFrom {G : xGx} {t : xTh} {M : xMe} {a : Nat} {b1 : Nat} {Q : xMe → Prop} (hL : oX5 t a) (hL1 : oX5 t b1) (hM : xMR M)(hp : p_X5_copyFrom a b1 M Q) : xCt G yX5_copyFrom cX5_copyFrom 2 none 2 0 0 [vr a, vr b1] t M (fun v t' M' => v = none ∧ xMR M' ∧ t' = t ∧ Q M') (fun _ _ _ => False) := by
  refine xCt_of (L0 := [vr a, vr b1]) (by decide +kernel) (Nat.le_of_ble_eq_true rfl) rfl ?_
  intro X hX hB
  unfold p_X5_copyFrom at hp
  refine xJ_aload_n hX dX5_copyFrom_0 rfl ?_
  refine xJ_aload_n hX dX5_copyFrom_1 rfl ?_
  refine xJ_getI hX dX5_copyFrom_2 fd_X5_36 rfl (oX5_k hL1) ?_
  refine xJ_putIM hX dX5_copyFrom_5 fd_X5_36 ft_X5 rfl rfl rfl rfl (oX5_k hL) hM (hM _ _) (fun M5 e5 hM5 => ?_)
  replace hp := hp M5 e5
  refine xJ_aload_n hX dX5_copyFrom_8 rfl ?_
  refine xJ_getR (b := (b1 + 1)) hX dX5_copyFrom_9 fd_X5_9 rfl (oX5_k hL1) (oX5_r0 hL1) ?_
  refine xJ_aload_n hX dX5_copyFrom_12 rfl ?_
  refine xJ_getR (b := (a + 1)) hX dX5_copyFrom_13 fd_X5_9 rfl (oX5_k hL) (oX5_r0 hL) ?_
  refine xJ_aload_n hX dX5_copyFrom_16 rfl ?_
  refine xJ_getI hX dX5_copyFrom_17 fd_X5_36 rfl (oX5_k hL) ?_
  refine xJ_callSN (As := [_, _, _]) hX hB dX5_copyFrom_20 ln_X5_40 sm_X11_copyRow (c_X11_copyRow (oX5_k0 hL1) (oX5_n0 hL1) ⟨by decide, by decide⟩ (oX5_k0 hL) (oX5_n0 hL) ⟨by decide, by decide⟩ hM5 (hM5 _ _) hp) (by decide) rfl rfl rfl (Nat.le_of_ble_eq_true rfl) (by decide) (by decide) (fun v t9 M20 hv => ?_)
  obtain ⟨rfl, hM20, ht9, hp⟩ := hv
  replace ht9 := ht9.symm
  subst ht9
  dsimp only [Option.toList, List.cons_append, List.nil_append]
  refine xJ_aload_n hX dX5_copyFrom_23 rfl ?_
  refine xJ_getR (b := (b1 + 2)) hX dX5_copyFrom_24 fd_X5_15 rfl (oX5_k hL1) (oX5_r1 hL1) ?_
  refine xJ_aload_n hX dX5_copyFrom_27 rfl ?_
  refine xJ_getR (b := (a + 2)) hX dX5_copyFrom_28 fd_X5_15 rfl (oX5_k hL) (oX5_r1 hL) ?_
  refine xJ_aload_n hX dX5_copyFrom_31 rfl ?_
  refine xJ_getI hX dX5_copyFrom_32 fd_X5_36 rfl (oX5_k hL) ?_
  refine xJ_callSN (As := [_, _, _]) hX hB dX5_copyFrom_35 ln_X5_40 sm_X11_copyRow (c_X11_copyRow (oX5_k1 hL1) (oX5_n1 hL1) ⟨by decide, by decide⟩ (oX5_k1 hL) (oX5_n1 hL) ⟨by decide, by decide⟩ hM20 (hM20 _ _) hp) (by decide) rfl rfl rfl (Nat.le_of_ble_eq_true rfl) (by decide) (by decide) (fun v t9 M35 hv => ?_)
  obtain ⟨rfl, hM35, ht9, hp⟩ := hv
  replace ht9 := ht9.symm
  subst ht9
  dsimp only [Option.toList, List.cons_append, List.nil_append]
  refine xJ_aload_n hX dX5_copyFrom_38 rfl ?_
  refine xJ_getR (b := (b1 + 3)) hX dX5_copyFrom_39 fd_X5_18 rfl (oX5_k hL1) (oX5_r2 hL1) ?_
  refine xJ_aload_n hX dX5_copyFrom_42 rfl ?_
  refine xJ_getR (b := (a + 3)) hX dX5_copyFrom_43 fd_X5_18 rfl (oX5_k hL) (oX5_r2 hL) ?_
  refine xJ_aload_n hX dX5_copyFrom_46 rfl ?_
  refine xJ_getI hX dX5_copyFrom_47 fd_X5_36 rfl (oX5_k hL) ?_
  refine xJ_callSN (As := [_, _, _]) hX hB dX5_copyFrom_50 ln_X5_40 sm_X11_copyRow (c_X11_copyRow (oX5_k2 hL1) (oX5_n2 hL1) ⟨by decide, by decide⟩ (oX5_k2 hL) (oX5_n2 hL) ⟨by decide, by decide⟩ hM35 (hM35 _ _) hp) (by decide) rfl rfl rfl (Nat.le_of_ble_eq_true rfl) (by decide) (by decide) (fun v t9 M50 hv => ?_)
  obtain ⟨rfl, hM50, ht9, hp⟩ := hv
  replace ht9 := ht9.symm
  subst ht9
  dsimp only [Option.toList, List.cons_append, List.nil_append]
  refine xJ_aload_n hX dX5_copyFrom_53 rfl ?_
  refine xJ_getR (b := (b1 + 4)) hX dX5_copyFrom_54 fd_X5_21 rfl (oX5_k hL1) (oX5_r3 hL1) ?_
  refine xJ_aload_n hX dX5_copyFrom_57 rfl ?_
  refine xJ_getR (b := (a + 4)) hX dX5_copyFrom_58 fd_X5_21 rfl (oX5_k hL) (oX5_r3 hL) ?_
  refine xJ_aload_n hX dX5_copyFrom_61 rfl ?_
  refine xJ_getI hX dX5_copyFrom_62 fd_X5_36 rfl (oX5_k hL) ?_
  refine xJ_callSN (As := [_, _, _]) hX hB dX5_copyFrom_65 ln_X5_40 sm_X11_copyRow (c_X11_copyRow (oX5_k3 hL1) (oX5_n3 hL1) ⟨by decide, by decide⟩ (oX5_k3 hL) (oX5_n3 hL) ⟨by decide, by decide⟩ hM50 (hM50 _ _) hp) (by decide) rfl rfl rfl (Nat.le_of_ble_eq_true rfl) (by decide) (by decide) (fun v t9 M65 hv => ?_)
  obtain ⟨rfl, hM65, ht9, hp⟩ := hv
  replace ht9 := ht9.symm
  subst ht9
  dsimp only [Option.toList, List.cons_append, List.nil_append]
  refine xJ_aload_n hX dX5_copyFrom_68 rfl ?_
  refine xJ_getR (b := (b1 + 5)) hX dX5_copyFrom_69 fd_X5_24 rfl (oX5_k hL1) (oX5_r4 hL1) ?_
  refine xJ_aload_n hX dX5_copyFrom_72 rfl ?_
  refine xJ_getR (b := (a + 5)) hX dX5_copyFrom_73 fd_X5_24 rfl (oX5_k hL) (oX5_r4 hL) ?_
  refine xJ_aload_n hX dX5_copyFrom_76 rfl ?_
  refine xJ_getI hX dX5_copyFrom_77 fd_X5_36 rfl (oX5_k hL) ?_
  refine xJ_callSN (As := [_, _, _]) hX hB dX5_copyFrom_80 ln_X5_40 sm_X11_copyRow (c_X11_copyRow (oX5_k4 hL1) (oX5_n4 hL1) ⟨by decide, by decide⟩ (oX5_k4 hL) (oX5_n4 hL) ⟨by decide, by decide⟩ hM65 (hM65 _ _) hp) (by decide) rfl rfl rfl (Nat.le_of_ble_eq_true rfl) (by decide) (by decide) (fun v t9 M80 hv => ?_)
  obtain ⟨rfl, hM80, ht9, hp⟩ := hv
  replace ht9 := ht9.symm
  subst ht9
  dsimp only [Option.toList, List.cons_append, List.nil_append]
  refine xJ_aload_n hX dX5_copyFrom_83 rfl ?_
  refine xJ_getR (b := (b1 + 6)) hX dX5_copyFrom_84 fd_X5_27 rfl (oX5_k hL1) (oX5_r5 hL1) ?_
  refine xJ_aload_n hX dX5_copyFrom_87 rfl ?_
  refine xJ_getR (b := (a + 6)) hX dX5_copyFrom_88 fd_X5_27 rfl (oX5_k hL) (oX5_r5 hL) ?_
  refine xJ_aload_n hX dX5_copyFrom_91 rfl ?_
  refine xJ_getI hX dX5_copyFrom_92 fd_X5_36 rfl (oX5_k hL) ?_
  refine xJ_callSN (As := [_, _, _]) hX hB dX5_copyFrom_95 ln_X5_40 sm_X11_copyRow (c_X11_copyRow (oX5_k5 hL1) (oX5_n5 hL1) ⟨by decide, by decide⟩ (oX5_k5 hL) (oX5_n5 hL) ⟨by decide, by decide⟩ hM80 (hM80 _ _) hp) (by decide) rfl rfl rfl (Nat.le_of_ble_eq_true rfl) (by decide) (by decide) (fun v t9 M95 hv => ?_)
  obtain ⟨rfl, hM95, ht9, hp⟩ := hv
  replace ht9 := ht9.symm
  subst ht9
  dsimp only [Option.toList, List.cons_append, List.nil_append]
  refine xJ_aload_n hX dX5_copyFrom_98 rfl ?_
  refine xJ_getR (b := (b1 + 7)) hX dX5_copyFrom_99 fd_X5_30 rfl (oX5_k hL1) (oX5_r6 hL1) ?_
  refine xJ_aload_n hX dX5_copyFrom_102 rfl ?_
  refine xJ_getR (b := (a + 7)) hX dX5_copyFrom_103 fd_X5_30 rfl (oX5_k hL) (oX5_r6 hL) ?_
  refine xJ_aload_n hX dX5_copyFrom_106 rfl ?_
  refine xJ_getI hX dX5_copyFrom_107 fd_X5_36 rfl (oX5_k hL) ?_
  refine xJ_callSN (As := [_, _, _]) hX hB dX5_copyFrom_110 ln_X5_40 sm_X11_copyRow (c_X11_copyRow (oX5_k6 hL1) (oX5_n6 hL1) ⟨by decide, by decide⟩ (oX5_k6 hL) (oX5_n6 hL) ⟨by decide, by decide⟩ hM95 (hM95 _ _) hp) (by decide) rfl rfl rfl (Nat.le_of_ble_eq_true rfl) (by decide) (by decide) (fun v t9 M110 hv => ?_)
  obtain ⟨rfl, hM110, ht9, hp⟩ := hv
  replace ht9 := ht9.symm
  subst ht9
  dsimp only [Option.toList, List.cons_append, List.nil_append]
  refine xJ_aload_n hX dX5_copyFrom_113 rfl ?_
  refine xJ_getR (b := (b1 + 8)) hX dX5_copyFrom_114 fd_X5_33 rfl (oX5_k hL1) (oX5_r7 hL1) ?_
  refine xJ_aload_n hX dX5_copyFrom_117 rfl ?_
  refine xJ_getR (b := (a + 8)) hX dX5_copyFrom_118 fd_X5_33 rfl (oX5_k hL) (oX5_r7 hL) ?_
  refine xJ_aload_n hX dX5_copyFrom_121 rfl ?_
  refine xJ_getI hX dX5_copyFrom_122 fd_X5_36 rfl (oX5_k hL) ?_
  refine xJ_callSN (As := [_, _, _]) hX hB dX5_copyFrom_125 ln_X5_40 sm_X11_copyRow (c_X11_copyRow (oX5_k7 hL1) (oX5_n7 hL1) ⟨by decide, by decide⟩ (oX5_k7 hL) (oX5_n7 hL) ⟨by decide, by decide⟩ hM110 (hM110 _ _) hp) (by decide) rfl rfl rfl (Nat.le_of_ble_eq_true rfl) (by decide) (by decide) (fun v t9 M125 hv => ?_)
  obtain ⟨rfl, hM125, ht9, hp⟩ := hv
  replace ht9 := ht9.symm
  subst ht9
  dsimp only [Option.toList, List.cons_append, List.nil_append]
  refine xJ_vret hX hB dX5_copyFrom_128 (by decide) (by decide) ⟨rfl, hM125, rfl, hp⟩
def p_X6_copyFrom (a : Nat) (b1 : Nat) (M : xMe) (Q : xMe → Prop) : Prop :=
  (∀ M5 : xMe, M5 = xw M a 5 (M b1 5) → (∀ M13 : xMe, M13 = xw M5 a 6 (M5 b1 6) → p_X11_copyRow (b1 + 1) 40 (a + 1) 40 (M13 a 5) M13 (fun M28 => p_X11_copyRow (b1 + 2) 40 (a + 2) 40 (M28 a 5) M28 (fun M43 => p_X11_copyRow (b1 + 3) 40 (a + 3) 40 (M43 a 5) M43 (fun M58 => p_X11_copyRow (b1 + 4) 40 (a + 4) 40 (M58 a 5) M58 (fun M73 => p_X11_copyRow (b1 + 5) 40 (a + 5) 40 (M73 a 5) M73 (fun M88 => Q M88)))))))
set_option maxHeartbeats 4000000 in
set_option maxRecDepth 100000 in
theorem c_X6_copyFrom {G : xGx} {t : xTh} {M : xMe} {a : Nat} {b1 : Nat} {Q : xMe → Prop} (hL : oX6 t a) (hL1 : oX6 t b1) (hM : xMR M)(hp : p_X6_copyFrom a b1 M Q) : xCt G yX6_copyFrom cX6_copyFrom 2 none 2 0 0 [vr a, vr b1] t M (fun v t' M' => v = none ∧ xMR M' ∧ t' = t ∧ Q M') (fun _ _ _ => False) := by
  refine xCt_of (L0 := [vr a, vr b1]) (by decide +kernel) (Nat.le_of_ble_eq_true rfl) rfl ?_
  intro X hX hB
  unfold p_X6_copyFrom at hp
  refine xJ_aload_n hX dX6_copyFrom_0 rfl ?_
  refine xJ_aload_n hX dX6_copyFrom_1 rfl ?_
  refine xJ_getI hX dX6_copyFrom_2 fd_X6_27 rfl (oX6_k hL1) ?_
  refine xJ_putIM hX dX6_copyFrom_5 fd_X6_27 ft_X6 rfl rfl rfl rfl (oX6_k hL) hM (hM _ _) (fun M5 e5 hM5 => ?_)
  replace hp := hp M5 e5
  refine xJ_aload_n hX dX6_copyFrom_8 rfl ?_
  refine xJ_aload_n hX dX6_copyFrom_9 rfl ?_
  refine xJ_getI hX dX6_copyFrom_10 fd_X6_31 rfl (oX6_k hL1) ?_
  refine xJ_putIM hX dX6_copyFrom_13 fd_X6_31 ft_X6 rfl rfl rfl rfl (oX6_k hL) hM5 (hM5 _ _) (fun M13 e13 hM13 => ?_)
  replace hp := hp M13 e13
  refine xJ_aload_n hX dX6_copyFrom_16 rfl ?_
  refine xJ_getR (b := (b1 + 1)) hX dX6_copyFrom_17 fd_X6_9 rfl (oX6_k hL1) (oX6_r0 hL1) ?_
  refine xJ_aload_n hX dX6_copyFrom_20 rfl ?_
  refine xJ_getR (b := (a + 1)) hX dX6_copyFrom_21 fd_X6_9 rfl (oX6_k hL) (oX6_r0 hL) ?_
  refine xJ_aload_n hX dX6_copyFrom_24 rfl ?_
  refine xJ_getI hX dX6_copyFrom_25 fd_X6_27 rfl (oX6_k hL) ?_
  refine xJ_callSN (As := [_, _, _]) hX hB dX6_copyFrom_28 ln_X6_34 sm_X11_copyRow (c_X11_copyRow (oX6_k0 hL1) (oX6_n0 hL1) ⟨by decide, by decide⟩ (oX6_k0 hL) (oX6_n0 hL) ⟨by decide, by decide⟩ hM13 (hM13 _ _) hp) (by decide) rfl rfl rfl (Nat.le_of_ble_eq_true rfl) (by decide) (by decide) (fun v t9 M28 hv => ?_)
  obtain ⟨rfl, hM28, ht9, hp⟩ := hv
  replace ht9 := ht9.symm
  subst ht9
  dsimp only [Option.toList, List.cons_append, List.nil_append]
  refine xJ_aload_n hX dX6_copyFrom_31 rfl ?_
  refine xJ_getR (b := (b1 + 2)) hX dX6_copyFrom_32 fd_X6_15 rfl (oX6_k hL1) (oX6_r1 hL1) ?_
  refine xJ_aload_n hX dX6_copyFrom_35 rfl ?_
  refine xJ_getR (b := (a + 2)) hX dX6_copyFrom_36 fd_X6_15 rfl (oX6_k hL) (oX6_r1 hL) ?_
  refine xJ_aload_n hX dX6_copyFrom_39 rfl ?_
  refine xJ_getI hX dX6_copyFrom_40 fd_X6_27 rfl (oX6_k hL) ?_
  refine xJ_callSN (As := [_, _, _]) hX hB dX6_copyFrom_43 ln_X6_34 sm_X11_copyRow (c_X11_copyRow (oX6_k1 hL1) (oX6_n1 hL1) ⟨by decide, by decide⟩ (oX6_k1 hL) (oX6_n1 hL) ⟨by decide, by decide⟩ hM28 (hM28 _ _) hp) (by decide) rfl rfl rfl (Nat.le_of_ble_eq_true rfl) (by decide) (by decide) (fun v t9 M43 hv => ?_)
  obtain ⟨rfl, hM43, ht9, hp⟩ := hv
  replace ht9 := ht9.symm
  subst ht9
  dsimp only [Option.toList, List.cons_append, List.nil_append]
  refine xJ_aload_n hX dX6_copyFrom_46 rfl ?_
  refine xJ_getR (b := (b1 + 3)) hX dX6_copyFrom_47 fd_X6_18 rfl (oX6_k hL1) (oX6_r2 hL1) ?_
  refine xJ_aload_n hX dX6_copyFrom_50 rfl ?_
  refine xJ_getR (b := (a + 3)) hX dX6_copyFrom_51 fd_X6_18 rfl (oX6_k hL) (oX6_r2 hL) ?_
  refine xJ_aload_n hX dX6_copyFrom_54 rfl ?_
  refine xJ_getI hX dX6_copyFrom_55 fd_X6_27 rfl (oX6_k hL) ?_
  refine xJ_callSN (As := [_, _, _]) hX hB dX6_copyFrom_58 ln_X6_34 sm_X11_copyRow (c_X11_copyRow (oX6_k2 hL1) (oX6_n2 hL1) ⟨by decide, by decide⟩ (oX6_k2 hL) (oX6_n2 hL) ⟨by decide, by decide⟩ hM43 (hM43 _ _) hp) (by decide) rfl rfl rfl (Nat.le_of_ble_eq_true rfl) (by decide) (by decide) (fun v t9 M58 hv => ?_)
  obtain ⟨rfl, hM58, ht9, hp⟩ := hv
  replace ht9 := ht9.symm
  subst ht9
  dsimp only [Option.toList, List.cons_append, List.nil_append]
  refine xJ_aload_n hX dX6_copyFrom_61 rfl ?_
  refine xJ_getR (b := (b1 + 4)) hX dX6_copyFrom_62 fd_X6_21 rfl (oX6_k hL1) (oX6_r3 hL1) ?_
  refine xJ_aload_n hX dX6_copyFrom_65 rfl ?_
  refine xJ_getR (b := (a + 4)) hX dX6_copyFrom_66 fd_X6_21 rfl (oX6_k hL) (oX6_r3 hL) ?_
  refine xJ_aload_n hX dX6_copyFrom_69 rfl ?_
  refine xJ_getI hX dX6_copyFrom_70 fd_X6_27 rfl (oX6_k hL) ?_
  refine xJ_callSN (As := [_, _, _]) hX hB dX6_copyFrom_73 ln_X6_34 sm_X11_copyRow (c_X11_copyRow (oX6_k3 hL1) (oX6_n3 hL1) ⟨by decide, by decide⟩ (oX6_k3 hL) (oX6_n3 hL) ⟨by decide, by decide⟩ hM58 (hM58 _ _) hp) (by decide) rfl rfl rfl (Nat.le_of_ble_eq_true rfl) (by decide) (by decide) (fun v t9 M73 hv => ?_)
  obtain ⟨rfl, hM73, ht9, hp⟩ := hv
  replace ht9 := ht9.symm
  subst ht9
  dsimp only [Option.toList, List.cons_append, List.nil_append]
  refine xJ_aload_n hX dX6_copyFrom_76 rfl ?_
  refine xJ_getR (b := (b1 + 5)) hX dX6_copyFrom_77 fd_X6_24 rfl (oX6_k hL1) (oX6_r4 hL1) ?_
  refine xJ_aload_n hX dX6_copyFrom_80 rfl ?_
  refine xJ_getR (b := (a + 5)) hX dX6_copyFrom_81 fd_X6_24 rfl (oX6_k hL) (oX6_r4 hL) ?_
  refine xJ_aload_n hX dX6_copyFrom_84 rfl ?_
  refine xJ_getI hX dX6_copyFrom_85 fd_X6_27 rfl (oX6_k hL) ?_
  refine xJ_callSN (As := [_, _, _]) hX hB dX6_copyFrom_88 ln_X6_34 sm_X11_copyRow (c_X11_copyRow (oX6_k4 hL1) (oX6_n4 hL1) ⟨by decide, by decide⟩ (oX6_k4 hL) (oX6_n4 hL) ⟨by decide, by decide⟩ hM73 (hM73 _ _) hp) (by decide) rfl rfl rfl (Nat.le_of_ble_eq_true rfl) (by decide) (by decide) (fun v t9 M88 hv => ?_)
  obtain ⟨rfl, hM88, ht9, hp⟩ := hv
  replace ht9 := ht9.symm
  subst ht9
  dsimp only [Option.toList, List.cons_append, List.nil_append]
  refine xJ_vret hX hB dX6_copyFrom_91 (by decide) (by decide) ⟨rfl, hM88, rfl, hp⟩
