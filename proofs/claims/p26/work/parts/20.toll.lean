def p_X11_checkGate (a : Nat) (x1 : Int) (M : xMe) (Q : xMe → Prop) (E : String → xMe → Prop) : Prop :=
  ((x1 < 0 → E "java/lang/IndexOutOfBoundsException" M) ∧ (0 ≤ x1 → ((x1 < (M (a + 45) 3) → Q M) ∧ ((M (a + 45) 3) ≤ x1 → E "java/lang/IndexOutOfBoundsException" M))))
set_option maxHeartbeats 4000000 in
set_option maxRecDepth 100000 in
theorem c_X11_checkGate {G : xGx} {t : xTh} {M : xMe} {a : Nat} {x1 : Int} {Q : xMe → Prop} {E : String → xMe → Prop} (hL : oX11 t a) (hM : xMR M) (hx1 : xR x1) (hp : p_X11_checkGate a x1 M Q E) : xCt G yX11_checkGate cX11_checkGate 2 none 7 1 6 [vr a, vi x1] t M (fun v t' M' => v = none ∧ xMR M' ∧ t' = t ∧ Q M') (fun cls t' M' => (∃ z, t' = (z, t.2)) ∧ xMR M' ∧ E cls M') := by
  refine xCt_of (L0 := [vr a, vi x1]) (by decide +kernel) (Nat.le_of_ble_eq_true rfl) rfl ?_
  intro X hX hB
  unfold p_X11_checkGate at hp
  refine xJ_iload_n hX dX11_checkGate_0 rfl ?_
  refine xJ_if_lt hX dX11_checkGate_1 (tgt := 18) (by decide) hx1 (fun c1 => ?_) (fun c1 => ?_)
  · replace hp := hp.1 c1
    refine xJ_throwW (i := 1) hX hB dX11_checkGate_18 dX11_checkGate_21 dX11_checkGate_22 dX11_checkGate_25 dX11_checkGate_28 tw_X11_281 kl_X11_277 (by decide +kernel) (by decide +kernel) rfl (by decide) (Nat.le_of_ble_eq_true rfl) (by decide) (by decide) (fun z _ => ⟨⟨z, rfl⟩, hM, hp⟩)
  · replace hp := hp.2 c1
    refine xJ_iload_n hX dX11_checkGate_4 rfl ?_
    refine xJ_aload_n hX dX11_checkGate_5 rfl ?_
    refine xJ_getR (b := (a + 44)) hX dX11_checkGate_6 fd_X11_19 rfl (oX11_k hL) (oX11_r1 hL) ?_
    refine xJ_getR (b := (a + 45)) hX dX11_checkGate_9 fd_X11_86 rfl (oX10_k (oX11_o1 hL)) (oX10_r0 (oX11_o1 hL)) ?_
    refine xJ_getI hX dX11_checkGate_12 fd_X11_90 rfl (oX2_k (oX10_o0 (oX11_o1 hL))) ?_
    refine xJ_icmp_lt hX dX11_checkGate_15 (tgt := 29) (by decide) hx1 (hM _ _) (fun c15 => ?_) (fun c15 => ?_)
    · replace hp := hp.1 c15
      refine xJ_vret hX hB dX11_checkGate_29 (by decide) (by decide) ⟨rfl, hM, rfl, hp⟩
    · replace hp := hp.2 c15
      refine xJ_throwW (i := 1) hX hB dX11_checkGate_18 dX11_checkGate_21 dX11_checkGate_22 dX11_checkGate_25 dX11_checkGate_28 tw_X11_281 kl_X11_277 (by decide +kernel) (by decide +kernel) rfl (by decide) (Nat.le_of_ble_eq_true rfl) (by decide) (by decide) (fun z _ => ⟨⟨z, rfl⟩, hM, hp⟩)
def p_X11_checkFlow (a : Nat) (x1 : Int) (M : xMe) (Q : xMe → Prop) (E : String → xMe → Prop) : Prop :=
  ((x1 < 0 → E "java/lang/IndexOutOfBoundsException" M) ∧ (0 ≤ x1 → ((x1 < (M (a + 49) 4) → Q M) ∧ ((M (a + 49) 4) ≤ x1 → E "java/lang/IndexOutOfBoundsException" M))))
set_option maxHeartbeats 4000000 in
set_option maxRecDepth 100000 in
theorem c_X11_checkFlow {G : xGx} {t : xTh} {M : xMe} {a : Nat} {x1 : Int} {Q : xMe → Prop} {E : String → xMe → Prop} (hL : oX11 t a) (hM : xMR M) (hx1 : xR x1) (hp : p_X11_checkFlow a x1 M Q E) : xCt G yX11_checkFlow cX11_checkFlow 2 none 7 1 6 [vr a, vi x1] t M (fun v t' M' => v = none ∧ xMR M' ∧ t' = t ∧ Q M') (fun cls t' M' => (∃ z, t' = (z, t.2)) ∧ xMR M' ∧ E cls M') := by
  refine xCt_of (L0 := [vr a, vi x1]) (by decide +kernel) (Nat.le_of_ble_eq_true rfl) rfl ?_
  intro X hX hB
  unfold p_X11_checkFlow at hp
  refine xJ_iload_n hX dX11_checkFlow_0 rfl ?_
  refine xJ_if_lt hX dX11_checkFlow_1 (tgt := 18) (by decide) hx1 (fun c1 => ?_) (fun c1 => ?_)
  · replace hp := hp.1 c1
    refine xJ_throwW (i := 2) hX hB dX11_checkFlow_18 dX11_checkFlow_21 dX11_checkFlow_22 dX11_checkFlow_25 dX11_checkFlow_28 tw_X11_281 kl_X11_277 (by decide +kernel) (by decide +kernel) rfl (by decide) (Nat.le_of_ble_eq_true rfl) (by decide) (by decide) (fun z _ => ⟨⟨z, rfl⟩, hM, hp⟩)
  · replace hp := hp.2 c1
    refine xJ_iload_n hX dX11_checkFlow_4 rfl ?_
    refine xJ_aload_n hX dX11_checkFlow_5 rfl ?_
    refine xJ_getR (b := (a + 44)) hX dX11_checkFlow_6 fd_X11_19 rfl (oX11_k hL) (oX11_r1 hL) ?_
    refine xJ_getR (b := (a + 49)) hX dX11_checkFlow_9 fd_X11_93 rfl (oX10_k (oX11_o1 hL)) (oX10_r1 (oX11_o1 hL)) ?_
    refine xJ_getI hX dX11_checkFlow_12 fd_X11_97 rfl (oX1_k (oX10_o1 (oX11_o1 hL))) ?_
    refine xJ_icmp_lt hX dX11_checkFlow_15 (tgt := 29) (by decide) hx1 (hM _ _) (fun c15 => ?_) (fun c15 => ?_)
    · replace hp := hp.1 c15
      refine xJ_vret hX hB dX11_checkFlow_29 (by decide) (by decide) ⟨rfl, hM, rfl, hp⟩
    · replace hp := hp.2 c15
      refine xJ_throwW (i := 2) hX hB dX11_checkFlow_18 dX11_checkFlow_21 dX11_checkFlow_22 dX11_checkFlow_25 dX11_checkFlow_28 tw_X11_281 kl_X11_277 (by decide +kernel) (by decide +kernel) rfl (by decide) (Nat.le_of_ble_eq_true rfl) (by decide) (by decide) (fun z _ => ⟨⟨z, rfl⟩, hM, hp⟩)
def p_X11_checkPacket (a : Nat) (x1 : Int) (M : xMe) (Q : xMe → Prop) (E : String → xMe → Prop) : Prop :=
  ((x1 < 0 → E "java/lang/IndexOutOfBoundsException" M) ∧ (0 ≤ x1 → ((x1 < (M (a + 60) 8) → Q M) ∧ ((M (a + 60) 8) ≤ x1 → E "java/lang/IndexOutOfBoundsException" M))))
set_option maxHeartbeats 4000000 in
set_option maxRecDepth 100000 in
theorem c_X11_checkPacket {G : xGx} {t : xTh} {M : xMe} {a : Nat} {x1 : Int} {Q : xMe → Prop} {E : String → xMe → Prop} (hL : oX11 t a) (hM : xMR M) (hx1 : xR x1) (hp : p_X11_checkPacket a x1 M Q E) : xCt G yX11_checkPacket cX11_checkPacket 2 none 7 1 6 [vr a, vi x1] t M (fun v t' M' => v = none ∧ xMR M' ∧ t' = t ∧ Q M') (fun cls t' M' => (∃ z, t' = (z, t.2)) ∧ xMR M' ∧ E cls M') := by
  refine xCt_of (L0 := [vr a, vi x1]) (by decide +kernel) (Nat.le_of_ble_eq_true rfl) rfl ?_
  intro X hX hB
  unfold p_X11_checkPacket at hp
  refine xJ_iload_n hX dX11_checkPacket_0 rfl ?_
  refine xJ_if_lt hX dX11_checkPacket_1 (tgt := 18) (by decide) hx1 (fun c1 => ?_) (fun c1 => ?_)
  · replace hp := hp.1 c1
    refine xJ_throwW (i := 3) hX hB dX11_checkPacket_18 dX11_checkPacket_21 dX11_checkPacket_22 dX11_checkPacket_25 dX11_checkPacket_28 tw_X11_281 kl_X11_277 (by decide +kernel) (by decide +kernel) rfl (by decide) (Nat.le_of_ble_eq_true rfl) (by decide) (by decide) (fun z _ => ⟨⟨z, rfl⟩, hM, hp⟩)
  · replace hp := hp.2 c1
    refine xJ_iload_n hX dX11_checkPacket_4 rfl ?_
    refine xJ_aload_n hX dX11_checkPacket_5 rfl ?_
    refine xJ_getR (b := (a + 44)) hX dX11_checkPacket_6 fd_X11_19 rfl (oX11_k hL) (oX11_r1 hL) ?_
    refine xJ_getR (b := (a + 60)) hX dX11_checkPacket_9 fd_X11_74 rfl (oX10_k (oX11_o1 hL)) (oX10_r3 (oX11_o1 hL)) ?_
    refine xJ_getI hX dX11_checkPacket_12 fd_X11_78 rfl (oX5_k (oX10_o3 (oX11_o1 hL))) ?_
    refine xJ_icmp_lt hX dX11_checkPacket_15 (tgt := 29) (by decide) hx1 (hM _ _) (fun c15 => ?_) (fun c15 => ?_)
    · replace hp := hp.1 c15
      refine xJ_vret hX hB dX11_checkPacket_29 (by decide) (by decide) ⟨rfl, hM, rfl, hp⟩
    · replace hp := hp.2 c15
      refine xJ_throwW (i := 3) hX hB dX11_checkPacket_18 dX11_checkPacket_21 dX11_checkPacket_22 dX11_checkPacket_25 dX11_checkPacket_28 tw_X11_281 kl_X11_277 (by decide +kernel) (by decide +kernel) rfl (by decide) (Nat.le_of_ble_eq_true rfl) (by decide) (by decide) (fun z _ => ⟨⟨z, rfl⟩, hM, hp⟩)
def p_X11_checkCoupon (a : Nat) (x1 : Int) (M : xMe) (Q : xMe → Prop) (E : String → xMe → Prop) : Prop :=
  ((x1 < 0 → E "java/lang/IndexOutOfBoundsException" M) ∧ (0 ≤ x1 → ((x1 < (M (a + 69) 4) → Q M) ∧ ((M (a + 69) 4) ≤ x1 → E "java/lang/IndexOutOfBoundsException" M))))
set_option maxHeartbeats 4000000 in
set_option maxRecDepth 100000 in
theorem c_X11_checkCoupon {G : xGx} {t : xTh} {M : xMe} {a : Nat} {x1 : Int} {Q : xMe → Prop} {E : String → xMe → Prop} (hL : oX11 t a) (hM : xMR M) (hx1 : xR x1) (hp : p_X11_checkCoupon a x1 M Q E) : xCt G yX11_checkCoupon cX11_checkCoupon 2 none 7 1 6 [vr a, vi x1] t M (fun v t' M' => v = none ∧ xMR M' ∧ t' = t ∧ Q M') (fun cls t' M' => (∃ z, t' = (z, t.2)) ∧ xMR M' ∧ E cls M') := by
  refine xCt_of (L0 := [vr a, vi x1]) (by decide +kernel) (Nat.le_of_ble_eq_true rfl) rfl ?_
  intro X hX hB
  unfold p_X11_checkCoupon at hp
  refine xJ_iload_n hX dX11_checkCoupon_0 rfl ?_
  refine xJ_if_lt hX dX11_checkCoupon_1 (tgt := 18) (by decide) hx1 (fun c1 => ?_) (fun c1 => ?_)
  · replace hp := hp.1 c1
    refine xJ_throwW (i := 4) hX hB dX11_checkCoupon_18 dX11_checkCoupon_21 dX11_checkCoupon_22 dX11_checkCoupon_25 dX11_checkCoupon_28 tw_X11_281 kl_X11_277 (by decide +kernel) (by decide +kernel) rfl (by decide) (Nat.le_of_ble_eq_true rfl) (by decide) (by decide) (fun z _ => ⟨⟨z, rfl⟩, hM, hp⟩)
  · replace hp := hp.2 c1
    refine xJ_iload_n hX dX11_checkCoupon_4 rfl ?_
    refine xJ_aload_n hX dX11_checkCoupon_5 rfl ?_
    refine xJ_getR (b := (a + 44)) hX dX11_checkCoupon_6 fd_X11_19 rfl (oX11_k hL) (oX11_r1 hL) ?_
    refine xJ_getR (b := (a + 69)) hX dX11_checkCoupon_9 fd_X11_100 rfl (oX10_k (oX11_o1 hL)) (oX10_r4 (oX11_o1 hL)) ?_
    refine xJ_getI hX dX11_checkCoupon_12 fd_X11_104 rfl (oX0_k (oX10_o4 (oX11_o1 hL))) ?_
    refine xJ_icmp_lt hX dX11_checkCoupon_15 (tgt := 29) (by decide) hx1 (hM _ _) (fun c15 => ?_) (fun c15 => ?_)
    · replace hp := hp.1 c15
      refine xJ_vret hX hB dX11_checkCoupon_29 (by decide) (by decide) ⟨rfl, hM, rfl, hp⟩
    · replace hp := hp.2 c15
      refine xJ_throwW (i := 4) hX hB dX11_checkCoupon_18 dX11_checkCoupon_21 dX11_checkCoupon_22 dX11_checkCoupon_25 dX11_checkCoupon_28 tw_X11_281 kl_X11_277 (by decide +kernel) (by decide +kernel) rfl (by decide) (Nat.le_of_ble_eq_true rfl) (by decide) (by decide) (fun z _ => ⟨⟨z, rfl⟩, hM, hp⟩)
def p_X11_checkRange (a : Nat) (x1 : Int) (x2 : Int) (x3 : Int) (M : xMe) (Q : xMe → Prop) (E : String → xMe → Prop) : Prop :=
  ((x1 < x2 → E "java/lang/IllegalArgumentException" M) ∧ (x2 ≤ x1 → ((x1 ≤ x3 → Q M) ∧ (x3 < x1 → E "java/lang/IllegalArgumentException" M))))
set_option maxHeartbeats 4000000 in
set_option maxRecDepth 100000 in
theorem c_X11_checkRange {G : xGx} {t : xTh} {M : xMe} {a : Nat} {x1 : Int} {x2 : Int} {x3 : Int} {Q : xMe → Prop} {E : String → xMe → Prop} (hL : oX11 t a) (hM : xMR M) (hx1 : xR x1) (hx2 : xR x2) (hx3 : xR x3) (hp : p_X11_checkRange a x1 x2 x3 M Q E) : xCt G yX11_checkRange cX11_checkRange 4 none 7 1 6 [vr a, vi x1, vi x2, vi x3] t M (fun v t' M' => v = none ∧ xMR M' ∧ t' = t ∧ Q M') (fun cls t' M' => (∃ z, t' = (z, t.2)) ∧ xMR M' ∧ E cls M') := by
  refine xCt_of (L0 := [vr a, vi x1, vi x2, vi x3]) (by decide +kernel) (Nat.le_of_ble_eq_true rfl) rfl ?_
  intro X hX hB
  unfold p_X11_checkRange at hp
  refine xJ_iload_n hX dX11_checkRange_0 rfl ?_
  refine xJ_iload_n hX dX11_checkRange_1 rfl ?_
  refine xJ_icmp_lt hX dX11_checkRange_2 (tgt := 10) (by decide) hx1 hx2 (fun c2 => ?_) (fun c2 => ?_)
  · replace hp := hp.1 c2
    refine xJ_throwW (i := 16) hX hB dX11_checkRange_10 dX11_checkRange_13 dX11_checkRange_14 dX11_checkRange_17 dX11_checkRange_20 tw_X11_54 kl_X11_50 (by decide +kernel) (by decide +kernel) rfl (by decide) (Nat.le_of_ble_eq_true rfl) (by decide) (by decide) (fun z _ => ⟨⟨z, rfl⟩, hM, hp⟩)
  · replace hp := hp.2 c2
    refine xJ_iload_n hX dX11_checkRange_5 rfl ?_
    refine xJ_iload_n hX dX11_checkRange_6 rfl ?_
    refine xJ_icmp_le hX dX11_checkRange_7 (tgt := 21) (by decide) hx1 hx3 (fun c7 => ?_) (fun c7 => ?_)
    · replace hp := hp.1 c7
      refine xJ_vret hX hB dX11_checkRange_21 (by decide) (by decide) ⟨rfl, hM, rfl, hp⟩
    · replace hp := hp.2 c7
      refine xJ_throwW (i := 16) hX hB dX11_checkRange_10 dX11_checkRange_13 dX11_checkRange_14 dX11_checkRange_17 dX11_checkRange_20 tw_X11_54 kl_X11_50 (by decide +kernel) (by decide +kernel) rfl (by decide) (Nat.le_of_ble_eq_true rfl) (by decide) (by decide) (fun z _ => ⟨⟨z, rfl⟩, hM, hp⟩)
def p_X11_append (F : Nat) (a : Nat) (x1 : Int) (x2 : Int) (x3 : Int) (x4 : Int) (x5 : Int) (M : xMe) (Q : Int → xMe → Prop) : Prop :=
  (((M (a + 2) 1) ≤ 680 → p_X9_put F (a + 2) x1 M (fun M25 => p_X9_put F (a + 2) x2 M25 (fun M31 => p_X9_put F (a + 2) x3 M31 (fun M37 => p_X9_put F (a + 2) x4 M37 (fun M44 => p_X9_put F (a + 2) x5 M44 (fun M51 => Q (M51 (a + 2) 1) M51)))))) ∧ (680 < (M (a + 2) 1) → Q ((-1)) M))
set_option maxHeartbeats 4000000 in
set_option maxRecDepth 100000 in
theorem c_X11_append {G : xGx} {t : xTh} {M : xMe} {F : Nat} {a : Nat} {x1 : Int} {x2 : Int} {x3 : Int} {x4 : Int} {x5 : Int} {Q : Int → xMe → Prop} (hL : oX11 t a) (hM : xMR M) (hx1 : xR x1) (hx2 : xR x2) (hx3 : xR x3) (hx4 : xR x4) (hx5 : xR x5) (hp : p_X11_append F a x1 x2 x3 x4 x5 M Q) : xCt G yX11_append cX11_append 7 (some .int) 1 0 0 [vr a, vi x1, vi x2, vi x3, vi x4, vi x5] t M (fun v t' M' => ∃ r, v = some (vi r) ∧ xR r ∧ xMR M' ∧ t' = t ∧ Q r M') (fun _ _ _ => False) := by
  refine xCt_of (L0 := [vr a, vi x1, vi x2, vi x3, vi x4, vi x5, vU]) (by decide +kernel) (Nat.le_of_ble_eq_true rfl) rfl ?_
  intro X hX hB
  unfold p_X11_append at hp
  refine xJ_aload_n hX dX11_append_0 rfl ?_
  refine xJ_getR (b := (a + 1)) hX dX11_append_1 fd_X11_10 rfl (oX11_k hL) (oX11_r0 hL) ?_
  refine xJ_getR (b := (a + 2)) hX dX11_append_4 fd_X11_37 rfl (oX8_k (oX11_o0 hL)) (oX8_r0 (oX11_o0 hL)) ?_
  refine xJ_astore hX dX11_append_7 (Nat.le_of_ble_eq_true rfl) rfl ?_
  dsimp only [List.set]
  refine xJ_aload hX dX11_append_9 rfl ?_
  refine xJ_getI hX dX11_append_11 fd_X11_41 rfl (oX9_k (oX8_o0 (oX11_o0 hL))) ?_
  refine xJ_sipush hX dX11_append_14 rfl ?_
  refine xJ_icmp_le hX dX11_append_17 (tgt := 22) (by decide) (hM _ _) ⟨by decide, by decide⟩ (fun c17 => ?_) (fun c17 => ?_)
  · replace hp := hp.1 c17
    refine xJ_aload hX dX11_append_22 rfl ?_
    refine xJ_iload_n hX dX11_append_24 rfl ?_
    refine xJ_callV (As := [_]) hX hB dX11_append_25 lk_X11_46 im_X9_put se_X9_put rfl (by decide) (oX9_k (oX8_o0 (oX11_o0 hL))) (c_X9_put (oX8_o0 (oX11_o0 hL)) hM hx1 hp) (by decide) rfl rfl rfl (Nat.le_of_ble_eq_true rfl) (by decide) (by decide) (fun v t9 M25 hv => ?_) (fun _ _ _ q => q.elim)
    obtain ⟨rfl, hM25, ht9, hp⟩ := hv
    replace ht9 := ht9.symm
    subst ht9
    dsimp only [Option.toList, List.cons_append, List.nil_append]
    refine xJ_aload hX dX11_append_28 rfl ?_
    refine xJ_iload_n hX dX11_append_30 rfl ?_
    refine xJ_callV (As := [_]) hX hB dX11_append_31 lk_X11_46 im_X9_put se_X9_put rfl (by decide) (oX9_k (oX8_o0 (oX11_o0 hL))) (c_X9_put (oX8_o0 (oX11_o0 hL)) hM25 hx2 hp) (by decide) rfl rfl rfl (Nat.le_of_ble_eq_true rfl) (by decide) (by decide) (fun v t9 M31 hv => ?_) (fun _ _ _ q => q.elim)
    obtain ⟨rfl, hM31, ht9, hp⟩ := hv
    replace ht9 := ht9.symm
    subst ht9
    dsimp only [Option.toList, List.cons_append, List.nil_append]
    refine xJ_aload hX dX11_append_34 rfl ?_
    refine xJ_iload_n hX dX11_append_36 rfl ?_
    refine xJ_callV (As := [_]) hX hB dX11_append_37 lk_X11_46 im_X9_put se_X9_put rfl (by decide) (oX9_k (oX8_o0 (oX11_o0 hL))) (c_X9_put (oX8_o0 (oX11_o0 hL)) hM31 hx3 hp) (by decide) rfl rfl rfl (Nat.le_of_ble_eq_true rfl) (by decide) (by decide) (fun v t9 M37 hv => ?_) (fun _ _ _ q => q.elim)
    obtain ⟨rfl, hM37, ht9, hp⟩ := hv
    replace ht9 := ht9.symm
    subst ht9
    dsimp only [Option.toList, List.cons_append, List.nil_append]
    refine xJ_aload hX dX11_append_40 rfl ?_
    refine xJ_iload hX dX11_append_42 rfl ?_
    refine xJ_callV (As := [_]) hX hB dX11_append_44 lk_X11_46 im_X9_put se_X9_put rfl (by decide) (oX9_k (oX8_o0 (oX11_o0 hL))) (c_X9_put (oX8_o0 (oX11_o0 hL)) hM37 hx4 hp) (by decide) rfl rfl rfl (Nat.le_of_ble_eq_true rfl) (by decide) (by decide) (fun v t9 M44 hv => ?_) (fun _ _ _ q => q.elim)
    obtain ⟨rfl, hM44, ht9, hp⟩ := hv
    replace ht9 := ht9.symm
    subst ht9
    dsimp only [Option.toList, List.cons_append, List.nil_append]
    refine xJ_aload hX dX11_append_47 rfl ?_
    refine xJ_iload hX dX11_append_49 rfl ?_
    refine xJ_callV (As := [_]) hX hB dX11_append_51 lk_X11_46 im_X9_put se_X9_put rfl (by decide) (oX9_k (oX8_o0 (oX11_o0 hL))) (c_X9_put (oX8_o0 (oX11_o0 hL)) hM44 hx5 hp) (by decide) rfl rfl rfl (Nat.le_of_ble_eq_true rfl) (by decide) (by decide) (fun v t9 M51 hv => ?_) (fun _ _ _ q => q.elim)
    obtain ⟨rfl, hM51, ht9, hp⟩ := hv
    replace ht9 := ht9.symm
    subst ht9
    dsimp only [Option.toList, List.cons_append, List.nil_append]
    refine xJ_aload hX dX11_append_54 rfl ?_
    refine xJ_getI hX dX11_append_56 fd_X11_41 rfl (oX9_k (oX8_o0 (oX11_o0 hL))) ?_
    refine xJ_iret hX hB dX11_append_59 (by decide) (by decide) ⟨_, rfl, (hM51 _ _), hM51, rfl, hp⟩
  · replace hp := hp.2 c17
    refine xJ_iconst hX dX11_append_20 ?_
    refine xJ_iret hX hB dX11_append_21 (by decide) (by decide) ⟨_, rfl, ⟨by decide, by decide⟩, hM, rfl, hp⟩
def p_X11_errorOffset (a : Nat) (M : xMe) (Q : Int → xMe → Prop) : Prop :=
  Q (M a 4) M
set_option maxHeartbeats 4000000 in
set_option maxRecDepth 100000 in
theorem c_X11_errorOffset {G : xGx} {t : xTh} {M : xMe} {a : Nat} {Q : Int → xMe → Prop} (hL : oX11 t a) (hM : xMR M)(hp : p_X11_errorOffset a M Q) : xCt G yX11_errorOffset cX11_errorOffset 1 (some .int) 0 0 0 [vr a] t M (fun v t' M' => ∃ r, v = some (vi r) ∧ xR r ∧ xMR M' ∧ t' = t ∧ Q r M') (fun _ _ _ => False) := by
  refine xCt_of (L0 := [vr a]) (by decide +kernel) (Nat.le_of_ble_eq_true rfl) rfl ?_
  intro X hX hB
  unfold p_X11_errorOffset at hp
  refine xJ_aload_n hX dX11_errorOffset_0 rfl ?_
  refine xJ_getI hX dX11_errorOffset_1 fd_X11_33 rfl (oX11_k hL) ?_
  refine xJ_iret hX hB dX11_errorOffset_4 (by decide) (by decide) ⟨_, rfl, (hM _ _), hM, rfl, hp⟩
def p_X11_state (F : Nat) (a : Nat) (x1 : Int) (M : xMe) (Q : Int → xMe → Prop) (E : String → xMe → Prop) : Prop :=
  ((x1 < 0 ∨ 9 < x1 → E "java/lang/IllegalArgumentException" M) ∧ (x1 = 0 → Q (M (a + 44) 7) M) ∧ (x1 = 1 → Q (M (a + 45) 3) M) ∧ (x1 = 2 → Q (M (a + 49) 4) M) ∧ (x1 = 3 → Q (M (a + 60) 8) M) ∧ (x1 = 4 → Q (M (a + 69) 4) M) ∧ (x1 = 5 → p_X5_countIn F (a + 60) 3 M (fun r116 M116 => Q r116 M116)) ∧ (x1 = 6 → p_X5_countIn F (a + 60) 4 M (fun r128 M128 => Q r128 M128)) ∧ (x1 = 7 → Q (M (a + 44) 11) M) ∧ (x1 = 8 → Q (M (a + 44) 12) M) ∧ (x1 = 9 → Q (M (a + 44) 8) M))
set_option maxHeartbeats 4000000 in
set_option maxRecDepth 100000 in
theorem c_X11_state {G : xGx} {t : xTh} {M : xMe} {F : Nat} {a : Nat} {x1 : Int} {Q : Int → xMe → Prop} {E : String → xMe → Prop} (hL : oX11 t a) (hM : xMR M) (hx1 : xR x1) (hp : p_X11_state F a x1 M Q E) : xCt G yX11_state cX11_state 2 (some .int) 7 1 6 [vr a, vi x1] t M (fun v t' M' => ∃ r, v = some (vi r) ∧ xR r ∧ xMR M' ∧ t' = t ∧ Q r M') (fun cls t' M' => (∃ z, t' = (z, t.2)) ∧ xMR M' ∧ E cls M') := by
  refine xCt_of (L0 := [vr a, vi x1]) (by decide +kernel) (Nat.le_of_ble_eq_true rfl) rfl ?_
  intro X hX hB
  unfold p_X11_state at hp
  refine xJ_iload_n hX dX11_state_0 rfl ?_
  obtain ⟨hpo, hp⟩ := hp
  by_cases hsw1 : x1 < 0 ∨ 9 < x1
  · refine xJ_tOut hX dX11_state_1 hx1 hsw1 (tgt := 156) (by decide) ?_
    replace hp := hpo hsw1
    refine xJ_throw (i := 12) hX hB dX11_state_156 dX11_state_159 dX11_state_160 dX11_state_162 dX11_state_165 tw_X11_54 kl_X11_50 (by decide +kernel) (by decide +kernel) rfl (by decide) (Nat.le_of_ble_eq_true rfl) (by decide) (by decide) (fun z _ => ⟨⟨z, rfl⟩, hM, hp⟩)
  · obtain hc1 | hc1 | hc1 | hc1 | hc1 | hc1 | hc1 | hc1 | hc1 | hc1 : x1 = 0 ∨ x1 = 1 ∨ x1 = 2 ∨ x1 = 3 ∨ x1 = 4 ∨ x1 = 5 ∨ x1 = 6 ∨ x1 = 7 ∨ x1 = 8 ∨ x1 = 9 := by omega
    · refine xJ_tIn hX dX11_state_1 hx1 (by omega) (by omega) (off := 55) (by rw [hc1]; rfl) (tgt := 56) (by decide) ?_
      replace hp := hp.1 hc1
      refine xJ_aload_n hX dX11_state_56 rfl ?_
      refine xJ_getR (b := (a + 44)) hX dX11_state_57 fd_X11_19 rfl (oX11_k hL) (oX11_r1 hL) ?_
      refine xJ_getI hX dX11_state_60 fd_X11_83 rfl (oX10_k (oX11_o1 hL)) ?_
      refine xJ_iret hX hB dX11_state_63 (by decide) (by decide) ⟨_, rfl, (hM _ _), hM, rfl, hp⟩
    · refine xJ_tIn hX dX11_state_1 hx1 (by omega) (by omega) (off := 63) (by rw [hc1]; rfl) (tgt := 64) (by decide) ?_
      replace hp := hp.2.1 hc1
      refine xJ_aload_n hX dX11_state_64 rfl ?_
      refine xJ_getR (b := (a + 44)) hX dX11_state_65 fd_X11_19 rfl (oX11_k hL) (oX11_r1 hL) ?_
      refine xJ_getR (b := (a + 45)) hX dX11_state_68 fd_X11_86 rfl (oX10_k (oX11_o1 hL)) (oX10_r0 (oX11_o1 hL)) ?_
      refine xJ_getI hX dX11_state_71 fd_X11_90 rfl (oX2_k (oX10_o0 (oX11_o1 hL))) ?_
      refine xJ_iret hX hB dX11_state_74 (by decide) (by decide) ⟨_, rfl, (hM _ _), hM, rfl, hp⟩
    · refine xJ_tIn hX dX11_state_1 hx1 (by omega) (by omega) (off := 74) (by rw [hc1]; rfl) (tgt := 75) (by decide) ?_
      replace hp := hp.2.2.1 hc1
      refine xJ_aload_n hX dX11_state_75 rfl ?_
      refine xJ_getR (b := (a + 44)) hX dX11_state_76 fd_X11_19 rfl (oX11_k hL) (oX11_r1 hL) ?_
      refine xJ_getR (b := (a + 49)) hX dX11_state_79 fd_X11_93 rfl (oX10_k (oX11_o1 hL)) (oX10_r1 (oX11_o1 hL)) ?_
      refine xJ_getI hX dX11_state_82 fd_X11_97 rfl (oX1_k (oX10_o1 (oX11_o1 hL))) ?_
      refine xJ_iret hX hB dX11_state_85 (by decide) (by decide) ⟨_, rfl, (hM _ _), hM, rfl, hp⟩
    · refine xJ_tIn hX dX11_state_1 hx1 (by omega) (by omega) (off := 85) (by rw [hc1]; rfl) (tgt := 86) (by decide) ?_
      replace hp := hp.2.2.2.1 hc1
      refine xJ_aload_n hX dX11_state_86 rfl ?_
      refine xJ_getR (b := (a + 44)) hX dX11_state_87 fd_X11_19 rfl (oX11_k hL) (oX11_r1 hL) ?_
      refine xJ_getR (b := (a + 60)) hX dX11_state_90 fd_X11_74 rfl (oX10_k (oX11_o1 hL)) (oX10_r3 (oX11_o1 hL)) ?_
      refine xJ_getI hX dX11_state_93 fd_X11_78 rfl (oX5_k (oX10_o3 (oX11_o1 hL))) ?_
      refine xJ_iret hX hB dX11_state_96 (by decide) (by decide) ⟨_, rfl, (hM _ _), hM, rfl, hp⟩
    · refine xJ_tIn hX dX11_state_1 hx1 (by omega) (by omega) (off := 96) (by rw [hc1]; rfl) (tgt := 97) (by decide) ?_
      replace hp := hp.2.2.2.2.1 hc1
      refine xJ_aload_n hX dX11_state_97 rfl ?_
      refine xJ_getR (b := (a + 44)) hX dX11_state_98 fd_X11_19 rfl (oX11_k hL) (oX11_r1 hL) ?_
      refine xJ_getR (b := (a + 69)) hX dX11_state_101 fd_X11_100 rfl (oX10_k (oX11_o1 hL)) (oX10_r4 (oX11_o1 hL)) ?_
      refine xJ_getI hX dX11_state_104 fd_X11_104 rfl (oX0_k (oX10_o4 (oX11_o1 hL))) ?_
      refine xJ_iret hX hB dX11_state_107 (by decide) (by decide) ⟨_, rfl, (hM _ _), hM, rfl, hp⟩
    · refine xJ_tIn hX dX11_state_1 hx1 (by omega) (by omega) (off := 107) (by rw [hc1]; rfl) (tgt := 108) (by decide) ?_
      replace hp := hp.2.2.2.2.2.1 hc1
      refine xJ_aload_n hX dX11_state_108 rfl ?_
      refine xJ_getR (b := (a + 44)) hX dX11_state_109 fd_X11_19 rfl (oX11_k hL) (oX11_r1 hL) ?_
      refine xJ_getR (b := (a + 60)) hX dX11_state_112 fd_X11_74 rfl (oX10_k (oX11_o1 hL)) (oX10_r3 (oX11_o1 hL)) ?_
      refine xJ_iconst hX dX11_state_115 ?_
      refine xJ_callV (As := [_]) hX hB dX11_state_116 lk_X11_107 im_X5_countIn se_X5_countIn rfl (by decide) (oX5_k (oX10_o3 (oX11_o1 hL))) (c_X5_countIn (oX10_o3 (oX11_o1 hL)) hM ⟨by decide, by decide⟩ hp) (by decide) rfl rfl rfl (Nat.le_of_ble_eq_true rfl) (by decide) (by decide) (fun v t9 M116 hv => ?_) (fun _ _ _ q => q.elim)
      obtain ⟨r116, rfl, h116, hM116, ht9, hp⟩ := hv
      replace ht9 := ht9.symm
      subst ht9
      dsimp only [Option.toList, List.cons_append, List.nil_append]
      refine xJ_iret hX hB dX11_state_119 (by decide) (by decide) ⟨_, rfl, h116, hM116, rfl, hp⟩
    · refine xJ_tIn hX dX11_state_1 hx1 (by omega) (by omega) (off := 119) (by rw [hc1]; rfl) (tgt := 120) (by decide) ?_
      replace hp := hp.2.2.2.2.2.2.1 hc1
      refine xJ_aload_n hX dX11_state_120 rfl ?_
      refine xJ_getR (b := (a + 44)) hX dX11_state_121 fd_X11_19 rfl (oX11_k hL) (oX11_r1 hL) ?_
      refine xJ_getR (b := (a + 60)) hX dX11_state_124 fd_X11_74 rfl (oX10_k (oX11_o1 hL)) (oX10_r3 (oX11_o1 hL)) ?_
      refine xJ_iconst hX dX11_state_127 ?_
      refine xJ_callV (As := [_]) hX hB dX11_state_128 lk_X11_107 im_X5_countIn se_X5_countIn rfl (by decide) (oX5_k (oX10_o3 (oX11_o1 hL))) (c_X5_countIn (oX10_o3 (oX11_o1 hL)) hM ⟨by decide, by decide⟩ hp) (by decide) rfl rfl rfl (Nat.le_of_ble_eq_true rfl) (by decide) (by decide) (fun v t9 M128 hv => ?_) (fun _ _ _ q => q.elim)
      obtain ⟨r128, rfl, h128, hM128, ht9, hp⟩ := hv
      replace ht9 := ht9.symm
      subst ht9
      dsimp only [Option.toList, List.cons_append, List.nil_append]
      refine xJ_iret hX hB dX11_state_131 (by decide) (by decide) ⟨_, rfl, h128, hM128, rfl, hp⟩
    · refine xJ_tIn hX dX11_state_1 hx1 (by omega) (by omega) (off := 131) (by rw [hc1]; rfl) (tgt := 132) (by decide) ?_
      replace hp := hp.2.2.2.2.2.2.2.1 hc1
      refine xJ_aload_n hX dX11_state_132 rfl ?_
      refine xJ_getR (b := (a + 44)) hX dX11_state_133 fd_X11_19 rfl (oX11_k hL) (oX11_r1 hL) ?_
      refine xJ_getI hX dX11_state_136 fd_X11_111 rfl (oX10_k (oX11_o1 hL)) ?_
      refine xJ_iret hX hB dX11_state_139 (by decide) (by decide) ⟨_, rfl, (hM _ _), hM, rfl, hp⟩
    · refine xJ_tIn hX dX11_state_1 hx1 (by omega) (by omega) (off := 139) (by rw [hc1]; rfl) (tgt := 140) (by decide) ?_
      replace hp := hp.2.2.2.2.2.2.2.2.1 hc1
      refine xJ_aload_n hX dX11_state_140 rfl ?_
      refine xJ_getR (b := (a + 44)) hX dX11_state_141 fd_X11_19 rfl (oX11_k hL) (oX11_r1 hL) ?_
      refine xJ_getI hX dX11_state_144 fd_X11_114 rfl (oX10_k (oX11_o1 hL)) ?_
      refine xJ_iret hX hB dX11_state_147 (by decide) (by decide) ⟨_, rfl, (hM _ _), hM, rfl, hp⟩
    · refine xJ_tIn hX dX11_state_1 hx1 (by omega) (by omega) (off := 147) (by rw [hc1]; rfl) (tgt := 148) (by decide) ?_
      replace hp := hp.2.2.2.2.2.2.2.2.2 hc1
      refine xJ_aload_n hX dX11_state_148 rfl ?_
      refine xJ_getR (b := (a + 44)) hX dX11_state_149 fd_X11_19 rfl (oX11_k hL) (oX11_r1 hL) ?_
      refine xJ_getI hX dX11_state_152 fd_X11_117 rfl (oX10_k (oX11_o1 hL)) ?_
      refine xJ_iret hX hB dX11_state_155 (by decide) (by decide) ⟨_, rfl, (hM _ _), hM, rfl, hp⟩
def p_X11_gate (a : Nat) (x1 : Int) (x2 : Int) (M : xMe) (Q : Int → xMe → Prop) (E : String → xMe → Prop) : Prop :=
  p_X11_checkGate a x1 M (fun M2 => ((x2 < 0 ∨ 2 < x2 → E "java/lang/IllegalArgumentException" M2) ∧ (x2 = 0 → ((0 : Int) ≤ x1 ∧ (x1 : Int) < 6) ∧ Q (M2 (a + 46) x1.toNat) M2) ∧ (x2 = 1 → ((0 : Int) ≤ x1 ∧ (x1 : Int) < 6) ∧ Q (M2 (a + 47) x1.toNat) M2) ∧ (x2 = 2 → ((0 : Int) ≤ x1 ∧ (x1 : Int) < 6) ∧ Q (M2 (a + 48) x1.toNat) M2))) E
set_option maxHeartbeats 4000000 in
set_option maxRecDepth 100000 in
theorem c_X11_gate {G : xGx} {t : xTh} {M : xMe} {a : Nat} {x1 : Int} {x2 : Int} {Q : Int → xMe → Prop} {E : String → xMe → Prop} (hL : oX11 t a) (hM : xMR M) (hx1 : xR x1) (hx2 : xR x2) (hp : p_X11_gate a x1 x2 M Q E) : xCt G yX11_gate cX11_gate 3 (some .int) 8 2 12 [vr a, vi x1, vi x2] t M (fun v t' M' => ∃ r, v = some (vi r) ∧ xR r ∧ xMR M' ∧ t' = t ∧ Q r M') (fun cls t' M' => (∃ z, t' = (z, t.2)) ∧ xMR M' ∧ E cls M') := by
  refine xCt_of (L0 := [vr a, vi x1, vi x2]) (by decide +kernel) (Nat.le_of_ble_eq_true rfl) rfl ?_
  intro X hX hB
  unfold p_X11_gate at hp
  refine xJ_aload_n hX dX11_gate_0 rfl ?_
  refine xJ_iload_n hX dX11_gate_1 rfl ?_
  refine xJ_callV (As := [_]) hX hB dX11_gate_2 lk_X11_122 im_X11_checkGate se_X11_checkGate rfl (by decide) (oX11_k hL) (c_X11_checkGate hL hM hx1 hp) (by decide) rfl rfl rfl (Nat.le_of_ble_eq_true rfl) (by decide) (by decide) (fun v t9 M2 hv => ?_) (fun _ _ _ q => q)
  obtain ⟨rfl, hM2, ht9, hp⟩ := hv
  replace ht9 := ht9.symm
  subst ht9
  dsimp only [Option.toList, List.cons_append, List.nil_append]
  refine xJ_iload_n hX dX11_gate_5 rfl ?_
  obtain ⟨hpo, hp⟩ := hp
  by_cases hsw6 : x2 < 0 ∨ 2 < x2
  · refine xJ_tOut hX dX11_gate_6 hx2 hsw6 (tgt := 71) (by decide) ?_
    replace hp := hpo hsw6
    refine xJ_throw (i := 12) hX hB dX11_gate_71 dX11_gate_74 dX11_gate_75 dX11_gate_77 dX11_gate_80 tw_X11_54 kl_X11_50 (by decide +kernel) (by decide +kernel) rfl (by decide) (Nat.le_of_ble_eq_true rfl) (by decide) (by decide) (fun z _ => ⟨⟨z, rfl⟩, hM2, hp⟩)
  · obtain hc6 | hc6 | hc6 : x2 = 0 ∨ x2 = 1 ∨ x2 = 2 := by omega
    · refine xJ_tIn hX dX11_gate_6 hx2 (by omega) (by omega) (off := 26) (by rw [hc6]; rfl) (tgt := 32) (by decide) ?_
      replace hp := hp.1 hc6
      refine xJ_aload_n hX dX11_gate_32 rfl ?_
      refine xJ_getR (b := (a + 44)) hX dX11_gate_33 fd_X11_19 rfl (oX11_k hL) (oX11_r1 hL) ?_
      refine xJ_getR (b := (a + 45)) hX dX11_gate_36 fd_X11_86 rfl (oX10_k (oX11_o1 hL)) (oX10_r0 (oX11_o1 hL)) ?_
      refine xJ_getR (b := (a + 46)) hX dX11_gate_39 fd_X11_125 rfl (oX2_k (oX10_o0 (oX11_o1 hL))) (oX2_r0 (oX10_o0 (oX11_o1 hL))) ?_
      refine xJ_iload_n hX dX11_gate_42 rfl ?_
      obtain ⟨h43, hp⟩ := hp
      refine xJ_iald hX dX11_gate_43 (oX2_k0 (oX10_o0 (oX11_o1 hL))) h43.1 (xnlt (oX2_n0 (oX10_o0 (oX11_o1 hL))) h43.2) ?_
      refine xJ_iret hX hB dX11_gate_44 (by decide) (by decide) ⟨_, rfl, (hM2 _ _), hM2, rfl, hp⟩
    · refine xJ_tIn hX dX11_gate_6 hx2 (by omega) (by omega) (off := 39) (by rw [hc6]; rfl) (tgt := 45) (by decide) ?_
      replace hp := hp.2.1 hc6
      refine xJ_aload_n hX dX11_gate_45 rfl ?_
      refine xJ_getR (b := (a + 44)) hX dX11_gate_46 fd_X11_19 rfl (oX11_k hL) (oX11_r1 hL) ?_
      refine xJ_getR (b := (a + 45)) hX dX11_gate_49 fd_X11_86 rfl (oX10_k (oX11_o1 hL)) (oX10_r0 (oX11_o1 hL)) ?_
      refine xJ_getR (b := (a + 47)) hX dX11_gate_52 fd_X11_129 rfl (oX2_k (oX10_o0 (oX11_o1 hL))) (oX2_r1 (oX10_o0 (oX11_o1 hL))) ?_
      refine xJ_iload_n hX dX11_gate_55 rfl ?_
      obtain ⟨h56, hp⟩ := hp
      refine xJ_iald hX dX11_gate_56 (oX2_k1 (oX10_o0 (oX11_o1 hL))) h56.1 (xnlt (oX2_n1 (oX10_o0 (oX11_o1 hL))) h56.2) ?_
      refine xJ_iret hX hB dX11_gate_57 (by decide) (by decide) ⟨_, rfl, (hM2 _ _), hM2, rfl, hp⟩
    · refine xJ_tIn hX dX11_gate_6 hx2 (by omega) (by omega) (off := 52) (by rw [hc6]; rfl) (tgt := 58) (by decide) ?_
      replace hp := hp.2.2 hc6
      refine xJ_aload_n hX dX11_gate_58 rfl ?_
      refine xJ_getR (b := (a + 44)) hX dX11_gate_59 fd_X11_19 rfl (oX11_k hL) (oX11_r1 hL) ?_
      refine xJ_getR (b := (a + 45)) hX dX11_gate_62 fd_X11_86 rfl (oX10_k (oX11_o1 hL)) (oX10_r0 (oX11_o1 hL)) ?_
      refine xJ_getR (b := (a + 48)) hX dX11_gate_65 fd_X11_132 rfl (oX2_k (oX10_o0 (oX11_o1 hL))) (oX2_r2 (oX10_o0 (oX11_o1 hL))) ?_
      refine xJ_iload_n hX dX11_gate_68 rfl ?_
      obtain ⟨h69, hp⟩ := hp
      refine xJ_iald hX dX11_gate_69 (oX2_k2 (oX10_o0 (oX11_o1 hL))) h69.1 (xnlt (oX2_n2 (oX10_o0 (oX11_o1 hL))) h69.2) ?_
      refine xJ_iret hX hB dX11_gate_70 (by decide) (by decide) ⟨_, rfl, (hM2 _ _), hM2, rfl, hp⟩
def p_X11_flow (F : Nat) (a : Nat) (x1 : Int) (x2 : Int) (M : xMe) (Q : Int → xMe → Prop) (E : String → xMe → Prop) : Prop :=
  p_X11_checkFlow a x1 M (fun M2 => ((x2 < 0 ∨ 5 < x2 → E "java/lang/IllegalArgumentException" M2) ∧ (x2 = 0 → ((0 : Int) ≤ x1 ∧ (x1 : Int) < 6) ∧ Q (M2 (a + 51) x1.toNat) M2) ∧ (x2 = 1 → ((0 : Int) ≤ x1 ∧ (x1 : Int) < 6) ∧ Q (M2 (a + 52) x1.toNat) M2) ∧ (x2 = 2 → ((0 : Int) ≤ x1 ∧ (x1 : Int) < 6) ∧ Q (M2 (a + 53) x1.toNat) M2) ∧ (x2 = 3 → p_X0_countOf F (a + 69) x1 M2 (fun r91 M91 => Q r91 M91)) ∧ (x2 = 4 → p_X0_sumOf F (a + 69) x1 M2 (fun r103 M103 => Q r103 M103)) ∧ (x2 = 5 → p_X5_deliveredSizeOf F (a + 60) x1 M2 (fun r115 M115 => Q r115 M115)))) E
set_option maxHeartbeats 4000000 in
set_option maxRecDepth 100000 in
theorem c_X11_flow {G : xGx} {t : xTh} {M : xMe} {F : Nat} {a : Nat} {x1 : Int} {x2 : Int} {Q : Int → xMe → Prop} {E : String → xMe → Prop} (hL : oX11 t a) (hM : xMR M) (hx1 : xR x1) (hx2 : xR x2) (hp : p_X11_flow F a x1 x2 M Q E) : xCt G yX11_flow cX11_flow 3 (some .int) 8 2 12 [vr a, vi x1, vi x2] t M (fun v t' M' => ∃ r, v = some (vi r) ∧ xR r ∧ xMR M' ∧ t' = t ∧ Q r M') (fun cls t' M' => (∃ z, t' = (z, t.2)) ∧ xMR M' ∧ E cls M') := by
  refine xCt_of (L0 := [vr a, vi x1, vi x2]) (by decide +kernel) (Nat.le_of_ble_eq_true rfl) rfl ?_
  intro X hX hB
  unfold p_X11_flow at hp
  refine xJ_aload_n hX dX11_flow_0 rfl ?_
  refine xJ_iload_n hX dX11_flow_1 rfl ?_
  refine xJ_callV (As := [_]) hX hB dX11_flow_2 lk_X11_135 im_X11_checkFlow se_X11_checkFlow rfl (by decide) (oX11_k hL) (c_X11_checkFlow hL hM hx1 hp) (by decide) rfl rfl rfl (Nat.le_of_ble_eq_true rfl) (by decide) (by decide) (fun v t9 M2 hv => ?_) (fun _ _ _ q => q)
  obtain ⟨rfl, hM2, ht9, hp⟩ := hv
  replace ht9 := ht9.symm
  subst ht9
  dsimp only [Option.toList, List.cons_append, List.nil_append]
  refine xJ_iload_n hX dX11_flow_5 rfl ?_
  obtain ⟨hpo, hp⟩ := hp
  by_cases hsw6 : x2 < 0 ∨ 5 < x2
  · refine xJ_tOut hX dX11_flow_6 hx2 hsw6 (tgt := 119) (by decide) ?_
    replace hp := hpo hsw6
    refine xJ_throw (i := 12) hX hB dX11_flow_119 dX11_flow_122 dX11_flow_123 dX11_flow_125 dX11_flow_128 tw_X11_54 kl_X11_50 (by decide +kernel) (by decide +kernel) rfl (by decide) (Nat.le_of_ble_eq_true rfl) (by decide) (by decide) (fun z _ => ⟨⟨z, rfl⟩, hM2, hp⟩)
  · obtain hc6 | hc6 | hc6 | hc6 | hc6 | hc6 : x2 = 0 ∨ x2 = 1 ∨ x2 = 2 ∨ x2 = 3 ∨ x2 = 4 ∨ x2 = 5 := by omega
    · refine xJ_tIn hX dX11_flow_6 hx2 (by omega) (by omega) (off := 38) (by rw [hc6]; rfl) (tgt := 44) (by decide) ?_
      replace hp := hp.1 hc6
      refine xJ_aload_n hX dX11_flow_44 rfl ?_
      refine xJ_getR (b := (a + 44)) hX dX11_flow_45 fd_X11_19 rfl (oX11_k hL) (oX11_r1 hL) ?_
      refine xJ_getR (b := (a + 49)) hX dX11_flow_48 fd_X11_93 rfl (oX10_k (oX11_o1 hL)) (oX10_r1 (oX11_o1 hL)) ?_
      refine xJ_getR (b := (a + 51)) hX dX11_flow_51 fd_X11_138 rfl (oX1_k (oX10_o1 (oX11_o1 hL))) (oX1_r1 (oX10_o1 (oX11_o1 hL))) ?_
      refine xJ_iload_n hX dX11_flow_54 rfl ?_
      obtain ⟨h55, hp⟩ := hp
      refine xJ_iald hX dX11_flow_55 (oX1_k1 (oX10_o1 (oX11_o1 hL))) h55.1 (xnlt (oX1_n1 (oX10_o1 (oX11_o1 hL))) h55.2) ?_
      refine xJ_iret hX hB dX11_flow_56 (by decide) (by decide) ⟨_, rfl, (hM2 _ _), hM2, rfl, hp⟩
    · refine xJ_tIn hX dX11_flow_6 hx2 (by omega) (by omega) (off := 51) (by rw [hc6]; rfl) (tgt := 57) (by decide) ?_
      replace hp := hp.2.1 hc6
      refine xJ_aload_n hX dX11_flow_57 rfl ?_
      refine xJ_getR (b := (a + 44)) hX dX11_flow_58 fd_X11_19 rfl (oX11_k hL) (oX11_r1 hL) ?_
      refine xJ_getR (b := (a + 49)) hX dX11_flow_61 fd_X11_93 rfl (oX10_k (oX11_o1 hL)) (oX10_r1 (oX11_o1 hL)) ?_
      refine xJ_getR (b := (a + 52)) hX dX11_flow_64 fd_X11_141 rfl (oX1_k (oX10_o1 (oX11_o1 hL))) (oX1_r2 (oX10_o1 (oX11_o1 hL))) ?_
      refine xJ_iload_n hX dX11_flow_67 rfl ?_
      obtain ⟨h68, hp⟩ := hp
      refine xJ_iald hX dX11_flow_68 (oX1_k2 (oX10_o1 (oX11_o1 hL))) h68.1 (xnlt (oX1_n2 (oX10_o1 (oX11_o1 hL))) h68.2) ?_
      refine xJ_iret hX hB dX11_flow_69 (by decide) (by decide) ⟨_, rfl, (hM2 _ _), hM2, rfl, hp⟩
    · refine xJ_tIn hX dX11_flow_6 hx2 (by omega) (by omega) (off := 64) (by rw [hc6]; rfl) (tgt := 70) (by decide) ?_
      replace hp := hp.2.2.1 hc6
      refine xJ_aload_n hX dX11_flow_70 rfl ?_
      refine xJ_getR (b := (a + 44)) hX dX11_flow_71 fd_X11_19 rfl (oX11_k hL) (oX11_r1 hL) ?_
      refine xJ_getR (b := (a + 49)) hX dX11_flow_74 fd_X11_93 rfl (oX10_k (oX11_o1 hL)) (oX10_r1 (oX11_o1 hL)) ?_
      refine xJ_getR (b := (a + 53)) hX dX11_flow_77 fd_X11_144 rfl (oX1_k (oX10_o1 (oX11_o1 hL))) (oX1_r3 (oX10_o1 (oX11_o1 hL))) ?_
      refine xJ_iload_n hX dX11_flow_80 rfl ?_
      obtain ⟨h81, hp⟩ := hp
      refine xJ_iald hX dX11_flow_81 (oX1_k3 (oX10_o1 (oX11_o1 hL))) h81.1 (xnlt (oX1_n3 (oX10_o1 (oX11_o1 hL))) h81.2) ?_
      refine xJ_iret hX hB dX11_flow_82 (by decide) (by decide) ⟨_, rfl, (hM2 _ _), hM2, rfl, hp⟩
    · refine xJ_tIn hX dX11_flow_6 hx2 (by omega) (by omega) (off := 77) (by rw [hc6]; rfl) (tgt := 83) (by decide) ?_
      replace hp := hp.2.2.2.1 hc6
      refine xJ_aload_n hX dX11_flow_83 rfl ?_
      refine xJ_getR (b := (a + 44)) hX dX11_flow_84 fd_X11_19 rfl (oX11_k hL) (oX11_r1 hL) ?_
      refine xJ_getR (b := (a + 69)) hX dX11_flow_87 fd_X11_100 rfl (oX10_k (oX11_o1 hL)) (oX10_r4 (oX11_o1 hL)) ?_
      refine xJ_iload_n hX dX11_flow_90 rfl ?_
      refine xJ_callV (As := [_]) hX hB dX11_flow_91 lk_X11_147 im_X0_countOf se_X0_countOf rfl (by decide) (oX0_k (oX10_o4 (oX11_o1 hL))) (c_X0_countOf (oX10_o4 (oX11_o1 hL)) hM2 hx1 hp) (by decide) rfl rfl rfl (Nat.le_of_ble_eq_true rfl) (by decide) (by decide) (fun v t9 M91 hv => ?_) (fun _ _ _ q => q.elim)
      obtain ⟨r91, rfl, h91, hM91, ht9, hp⟩ := hv
      replace ht9 := ht9.symm
      subst ht9
      dsimp only [Option.toList, List.cons_append, List.nil_append]
      refine xJ_iret hX hB dX11_flow_94 (by decide) (by decide) ⟨_, rfl, h91, hM91, rfl, hp⟩
    · refine xJ_tIn hX dX11_flow_6 hx2 (by omega) (by omega) (off := 89) (by rw [hc6]; rfl) (tgt := 95) (by decide) ?_
      replace hp := hp.2.2.2.2.1 hc6
      refine xJ_aload_n hX dX11_flow_95 rfl ?_
      refine xJ_getR (b := (a + 44)) hX dX11_flow_96 fd_X11_19 rfl (oX11_k hL) (oX11_r1 hL) ?_
      refine xJ_getR (b := (a + 69)) hX dX11_flow_99 fd_X11_100 rfl (oX10_k (oX11_o1 hL)) (oX10_r4 (oX11_o1 hL)) ?_
      refine xJ_iload_n hX dX11_flow_102 rfl ?_
      refine xJ_callV (As := [_]) hX hB dX11_flow_103 lk_X11_150 im_X0_sumOf se_X0_sumOf rfl (by decide) (oX0_k (oX10_o4 (oX11_o1 hL))) (c_X0_sumOf (oX10_o4 (oX11_o1 hL)) hM2 hx1 hp) (by decide) rfl rfl rfl (Nat.le_of_ble_eq_true rfl) (by decide) (by decide) (fun v t9 M103 hv => ?_) (fun _ _ _ q => q.elim)
      obtain ⟨r103, rfl, h103, hM103, ht9, hp⟩ := hv
      replace ht9 := ht9.symm
      subst ht9
      dsimp only [Option.toList, List.cons_append, List.nil_append]
      refine xJ_iret hX hB dX11_flow_106 (by decide) (by decide) ⟨_, rfl, h103, hM103, rfl, hp⟩
    · refine xJ_tIn hX dX11_flow_6 hx2 (by omega) (by omega) (off := 101) (by rw [hc6]; rfl) (tgt := 107) (by decide) ?_
      replace hp := hp.2.2.2.2.2 hc6
      refine xJ_aload_n hX dX11_flow_107 rfl ?_
      refine xJ_getR (b := (a + 44)) hX dX11_flow_108 fd_X11_19 rfl (oX11_k hL) (oX11_r1 hL) ?_
      refine xJ_getR (b := (a + 60)) hX dX11_flow_111 fd_X11_74 rfl (oX10_k (oX11_o1 hL)) (oX10_r3 (oX11_o1 hL)) ?_
      refine xJ_iload_n hX dX11_flow_114 rfl ?_
      refine xJ_callV (As := [_]) hX hB dX11_flow_115 lk_X11_153 im_X5_deliveredSizeOf se_X5_deliveredSizeOf rfl (by decide) (oX5_k (oX10_o3 (oX11_o1 hL))) (c_X5_deliveredSizeOf (oX10_o3 (oX11_o1 hL)) hM2 hx1 hp) (by decide) rfl rfl rfl (Nat.le_of_ble_eq_true rfl) (by decide) (by decide) (fun v t9 M115 hv => ?_) (fun _ _ _ q => q.elim)
      obtain ⟨r115, rfl, h115, hM115, ht9, hp⟩ := hv
      replace ht9 := ht9.symm
      subst ht9
      dsimp only [Option.toList, List.cons_append, List.nil_append]
      refine xJ_iret hX hB dX11_flow_118 (by decide) (by decide) ⟨_, rfl, h115, hM115, rfl, hp⟩
def p_X11_tokens (a : Nat) (x1 : Int) (x2 : Int) (M : xMe) (Q : Int → xMe → Prop) (E : String → xMe → Prop) : Prop :=
  p_X11_checkGate a x1 M (fun M2 => p_X11_checkFlow a x2 M2 (fun M7 => (xR (x1 * 6)) ∧ (xR ((x1 * 6) + x2)) ∧ ((0 : Int) ≤ ((x1 * 6) + x2) ∧ (((x1 * 6) + x2) : Int) < 36) ∧ Q (M7 (a + 55) ((x1 * 6) + x2).toNat) M7) E) E
set_option maxHeartbeats 4000000 in
set_option maxRecDepth 100000 in
theorem c_X11_tokens {G : xGx} {t : xTh} {M : xMe} {a : Nat} {x1 : Int} {x2 : Int} {Q : Int → xMe → Prop} {E : String → xMe → Prop} (hL : oX11 t a) (hM : xMR M) (hx1 : xR x1) (hx2 : xR x2) (hp : p_X11_tokens a x1 x2 M Q E) : xCt G yX11_tokens cX11_tokens 3 (some .int) 8 2 12 [vr a, vi x1, vi x2] t M (fun v t' M' => ∃ r, v = some (vi r) ∧ xR r ∧ xMR M' ∧ t' = t ∧ Q r M') (fun cls t' M' => (∃ z, t' = (z, t.2)) ∧ xMR M' ∧ E cls M') := by
  refine xCt_of (L0 := [vr a, vi x1, vi x2]) (by decide +kernel) (Nat.le_of_ble_eq_true rfl) rfl ?_
  intro X hX hB
  unfold p_X11_tokens at hp
  refine xJ_aload_n hX dX11_tokens_0 rfl ?_
  refine xJ_iload_n hX dX11_tokens_1 rfl ?_
  refine xJ_callV (As := [_]) hX hB dX11_tokens_2 lk_X11_122 im_X11_checkGate se_X11_checkGate rfl (by decide) (oX11_k hL) (c_X11_checkGate hL hM hx1 hp) (by decide) rfl rfl rfl (Nat.le_of_ble_eq_true rfl) (by decide) (by decide) (fun v t9 M2 hv => ?_) (fun _ _ _ q => q)
  obtain ⟨rfl, hM2, ht9, hp⟩ := hv
  replace ht9 := ht9.symm
  subst ht9
  dsimp only [Option.toList, List.cons_append, List.nil_append]
  refine xJ_aload_n hX dX11_tokens_5 rfl ?_
  refine xJ_iload_n hX dX11_tokens_6 rfl ?_
  refine xJ_callV (As := [_]) hX hB dX11_tokens_7 lk_X11_135 im_X11_checkFlow se_X11_checkFlow rfl (by decide) (oX11_k hL) (c_X11_checkFlow hL hM2 hx2 hp) (by decide) rfl rfl rfl (Nat.le_of_ble_eq_true rfl) (by decide) (by decide) (fun v t9 M7 hv => ?_) (fun _ _ _ q => q)
  obtain ⟨rfl, hM7, ht9, hp⟩ := hv
  replace ht9 := ht9.symm
  subst ht9
  dsimp only [Option.toList, List.cons_append, List.nil_append]
  refine xJ_aload_n hX dX11_tokens_10 rfl ?_
  refine xJ_getR (b := (a + 44)) hX dX11_tokens_11 fd_X11_19 rfl (oX11_k hL) (oX11_r1 hL) ?_
  refine xJ_getR (b := (a + 54)) hX dX11_tokens_14 fd_X11_165 rfl (oX10_k (oX11_o1 hL)) (oX10_r2 (oX11_o1 hL)) ?_
  refine xJ_getR (b := (a + 55)) hX dX11_tokens_17 fd_X11_169 rfl (oX4_k (oX10_o2 (oX11_o1 hL))) (oX4_r0 (oX10_o2 (oX11_o1 hL))) ?_
  refine xJ_iload_n hX dX11_tokens_20 rfl ?_
  refine xJ_bipush hX dX11_tokens_21 rfl ?_
  refine xJ_imul hX dX11_tokens_23 ?_
  obtain ⟨h23, hp⟩ := hp
  refine xJ_iload_n hX dX11_tokens_24 rfl ?_
  refine xJ_iadd hX dX11_tokens_25 ?_
  obtain ⟨h25, hp⟩ := hp
  obtain ⟨h26, hp⟩ := hp
  refine xJ_iald hX dX11_tokens_26 (oX4_k0 (oX10_o2 (oX11_o1 hL))) h26.1 (xnlt (oX4_n0 (oX10_o2 (oX11_o1 hL))) h26.2) ?_
  refine xJ_iret hX hB dX11_tokens_27 (by decide) (by decide) ⟨_, rfl, (hM7 _ _), hM7, rfl, hp⟩
def p_X11_queue (a : Nat) (x1 : Int) (x2 : Int) (M : xMe) (Q : Int → xMe → Prop) (E : String → xMe → Prop) : Prop :=
  p_X11_checkGate a x1 M (fun M2 => p_X11_checkFlow a x2 M2 (fun M7 => (xR (x1 * 6)) ∧ (xR ((x1 * 6) + x2)) ∧ ((0 : Int) ≤ ((x1 * 6) + x2) ∧ (((x1 * 6) + x2) : Int) < 36) ∧ Q (M7 (a + 56) ((x1 * 6) + x2).toNat) M7) E) E
set_option maxHeartbeats 4000000 in
set_option maxRecDepth 100000 in
theorem c_X11_queue {G : xGx} {t : xTh} {M : xMe} {a : Nat} {x1 : Int} {x2 : Int} {Q : Int → xMe → Prop} {E : String → xMe → Prop} (hL : oX11 t a) (hM : xMR M) (hx1 : xR x1) (hx2 : xR x2) (hp : p_X11_queue a x1 x2 M Q E) : xCt G yX11_queue cX11_queue 3 (some .int) 8 2 12 [vr a, vi x1, vi x2] t M (fun v t' M' => ∃ r, v = some (vi r) ∧ xR r ∧ xMR M' ∧ t' = t ∧ Q r M') (fun cls t' M' => (∃ z, t' = (z, t.2)) ∧ xMR M' ∧ E cls M') := by
  refine xCt_of (L0 := [vr a, vi x1, vi x2]) (by decide +kernel) (Nat.le_of_ble_eq_true rfl) rfl ?_
  intro X hX hB
  unfold p_X11_queue at hp
  refine xJ_aload_n hX dX11_queue_0 rfl ?_
  refine xJ_iload_n hX dX11_queue_1 rfl ?_
  refine xJ_callV (As := [_]) hX hB dX11_queue_2 lk_X11_122 im_X11_checkGate se_X11_checkGate rfl (by decide) (oX11_k hL) (c_X11_checkGate hL hM hx1 hp) (by decide) rfl rfl rfl (Nat.le_of_ble_eq_true rfl) (by decide) (by decide) (fun v t9 M2 hv => ?_) (fun _ _ _ q => q)
  obtain ⟨rfl, hM2, ht9, hp⟩ := hv
  replace ht9 := ht9.symm
  subst ht9
  dsimp only [Option.toList, List.cons_append, List.nil_append]
  refine xJ_aload_n hX dX11_queue_5 rfl ?_
  refine xJ_iload_n hX dX11_queue_6 rfl ?_
  refine xJ_callV (As := [_]) hX hB dX11_queue_7 lk_X11_135 im_X11_checkFlow se_X11_checkFlow rfl (by decide) (oX11_k hL) (c_X11_checkFlow hL hM2 hx2 hp) (by decide) rfl rfl rfl (Nat.le_of_ble_eq_true rfl) (by decide) (by decide) (fun v t9 M7 hv => ?_) (fun _ _ _ q => q)
  obtain ⟨rfl, hM7, ht9, hp⟩ := hv
  replace ht9 := ht9.symm
  subst ht9
  dsimp only [Option.toList, List.cons_append, List.nil_append]
  refine xJ_aload_n hX dX11_queue_10 rfl ?_
  refine xJ_getR (b := (a + 44)) hX dX11_queue_11 fd_X11_19 rfl (oX11_k hL) (oX11_r1 hL) ?_
  refine xJ_getR (b := (a + 54)) hX dX11_queue_14 fd_X11_165 rfl (oX10_k (oX11_o1 hL)) (oX10_r2 (oX11_o1 hL)) ?_
  refine xJ_getR (b := (a + 56)) hX dX11_queue_17 fd_X11_174 rfl (oX4_k (oX10_o2 (oX11_o1 hL))) (oX4_r1 (oX10_o2 (oX11_o1 hL))) ?_
  refine xJ_iload_n hX dX11_queue_20 rfl ?_
  refine xJ_bipush hX dX11_queue_21 rfl ?_
  refine xJ_imul hX dX11_queue_23 ?_
  obtain ⟨h23, hp⟩ := hp
  refine xJ_iload_n hX dX11_queue_24 rfl ?_
  refine xJ_iadd hX dX11_queue_25 ?_
  obtain ⟨h25, hp⟩ := hp
  obtain ⟨h26, hp⟩ := hp
  refine xJ_iald hX dX11_queue_26 (oX4_k1 (oX10_o2 (oX11_o1 hL))) h26.1 (xnlt (oX4_n1 (oX10_o2 (oX11_o1 hL))) h26.2) ?_
  refine xJ_iret hX hB dX11_queue_27 (by decide) (by decide) ⟨_, rfl, (hM7 _ _), hM7, rfl, hp⟩
def p_X11_packet (a : Nat) (x1 : Int) (x2 : Int) (M : xMe) (Q : Int → xMe → Prop) (E : String → xMe → Prop) : Prop :=
  p_X11_checkPacket a x1 M (fun M2 => ((x2 < 0 ∨ 6 < x2 → E "java/lang/IllegalArgumentException" M2) ∧ (x2 = 0 → ((0 : Int) ≤ x1 ∧ (x1 : Int) < 40) ∧ Q (M2 (a + 61) x1.toNat) M2) ∧ (x2 = 1 → ((0 : Int) ≤ x1 ∧ (x1 : Int) < 40) ∧ Q (M2 (a + 62) x1.toNat) M2) ∧ (x2 = 2 → ((0 : Int) ≤ x1 ∧ (x1 : Int) < 40) ∧ Q (M2 (a + 63) x1.toNat) M2) ∧ (x2 = 3 → ((0 : Int) ≤ x1 ∧ (x1 : Int) < 40) ∧ Q (M2 (a + 64) x1.toNat) M2) ∧ (x2 = 4 → p_X10_gateOf (a + 44) x1 M2 (fun r105 M105 => Q r105 M105)) ∧ (x2 = 5 → ((0 : Int) ≤ x1 ∧ (x1 : Int) < 40) ∧ Q (M2 (a + 67) x1.toNat) M2) ∧ (x2 = 6 → ((0 : Int) ≤ x1 ∧ (x1 : Int) < 40) ∧ Q (M2 (a + 68) x1.toNat) M2))) E
set_option maxHeartbeats 4000000 in
set_option maxRecDepth 100000 in
theorem c_X11_packet {G : xGx} {t : xTh} {M : xMe} {a : Nat} {x1 : Int} {x2 : Int} {Q : Int → xMe → Prop} {E : String → xMe → Prop} (hL : oX11 t a) (hM : xMR M) (hx1 : xR x1) (hx2 : xR x2) (hp : p_X11_packet a x1 x2 M Q E) : xCt G yX11_packet cX11_packet 3 (some .int) 8 2 12 [vr a, vi x1, vi x2] t M (fun v t' M' => ∃ r, v = some (vi r) ∧ xR r ∧ xMR M' ∧ t' = t ∧ Q r M') (fun cls t' M' => (∃ z, t' = (z, t.2)) ∧ xMR M' ∧ E cls M') := by
  refine xCt_of (L0 := [vr a, vi x1, vi x2]) (by decide +kernel) (Nat.le_of_ble_eq_true rfl) rfl ?_
  intro X hX hB
  unfold p_X11_packet at hp
  refine xJ_aload_n hX dX11_packet_0 rfl ?_
  refine xJ_iload_n hX dX11_packet_1 rfl ?_
  refine xJ_callV (As := [_]) hX hB dX11_packet_2 lk_X11_177 im_X11_checkPacket se_X11_checkPacket rfl (by decide) (oX11_k hL) (c_X11_checkPacket hL hM hx1 hp) (by decide) rfl rfl rfl (Nat.le_of_ble_eq_true rfl) (by decide) (by decide) (fun v t9 M2 hv => ?_) (fun _ _ _ q => q)
  obtain ⟨rfl, hM2, ht9, hp⟩ := hv
  replace ht9 := ht9.symm
  subst ht9
  dsimp only [Option.toList, List.cons_append, List.nil_append]
  refine xJ_iload_n hX dX11_packet_5 rfl ?_
  obtain ⟨hpo, hp⟩ := hp
  by_cases hsw6 : x2 < 0 ∨ 6 < x2
  · refine xJ_tOut hX dX11_packet_6 hx2 hsw6 (tgt := 135) (by decide) ?_
    replace hp := hpo hsw6
    refine xJ_throw (i := 12) hX hB dX11_packet_135 dX11_packet_138 dX11_packet_139 dX11_packet_141 dX11_packet_144 tw_X11_54 kl_X11_50 (by decide +kernel) (by decide +kernel) rfl (by decide) (Nat.le_of_ble_eq_true rfl) (by decide) (by decide) (fun z _ => ⟨⟨z, rfl⟩, hM2, hp⟩)
  · obtain hc6 | hc6 | hc6 | hc6 | hc6 | hc6 | hc6 : x2 = 0 ∨ x2 = 1 ∨ x2 = 2 ∨ x2 = 3 ∨ x2 = 4 ∨ x2 = 5 ∨ x2 = 6 := by omega
    · refine xJ_tIn hX dX11_packet_6 hx2 (by omega) (by omega) (off := 42) (by rw [hc6]; rfl) (tgt := 48) (by decide) ?_
      replace hp := hp.1 hc6
      refine xJ_aload_n hX dX11_packet_48 rfl ?_
      refine xJ_getR (b := (a + 44)) hX dX11_packet_49 fd_X11_19 rfl (oX11_k hL) (oX11_r1 hL) ?_
      refine xJ_getR (b := (a + 60)) hX dX11_packet_52 fd_X11_74 rfl (oX10_k (oX11_o1 hL)) (oX10_r3 (oX11_o1 hL)) ?_
      refine xJ_getR (b := (a + 61)) hX dX11_packet_55 fd_X11_180 rfl (oX5_k (oX10_o3 (oX11_o1 hL))) (oX5_r0 (oX10_o3 (oX11_o1 hL))) ?_
      refine xJ_iload_n hX dX11_packet_58 rfl ?_
      obtain ⟨h59, hp⟩ := hp
      refine xJ_iald hX dX11_packet_59 (oX5_k0 (oX10_o3 (oX11_o1 hL))) h59.1 (xnlt (oX5_n0 (oX10_o3 (oX11_o1 hL))) h59.2) ?_
      refine xJ_iret hX hB dX11_packet_60 (by decide) (by decide) ⟨_, rfl, (hM2 _ _), hM2, rfl, hp⟩
    · refine xJ_tIn hX dX11_packet_6 hx2 (by omega) (by omega) (off := 55) (by rw [hc6]; rfl) (tgt := 61) (by decide) ?_
      replace hp := hp.2.1 hc6
      refine xJ_aload_n hX dX11_packet_61 rfl ?_
      refine xJ_getR (b := (a + 44)) hX dX11_packet_62 fd_X11_19 rfl (oX11_k hL) (oX11_r1 hL) ?_
      refine xJ_getR (b := (a + 60)) hX dX11_packet_65 fd_X11_74 rfl (oX10_k (oX11_o1 hL)) (oX10_r3 (oX11_o1 hL)) ?_
      refine xJ_getR (b := (a + 62)) hX dX11_packet_68 fd_X11_183 rfl (oX5_k (oX10_o3 (oX11_o1 hL))) (oX5_r1 (oX10_o3 (oX11_o1 hL))) ?_
      refine xJ_iload_n hX dX11_packet_71 rfl ?_
      obtain ⟨h72, hp⟩ := hp
      refine xJ_iald hX dX11_packet_72 (oX5_k1 (oX10_o3 (oX11_o1 hL))) h72.1 (xnlt (oX5_n1 (oX10_o3 (oX11_o1 hL))) h72.2) ?_
      refine xJ_iret hX hB dX11_packet_73 (by decide) (by decide) ⟨_, rfl, (hM2 _ _), hM2, rfl, hp⟩
    · refine xJ_tIn hX dX11_packet_6 hx2 (by omega) (by omega) (off := 68) (by rw [hc6]; rfl) (tgt := 74) (by decide) ?_
      replace hp := hp.2.2.1 hc6
      refine xJ_aload_n hX dX11_packet_74 rfl ?_
      refine xJ_getR (b := (a + 44)) hX dX11_packet_75 fd_X11_19 rfl (oX11_k hL) (oX11_r1 hL) ?_
      refine xJ_getR (b := (a + 60)) hX dX11_packet_78 fd_X11_74 rfl (oX10_k (oX11_o1 hL)) (oX10_r3 (oX11_o1 hL)) ?_
      refine xJ_getR (b := (a + 63)) hX dX11_packet_81 fd_X11_186 rfl (oX5_k (oX10_o3 (oX11_o1 hL))) (oX5_r2 (oX10_o3 (oX11_o1 hL))) ?_
      refine xJ_iload_n hX dX11_packet_84 rfl ?_
      obtain ⟨h85, hp⟩ := hp
      refine xJ_iald hX dX11_packet_85 (oX5_k2 (oX10_o3 (oX11_o1 hL))) h85.1 (xnlt (oX5_n2 (oX10_o3 (oX11_o1 hL))) h85.2) ?_
      refine xJ_iret hX hB dX11_packet_86 (by decide) (by decide) ⟨_, rfl, (hM2 _ _), hM2, rfl, hp⟩
    · refine xJ_tIn hX dX11_packet_6 hx2 (by omega) (by omega) (off := 81) (by rw [hc6]; rfl) (tgt := 87) (by decide) ?_
      replace hp := hp.2.2.2.1 hc6
      refine xJ_aload_n hX dX11_packet_87 rfl ?_
      refine xJ_getR (b := (a + 44)) hX dX11_packet_88 fd_X11_19 rfl (oX11_k hL) (oX11_r1 hL) ?_
      refine xJ_getR (b := (a + 60)) hX dX11_packet_91 fd_X11_74 rfl (oX10_k (oX11_o1 hL)) (oX10_r3 (oX11_o1 hL)) ?_
      refine xJ_getR (b := (a + 64)) hX dX11_packet_94 fd_X11_189 rfl (oX5_k (oX10_o3 (oX11_o1 hL))) (oX5_r3 (oX10_o3 (oX11_o1 hL))) ?_
      refine xJ_iload_n hX dX11_packet_97 rfl ?_
      obtain ⟨h98, hp⟩ := hp
      refine xJ_iald hX dX11_packet_98 (oX5_k3 (oX10_o3 (oX11_o1 hL))) h98.1 (xnlt (oX5_n3 (oX10_o3 (oX11_o1 hL))) h98.2) ?_
      refine xJ_iret hX hB dX11_packet_99 (by decide) (by decide) ⟨_, rfl, (hM2 _ _), hM2, rfl, hp⟩
    · refine xJ_tIn hX dX11_packet_6 hx2 (by omega) (by omega) (off := 94) (by rw [hc6]; rfl) (tgt := 100) (by decide) ?_
      replace hp := hp.2.2.2.2.1 hc6
      refine xJ_aload_n hX dX11_packet_100 rfl ?_
      refine xJ_getR (b := (a + 44)) hX dX11_packet_101 fd_X11_19 rfl (oX11_k hL) (oX11_r1 hL) ?_
      refine xJ_iload_n hX dX11_packet_104 rfl ?_
      refine xJ_callV (As := [_]) hX hB dX11_packet_105 lk_X11_192 im_X10_gateOf se_X10_gateOf rfl (by decide) (oX10_k (oX11_o1 hL)) (c_X10_gateOf (oX11_o1 hL) hM2 hx1 hp) (by decide) rfl rfl rfl (Nat.le_of_ble_eq_true rfl) (by decide) (by decide) (fun v t9 M105 hv => ?_) (fun _ _ _ q => q.elim)
      obtain ⟨r105, rfl, h105, hM105, ht9, hp⟩ := hv
      replace ht9 := ht9.symm
      subst ht9
      dsimp only [Option.toList, List.cons_append, List.nil_append]
      refine xJ_iret hX hB dX11_packet_108 (by decide) (by decide) ⟨_, rfl, h105, hM105, rfl, hp⟩
    · refine xJ_tIn hX dX11_packet_6 hx2 (by omega) (by omega) (off := 103) (by rw [hc6]; rfl) (tgt := 109) (by decide) ?_
      replace hp := hp.2.2.2.2.2.1 hc6
      refine xJ_aload_n hX dX11_packet_109 rfl ?_
      refine xJ_getR (b := (a + 44)) hX dX11_packet_110 fd_X11_19 rfl (oX11_k hL) (oX11_r1 hL) ?_
      refine xJ_getR (b := (a + 60)) hX dX11_packet_113 fd_X11_74 rfl (oX10_k (oX11_o1 hL)) (oX10_r3 (oX11_o1 hL)) ?_
      refine xJ_getR (b := (a + 67)) hX dX11_packet_116 fd_X11_195 rfl (oX5_k (oX10_o3 (oX11_o1 hL))) (oX5_r6 (oX10_o3 (oX11_o1 hL))) ?_
      refine xJ_iload_n hX dX11_packet_119 rfl ?_
      obtain ⟨h120, hp⟩ := hp
      refine xJ_iald hX dX11_packet_120 (oX5_k6 (oX10_o3 (oX11_o1 hL))) h120.1 (xnlt (oX5_n6 (oX10_o3 (oX11_o1 hL))) h120.2) ?_
      refine xJ_iret hX hB dX11_packet_121 (by decide) (by decide) ⟨_, rfl, (hM2 _ _), hM2, rfl, hp⟩
    · refine xJ_tIn hX dX11_packet_6 hx2 (by omega) (by omega) (off := 116) (by rw [hc6]; rfl) (tgt := 122) (by decide) ?_
      replace hp := hp.2.2.2.2.2.2 hc6
      refine xJ_aload_n hX dX11_packet_122 rfl ?_
      refine xJ_getR (b := (a + 44)) hX dX11_packet_123 fd_X11_19 rfl (oX11_k hL) (oX11_r1 hL) ?_
      refine xJ_getR (b := (a + 60)) hX dX11_packet_126 fd_X11_74 rfl (oX10_k (oX11_o1 hL)) (oX10_r3 (oX11_o1 hL)) ?_
      refine xJ_getR (b := (a + 68)) hX dX11_packet_129 fd_X11_198 rfl (oX5_k (oX10_o3 (oX11_o1 hL))) (oX5_r7 (oX10_o3 (oX11_o1 hL))) ?_
      refine xJ_iload_n hX dX11_packet_132 rfl ?_
      obtain ⟨h133, hp⟩ := hp
      refine xJ_iald hX dX11_packet_133 (oX5_k7 (oX10_o3 (oX11_o1 hL))) h133.1 (xnlt (oX5_n7 (oX10_o3 (oX11_o1 hL))) h133.2) ?_
      refine xJ_iret hX hB dX11_packet_134 (by decide) (by decide) ⟨_, rfl, (hM2 _ _), hM2, rfl, hp⟩
def p_X11_coupon (a : Nat) (x1 : Int) (x2 : Int) (M : xMe) (Q : Int → xMe → Prop) (E : String → xMe → Prop) : Prop :=
  p_X11_checkCoupon a x1 M (fun M2 => ((x2 < 0 ∨ 3 < x2 → E "java/lang/IllegalArgumentException" M2) ∧ (x2 = 0 → ((0 : Int) ≤ x1 ∧ (x1 : Int) < 30) ∧ Q (M2 (a + 70) x1.toNat) M2) ∧ (x2 = 1 → ((0 : Int) ≤ x1 ∧ (x1 : Int) < 30) ∧ Q (M2 (a + 71) x1.toNat) M2) ∧ (x2 = 2 → ((0 : Int) ≤ x1 ∧ (x1 : Int) < 30) ∧ Q (M2 (a + 72) x1.toNat) M2) ∧ (x2 = 3 → ((0 : Int) ≤ x1 ∧ (x1 : Int) < 30) ∧ Q (M2 (a + 73) x1.toNat) M2))) E
set_option maxHeartbeats 4000000 in
set_option maxRecDepth 100000 in
theorem c_X11_coupon {G : xGx} {t : xTh} {M : xMe} {a : Nat} {x1 : Int} {x2 : Int} {Q : Int → xMe → Prop} {E : String → xMe → Prop} (hL : oX11 t a) (hM : xMR M) (hx1 : xR x1) (hx2 : xR x2) (hp : p_X11_coupon a x1 x2 M Q E) : xCt G yX11_coupon cX11_coupon 3 (some .int) 8 2 12 [vr a, vi x1, vi x2] t M (fun v t' M' => ∃ r, v = some (vi r) ∧ xR r ∧ xMR M' ∧ t' = t ∧ Q r M') (fun cls t' M' => (∃ z, t' = (z, t.2)) ∧ xMR M' ∧ E cls M') := by
  refine xCt_of (L0 := [vr a, vi x1, vi x2]) (by decide +kernel) (Nat.le_of_ble_eq_true rfl) rfl ?_
  intro X hX hB
  unfold p_X11_coupon at hp
  refine xJ_aload_n hX dX11_coupon_0 rfl ?_
  refine xJ_iload_n hX dX11_coupon_1 rfl ?_
  refine xJ_callV (As := [_]) hX hB dX11_coupon_2 lk_X11_201 im_X11_checkCoupon se_X11_checkCoupon rfl (by decide) (oX11_k hL) (c_X11_checkCoupon hL hM hx1 hp) (by decide) rfl rfl rfl (Nat.le_of_ble_eq_true rfl) (by decide) (by decide) (fun v t9 M2 hv => ?_) (fun _ _ _ q => q)
  obtain ⟨rfl, hM2, ht9, hp⟩ := hv
  replace ht9 := ht9.symm
  subst ht9
  dsimp only [Option.toList, List.cons_append, List.nil_append]
  refine xJ_iload_n hX dX11_coupon_5 rfl ?_
  obtain ⟨hpo, hp⟩ := hp
  by_cases hsw6 : x2 < 0 ∨ 3 < x2
  · refine xJ_tOut hX dX11_coupon_6 hx2 hsw6 (tgt := 88) (by decide) ?_
    replace hp := hpo hsw6
    refine xJ_throw (i := 12) hX hB dX11_coupon_88 dX11_coupon_91 dX11_coupon_92 dX11_coupon_94 dX11_coupon_97 tw_X11_54 kl_X11_50 (by decide +kernel) (by decide +kernel) rfl (by decide) (Nat.le_of_ble_eq_true rfl) (by decide) (by decide) (fun z _ => ⟨⟨z, rfl⟩, hM2, hp⟩)
  · obtain hc6 | hc6 | hc6 | hc6 : x2 = 0 ∨ x2 = 1 ∨ x2 = 2 ∨ x2 = 3 := by omega
    · refine xJ_tIn hX dX11_coupon_6 hx2 (by omega) (by omega) (off := 30) (by rw [hc6]; rfl) (tgt := 36) (by decide) ?_
      replace hp := hp.1 hc6
      refine xJ_aload_n hX dX11_coupon_36 rfl ?_
      refine xJ_getR (b := (a + 44)) hX dX11_coupon_37 fd_X11_19 rfl (oX11_k hL) (oX11_r1 hL) ?_
      refine xJ_getR (b := (a + 69)) hX dX11_coupon_40 fd_X11_100 rfl (oX10_k (oX11_o1 hL)) (oX10_r4 (oX11_o1 hL)) ?_
      refine xJ_getR (b := (a + 70)) hX dX11_coupon_43 fd_X11_204 rfl (oX0_k (oX10_o4 (oX11_o1 hL))) (oX0_r0 (oX10_o4 (oX11_o1 hL))) ?_
      refine xJ_iload_n hX dX11_coupon_46 rfl ?_
      obtain ⟨h47, hp⟩ := hp
      refine xJ_iald hX dX11_coupon_47 (oX0_k0 (oX10_o4 (oX11_o1 hL))) h47.1 (xnlt (oX0_n0 (oX10_o4 (oX11_o1 hL))) h47.2) ?_
      refine xJ_iret hX hB dX11_coupon_48 (by decide) (by decide) ⟨_, rfl, (hM2 _ _), hM2, rfl, hp⟩
    · refine xJ_tIn hX dX11_coupon_6 hx2 (by omega) (by omega) (off := 43) (by rw [hc6]; rfl) (tgt := 49) (by decide) ?_
      replace hp := hp.2.1 hc6
      refine xJ_aload_n hX dX11_coupon_49 rfl ?_
      refine xJ_getR (b := (a + 44)) hX dX11_coupon_50 fd_X11_19 rfl (oX11_k hL) (oX11_r1 hL) ?_
      refine xJ_getR (b := (a + 69)) hX dX11_coupon_53 fd_X11_100 rfl (oX10_k (oX11_o1 hL)) (oX10_r4 (oX11_o1 hL)) ?_
      refine xJ_getR (b := (a + 71)) hX dX11_coupon_56 fd_X11_205 rfl (oX0_k (oX10_o4 (oX11_o1 hL))) (oX0_r1 (oX10_o4 (oX11_o1 hL))) ?_
      refine xJ_iload_n hX dX11_coupon_59 rfl ?_
      obtain ⟨h60, hp⟩ := hp
      refine xJ_iald hX dX11_coupon_60 (oX0_k1 (oX10_o4 (oX11_o1 hL))) h60.1 (xnlt (oX0_n1 (oX10_o4 (oX11_o1 hL))) h60.2) ?_
      refine xJ_iret hX hB dX11_coupon_61 (by decide) (by decide) ⟨_, rfl, (hM2 _ _), hM2, rfl, hp⟩
    · refine xJ_tIn hX dX11_coupon_6 hx2 (by omega) (by omega) (off := 56) (by rw [hc6]; rfl) (tgt := 62) (by decide) ?_
      replace hp := hp.2.2.1 hc6
      refine xJ_aload_n hX dX11_coupon_62 rfl ?_
      refine xJ_getR (b := (a + 44)) hX dX11_coupon_63 fd_X11_19 rfl (oX11_k hL) (oX11_r1 hL) ?_
      refine xJ_getR (b := (a + 69)) hX dX11_coupon_66 fd_X11_100 rfl (oX10_k (oX11_o1 hL)) (oX10_r4 (oX11_o1 hL)) ?_
      refine xJ_getR (b := (a + 72)) hX dX11_coupon_69 fd_X11_208 rfl (oX0_k (oX10_o4 (oX11_o1 hL))) (oX0_r2 (oX10_o4 (oX11_o1 hL))) ?_
      refine xJ_iload_n hX dX11_coupon_72 rfl ?_
      obtain ⟨h73, hp⟩ := hp
      refine xJ_iald hX dX11_coupon_73 (oX0_k2 (oX10_o4 (oX11_o1 hL))) h73.1 (xnlt (oX0_n2 (oX10_o4 (oX11_o1 hL))) h73.2) ?_
      refine xJ_iret hX hB dX11_coupon_74 (by decide) (by decide) ⟨_, rfl, (hM2 _ _), hM2, rfl, hp⟩
    · refine xJ_tIn hX dX11_coupon_6 hx2 (by omega) (by omega) (off := 69) (by rw [hc6]; rfl) (tgt := 75) (by decide) ?_
      replace hp := hp.2.2.2 hc6
      refine xJ_aload_n hX dX11_coupon_75 rfl ?_
      refine xJ_getR (b := (a + 44)) hX dX11_coupon_76 fd_X11_19 rfl (oX11_k hL) (oX11_r1 hL) ?_
      refine xJ_getR (b := (a + 69)) hX dX11_coupon_79 fd_X11_100 rfl (oX10_k (oX11_o1 hL)) (oX10_r4 (oX11_o1 hL)) ?_
      refine xJ_getR (b := (a + 73)) hX dX11_coupon_82 fd_X11_211 rfl (oX0_k (oX10_o4 (oX11_o1 hL))) (oX0_r3 (oX10_o4 (oX11_o1 hL))) ?_
      refine xJ_iload_n hX dX11_coupon_85 rfl ?_
      obtain ⟨h86, hp⟩ := hp
      refine xJ_iald hX dX11_coupon_86 (oX0_k3 (oX10_o4 (oX11_o1 hL))) h86.1 (xnlt (oX0_n3 (oX10_o4 (oX11_o1 hL))) h86.2) ?_
      refine xJ_iret hX hB dX11_coupon_87 (by decide) (by decide) ⟨_, rfl, (hM2 _ _), hM2, rfl, hp⟩
def p_X11_curve (a : Nat) (x1 : Int) (x2 : Int) (M : xMe) (Q : Int → xMe → Prop) (E : String → xMe → Prop) : Prop :=
  p_X11_checkGate a x1 M (fun M2 => p_X11_checkRange a x2 1 999 M2 (fun M11 => ((0 : Int) ≤ x1 ∧ (x1 : Int) < 6) ∧ ((0 : Int) ≤ x1 ∧ (x1 : Int) < 6) ∧ (xR ((M11 (a + 46) x1.toNat) * x2)) ∧ (xR ((M11 (a + 47) x1.toNat) + ((M11 (a + 46) x1.toNat) * x2))) ∧ Q ((M11 (a + 47) x1.toNat) + ((M11 (a + 46) x1.toNat) * x2)) M11) E) E
set_option maxHeartbeats 4000000 in
set_option maxRecDepth 100000 in
theorem c_X11_curve {G : xGx} {t : xTh} {M : xMe} {a : Nat} {x1 : Int} {x2 : Int} {Q : Int → xMe → Prop} {E : String → xMe → Prop} (hL : oX11 t a) (hM : xMR M) (hx1 : xR x1) (hx2 : xR x2) (hp : p_X11_curve a x1 x2 M Q E) : xCt G yX11_curve cX11_curve 3 (some .int) 8 2 12 [vr a, vi x1, vi x2] t M (fun v t' M' => ∃ r, v = some (vi r) ∧ xR r ∧ xMR M' ∧ t' = t ∧ Q r M') (fun cls t' M' => (∃ z, t' = (z, t.2)) ∧ xMR M' ∧ E cls M') := by
  refine xCt_of (L0 := [vr a, vi x1, vi x2]) (by decide +kernel) (Nat.le_of_ble_eq_true rfl) rfl ?_
  intro X hX hB
  unfold p_X11_curve at hp
  refine xJ_aload_n hX dX11_curve_0 rfl ?_
  refine xJ_iload_n hX dX11_curve_1 rfl ?_
  refine xJ_callV (As := [_]) hX hB dX11_curve_2 lk_X11_122 im_X11_checkGate se_X11_checkGate rfl (by decide) (oX11_k hL) (c_X11_checkGate hL hM hx1 hp) (by decide) rfl rfl rfl (Nat.le_of_ble_eq_true rfl) (by decide) (by decide) (fun v t9 M2 hv => ?_) (fun _ _ _ q => q)
  obtain ⟨rfl, hM2, ht9, hp⟩ := hv
  replace ht9 := ht9.symm
  subst ht9
  dsimp only [Option.toList, List.cons_append, List.nil_append]
  refine xJ_aload_n hX dX11_curve_5 rfl ?_
  refine xJ_iload_n hX dX11_curve_6 rfl ?_
  refine xJ_iconst hX dX11_curve_7 ?_
  refine xJ_sipush hX dX11_curve_8 rfl ?_
  refine xJ_callV (As := [_, _, _]) hX hB dX11_curve_11 lk_X11_214 im_X11_checkRange se_X11_checkRange rfl (by decide) (oX11_k hL) (c_X11_checkRange hL hM2 hx2 ⟨by decide, by decide⟩ ⟨by decide, by decide⟩ hp) (by decide) rfl rfl rfl (Nat.le_of_ble_eq_true rfl) (by decide) (by decide) (fun v t9 M11 hv => ?_) (fun _ _ _ q => q)
  obtain ⟨rfl, hM11, ht9, hp⟩ := hv
  replace ht9 := ht9.symm
  subst ht9
  dsimp only [Option.toList, List.cons_append, List.nil_append]
  refine xJ_aload_n hX dX11_curve_14 rfl ?_
  refine xJ_getR (b := (a + 44)) hX dX11_curve_15 fd_X11_19 rfl (oX11_k hL) (oX11_r1 hL) ?_
  refine xJ_getR (b := (a + 45)) hX dX11_curve_18 fd_X11_86 rfl (oX10_k (oX11_o1 hL)) (oX10_r0 (oX11_o1 hL)) ?_
  refine xJ_getR (b := (a + 47)) hX dX11_curve_21 fd_X11_129 rfl (oX2_k (oX10_o0 (oX11_o1 hL))) (oX2_r1 (oX10_o0 (oX11_o1 hL))) ?_
  refine xJ_iload_n hX dX11_curve_24 rfl ?_
  obtain ⟨h25, hp⟩ := hp
  refine xJ_iald hX dX11_curve_25 (oX2_k1 (oX10_o0 (oX11_o1 hL))) h25.1 (xnlt (oX2_n1 (oX10_o0 (oX11_o1 hL))) h25.2) ?_
  refine xJ_aload_n hX dX11_curve_26 rfl ?_
  refine xJ_getR (b := (a + 44)) hX dX11_curve_27 fd_X11_19 rfl (oX11_k hL) (oX11_r1 hL) ?_
  refine xJ_getR (b := (a + 45)) hX dX11_curve_30 fd_X11_86 rfl (oX10_k (oX11_o1 hL)) (oX10_r0 (oX11_o1 hL)) ?_
  refine xJ_getR (b := (a + 46)) hX dX11_curve_33 fd_X11_125 rfl (oX2_k (oX10_o0 (oX11_o1 hL))) (oX2_r0 (oX10_o0 (oX11_o1 hL))) ?_
  refine xJ_iload_n hX dX11_curve_36 rfl ?_
  obtain ⟨h37, hp⟩ := hp
  refine xJ_iald hX dX11_curve_37 (oX2_k0 (oX10_o0 (oX11_o1 hL))) h37.1 (xnlt (oX2_n0 (oX10_o0 (oX11_o1 hL))) h37.2) ?_
  refine xJ_iload_n hX dX11_curve_38 rfl ?_
  refine xJ_imul hX dX11_curve_39 ?_
  obtain ⟨h39, hp⟩ := hp
  refine xJ_iadd hX dX11_curve_40 ?_
  obtain ⟨h40, hp⟩ := hp
  refine xJ_iret hX hB dX11_curve_41 (by decide) (by decide) ⟨_, rfl, h40, hM11, rfl, hp⟩
set_option maxHeartbeats 4000000 in
set_option maxRecDepth 100000 in
theorem c0_X11_checkGate {G : xGx} {t : xTh} {M : xMe} {a : Nat} {x1 : Int} {Q : xMe → Prop} (hL : oX11 t a) (hM : xMR M) (hx1 : xR x1) (hp : p_X11_checkGate a x1 M Q (fun _ _ => False)) : xCt G yX11_checkGate cX11_checkGate 2 none 0 0 0 [vr a, vi x1] t M (fun v t' M' => v = none ∧ xMR M' ∧ t' = t ∧ Q M') (fun _ _ _ => False) := by
  refine xCt_of (L0 := [vr a, vi x1]) (by decide +kernel) (Nat.le_of_ble_eq_true rfl) rfl ?_
  intro X hX hB
  unfold p_X11_checkGate at hp
  refine xJ_iload_n hX dX11_checkGate_0 rfl ?_
  refine xJ_if_lt hX dX11_checkGate_1 (tgt := 18) (by decide) hx1 (fun c1 => ?_) (fun c1 => ?_)
  · replace hp := hp.1 c1
    exact False.elim hp
  · replace hp := hp.2 c1
    refine xJ_iload_n hX dX11_checkGate_4 rfl ?_
    refine xJ_aload_n hX dX11_checkGate_5 rfl ?_
    refine xJ_getR (b := (a + 44)) hX dX11_checkGate_6 fd_X11_19 rfl (oX11_k hL) (oX11_r1 hL) ?_
    refine xJ_getR (b := (a + 45)) hX dX11_checkGate_9 fd_X11_86 rfl (oX10_k (oX11_o1 hL)) (oX10_r0 (oX11_o1 hL)) ?_
    refine xJ_getI hX dX11_checkGate_12 fd_X11_90 rfl (oX2_k (oX10_o0 (oX11_o1 hL))) ?_
    refine xJ_icmp_lt hX dX11_checkGate_15 (tgt := 29) (by decide) hx1 (hM _ _) (fun c15 => ?_) (fun c15 => ?_)
    · replace hp := hp.1 c15
      refine xJ_vret hX hB dX11_checkGate_29 (by decide) (by decide) ⟨rfl, hM, rfl, hp⟩
    · replace hp := hp.2 c15
      exact False.elim hp
set_option maxHeartbeats 4000000 in
set_option maxRecDepth 100000 in
theorem c0_X11_checkFlow {G : xGx} {t : xTh} {M : xMe} {a : Nat} {x1 : Int} {Q : xMe → Prop} (hL : oX11 t a) (hM : xMR M) (hx1 : xR x1) (hp : p_X11_checkFlow a x1 M Q (fun _ _ => False)) : xCt G yX11_checkFlow cX11_checkFlow 2 none 0 0 0 [vr a, vi x1] t M (fun v t' M' => v = none ∧ xMR M' ∧ t' = t ∧ Q M') (fun _ _ _ => False) := by
  refine xCt_of (L0 := [vr a, vi x1]) (by decide +kernel) (Nat.le_of_ble_eq_true rfl) rfl ?_
  intro X hX hB
  unfold p_X11_checkFlow at hp
  refine xJ_iload_n hX dX11_checkFlow_0 rfl ?_
  refine xJ_if_lt hX dX11_checkFlow_1 (tgt := 18) (by decide) hx1 (fun c1 => ?_) (fun c1 => ?_)
  · replace hp := hp.1 c1
    exact False.elim hp
  · replace hp := hp.2 c1
    refine xJ_iload_n hX dX11_checkFlow_4 rfl ?_
    refine xJ_aload_n hX dX11_checkFlow_5 rfl ?_
    refine xJ_getR (b := (a + 44)) hX dX11_checkFlow_6 fd_X11_19 rfl (oX11_k hL) (oX11_r1 hL) ?_
    refine xJ_getR (b := (a + 49)) hX dX11_checkFlow_9 fd_X11_93 rfl (oX10_k (oX11_o1 hL)) (oX10_r1 (oX11_o1 hL)) ?_
    refine xJ_getI hX dX11_checkFlow_12 fd_X11_97 rfl (oX1_k (oX10_o1 (oX11_o1 hL))) ?_
    refine xJ_icmp_lt hX dX11_checkFlow_15 (tgt := 29) (by decide) hx1 (hM _ _) (fun c15 => ?_) (fun c15 => ?_)
    · replace hp := hp.1 c15
      refine xJ_vret hX hB dX11_checkFlow_29 (by decide) (by decide) ⟨rfl, hM, rfl, hp⟩
    · replace hp := hp.2 c15
      exact False.elim hp
set_option maxHeartbeats 4000000 in
set_option maxRecDepth 100000 in
theorem c0_X11_checkPacket {G : xGx} {t : xTh} {M : xMe} {a : Nat} {x1 : Int} {Q : xMe → Prop} (hL : oX11 t a) (hM : xMR M) (hx1 : xR x1) (hp : p_X11_checkPacket a x1 M Q (fun _ _ => False)) : xCt G yX11_checkPacket cX11_checkPacket 2 none 0 0 0 [vr a, vi x1] t M (fun v t' M' => v = none ∧ xMR M' ∧ t' = t ∧ Q M') (fun _ _ _ => False) := by
  refine xCt_of (L0 := [vr a, vi x1]) (by decide +kernel) (Nat.le_of_ble_eq_true rfl) rfl ?_
  intro X hX hB
  unfold p_X11_checkPacket at hp
  refine xJ_iload_n hX dX11_checkPacket_0 rfl ?_
  refine xJ_if_lt hX dX11_checkPacket_1 (tgt := 18) (by decide) hx1 (fun c1 => ?_) (fun c1 => ?_)
  · replace hp := hp.1 c1
    exact False.elim hp
  · replace hp := hp.2 c1
    refine xJ_iload_n hX dX11_checkPacket_4 rfl ?_
    refine xJ_aload_n hX dX11_checkPacket_5 rfl ?_
    refine xJ_getR (b := (a + 44)) hX dX11_checkPacket_6 fd_X11_19 rfl (oX11_k hL) (oX11_r1 hL) ?_
    refine xJ_getR (b := (a + 60)) hX dX11_checkPacket_9 fd_X11_74 rfl (oX10_k (oX11_o1 hL)) (oX10_r3 (oX11_o1 hL)) ?_
    refine xJ_getI hX dX11_checkPacket_12 fd_X11_78 rfl (oX5_k (oX10_o3 (oX11_o1 hL))) ?_
    refine xJ_icmp_lt hX dX11_checkPacket_15 (tgt := 29) (by decide) hx1 (hM _ _) (fun c15 => ?_) (fun c15 => ?_)
    · replace hp := hp.1 c15
      refine xJ_vret hX hB dX11_checkPacket_29 (by decide) (by decide) ⟨rfl, hM, rfl, hp⟩
    · replace hp := hp.2 c15
      exact False.elim hp
set_option maxHeartbeats 4000000 in
set_option maxRecDepth 100000 in
theorem c0_X11_checkCoupon {G : xGx} {t : xTh} {M : xMe} {a : Nat} {x1 : Int} {Q : xMe → Prop} (hL : oX11 t a) (hM : xMR M) (hx1 : xR x1) (hp : p_X11_checkCoupon a x1 M Q (fun _ _ => False)) : xCt G yX11_checkCoupon cX11_checkCoupon 2 none 0 0 0 [vr a, vi x1] t M (fun v t' M' => v = none ∧ xMR M' ∧ t' = t ∧ Q M') (fun _ _ _ => False) := by
  refine xCt_of (L0 := [vr a, vi x1]) (by decide +kernel) (Nat.le_of_ble_eq_true rfl) rfl ?_
  intro X hX hB
  unfold p_X11_checkCoupon at hp
  refine xJ_iload_n hX dX11_checkCoupon_0 rfl ?_
  refine xJ_if_lt hX dX11_checkCoupon_1 (tgt := 18) (by decide) hx1 (fun c1 => ?_) (fun c1 => ?_)
  · replace hp := hp.1 c1
    exact False.elim hp
  · replace hp := hp.2 c1
    refine xJ_iload_n hX dX11_checkCoupon_4 rfl ?_
    refine xJ_aload_n hX dX11_checkCoupon_5 rfl ?_
    refine xJ_getR (b := (a + 44)) hX dX11_checkCoupon_6 fd_X11_19 rfl (oX11_k hL) (oX11_r1 hL) ?_
    refine xJ_getR (b := (a + 69)) hX dX11_checkCoupon_9 fd_X11_100 rfl (oX10_k (oX11_o1 hL)) (oX10_r4 (oX11_o1 hL)) ?_
    refine xJ_getI hX dX11_checkCoupon_12 fd_X11_104 rfl (oX0_k (oX10_o4 (oX11_o1 hL))) ?_
    refine xJ_icmp_lt hX dX11_checkCoupon_15 (tgt := 29) (by decide) hx1 (hM _ _) (fun c15 => ?_) (fun c15 => ?_)
    · replace hp := hp.1 c15
      refine xJ_vret hX hB dX11_checkCoupon_29 (by decide) (by decide) ⟨rfl, hM, rfl, hp⟩
    · replace hp := hp.2 c15
      exact False.elim hp
set_option maxHeartbeats 4000000 in
set_option maxRecDepth 100000 in
theorem c0_X11_state {G : xGx} {t : xTh} {M : xMe} {F : Nat} {a : Nat} {x1 : Int} {Q : Int → xMe → Prop} (hL : oX11 t a) (hM : xMR M) (hx1 : xR x1) (hp : p_X11_state F a x1 M Q (fun _ _ => False)) : xCt G yX11_state cX11_state 2 (some .int) 1 0 0 [vr a, vi x1] t M (fun v t' M' => ∃ r, v = some (vi r) ∧ xR r ∧ xMR M' ∧ t' = t ∧ Q r M') (fun _ _ _ => False) := by
  refine xCt_of (L0 := [vr a, vi x1]) (by decide +kernel) (Nat.le_of_ble_eq_true rfl) rfl ?_
  intro X hX hB
  unfold p_X11_state at hp
  refine xJ_iload_n hX dX11_state_0 rfl ?_
  obtain ⟨hpo, hp⟩ := hp
  by_cases hsw1 : x1 < 0 ∨ 9 < x1
  · refine xJ_tOut hX dX11_state_1 hx1 hsw1 (tgt := 156) (by decide) ?_
    replace hp := hpo hsw1
    exact False.elim hp
  · obtain hc1 | hc1 | hc1 | hc1 | hc1 | hc1 | hc1 | hc1 | hc1 | hc1 : x1 = 0 ∨ x1 = 1 ∨ x1 = 2 ∨ x1 = 3 ∨ x1 = 4 ∨ x1 = 5 ∨ x1 = 6 ∨ x1 = 7 ∨ x1 = 8 ∨ x1 = 9 := by omega
    · refine xJ_tIn hX dX11_state_1 hx1 (by omega) (by omega) (off := 55) (by rw [hc1]; rfl) (tgt := 56) (by decide) ?_
      replace hp := hp.1 hc1
      refine xJ_aload_n hX dX11_state_56 rfl ?_
      refine xJ_getR (b := (a + 44)) hX dX11_state_57 fd_X11_19 rfl (oX11_k hL) (oX11_r1 hL) ?_
      refine xJ_getI hX dX11_state_60 fd_X11_83 rfl (oX10_k (oX11_o1 hL)) ?_
      refine xJ_iret hX hB dX11_state_63 (by decide) (by decide) ⟨_, rfl, (hM _ _), hM, rfl, hp⟩
    · refine xJ_tIn hX dX11_state_1 hx1 (by omega) (by omega) (off := 63) (by rw [hc1]; rfl) (tgt := 64) (by decide) ?_
      replace hp := hp.2.1 hc1
      refine xJ_aload_n hX dX11_state_64 rfl ?_
      refine xJ_getR (b := (a + 44)) hX dX11_state_65 fd_X11_19 rfl (oX11_k hL) (oX11_r1 hL) ?_
      refine xJ_getR (b := (a + 45)) hX dX11_state_68 fd_X11_86 rfl (oX10_k (oX11_o1 hL)) (oX10_r0 (oX11_o1 hL)) ?_
      refine xJ_getI hX dX11_state_71 fd_X11_90 rfl (oX2_k (oX10_o0 (oX11_o1 hL))) ?_
      refine xJ_iret hX hB dX11_state_74 (by decide) (by decide) ⟨_, rfl, (hM _ _), hM, rfl, hp⟩
    · refine xJ_tIn hX dX11_state_1 hx1 (by omega) (by omega) (off := 74) (by rw [hc1]; rfl) (tgt := 75) (by decide) ?_
      replace hp := hp.2.2.1 hc1
      refine xJ_aload_n hX dX11_state_75 rfl ?_
      refine xJ_getR (b := (a + 44)) hX dX11_state_76 fd_X11_19 rfl (oX11_k hL) (oX11_r1 hL) ?_
      refine xJ_getR (b := (a + 49)) hX dX11_state_79 fd_X11_93 rfl (oX10_k (oX11_o1 hL)) (oX10_r1 (oX11_o1 hL)) ?_
      refine xJ_getI hX dX11_state_82 fd_X11_97 rfl (oX1_k (oX10_o1 (oX11_o1 hL))) ?_
      refine xJ_iret hX hB dX11_state_85 (by decide) (by decide) ⟨_, rfl, (hM _ _), hM, rfl, hp⟩
    · refine xJ_tIn hX dX11_state_1 hx1 (by omega) (by omega) (off := 85) (by rw [hc1]; rfl) (tgt := 86) (by decide) ?_
      replace hp := hp.2.2.2.1 hc1
      refine xJ_aload_n hX dX11_state_86 rfl ?_
      refine xJ_getR (b := (a + 44)) hX dX11_state_87 fd_X11_19 rfl (oX11_k hL) (oX11_r1 hL) ?_
      refine xJ_getR (b := (a + 60)) hX dX11_state_90 fd_X11_74 rfl (oX10_k (oX11_o1 hL)) (oX10_r3 (oX11_o1 hL)) ?_
      refine xJ_getI hX dX11_state_93 fd_X11_78 rfl (oX5_k (oX10_o3 (oX11_o1 hL))) ?_
      refine xJ_iret hX hB dX11_state_96 (by decide) (by decide) ⟨_, rfl, (hM _ _), hM, rfl, hp⟩
    · refine xJ_tIn hX dX11_state_1 hx1 (by omega) (by omega) (off := 96) (by rw [hc1]; rfl) (tgt := 97) (by decide) ?_
      replace hp := hp.2.2.2.2.1 hc1
      refine xJ_aload_n hX dX11_state_97 rfl ?_
      refine xJ_getR (b := (a + 44)) hX dX11_state_98 fd_X11_19 rfl (oX11_k hL) (oX11_r1 hL) ?_
      refine xJ_getR (b := (a + 69)) hX dX11_state_101 fd_X11_100 rfl (oX10_k (oX11_o1 hL)) (oX10_r4 (oX11_o1 hL)) ?_
      refine xJ_getI hX dX11_state_104 fd_X11_104 rfl (oX0_k (oX10_o4 (oX11_o1 hL))) ?_
      refine xJ_iret hX hB dX11_state_107 (by decide) (by decide) ⟨_, rfl, (hM _ _), hM, rfl, hp⟩
    · refine xJ_tIn hX dX11_state_1 hx1 (by omega) (by omega) (off := 107) (by rw [hc1]; rfl) (tgt := 108) (by decide) ?_
      replace hp := hp.2.2.2.2.2.1 hc1
      refine xJ_aload_n hX dX11_state_108 rfl ?_
      refine xJ_getR (b := (a + 44)) hX dX11_state_109 fd_X11_19 rfl (oX11_k hL) (oX11_r1 hL) ?_
      refine xJ_getR (b := (a + 60)) hX dX11_state_112 fd_X11_74 rfl (oX10_k (oX11_o1 hL)) (oX10_r3 (oX11_o1 hL)) ?_
      refine xJ_iconst hX dX11_state_115 ?_
      refine xJ_callV (As := [_]) hX hB dX11_state_116 lk_X11_107 im_X5_countIn se_X5_countIn rfl (by decide) (oX5_k (oX10_o3 (oX11_o1 hL))) (c_X5_countIn (oX10_o3 (oX11_o1 hL)) hM ⟨by decide, by decide⟩ hp) (by decide) rfl rfl rfl (Nat.le_of_ble_eq_true rfl) (by decide) (by decide) (fun v t9 M116 hv => ?_) (fun _ _ _ q => q.elim)
      obtain ⟨r116, rfl, h116, hM116, ht9, hp⟩ := hv
      replace ht9 := ht9.symm
      subst ht9
      dsimp only [Option.toList, List.cons_append, List.nil_append]
      refine xJ_iret hX hB dX11_state_119 (by decide) (by decide) ⟨_, rfl, h116, hM116, rfl, hp⟩
    · refine xJ_tIn hX dX11_state_1 hx1 (by omega) (by omega) (off := 119) (by rw [hc1]; rfl) (tgt := 120) (by decide) ?_
      replace hp := hp.2.2.2.2.2.2.1 hc1
      refine xJ_aload_n hX dX11_state_120 rfl ?_
      refine xJ_getR (b := (a + 44)) hX dX11_state_121 fd_X11_19 rfl (oX11_k hL) (oX11_r1 hL) ?_
      refine xJ_getR (b := (a + 60)) hX dX11_state_124 fd_X11_74 rfl (oX10_k (oX11_o1 hL)) (oX10_r3 (oX11_o1 hL)) ?_
      refine xJ_iconst hX dX11_state_127 ?_
      refine xJ_callV (As := [_]) hX hB dX11_state_128 lk_X11_107 im_X5_countIn se_X5_countIn rfl (by decide) (oX5_k (oX10_o3 (oX11_o1 hL))) (c_X5_countIn (oX10_o3 (oX11_o1 hL)) hM ⟨by decide, by decide⟩ hp) (by decide) rfl rfl rfl (Nat.le_of_ble_eq_true rfl) (by decide) (by decide) (fun v t9 M128 hv => ?_) (fun _ _ _ q => q.elim)
      obtain ⟨r128, rfl, h128, hM128, ht9, hp⟩ := hv
      replace ht9 := ht9.symm
      subst ht9
      dsimp only [Option.toList, List.cons_append, List.nil_append]
      refine xJ_iret hX hB dX11_state_131 (by decide) (by decide) ⟨_, rfl, h128, hM128, rfl, hp⟩
    · refine xJ_tIn hX dX11_state_1 hx1 (by omega) (by omega) (off := 131) (by rw [hc1]; rfl) (tgt := 132) (by decide) ?_
      replace hp := hp.2.2.2.2.2.2.2.1 hc1
      refine xJ_aload_n hX dX11_state_132 rfl ?_
      refine xJ_getR (b := (a + 44)) hX dX11_state_133 fd_X11_19 rfl (oX11_k hL) (oX11_r1 hL) ?_
      refine xJ_getI hX dX11_state_136 fd_X11_111 rfl (oX10_k (oX11_o1 hL)) ?_
      refine xJ_iret hX hB dX11_state_139 (by decide) (by decide) ⟨_, rfl, (hM _ _), hM, rfl, hp⟩
    · refine xJ_tIn hX dX11_state_1 hx1 (by omega) (by omega) (off := 139) (by rw [hc1]; rfl) (tgt := 140) (by decide) ?_
      replace hp := hp.2.2.2.2.2.2.2.2.1 hc1
      refine xJ_aload_n hX dX11_state_140 rfl ?_
      refine xJ_getR (b := (a + 44)) hX dX11_state_141 fd_X11_19 rfl (oX11_k hL) (oX11_r1 hL) ?_
      refine xJ_getI hX dX11_state_144 fd_X11_114 rfl (oX10_k (oX11_o1 hL)) ?_
      refine xJ_iret hX hB dX11_state_147 (by decide) (by decide) ⟨_, rfl, (hM _ _), hM, rfl, hp⟩
    · refine xJ_tIn hX dX11_state_1 hx1 (by omega) (by omega) (off := 147) (by rw [hc1]; rfl) (tgt := 148) (by decide) ?_
      replace hp := hp.2.2.2.2.2.2.2.2.2 hc1
      refine xJ_aload_n hX dX11_state_148 rfl ?_
      refine xJ_getR (b := (a + 44)) hX dX11_state_149 fd_X11_19 rfl (oX11_k hL) (oX11_r1 hL) ?_
      refine xJ_getI hX dX11_state_152 fd_X11_117 rfl (oX10_k (oX11_o1 hL)) ?_
      refine xJ_iret hX hB dX11_state_155 (by decide) (by decide) ⟨_, rfl, (hM _ _), hM, rfl, hp⟩
set_option maxHeartbeats 4000000 in
set_option maxRecDepth 100000 in
theorem c0_X11_flow {G : xGx} {t : xTh} {M : xMe} {F : Nat} {a : Nat} {x1 : Int} {x2 : Int} {Q : Int → xMe → Prop} (hL : oX11 t a) (hM : xMR M) (hx1 : xR x1) (hx2 : xR x2) (hp : p_X11_flow F a x1 x2 M Q (fun _ _ => False)) : xCt G yX11_flow cX11_flow 3 (some .int) 1 0 0 [vr a, vi x1, vi x2] t M (fun v t' M' => ∃ r, v = some (vi r) ∧ xR r ∧ xMR M' ∧ t' = t ∧ Q r M') (fun _ _ _ => False) := by
  refine xCt_of (L0 := [vr a, vi x1, vi x2]) (by decide +kernel) (Nat.le_of_ble_eq_true rfl) rfl ?_
  intro X hX hB
  unfold p_X11_flow at hp
  refine xJ_aload_n hX dX11_flow_0 rfl ?_
  refine xJ_iload_n hX dX11_flow_1 rfl ?_
  refine xJ_callV (As := [_]) hX hB dX11_flow_2 lk_X11_135 im_X11_checkFlow se_X11_checkFlow rfl (by decide) (oX11_k hL) (c0_X11_checkFlow hL hM hx1 hp) (by decide) rfl rfl rfl (Nat.le_of_ble_eq_true rfl) (by decide) (by decide) (fun v t9 M2 hv => ?_) (fun _ _ _ q => q.elim)
  obtain ⟨rfl, hM2, ht9, hp⟩ := hv
  replace ht9 := ht9.symm
  subst ht9
  dsimp only [Option.toList, List.cons_append, List.nil_append]
  refine xJ_iload_n hX dX11_flow_5 rfl ?_
  obtain ⟨hpo, hp⟩ := hp
  by_cases hsw6 : x2 < 0 ∨ 5 < x2
  · refine xJ_tOut hX dX11_flow_6 hx2 hsw6 (tgt := 119) (by decide) ?_
    replace hp := hpo hsw6
    exact False.elim hp
  · obtain hc6 | hc6 | hc6 | hc6 | hc6 | hc6 : x2 = 0 ∨ x2 = 1 ∨ x2 = 2 ∨ x2 = 3 ∨ x2 = 4 ∨ x2 = 5 := by omega
    · refine xJ_tIn hX dX11_flow_6 hx2 (by omega) (by omega) (off := 38) (by rw [hc6]; rfl) (tgt := 44) (by decide) ?_
      replace hp := hp.1 hc6
      refine xJ_aload_n hX dX11_flow_44 rfl ?_
      refine xJ_getR (b := (a + 44)) hX dX11_flow_45 fd_X11_19 rfl (oX11_k hL) (oX11_r1 hL) ?_
      refine xJ_getR (b := (a + 49)) hX dX11_flow_48 fd_X11_93 rfl (oX10_k (oX11_o1 hL)) (oX10_r1 (oX11_o1 hL)) ?_
      refine xJ_getR (b := (a + 51)) hX dX11_flow_51 fd_X11_138 rfl (oX1_k (oX10_o1 (oX11_o1 hL))) (oX1_r1 (oX10_o1 (oX11_o1 hL))) ?_
      refine xJ_iload_n hX dX11_flow_54 rfl ?_
      obtain ⟨h55, hp⟩ := hp
      refine xJ_iald hX dX11_flow_55 (oX1_k1 (oX10_o1 (oX11_o1 hL))) h55.1 (xnlt (oX1_n1 (oX10_o1 (oX11_o1 hL))) h55.2) ?_
      refine xJ_iret hX hB dX11_flow_56 (by decide) (by decide) ⟨_, rfl, (hM2 _ _), hM2, rfl, hp⟩
    · refine xJ_tIn hX dX11_flow_6 hx2 (by omega) (by omega) (off := 51) (by rw [hc6]; rfl) (tgt := 57) (by decide) ?_
      replace hp := hp.2.1 hc6
      refine xJ_aload_n hX dX11_flow_57 rfl ?_
      refine xJ_getR (b := (a + 44)) hX dX11_flow_58 fd_X11_19 rfl (oX11_k hL) (oX11_r1 hL) ?_
      refine xJ_getR (b := (a + 49)) hX dX11_flow_61 fd_X11_93 rfl (oX10_k (oX11_o1 hL)) (oX10_r1 (oX11_o1 hL)) ?_
      refine xJ_getR (b := (a + 52)) hX dX11_flow_64 fd_X11_141 rfl (oX1_k (oX10_o1 (oX11_o1 hL))) (oX1_r2 (oX10_o1 (oX11_o1 hL))) ?_
      refine xJ_iload_n hX dX11_flow_67 rfl ?_
      obtain ⟨h68, hp⟩ := hp
      refine xJ_iald hX dX11_flow_68 (oX1_k2 (oX10_o1 (oX11_o1 hL))) h68.1 (xnlt (oX1_n2 (oX10_o1 (oX11_o1 hL))) h68.2) ?_
      refine xJ_iret hX hB dX11_flow_69 (by decide) (by decide) ⟨_, rfl, (hM2 _ _), hM2, rfl, hp⟩
    · refine xJ_tIn hX dX11_flow_6 hx2 (by omega) (by omega) (off := 64) (by rw [hc6]; rfl) (tgt := 70) (by decide) ?_
      replace hp := hp.2.2.1 hc6
      refine xJ_aload_n hX dX11_flow_70 rfl ?_
      refine xJ_getR (b := (a + 44)) hX dX11_flow_71 fd_X11_19 rfl (oX11_k hL) (oX11_r1 hL) ?_
      refine xJ_getR (b := (a + 49)) hX dX11_flow_74 fd_X11_93 rfl (oX10_k (oX11_o1 hL)) (oX10_r1 (oX11_o1 hL)) ?_
      refine xJ_getR (b := (a + 53)) hX dX11_flow_77 fd_X11_144 rfl (oX1_k (oX10_o1 (oX11_o1 hL))) (oX1_r3 (oX10_o1 (oX11_o1 hL))) ?_
      refine xJ_iload_n hX dX11_flow_80 rfl ?_
      obtain ⟨h81, hp⟩ := hp
      refine xJ_iald hX dX11_flow_81 (oX1_k3 (oX10_o1 (oX11_o1 hL))) h81.1 (xnlt (oX1_n3 (oX10_o1 (oX11_o1 hL))) h81.2) ?_
      refine xJ_iret hX hB dX11_flow_82 (by decide) (by decide) ⟨_, rfl, (hM2 _ _), hM2, rfl, hp⟩
    · refine xJ_tIn hX dX11_flow_6 hx2 (by omega) (by omega) (off := 77) (by rw [hc6]; rfl) (tgt := 83) (by decide) ?_
      replace hp := hp.2.2.2.1 hc6
      refine xJ_aload_n hX dX11_flow_83 rfl ?_
      refine xJ_getR (b := (a + 44)) hX dX11_flow_84 fd_X11_19 rfl (oX11_k hL) (oX11_r1 hL) ?_
      refine xJ_getR (b := (a + 69)) hX dX11_flow_87 fd_X11_100 rfl (oX10_k (oX11_o1 hL)) (oX10_r4 (oX11_o1 hL)) ?_
      refine xJ_iload_n hX dX11_flow_90 rfl ?_
      refine xJ_callV (As := [_]) hX hB dX11_flow_91 lk_X11_147 im_X0_countOf se_X0_countOf rfl (by decide) (oX0_k (oX10_o4 (oX11_o1 hL))) (c_X0_countOf (oX10_o4 (oX11_o1 hL)) hM2 hx1 hp) (by decide) rfl rfl rfl (Nat.le_of_ble_eq_true rfl) (by decide) (by decide) (fun v t9 M91 hv => ?_) (fun _ _ _ q => q.elim)
      obtain ⟨r91, rfl, h91, hM91, ht9, hp⟩ := hv
      replace ht9 := ht9.symm
      subst ht9
      dsimp only [Option.toList, List.cons_append, List.nil_append]
      refine xJ_iret hX hB dX11_flow_94 (by decide) (by decide) ⟨_, rfl, h91, hM91, rfl, hp⟩
    · refine xJ_tIn hX dX11_flow_6 hx2 (by omega) (by omega) (off := 89) (by rw [hc6]; rfl) (tgt := 95) (by decide) ?_
      replace hp := hp.2.2.2.2.1 hc6
      refine xJ_aload_n hX dX11_flow_95 rfl ?_
      refine xJ_getR (b := (a + 44)) hX dX11_flow_96 fd_X11_19 rfl (oX11_k hL) (oX11_r1 hL) ?_
      refine xJ_getR (b := (a + 69)) hX dX11_flow_99 fd_X11_100 rfl (oX10_k (oX11_o1 hL)) (oX10_r4 (oX11_o1 hL)) ?_
      refine xJ_iload_n hX dX11_flow_102 rfl ?_
      refine xJ_callV (As := [_]) hX hB dX11_flow_103 lk_X11_150 im_X0_sumOf se_X0_sumOf rfl (by decide) (oX0_k (oX10_o4 (oX11_o1 hL))) (c_X0_sumOf (oX10_o4 (oX11_o1 hL)) hM2 hx1 hp) (by decide) rfl rfl rfl (Nat.le_of_ble_eq_true rfl) (by decide) (by decide) (fun v t9 M103 hv => ?_) (fun _ _ _ q => q.elim)
      obtain ⟨r103, rfl, h103, hM103, ht9, hp⟩ := hv
      replace ht9 := ht9.symm
      subst ht9
      dsimp only [Option.toList, List.cons_append, List.nil_append]
      refine xJ_iret hX hB dX11_flow_106 (by decide) (by decide) ⟨_, rfl, h103, hM103, rfl, hp⟩
    · refine xJ_tIn hX dX11_flow_6 hx2 (by omega) (by omega) (off := 101) (by rw [hc6]; rfl) (tgt := 107) (by decide) ?_
      replace hp := hp.2.2.2.2.2 hc6
      refine xJ_aload_n hX dX11_flow_107 rfl ?_
      refine xJ_getR (b := (a + 44)) hX dX11_flow_108 fd_X11_19 rfl (oX11_k hL) (oX11_r1 hL) ?_
      refine xJ_getR (b := (a + 60)) hX dX11_flow_111 fd_X11_74 rfl (oX10_k (oX11_o1 hL)) (oX10_r3 (oX11_o1 hL)) ?_
      refine xJ_iload_n hX dX11_flow_114 rfl ?_
      refine xJ_callV (As := [_]) hX hB dX11_flow_115 lk_X11_153 im_X5_deliveredSizeOf se_X5_deliveredSizeOf rfl (by decide) (oX5_k (oX10_o3 (oX11_o1 hL))) (c_X5_deliveredSizeOf (oX10_o3 (oX11_o1 hL)) hM2 hx1 hp) (by decide) rfl rfl rfl (Nat.le_of_ble_eq_true rfl) (by decide) (by decide) (fun v t9 M115 hv => ?_) (fun _ _ _ q => q.elim)
      obtain ⟨r115, rfl, h115, hM115, ht9, hp⟩ := hv
      replace ht9 := ht9.symm
      subst ht9
      dsimp only [Option.toList, List.cons_append, List.nil_append]
      refine xJ_iret hX hB dX11_flow_118 (by decide) (by decide) ⟨_, rfl, h115, hM115, rfl, hp⟩
set_option maxHeartbeats 4000000 in
set_option maxRecDepth 100000 in
theorem c0_X11_tokens {G : xGx} {t : xTh} {M : xMe} {a : Nat} {x1 : Int} {x2 : Int} {Q : Int → xMe → Prop} (hL : oX11 t a) (hM : xMR M) (hx1 : xR x1) (hx2 : xR x2) (hp : p_X11_tokens a x1 x2 M Q (fun _ _ => False)) : xCt G yX11_tokens cX11_tokens 3 (some .int) 1 0 0 [vr a, vi x1, vi x2] t M (fun v t' M' => ∃ r, v = some (vi r) ∧ xR r ∧ xMR M' ∧ t' = t ∧ Q r M') (fun _ _ _ => False) := by
  refine xCt_of (L0 := [vr a, vi x1, vi x2]) (by decide +kernel) (Nat.le_of_ble_eq_true rfl) rfl ?_
  intro X hX hB
  unfold p_X11_tokens at hp
  refine xJ_aload_n hX dX11_tokens_0 rfl ?_
  refine xJ_iload_n hX dX11_tokens_1 rfl ?_
  refine xJ_callV (As := [_]) hX hB dX11_tokens_2 lk_X11_122 im_X11_checkGate se_X11_checkGate rfl (by decide) (oX11_k hL) (c0_X11_checkGate hL hM hx1 hp) (by decide) rfl rfl rfl (Nat.le_of_ble_eq_true rfl) (by decide) (by decide) (fun v t9 M2 hv => ?_) (fun _ _ _ q => q.elim)
  obtain ⟨rfl, hM2, ht9, hp⟩ := hv
  replace ht9 := ht9.symm
  subst ht9
  dsimp only [Option.toList, List.cons_append, List.nil_append]
  refine xJ_aload_n hX dX11_tokens_5 rfl ?_
  refine xJ_iload_n hX dX11_tokens_6 rfl ?_
  refine xJ_callV (As := [_]) hX hB dX11_tokens_7 lk_X11_135 im_X11_checkFlow se_X11_checkFlow rfl (by decide) (oX11_k hL) (c0_X11_checkFlow hL hM2 hx2 hp) (by decide) rfl rfl rfl (Nat.le_of_ble_eq_true rfl) (by decide) (by decide) (fun v t9 M7 hv => ?_) (fun _ _ _ q => q.elim)
  obtain ⟨rfl, hM7, ht9, hp⟩ := hv
  replace ht9 := ht9.symm
  subst ht9
  dsimp only [Option.toList, List.cons_append, List.nil_append]
  refine xJ_aload_n hX dX11_tokens_10 rfl ?_
  refine xJ_getR (b := (a + 44)) hX dX11_tokens_11 fd_X11_19 rfl (oX11_k hL) (oX11_r1 hL) ?_
  refine xJ_getR (b := (a + 54)) hX dX11_tokens_14 fd_X11_165 rfl (oX10_k (oX11_o1 hL)) (oX10_r2 (oX11_o1 hL)) ?_
  refine xJ_getR (b := (a + 55)) hX dX11_tokens_17 fd_X11_169 rfl (oX4_k (oX10_o2 (oX11_o1 hL))) (oX4_r0 (oX10_o2 (oX11_o1 hL))) ?_
  refine xJ_iload_n hX dX11_tokens_20 rfl ?_
  refine xJ_bipush hX dX11_tokens_21 rfl ?_
  refine xJ_imul hX dX11_tokens_23 ?_
  obtain ⟨h23, hp⟩ := hp
  refine xJ_iload_n hX dX11_tokens_24 rfl ?_
  refine xJ_iadd hX dX11_tokens_25 ?_
  obtain ⟨h25, hp⟩ := hp
  obtain ⟨h26, hp⟩ := hp
  refine xJ_iald hX dX11_tokens_26 (oX4_k0 (oX10_o2 (oX11_o1 hL))) h26.1 (xnlt (oX4_n0 (oX10_o2 (oX11_o1 hL))) h26.2) ?_
  refine xJ_iret hX hB dX11_tokens_27 (by decide) (by decide) ⟨_, rfl, (hM7 _ _), hM7, rfl, hp⟩
set_option maxHeartbeats 4000000 in
set_option maxRecDepth 100000 in
theorem c0_X11_queue {G : xGx} {t : xTh} {M : xMe} {a : Nat} {x1 : Int} {x2 : Int} {Q : Int → xMe → Prop} (hL : oX11 t a) (hM : xMR M) (hx1 : xR x1) (hx2 : xR x2) (hp : p_X11_queue a x1 x2 M Q (fun _ _ => False)) : xCt G yX11_queue cX11_queue 3 (some .int) 1 0 0 [vr a, vi x1, vi x2] t M (fun v t' M' => ∃ r, v = some (vi r) ∧ xR r ∧ xMR M' ∧ t' = t ∧ Q r M') (fun _ _ _ => False) := by
  refine xCt_of (L0 := [vr a, vi x1, vi x2]) (by decide +kernel) (Nat.le_of_ble_eq_true rfl) rfl ?_
  intro X hX hB
  unfold p_X11_queue at hp
  refine xJ_aload_n hX dX11_queue_0 rfl ?_
  refine xJ_iload_n hX dX11_queue_1 rfl ?_
  refine xJ_callV (As := [_]) hX hB dX11_queue_2 lk_X11_122 im_X11_checkGate se_X11_checkGate rfl (by decide) (oX11_k hL) (c0_X11_checkGate hL hM hx1 hp) (by decide) rfl rfl rfl (Nat.le_of_ble_eq_true rfl) (by decide) (by decide) (fun v t9 M2 hv => ?_) (fun _ _ _ q => q.elim)
  obtain ⟨rfl, hM2, ht9, hp⟩ := hv
  replace ht9 := ht9.symm
  subst ht9
  dsimp only [Option.toList, List.cons_append, List.nil_append]
  refine xJ_aload_n hX dX11_queue_5 rfl ?_
  refine xJ_iload_n hX dX11_queue_6 rfl ?_
  refine xJ_callV (As := [_]) hX hB dX11_queue_7 lk_X11_135 im_X11_checkFlow se_X11_checkFlow rfl (by decide) (oX11_k hL) (c0_X11_checkFlow hL hM2 hx2 hp) (by decide) rfl rfl rfl (Nat.le_of_ble_eq_true rfl) (by decide) (by decide) (fun v t9 M7 hv => ?_) (fun _ _ _ q => q.elim)
  obtain ⟨rfl, hM7, ht9, hp⟩ := hv
  replace ht9 := ht9.symm
  subst ht9
  dsimp only [Option.toList, List.cons_append, List.nil_append]
  refine xJ_aload_n hX dX11_queue_10 rfl ?_
  refine xJ_getR (b := (a + 44)) hX dX11_queue_11 fd_X11_19 rfl (oX11_k hL) (oX11_r1 hL) ?_
  refine xJ_getR (b := (a + 54)) hX dX11_queue_14 fd_X11_165 rfl (oX10_k (oX11_o1 hL)) (oX10_r2 (oX11_o1 hL)) ?_
  refine xJ_getR (b := (a + 56)) hX dX11_queue_17 fd_X11_174 rfl (oX4_k (oX10_o2 (oX11_o1 hL))) (oX4_r1 (oX10_o2 (oX11_o1 hL))) ?_
  refine xJ_iload_n hX dX11_queue_20 rfl ?_
  refine xJ_bipush hX dX11_queue_21 rfl ?_
  refine xJ_imul hX dX11_queue_23 ?_
  obtain ⟨h23, hp⟩ := hp
  refine xJ_iload_n hX dX11_queue_24 rfl ?_
  refine xJ_iadd hX dX11_queue_25 ?_
  obtain ⟨h25, hp⟩ := hp
  obtain ⟨h26, hp⟩ := hp
  refine xJ_iald hX dX11_queue_26 (oX4_k1 (oX10_o2 (oX11_o1 hL))) h26.1 (xnlt (oX4_n1 (oX10_o2 (oX11_o1 hL))) h26.2) ?_
  refine xJ_iret hX hB dX11_queue_27 (by decide) (by decide) ⟨_, rfl, (hM7 _ _), hM7, rfl, hp⟩
set_option maxHeartbeats 4000000 in
set_option maxRecDepth 100000 in
theorem c0_X11_packet {G : xGx} {t : xTh} {M : xMe} {a : Nat} {x1 : Int} {x2 : Int} {Q : Int → xMe → Prop} (hL : oX11 t a) (hM : xMR M) (hx1 : xR x1) (hx2 : xR x2) (hp : p_X11_packet a x1 x2 M Q (fun _ _ => False)) : xCt G yX11_packet cX11_packet 3 (some .int) 2 0 0 [vr a, vi x1, vi x2] t M (fun v t' M' => ∃ r, v = some (vi r) ∧ xR r ∧ xMR M' ∧ t' = t ∧ Q r M') (fun _ _ _ => False) := by
  refine xCt_of (L0 := [vr a, vi x1, vi x2]) (by decide +kernel) (Nat.le_of_ble_eq_true rfl) rfl ?_
  intro X hX hB
  unfold p_X11_packet at hp
  refine xJ_aload_n hX dX11_packet_0 rfl ?_
  refine xJ_iload_n hX dX11_packet_1 rfl ?_
  refine xJ_callV (As := [_]) hX hB dX11_packet_2 lk_X11_177 im_X11_checkPacket se_X11_checkPacket rfl (by decide) (oX11_k hL) (c0_X11_checkPacket hL hM hx1 hp) (by decide) rfl rfl rfl (Nat.le_of_ble_eq_true rfl) (by decide) (by decide) (fun v t9 M2 hv => ?_) (fun _ _ _ q => q.elim)
  obtain ⟨rfl, hM2, ht9, hp⟩ := hv
  replace ht9 := ht9.symm
  subst ht9
  dsimp only [Option.toList, List.cons_append, List.nil_append]
  refine xJ_iload_n hX dX11_packet_5 rfl ?_
  obtain ⟨hpo, hp⟩ := hp
  by_cases hsw6 : x2 < 0 ∨ 6 < x2
  · refine xJ_tOut hX dX11_packet_6 hx2 hsw6 (tgt := 135) (by decide) ?_
    replace hp := hpo hsw6
    exact False.elim hp
  · obtain hc6 | hc6 | hc6 | hc6 | hc6 | hc6 | hc6 : x2 = 0 ∨ x2 = 1 ∨ x2 = 2 ∨ x2 = 3 ∨ x2 = 4 ∨ x2 = 5 ∨ x2 = 6 := by omega
    · refine xJ_tIn hX dX11_packet_6 hx2 (by omega) (by omega) (off := 42) (by rw [hc6]; rfl) (tgt := 48) (by decide) ?_
      replace hp := hp.1 hc6
      refine xJ_aload_n hX dX11_packet_48 rfl ?_
      refine xJ_getR (b := (a + 44)) hX dX11_packet_49 fd_X11_19 rfl (oX11_k hL) (oX11_r1 hL) ?_
      refine xJ_getR (b := (a + 60)) hX dX11_packet_52 fd_X11_74 rfl (oX10_k (oX11_o1 hL)) (oX10_r3 (oX11_o1 hL)) ?_
      refine xJ_getR (b := (a + 61)) hX dX11_packet_55 fd_X11_180 rfl (oX5_k (oX10_o3 (oX11_o1 hL))) (oX5_r0 (oX10_o3 (oX11_o1 hL))) ?_
      refine xJ_iload_n hX dX11_packet_58 rfl ?_
      obtain ⟨h59, hp⟩ := hp
      refine xJ_iald hX dX11_packet_59 (oX5_k0 (oX10_o3 (oX11_o1 hL))) h59.1 (xnlt (oX5_n0 (oX10_o3 (oX11_o1 hL))) h59.2) ?_
      refine xJ_iret hX hB dX11_packet_60 (by decide) (by decide) ⟨_, rfl, (hM2 _ _), hM2, rfl, hp⟩
    · refine xJ_tIn hX dX11_packet_6 hx2 (by omega) (by omega) (off := 55) (by rw [hc6]; rfl) (tgt := 61) (by decide) ?_
      replace hp := hp.2.1 hc6
      refine xJ_aload_n hX dX11_packet_61 rfl ?_
      refine xJ_getR (b := (a + 44)) hX dX11_packet_62 fd_X11_19 rfl (oX11_k hL) (oX11_r1 hL) ?_
      refine xJ_getR (b := (a + 60)) hX dX11_packet_65 fd_X11_74 rfl (oX10_k (oX11_o1 hL)) (oX10_r3 (oX11_o1 hL)) ?_
      refine xJ_getR (b := (a + 62)) hX dX11_packet_68 fd_X11_183 rfl (oX5_k (oX10_o3 (oX11_o1 hL))) (oX5_r1 (oX10_o3 (oX11_o1 hL))) ?_
      refine xJ_iload_n hX dX11_packet_71 rfl ?_
      obtain ⟨h72, hp⟩ := hp
      refine xJ_iald hX dX11_packet_72 (oX5_k1 (oX10_o3 (oX11_o1 hL))) h72.1 (xnlt (oX5_n1 (oX10_o3 (oX11_o1 hL))) h72.2) ?_
      refine xJ_iret hX hB dX11_packet_73 (by decide) (by decide) ⟨_, rfl, (hM2 _ _), hM2, rfl, hp⟩
    · refine xJ_tIn hX dX11_packet_6 hx2 (by omega) (by omega) (off := 68) (by rw [hc6]; rfl) (tgt := 74) (by decide) ?_
      replace hp := hp.2.2.1 hc6
      refine xJ_aload_n hX dX11_packet_74 rfl ?_
      refine xJ_getR (b := (a + 44)) hX dX11_packet_75 fd_X11_19 rfl (oX11_k hL) (oX11_r1 hL) ?_
      refine xJ_getR (b := (a + 60)) hX dX11_packet_78 fd_X11_74 rfl (oX10_k (oX11_o1 hL)) (oX10_r3 (oX11_o1 hL)) ?_
      refine xJ_getR (b := (a + 63)) hX dX11_packet_81 fd_X11_186 rfl (oX5_k (oX10_o3 (oX11_o1 hL))) (oX5_r2 (oX10_o3 (oX11_o1 hL))) ?_
      refine xJ_iload_n hX dX11_packet_84 rfl ?_
      obtain ⟨h85, hp⟩ := hp
      refine xJ_iald hX dX11_packet_85 (oX5_k2 (oX10_o3 (oX11_o1 hL))) h85.1 (xnlt (oX5_n2 (oX10_o3 (oX11_o1 hL))) h85.2) ?_
      refine xJ_iret hX hB dX11_packet_86 (by decide) (by decide) ⟨_, rfl, (hM2 _ _), hM2, rfl, hp⟩
    · refine xJ_tIn hX dX11_packet_6 hx2 (by omega) (by omega) (off := 81) (by rw [hc6]; rfl) (tgt := 87) (by decide) ?_
      replace hp := hp.2.2.2.1 hc6
      refine xJ_aload_n hX dX11_packet_87 rfl ?_
      refine xJ_getR (b := (a + 44)) hX dX11_packet_88 fd_X11_19 rfl (oX11_k hL) (oX11_r1 hL) ?_
      refine xJ_getR (b := (a + 60)) hX dX11_packet_91 fd_X11_74 rfl (oX10_k (oX11_o1 hL)) (oX10_r3 (oX11_o1 hL)) ?_
      refine xJ_getR (b := (a + 64)) hX dX11_packet_94 fd_X11_189 rfl (oX5_k (oX10_o3 (oX11_o1 hL))) (oX5_r3 (oX10_o3 (oX11_o1 hL))) ?_
      refine xJ_iload_n hX dX11_packet_97 rfl ?_
      obtain ⟨h98, hp⟩ := hp
      refine xJ_iald hX dX11_packet_98 (oX5_k3 (oX10_o3 (oX11_o1 hL))) h98.1 (xnlt (oX5_n3 (oX10_o3 (oX11_o1 hL))) h98.2) ?_
      refine xJ_iret hX hB dX11_packet_99 (by decide) (by decide) ⟨_, rfl, (hM2 _ _), hM2, rfl, hp⟩
    · refine xJ_tIn hX dX11_packet_6 hx2 (by omega) (by omega) (off := 94) (by rw [hc6]; rfl) (tgt := 100) (by decide) ?_
      replace hp := hp.2.2.2.2.1 hc6
      refine xJ_aload_n hX dX11_packet_100 rfl ?_
      refine xJ_getR (b := (a + 44)) hX dX11_packet_101 fd_X11_19 rfl (oX11_k hL) (oX11_r1 hL) ?_
      refine xJ_iload_n hX dX11_packet_104 rfl ?_
      refine xJ_callV (As := [_]) hX hB dX11_packet_105 lk_X11_192 im_X10_gateOf se_X10_gateOf rfl (by decide) (oX10_k (oX11_o1 hL)) (c_X10_gateOf (oX11_o1 hL) hM2 hx1 hp) (by decide) rfl rfl rfl (Nat.le_of_ble_eq_true rfl) (by decide) (by decide) (fun v t9 M105 hv => ?_) (fun _ _ _ q => q.elim)
      obtain ⟨r105, rfl, h105, hM105, ht9, hp⟩ := hv
      replace ht9 := ht9.symm
      subst ht9
      dsimp only [Option.toList, List.cons_append, List.nil_append]
      refine xJ_iret hX hB dX11_packet_108 (by decide) (by decide) ⟨_, rfl, h105, hM105, rfl, hp⟩
    · refine xJ_tIn hX dX11_packet_6 hx2 (by omega) (by omega) (off := 103) (by rw [hc6]; rfl) (tgt := 109) (by decide) ?_
      replace hp := hp.2.2.2.2.2.1 hc6
      refine xJ_aload_n hX dX11_packet_109 rfl ?_
      refine xJ_getR (b := (a + 44)) hX dX11_packet_110 fd_X11_19 rfl (oX11_k hL) (oX11_r1 hL) ?_
      refine xJ_getR (b := (a + 60)) hX dX11_packet_113 fd_X11_74 rfl (oX10_k (oX11_o1 hL)) (oX10_r3 (oX11_o1 hL)) ?_
      refine xJ_getR (b := (a + 67)) hX dX11_packet_116 fd_X11_195 rfl (oX5_k (oX10_o3 (oX11_o1 hL))) (oX5_r6 (oX10_o3 (oX11_o1 hL))) ?_
      refine xJ_iload_n hX dX11_packet_119 rfl ?_
      obtain ⟨h120, hp⟩ := hp
      refine xJ_iald hX dX11_packet_120 (oX5_k6 (oX10_o3 (oX11_o1 hL))) h120.1 (xnlt (oX5_n6 (oX10_o3 (oX11_o1 hL))) h120.2) ?_
      refine xJ_iret hX hB dX11_packet_121 (by decide) (by decide) ⟨_, rfl, (hM2 _ _), hM2, rfl, hp⟩
    · refine xJ_tIn hX dX11_packet_6 hx2 (by omega) (by omega) (off := 116) (by rw [hc6]; rfl) (tgt := 122) (by decide) ?_
      replace hp := hp.2.2.2.2.2.2 hc6
      refine xJ_aload_n hX dX11_packet_122 rfl ?_
      refine xJ_getR (b := (a + 44)) hX dX11_packet_123 fd_X11_19 rfl (oX11_k hL) (oX11_r1 hL) ?_
      refine xJ_getR (b := (a + 60)) hX dX11_packet_126 fd_X11_74 rfl (oX10_k (oX11_o1 hL)) (oX10_r3 (oX11_o1 hL)) ?_
      refine xJ_getR (b := (a + 68)) hX dX11_packet_129 fd_X11_198 rfl (oX5_k (oX10_o3 (oX11_o1 hL))) (oX5_r7 (oX10_o3 (oX11_o1 hL))) ?_
      refine xJ_iload_n hX dX11_packet_132 rfl ?_
      obtain ⟨h133, hp⟩ := hp
      refine xJ_iald hX dX11_packet_133 (oX5_k7 (oX10_o3 (oX11_o1 hL))) h133.1 (xnlt (oX5_n7 (oX10_o3 (oX11_o1 hL))) h133.2) ?_
      refine xJ_iret hX hB dX11_packet_134 (by decide) (by decide) ⟨_, rfl, (hM2 _ _), hM2, rfl, hp⟩
set_option maxHeartbeats 4000000 in
set_option maxRecDepth 100000 in
theorem c0_X11_coupon {G : xGx} {t : xTh} {M : xMe} {a : Nat} {x1 : Int} {x2 : Int} {Q : Int → xMe → Prop} (hL : oX11 t a) (hM : xMR M) (hx1 : xR x1) (hx2 : xR x2) (hp : p_X11_coupon a x1 x2 M Q (fun _ _ => False)) : xCt G yX11_coupon cX11_coupon 3 (some .int) 1 0 0 [vr a, vi x1, vi x2] t M (fun v t' M' => ∃ r, v = some (vi r) ∧ xR r ∧ xMR M' ∧ t' = t ∧ Q r M') (fun _ _ _ => False) := by
  refine xCt_of (L0 := [vr a, vi x1, vi x2]) (by decide +kernel) (Nat.le_of_ble_eq_true rfl) rfl ?_
  intro X hX hB
  unfold p_X11_coupon at hp
  refine xJ_aload_n hX dX11_coupon_0 rfl ?_
  refine xJ_iload_n hX dX11_coupon_1 rfl ?_
  refine xJ_callV (As := [_]) hX hB dX11_coupon_2 lk_X11_201 im_X11_checkCoupon se_X11_checkCoupon rfl (by decide) (oX11_k hL) (c0_X11_checkCoupon hL hM hx1 hp) (by decide) rfl rfl rfl (Nat.le_of_ble_eq_true rfl) (by decide) (by decide) (fun v t9 M2 hv => ?_) (fun _ _ _ q => q.elim)
  obtain ⟨rfl, hM2, ht9, hp⟩ := hv
  replace ht9 := ht9.symm
  subst ht9
  dsimp only [Option.toList, List.cons_append, List.nil_append]
  refine xJ_iload_n hX dX11_coupon_5 rfl ?_
  obtain ⟨hpo, hp⟩ := hp
  by_cases hsw6 : x2 < 0 ∨ 3 < x2
  · refine xJ_tOut hX dX11_coupon_6 hx2 hsw6 (tgt := 88) (by decide) ?_
    replace hp := hpo hsw6
    exact False.elim hp
  · obtain hc6 | hc6 | hc6 | hc6 : x2 = 0 ∨ x2 = 1 ∨ x2 = 2 ∨ x2 = 3 := by omega
    · refine xJ_tIn hX dX11_coupon_6 hx2 (by omega) (by omega) (off := 30) (by rw [hc6]; rfl) (tgt := 36) (by decide) ?_
      replace hp := hp.1 hc6
      refine xJ_aload_n hX dX11_coupon_36 rfl ?_
      refine xJ_getR (b := (a + 44)) hX dX11_coupon_37 fd_X11_19 rfl (oX11_k hL) (oX11_r1 hL) ?_
      refine xJ_getR (b := (a + 69)) hX dX11_coupon_40 fd_X11_100 rfl (oX10_k (oX11_o1 hL)) (oX10_r4 (oX11_o1 hL)) ?_
      refine xJ_getR (b := (a + 70)) hX dX11_coupon_43 fd_X11_204 rfl (oX0_k (oX10_o4 (oX11_o1 hL))) (oX0_r0 (oX10_o4 (oX11_o1 hL))) ?_
      refine xJ_iload_n hX dX11_coupon_46 rfl ?_
      obtain ⟨h47, hp⟩ := hp
      refine xJ_iald hX dX11_coupon_47 (oX0_k0 (oX10_o4 (oX11_o1 hL))) h47.1 (xnlt (oX0_n0 (oX10_o4 (oX11_o1 hL))) h47.2) ?_
      refine xJ_iret hX hB dX11_coupon_48 (by decide) (by decide) ⟨_, rfl, (hM2 _ _), hM2, rfl, hp⟩
    · refine xJ_tIn hX dX11_coupon_6 hx2 (by omega) (by omega) (off := 43) (by rw [hc6]; rfl) (tgt := 49) (by decide) ?_
      replace hp := hp.2.1 hc6
      refine xJ_aload_n hX dX11_coupon_49 rfl ?_
      refine xJ_getR (b := (a + 44)) hX dX11_coupon_50 fd_X11_19 rfl (oX11_k hL) (oX11_r1 hL) ?_
      refine xJ_getR (b := (a + 69)) hX dX11_coupon_53 fd_X11_100 rfl (oX10_k (oX11_o1 hL)) (oX10_r4 (oX11_o1 hL)) ?_
      refine xJ_getR (b := (a + 71)) hX dX11_coupon_56 fd_X11_205 rfl (oX0_k (oX10_o4 (oX11_o1 hL))) (oX0_r1 (oX10_o4 (oX11_o1 hL))) ?_
      refine xJ_iload_n hX dX11_coupon_59 rfl ?_
      obtain ⟨h60, hp⟩ := hp
      refine xJ_iald hX dX11_coupon_60 (oX0_k1 (oX10_o4 (oX11_o1 hL))) h60.1 (xnlt (oX0_n1 (oX10_o4 (oX11_o1 hL))) h60.2) ?_
      refine xJ_iret hX hB dX11_coupon_61 (by decide) (by decide) ⟨_, rfl, (hM2 _ _), hM2, rfl, hp⟩
    · refine xJ_tIn hX dX11_coupon_6 hx2 (by omega) (by omega) (off := 56) (by rw [hc6]; rfl) (tgt := 62) (by decide) ?_
      replace hp := hp.2.2.1 hc6
      refine xJ_aload_n hX dX11_coupon_62 rfl ?_
      refine xJ_getR (b := (a + 44)) hX dX11_coupon_63 fd_X11_19 rfl (oX11_k hL) (oX11_r1 hL) ?_
      refine xJ_getR (b := (a + 69)) hX dX11_coupon_66 fd_X11_100 rfl (oX10_k (oX11_o1 hL)) (oX10_r4 (oX11_o1 hL)) ?_
      refine xJ_getR (b := (a + 72)) hX dX11_coupon_69 fd_X11_208 rfl (oX0_k (oX10_o4 (oX11_o1 hL))) (oX0_r2 (oX10_o4 (oX11_o1 hL))) ?_
      refine xJ_iload_n hX dX11_coupon_72 rfl ?_
      obtain ⟨h73, hp⟩ := hp
      refine xJ_iald hX dX11_coupon_73 (oX0_k2 (oX10_o4 (oX11_o1 hL))) h73.1 (xnlt (oX0_n2 (oX10_o4 (oX11_o1 hL))) h73.2) ?_
      refine xJ_iret hX hB dX11_coupon_74 (by decide) (by decide) ⟨_, rfl, (hM2 _ _), hM2, rfl, hp⟩
    · refine xJ_tIn hX dX11_coupon_6 hx2 (by omega) (by omega) (off := 69) (by rw [hc6]; rfl) (tgt := 75) (by decide) ?_
      replace hp := hp.2.2.2 hc6
      refine xJ_aload_n hX dX11_coupon_75 rfl ?_
      refine xJ_getR (b := (a + 44)) hX dX11_coupon_76 fd_X11_19 rfl (oX11_k hL) (oX11_r1 hL) ?_
      refine xJ_getR (b := (a + 69)) hX dX11_coupon_79 fd_X11_100 rfl (oX10_k (oX11_o1 hL)) (oX10_r4 (oX11_o1 hL)) ?_
      refine xJ_getR (b := (a + 73)) hX dX11_coupon_82 fd_X11_211 rfl (oX0_k (oX10_o4 (oX11_o1 hL))) (oX0_r3 (oX10_o4 (oX11_o1 hL))) ?_
      refine xJ_iload_n hX dX11_coupon_85 rfl ?_
      obtain ⟨h86, hp⟩ := hp
      refine xJ_iald hX dX11_coupon_86 (oX0_k3 (oX10_o4 (oX11_o1 hL))) h86.1 (xnlt (oX0_n3 (oX10_o4 (oX11_o1 hL))) h86.2) ?_
      refine xJ_iret hX hB dX11_coupon_87 (by decide) (by decide) ⟨_, rfl, (hM2 _ _), hM2, rfl, hp⟩
def p_X11_checksum_4 (F : Nat) (a : Nat) (Q : Int → xMe → Prop) (K29 : Int → xMe → Prop) : Nat → Int → Int → xMe → Prop
  | 0, _, _, _ => False
  | k + 1, x1, x3, M =>
    ((9 < x3 → K29 x1 M) ∧ (x3 ≤ 9 → p_X11_state F a x3 M (fun r17 M17 => (xR (x3 + 1)) ∧ p_X11_checksum_4 F a Q K29 k ((31 * x1) + r17) (x3 + 1) M17) (fun _ _ => False)))
def p_X11_checksum_48 (F : Nat) (a : Nat) (Q : Int → xMe → Prop) (K75 : Int → Int → xMe → Prop) : Nat → Int → Int → Int → xMe → Prop
  | 0, _, _, _, _ => False
  | k + 1, x1, x3, x4, M =>
    ((5 < x4 → K75 x1 x3 M) ∧ (x4 ≤ 5 → p_X11_flow F a x3 x4 M (fun r63 M63 => (xR (x4 + 1)) ∧ p_X11_checksum_48 F a Q K75 k ((31 * x1) + r63) x3 (x4 + 1) M63) (fun _ _ => False)))
def p_X11_checksum_31 (F : Nat) (a : Nat) (Q : Int → xMe → Prop) (K81 : Int → xMe → Prop) : Nat → Int → Int → xMe → Prop
  | 0, _, _, _ => False
  | k + 1, x1, x3, M =>
    (((M (a + 49) 4) ≤ x3 → K81 x1 M) ∧ (x3 < (M (a + 49) 4) → p_X11_checksum_48 F a Q (fun y1 y3 M => (xR (y3 + 1)) ∧ p_X11_checksum_31 F a Q K81 k y1 (y3 + 1) M) F x1 x3 0 M))
def p_X11_checksum_100 (F : Nat) (a : Nat) (Q : Int → xMe → Prop) (K128 : Int → Int → xMe → Prop) : Nat → Int → Int → Int → xMe → Prop
  | 0, _, _, _, _ => False
  | k + 1, x1, x3, x4, M =>
    ((6 < x4 → K128 x1 x3 M) ∧ (x4 ≤ 6 → p_X11_packet a x3 x4 M (fun r116 M116 => (xR (x4 + 1)) ∧ p_X11_checksum_100 F a Q K128 k ((31 * x1) + r116) x3 (x4 + 1) M116) (fun _ _ => False)))
def p_X11_checksum_83 (F : Nat) (a : Nat) (Q : Int → xMe → Prop) (K134 : Int → xMe → Prop) : Nat → Int → Int → xMe → Prop
  | 0, _, _, _ => False
  | k + 1, x1, x3, M =>
    (((M (a + 60) 8) ≤ x3 → K134 x1 M) ∧ (x3 < (M (a + 60) 8) → p_X11_checksum_100 F a Q (fun y1 y3 M => (xR (y3 + 1)) ∧ p_X11_checksum_83 F a Q K134 k y1 (y3 + 1) M) F x1 x3 0 M))
def p_X11_checksum_153 (F : Nat) (a : Nat) (Q : Int → xMe → Prop) (K180 : Int → Int → xMe → Prop) : Nat → Int → Int → Int → xMe → Prop
  | 0, _, _, _, _ => False
  | k + 1, x1, x3, x4, M =>
    ((3 < x4 → K180 x1 x3 M) ∧ (x4 ≤ 3 → p_X11_coupon a x3 x4 M (fun r168 M168 => (xR (x4 + 1)) ∧ p_X11_checksum_153 F a Q K180 k ((31 * x1) + r168) x3 (x4 + 1) M168) (fun _ _ => False)))
def p_X11_checksum_136 (F : Nat) (a : Nat) (Q : Int → xMe → Prop) (K186 : Int → xMe → Prop) : Nat → Int → Int → xMe → Prop
  | 0, _, _, _ => False
  | k + 1, x1, x3, M =>
    (((M (a + 69) 4) ≤ x3 → K186 x1 M) ∧ (x3 < (M (a + 69) 4) → p_X11_checksum_153 F a Q (fun y1 y3 M => (xR (y3 + 1)) ∧ p_X11_checksum_136 F a Q K186 k y1 (y3 + 1) M) F x1 x3 0 M))
def p_X11_checksum_205 (F : Nat) (a : Nat) (Q : Int → xMe → Prop) (K256 : Int → Int → xMe → Prop) : Nat → Int → Int → Int → xMe → Prop
  | 0, _, _, _, _ => False
  | k + 1, x1, x3, x4, M =>
    (((M (a + 49) 4) ≤ x4 → K256 x1 x3 M) ∧ (x4 < (M (a + 49) 4) → p_X11_tokens a x3 x4 M (fun r229 M229 => p_X11_queue a x3 x4 M229 (fun r244 M244 => (xR (x4 + 1)) ∧ p_X11_checksum_205 F a Q K256 k ((31 * ((31 * x1) + r229)) + r244) x3 (x4 + 1) M244) (fun _ _ => False)) (fun _ _ => False)))
def p_X11_checksum_188 (F : Nat) (a : Nat) (Q : Int → xMe → Prop) : Nat → Int → Int → xMe → Prop
  | 0, _, _, _ => False
  | k + 1, x1, x3, M =>
    (((M (a + 45) 3) ≤ x3 → Q x1 M) ∧ (x3 < (M (a + 45) 3) → p_X11_checksum_205 F a Q (fun y1 y3 M => (xR (y3 + 1)) ∧ p_X11_checksum_188 F a Q k y1 (y3 + 1) M) F x1 x3 0 M))
def p_X11_checksum (F : Nat) (a : Nat) (M : xMe) (Q : Int → xMe → Prop) : Prop :=
  p_X11_checksum_4 F a Q (fun y1 M => p_X11_checksum_31 F a Q (fun y1 M => p_X11_checksum_83 F a Q (fun y1 M => p_X11_checksum_136 F a Q (fun y1 M => p_X11_checksum_188 F a Q F y1 0 M) F y1 0 M) F y1 0 M) F y1 0 M) F 0 0 M
set_option maxHeartbeats 4000000 in
set_option maxRecDepth 100000 in
theorem c_X11_checksum {G : xGx} {t : xTh} {M : xMe} {F : Nat} {a : Nat} {Q : Int → xMe → Prop} (hL : oX11 t a) (hM : xMR M)(hp : p_X11_checksum F a M Q) : xCt G yX11_checksum cX11_checksum 5 (some .long) 3 0 0 [vr a] t M (fun v t' M' => ∃ r, v = some (vl r) ∧ xMR M' ∧ t' = t ∧ Q r M') (fun _ _ _ => False) := by
  refine xCt_of (L0 := [vr a, vU, vU, vU, vU]) (by decide +kernel) (Nat.le_of_ble_eq_true rfl) rfl ?_
  intro X hX hB
  unfold p_X11_checksum at hp
  refine xJ_lconst hX dX11_checksum_0 ?_
  refine xJ_lstore_n hX dX11_checksum_1 (Nat.le_of_ble_eq_true rfl) rfl ?_
  dsimp only [List.set]
  refine xJ_iconst hX dX11_checksum_2 ?_
  refine xJ_istore_n hX dX11_checksum_3 (Nat.le_of_ble_eq_true rfl) rfl ?_
  dsimp only [List.set]
  have lp4 : ∀ (K29 : Int → xMe → Prop) (hK29 : ∀ (y1 : Int) (M : xMe) (hM : xMR M) (hp : K29 y1 M), xJ X 0 0 t M 29 [vr a, vl y1, vU, vU, vU] []) (k : Nat) (x1 : Int) (x3 : Int) (M : xMe) (hM : xMR M) (hx3 : xR x3) (hp : p_X11_checksum_4 F a Q K29 k x1 x3 M), xJ X 0 0 t M 4 [vr a, vl x1, vU, vi x3, vU] [] := by
    intro K29 hK29 k
    induction k with
    | zero => intro x1 x3 M hM hx3 hp; exact hp.elim
    | succ k ih =>
      intro x1 x3 M hM hx3 hp
      unfold p_X11_checksum_4 at hp
      refine xJ_iload_n hX dX11_checksum_4 rfl ?_
      refine xJ_bipush hX dX11_checksum_5 rfl ?_
      refine xJ_icmp_gt hX dX11_checksum_7 (tgt := 29) (by decide) hx3 ⟨by decide, by decide⟩ (fun c7 => ?_) (fun c7 => ?_)
      · replace hp := hp.1 c7
        refine xJ_fg 3 ?_
        dsimp only [List.set]
        exact hK29 _ _ hM hp
      · replace hp := hp.2 c7
        refine xJ_ldc2 (31) hX dX11_checksum_10 kc_X11_260 ?_
        refine xJ_lload_n hX dX11_checksum_13 rfl ?_
        refine xJ_lmul hX dX11_checksum_14 ?_
        refine xJ_aload_n hX dX11_checksum_15 rfl ?_
        refine xJ_iload_n hX dX11_checksum_16 rfl ?_
        refine xJ_callV (As := [_]) hX hB dX11_checksum_17 lk_X11_262 im_X11_state se_X11_state rfl (by decide) (oX11_k hL) (c0_X11_state hL hM hx3 hp) (by decide) rfl rfl rfl (Nat.le_of_ble_eq_true rfl) (by decide) (by decide) (fun v t9 M17 hv => ?_) (fun _ _ _ q => q.elim)
        obtain ⟨r17, rfl, h17, hM17, ht9, hp⟩ := hv
        replace ht9 := ht9.symm
        subst ht9
        dsimp only [Option.toList, List.cons_append, List.nil_append]
        refine xJ_i2l hX dX11_checksum_20 h17 ?_
        refine xJ_ladd hX dX11_checksum_21 ?_
        refine xJ_lstore_n hX dX11_checksum_22 (Nat.le_of_ble_eq_true rfl) rfl ?_
        dsimp only [List.set]
        refine xJ_iinc hX dX11_checksum_23 rfl rfl ?_
        dsimp only [List.set]
        obtain ⟨h23, hp⟩ := hp
        refine xJ_goto hX dX11_checksum_26 (tgt := 4) (by decide) ?_
        exact ih _ _ _ hM17 h23 hp
  refine lp4 _ (fun y1 M hM hp => ?_) F _ _ _ hM ⟨by decide, by decide⟩ hp
  · refine xJ_iconst hX dX11_checksum_29 ?_
    refine xJ_istore_n hX dX11_checksum_30 (Nat.le_of_ble_eq_true rfl) rfl ?_
    dsimp only [List.set]
    have lp31 : ∀ (K81 : Int → xMe → Prop) (hK81 : ∀ (y1 : Int) (M : xMe) (hM : xMR M) (hp : K81 y1 M), xJ X 0 0 t M 81 [vr a, vl y1, vU, vU, vU] []) (k : Nat) (x1 : Int) (x3 : Int) (M : xMe) (hM : xMR M) (hx3 : xR x3) (hp : p_X11_checksum_31 F a Q K81 k x1 x3 M), xJ X 0 0 t M 31 [vr a, vl x1, vU, vi x3, vU] [] := by
      intro K81 hK81 k
      induction k with
      | zero => intro x1 x3 M hM hx3 hp; exact hp.elim
      | succ k ih =>
        intro x1 x3 M hM hx3 hp
        unfold p_X11_checksum_31 at hp
        refine xJ_iload_n hX dX11_checksum_31 rfl ?_
        refine xJ_aload_n hX dX11_checksum_32 rfl ?_
        refine xJ_getR (b := (a + 44)) hX dX11_checksum_33 fd_X11_19 rfl (oX11_k hL) (oX11_r1 hL) ?_
        refine xJ_getR (b := (a + 49)) hX dX11_checksum_36 fd_X11_93 rfl (oX10_k (oX11_o1 hL)) (oX10_r1 (oX11_o1 hL)) ?_
        refine xJ_getI hX dX11_checksum_39 fd_X11_97 rfl (oX1_k (oX10_o1 (oX11_o1 hL))) ?_
        refine xJ_icmp_ge hX dX11_checksum_42 (tgt := 81) (by decide) hx3 (hM _ _) (fun c42 => ?_) (fun c42 => ?_)
        · replace hp := hp.1 c42
          refine xJ_fg 3 ?_
          dsimp only [List.set]
          exact hK81 _ _ hM hp
        · replace hp := hp.2 c42
          refine xJ_iconst hX dX11_checksum_45 ?_
          refine xJ_istore hX dX11_checksum_46 (Nat.le_of_ble_eq_true rfl) rfl ?_
          dsimp only [List.set]
          have lp48 : ∀ (K75 : Int → Int → xMe → Prop) (hK75 : ∀ (y1 : Int) (y3 : Int) (M : xMe) (hM : xMR M) (hy3 : xR y3) (hp : K75 y1 y3 M), xJ X 0 0 t M 75 [vr a, vl y1, vU, vi y3, vU] []) (k : Nat) (x1 : Int) (x3 : Int) (x4 : Int) (M : xMe) (hM : xMR M) (hx3 : xR x3) (hx4 : xR x4) (hp : p_X11_checksum_48 F a Q K75 k x1 x3 x4 M), xJ X 0 0 t M 48 [vr a, vl x1, vU, vi x3, vi x4] [] := by
            intro K75 hK75 k
            induction k with
            | zero => intro x1 x3 x4 M hM hx3 hx4 hp; exact hp.elim
            | succ k ih =>
              intro x1 x3 x4 M hM hx3 hx4 hp
              unfold p_X11_checksum_48 at hp
              refine xJ_iload hX dX11_checksum_48 rfl ?_
              refine xJ_iconst hX dX11_checksum_50 ?_
              refine xJ_icmp_gt hX dX11_checksum_51 (tgt := 75) (by decide) hx4 ⟨by decide, by decide⟩ (fun c51 => ?_) (fun c51 => ?_)
              · replace hp := hp.1 c51
                refine xJ_fg 4 ?_
                dsimp only [List.set]
                exact hK75 _ _ _ hM hx3 hp
              · replace hp := hp.2 c51
                refine xJ_ldc2 (31) hX dX11_checksum_54 kc_X11_260 ?_
                refine xJ_lload_n hX dX11_checksum_57 rfl ?_
                refine xJ_lmul hX dX11_checksum_58 ?_
                refine xJ_aload_n hX dX11_checksum_59 rfl ?_
                refine xJ_iload_n hX dX11_checksum_60 rfl ?_
                refine xJ_iload hX dX11_checksum_61 rfl ?_
                refine xJ_callV (As := [_, _]) hX hB dX11_checksum_63 lk_X11_264 im_X11_flow se_X11_flow rfl (by decide) (oX11_k hL) (c0_X11_flow hL hM hx3 hx4 hp) (by decide) rfl rfl rfl (Nat.le_of_ble_eq_true rfl) (by decide) (by decide) (fun v t9 M63 hv => ?_) (fun _ _ _ q => q.elim)
                obtain ⟨r63, rfl, h63, hM63, ht9, hp⟩ := hv
                replace ht9 := ht9.symm
                subst ht9
                dsimp only [Option.toList, List.cons_append, List.nil_append]
                refine xJ_i2l hX dX11_checksum_66 h63 ?_
                refine xJ_ladd hX dX11_checksum_67 ?_
                refine xJ_lstore_n hX dX11_checksum_68 (Nat.le_of_ble_eq_true rfl) rfl ?_
                dsimp only [List.set]
                refine xJ_iinc hX dX11_checksum_69 rfl rfl ?_
                dsimp only [List.set]
                obtain ⟨h69, hp⟩ := hp
                refine xJ_goto hX dX11_checksum_72 (tgt := 48) (by decide) ?_
                exact ih _ _ _ _ hM63 hx3 h69 hp
          refine lp48 _ (fun y1 y3 M hM hy3 hp => ?_) F _ _ _ _ hM hx3 ⟨by decide, by decide⟩ hp
          · refine xJ_iinc hX dX11_checksum_75 rfl rfl ?_
            dsimp only [List.set]
            obtain ⟨h75, hp⟩ := hp
            refine xJ_goto hX dX11_checksum_78 (tgt := 31) (by decide) ?_
            exact ih _ _ _ hM h75 hp
    refine lp31 _ (fun y1 M hM hp => ?_) F _ _ _ hM ⟨by decide, by decide⟩ hp
    · refine xJ_iconst hX dX11_checksum_81 ?_
      refine xJ_istore_n hX dX11_checksum_82 (Nat.le_of_ble_eq_true rfl) rfl ?_
      dsimp only [List.set]
      have lp83 : ∀ (K134 : Int → xMe → Prop) (hK134 : ∀ (y1 : Int) (M : xMe) (hM : xMR M) (hp : K134 y1 M), xJ X 0 0 t M 134 [vr a, vl y1, vU, vU, vU] []) (k : Nat) (x1 : Int) (x3 : Int) (M : xMe) (hM : xMR M) (hx3 : xR x3) (hp : p_X11_checksum_83 F a Q K134 k x1 x3 M), xJ X 0 0 t M 83 [vr a, vl x1, vU, vi x3, vU] [] := by
        intro K134 hK134 k
        induction k with
        | zero => intro x1 x3 M hM hx3 hp; exact hp.elim
        | succ k ih =>
          intro x1 x3 M hM hx3 hp
          unfold p_X11_checksum_83 at hp
          refine xJ_iload_n hX dX11_checksum_83 rfl ?_
          refine xJ_aload_n hX dX11_checksum_84 rfl ?_
          refine xJ_getR (b := (a + 44)) hX dX11_checksum_85 fd_X11_19 rfl (oX11_k hL) (oX11_r1 hL) ?_
          refine xJ_getR (b := (a + 60)) hX dX11_checksum_88 fd_X11_74 rfl (oX10_k (oX11_o1 hL)) (oX10_r3 (oX11_o1 hL)) ?_
          refine xJ_getI hX dX11_checksum_91 fd_X11_78 rfl (oX5_k (oX10_o3 (oX11_o1 hL))) ?_
          refine xJ_icmp_ge hX dX11_checksum_94 (tgt := 134) (by decide) hx3 (hM _ _) (fun c94 => ?_) (fun c94 => ?_)
          · replace hp := hp.1 c94
            refine xJ_fg 3 ?_
            dsimp only [List.set]
            exact hK134 _ _ hM hp
          · replace hp := hp.2 c94
            refine xJ_iconst hX dX11_checksum_97 ?_
            refine xJ_istore hX dX11_checksum_98 (Nat.le_of_ble_eq_true rfl) rfl ?_
            dsimp only [List.set]
            have lp100 : ∀ (K128 : Int → Int → xMe → Prop) (hK128 : ∀ (y1 : Int) (y3 : Int) (M : xMe) (hM : xMR M) (hy3 : xR y3) (hp : K128 y1 y3 M), xJ X 0 0 t M 128 [vr a, vl y1, vU, vi y3, vU] []) (k : Nat) (x1 : Int) (x3 : Int) (x4 : Int) (M : xMe) (hM : xMR M) (hx3 : xR x3) (hx4 : xR x4) (hp : p_X11_checksum_100 F a Q K128 k x1 x3 x4 M), xJ X 0 0 t M 100 [vr a, vl x1, vU, vi x3, vi x4] [] := by
              intro K128 hK128 k
              induction k with
              | zero => intro x1 x3 x4 M hM hx3 hx4 hp; exact hp.elim
              | succ k ih =>
                intro x1 x3 x4 M hM hx3 hx4 hp
                unfold p_X11_checksum_100 at hp
                refine xJ_iload hX dX11_checksum_100 rfl ?_
                refine xJ_bipush hX dX11_checksum_102 rfl ?_
                refine xJ_icmp_gt hX dX11_checksum_104 (tgt := 128) (by decide) hx4 ⟨by decide, by decide⟩ (fun c104 => ?_) (fun c104 => ?_)
                · replace hp := hp.1 c104
                  refine xJ_fg 4 ?_
                  dsimp only [List.set]
                  exact hK128 _ _ _ hM hx3 hp
                · replace hp := hp.2 c104
                  refine xJ_ldc2 (31) hX dX11_checksum_107 kc_X11_260 ?_
                  refine xJ_lload_n hX dX11_checksum_110 rfl ?_
                  refine xJ_lmul hX dX11_checksum_111 ?_
                  refine xJ_aload_n hX dX11_checksum_112 rfl ?_
                  refine xJ_iload_n hX dX11_checksum_113 rfl ?_
                  refine xJ_iload hX dX11_checksum_114 rfl ?_
                  refine xJ_callV (As := [_, _]) hX hB dX11_checksum_116 lk_X11_266 im_X11_packet se_X11_packet rfl (by decide) (oX11_k hL) (c0_X11_packet hL hM hx3 hx4 hp) (by decide) rfl rfl rfl (Nat.le_of_ble_eq_true rfl) (by decide) (by decide) (fun v t9 M116 hv => ?_) (fun _ _ _ q => q.elim)
                  obtain ⟨r116, rfl, h116, hM116, ht9, hp⟩ := hv
                  replace ht9 := ht9.symm
                  subst ht9
                  dsimp only [Option.toList, List.cons_append, List.nil_append]
                  refine xJ_i2l hX dX11_checksum_119 h116 ?_
                  refine xJ_ladd hX dX11_checksum_120 ?_
                  refine xJ_lstore_n hX dX11_checksum_121 (Nat.le_of_ble_eq_true rfl) rfl ?_
                  dsimp only [List.set]
                  refine xJ_iinc hX dX11_checksum_122 rfl rfl ?_
                  dsimp only [List.set]
                  obtain ⟨h122, hp⟩ := hp
                  refine xJ_goto hX dX11_checksum_125 (tgt := 100) (by decide) ?_
                  exact ih _ _ _ _ hM116 hx3 h122 hp
            refine lp100 _ (fun y1 y3 M hM hy3 hp => ?_) F _ _ _ _ hM hx3 ⟨by decide, by decide⟩ hp
            · refine xJ_iinc hX dX11_checksum_128 rfl rfl ?_
              dsimp only [List.set]
              obtain ⟨h128, hp⟩ := hp
              refine xJ_goto hX dX11_checksum_131 (tgt := 83) (by decide) ?_
              exact ih _ _ _ hM h128 hp
      refine lp83 _ (fun y1 M hM hp => ?_) F _ _ _ hM ⟨by decide, by decide⟩ hp
      · refine xJ_iconst hX dX11_checksum_134 ?_
        refine xJ_istore_n hX dX11_checksum_135 (Nat.le_of_ble_eq_true rfl) rfl ?_
        dsimp only [List.set]
        have lp136 : ∀ (K186 : Int → xMe → Prop) (hK186 : ∀ (y1 : Int) (M : xMe) (hM : xMR M) (hp : K186 y1 M), xJ X 0 0 t M 186 [vr a, vl y1, vU, vU, vU] []) (k : Nat) (x1 : Int) (x3 : Int) (M : xMe) (hM : xMR M) (hx3 : xR x3) (hp : p_X11_checksum_136 F a Q K186 k x1 x3 M), xJ X 0 0 t M 136 [vr a, vl x1, vU, vi x3, vU] [] := by
          intro K186 hK186 k
          induction k with
          | zero => intro x1 x3 M hM hx3 hp; exact hp.elim
          | succ k ih =>
            intro x1 x3 M hM hx3 hp
            unfold p_X11_checksum_136 at hp
            refine xJ_iload_n hX dX11_checksum_136 rfl ?_
            refine xJ_aload_n hX dX11_checksum_137 rfl ?_
            refine xJ_getR (b := (a + 44)) hX dX11_checksum_138 fd_X11_19 rfl (oX11_k hL) (oX11_r1 hL) ?_
            refine xJ_getR (b := (a + 69)) hX dX11_checksum_141 fd_X11_100 rfl (oX10_k (oX11_o1 hL)) (oX10_r4 (oX11_o1 hL)) ?_
            refine xJ_getI hX dX11_checksum_144 fd_X11_104 rfl (oX0_k (oX10_o4 (oX11_o1 hL))) ?_
            refine xJ_icmp_ge hX dX11_checksum_147 (tgt := 186) (by decide) hx3 (hM _ _) (fun c147 => ?_) (fun c147 => ?_)
            · replace hp := hp.1 c147
              refine xJ_fg 3 ?_
              dsimp only [List.set]
              exact hK186 _ _ hM hp
            · replace hp := hp.2 c147
              refine xJ_iconst hX dX11_checksum_150 ?_
              refine xJ_istore hX dX11_checksum_151 (Nat.le_of_ble_eq_true rfl) rfl ?_
              dsimp only [List.set]
              have lp153 : ∀ (K180 : Int → Int → xMe → Prop) (hK180 : ∀ (y1 : Int) (y3 : Int) (M : xMe) (hM : xMR M) (hy3 : xR y3) (hp : K180 y1 y3 M), xJ X 0 0 t M 180 [vr a, vl y1, vU, vi y3, vU] []) (k : Nat) (x1 : Int) (x3 : Int) (x4 : Int) (M : xMe) (hM : xMR M) (hx3 : xR x3) (hx4 : xR x4) (hp : p_X11_checksum_153 F a Q K180 k x1 x3 x4 M), xJ X 0 0 t M 153 [vr a, vl x1, vU, vi x3, vi x4] [] := by
                intro K180 hK180 k
                induction k with
                | zero => intro x1 x3 x4 M hM hx3 hx4 hp; exact hp.elim
                | succ k ih =>
                  intro x1 x3 x4 M hM hx3 hx4 hp
                  unfold p_X11_checksum_153 at hp
                  refine xJ_iload hX dX11_checksum_153 rfl ?_
                  refine xJ_iconst hX dX11_checksum_155 ?_
                  refine xJ_icmp_gt hX dX11_checksum_156 (tgt := 180) (by decide) hx4 ⟨by decide, by decide⟩ (fun c156 => ?_) (fun c156 => ?_)
                  · replace hp := hp.1 c156
                    refine xJ_fg 4 ?_
                    dsimp only [List.set]
                    exact hK180 _ _ _ hM hx3 hp
                  · replace hp := hp.2 c156
                    refine xJ_ldc2 (31) hX dX11_checksum_159 kc_X11_260 ?_
                    refine xJ_lload_n hX dX11_checksum_162 rfl ?_
                    refine xJ_lmul hX dX11_checksum_163 ?_
                    refine xJ_aload_n hX dX11_checksum_164 rfl ?_
                    refine xJ_iload_n hX dX11_checksum_165 rfl ?_
                    refine xJ_iload hX dX11_checksum_166 rfl ?_
                    refine xJ_callV (As := [_, _]) hX hB dX11_checksum_168 lk_X11_269 im_X11_coupon se_X11_coupon rfl (by decide) (oX11_k hL) (c0_X11_coupon hL hM hx3 hx4 hp) (by decide) rfl rfl rfl (Nat.le_of_ble_eq_true rfl) (by decide) (by decide) (fun v t9 M168 hv => ?_) (fun _ _ _ q => q.elim)
                    obtain ⟨r168, rfl, h168, hM168, ht9, hp⟩ := hv
                    replace ht9 := ht9.symm
                    subst ht9
                    dsimp only [Option.toList, List.cons_append, List.nil_append]
                    refine xJ_i2l hX dX11_checksum_171 h168 ?_
                    refine xJ_ladd hX dX11_checksum_172 ?_
                    refine xJ_lstore_n hX dX11_checksum_173 (Nat.le_of_ble_eq_true rfl) rfl ?_
                    dsimp only [List.set]
                    refine xJ_iinc hX dX11_checksum_174 rfl rfl ?_
                    dsimp only [List.set]
                    obtain ⟨h174, hp⟩ := hp
                    refine xJ_goto hX dX11_checksum_177 (tgt := 153) (by decide) ?_
                    exact ih _ _ _ _ hM168 hx3 h174 hp
              refine lp153 _ (fun y1 y3 M hM hy3 hp => ?_) F _ _ _ _ hM hx3 ⟨by decide, by decide⟩ hp
              · refine xJ_iinc hX dX11_checksum_180 rfl rfl ?_
                dsimp only [List.set]
                obtain ⟨h180, hp⟩ := hp
                refine xJ_goto hX dX11_checksum_183 (tgt := 136) (by decide) ?_
                exact ih _ _ _ hM h180 hp
        refine lp136 _ (fun y1 M hM hp => ?_) F _ _ _ hM ⟨by decide, by decide⟩ hp
        · refine xJ_iconst hX dX11_checksum_186 ?_
          refine xJ_istore_n hX dX11_checksum_187 (Nat.le_of_ble_eq_true rfl) rfl ?_
          dsimp only [List.set]
          have lp188 : ∀ (k : Nat) (x1 : Int) (x3 : Int) (M : xMe) (hM : xMR M) (hx3 : xR x3) (hp : p_X11_checksum_188 F a Q k x1 x3 M), xJ X 0 0 t M 188 [vr a, vl x1, vU, vi x3, vU] [] := by
            intro k
            induction k with
            | zero => intro x1 x3 M hM hx3 hp; exact hp.elim
            | succ k ih =>
              intro x1 x3 M hM hx3 hp
              unfold p_X11_checksum_188 at hp
              refine xJ_iload_n hX dX11_checksum_188 rfl ?_
              refine xJ_aload_n hX dX11_checksum_189 rfl ?_
              refine xJ_getR (b := (a + 44)) hX dX11_checksum_190 fd_X11_19 rfl (oX11_k hL) (oX11_r1 hL) ?_
              refine xJ_getR (b := (a + 45)) hX dX11_checksum_193 fd_X11_86 rfl (oX10_k (oX11_o1 hL)) (oX10_r0 (oX11_o1 hL)) ?_
              refine xJ_getI hX dX11_checksum_196 fd_X11_90 rfl (oX2_k (oX10_o0 (oX11_o1 hL))) ?_
              refine xJ_icmp_ge hX dX11_checksum_199 (tgt := 262) (by decide) hx3 (hM _ _) (fun c199 => ?_) (fun c199 => ?_)
              · replace hp := hp.1 c199
                refine xJ_lload_n hX dX11_checksum_262 rfl ?_
                refine xJ_lret hX hB dX11_checksum_263 (by decide) (by decide) ⟨_, rfl, hM, rfl, hp⟩
              · replace hp := hp.2 c199
                refine xJ_iconst hX dX11_checksum_202 ?_
                refine xJ_istore hX dX11_checksum_203 (Nat.le_of_ble_eq_true rfl) rfl ?_
                dsimp only [List.set]
                have lp205 : ∀ (K256 : Int → Int → xMe → Prop) (hK256 : ∀ (y1 : Int) (y3 : Int) (M : xMe) (hM : xMR M) (hy3 : xR y3) (hp : K256 y1 y3 M), xJ X 0 0 t M 256 [vr a, vl y1, vU, vi y3, vU] []) (k : Nat) (x1 : Int) (x3 : Int) (x4 : Int) (M : xMe) (hM : xMR M) (hx3 : xR x3) (hx4 : xR x4) (hp : p_X11_checksum_205 F a Q K256 k x1 x3 x4 M), xJ X 0 0 t M 205 [vr a, vl x1, vU, vi x3, vi x4] [] := by
                  intro K256 hK256 k
                  induction k with
                  | zero => intro x1 x3 x4 M hM hx3 hx4 hp; exact hp.elim
                  | succ k ih =>
                    intro x1 x3 x4 M hM hx3 hx4 hp
                    unfold p_X11_checksum_205 at hp
                    refine xJ_iload hX dX11_checksum_205 rfl ?_
                    refine xJ_aload_n hX dX11_checksum_207 rfl ?_
                    refine xJ_getR (b := (a + 44)) hX dX11_checksum_208 fd_X11_19 rfl (oX11_k hL) (oX11_r1 hL) ?_
                    refine xJ_getR (b := (a + 49)) hX dX11_checksum_211 fd_X11_93 rfl (oX10_k (oX11_o1 hL)) (oX10_r1 (oX11_o1 hL)) ?_
                    refine xJ_getI hX dX11_checksum_214 fd_X11_97 rfl (oX1_k (oX10_o1 (oX11_o1 hL))) ?_
                    refine xJ_icmp_ge hX dX11_checksum_217 (tgt := 256) (by decide) hx4 (hM _ _) (fun c217 => ?_) (fun c217 => ?_)
                    · replace hp := hp.1 c217
                      refine xJ_fg 4 ?_
                      dsimp only [List.set]
                      exact hK256 _ _ _ hM hx3 hp
                    · replace hp := hp.2 c217
                      refine xJ_ldc2 (31) hX dX11_checksum_220 kc_X11_260 ?_
                      refine xJ_lload_n hX dX11_checksum_223 rfl ?_
                      refine xJ_lmul hX dX11_checksum_224 ?_
                      refine xJ_aload_n hX dX11_checksum_225 rfl ?_
                      refine xJ_iload_n hX dX11_checksum_226 rfl ?_
                      refine xJ_iload hX dX11_checksum_227 rfl ?_
                      refine xJ_callV (As := [_, _]) hX hB dX11_checksum_229 lk_X11_272 im_X11_tokens se_X11_tokens rfl (by decide) (oX11_k hL) (c0_X11_tokens hL hM hx3 hx4 hp) (by decide) rfl rfl rfl (Nat.le_of_ble_eq_true rfl) (by decide) (by decide) (fun v t9 M229 hv => ?_) (fun _ _ _ q => q.elim)
                      obtain ⟨r229, rfl, h229, hM229, ht9, hp⟩ := hv
                      replace ht9 := ht9.symm
                      subst ht9
                      dsimp only [Option.toList, List.cons_append, List.nil_append]
                      refine xJ_i2l hX dX11_checksum_232 h229 ?_
                      refine xJ_ladd hX dX11_checksum_233 ?_
                      refine xJ_lstore_n hX dX11_checksum_234 (Nat.le_of_ble_eq_true rfl) rfl ?_
                      dsimp only [List.set]
                      refine xJ_ldc2 (31) hX dX11_checksum_235 kc_X11_260 ?_
                      refine xJ_lload_n hX dX11_checksum_238 rfl ?_
                      refine xJ_lmul hX dX11_checksum_239 ?_
                      refine xJ_aload_n hX dX11_checksum_240 rfl ?_
                      refine xJ_iload_n hX dX11_checksum_241 rfl ?_
                      refine xJ_iload hX dX11_checksum_242 rfl ?_
                      refine xJ_callV (As := [_, _]) hX hB dX11_checksum_244 lk_X11_274 im_X11_queue se_X11_queue rfl (by decide) (oX11_k hL) (c0_X11_queue hL hM229 hx3 hx4 hp) (by decide) rfl rfl rfl (Nat.le_of_ble_eq_true rfl) (by decide) (by decide) (fun v t9 M244 hv => ?_) (fun _ _ _ q => q.elim)
                      obtain ⟨r244, rfl, h244, hM244, ht9, hp⟩ := hv
                      replace ht9 := ht9.symm
                      subst ht9
                      dsimp only [Option.toList, List.cons_append, List.nil_append]
                      refine xJ_i2l hX dX11_checksum_247 h244 ?_
                      refine xJ_ladd hX dX11_checksum_248 ?_
                      refine xJ_lstore_n hX dX11_checksum_249 (Nat.le_of_ble_eq_true rfl) rfl ?_
                      dsimp only [List.set]
                      refine xJ_iinc hX dX11_checksum_250 rfl rfl ?_
                      dsimp only [List.set]
                      obtain ⟨h250, hp⟩ := hp
                      refine xJ_goto hX dX11_checksum_253 (tgt := 205) (by decide) ?_
                      exact ih _ _ _ _ hM244 hx3 h250 hp
                refine lp205 _ (fun y1 y3 M hM hy3 hp => ?_) F _ _ _ _ hM hx3 ⟨by decide, by decide⟩ hp
                · refine xJ_iinc hX dX11_checksum_256 rfl rfl ?_
                  dsimp only [List.set]
                  obtain ⟨h256, hp⟩ := hp
                  refine xJ_goto hX dX11_checksum_259 (tgt := 188) (by decide) ?_
                  exact ih _ _ _ hM h256 hp
          refine lp188 F _ _ _ hM ⟨by decide, by decide⟩ hp
def p_X11_load (F : Nat) (t : xTh) (a : Nat) (x1 : Int) (M : xMe) (Q : Int → xTh → xMe → Prop) (E : String → xMe → Prop) : Prop :=
  ((x1 < 0 → E "java/lang/IllegalArgumentException" M) ∧ (0 ≤ x1 → ((x1 ≤ (M (a + 2) 1) → p_X8_read F t (a + 1) x1 M (fun t33 M33 => (∀ M44 : xMe, M44 = xw M33 (a + 2) 1 0 → (∀ M55 : xMe, M55 = xw M44 a 4 (M44 (a + 1) 3) → (((M55 (a + 1) 2) = 0 → p_X3_keep t33 (a + 122) (a + 44) M55 (fun t84 M84 => p_X10_copyFrom t84 (a + 44) (a + 4) M84 (fun t98 M98 => Q (M98 (a + 60) 8) t98 M98))) ∧ ((M55 (a + 1) 2) ≠ 0 → Q (M55 (a + 1) 2) t33 M55)))))) ∧ ((M (a + 2) 1) < x1 → E "java/lang/IllegalArgumentException" M))))
set_option maxHeartbeats 4000000 in
set_option maxRecDepth 100000 in
theorem c_X11_load {G : xGx} {t : xTh} {M : xMe} {F : Nat} {a : Nat} {x1 : Int} {Q : Int → xTh → xMe → Prop} {E : String → xMe → Prop} (hL : oX11 t a) (hXQ : oXQ t a) (hM : xMR M) (hx1 : xR x1) (hp : p_X11_load F t a x1 M Q E) : xCt G yX11_load cX11_load 2 (some .int) 115 6 1027 [vr a, vi x1] t M (fun v t' M' => ∃ r, v = some (vi r) ∧ xR r ∧ xMR M' ∧ xqs t t' ∧ True ∧ Q r t' M') (fun cls t' M' => (∃ z, t' = (z, t.2)) ∧ xMR M' ∧ E cls M') := by
  refine xCt_of (L0 := [vr a, vi x1]) (by decide +kernel) (Nat.le_of_ble_eq_true rfl) rfl ?_
  intro X hX hB
  unfold p_X11_load at hp
  refine xJ_iload_n hX dX11_load_0 rfl ?_
  refine xJ_if_lt hX dX11_load_1 (tgt := 18) (by decide) hx1 (fun c1 => ?_) (fun c1 => ?_)
  · replace hp := hp.1 c1
    refine xJ_throw (i := 17) hX hB dX11_load_18 dX11_load_21 dX11_load_22 dX11_load_24 dX11_load_27 tw_X11_54 kl_X11_50 (by decide +kernel) (by decide +kernel) rfl (by decide) (Nat.le_of_ble_eq_true rfl) (by decide) (by decide) (fun z _ => ⟨⟨z, rfl⟩, hM, hp⟩)
  · replace hp := hp.2 c1
    refine xJ_iload_n hX dX11_load_4 rfl ?_
    refine xJ_aload_n hX dX11_load_5 rfl ?_
    refine xJ_getR (b := (a + 1)) hX dX11_load_6 fd_X11_10 rfl (oX11_k hL) (oX11_r0 hL) ?_
    refine xJ_getR (b := (a + 2)) hX dX11_load_9 fd_X11_37 rfl (oX8_k (oX11_o0 hL)) (oX8_r0 (oX11_o0 hL)) ?_
    refine xJ_getI hX dX11_load_12 fd_X11_41 rfl (oX9_k (oX8_o0 (oX11_o0 hL))) ?_
    refine xJ_icmp_le hX dX11_load_15 (tgt := 28) (by decide) hx1 (hM _ _) (fun c15 => ?_) (fun c15 => ?_)
    · replace hp := hp.1 c15
      refine xJ_aload_n hX dX11_load_28 rfl ?_
      refine xJ_getR (b := (a + 1)) hX dX11_load_29 fd_X11_10 rfl (oX11_k hL) (oX11_r0 hL) ?_
      refine xJ_iload_n hX dX11_load_32 rfl ?_
      refine xJ_callV (As := [_]) hX hB dX11_load_33 lk_X11_57 im_X8_read se_X8_read rfl (by decide) (oX8_k (oX11_o0 hL)) (c_X8_read (oX11_o0 hL) hM hx1 hp) (by decide) rfl rfl rfl (Nat.le_of_ble_eq_true rfl) (by decide) (by decide) (fun v t33 M33 hv => ?_) (fun _ _ _ q => q.elim)
      obtain ⟨rfl, hM33, hq33, et33, hp⟩ := hv
      have hL33_0 := (oX11_le hq33.1 hL)
      have hxq33_0 := (oXQ_le hq33 hL hXQ)
      dsimp only [Option.toList, List.cons_append, List.nil_append]
      refine xJ_aload_n hX dX11_load_36 rfl ?_
      refine xJ_getR (b := (a + 1)) hX dX11_load_37 fd_X11_10 rfl (oX11_k hL33_0) (oX11_r0 hL33_0) ?_
      refine xJ_getR (b := (a + 2)) hX dX11_load_40 fd_X11_37 rfl (oX8_k (oX11_o0 hL33_0)) (oX8_r0 (oX11_o0 hL33_0)) ?_
      refine xJ_iconst hX dX11_load_43 ?_
      refine xJ_putIM hX dX11_load_44 fd_X11_41 ft_X9 rfl rfl rfl rfl (oX9_k (oX8_o0 (oX11_o0 hL33_0))) hM33 ⟨by decide, by decide⟩ (fun M44 e44 hM44 => ?_)
      replace hp := hp M44 e44
      refine xJ_aload_n hX dX11_load_47 rfl ?_
      refine xJ_aload_n hX dX11_load_48 rfl ?_
      refine xJ_getR (b := (a + 1)) hX dX11_load_49 fd_X11_10 rfl (oX11_k hL33_0) (oX11_r0 hL33_0) ?_
      refine xJ_getI hX dX11_load_52 fd_X11_60 rfl (oX8_k (oX11_o0 hL33_0)) ?_
      refine xJ_putIM hX dX11_load_55 fd_X11_33 ft_X11 rfl rfl rfl rfl (oX11_k hL33_0) hM44 (hM44 _ _) (fun M55 e55 hM55 => ?_)
      replace hp := hp M55 e55
      refine xJ_aload_n hX dX11_load_58 rfl ?_
      refine xJ_getR (b := (a + 1)) hX dX11_load_59 fd_X11_10 rfl (oX11_k hL33_0) (oX11_r0 hL33_0) ?_
      refine xJ_getI hX dX11_load_62 fd_X11_61 rfl (oX8_k (oX11_o0 hL33_0)) ?_
      refine xJ_if_eq hX dX11_load_65 (tgt := 76) (by decide) (hM55 _ _) (fun c65 => ?_) (fun c65 => ?_)
      · replace hp := hp.1 c65
        refine xJ_aload_n hX dX11_load_76 rfl ?_
        refine xJ_getR (b := (a + 122)) hX dX11_load_77 fd_X11_29 rfl (oX11_k hL33_0) (oX11_r3 hL33_0) ?_
        refine xJ_aload_n hX dX11_load_80 rfl ?_
        refine xJ_getR (b := (a + 44)) hX dX11_load_81 fd_X11_19 rfl (oX11_k hL33_0) (oX11_r1 hL33_0) ?_
        refine xJ_callV (As := [_]) hX hB dX11_load_84 lk_X11_64 im_X3_keep se_X3_keep rfl (by decide) (oX3_k (oX11_o3 hL33_0)) (c_X3_keep (oX11_o3 hL33_0) (oX11_o1 hL33_0) (oXQ_1 hxq33_0) hM55 hp) (by decide) rfl rfl rfl (Nat.le_of_ble_eq_true rfl) (by decide) (by decide) (fun v t84 M84 hv => ?_) (fun _ _ _ q => q.elim)
        obtain ⟨rfl, hM84, hq84, et84, hp⟩ := hv
        have hL84_0 := (oX11_le hq84.1 hL33_0)
        have hxq84_0 := (oXQ_le hq84 hL33_0 hxq33_0)
        dsimp only [Option.toList, List.cons_append, List.nil_append]
        refine xJ_aload_n hX dX11_load_87 rfl ?_
        refine xJ_getR (b := (a + 44)) hX dX11_load_88 fd_X11_19 rfl (oX11_k hL84_0) (oX11_r1 hL84_0) ?_
        refine xJ_aload_n hX dX11_load_91 rfl ?_
        refine xJ_getR (b := (a + 1)) hX dX11_load_92 fd_X11_10 rfl (oX11_k hL84_0) (oX11_r0 hL84_0) ?_
        refine xJ_getR (b := (a + 4)) hX dX11_load_95 fd_X11_68 rfl (oX8_k (oX11_o0 hL84_0)) (oX8_r1 (oX11_o0 hL84_0)) ?_
        refine xJ_callV (As := [_]) hX hB dX11_load_98 lk_X11_71 im_X10_copyFrom se_X10_copyFrom rfl (by decide) (oX10_k (oX11_o1 hL84_0)) (c_X10_copyFrom (oX11_o1 hL84_0) (oX8_o1 (oX11_o0 hL84_0)) (oXQ_0 hxq84_0) hM84 hp) (by decide) rfl rfl rfl (Nat.le_of_ble_eq_true rfl) (by decide) (by decide) (fun v t98 M98 hv => ?_) (fun _ _ _ q => q.elim)
        obtain ⟨rfl, hM98, hq98, et98, hp⟩ := hv
        have hL98_0 := (oX11_le hq98.1 hL84_0)
        have hxq98_0 := (oXQ_le hq98 hL84_0 hxq84_0)
        dsimp only [Option.toList, List.cons_append, List.nil_append]
        refine xJ_aload_n hX dX11_load_101 rfl ?_
        refine xJ_getR (b := (a + 44)) hX dX11_load_102 fd_X11_19 rfl (oX11_k hL98_0) (oX11_r1 hL98_0) ?_
        refine xJ_getR (b := (a + 60)) hX dX11_load_105 fd_X11_74 rfl (oX10_k (oX11_o1 hL98_0)) (oX10_r3 (oX11_o1 hL98_0)) ?_
        refine xJ_getI hX dX11_load_108 fd_X11_78 rfl (oX5_k (oX10_o3 (oX11_o1 hL98_0))) ?_
        refine xJ_iret hX hB dX11_load_111 (by decide) (by decide) ⟨_, rfl, (hM98 _ _), hM98, (xqs_trans (xqs_trans hq33 hq84) hq98), trivial, hp⟩
      · replace hp := hp.2 c65
        refine xJ_aload_n hX dX11_load_68 rfl ?_
        refine xJ_getR (b := (a + 1)) hX dX11_load_69 fd_X11_10 rfl (oX11_k hL33_0) (oX11_r0 hL33_0) ?_
        refine xJ_getI hX dX11_load_72 fd_X11_61 rfl (oX8_k (oX11_o0 hL33_0)) ?_
        refine xJ_iret hX hB dX11_load_75 (by decide) (by decide) ⟨_, rfl, (hM55 _ _), hM55, hq33, trivial, hp⟩
    · replace hp := hp.2 c15
      refine xJ_throw (i := 17) hX hB dX11_load_18 dX11_load_21 dX11_load_22 dX11_load_24 dX11_load_27 tw_X11_54 kl_X11_50 (by decide +kernel) (by decide +kernel) rfl (by decide) (Nat.le_of_ble_eq_true rfl) (by decide) (by decide) (fun z _ => ⟨⟨z, rfl⟩, hM, hp⟩)
def p_X11_endsAt (F : Nat) (t : xTh) (a : Nat) (x1 : Int) (M : xMe) (Q : Int → xTh → xMe → Prop) (E : String → xMe → Prop) : Prop :=
  p_X11_checkPacket a x1 M (fun M2 => p_X5_hasEnded (a + 60) x1 M2 (fun r13 M13 => ((r13 = 0 → p_X10_copyFrom t (a + 83) (a + 44) M13 (fun t40 M40 => p_X10_advance F (a + 83) 500 x1 (xq t40 (a + 83)) (xq t40 (a + 83) + 1) (xq t40 (a + 83) + 2) (xqn t40 (a + 83)) M40 (fun M51 => ((0 : Int) ≤ x1 ∧ (x1 : Int) < 40) ∧ Q (M51 (a + 107) x1.toNat) t40 M51))) ∧ (r13 ≠ 0 → ((0 : Int) ≤ x1 ∧ (x1 : Int) < 40) ∧ Q (M13 (a + 68) x1.toNat) t M13)))) E
set_option maxHeartbeats 4000000 in
set_option maxRecDepth 100000 in
theorem c_X11_endsAt {G : xGx} {t : xTh} {M : xMe} {F : Nat} {a : Nat} {x1 : Int} {Q : Int → xTh → xMe → Prop} {E : String → xMe → Prop} (hL : oX11 t a) (hXQ : oXQ t a) (hM : xMR M) (hx1 : xR x1) (hp : p_X11_endsAt F t a x1 M Q E) : xCt G yX11_endsAt cX11_endsAt 2 (some .int) 8 1 6 [vr a, vi x1] t M (fun v t' M' => ∃ r, v = some (vi r) ∧ xR r ∧ xMR M' ∧ xqs t t' ∧ True ∧ Q r t' M') (fun cls t' M' => (∃ z, t' = (z, t.2)) ∧ xMR M' ∧ E cls M') := by
  refine xCt_of (L0 := [vr a, vi x1]) (by decide +kernel) (Nat.le_of_ble_eq_true rfl) rfl ?_
  intro X hX hB
  unfold p_X11_endsAt at hp
  refine xJ_aload_n hX dX11_endsAt_0 rfl ?_
  refine xJ_iload_n hX dX11_endsAt_1 rfl ?_
  refine xJ_callV (As := [_]) hX hB dX11_endsAt_2 lk_X11_177 im_X11_checkPacket se_X11_checkPacket rfl (by decide) (oX11_k hL) (c_X11_checkPacket hL hM hx1 hp) (by decide) rfl rfl rfl (Nat.le_of_ble_eq_true rfl) (by decide) (by decide) (fun v t9 M2 hv => ?_) (fun _ _ _ q => q)
  obtain ⟨rfl, hM2, ht9, hp⟩ := hv
  replace ht9 := ht9.symm
  subst ht9
  dsimp only [Option.toList, List.cons_append, List.nil_append]
  refine xJ_aload_n hX dX11_endsAt_5 rfl ?_
  refine xJ_getR (b := (a + 44)) hX dX11_endsAt_6 fd_X11_19 rfl (oX11_k hL) (oX11_r1 hL) ?_
  refine xJ_getR (b := (a + 60)) hX dX11_endsAt_9 fd_X11_74 rfl (oX10_k (oX11_o1 hL)) (oX10_r3 (oX11_o1 hL)) ?_
  refine xJ_iload_n hX dX11_endsAt_12 rfl ?_
  refine xJ_callV (As := [_]) hX hB dX11_endsAt_13 lk_X11_228 im_X5_hasEnded se_X5_hasEnded rfl (by decide) (oX5_k (oX10_o3 (oX11_o1 hL))) (c_X5_hasEnded (oX10_o3 (oX11_o1 hL)) hM2 hx1 hp) (by decide) rfl rfl rfl (Nat.le_of_ble_eq_true rfl) (by decide) (by decide) (fun v t9 M13 hv => ?_) (fun _ _ _ q => q.elim)
  obtain ⟨r13, rfl, h13, hM13, ht9, hp⟩ := hv
  replace ht9 := ht9.symm
  subst ht9
  dsimp only [Option.toList, List.cons_append, List.nil_append]
  refine xJ_if_eq hX dX11_endsAt_16 (tgt := 32) (by decide) h13 (fun c16 => ?_) (fun c16 => ?_)
  · replace hp := hp.1 c16
    refine xJ_aload_n hX dX11_endsAt_32 rfl ?_
    refine xJ_getR (b := (a + 83)) hX dX11_endsAt_33 fd_X11_23 rfl (oX11_k hL) (oX11_r2 hL) ?_
    refine xJ_aload_n hX dX11_endsAt_36 rfl ?_
    refine xJ_getR (b := (a + 44)) hX dX11_endsAt_37 fd_X11_19 rfl (oX11_k hL) (oX11_r1 hL) ?_
    refine xJ_callV (As := [_]) hX hB dX11_endsAt_40 lk_X11_71 im_X10_copyFrom se_X10_copyFrom rfl (by decide) (oX10_k (oX11_o2 hL)) (c_X10_copyFrom (oX11_o2 hL) (oX11_o1 hL) (oXQ_1 hXQ) hM13 hp) (by decide) rfl rfl rfl (Nat.le_of_ble_eq_true rfl) (by decide) (by decide) (fun v t40 M40 hv => ?_) (fun _ _ _ q => q.elim)
    obtain ⟨rfl, hM40, hq40, et40, hp⟩ := hv
    have hL40_0 := (oX11_le hq40.1 hL)
    have hxq40_0 := (oXQ_le hq40 hL hXQ)
    dsimp only [Option.toList, List.cons_append, List.nil_append]
    refine xJ_aload_n hX dX11_endsAt_43 rfl ?_
    refine xJ_getR (b := (a + 83)) hX dX11_endsAt_44 fd_X11_23 rfl (oX11_k hL40_0) (oX11_r2 hL40_0) ?_
    refine xJ_sipush hX dX11_endsAt_47 rfl ?_
    refine xJ_iload_n hX dX11_endsAt_50 rfl ?_
    refine xJ_callV (As := [_, _]) hX hB dX11_endsAt_51 lk_X11_232 im_X10_advance se_X10_advance rfl (by decide) (oX10_k (oX11_o2 hL40_0)) (c_X10_advance (oX11_o2 hL40_0) (oXQ_2 hxq40_0).1 (oXQ_2 hxq40_0).2 hM40 ⟨by decide, by decide⟩ hx1 hp) (by decide) rfl rfl rfl (Nat.le_of_ble_eq_true rfl) (by decide) (by decide) (fun v t9 M51 hv => ?_) (fun _ _ _ q => q.elim)
    obtain ⟨rfl, hM51, ht9, hp⟩ := hv
    replace ht9 := ht9.symm
    subst ht9
    dsimp only [Option.toList, List.cons_append, List.nil_append]
    refine xJ_aload_n hX dX11_endsAt_54 rfl ?_
    refine xJ_getR (b := (a + 83)) hX dX11_endsAt_55 fd_X11_23 rfl (oX11_k hL40_0) (oX11_r2 hL40_0) ?_
    refine xJ_getR (b := (a + 99)) hX dX11_endsAt_58 fd_X11_74 rfl (oX10_k (oX11_o2 hL40_0)) (oX10_r3 (oX11_o2 hL40_0)) ?_
    refine xJ_getR (b := (a + 107)) hX dX11_endsAt_61 fd_X11_198 rfl (oX5_k (oX10_o3 (oX11_o2 hL40_0))) (oX5_r7 (oX10_o3 (oX11_o2 hL40_0))) ?_
    refine xJ_iload_n hX dX11_endsAt_64 rfl ?_
    obtain ⟨h65, hp⟩ := hp
    refine xJ_iald hX dX11_endsAt_65 (oX5_k7 (oX10_o3 (oX11_o2 hL40_0))) h65.1 (xnlt (oX5_n7 (oX10_o3 (oX11_o2 hL40_0))) h65.2) ?_
    refine xJ_iret hX hB dX11_endsAt_66 (by decide) (by decide) ⟨_, rfl, (hM51 _ _), hM51, hq40, trivial, hp⟩
  · replace hp := hp.2 c16
    refine xJ_aload_n hX dX11_endsAt_19 rfl ?_
    refine xJ_getR (b := (a + 44)) hX dX11_endsAt_20 fd_X11_19 rfl (oX11_k hL) (oX11_r1 hL) ?_
    refine xJ_getR (b := (a + 60)) hX dX11_endsAt_23 fd_X11_74 rfl (oX10_k (oX11_o1 hL)) (oX10_r3 (oX11_o1 hL)) ?_
    refine xJ_getR (b := (a + 68)) hX dX11_endsAt_26 fd_X11_198 rfl (oX5_k (oX10_o3 (oX11_o1 hL))) (oX5_r7 (oX10_o3 (oX11_o1 hL))) ?_
    refine xJ_iload_n hX dX11_endsAt_29 rfl ?_
    obtain ⟨h30, hp⟩ := hp
    refine xJ_iald hX dX11_endsAt_30 (oX5_k7 (oX10_o3 (oX11_o1 hL))) h30.1 (xnlt (oX5_n7 (oX10_o3 (oX11_o1 hL))) h30.2) ?_
    refine xJ_iret hX hB dX11_endsAt_31 (by decide) (by decide) ⟨_, rfl, (hM13 _ _), hM13, (xqs_refl _), trivial, hp⟩
def p_X11_help_108 (F : Nat) (a : Nat) (t57 : xTh) (Q : Int → xTh → xMe → Prop) (E : String → xMe → Prop) : Nat → Int → Int → Int → Int → xMe → Prop
  | 0, _, _, _, _, _ => False
  | k + 1, x1, x2, x4, x5, M =>
    ((999 < x5 → Q ((-1)) t57 M) ∧ (x5 ≤ 999 → p_X10_copyFrom t57 (a + 83) (a + 44) M (fun t124 M124 => (xR ((M124 (a + 44) 7) + 9999)) ∧ p_X0_add (a + 108) x2 x5 ((M124 (a + 44) 7) + 9999) M124 (fun M148 => (∀ M156 : xMe, M156 = xw M148 (a + 83) 13 x2 → p_X10_advance F (a + 83) x4 x1 (xq t57 (a + 83)) (xq t57 (a + 83) + 1) (xq t57 (a + 83) + 2) (xqn t57 (a + 83)) M156 (fun M166 => p_X5_hasEnded (a + 99) x1 M166 (fun r177 M177 => ((r177 = 0 → (xR (x5 + (max 1 (M177 (a + 83) 14)))) ∧ (∀ z200 : Int, z200 = x5 + (max 1 (M177 (a + 83) 14)) → p_X11_help_108 F a t57 Q E k x1 x2 x4 z200 M177)) ∧ (r177 ≠ 0 → Q x5 t57 M177)))))))))
def p_X11_help (F : Nat) (t : xTh) (a : Nat) (x1 : Int) (M : xMe) (Q : Int → xTh → xMe → Prop) (E : String → xMe → Prop) : Prop :=
  p_X11_checkPacket a x1 M (fun M2 => ((30 ≤ (M2 (a + 69) 4) → Q ((-1)) t M2) ∧ ((M2 (a + 69) 4) < 30 → p_X5_hasEnded (a + 60) x1 M2 (fun r28 M28 => ((r28 = 0 → ((0 : Int) ≤ x1 ∧ (x1 : Int) < 40) ∧ (∀ z48 : Int, z48 = M28 (a + 61) x1.toNat → p_X10_copyFrom t (a + 83) (a + 44) M28 (fun t57 M57 => p_X10_advance F (a + 83) 500 x1 (xq t57 (a + 83)) (xq t57 (a + 83) + 1) (xq t57 (a + 83) + 2) (xqn t57 (a + 83)) M57 (fun M68 => ((0 : Int) ≤ x1 ∧ (x1 : Int) < 40) ∧ (∀ z83 : Int, z83 = M68 (a + 107) x1.toNat → ((0 ≤ z83 → (xR (z83 - (M68 (a + 44) 7))) ∧ (∀ z103 : Int, z103 = z83 - (M68 (a + 44) 7) → p_X11_help_108 F a t57 Q E F x1 z48 z103 1 M68)) ∧ (z83 < 0 → p_X11_help_108 F a t57 Q E F x1 z48 500 1 M68))))))) ∧ (r28 ≠ 0 → Q ((-1)) t M28)))))) E
set_option maxHeartbeats 4000000 in
set_option maxRecDepth 100000 in
theorem c_X11_help {G : xGx} {t : xTh} {M : xMe} {F : Nat} {a : Nat} {x1 : Int} {Q : Int → xTh → xMe → Prop} {E : String → xMe → Prop} (hL : oX11 t a) (hXQ : oXQ t a) (hM : xMR M) (hx1 : xR x1) (hp : p_X11_help F t a x1 M Q E) : xCt G yX11_help cX11_help 6 (some .int) 8 1 6 [vr a, vi x1] t M (fun v t' M' => ∃ r, v = some (vi r) ∧ xR r ∧ xMR M' ∧ xqs t t' ∧ True ∧ Q r t' M') (fun cls t' M' => (∃ z, t' = (z, t.2)) ∧ xMR M' ∧ E cls M') := by
  refine xCt_of (L0 := [vr a, vi x1, vU, vU, vU, vU]) (by decide +kernel) (Nat.le_of_ble_eq_true rfl) rfl ?_
  intro X hX hB
  unfold p_X11_help at hp
  refine xJ_aload_n hX dX11_help_0 rfl ?_
  refine xJ_iload_n hX dX11_help_1 rfl ?_
  refine xJ_callV (As := [_]) hX hB dX11_help_2 lk_X11_177 im_X11_checkPacket se_X11_checkPacket rfl (by decide) (oX11_k hL) (c_X11_checkPacket hL hM hx1 hp) (by decide) rfl rfl rfl (Nat.le_of_ble_eq_true rfl) (by decide) (by decide) (fun v t9 M2 hv => ?_) (fun _ _ _ q => q)
  obtain ⟨rfl, hM2, ht9, hp⟩ := hv
  replace ht9 := ht9.symm
  subst ht9
  dsimp only [Option.toList, List.cons_append, List.nil_append]
  refine xJ_aload_n hX dX11_help_5 rfl ?_
  refine xJ_getR (b := (a + 44)) hX dX11_help_6 fd_X11_19 rfl (oX11_k hL) (oX11_r1 hL) ?_
  refine xJ_getR (b := (a + 69)) hX dX11_help_9 fd_X11_100 rfl (oX10_k (oX11_o1 hL)) (oX10_r4 (oX11_o1 hL)) ?_
  refine xJ_getI hX dX11_help_12 fd_X11_104 rfl (oX0_k (oX10_o4 (oX11_o1 hL))) ?_
  refine xJ_bipush hX dX11_help_15 rfl ?_
  refine xJ_icmp_ge hX dX11_help_17 (tgt := 34) (by decide) (hM2 _ _) ⟨by decide, by decide⟩ (fun c17 => ?_) (fun c17 => ?_)
  · replace hp := hp.1 c17
    refine xJ_iconst hX dX11_help_34 ?_
    refine xJ_iret hX hB dX11_help_35 (by decide) (by decide) ⟨_, rfl, ⟨by decide, by decide⟩, hM2, (xqs_refl _), trivial, hp⟩
  · replace hp := hp.2 c17
    refine xJ_aload_n hX dX11_help_20 rfl ?_
    refine xJ_getR (b := (a + 44)) hX dX11_help_21 fd_X11_19 rfl (oX11_k hL) (oX11_r1 hL) ?_
    refine xJ_getR (b := (a + 60)) hX dX11_help_24 fd_X11_74 rfl (oX10_k (oX11_o1 hL)) (oX10_r3 (oX11_o1 hL)) ?_
    refine xJ_iload_n hX dX11_help_27 rfl ?_
    refine xJ_callV (As := [_]) hX hB dX11_help_28 lk_X11_228 im_X5_hasEnded se_X5_hasEnded rfl (by decide) (oX5_k (oX10_o3 (oX11_o1 hL))) (c_X5_hasEnded (oX10_o3 (oX11_o1 hL)) hM2 hx1 hp) (by decide) rfl rfl rfl (Nat.le_of_ble_eq_true rfl) (by decide) (by decide) (fun v t9 M28 hv => ?_) (fun _ _ _ q => q.elim)
    obtain ⟨r28, rfl, h28, hM28, ht9, hp⟩ := hv
    replace ht9 := ht9.symm
    subst ht9
    dsimp only [Option.toList, List.cons_append, List.nil_append]
    refine xJ_if_eq hX dX11_help_31 (tgt := 36) (by decide) h28 (fun c31 => ?_) (fun c31 => ?_)
    · replace hp := hp.1 c31
      refine xJ_aload_n hX dX11_help_36 rfl ?_
      refine xJ_getR (b := (a + 44)) hX dX11_help_37 fd_X11_19 rfl (oX11_k hL) (oX11_r1 hL) ?_
      refine xJ_getR (b := (a + 60)) hX dX11_help_40 fd_X11_74 rfl (oX10_k (oX11_o1 hL)) (oX10_r3 (oX11_o1 hL)) ?_
      refine xJ_getR (b := (a + 61)) hX dX11_help_43 fd_X11_180 rfl (oX5_k (oX10_o3 (oX11_o1 hL))) (oX5_r0 (oX10_o3 (oX11_o1 hL))) ?_
      refine xJ_iload_n hX dX11_help_46 rfl ?_
      obtain ⟨h47, hp⟩ := hp
      refine xJ_iald hX dX11_help_47 (oX5_k0 (oX10_o3 (oX11_o1 hL))) h47.1 (xnlt (oX5_n0 (oX10_o3 (oX11_o1 hL))) h47.2) ?_
      refine xJ_istore_n hX dX11_help_48 (Nat.le_of_ble_eq_true rfl) rfl ?_
      dsimp only [List.set]
      replace hp := hp _ rfl
      refine xJ_aload_n hX dX11_help_49 rfl ?_
      refine xJ_getR (b := (a + 83)) hX dX11_help_50 fd_X11_23 rfl (oX11_k hL) (oX11_r2 hL) ?_
      refine xJ_aload_n hX dX11_help_53 rfl ?_
      refine xJ_getR (b := (a + 44)) hX dX11_help_54 fd_X11_19 rfl (oX11_k hL) (oX11_r1 hL) ?_
      refine xJ_callV (As := [_]) hX hB dX11_help_57 lk_X11_71 im_X10_copyFrom se_X10_copyFrom rfl (by decide) (oX10_k (oX11_o2 hL)) (c_X10_copyFrom (oX11_o2 hL) (oX11_o1 hL) (oXQ_1 hXQ) hM28 hp) (by decide) rfl rfl rfl (Nat.le_of_ble_eq_true rfl) (by decide) (by decide) (fun v t57 M57 hv => ?_) (fun _ _ _ q => q.elim)
      obtain ⟨rfl, hM57, hq57, et57, hp⟩ := hv
      have hL57_0 := (oX11_le hq57.1 hL)
      have hxq57_0 := (oXQ_le hq57 hL hXQ)
      have hsm := xwr_hsm et57 (by omega)
      dsimp only [Option.toList, List.cons_append, List.nil_append]
      refine xJ_aload_n hX dX11_help_60 rfl ?_
      refine xJ_getR (b := (a + 83)) hX dX11_help_61 fd_X11_23 rfl (oX11_k hL57_0) (oX11_r2 hL57_0) ?_
      refine xJ_sipush hX dX11_help_64 rfl ?_
      refine xJ_iload_n hX dX11_help_67 rfl ?_
      refine xJ_callV (As := [_, _]) hX hB dX11_help_68 lk_X11_232 im_X10_advance se_X10_advance rfl (by decide) (oX10_k (oX11_o2 hL57_0)) (c_X10_advance (oX11_o2 hL57_0) (oXQ_2 hxq57_0).1 (oXQ_2 hxq57_0).2 hM57 ⟨by decide, by decide⟩ hx1 hp) (by decide) rfl rfl rfl (Nat.le_of_ble_eq_true rfl) (by decide) (by decide) (fun v t9 M68 hv => ?_) (fun _ _ _ q => q.elim)
      obtain ⟨rfl, hM68, ht9, hp⟩ := hv
      replace ht9 := ht9.symm
      subst ht9
      dsimp only [Option.toList, List.cons_append, List.nil_append]
      refine xJ_aload_n hX dX11_help_71 rfl ?_
      refine xJ_getR (b := (a + 83)) hX dX11_help_72 fd_X11_23 rfl (oX11_k hL57_0) (oX11_r2 hL57_0) ?_
      refine xJ_getR (b := (a + 99)) hX dX11_help_75 fd_X11_74 rfl (oX10_k (oX11_o2 hL57_0)) (oX10_r3 (oX11_o2 hL57_0)) ?_
      refine xJ_getR (b := (a + 107)) hX dX11_help_78 fd_X11_198 rfl (oX5_k (oX10_o3 (oX11_o2 hL57_0))) (oX5_r7 (oX10_o3 (oX11_o2 hL57_0))) ?_
      refine xJ_iload_n hX dX11_help_81 rfl ?_
      obtain ⟨h82, hp⟩ := hp
      refine xJ_iald hX dX11_help_82 (oX5_k7 (oX10_o3 (oX11_o2 hL57_0))) h82.1 (xnlt (oX5_n7 (oX10_o3 (oX11_o2 hL57_0))) h82.2) ?_
      refine xJ_istore_n hX dX11_help_83 (Nat.le_of_ble_eq_true rfl) rfl ?_
      dsimp only [List.set]
      replace hp := hp _ rfl
      refine xJ_iload_n hX dX11_help_84 rfl ?_
      refine xJ_if_ge hX dX11_help_85 (tgt := 94) (by decide) (hM68 _ _) (fun c85 => ?_) (fun c85 => ?_)
      · replace hp := hp.1 c85
        refine xJ_iload_n hX dX11_help_94 rfl ?_
        refine xJ_aload_n hX dX11_help_95 rfl ?_
        refine xJ_getR (b := (a + 44)) hX dX11_help_96 fd_X11_19 rfl (oX11_k hL57_0) (oX11_r1 hL57_0) ?_
        refine xJ_getI hX dX11_help_99 fd_X11_83 rfl (oX10_k (oX11_o1 hL57_0)) ?_
        refine xJ_isub hX dX11_help_102 ?_
        obtain ⟨h102, hp⟩ := hp
        refine xJ_istore hX dX11_help_103 (Nat.le_of_ble_eq_true rfl) rfl ?_
        dsimp only [List.set]
        replace hp := hp _ rfl
        refine xJ_iconst hX dX11_help_105 ?_
        refine xJ_istore hX dX11_help_106 (Nat.le_of_ble_eq_true rfl) rfl ?_
        dsimp only [List.set]
        refine xJ_fg 3 ?_
        dsimp only [List.set]
        have lp108 : ∀ (k : Nat) (x1 : Int) (x2 : Int) (x4 : Int) (x5 : Int) (M : xMe) (hM : xMR M) (hx1 : xR x1) (hx2 : xR x2) (hx4 : xR x4) (hx5 : xR x5) (hp : p_X11_help_108 F a t57 Q E k x1 x2 x4 x5 M), xJ X 1 6 t57 M 108 [vr a, vi x1, vi x2, vU, vi x4, vi x5] [] := by
          intro k
          induction k with
          | zero => intro x1 x2 x4 x5 M hM hx1 hx2 hx4 hx5 hp; exact hp.elim
          | succ k ih =>
            intro x1 x2 x4 x5 M hM hx1 hx2 hx4 hx5 hp
            unfold p_X11_help_108 at hp
            refine xJ_iload hX dX11_help_108 rfl ?_
            refine xJ_sipush hX dX11_help_110 rfl ?_
            refine xJ_icmp_gt hX dX11_help_113 (tgt := 205) (by decide) hx5 ⟨by decide, by decide⟩ (fun c113 => ?_) (fun c113 => ?_)
            · replace hp := hp.1 c113
              refine xJ_iconst hX dX11_help_205 ?_
              refine xJ_iret hX hB dX11_help_206 (by decide) (by decide) ⟨_, rfl, ⟨by decide, by decide⟩, hM, hq57, trivial, hp⟩
            · replace hp := hp.2 c113
              refine xJ_aload_n hX dX11_help_116 rfl ?_
              refine xJ_getR (b := (a + 83)) hX dX11_help_117 fd_X11_23 rfl (oX11_k hL57_0) (oX11_r2 hL57_0) ?_
              refine xJ_aload_n hX dX11_help_120 rfl ?_
              refine xJ_getR (b := (a + 44)) hX dX11_help_121 fd_X11_19 rfl (oX11_k hL57_0) (oX11_r1 hL57_0) ?_
              refine xJ_callV (As := [_]) hX hB dX11_help_124 lk_X11_71 im_X10_copyFrom se_X10_copyFrom rfl (by decide) (oX10_k (oX11_o2 hL57_0)) (c_X10_copyFrom (oX11_o2 hL57_0) (oX11_o1 hL57_0) (oXQ_1 hxq57_0) hM hp) (by decide) rfl rfl rfl (Nat.le_of_ble_eq_true rfl) (by decide) (by decide) (fun v t124 M124 hv => ?_) (fun _ _ _ q => q.elim)
              obtain ⟨rfl, hM124, hq124, et124, hp⟩ := hv
              have es124 : t57 = t124 := by rw [et124]; exact (xwr_same hsm).symm
              subst es124
              dsimp only [Option.toList, List.cons_append, List.nil_append]
              refine xJ_aload_n hX dX11_help_127 rfl ?_
              refine xJ_getR (b := (a + 83)) hX dX11_help_128 fd_X11_23 rfl (oX11_k hL57_0) (oX11_r2 hL57_0) ?_
              refine xJ_getR (b := (a + 108)) hX dX11_help_131 fd_X11_100 rfl (oX10_k (oX11_o2 hL57_0)) (oX10_r4 (oX11_o2 hL57_0)) ?_
              refine xJ_iload_n hX dX11_help_134 rfl ?_
              refine xJ_iload hX dX11_help_135 rfl ?_
              refine xJ_aload_n hX dX11_help_137 rfl ?_
              refine xJ_getR (b := (a + 44)) hX dX11_help_138 fd_X11_19 rfl (oX11_k hL57_0) (oX11_r1 hL57_0) ?_
              refine xJ_getI hX dX11_help_141 fd_X11_83 rfl (oX10_k (oX11_o1 hL57_0)) ?_
              refine xJ_sipush hX dX11_help_144 rfl ?_
              refine xJ_iadd hX dX11_help_147 ?_
              obtain ⟨h147, hp⟩ := hp
              refine xJ_callV (As := [_, _, _]) hX hB dX11_help_148 lk_X11_236 im_X0_add se_X0_add rfl (by decide) (oX0_k (oX10_o4 (oX11_o2 hL57_0))) (c_X0_add (oX10_o4 (oX11_o2 hL57_0)) hM124 hx2 hx5 h147 hp) (by decide) rfl rfl rfl (Nat.le_of_ble_eq_true rfl) (by decide) (by decide) (fun v t9 M148 hv => ?_) (fun _ _ _ q => q.elim)
              obtain ⟨rfl, hM148, ht9, hp⟩ := hv
              replace ht9 := ht9.symm
              subst ht9
              dsimp only [Option.toList, List.cons_append, List.nil_append]
              refine xJ_aload_n hX dX11_help_151 rfl ?_
              refine xJ_getR (b := (a + 83)) hX dX11_help_152 fd_X11_23 rfl (oX11_k hL57_0) (oX11_r2 hL57_0) ?_
              refine xJ_iload_n hX dX11_help_155 rfl ?_
              refine xJ_putIM hX dX11_help_156 fd_X11_239 ft_X10 rfl rfl rfl rfl (oX10_k (oX11_o2 hL57_0)) hM148 hx2 (fun M156 e156 hM156 => ?_)
              replace hp := hp M156 e156
              refine xJ_aload_n hX dX11_help_159 rfl ?_
              refine xJ_getR (b := (a + 83)) hX dX11_help_160 fd_X11_23 rfl (oX11_k hL57_0) (oX11_r2 hL57_0) ?_
              refine xJ_iload hX dX11_help_163 rfl ?_
              refine xJ_iload_n hX dX11_help_165 rfl ?_
              refine xJ_callV (As := [_, _]) hX hB dX11_help_166 lk_X11_232 im_X10_advance se_X10_advance rfl (by decide) (oX10_k (oX11_o2 hL57_0)) (c_X10_advance (oX11_o2 hL57_0) (oXQ_2 hxq57_0).1 (oXQ_2 hxq57_0).2 hM156 hx4 hx1 hp) (by decide) rfl rfl rfl (Nat.le_of_ble_eq_true rfl) (by decide) (by decide) (fun v t9 M166 hv => ?_) (fun _ _ _ q => q.elim)
              obtain ⟨rfl, hM166, ht9, hp⟩ := hv
              replace ht9 := ht9.symm
              subst ht9
              dsimp only [Option.toList, List.cons_append, List.nil_append]
              refine xJ_aload_n hX dX11_help_169 rfl ?_
              refine xJ_getR (b := (a + 83)) hX dX11_help_170 fd_X11_23 rfl (oX11_k hL57_0) (oX11_r2 hL57_0) ?_
              refine xJ_getR (b := (a + 99)) hX dX11_help_173 fd_X11_74 rfl (oX10_k (oX11_o2 hL57_0)) (oX10_r3 (oX11_o2 hL57_0)) ?_
              refine xJ_iload_n hX dX11_help_176 rfl ?_
              refine xJ_callV (As := [_]) hX hB dX11_help_177 lk_X11_228 im_X5_hasEnded se_X5_hasEnded rfl (by decide) (oX5_k (oX10_o3 (oX11_o2 hL57_0))) (c_X5_hasEnded (oX10_o3 (oX11_o2 hL57_0)) hM166 hx1 hp) (by decide) rfl rfl rfl (Nat.le_of_ble_eq_true rfl) (by decide) (by decide) (fun v t9 M177 hv => ?_) (fun _ _ _ q => q.elim)
              obtain ⟨r177, rfl, h177, hM177, ht9, hp⟩ := hv
              replace ht9 := ht9.symm
              subst ht9
              dsimp only [Option.toList, List.cons_append, List.nil_append]
              refine xJ_if_eq hX dX11_help_180 (tgt := 186) (by decide) h177 (fun c180 => ?_) (fun c180 => ?_)
              · replace hp := hp.1 c180
                refine xJ_iload hX dX11_help_186 rfl ?_
                refine xJ_iconst hX dX11_help_188 ?_
                refine xJ_aload_n hX dX11_help_189 rfl ?_
                refine xJ_getR (b := (a + 83)) hX dX11_help_190 fd_X11_23 rfl (oX11_k hL57_0) (oX11_r2 hL57_0) ?_
                refine xJ_getI hX dX11_help_193 fd_X11_242 rfl (oX10_k (oX11_o2 hL57_0)) ?_
                refine xJ_mmax hX hB dX11_help_196 lj_X11_245 jw_max_st jw_ma_in jw_max_co rfl (by decide) (Nat.le_of_ble_eq_true rfl) (by decide) (by decide) ⟨by decide, by decide⟩ (hM177 _ _) ?_
                refine xJ_iadd hX dX11_help_199 ?_
                obtain ⟨h199, hp⟩ := hp
                refine xJ_istore hX dX11_help_200 (Nat.le_of_ble_eq_true rfl) rfl ?_
                dsimp only [List.set]
                replace hp := hp _ rfl
                refine xJ_goto hX dX11_help_202 (tgt := 108) (by decide) ?_
                exact ih _ _ _ _ _ hM177 hx1 hx2 hx4 h199 hp
              · replace hp := hp.2 c180
                refine xJ_iload hX dX11_help_183 rfl ?_
                refine xJ_iret hX hB dX11_help_185 (by decide) (by decide) ⟨_, rfl, hx5, hM177, hq57, trivial, hp⟩
        refine lp108 F _ _ _ _ _ hM68 hx1 (hM28 _ _) h102 ⟨by decide, by decide⟩ hp
      · replace hp := hp.2 c85
        refine xJ_sipush hX dX11_help_88 rfl ?_
        refine xJ_goto hX dX11_help_91 (tgt := 103) (by decide) ?_
        refine xJ_istore hX dX11_help_103 (Nat.le_of_ble_eq_true rfl) rfl ?_
        dsimp only [List.set]
        refine xJ_iconst hX dX11_help_105 ?_
        refine xJ_istore hX dX11_help_106 (Nat.le_of_ble_eq_true rfl) rfl ?_
        dsimp only [List.set]
        refine xJ_fg 3 ?_
        dsimp only [List.set]
        have lp108 : ∀ (k : Nat) (x1 : Int) (x2 : Int) (x4 : Int) (x5 : Int) (M : xMe) (hM : xMR M) (hx1 : xR x1) (hx2 : xR x2) (hx4 : xR x4) (hx5 : xR x5) (hp : p_X11_help_108 F a t57 Q E k x1 x2 x4 x5 M), xJ X 1 6 t57 M 108 [vr a, vi x1, vi x2, vU, vi x4, vi x5] [] := by
          intro k
          induction k with
          | zero => intro x1 x2 x4 x5 M hM hx1 hx2 hx4 hx5 hp; exact hp.elim
          | succ k ih =>
            intro x1 x2 x4 x5 M hM hx1 hx2 hx4 hx5 hp
            unfold p_X11_help_108 at hp
            refine xJ_iload hX dX11_help_108 rfl ?_
            refine xJ_sipush hX dX11_help_110 rfl ?_
            refine xJ_icmp_gt hX dX11_help_113 (tgt := 205) (by decide) hx5 ⟨by decide, by decide⟩ (fun c113 => ?_) (fun c113 => ?_)
            · replace hp := hp.1 c113
              refine xJ_iconst hX dX11_help_205 ?_
              refine xJ_iret hX hB dX11_help_206 (by decide) (by decide) ⟨_, rfl, ⟨by decide, by decide⟩, hM, hq57, trivial, hp⟩
            · replace hp := hp.2 c113
              refine xJ_aload_n hX dX11_help_116 rfl ?_
              refine xJ_getR (b := (a + 83)) hX dX11_help_117 fd_X11_23 rfl (oX11_k hL57_0) (oX11_r2 hL57_0) ?_
              refine xJ_aload_n hX dX11_help_120 rfl ?_
              refine xJ_getR (b := (a + 44)) hX dX11_help_121 fd_X11_19 rfl (oX11_k hL57_0) (oX11_r1 hL57_0) ?_
              refine xJ_callV (As := [_]) hX hB dX11_help_124 lk_X11_71 im_X10_copyFrom se_X10_copyFrom rfl (by decide) (oX10_k (oX11_o2 hL57_0)) (c_X10_copyFrom (oX11_o2 hL57_0) (oX11_o1 hL57_0) (oXQ_1 hxq57_0) hM hp) (by decide) rfl rfl rfl (Nat.le_of_ble_eq_true rfl) (by decide) (by decide) (fun v t124 M124 hv => ?_) (fun _ _ _ q => q.elim)
              obtain ⟨rfl, hM124, hq124, et124, hp⟩ := hv
              have es124 : t57 = t124 := by rw [et124]; exact (xwr_same hsm).symm
              subst es124
              dsimp only [Option.toList, List.cons_append, List.nil_append]
              refine xJ_aload_n hX dX11_help_127 rfl ?_
              refine xJ_getR (b := (a + 83)) hX dX11_help_128 fd_X11_23 rfl (oX11_k hL57_0) (oX11_r2 hL57_0) ?_
              refine xJ_getR (b := (a + 108)) hX dX11_help_131 fd_X11_100 rfl (oX10_k (oX11_o2 hL57_0)) (oX10_r4 (oX11_o2 hL57_0)) ?_
              refine xJ_iload_n hX dX11_help_134 rfl ?_
              refine xJ_iload hX dX11_help_135 rfl ?_
              refine xJ_aload_n hX dX11_help_137 rfl ?_
              refine xJ_getR (b := (a + 44)) hX dX11_help_138 fd_X11_19 rfl (oX11_k hL57_0) (oX11_r1 hL57_0) ?_
              refine xJ_getI hX dX11_help_141 fd_X11_83 rfl (oX10_k (oX11_o1 hL57_0)) ?_
              refine xJ_sipush hX dX11_help_144 rfl ?_
              refine xJ_iadd hX dX11_help_147 ?_
              obtain ⟨h147, hp⟩ := hp
              refine xJ_callV (As := [_, _, _]) hX hB dX11_help_148 lk_X11_236 im_X0_add se_X0_add rfl (by decide) (oX0_k (oX10_o4 (oX11_o2 hL57_0))) (c_X0_add (oX10_o4 (oX11_o2 hL57_0)) hM124 hx2 hx5 h147 hp) (by decide) rfl rfl rfl (Nat.le_of_ble_eq_true rfl) (by decide) (by decide) (fun v t9 M148 hv => ?_) (fun _ _ _ q => q.elim)
              obtain ⟨rfl, hM148, ht9, hp⟩ := hv
              replace ht9 := ht9.symm
              subst ht9
              dsimp only [Option.toList, List.cons_append, List.nil_append]
              refine xJ_aload_n hX dX11_help_151 rfl ?_
              refine xJ_getR (b := (a + 83)) hX dX11_help_152 fd_X11_23 rfl (oX11_k hL57_0) (oX11_r2 hL57_0) ?_
              refine xJ_iload_n hX dX11_help_155 rfl ?_
              refine xJ_putIM hX dX11_help_156 fd_X11_239 ft_X10 rfl rfl rfl rfl (oX10_k (oX11_o2 hL57_0)) hM148 hx2 (fun M156 e156 hM156 => ?_)
              replace hp := hp M156 e156
              refine xJ_aload_n hX dX11_help_159 rfl ?_
              refine xJ_getR (b := (a + 83)) hX dX11_help_160 fd_X11_23 rfl (oX11_k hL57_0) (oX11_r2 hL57_0) ?_
              refine xJ_iload hX dX11_help_163 rfl ?_
              refine xJ_iload_n hX dX11_help_165 rfl ?_
              refine xJ_callV (As := [_, _]) hX hB dX11_help_166 lk_X11_232 im_X10_advance se_X10_advance rfl (by decide) (oX10_k (oX11_o2 hL57_0)) (c_X10_advance (oX11_o2 hL57_0) (oXQ_2 hxq57_0).1 (oXQ_2 hxq57_0).2 hM156 hx4 hx1 hp) (by decide) rfl rfl rfl (Nat.le_of_ble_eq_true rfl) (by decide) (by decide) (fun v t9 M166 hv => ?_) (fun _ _ _ q => q.elim)
              obtain ⟨rfl, hM166, ht9, hp⟩ := hv
              replace ht9 := ht9.symm
              subst ht9
              dsimp only [Option.toList, List.cons_append, List.nil_append]
              refine xJ_aload_n hX dX11_help_169 rfl ?_
              refine xJ_getR (b := (a + 83)) hX dX11_help_170 fd_X11_23 rfl (oX11_k hL57_0) (oX11_r2 hL57_0) ?_
              refine xJ_getR (b := (a + 99)) hX dX11_help_173 fd_X11_74 rfl (oX10_k (oX11_o2 hL57_0)) (oX10_r3 (oX11_o2 hL57_0)) ?_
              refine xJ_iload_n hX dX11_help_176 rfl ?_
              refine xJ_callV (As := [_]) hX hB dX11_help_177 lk_X11_228 im_X5_hasEnded se_X5_hasEnded rfl (by decide) (oX5_k (oX10_o3 (oX11_o2 hL57_0))) (c_X5_hasEnded (oX10_o3 (oX11_o2 hL57_0)) hM166 hx1 hp) (by decide) rfl rfl rfl (Nat.le_of_ble_eq_true rfl) (by decide) (by decide) (fun v t9 M177 hv => ?_) (fun _ _ _ q => q.elim)
              obtain ⟨r177, rfl, h177, hM177, ht9, hp⟩ := hv
              replace ht9 := ht9.symm
              subst ht9
              dsimp only [Option.toList, List.cons_append, List.nil_append]
              refine xJ_if_eq hX dX11_help_180 (tgt := 186) (by decide) h177 (fun c180 => ?_) (fun c180 => ?_)
              · replace hp := hp.1 c180
                refine xJ_iload hX dX11_help_186 rfl ?_
                refine xJ_iconst hX dX11_help_188 ?_
                refine xJ_aload_n hX dX11_help_189 rfl ?_
                refine xJ_getR (b := (a + 83)) hX dX11_help_190 fd_X11_23 rfl (oX11_k hL57_0) (oX11_r2 hL57_0) ?_
                refine xJ_getI hX dX11_help_193 fd_X11_242 rfl (oX10_k (oX11_o2 hL57_0)) ?_
                refine xJ_mmax hX hB dX11_help_196 lj_X11_245 jw_max_st jw_ma_in jw_max_co rfl (by decide) (Nat.le_of_ble_eq_true rfl) (by decide) (by decide) ⟨by decide, by decide⟩ (hM177 _ _) ?_
                refine xJ_iadd hX dX11_help_199 ?_
                obtain ⟨h199, hp⟩ := hp
                refine xJ_istore hX dX11_help_200 (Nat.le_of_ble_eq_true rfl) rfl ?_
                dsimp only [List.set]
                replace hp := hp _ rfl
                refine xJ_goto hX dX11_help_202 (tgt := 108) (by decide) ?_
                exact ih _ _ _ _ _ hM177 hx1 hx2 hx4 h199 hp
              · replace hp := hp.2 c180
                refine xJ_iload hX dX11_help_183 rfl ?_
                refine xJ_iret hX hB dX11_help_185 (by decide) (by decide) ⟨_, rfl, hx5, hM177, hq57, trivial, hp⟩
        refine lp108 F _ _ _ _ _ hM68 hx1 (hM28 _ _) ⟨by decide, by decide⟩ ⟨by decide, by decide⟩ hp
    · replace hp := hp.2 c31
      refine xJ_iconst hX dX11_help_34 ?_
      refine xJ_iret hX hB dX11_help_35 (by decide) (by decide) ⟨_, rfl, ⟨by decide, by decide⟩, hM28, (xqs_refl _), trivial, hp⟩
def p_X11_pass (F : Nat) (t : xTh) (a : Nat) (x1 : Int) (M : xMe) (Q : Int → xTh → xMe → Prop) (E : String → xMe → Prop) : Prop :=
  p_X11_checkRange a x1 1 200 M (fun M6 => (xR ((M6 (a + 44) 7) + x1)) ∧ p_X11_checkRange a ((M6 (a + 44) 7) + x1) 0 9999 M6 (fun M23 => p_X3_keep t (a + 122) (a + 44) M23 (fun t34 M34 => p_X5_countIn F (a + 60) 3 M34 (fun r45 M45 => p_X10_advance F (a + 44) x1 ((-1)) (xq t34 (a + 44)) (xq t34 (a + 44) + 1) (xq t34 (a + 44) + 2) (xqn t34 (a + 44)) M45 (fun M55 => p_X5_countIn F (a + 60) 3 M55 (fun r66 M66 => (xR (r66 - r45)) ∧ Q (r66 - r45) t34 M66))))) E) E
set_option maxHeartbeats 4000000 in
set_option maxRecDepth 100000 in
theorem c_X11_pass {G : xGx} {t : xTh} {M : xMe} {F : Nat} {a : Nat} {x1 : Int} {Q : Int → xTh → xMe → Prop} {E : String → xMe → Prop} (hL : oX11 t a) (hXQ : oXQ t a) (hM : xMR M) (hx1 : xR x1) (hp : p_X11_pass F t a x1 M Q E) : xCt G yX11_pass cX11_pass 3 (some .int) 8 2 12 [vr a, vi x1] t M (fun v t' M' => ∃ r, v = some (vi r) ∧ xR r ∧ xMR M' ∧ xqs t t' ∧ True ∧ Q r t' M') (fun cls t' M' => (∃ z, t' = (z, t.2)) ∧ xMR M' ∧ E cls M') := by
  refine xCt_of (L0 := [vr a, vi x1, vU]) (by decide +kernel) (Nat.le_of_ble_eq_true rfl) rfl ?_
  intro X hX hB
  unfold p_X11_pass at hp
  refine xJ_aload_n hX dX11_pass_0 rfl ?_
  refine xJ_iload_n hX dX11_pass_1 rfl ?_
  refine xJ_iconst hX dX11_pass_2 ?_
  refine xJ_sipush hX dX11_pass_3 rfl ?_
  refine xJ_callV (As := [_, _, _]) hX hB dX11_pass_6 lk_X11_214 im_X11_checkRange se_X11_checkRange rfl (by decide) (oX11_k hL) (c_X11_checkRange hL hM hx1 ⟨by decide, by decide⟩ ⟨by decide, by decide⟩ hp) (by decide) rfl rfl rfl (Nat.le_of_ble_eq_true rfl) (by decide) (by decide) (fun v t9 M6 hv => ?_) (fun _ _ _ q => q)
  obtain ⟨rfl, hM6, ht9, hp⟩ := hv
  replace ht9 := ht9.symm
  subst ht9
  dsimp only [Option.toList, List.cons_append, List.nil_append]
  refine xJ_aload_n hX dX11_pass_9 rfl ?_
  refine xJ_aload_n hX dX11_pass_10 rfl ?_
  refine xJ_getR (b := (a + 44)) hX dX11_pass_11 fd_X11_19 rfl (oX11_k hL) (oX11_r1 hL) ?_
  refine xJ_getI hX dX11_pass_14 fd_X11_83 rfl (oX10_k (oX11_o1 hL)) ?_
  refine xJ_iload_n hX dX11_pass_17 rfl ?_
  refine xJ_iadd hX dX11_pass_18 ?_
  obtain ⟨h18, hp⟩ := hp
  refine xJ_iconst hX dX11_pass_19 ?_
  refine xJ_sipush hX dX11_pass_20 rfl ?_
  refine xJ_callV (As := [_, _, _]) hX hB dX11_pass_23 lk_X11_214 im_X11_checkRange se_X11_checkRange rfl (by decide) (oX11_k hL) (c_X11_checkRange hL hM6 h18 ⟨by decide, by decide⟩ ⟨by decide, by decide⟩ hp) (by decide) rfl rfl rfl (Nat.le_of_ble_eq_true rfl) (by decide) (by decide) (fun v t9 M23 hv => ?_) (fun _ _ _ q => q)
  obtain ⟨rfl, hM23, ht9, hp⟩ := hv
  replace ht9 := ht9.symm
  subst ht9
  dsimp only [Option.toList, List.cons_append, List.nil_append]
  refine xJ_aload_n hX dX11_pass_26 rfl ?_
  refine xJ_getR (b := (a + 122)) hX dX11_pass_27 fd_X11_29 rfl (oX11_k hL) (oX11_r3 hL) ?_
  refine xJ_aload_n hX dX11_pass_30 rfl ?_
  refine xJ_getR (b := (a + 44)) hX dX11_pass_31 fd_X11_19 rfl (oX11_k hL) (oX11_r1 hL) ?_
  refine xJ_callV (As := [_]) hX hB dX11_pass_34 lk_X11_64 im_X3_keep se_X3_keep rfl (by decide) (oX3_k (oX11_o3 hL)) (c_X3_keep (oX11_o3 hL) (oX11_o1 hL) (oXQ_1 hXQ) hM23 hp) (by decide) rfl rfl rfl (Nat.le_of_ble_eq_true rfl) (by decide) (by decide) (fun v t34 M34 hv => ?_) (fun _ _ _ q => q.elim)
  obtain ⟨rfl, hM34, hq34, et34, hp⟩ := hv
  have hL34_0 := (oX11_le hq34.1 hL)
  have hxq34_0 := (oXQ_le hq34 hL hXQ)
  dsimp only [Option.toList, List.cons_append, List.nil_append]
  refine xJ_aload_n hX dX11_pass_37 rfl ?_
  refine xJ_getR (b := (a + 44)) hX dX11_pass_38 fd_X11_19 rfl (oX11_k hL34_0) (oX11_r1 hL34_0) ?_
  refine xJ_getR (b := (a + 60)) hX dX11_pass_41 fd_X11_74 rfl (oX10_k (oX11_o1 hL34_0)) (oX10_r3 (oX11_o1 hL34_0)) ?_
  refine xJ_iconst hX dX11_pass_44 ?_
  refine xJ_callV (As := [_]) hX hB dX11_pass_45 lk_X11_107 im_X5_countIn se_X5_countIn rfl (by decide) (oX5_k (oX10_o3 (oX11_o1 hL34_0))) (c_X5_countIn (oX10_o3 (oX11_o1 hL34_0)) hM34 ⟨by decide, by decide⟩ hp) (by decide) rfl rfl rfl (Nat.le_of_ble_eq_true rfl) (by decide) (by decide) (fun v t9 M45 hv => ?_) (fun _ _ _ q => q.elim)
  obtain ⟨r45, rfl, h45, hM45, ht9, hp⟩ := hv
  replace ht9 := ht9.symm
  subst ht9
  dsimp only [Option.toList, List.cons_append, List.nil_append]
  refine xJ_istore_n hX dX11_pass_48 (Nat.le_of_ble_eq_true rfl) rfl ?_
  dsimp only [List.set]
  refine xJ_aload_n hX dX11_pass_49 rfl ?_
  refine xJ_getR (b := (a + 44)) hX dX11_pass_50 fd_X11_19 rfl (oX11_k hL34_0) (oX11_r1 hL34_0) ?_
  refine xJ_iload_n hX dX11_pass_53 rfl ?_
  refine xJ_iconst hX dX11_pass_54 ?_
  refine xJ_callV (As := [_, _]) hX hB dX11_pass_55 lk_X11_232 im_X10_advance se_X10_advance rfl (by decide) (oX10_k (oX11_o1 hL34_0)) (c_X10_advance (oX11_o1 hL34_0) (oXQ_1 hxq34_0).1 (oXQ_1 hxq34_0).2 hM45 hx1 ⟨by decide, by decide⟩ hp) (by decide) rfl rfl rfl (Nat.le_of_ble_eq_true rfl) (by decide) (by decide) (fun v t9 M55 hv => ?_) (fun _ _ _ q => q.elim)
  obtain ⟨rfl, hM55, ht9, hp⟩ := hv
  replace ht9 := ht9.symm
  subst ht9
  dsimp only [Option.toList, List.cons_append, List.nil_append]
  refine xJ_aload_n hX dX11_pass_58 rfl ?_
  refine xJ_getR (b := (a + 44)) hX dX11_pass_59 fd_X11_19 rfl (oX11_k hL34_0) (oX11_r1 hL34_0) ?_
  refine xJ_getR (b := (a + 60)) hX dX11_pass_62 fd_X11_74 rfl (oX10_k (oX11_o1 hL34_0)) (oX10_r3 (oX11_o1 hL34_0)) ?_
  refine xJ_iconst hX dX11_pass_65 ?_
  refine xJ_callV (As := [_]) hX hB dX11_pass_66 lk_X11_107 im_X5_countIn se_X5_countIn rfl (by decide) (oX5_k (oX10_o3 (oX11_o1 hL34_0))) (c_X5_countIn (oX10_o3 (oX11_o1 hL34_0)) hM55 ⟨by decide, by decide⟩ hp) (by decide) rfl rfl rfl (Nat.le_of_ble_eq_true rfl) (by decide) (by decide) (fun v t9 M66 hv => ?_) (fun _ _ _ q => q.elim)
  obtain ⟨r66, rfl, h66, hM66, ht9, hp⟩ := hv
  replace ht9 := ht9.symm
  subst ht9
  dsimp only [Option.toList, List.cons_append, List.nil_append]
  refine xJ_iload_n hX dX11_pass_69 rfl ?_
  refine xJ_isub hX dX11_pass_70 ?_
  obtain ⟨h70, hp⟩ := hp
  refine xJ_iret hX hB dX11_pass_71 (by decide) (by decide) ⟨_, rfl, h70, hM66, hq34, trivial, hp⟩
def p_X11_forward (t : xTh) (a : Nat) (x1 : Int) (x2 : Int) (M : xMe) (Q : Int → xTh → xMe → Prop) (E : String → xMe → Prop) : Prop :=
  p_X11_checkCoupon a x1 M (fun M2 => p_X11_checkFlow a x2 M2 (fun M7 => p_X3_keep t (a + 122) (a + 44) M7 (fun t18 M18 => ((0 : Int) ≤ x1 ∧ (x1 : Int) < 30) ∧ (((M18 (a + 70) x1.toNat) = x2 → Q ((-1)) t18 M18) ∧ ((M18 (a + 70) x1.toNat) ≠ x2 → ((0 : Int) ≤ x1 ∧ (x1 : Int) < 30) ∧ ((2 ≤ (M18 (a + 73) x1.toNat) → Q ((-1)) t18 M18) ∧ ((M18 (a + 73) x1.toNat) < 2 → ((0 : Int) ≤ x1 ∧ (x1 : Int) < 30) ∧ (((M18 (a + 44) 8) < (M18 (a + 71) x1.toNat) → ((0 : Int) ≤ x1 ∧ (x1 : Int) < 30) ∧ (∀ M85 : xMe, M85 = xw M18 (a + 70) x1.toNat x2 → ((0 : Int) ≤ x1 ∧ (x1 : Int) < 30) ∧ (xR ((M85 (a + 71) x1.toNat) - (M85 (a + 44) 8))) ∧ ((0 : Int) ≤ x1 ∧ (x1 : Int) < 30) ∧ (∀ M101 : xMe, M101 = xw M85 (a + 71) x1.toNat ((M85 (a + 71) x1.toNat) - (M85 (a + 44) 8)) → ((0 : Int) ≤ x1 ∧ (x1 : Int) < 30) ∧ (xR ((M101 (a + 73) x1.toNat) + 1)) ∧ ((0 : Int) ≤ x1 ∧ (x1 : Int) < 30) ∧ (∀ M111 : xMe, M111 = xw M101 (a + 73) x1.toNat ((M101 (a + 73) x1.toNat) + 1) → ((0 : Int) ≤ x1 ∧ (x1 : Int) < 30) ∧ Q (M111 (a + 71) x1.toNat) t18 M111)))) ∧ ((M18 (a + 71) x1.toNat) ≤ (M18 (a + 44) 8) → Q ((-1)) t18 M18)))))))) E) E
set_option maxHeartbeats 4000000 in
set_option maxRecDepth 100000 in
theorem c_X11_forward {G : xGx} {t : xTh} {M : xMe} {a : Nat} {x1 : Int} {x2 : Int} {Q : Int → xTh → xMe → Prop} {E : String → xMe → Prop} (hL : oX11 t a) (hXQ : oXQ t a) (hM : xMR M) (hx1 : xR x1) (hx2 : xR x2) (hp : p_X11_forward t a x1 x2 M Q E) : xCt G yX11_forward cX11_forward 5 (some .int) 8 2 12 [vr a, vi x1, vi x2] t M (fun v t' M' => ∃ r, v = some (vi r) ∧ xR r ∧ xMR M' ∧ xqs t t' ∧ True ∧ Q r t' M') (fun cls t' M' => (∃ z, t' = (z, t.2)) ∧ xMR M' ∧ E cls M') := by
  refine xCt_of (L0 := [vr a, vi x1, vi x2, vU, vU]) (by decide +kernel) (Nat.le_of_ble_eq_true rfl) rfl ?_
  intro X hX hB
  unfold p_X11_forward at hp
  refine xJ_aload_n hX dX11_forward_0 rfl ?_
  refine xJ_iload_n hX dX11_forward_1 rfl ?_
  refine xJ_callV (As := [_]) hX hB dX11_forward_2 lk_X11_201 im_X11_checkCoupon se_X11_checkCoupon rfl (by decide) (oX11_k hL) (c_X11_checkCoupon hL hM hx1 hp) (by decide) rfl rfl rfl (Nat.le_of_ble_eq_true rfl) (by decide) (by decide) (fun v t9 M2 hv => ?_) (fun _ _ _ q => q)
  obtain ⟨rfl, hM2, ht9, hp⟩ := hv
  replace ht9 := ht9.symm
  subst ht9
  dsimp only [Option.toList, List.cons_append, List.nil_append]
  refine xJ_aload_n hX dX11_forward_5 rfl ?_
  refine xJ_iload_n hX dX11_forward_6 rfl ?_
  refine xJ_callV (As := [_]) hX hB dX11_forward_7 lk_X11_135 im_X11_checkFlow se_X11_checkFlow rfl (by decide) (oX11_k hL) (c_X11_checkFlow hL hM2 hx2 hp) (by decide) rfl rfl rfl (Nat.le_of_ble_eq_true rfl) (by decide) (by decide) (fun v t9 M7 hv => ?_) (fun _ _ _ q => q)
  obtain ⟨rfl, hM7, ht9, hp⟩ := hv
  replace ht9 := ht9.symm
  subst ht9
  dsimp only [Option.toList, List.cons_append, List.nil_append]
  refine xJ_aload_n hX dX11_forward_10 rfl ?_
  refine xJ_getR (b := (a + 122)) hX dX11_forward_11 fd_X11_29 rfl (oX11_k hL) (oX11_r3 hL) ?_
  refine xJ_aload_n hX dX11_forward_14 rfl ?_
  refine xJ_getR (b := (a + 44)) hX dX11_forward_15 fd_X11_19 rfl (oX11_k hL) (oX11_r1 hL) ?_
  refine xJ_callV (As := [_]) hX hB dX11_forward_18 lk_X11_64 im_X3_keep se_X3_keep rfl (by decide) (oX3_k (oX11_o3 hL)) (c_X3_keep (oX11_o3 hL) (oX11_o1 hL) (oXQ_1 hXQ) hM7 hp) (by decide) rfl rfl rfl (Nat.le_of_ble_eq_true rfl) (by decide) (by decide) (fun v t18 M18 hv => ?_) (fun _ _ _ q => q.elim)
  obtain ⟨rfl, hM18, hq18, et18, hp⟩ := hv
  have hL18_0 := (oX11_le hq18.1 hL)
  have hxq18_0 := (oXQ_le hq18 hL hXQ)
  dsimp only [Option.toList, List.cons_append, List.nil_append]
  refine xJ_aload_n hX dX11_forward_21 rfl ?_
  refine xJ_getR (b := (a + 44)) hX dX11_forward_22 fd_X11_19 rfl (oX11_k hL18_0) (oX11_r1 hL18_0) ?_
  refine xJ_getR (b := (a + 69)) hX dX11_forward_25 fd_X11_100 rfl (oX10_k (oX11_o1 hL18_0)) (oX10_r4 (oX11_o1 hL18_0)) ?_
  refine xJ_astore_n hX dX11_forward_28 (Nat.le_of_ble_eq_true rfl) rfl ?_
  dsimp only [List.set]
  refine xJ_aload_n hX dX11_forward_29 rfl ?_
  refine xJ_getR (b := (a + 70)) hX dX11_forward_30 fd_X11_204 rfl (oX0_k (oX10_o4 (oX11_o1 hL18_0))) (oX0_r0 (oX10_o4 (oX11_o1 hL18_0))) ?_
  refine xJ_iload_n hX dX11_forward_33 rfl ?_
  obtain ⟨h34, hp⟩ := hp
  refine xJ_iald hX dX11_forward_34 (oX0_k0 (oX10_o4 (oX11_o1 hL18_0))) h34.1 (xnlt (oX0_n0 (oX10_o4 (oX11_o1 hL18_0))) h34.2) ?_
  refine xJ_iload_n hX dX11_forward_35 rfl ?_
  refine xJ_icmp_eq hX dX11_forward_36 (tgt := 65) (by decide) (hM18 _ _) hx2 (fun c36 => ?_) (fun c36 => ?_)
  · replace hp := hp.1 c36
    refine xJ_iconst hX dX11_forward_65 ?_
    refine xJ_goto hX dX11_forward_66 (tgt := 70) (by decide) ?_
    refine xJ_istore hX dX11_forward_70 (Nat.le_of_ble_eq_true rfl) rfl ?_
    dsimp only [List.set]
    refine xJ_iload hX dX11_forward_72 rfl ?_
    refine xJ_if_eq hX dX11_forward_74 (tgt := 79) (by decide) ⟨by decide, by decide⟩ (fun c74 => ?_) (fun c74 => ?_)
    · exact absurd c74 (by decide)
    refine xJ_iconst hX dX11_forward_77 ?_
    refine xJ_iret hX hB dX11_forward_78 (by decide) (by decide) ⟨_, rfl, ⟨by decide, by decide⟩, hM18, hq18, trivial, hp⟩
  · replace hp := hp.2 c36
    refine xJ_aload_n hX dX11_forward_39 rfl ?_
    refine xJ_getR (b := (a + 73)) hX dX11_forward_40 fd_X11_211 rfl (oX0_k (oX10_o4 (oX11_o1 hL18_0))) (oX0_r3 (oX10_o4 (oX11_o1 hL18_0))) ?_
    refine xJ_iload_n hX dX11_forward_43 rfl ?_
    obtain ⟨h44, hp⟩ := hp
    refine xJ_iald hX dX11_forward_44 (oX0_k3 (oX10_o4 (oX11_o1 hL18_0))) h44.1 (xnlt (oX0_n3 (oX10_o4 (oX11_o1 hL18_0))) h44.2) ?_
    refine xJ_iconst hX dX11_forward_45 ?_
    refine xJ_icmp_ge hX dX11_forward_46 (tgt := 65) (by decide) (hM18 _ _) ⟨by decide, by decide⟩ (fun c46 => ?_) (fun c46 => ?_)
    · replace hp := hp.1 c46
      refine xJ_iconst hX dX11_forward_65 ?_
      refine xJ_goto hX dX11_forward_66 (tgt := 70) (by decide) ?_
      refine xJ_istore hX dX11_forward_70 (Nat.le_of_ble_eq_true rfl) rfl ?_
      dsimp only [List.set]
      refine xJ_iload hX dX11_forward_72 rfl ?_
      refine xJ_if_eq hX dX11_forward_74 (tgt := 79) (by decide) ⟨by decide, by decide⟩ (fun c74 => ?_) (fun c74 => ?_)
      · exact absurd c74 (by decide)
      refine xJ_iconst hX dX11_forward_77 ?_
      refine xJ_iret hX hB dX11_forward_78 (by decide) (by decide) ⟨_, rfl, ⟨by decide, by decide⟩, hM18, hq18, trivial, hp⟩
    · replace hp := hp.2 c46
      refine xJ_aload_n hX dX11_forward_49 rfl ?_
      refine xJ_getR (b := (a + 71)) hX dX11_forward_50 fd_X11_205 rfl (oX0_k (oX10_o4 (oX11_o1 hL18_0))) (oX0_r1 (oX10_o4 (oX11_o1 hL18_0))) ?_
      refine xJ_iload_n hX dX11_forward_53 rfl ?_
      obtain ⟨h54, hp⟩ := hp
      refine xJ_iald hX dX11_forward_54 (oX0_k1 (oX10_o4 (oX11_o1 hL18_0))) h54.1 (xnlt (oX0_n1 (oX10_o4 (oX11_o1 hL18_0))) h54.2) ?_
      refine xJ_aload_n hX dX11_forward_55 rfl ?_
      refine xJ_getR (b := (a + 44)) hX dX11_forward_56 fd_X11_19 rfl (oX11_k hL18_0) (oX11_r1 hL18_0) ?_
      refine xJ_getI hX dX11_forward_59 fd_X11_117 rfl (oX10_k (oX11_o1 hL18_0)) ?_
      refine xJ_icmp_gt hX dX11_forward_62 (tgt := 69) (by decide) (hM18 _ _) (hM18 _ _) (fun c62 => ?_) (fun c62 => ?_)
      · replace hp := hp.1 c62
        refine xJ_iconst hX dX11_forward_69 ?_
        refine xJ_istore hX dX11_forward_70 (Nat.le_of_ble_eq_true rfl) rfl ?_
        dsimp only [List.set]
        refine xJ_iload hX dX11_forward_72 rfl ?_
        refine xJ_if_eq hX dX11_forward_74 (tgt := 79) (by decide) ⟨by decide, by decide⟩ (fun c74 => ?_) (fun c74 => ?_)
        rotate_left 1
        · exact absurd c74 (by decide)
        refine xJ_aload_n hX dX11_forward_79 rfl ?_
        refine xJ_getR (b := (a + 70)) hX dX11_forward_80 fd_X11_204 rfl (oX0_k (oX10_o4 (oX11_o1 hL18_0))) (oX0_r0 (oX10_o4 (oX11_o1 hL18_0))) ?_
        refine xJ_iload_n hX dX11_forward_83 rfl ?_
        refine xJ_iload_n hX dX11_forward_84 rfl ?_
        obtain ⟨h85, hp⟩ := hp
        refine xJ_iastM hX dX11_forward_85 (oX0_k0 (oX10_o4 (oX11_o1 hL18_0))) h85.1 (xnlt (oX0_n0 (oX10_o4 (oX11_o1 hL18_0))) h85.2) hM18 hx2 (fun M85 e85 hM85 => ?_)
        replace hp := hp M85 e85
        refine xJ_aload_n hX dX11_forward_86 rfl ?_
        refine xJ_getR (b := (a + 71)) hX dX11_forward_87 fd_X11_205 rfl (oX0_k (oX10_o4 (oX11_o1 hL18_0))) (oX0_r1 (oX10_o4 (oX11_o1 hL18_0))) ?_
        refine xJ_iload_n hX dX11_forward_90 rfl ?_
        refine xJ_dup2 hX dX11_forward_91 rfl rfl ?_
        obtain ⟨h92, hp⟩ := hp
        refine xJ_iald hX dX11_forward_92 (oX0_k1 (oX10_o4 (oX11_o1 hL18_0))) h92.1 (xnlt (oX0_n1 (oX10_o4 (oX11_o1 hL18_0))) h92.2) ?_
        refine xJ_aload_n hX dX11_forward_93 rfl ?_
        refine xJ_getR (b := (a + 44)) hX dX11_forward_94 fd_X11_19 rfl (oX11_k hL18_0) (oX11_r1 hL18_0) ?_
        refine xJ_getI hX dX11_forward_97 fd_X11_117 rfl (oX10_k (oX11_o1 hL18_0)) ?_
        refine xJ_isub hX dX11_forward_100 ?_
        obtain ⟨h100, hp⟩ := hp
        obtain ⟨h101, hp⟩ := hp
        refine xJ_iastM hX dX11_forward_101 (oX0_k1 (oX10_o4 (oX11_o1 hL18_0))) h101.1 (xnlt (oX0_n1 (oX10_o4 (oX11_o1 hL18_0))) h101.2) hM85 h100 (fun M101 e101 hM101 => ?_)
        replace hp := hp M101 e101
        refine xJ_aload_n hX dX11_forward_102 rfl ?_
        refine xJ_getR (b := (a + 73)) hX dX11_forward_103 fd_X11_211 rfl (oX0_k (oX10_o4 (oX11_o1 hL18_0))) (oX0_r3 (oX10_o4 (oX11_o1 hL18_0))) ?_
        refine xJ_iload_n hX dX11_forward_106 rfl ?_
        refine xJ_dup2 hX dX11_forward_107 rfl rfl ?_
        obtain ⟨h108, hp⟩ := hp
        refine xJ_iald hX dX11_forward_108 (oX0_k3 (oX10_o4 (oX11_o1 hL18_0))) h108.1 (xnlt (oX0_n3 (oX10_o4 (oX11_o1 hL18_0))) h108.2) ?_
        refine xJ_iconst hX dX11_forward_109 ?_
        refine xJ_iadd hX dX11_forward_110 ?_
        obtain ⟨h110, hp⟩ := hp
        obtain ⟨h111, hp⟩ := hp
        refine xJ_iastM hX dX11_forward_111 (oX0_k3 (oX10_o4 (oX11_o1 hL18_0))) h111.1 (xnlt (oX0_n3 (oX10_o4 (oX11_o1 hL18_0))) h111.2) hM101 h110 (fun M111 e111 hM111 => ?_)
        replace hp := hp M111 e111
        refine xJ_aload_n hX dX11_forward_112 rfl ?_
        refine xJ_getR (b := (a + 71)) hX dX11_forward_113 fd_X11_205 rfl (oX0_k (oX10_o4 (oX11_o1 hL18_0))) (oX0_r1 (oX10_o4 (oX11_o1 hL18_0))) ?_
        refine xJ_iload_n hX dX11_forward_116 rfl ?_
        obtain ⟨h117, hp⟩ := hp
        refine xJ_iald hX dX11_forward_117 (oX0_k1 (oX10_o4 (oX11_o1 hL18_0))) h117.1 (xnlt (oX0_n1 (oX10_o4 (oX11_o1 hL18_0))) h117.2) ?_
        refine xJ_iret hX hB dX11_forward_118 (by decide) (by decide) ⟨_, rfl, (hM111 _ _), hM111, hq18, trivial, hp⟩
      · replace hp := hp.2 c62
        refine xJ_iconst hX dX11_forward_65 ?_
        refine xJ_goto hX dX11_forward_66 (tgt := 70) (by decide) ?_
        refine xJ_istore hX dX11_forward_70 (Nat.le_of_ble_eq_true rfl) rfl ?_
        dsimp only [List.set]
        refine xJ_iload hX dX11_forward_72 rfl ?_
        refine xJ_if_eq hX dX11_forward_74 (tgt := 79) (by decide) ⟨by decide, by decide⟩ (fun c74 => ?_) (fun c74 => ?_)
        · exact absurd c74 (by decide)
        refine xJ_iconst hX dX11_forward_77 ?_
        refine xJ_iret hX hB dX11_forward_78 (by decide) (by decide) ⟨_, rfl, ⟨by decide, by decide⟩, hM18, hq18, trivial, hp⟩
def p_X11_grant (t : xTh) (a : Nat) (x1 : Int) (x2 : Int) (x3 : Int) (M : xMe) (Q : Int → xTh → xMe → Prop) (E : String → xMe → Prop) : Prop :=
  p_X11_checkFlow a x1 M (fun M2 => p_X11_checkRange a x2 1 9999 M2 (fun M11 => p_X11_checkRange a x3 1 9999 M11 (fun M20 => (((M20 (a + 69) 4) < 30 → p_X3_keep t (a + 122) (a + 44) M20 (fun t56 M56 => (xR ((M56 (a + 44) 7) + x3)) ∧ p_X0_add (a + 69) x1 x2 ((M56 (a + 44) 7) + x3) M56 (fun M77 => (xR ((M77 (a + 69) 4) - 1)) ∧ Q ((M77 (a + 69) 4) - 1) t56 M77))) ∧ (30 ≤ (M20 (a + 69) 4) → E "java/lang/IllegalStateException" M20))) E) E) E
set_option maxHeartbeats 4000000 in
set_option maxRecDepth 100000 in
theorem c_X11_grant {G : xGx} {t : xTh} {M : xMe} {a : Nat} {x1 : Int} {x2 : Int} {x3 : Int} {Q : Int → xTh → xMe → Prop} {E : String → xMe → Prop} (hL : oX11 t a) (hXQ : oXQ t a) (hM : xMR M) (hx1 : xR x1) (hx2 : xR x2) (hx3 : xR x3) (hp : p_X11_grant t a x1 x2 x3 M Q E) : xCt G yX11_grant cX11_grant 4 (some .int) 8 4 24 [vr a, vi x1, vi x2, vi x3] t M (fun v t' M' => ∃ r, v = some (vi r) ∧ xR r ∧ xMR M' ∧ xqs t t' ∧ True ∧ Q r t' M') (fun cls t' M' => (∃ z, t' = (z, t.2)) ∧ xMR M' ∧ E cls M') := by
  refine xCt_of (L0 := [vr a, vi x1, vi x2, vi x3]) (by decide +kernel) (Nat.le_of_ble_eq_true rfl) rfl ?_
  intro X hX hB
  unfold p_X11_grant at hp
  refine xJ_aload_n hX dX11_grant_0 rfl ?_
  refine xJ_iload_n hX dX11_grant_1 rfl ?_
  refine xJ_callV (As := [_]) hX hB dX11_grant_2 lk_X11_135 im_X11_checkFlow se_X11_checkFlow rfl (by decide) (oX11_k hL) (c_X11_checkFlow hL hM hx1 hp) (by decide) rfl rfl rfl (Nat.le_of_ble_eq_true rfl) (by decide) (by decide) (fun v t9 M2 hv => ?_) (fun _ _ _ q => q)
  obtain ⟨rfl, hM2, ht9, hp⟩ := hv
  replace ht9 := ht9.symm
  subst ht9
  dsimp only [Option.toList, List.cons_append, List.nil_append]
  refine xJ_aload_n hX dX11_grant_5 rfl ?_
  refine xJ_iload_n hX dX11_grant_6 rfl ?_
  refine xJ_iconst hX dX11_grant_7 ?_
  refine xJ_sipush hX dX11_grant_8 rfl ?_
  refine xJ_callV (As := [_, _, _]) hX hB dX11_grant_11 lk_X11_214 im_X11_checkRange se_X11_checkRange rfl (by decide) (oX11_k hL) (c_X11_checkRange hL hM2 hx2 ⟨by decide, by decide⟩ ⟨by decide, by decide⟩ hp) (by decide) rfl rfl rfl (Nat.le_of_ble_eq_true rfl) (by decide) (by decide) (fun v t9 M11 hv => ?_) (fun _ _ _ q => q)
  obtain ⟨rfl, hM11, ht9, hp⟩ := hv
  replace ht9 := ht9.symm
  subst ht9
  dsimp only [Option.toList, List.cons_append, List.nil_append]
  refine xJ_aload_n hX dX11_grant_14 rfl ?_
  refine xJ_iload_n hX dX11_grant_15 rfl ?_
  refine xJ_iconst hX dX11_grant_16 ?_
  refine xJ_sipush hX dX11_grant_17 rfl ?_
  refine xJ_callV (As := [_, _, _]) hX hB dX11_grant_20 lk_X11_214 im_X11_checkRange se_X11_checkRange rfl (by decide) (oX11_k hL) (c_X11_checkRange hL hM11 hx3 ⟨by decide, by decide⟩ ⟨by decide, by decide⟩ hp) (by decide) rfl rfl rfl (Nat.le_of_ble_eq_true rfl) (by decide) (by decide) (fun v t9 M20 hv => ?_) (fun _ _ _ q => q)
  obtain ⟨rfl, hM20, ht9, hp⟩ := hv
  replace ht9 := ht9.symm
  subst ht9
  dsimp only [Option.toList, List.cons_append, List.nil_append]
  refine xJ_aload_n hX dX11_grant_23 rfl ?_
  refine xJ_getR (b := (a + 44)) hX dX11_grant_24 fd_X11_19 rfl (oX11_k hL) (oX11_r1 hL) ?_
  refine xJ_getR (b := (a + 69)) hX dX11_grant_27 fd_X11_100 rfl (oX10_k (oX11_o1 hL)) (oX10_r4 (oX11_o1 hL)) ?_
  refine xJ_getI hX dX11_grant_30 fd_X11_104 rfl (oX0_k (oX10_o4 (oX11_o1 hL))) ?_
  refine xJ_bipush hX dX11_grant_33 rfl ?_
  refine xJ_icmp_lt hX dX11_grant_35 (tgt := 48) (by decide) (hM20 _ _) ⟨by decide, by decide⟩ (fun c35 => ?_) (fun c35 => ?_)
  · replace hp := hp.1 c35
    refine xJ_aload_n hX dX11_grant_48 rfl ?_
    refine xJ_getR (b := (a + 122)) hX dX11_grant_49 fd_X11_29 rfl (oX11_k hL) (oX11_r3 hL) ?_
    refine xJ_aload_n hX dX11_grant_52 rfl ?_
    refine xJ_getR (b := (a + 44)) hX dX11_grant_53 fd_X11_19 rfl (oX11_k hL) (oX11_r1 hL) ?_
    refine xJ_callV (As := [_]) hX hB dX11_grant_56 lk_X11_64 im_X3_keep se_X3_keep rfl (by decide) (oX3_k (oX11_o3 hL)) (c_X3_keep (oX11_o3 hL) (oX11_o1 hL) (oXQ_1 hXQ) hM20 hp) (by decide) rfl rfl rfl (Nat.le_of_ble_eq_true rfl) (by decide) (by decide) (fun v t56 M56 hv => ?_) (fun _ _ _ q => q.elim)
    obtain ⟨rfl, hM56, hq56, et56, hp⟩ := hv
    have hL56_0 := (oX11_le hq56.1 hL)
    have hxq56_0 := (oXQ_le hq56 hL hXQ)
    dsimp only [Option.toList, List.cons_append, List.nil_append]
    refine xJ_aload_n hX dX11_grant_59 rfl ?_
    refine xJ_getR (b := (a + 44)) hX dX11_grant_60 fd_X11_19 rfl (oX11_k hL56_0) (oX11_r1 hL56_0) ?_
    refine xJ_getR (b := (a + 69)) hX dX11_grant_63 fd_X11_100 rfl (oX10_k (oX11_o1 hL56_0)) (oX10_r4 (oX11_o1 hL56_0)) ?_
    refine xJ_iload_n hX dX11_grant_66 rfl ?_
    refine xJ_iload_n hX dX11_grant_67 rfl ?_
    refine xJ_aload_n hX dX11_grant_68 rfl ?_
    refine xJ_getR (b := (a + 44)) hX dX11_grant_69 fd_X11_19 rfl (oX11_k hL56_0) (oX11_r1 hL56_0) ?_
    refine xJ_getI hX dX11_grant_72 fd_X11_83 rfl (oX10_k (oX11_o1 hL56_0)) ?_
    refine xJ_iload_n hX dX11_grant_75 rfl ?_
    refine xJ_iadd hX dX11_grant_76 ?_
    obtain ⟨h76, hp⟩ := hp
    refine xJ_callV (As := [_, _, _]) hX hB dX11_grant_77 lk_X11_236 im_X0_add se_X0_add rfl (by decide) (oX0_k (oX10_o4 (oX11_o1 hL56_0))) (c_X0_add (oX10_o4 (oX11_o1 hL56_0)) hM56 hx1 hx2 h76 hp) (by decide) rfl rfl rfl (Nat.le_of_ble_eq_true rfl) (by decide) (by decide) (fun v t9 M77 hv => ?_) (fun _ _ _ q => q.elim)
    obtain ⟨rfl, hM77, ht9, hp⟩ := hv
    replace ht9 := ht9.symm
    subst ht9
    dsimp only [Option.toList, List.cons_append, List.nil_append]
    refine xJ_aload_n hX dX11_grant_80 rfl ?_
    refine xJ_getR (b := (a + 44)) hX dX11_grant_81 fd_X11_19 rfl (oX11_k hL56_0) (oX11_r1 hL56_0) ?_
    refine xJ_getR (b := (a + 69)) hX dX11_grant_84 fd_X11_100 rfl (oX10_k (oX11_o1 hL56_0)) (oX10_r4 (oX11_o1 hL56_0)) ?_
    refine xJ_getI hX dX11_grant_87 fd_X11_104 rfl (oX0_k (oX10_o4 (oX11_o1 hL56_0))) ?_
    refine xJ_iconst hX dX11_grant_90 ?_
    refine xJ_isub hX dX11_grant_91 ?_
    obtain ⟨h91, hp⟩ := hp
    refine xJ_iret hX hB dX11_grant_92 (by decide) (by decide) ⟨_, rfl, h91, hM77, hq56, trivial, hp⟩
  · replace hp := hp.2 c35
    refine xJ_throw (i := 14) hX hB dX11_grant_38 dX11_grant_41 dX11_grant_42 dX11_grant_44 dX11_grant_47 tw_X11_253 kl_X11_250 (by decide +kernel) (by decide +kernel) rfl (by decide) (Nat.le_of_ble_eq_true rfl) (by decide) (by decide) (fun z _ => ⟨⟨z, rfl⟩, hM20, hp⟩)
def p_X11_send (t : xTh) (a : Nat) (x1 : Int) (x2 : Int) (M : xMe) (Q : Int → xTh → xMe → Prop) (E : String → xMe → Prop) : Prop :=
  p_X11_checkFlow a x1 M (fun M2 => p_X11_checkRange a x2 1 999 M2 (fun M11 => (((M11 (a + 60) 8) < 40 → p_X3_keep t (a + 122) (a + 44) M11 (fun t47 M47 => p_X5_add (a + 60) x1 (M47 (a + 44) 7) x2 M47 (fun M66 => (xR ((M66 (a + 60) 8) - 1)) ∧ Q ((M66 (a + 60) 8) - 1) t47 M66))) ∧ (40 ≤ (M11 (a + 60) 8) → E "java/lang/IllegalStateException" M11))) E) E
set_option maxHeartbeats 4000000 in
set_option maxRecDepth 100000 in
theorem c_X11_send {G : xGx} {t : xTh} {M : xMe} {a : Nat} {x1 : Int} {x2 : Int} {Q : Int → xTh → xMe → Prop} {E : String → xMe → Prop} (hL : oX11 t a) (hXQ : oXQ t a) (hM : xMR M) (hx1 : xR x1) (hx2 : xR x2) (hp : p_X11_send t a x1 x2 M Q E) : xCt G yX11_send cX11_send 3 (some .int) 8 3 18 [vr a, vi x1, vi x2] t M (fun v t' M' => ∃ r, v = some (vi r) ∧ xR r ∧ xMR M' ∧ xqs t t' ∧ True ∧ Q r t' M') (fun cls t' M' => (∃ z, t' = (z, t.2)) ∧ xMR M' ∧ E cls M') := by
  refine xCt_of (L0 := [vr a, vi x1, vi x2]) (by decide +kernel) (Nat.le_of_ble_eq_true rfl) rfl ?_
  intro X hX hB
  unfold p_X11_send at hp
  refine xJ_aload_n hX dX11_send_0 rfl ?_
  refine xJ_iload_n hX dX11_send_1 rfl ?_
  refine xJ_callV (As := [_]) hX hB dX11_send_2 lk_X11_135 im_X11_checkFlow se_X11_checkFlow rfl (by decide) (oX11_k hL) (c_X11_checkFlow hL hM hx1 hp) (by decide) rfl rfl rfl (Nat.le_of_ble_eq_true rfl) (by decide) (by decide) (fun v t9 M2 hv => ?_) (fun _ _ _ q => q)
  obtain ⟨rfl, hM2, ht9, hp⟩ := hv
  replace ht9 := ht9.symm
  subst ht9
  dsimp only [Option.toList, List.cons_append, List.nil_append]
  refine xJ_aload_n hX dX11_send_5 rfl ?_
  refine xJ_iload_n hX dX11_send_6 rfl ?_
  refine xJ_iconst hX dX11_send_7 ?_
  refine xJ_sipush hX dX11_send_8 rfl ?_
  refine xJ_callV (As := [_, _, _]) hX hB dX11_send_11 lk_X11_214 im_X11_checkRange se_X11_checkRange rfl (by decide) (oX11_k hL) (c_X11_checkRange hL hM2 hx2 ⟨by decide, by decide⟩ ⟨by decide, by decide⟩ hp) (by decide) rfl rfl rfl (Nat.le_of_ble_eq_true rfl) (by decide) (by decide) (fun v t9 M11 hv => ?_) (fun _ _ _ q => q)
  obtain ⟨rfl, hM11, ht9, hp⟩ := hv
  replace ht9 := ht9.symm
  subst ht9
  dsimp only [Option.toList, List.cons_append, List.nil_append]
  refine xJ_aload_n hX dX11_send_14 rfl ?_
  refine xJ_getR (b := (a + 44)) hX dX11_send_15 fd_X11_19 rfl (oX11_k hL) (oX11_r1 hL) ?_
  refine xJ_getR (b := (a + 60)) hX dX11_send_18 fd_X11_74 rfl (oX10_k (oX11_o1 hL)) (oX10_r3 (oX11_o1 hL)) ?_
  refine xJ_getI hX dX11_send_21 fd_X11_78 rfl (oX5_k (oX10_o3 (oX11_o1 hL))) ?_
  refine xJ_bipush hX dX11_send_24 rfl ?_
  refine xJ_icmp_lt hX dX11_send_26 (tgt := 39) (by decide) (hM11 _ _) ⟨by decide, by decide⟩ (fun c26 => ?_) (fun c26 => ?_)
  · replace hp := hp.1 c26
    refine xJ_aload_n hX dX11_send_39 rfl ?_
    refine xJ_getR (b := (a + 122)) hX dX11_send_40 fd_X11_29 rfl (oX11_k hL) (oX11_r3 hL) ?_
    refine xJ_aload_n hX dX11_send_43 rfl ?_
    refine xJ_getR (b := (a + 44)) hX dX11_send_44 fd_X11_19 rfl (oX11_k hL) (oX11_r1 hL) ?_
    refine xJ_callV (As := [_]) hX hB dX11_send_47 lk_X11_64 im_X3_keep se_X3_keep rfl (by decide) (oX3_k (oX11_o3 hL)) (c_X3_keep (oX11_o3 hL) (oX11_o1 hL) (oXQ_1 hXQ) hM11 hp) (by decide) rfl rfl rfl (Nat.le_of_ble_eq_true rfl) (by decide) (by decide) (fun v t47 M47 hv => ?_) (fun _ _ _ q => q.elim)
    obtain ⟨rfl, hM47, hq47, et47, hp⟩ := hv
    have hL47_0 := (oX11_le hq47.1 hL)
    have hxq47_0 := (oXQ_le hq47 hL hXQ)
    dsimp only [Option.toList, List.cons_append, List.nil_append]
    refine xJ_aload_n hX dX11_send_50 rfl ?_
    refine xJ_getR (b := (a + 44)) hX dX11_send_51 fd_X11_19 rfl (oX11_k hL47_0) (oX11_r1 hL47_0) ?_
    refine xJ_getR (b := (a + 60)) hX dX11_send_54 fd_X11_74 rfl (oX10_k (oX11_o1 hL47_0)) (oX10_r3 (oX11_o1 hL47_0)) ?_
    refine xJ_iload_n hX dX11_send_57 rfl ?_
    refine xJ_aload_n hX dX11_send_58 rfl ?_
    refine xJ_getR (b := (a + 44)) hX dX11_send_59 fd_X11_19 rfl (oX11_k hL47_0) (oX11_r1 hL47_0) ?_
    refine xJ_getI hX dX11_send_62 fd_X11_83 rfl (oX10_k (oX11_o1 hL47_0)) ?_
    refine xJ_iload_n hX dX11_send_65 rfl ?_
    refine xJ_callV (As := [_, _, _]) hX hB dX11_send_66 lk_X11_255 im_X5_add se_X5_add rfl (by decide) (oX5_k (oX10_o3 (oX11_o1 hL47_0))) (c_X5_add (oX10_o3 (oX11_o1 hL47_0)) hM47 hx1 (hM47 _ _) hx2 hp) (by decide) rfl rfl rfl (Nat.le_of_ble_eq_true rfl) (by decide) (by decide) (fun v t9 M66 hv => ?_) (fun _ _ _ q => q.elim)
    obtain ⟨rfl, hM66, ht9, hp⟩ := hv
    replace ht9 := ht9.symm
    subst ht9
    dsimp only [Option.toList, List.cons_append, List.nil_append]
    refine xJ_aload_n hX dX11_send_69 rfl ?_
    refine xJ_getR (b := (a + 44)) hX dX11_send_70 fd_X11_19 rfl (oX11_k hL47_0) (oX11_r1 hL47_0) ?_
    refine xJ_getR (b := (a + 60)) hX dX11_send_73 fd_X11_74 rfl (oX10_k (oX11_o1 hL47_0)) (oX10_r3 (oX11_o1 hL47_0)) ?_
    refine xJ_getI hX dX11_send_76 fd_X11_78 rfl (oX5_k (oX10_o3 (oX11_o1 hL47_0))) ?_
    refine xJ_iconst hX dX11_send_79 ?_
    refine xJ_isub hX dX11_send_80 ?_
    obtain ⟨h80, hp⟩ := hp
    refine xJ_iret hX hB dX11_send_81 (by decide) (by decide) ⟨_, rfl, h80, hM66, hq47, trivial, hp⟩
  · replace hp := hp.2 c26
    refine xJ_throw (i := 15) hX hB dX11_send_29 dX11_send_32 dX11_send_33 dX11_send_35 dX11_send_38 tw_X11_253 kl_X11_250 (by decide +kernel) (by decide +kernel) rfl (by decide) (Nat.le_of_ble_eq_true rfl) (by decide) (by decide) (fun z _ => ⟨⟨z, rfl⟩, hM11, hp⟩)
def p_X11_setThrift (t : xTh) (a : Nat) (x1 : Int) (x2 : Int) (M : xMe) (Q : Int → xTh → xMe → Prop) (E : String → xMe → Prop) : Prop :=
  p_X11_checkFlow a x1 M (fun M2 => p_X11_checkRange a x2 0 99 M2 (fun M10 => p_X3_keep t (a + 122) (a + 44) M10 (fun t21 M21 => ((0 : Int) ≤ x1 ∧ (x1 : Int) < 6) ∧ (∀ z36 : Int, z36 = M21 (a + 52) x1.toNat → ((0 : Int) ≤ x1 ∧ (x1 : Int) < 6) ∧ (∀ M49 : xMe, M49 = xw M21 (a + 52) x1.toNat x2 → Q z36 t21 M49)))) E) E
set_option maxHeartbeats 4000000 in
set_option maxRecDepth 100000 in
theorem c_X11_setThrift {G : xGx} {t : xTh} {M : xMe} {a : Nat} {x1 : Int} {x2 : Int} {Q : Int → xTh → xMe → Prop} {E : String → xMe → Prop} (hL : oX11 t a) (hXQ : oXQ t a) (hM : xMR M) (hx1 : xR x1) (hx2 : xR x2) (hp : p_X11_setThrift t a x1 x2 M Q E) : xCt G yX11_setThrift cX11_setThrift 4 (some .int) 8 2 12 [vr a, vi x1, vi x2] t M (fun v t' M' => ∃ r, v = some (vi r) ∧ xR r ∧ xMR M' ∧ xqs t t' ∧ True ∧ Q r t' M') (fun cls t' M' => (∃ z, t' = (z, t.2)) ∧ xMR M' ∧ E cls M') := by
  refine xCt_of (L0 := [vr a, vi x1, vi x2, vU]) (by decide +kernel) (Nat.le_of_ble_eq_true rfl) rfl ?_
  intro X hX hB
  unfold p_X11_setThrift at hp
  refine xJ_aload_n hX dX11_setThrift_0 rfl ?_
  refine xJ_iload_n hX dX11_setThrift_1 rfl ?_
  refine xJ_callV (As := [_]) hX hB dX11_setThrift_2 lk_X11_135 im_X11_checkFlow se_X11_checkFlow rfl (by decide) (oX11_k hL) (c_X11_checkFlow hL hM hx1 hp) (by decide) rfl rfl rfl (Nat.le_of_ble_eq_true rfl) (by decide) (by decide) (fun v t9 M2 hv => ?_) (fun _ _ _ q => q)
  obtain ⟨rfl, hM2, ht9, hp⟩ := hv
  replace ht9 := ht9.symm
  subst ht9
  dsimp only [Option.toList, List.cons_append, List.nil_append]
  refine xJ_aload_n hX dX11_setThrift_5 rfl ?_
  refine xJ_iload_n hX dX11_setThrift_6 rfl ?_
  refine xJ_iconst hX dX11_setThrift_7 ?_
  refine xJ_bipush hX dX11_setThrift_8 rfl ?_
  refine xJ_callV (As := [_, _, _]) hX hB dX11_setThrift_10 lk_X11_214 im_X11_checkRange se_X11_checkRange rfl (by decide) (oX11_k hL) (c_X11_checkRange hL hM2 hx2 ⟨by decide, by decide⟩ ⟨by decide, by decide⟩ hp) (by decide) rfl rfl rfl (Nat.le_of_ble_eq_true rfl) (by decide) (by decide) (fun v t9 M10 hv => ?_) (fun _ _ _ q => q)
  obtain ⟨rfl, hM10, ht9, hp⟩ := hv
  replace ht9 := ht9.symm
  subst ht9
  dsimp only [Option.toList, List.cons_append, List.nil_append]
  refine xJ_aload_n hX dX11_setThrift_13 rfl ?_
  refine xJ_getR (b := (a + 122)) hX dX11_setThrift_14 fd_X11_29 rfl (oX11_k hL) (oX11_r3 hL) ?_
  refine xJ_aload_n hX dX11_setThrift_17 rfl ?_
  refine xJ_getR (b := (a + 44)) hX dX11_setThrift_18 fd_X11_19 rfl (oX11_k hL) (oX11_r1 hL) ?_
  refine xJ_callV (As := [_]) hX hB dX11_setThrift_21 lk_X11_64 im_X3_keep se_X3_keep rfl (by decide) (oX3_k (oX11_o3 hL)) (c_X3_keep (oX11_o3 hL) (oX11_o1 hL) (oXQ_1 hXQ) hM10 hp) (by decide) rfl rfl rfl (Nat.le_of_ble_eq_true rfl) (by decide) (by decide) (fun v t21 M21 hv => ?_) (fun _ _ _ q => q.elim)
  obtain ⟨rfl, hM21, hq21, et21, hp⟩ := hv
  have hL21_0 := (oX11_le hq21.1 hL)
  have hxq21_0 := (oXQ_le hq21 hL hXQ)
  dsimp only [Option.toList, List.cons_append, List.nil_append]
  refine xJ_aload_n hX dX11_setThrift_24 rfl ?_
  refine xJ_getR (b := (a + 44)) hX dX11_setThrift_25 fd_X11_19 rfl (oX11_k hL21_0) (oX11_r1 hL21_0) ?_
  refine xJ_getR (b := (a + 49)) hX dX11_setThrift_28 fd_X11_93 rfl (oX10_k (oX11_o1 hL21_0)) (oX10_r1 (oX11_o1 hL21_0)) ?_
  refine xJ_getR (b := (a + 52)) hX dX11_setThrift_31 fd_X11_141 rfl (oX1_k (oX10_o1 (oX11_o1 hL21_0))) (oX1_r2 (oX10_o1 (oX11_o1 hL21_0))) ?_
  refine xJ_iload_n hX dX11_setThrift_34 rfl ?_
  obtain ⟨h35, hp⟩ := hp
  refine xJ_iald hX dX11_setThrift_35 (oX1_k2 (oX10_o1 (oX11_o1 hL21_0))) h35.1 (xnlt (oX1_n2 (oX10_o1 (oX11_o1 hL21_0))) h35.2) ?_
  refine xJ_istore_n hX dX11_setThrift_36 (Nat.le_of_ble_eq_true rfl) rfl ?_
  dsimp only [List.set]
  replace hp := hp _ rfl
  refine xJ_aload_n hX dX11_setThrift_37 rfl ?_
  refine xJ_getR (b := (a + 44)) hX dX11_setThrift_38 fd_X11_19 rfl (oX11_k hL21_0) (oX11_r1 hL21_0) ?_
  refine xJ_getR (b := (a + 49)) hX dX11_setThrift_41 fd_X11_93 rfl (oX10_k (oX11_o1 hL21_0)) (oX10_r1 (oX11_o1 hL21_0)) ?_
  refine xJ_getR (b := (a + 52)) hX dX11_setThrift_44 fd_X11_141 rfl (oX1_k (oX10_o1 (oX11_o1 hL21_0))) (oX1_r2 (oX10_o1 (oX11_o1 hL21_0))) ?_
  refine xJ_iload_n hX dX11_setThrift_47 rfl ?_
  refine xJ_iload_n hX dX11_setThrift_48 rfl ?_
  obtain ⟨h49, hp⟩ := hp
  refine xJ_iastM hX dX11_setThrift_49 (oX1_k2 (oX10_o1 (oX11_o1 hL21_0))) h49.1 (xnlt (oX1_n2 (oX10_o1 (oX11_o1 hL21_0))) h49.2) hM21 hx2 (fun M49 e49 hM49 => ?_)
  replace hp := hp M49 e49
  refine xJ_iload_n hX dX11_setThrift_50 rfl ?_
  refine xJ_iret hX hB dX11_setThrift_51 (by decide) (by decide) ⟨_, rfl, (hM21 _ _), hM49, hq21, trivial, hp⟩
def p_X11_undo (t : xTh) (a : Nat) (M : xMe) (Q : Int → xTh → xMe → Prop) : Prop :=
  p_X3_takeBack t (a + 122) (a + 44) M (fun r8 t8 M8 => Q r8 t8 M8)
set_option maxHeartbeats 4000000 in
set_option maxRecDepth 100000 in
theorem c_X11_undo {G : xGx} {t : xTh} {M : xMe} {a : Nat} {Q : Int → xTh → xMe → Prop} (hL : oX11 t a) (hXQ : oXQ t a) (hM : xMR M)(hp : p_X11_undo t a M Q) : xCt G yX11_undo cX11_undo 1 (some .int) 5 0 0 [vr a] t M (fun v t' M' => ∃ r, v = some (vi r) ∧ xR r ∧ xMR M' ∧ xqs t t' ∧ True ∧ Q r t' M') (fun _ _ _ => False) := by
  refine xCt_of (L0 := [vr a]) (by decide +kernel) (Nat.le_of_ble_eq_true rfl) rfl ?_
  intro X hX hB
  unfold p_X11_undo at hp
  refine xJ_aload_n hX dX11_undo_0 rfl ?_
  refine xJ_getR (b := (a + 122)) hX dX11_undo_1 fd_X11_29 rfl (oX11_k hL) (oX11_r3 hL) ?_
  refine xJ_aload_n hX dX11_undo_4 rfl ?_
  refine xJ_getR (b := (a + 44)) hX dX11_undo_5 fd_X11_19 rfl (oX11_k hL) (oX11_r1 hL) ?_
  refine xJ_callV (As := [_]) hX hB dX11_undo_8 lk_X11_256 im_X3_takeBack se_X3_takeBack rfl (by decide) (oX3_k (oX11_o3 hL)) (c_X3_takeBack (oX11_o3 hL) (oX11_o1 hL) (oXQ_3 hXQ) hM hp) (by decide) rfl rfl rfl (Nat.le_of_ble_eq_true rfl) (by decide) (by decide) (fun v t8 M8 hv => ?_) (fun _ _ _ q => q.elim)
  obtain ⟨r8, rfl, h8, hM8, hq8, et8, hp⟩ := hv
  have hL8_0 := (oX11_le hq8.1 hL)
  have hxq8_0 := (oXQ_le hq8 hL hXQ)
  dsimp only [Option.toList, List.cons_append, List.nil_append]
  refine xJ_iret hX hB dX11_undo_11 (by decide) (by decide) ⟨_, rfl, h8, hM8, hq8, trivial, hp⟩
