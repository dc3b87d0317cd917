/-! THE LAW'S WRAPPERS -/
/-- t' has t's cells, it may be greater -/
def xqw (t t' : xTh) : Prop := ∃ (z : Nat) (u : xTh), t' = (z, u.2) ∧ xqs t u
theorem xqw_s {t t' : xTh} (h : xqs t t') : xqw t t' := ⟨xz t', t', rfl, h⟩
theorem xqw_z {t : xTh} (z : Nat) : xqw t (z, t.2) := ⟨z, t, rfl, xqs_refl t⟩
theorem cw_L_load : Cond.codeWith yL_load cL_load 4 (some .int) [(0, 9, 12, 13)] ∈ xT := List.mem_filter.mpr ⟨List.mem_append_right _ (List.mem_of_getElem? (i := 646) (by decide +kernel)), by decide +kernel⟩
theorem lkw_L_load : xLkW RL 86 yL_load cL_load 4 (some .int) [(0, 9, 12, 13)] 3 := ⟨List.mem_filter.mpr ⟨List.mem_append_right _ (List.mem_of_getElem? (i := 644) (by decide +kernel)), by decide +kernel⟩, in_L, cw_L_load, ⟨by decide +kernel, by decide +kernel⟩, by decide +kernel, by decide⟩
def p_L_load (F : Nat) (t : xTh) (a : Nat) (x1 : Int) (o : Nat) (M : xMe) (Q : Int → xTh → xMe → Prop) : Prop :=
  p_X11_load F t a x1 M (fun r t1 M1 => ∀ M2 : xMe, M2 = xw M1 o 0 r → Q 0 t1 M2) (fun cls M1 => ∀ z : Nat, (cls = "java/lang/IllegalArgumentException" → Q 1 (z, t.2) M1) ∧ (cls = "java/lang/IllegalArgumentException"))
set_option maxHeartbeats 4000000 in
theorem c_L_load {G : xGx} {t : xTh} {M : xMe} {F : Nat} {a o : Nat} {x1 : Int} {Q : Int → xTh → xMe → Prop} (hL : oX11 t a) (hXQ : oXQ t a) (hko : xk t o = 15) (hno : xn t o = 1) (hM : xMR M) (hx1 : xR x1) (hp : p_L_load F t a x1 o M Q) : xCtW G yL_load cL_load 4 (some .int) [(0, 9, 12, 13)] 116 6 1027 [vr a, vi x1, vr o] t M (fun v t' M' => ∃ r, v = some (vi r) ∧ xR r ∧ xMR M' ∧ xqw t t' ∧ Q r t' M') := by
  refine xCtW_of (L0 := [vr a, vi x1, vr o, vU]) (by decide +kernel) (Nat.le_of_ble_eq_true rfl) rfl ?_
  intro X hX hB
  unfold p_L_load at hp
  refine xJ_aload_n hX dL_load_0 rfl ?_
  refine xJ_iconst hX dL_load_1 ?_
  refine xJ_aload_n hX dL_load_2 rfl ?_
  refine xJ_iload_n hX dL_load_3 rfl ?_
  refine xJ_callVH (As := [_]) hX hB dL_load_4 lk_L_7 im_X11_load se_X11_load rfl (by decide) (oX11_k hL) (c_X11_load hL hXQ hM hx1 hp) (by decide) rfl rfl rfl (Nat.le_of_ble_eq_true rfl) (by decide) (by decide) (fun v t1 M1 hv => ?_) (fun E t1 M1 hx => ?_)
  · obtain ⟨r, rfl, hr, hM1, hs, -, hq⟩ := hv
    dsimp only [Option.toList, List.cons_append, List.nil_append]
    refine xJ_i2l hX dL_load_7 hr ?_
    refine xJ_lastM hX dL_load_8 (xle_k hs.1 hko (by decide)) (by decide) (xnlt (xle_n hs.1 hko (by decide) hno) (by decide)) hM1 hr (fun M2 e2 hM2 => ?_)
    refine xJ_goto hX dL_load_9 (tgt := 15) (by decide) ?_
    refine xJ_iconst hX dL_load_15 ?_
    exact xJ_iretH hX hB dL_load_16 (by decide) (by decide) ⟨_, rfl, ⟨by decide, by decide⟩, hM2, xqw_s hs, hq M2 e2⟩
  · obtain ⟨⟨z, rfl⟩, hM1, hx⟩ := hx
    replace hx := hx z
    rcases hx.2 with rfl
    · refine ⟨12, ⟨[], (0, 9, 12, 13), [], "java/lang/IllegalArgumentException", rfl, (fun z hz => by cases hz), by decide, by decide, by decide, kl_L_13, by decide +kernel, rfl⟩, fun q => ?_⟩
      refine xJ_astore_n hX dL_load_12 (Nat.le_of_ble_eq_true rfl) rfl ?_
      dsimp only [List.set]
      refine xJ_iconst hX dL_load_13 ?_
      exact xJ_iretH hX hB dL_load_14 (by decide) (by decide) ⟨_, rfl, ⟨by decide, by decide⟩, hM1, xqw_z z, hx.1 rfl⟩
theorem cw_L_state : Cond.codeWith yL_state cL_state 4 (some .int) [(0, 9, 12, 13)] ∈ xT := List.mem_filter.mpr ⟨List.mem_append_right _ (List.mem_of_getElem? (i := 865) (by decide +kernel)), by decide +kernel⟩
theorem lkw_L_state : xLkW RL 100 yL_state cL_state 4 (some .int) [(0, 9, 12, 13)] 3 := ⟨List.mem_filter.mpr ⟨List.mem_append_right _ (List.mem_of_getElem? (i := 863) (by decide +kernel)), by decide +kernel⟩, in_L, cw_L_state, ⟨by decide +kernel, by decide +kernel⟩, by decide +kernel, by decide⟩
def p_L_state (F : Nat) (t : xTh) (a : Nat) (x1 : Int) (o : Nat) (M : xMe) (Q : Int → xTh → xMe → Prop) : Prop :=
  p_X11_state F a x1 M (fun r M1 => ∀ M2 : xMe, M2 = xw M1 o 0 r → Q 0 t M2) (fun cls M1 => ∀ z : Nat, (cls = "java/lang/IllegalArgumentException" → Q 1 (z, t.2) M1) ∧ (cls = "java/lang/IllegalArgumentException"))
set_option maxHeartbeats 4000000 in
theorem c_L_state {G : xGx} {t : xTh} {M : xMe} {F : Nat} {a o : Nat} {x1 : Int} {Q : Int → xTh → xMe → Prop} (hL : oX11 t a) (hko : xk t o = 15) (hno : xn t o = 1) (hM : xMR M) (hx1 : xR x1) (hp : p_L_state F t a x1 o M Q) : xCtW G yL_state cL_state 4 (some .int) [(0, 9, 12, 13)] 8 1 6 [vr a, vi x1, vr o] t M (fun v t' M' => ∃ r, v = some (vi r) ∧ xR r ∧ xMR M' ∧ xqw t t' ∧ Q r t' M') := by
  refine xCtW_of (L0 := [vr a, vi x1, vr o, vU]) (by decide +kernel) (Nat.le_of_ble_eq_true rfl) rfl ?_
  intro X hX hB
  unfold p_L_state at hp
  refine xJ_aload_n hX dL_state_0 rfl ?_
  refine xJ_iconst hX dL_state_1 ?_
  refine xJ_aload_n hX dL_state_2 rfl ?_
  refine xJ_iload_n hX dL_state_3 rfl ?_
  refine xJ_callVH (As := [_]) hX hB dL_state_4 lk_L_15 im_X11_state se_X11_state rfl (by decide) (oX11_k hL) (c_X11_state hL hM hx1 hp) (by decide) rfl rfl rfl (Nat.le_of_ble_eq_true rfl) (by decide) (by decide) (fun v t1 M1 hv => ?_) (fun E t1 M1 hx => ?_)
  · obtain ⟨r, rfl, hr, hM1, hs, hq⟩ := hv
    subst hs
    dsimp only [Option.toList, List.cons_append, List.nil_append]
    refine xJ_i2l hX dL_state_7 hr ?_
    refine xJ_lastM hX dL_state_8 hko (by decide) (xnlt hno (by decide)) hM1 hr (fun M2 e2 hM2 => ?_)
    refine xJ_goto hX dL_state_9 (tgt := 15) (by decide) ?_
    refine xJ_iconst hX dL_state_15 ?_
    exact xJ_iretH hX hB dL_state_16 (by decide) (by decide) ⟨_, rfl, ⟨by decide, by decide⟩, hM2, xqw_s (xqs_refl _), hq M2 e2⟩
  · obtain ⟨⟨z, rfl⟩, hM1, hx⟩ := hx
    replace hx := hx z
    rcases hx.2 with rfl
    · refine ⟨12, ⟨[], (0, 9, 12, 13), [], "java/lang/IllegalArgumentException", rfl, (fun z hz => by cases hz), by decide, by decide, by decide, kl_L_13, by decide +kernel, rfl⟩, fun q => ?_⟩
      refine xJ_astore_n hX dL_state_12 (Nat.le_of_ble_eq_true rfl) rfl ?_
      dsimp only [List.set]
      refine xJ_iconst hX dL_state_13 ?_
      exact xJ_iretH hX hB dL_state_14 (by decide) (by decide) ⟨_, rfl, ⟨by decide, by decide⟩, hM1, xqw_z z, hx.1 rfl⟩
theorem cw_L_gate : Cond.codeWith yL_gate cL_gate 5 (some .int) [(0, 10, 13, 22), (0, 10, 17, 13)] ∈ xT := List.mem_filter.mpr ⟨List.mem_append_right _ (List.mem_of_getElem? (i := 869) (by decide +kernel)), by decide +kernel⟩
theorem lkw_L_gate : xLkW RL 103 yL_gate cL_gate 5 (some .int) [(0, 10, 13, 22), (0, 10, 17, 13)] 4 := ⟨List.mem_filter.mpr ⟨List.mem_append_right _ (List.mem_of_getElem? (i := 867) (by decide +kernel)), by decide +kernel⟩, in_L, cw_L_gate, ⟨by decide +kernel, by decide +kernel⟩, by decide +kernel, by decide⟩
def p_L_gate (t : xTh) (a : Nat) (x1 : Int) (x2 : Int) (o : Nat) (M : xMe) (Q : Int → xTh → xMe → Prop) : Prop :=
  p_X11_gate a x1 x2 M (fun r M1 => ∀ M2 : xMe, M2 = xw M1 o 0 r → Q 0 t M2) (fun cls M1 => ∀ z : Nat, (cls = "java/lang/IndexOutOfBoundsException" → Q 1 (z, t.2) M1) ∧ (cls = "java/lang/IllegalArgumentException" → Q 2 (z, t.2) M1) ∧ (cls = "java/lang/IndexOutOfBoundsException" ∨ cls = "java/lang/IllegalArgumentException"))
set_option maxHeartbeats 4000000 in
theorem c_L_gate {G : xGx} {t : xTh} {M : xMe} {a o : Nat} {x1 x2 : Int} {Q : Int → xTh → xMe → Prop} (hL : oX11 t a) (hko : xk t o = 15) (hno : xn t o = 1) (hM : xMR M) (hx1 : xR x1) (hx2 : xR x2) (hp : p_L_gate t a x1 x2 o M Q) : xCtW G yL_gate cL_gate 5 (some .int) [(0, 10, 13, 22), (0, 10, 17, 13)] 9 2 12 [vr a, vi x1, vi x2, vr o] t M (fun v t' M' => ∃ r, v = some (vi r) ∧ xR r ∧ xMR M' ∧ xqw t t' ∧ Q r t' M') := by
  refine xCtW_of (L0 := [vr a, vi x1, vi x2, vr o, vU]) (by decide +kernel) (Nat.le_of_ble_eq_true rfl) rfl ?_
  intro X hX hB
  unfold p_L_gate at hp
  refine xJ_aload_n hX dL_gate_0 rfl ?_
  refine xJ_iconst hX dL_gate_1 ?_
  refine xJ_aload_n hX dL_gate_2 rfl ?_
  refine xJ_iload_n hX dL_gate_3 rfl ?_
  refine xJ_iload_n hX dL_gate_4 rfl ?_
  refine xJ_callVH (As := [_, _]) hX hB dL_gate_5 lk_L_18 im_X11_gate se_X11_gate rfl (by decide) (oX11_k hL) (c_X11_gate hL hM hx1 hx2 hp) (by decide) rfl rfl rfl (Nat.le_of_ble_eq_true rfl) (by decide) (by decide) (fun v t1 M1 hv => ?_) (fun E t1 M1 hx => ?_)
  · obtain ⟨r, rfl, hr, hM1, hs, hq⟩ := hv
    subst hs
    dsimp only [Option.toList, List.cons_append, List.nil_append]
    refine xJ_i2l hX dL_gate_8 hr ?_
    refine xJ_lastM hX dL_gate_9 hko (by decide) (xnlt hno (by decide)) hM1 hr (fun M2 e2 hM2 => ?_)
    refine xJ_goto hX dL_gate_10 (tgt := 21) (by decide) ?_
    refine xJ_iconst hX dL_gate_21 ?_
    exact xJ_iretH hX hB dL_gate_22 (by decide) (by decide) ⟨_, rfl, ⟨by decide, by decide⟩, hM2, xqw_s (xqs_refl _), hq M2 e2⟩
  · obtain ⟨⟨z, rfl⟩, hM1, hx⟩ := hx
    replace hx := hx z
    rcases hx.2.2 with rfl | rfl
    · refine ⟨13, ⟨[], (0, 10, 13, 22), [(0, 10, 17, 13)], "java/lang/IndexOutOfBoundsException", rfl, (fun z hz => by cases hz), by decide, by decide, by decide, kl_L_22, by decide +kernel, rfl⟩, fun q => ?_⟩
      refine xJ_astore hX dL_gate_13 (Nat.le_of_ble_eq_true rfl) rfl ?_
      dsimp only [List.set]
      refine xJ_iconst hX dL_gate_15 ?_
      exact xJ_iretH hX hB dL_gate_16 (by decide) (by decide) ⟨_, rfl, ⟨by decide, by decide⟩, hM1, xqw_z z, hx.1 rfl⟩
    · refine ⟨17, ⟨[(0, 10, 13, 22)], (0, 10, 17, 13), [], "java/lang/IllegalArgumentException", rfl, (fun z hz => by
        simp only [List.mem_cons, List.not_mem_nil, or_false] at hz
        rcases hz with rfl
        · exact ⟨by decide, "java/lang/IndexOutOfBoundsException", kl_L_22, by decide +kernel⟩
        ), by decide, by decide, by decide, kl_L_13, by decide +kernel, rfl⟩, fun q => ?_⟩
      refine xJ_astore hX dL_gate_17 (Nat.le_of_ble_eq_true rfl) rfl ?_
      dsimp only [List.set]
      refine xJ_iconst hX dL_gate_19 ?_
      exact xJ_iretH hX hB dL_gate_20 (by decide) (by decide) ⟨_, rfl, ⟨by decide, by decide⟩, hM1, xqw_z z, hx.2.1 rfl⟩
theorem cw_L_flow : Cond.codeWith yL_flow cL_flow 5 (some .int) [(0, 10, 13, 22), (0, 10, 17, 13)] ∈ xT := List.mem_filter.mpr ⟨List.mem_append_right _ (List.mem_of_getElem? (i := 877) (by decide +kernel)), by decide +kernel⟩
theorem lkw_L_flow : xLkW RL 107 yL_flow cL_flow 5 (some .int) [(0, 10, 13, 22), (0, 10, 17, 13)] 4 := ⟨List.mem_filter.mpr ⟨List.mem_append_right _ (List.mem_of_getElem? (i := 875) (by decide +kernel)), by decide +kernel⟩, in_L, cw_L_flow, ⟨by decide +kernel, by decide +kernel⟩, by decide +kernel, by decide⟩
def p_L_flow (F : Nat) (t : xTh) (a : Nat) (x1 : Int) (x2 : Int) (o : Nat) (M : xMe) (Q : Int → xTh → xMe → Prop) : Prop :=
  p_X11_flow F a x1 x2 M (fun r M1 => ∀ M2 : xMe, M2 = xw M1 o 0 r → Q 0 t M2) (fun cls M1 => ∀ z : Nat, (cls = "java/lang/IndexOutOfBoundsException" → Q 1 (z, t.2) M1) ∧ (cls = "java/lang/IllegalArgumentException" → Q 2 (z, t.2) M1) ∧ (cls = "java/lang/IndexOutOfBoundsException" ∨ cls = "java/lang/IllegalArgumentException"))
set_option maxHeartbeats 4000000 in
theorem c_L_flow {G : xGx} {t : xTh} {M : xMe} {F : Nat} {a o : Nat} {x1 x2 : Int} {Q : Int → xTh → xMe → Prop} (hL : oX11 t a) (hko : xk t o = 15) (hno : xn t o = 1) (hM : xMR M) (hx1 : xR x1) (hx2 : xR x2) (hp : p_L_flow F t a x1 x2 o M Q) : xCtW G yL_flow cL_flow 5 (some .int) [(0, 10, 13, 22), (0, 10, 17, 13)] 9 2 12 [vr a, vi x1, vi x2, vr o] t M (fun v t' M' => ∃ r, v = some (vi r) ∧ xR r ∧ xMR M' ∧ xqw t t' ∧ Q r t' M') := by
  refine xCtW_of (L0 := [vr a, vi x1, vi x2, vr o, vU]) (by decide +kernel) (Nat.le_of_ble_eq_true rfl) rfl ?_
  intro X hX hB
  unfold p_L_flow at hp
  refine xJ_aload_n hX dL_flow_0 rfl ?_
  refine xJ_iconst hX dL_flow_1 ?_
  refine xJ_aload_n hX dL_flow_2 rfl ?_
  refine xJ_iload_n hX dL_flow_3 rfl ?_
  refine xJ_iload_n hX dL_flow_4 rfl ?_
  refine xJ_callVH (As := [_, _]) hX hB dL_flow_5 lk_L_24 im_X11_flow se_X11_flow rfl (by decide) (oX11_k hL) (c_X11_flow hL hM hx1 hx2 hp) (by decide) rfl rfl rfl (Nat.le_of_ble_eq_true rfl) (by decide) (by decide) (fun v t1 M1 hv => ?_) (fun E t1 M1 hx => ?_)
  · obtain ⟨r, rfl, hr, hM1, hs, hq⟩ := hv
    subst hs
    dsimp only [Option.toList, List.cons_append, List.nil_append]
    refine xJ_i2l hX dL_flow_8 hr ?_
    refine xJ_lastM hX dL_flow_9 hko (by decide) (xnlt hno (by decide)) hM1 hr (fun M2 e2 hM2 => ?_)
    refine xJ_goto hX dL_flow_10 (tgt := 21) (by decide) ?_
    refine xJ_iconst hX dL_flow_21 ?_
    exact xJ_iretH hX hB dL_flow_22 (by decide) (by decide) ⟨_, rfl, ⟨by decide, by decide⟩, hM2, xqw_s (xqs_refl _), hq M2 e2⟩
  · obtain ⟨⟨z, rfl⟩, hM1, hx⟩ := hx
    replace hx := hx z
    rcases hx.2.2 with rfl | rfl
    · refine ⟨13, ⟨[], (0, 10, 13, 22), [(0, 10, 17, 13)], "java/lang/IndexOutOfBoundsException", rfl, (fun z hz => by cases hz), by decide, by decide, by decide, kl_L_22, by decide +kernel, rfl⟩, fun q => ?_⟩
      refine xJ_astore hX dL_flow_13 (Nat.le_of_ble_eq_true rfl) rfl ?_
      dsimp only [List.set]
      refine xJ_iconst hX dL_flow_15 ?_
      exact xJ_iretH hX hB dL_flow_16 (by decide) (by decide) ⟨_, rfl, ⟨by decide, by decide⟩, hM1, xqw_z z, hx.1 rfl⟩
    · refine ⟨17, ⟨[(0, 10, 13, 22)], (0, 10, 17, 13), [], "java/lang/IllegalArgumentException", rfl, (fun z hz => by
        simp only [List.mem_cons, List.not_mem_nil, or_false] at hz
        rcases hz with rfl
        · exact ⟨by decide, "java/lang/IndexOutOfBoundsException", kl_L_22, by decide +kernel⟩
        ), by decide, by decide, by decide, kl_L_13, by decide +kernel, rfl⟩, fun q => ?_⟩
      refine xJ_astore hX dL_flow_17 (Nat.le_of_ble_eq_true rfl) rfl ?_
      dsimp only [List.set]
      refine xJ_iconst hX dL_flow_19 ?_
      exact xJ_iretH hX hB dL_flow_20 (by decide) (by decide) ⟨_, rfl, ⟨by decide, by decide⟩, hM1, xqw_z z, hx.2.1 rfl⟩
theorem cw_L_route : Cond.codeWith yL_route cL_route 5 (some .int) [(0, 10, 13, 22), (0, 10, 17, 30)] ∈ xT := List.mem_filter.mpr ⟨List.mem_append_right _ (List.mem_of_getElem? (i := 881) (by decide +kernel)), by decide +kernel⟩
theorem lkw_L_route : xLkW RL 110 yL_route cL_route 5 (some .int) [(0, 10, 13, 22), (0, 10, 17, 30)] 4 := ⟨List.mem_filter.mpr ⟨List.mem_append_right _ (List.mem_of_getElem? (i := 879) (by decide +kernel)), by decide +kernel⟩, in_L, cw_L_route, ⟨by decide +kernel, by decide +kernel⟩, by decide +kernel, by decide⟩
def p_L_route (t : xTh) (a : Nat) (x1 : Int) (x2 : Int) (o : Nat) (M : xMe) (Q : Int → xTh → xMe → Prop) : Prop :=
  p_X11_route a x1 x2 M (fun r M1 => ∀ M2 : xMe, M2 = xw M1 o 0 r → Q 0 t M2) (fun cls M1 => ∀ z : Nat, (cls = "java/lang/IndexOutOfBoundsException" → Q 1 (z, t.2) M1) ∧ (cls = "java/util/NoSuchElementException" → Q 2 (z, t.2) M1) ∧ (cls = "java/lang/IndexOutOfBoundsException" ∨ cls = "java/util/NoSuchElementException"))
set_option maxHeartbeats 4000000 in
theorem c_L_route {G : xGx} {t : xTh} {M : xMe} {a o : Nat} {x1 x2 : Int} {Q : Int → xTh → xMe → Prop} (hL : oX11 t a) (hko : xk t o = 15) (hno : xn t o = 1) (hM : xMR M) (hx1 : xR x1) (hx2 : xR x2) (hp : p_L_route t a x1 x2 o M Q) : xCtW G yL_route cL_route 5 (some .int) [(0, 10, 13, 22), (0, 10, 17, 30)] 9 2 12 [vr a, vi x1, vi x2, vr o] t M (fun v t' M' => ∃ r, v = some (vi r) ∧ xR r ∧ xMR M' ∧ xqw t t' ∧ Q r t' M') := by
  refine xCtW_of (L0 := [vr a, vi x1, vi x2, vr o, vU]) (by decide +kernel) (Nat.le_of_ble_eq_true rfl) rfl ?_
  intro X hX hB
  unfold p_L_route at hp
  refine xJ_aload_n hX dL_route_0 rfl ?_
  refine xJ_iconst hX dL_route_1 ?_
  refine xJ_aload_n hX dL_route_2 rfl ?_
  refine xJ_iload_n hX dL_route_3 rfl ?_
  refine xJ_iload_n hX dL_route_4 rfl ?_
  refine xJ_callVH (As := [_, _]) hX hB dL_route_5 lk_L_27 im_X11_route se_X11_route rfl (by decide) (oX11_k hL) (c_X11_route hL hM hx1 hx2 hp) (by decide) rfl rfl rfl (Nat.le_of_ble_eq_true rfl) (by decide) (by decide) (fun v t1 M1 hv => ?_) (fun E t1 M1 hx => ?_)
  · obtain ⟨r, rfl, hr, hM1, hs, hq⟩ := hv
    subst hs
    dsimp only [Option.toList, List.cons_append, List.nil_append]
    refine xJ_i2l hX dL_route_8 hr ?_
    refine xJ_lastM hX dL_route_9 hko (by decide) (xnlt hno (by decide)) hM1 hr (fun M2 e2 hM2 => ?_)
    refine xJ_goto hX dL_route_10 (tgt := 21) (by decide) ?_
    refine xJ_iconst hX dL_route_21 ?_
    exact xJ_iretH hX hB dL_route_22 (by decide) (by decide) ⟨_, rfl, ⟨by decide, by decide⟩, hM2, xqw_s (xqs_refl _), hq M2 e2⟩
  · obtain ⟨⟨z, rfl⟩, hM1, hx⟩ := hx
    replace hx := hx z
    rcases hx.2.2 with rfl | rfl
    · refine ⟨13, ⟨[], (0, 10, 13, 22), [(0, 10, 17, 30)], "java/lang/IndexOutOfBoundsException", rfl, (fun z hz => by cases hz), by decide, by decide, by decide, kl_L_22, by decide +kernel, rfl⟩, fun q => ?_⟩
      refine xJ_astore hX dL_route_13 (Nat.le_of_ble_eq_true rfl) rfl ?_
      dsimp only [List.set]
      refine xJ_iconst hX dL_route_15 ?_
      exact xJ_iretH hX hB dL_route_16 (by decide) (by decide) ⟨_, rfl, ⟨by decide, by decide⟩, hM1, xqw_z z, hx.1 rfl⟩
    · refine ⟨17, ⟨[(0, 10, 13, 22)], (0, 10, 17, 30), [], "java/util/NoSuchElementException", rfl, (fun z hz => by
        simp only [List.mem_cons, List.not_mem_nil, or_false] at hz
        rcases hz with rfl
        · exact ⟨by decide, "java/lang/IndexOutOfBoundsException", kl_L_22, by decide +kernel⟩
        ), by decide, by decide, by decide, kl_L_30, by decide +kernel, rfl⟩, fun q => ?_⟩
      refine xJ_astore hX dL_route_17 (Nat.le_of_ble_eq_true rfl) rfl ?_
      dsimp only [List.set]
      refine xJ_iconst hX dL_route_19 ?_
      exact xJ_iretH hX hB dL_route_20 (by decide) (by decide) ⟨_, rfl, ⟨by decide, by decide⟩, hM1, xqw_z z, hx.2.1 rfl⟩
theorem cw_L_tokens : Cond.codeWith yL_tokens cL_tokens 5 (some .int) [(0, 10, 13, 22)] ∈ xT := List.mem_filter.mpr ⟨List.mem_append_right _ (List.mem_of_getElem? (i := 906) (by decide +kernel)), by decide +kernel⟩
theorem lkw_L_tokens : xLkW RL 113 yL_tokens cL_tokens 5 (some .int) [(0, 10, 13, 22)] 4 := ⟨List.mem_filter.mpr ⟨List.mem_append_right _ (List.mem_of_getElem? (i := 904) (by decide +kernel)), by decide +kernel⟩, in_L, cw_L_tokens, ⟨by decide +kernel, by decide +kernel⟩, by decide +kernel, by decide⟩
def p_L_tokens (t : xTh) (a : Nat) (x1 : Int) (x2 : Int) (o : Nat) (M : xMe) (Q : Int → xTh → xMe → Prop) : Prop :=
  p_X11_tokens a x1 x2 M (fun r M1 => ∀ M2 : xMe, M2 = xw M1 o 0 r → Q 0 t M2) (fun cls M1 => ∀ z : Nat, (cls = "java/lang/IndexOutOfBoundsException" → Q 1 (z, t.2) M1) ∧ (cls = "java/lang/IndexOutOfBoundsException"))
set_option maxHeartbeats 4000000 in
theorem c_L_tokens {G : xGx} {t : xTh} {M : xMe} {a o : Nat} {x1 x2 : Int} {Q : Int → xTh → xMe → Prop} (hL : oX11 t a) (hko : xk t o = 15) (hno : xn t o = 1) (hM : xMR M) (hx1 : xR x1) (hx2 : xR x2) (hp : p_L_tokens t a x1 x2 o M Q) : xCtW G yL_tokens cL_tokens 5 (some .int) [(0, 10, 13, 22)] 9 2 12 [vr a, vi x1, vi x2, vr o] t M (fun v t' M' => ∃ r, v = some (vi r) ∧ xR r ∧ xMR M' ∧ xqw t t' ∧ Q r t' M') := by
  refine xCtW_of (L0 := [vr a, vi x1, vi x2, vr o, vU]) (by decide +kernel) (Nat.le_of_ble_eq_true rfl) rfl ?_
  intro X hX hB
  unfold p_L_tokens at hp
  refine xJ_aload_n hX dL_tokens_0 rfl ?_
  refine xJ_iconst hX dL_tokens_1 ?_
  refine xJ_aload_n hX dL_tokens_2 rfl ?_
  refine xJ_iload_n hX dL_tokens_3 rfl ?_
  refine xJ_iload_n hX dL_tokens_4 rfl ?_
  refine xJ_callVH (As := [_, _]) hX hB dL_tokens_5 lk_L_32 im_X11_tokens se_X11_tokens rfl (by decide) (oX11_k hL) (c_X11_tokens hL hM hx1 hx2 hp) (by decide) rfl rfl rfl (Nat.le_of_ble_eq_true rfl) (by decide) (by decide) (fun v t1 M1 hv => ?_) (fun E t1 M1 hx => ?_)
  · obtain ⟨r, rfl, hr, hM1, hs, hq⟩ := hv
    subst hs
    dsimp only [Option.toList, List.cons_append, List.nil_append]
    refine xJ_i2l hX dL_tokens_8 hr ?_
    refine xJ_lastM hX dL_tokens_9 hko (by decide) (xnlt hno (by decide)) hM1 hr (fun M2 e2 hM2 => ?_)
    refine xJ_goto hX dL_tokens_10 (tgt := 17) (by decide) ?_
    refine xJ_iconst hX dL_tokens_17 ?_
    exact xJ_iretH hX hB dL_tokens_18 (by decide) (by decide) ⟨_, rfl, ⟨by decide, by decide⟩, hM2, xqw_s (xqs_refl _), hq M2 e2⟩
  · obtain ⟨⟨z, rfl⟩, hM1, hx⟩ := hx
    replace hx := hx z
    rcases hx.2 with rfl
    · refine ⟨13, ⟨[], (0, 10, 13, 22), [], "java/lang/IndexOutOfBoundsException", rfl, (fun z hz => by cases hz), by decide, by decide, by decide, kl_L_22, by decide +kernel, rfl⟩, fun q => ?_⟩
      refine xJ_astore hX dL_tokens_13 (Nat.le_of_ble_eq_true rfl) rfl ?_
      dsimp only [List.set]
      refine xJ_iconst hX dL_tokens_15 ?_
      exact xJ_iretH hX hB dL_tokens_16 (by decide) (by decide) ⟨_, rfl, ⟨by decide, by decide⟩, hM1, xqw_z z, hx.1 rfl⟩
theorem cw_L_queue : Cond.codeWith yL_queue cL_queue 5 (some .int) [(0, 10, 13, 22)] ∈ xT := List.mem_filter.mpr ⟨List.mem_append_right _ (List.mem_of_getElem? (i := 910) (by decide +kernel)), by decide +kernel⟩
theorem lkw_L_queue : xLkW RL 116 yL_queue cL_queue 5 (some .int) [(0, 10, 13, 22)] 4 := ⟨List.mem_filter.mpr ⟨List.mem_append_right _ (List.mem_of_getElem? (i := 908) (by decide +kernel)), by decide +kernel⟩, in_L, cw_L_queue, ⟨by decide +kernel, by decide +kernel⟩, by decide +kernel, by decide⟩
def p_L_queue (t : xTh) (a : Nat) (x1 : Int) (x2 : Int) (o : Nat) (M : xMe) (Q : Int → xTh → xMe → Prop) : Prop :=
  p_X11_queue a x1 x2 M (fun r M1 => ∀ M2 : xMe, M2 = xw M1 o 0 r → Q 0 t M2) (fun cls M1 => ∀ z : Nat, (cls = "java/lang/IndexOutOfBoundsException" → Q 1 (z, t.2) M1) ∧ (cls = "java/lang/IndexOutOfBoundsException"))
set_option maxHeartbeats 4000000 in
theorem c_L_queue {G : xGx} {t : xTh} {M : xMe} {a o : Nat} {x1 x2 : Int} {Q : Int → xTh → xMe → Prop} (hL : oX11 t a) (hko : xk t o = 15) (hno : xn t o = 1) (hM : xMR M) (hx1 : xR x1) (hx2 : xR x2) (hp : p_L_queue t a x1 x2 o M Q) : xCtW G yL_queue cL_queue 5 (some .int) [(0, 10, 13, 22)] 9 2 12 [vr a, vi x1, vi x2, vr o] t M (fun v t' M' => ∃ r, v = some (vi r) ∧ xR r ∧ xMR M' ∧ xqw t t' ∧ Q r t' M') := by
  refine xCtW_of (L0 := [vr a, vi x1, vi x2, vr o, vU]) (by decide +kernel) (Nat.le_of_ble_eq_true rfl) rfl ?_
  intro X hX hB
  unfold p_L_queue at hp
  refine xJ_aload_n hX dL_queue_0 rfl ?_
  refine xJ_iconst hX dL_queue_1 ?_
  refine xJ_aload_n hX dL_queue_2 rfl ?_
  refine xJ_iload_n hX dL_queue_3 rfl ?_
  refine xJ_iload_n hX dL_queue_4 rfl ?_
  refine xJ_callVH (As := [_, _]) hX hB dL_queue_5 lk_L_35 im_X11_queue se_X11_queue rfl (by decide) (oX11_k hL) (c_X11_queue hL hM hx1 hx2 hp) (by decide) rfl rfl rfl (Nat.le_of_ble_eq_true rfl) (by decide) (by decide) (fun v t1 M1 hv => ?_) (fun E t1 M1 hx => ?_)
  · obtain ⟨r, rfl, hr, hM1, hs, hq⟩ := hv
    subst hs
    dsimp only [Option.toList, List.cons_append, List.nil_append]
    refine xJ_i2l hX dL_queue_8 hr ?_
    refine xJ_lastM hX dL_queue_9 hko (by decide) (xnlt hno (by decide)) hM1 hr (fun M2 e2 hM2 => ?_)
    refine xJ_goto hX dL_queue_10 (tgt := 17) (by decide) ?_
    refine xJ_iconst hX dL_queue_17 ?_
    exact xJ_iretH hX hB dL_queue_18 (by decide) (by decide) ⟨_, rfl, ⟨by decide, by decide⟩, hM2, xqw_s (xqs_refl _), hq M2 e2⟩
  · obtain ⟨⟨z, rfl⟩, hM1, hx⟩ := hx
    replace hx := hx z
    rcases hx.2 with rfl
    · refine ⟨13, ⟨[], (0, 10, 13, 22), [], "java/lang/IndexOutOfBoundsException", rfl, (fun z hz => by cases hz), by decide, by decide, by decide, kl_L_22, by decide +kernel, rfl⟩, fun q => ?_⟩
      refine xJ_astore hX dL_queue_13 (Nat.le_of_ble_eq_true rfl) rfl ?_
      dsimp only [List.set]
      refine xJ_iconst hX dL_queue_15 ?_
      exact xJ_iretH hX hB dL_queue_16 (by decide) (by decide) ⟨_, rfl, ⟨by decide, by decide⟩, hM1, xqw_z z, hx.1 rfl⟩
theorem cw_L_packet : Cond.codeWith yL_packet cL_packet 5 (some .int) [(0, 10, 13, 22), (0, 10, 17, 13)] ∈ xT := List.mem_filter.mpr ⟨List.mem_append_right _ (List.mem_of_getElem? (i := 914) (by decide +kernel)), by decide +kernel⟩
theorem lkw_L_packet : xLkW RL 119 yL_packet cL_packet 5 (some .int) [(0, 10, 13, 22), (0, 10, 17, 13)] 4 := ⟨List.mem_filter.mpr ⟨List.mem_append_right _ (List.mem_of_getElem? (i := 912) (by decide +kernel)), by decide +kernel⟩, in_L, cw_L_packet, ⟨by decide +kernel, by decide +kernel⟩, by decide +kernel, by decide⟩
def p_L_packet (t : xTh) (a : Nat) (x1 : Int) (x2 : Int) (o : Nat) (M : xMe) (Q : Int → xTh → xMe → Prop) : Prop :=
  p_X11_packet a x1 x2 M (fun r M1 => ∀ M2 : xMe, M2 = xw M1 o 0 r → Q 0 t M2) (fun cls M1 => ∀ z : Nat, (cls = "java/lang/IndexOutOfBoundsException" → Q 1 (z, t.2) M1) ∧ (cls = "java/lang/IllegalArgumentException" → Q 2 (z, t.2) M1) ∧ (cls = "java/lang/IndexOutOfBoundsException" ∨ cls = "java/lang/IllegalArgumentException"))
set_option maxHeartbeats 4000000 in
theorem c_L_packet {G : xGx} {t : xTh} {M : xMe} {a o : Nat} {x1 x2 : Int} {Q : Int → xTh → xMe → Prop} (hL : oX11 t a) (hko : xk t o = 15) (hno : xn t o = 1) (hM : xMR M) (hx1 : xR x1) (hx2 : xR x2) (hp : p_L_packet t a x1 x2 o M Q) : xCtW G yL_packet cL_packet 5 (some .int) [(0, 10, 13, 22), (0, 10, 17, 13)] 9 2 12 [vr a, vi x1, vi x2, vr o] t M (fun v t' M' => ∃ r, v = some (vi r) ∧ xR r ∧ xMR M' ∧ xqw t t' ∧ Q r t' M') := by
  refine xCtW_of (L0 := [vr a, vi x1, vi x2, vr o, vU]) (by decide +kernel) (Nat.le_of_ble_eq_true rfl) rfl ?_
  intro X hX hB
  unfold p_L_packet at hp
  refine xJ_aload_n hX dL_packet_0 rfl ?_
  refine xJ_iconst hX dL_packet_1 ?_
  refine xJ_aload_n hX dL_packet_2 rfl ?_
  refine xJ_iload_n hX dL_packet_3 rfl ?_
  refine xJ_iload_n hX dL_packet_4 rfl ?_
  refine xJ_callVH (As := [_, _]) hX hB dL_packet_5 lk_L_38 im_X11_packet se_X11_packet rfl (by decide) (oX11_k hL) (c_X11_packet hL hM hx1 hx2 hp) (by decide) rfl rfl rfl (Nat.le_of_ble_eq_true rfl) (by decide) (by decide) (fun v t1 M1 hv => ?_) (fun E t1 M1 hx => ?_)
  · obtain ⟨r, rfl, hr, hM1, hs, hq⟩ := hv
    subst hs
    dsimp only [Option.toList, List.cons_append, List.nil_append]
    refine xJ_i2l hX dL_packet_8 hr ?_
    refine xJ_lastM hX dL_packet_9 hko (by decide) (xnlt hno (by decide)) hM1 hr (fun M2 e2 hM2 => ?_)
    refine xJ_goto hX dL_packet_10 (tgt := 21) (by decide) ?_
    refine xJ_iconst hX dL_packet_21 ?_
    exact xJ_iretH hX hB dL_packet_22 (by decide) (by decide) ⟨_, rfl, ⟨by decide, by decide⟩, hM2, xqw_s (xqs_refl _), hq M2 e2⟩
  · obtain ⟨⟨z, rfl⟩, hM1, hx⟩ := hx
    replace hx := hx z
    rcases hx.2.2 with rfl | rfl
    · refine ⟨13, ⟨[], (0, 10, 13, 22), [(0, 10, 17, 13)], "java/lang/IndexOutOfBoundsException", rfl, (fun z hz => by cases hz), by decide, by decide, by decide, kl_L_22, by decide +kernel, rfl⟩, fun q => ?_⟩
      refine xJ_astore hX dL_packet_13 (Nat.le_of_ble_eq_true rfl) rfl ?_
      dsimp only [List.set]
      refine xJ_iconst hX dL_packet_15 ?_
      exact xJ_iretH hX hB dL_packet_16 (by decide) (by decide) ⟨_, rfl, ⟨by decide, by decide⟩, hM1, xqw_z z, hx.1 rfl⟩
    · refine ⟨17, ⟨[(0, 10, 13, 22)], (0, 10, 17, 13), [], "java/lang/IllegalArgumentException", rfl, (fun z hz => by
        simp only [List.mem_cons, List.not_mem_nil, or_false] at hz
        rcases hz with rfl
        · exact ⟨by decide, "java/lang/IndexOutOfBoundsException", kl_L_22, by decide +kernel⟩
        ), by decide, by decide, by decide, kl_L_13, by decide +kernel, rfl⟩, fun q => ?_⟩
      refine xJ_astore hX dL_packet_17 (Nat.le_of_ble_eq_true rfl) rfl ?_
      dsimp only [List.set]
      refine xJ_iconst hX dL_packet_19 ?_
      exact xJ_iretH hX hB dL_packet_20 (by decide) (by decide) ⟨_, rfl, ⟨by decide, by decide⟩, hM1, xqw_z z, hx.2.1 rfl⟩
theorem cw_L_coupon : Cond.codeWith yL_coupon cL_coupon 5 (some .int) [(0, 10, 13, 22), (0, 10, 17, 13)] ∈ xT := List.mem_filter.mpr ⟨List.mem_append_right _ (List.mem_of_getElem? (i := 918) (by decide +kernel)), by decide +kernel⟩
theorem lkw_L_coupon : xLkW RL 122 yL_coupon cL_coupon 5 (some .int) [(0, 10, 13, 22), (0, 10, 17, 13)] 4 := ⟨List.mem_filter.mpr ⟨List.mem_append_right _ (List.mem_of_getElem? (i := 916) (by decide +kernel)), by decide +kernel⟩, in_L, cw_L_coupon, ⟨by decide +kernel, by decide +kernel⟩, by decide +kernel, by decide⟩
def p_L_coupon (t : xTh) (a : Nat) (x1 : Int) (x2 : Int) (o : Nat) (M : xMe) (Q : Int → xTh → xMe → Prop) : Prop :=
  p_X11_coupon a x1 x2 M (fun r M1 => ∀ M2 : xMe, M2 = xw M1 o 0 r → Q 0 t M2) (fun cls M1 => ∀ z : Nat, (cls = "java/lang/IndexOutOfBoundsException" → Q 1 (z, t.2) M1) ∧ (cls = "java/lang/IllegalArgumentException" → Q 2 (z, t.2) M1) ∧ (cls = "java/lang/IndexOutOfBoundsException" ∨ cls = "java/lang/IllegalArgumentException"))
set_option maxHeartbeats 4000000 in
theorem c_L_coupon {G : xGx} {t : xTh} {M : xMe} {a o : Nat} {x1 x2 : Int} {Q : Int → xTh → xMe → Prop} (hL : oX11 t a) (hko : xk t o = 15) (hno : xn t o = 1) (hM : xMR M) (hx1 : xR x1) (hx2 : xR x2) (hp : p_L_coupon t a x1 x2 o M Q) : xCtW G yL_coupon cL_coupon 5 (some .int) [(0, 10, 13, 22), (0, 10, 17, 13)] 9 2 12 [vr a, vi x1, vi x2, vr o] t M (fun v t' M' => ∃ r, v = some (vi r) ∧ xR r ∧ xMR M' ∧ xqw t t' ∧ Q r t' M') := by
  refine xCtW_of (L0 := [vr a, vi x1, vi x2, vr o, vU]) (by decide +kernel) (Nat.le_of_ble_eq_true rfl) rfl ?_
  intro X hX hB
  unfold p_L_coupon at hp
  refine xJ_aload_n hX dL_coupon_0 rfl ?_
  refine xJ_iconst hX dL_coupon_1 ?_
  refine xJ_aload_n hX dL_coupon_2 rfl ?_
  refine xJ_iload_n hX dL_coupon_3 rfl ?_
  refine xJ_iload_n hX dL_coupon_4 rfl ?_
  refine xJ_callVH (As := [_, _]) hX hB dL_coupon_5 lk_L_41 im_X11_coupon se_X11_coupon rfl (by decide) (oX11_k hL) (c_X11_coupon hL hM hx1 hx2 hp) (by decide) rfl rfl rfl (Nat.le_of_ble_eq_true rfl) (by decide) (by decide) (fun v t1 M1 hv => ?_) (fun E t1 M1 hx => ?_)
  · obtain ⟨r, rfl, hr, hM1, hs, hq⟩ := hv
    subst hs
    dsimp only [Option.toList, List.cons_append, List.nil_append]
    refine xJ_i2l hX dL_coupon_8 hr ?_
    refine xJ_lastM hX dL_coupon_9 hko (by decide) (xnlt hno (by decide)) hM1 hr (fun M2 e2 hM2 => ?_)
    refine xJ_goto hX dL_coupon_10 (tgt := 21) (by decide) ?_
    refine xJ_iconst hX dL_coupon_21 ?_
    exact xJ_iretH hX hB dL_coupon_22 (by decide) (by decide) ⟨_, rfl, ⟨by decide, by decide⟩, hM2, xqw_s (xqs_refl _), hq M2 e2⟩
  · obtain ⟨⟨z, rfl⟩, hM1, hx⟩ := hx
    replace hx := hx z
    rcases hx.2.2 with rfl | rfl
    · refine ⟨13, ⟨[], (0, 10, 13, 22), [(0, 10, 17, 13)], "java/lang/IndexOutOfBoundsException", rfl, (fun z hz => by cases hz), by decide, by decide, by decide, kl_L_22, by decide +kernel, rfl⟩, fun q => ?_⟩
      refine xJ_astore hX dL_coupon_13 (Nat.le_of_ble_eq_true rfl) rfl ?_
      dsimp only [List.set]
      refine xJ_iconst hX dL_coupon_15 ?_
      exact xJ_iretH hX hB dL_coupon_16 (by decide) (by decide) ⟨_, rfl, ⟨by decide, by decide⟩, hM1, xqw_z z, hx.1 rfl⟩
    · refine ⟨17, ⟨[(0, 10, 13, 22)], (0, 10, 17, 13), [], "java/lang/IllegalArgumentException", rfl, (fun z hz => by
        simp only [List.mem_cons, List.not_mem_nil, or_false] at hz
        rcases hz with rfl
        · exact ⟨by decide, "java/lang/IndexOutOfBoundsException", kl_L_22, by decide +kernel⟩
        ), by decide, by decide, by decide, kl_L_13, by decide +kernel, rfl⟩, fun q => ?_⟩
      refine xJ_astore hX dL_coupon_17 (Nat.le_of_ble_eq_true rfl) rfl ?_
      dsimp only [List.set]
      refine xJ_iconst hX dL_coupon_19 ?_
      exact xJ_iretH hX hB dL_coupon_20 (by decide) (by decide) ⟨_, rfl, ⟨by decide, by decide⟩, hM1, xqw_z z, hx.2.1 rfl⟩
theorem cw_L_loadOver : Cond.codeWith yL_loadOver cL_loadOver 6 (some .int) [(0, 12, 15, 22), (0, 12, 19, 13)] ∈ xT := List.mem_filter.mpr ⟨List.mem_append_right _ (List.mem_of_getElem? (i := 922) (by decide +kernel)), by decide +kernel⟩
theorem lkw_L_loadOver : xLkW RL 125 yL_loadOver cL_loadOver 6 (some .int) [(0, 12, 15, 22), (0, 12, 19, 13)] 5 := ⟨List.mem_filter.mpr ⟨List.mem_append_right _ (List.mem_of_getElem? (i := 920) (by decide +kernel)), by decide +kernel⟩, in_L, cw_L_loadOver, ⟨by decide +kernel, by decide +kernel⟩, by decide +kernel, by decide⟩
def p_L_loadOver (F : Nat) (t : xTh) (a : Nat) (x1 : Int) (x2 : Int) (x3 : Int) (o : Nat) (M : xMe) (Q : Int → xTh → xMe → Prop) : Prop :=
  p_X11_loadOver F a x1 x2 x3 M (fun r M1 => ∀ M2 : xMe, M2 = xw M1 o 0 r → Q 0 t M2) (fun cls M1 => ∀ z : Nat, (cls = "java/lang/IndexOutOfBoundsException" → Q 1 (z, t.2) M1) ∧ (cls = "java/lang/IllegalArgumentException" → Q 2 (z, t.2) M1) ∧ (cls = "java/lang/IndexOutOfBoundsException" ∨ cls = "java/lang/IllegalArgumentException"))
set_option maxHeartbeats 4000000 in
theorem c_L_loadOver {G : xGx} {t : xTh} {M : xMe} {F : Nat} {a o : Nat} {x1 x2 x3 : Int} {Q : Int → xTh → xMe → Prop} (hL : oX11 t a) (hko : xk t o = 15) (hno : xn t o = 1) (hM : xMR M) (hx1 : xR x1) (hx2 : xR x2) (hx3 : xR x3) (hp : p_L_loadOver F t a x1 x2 x3 o M Q) : xCtW G yL_loadOver cL_loadOver 6 (some .int) [(0, 12, 15, 22), (0, 12, 19, 13)] 9 3 18 [vr a, vi x1, vi x2, vi x3, vr o] t M (fun v t' M' => ∃ r, v = some (vi r) ∧ xR r ∧ xMR M' ∧ xqw t t' ∧ Q r t' M') := by
  refine xCtW_of (L0 := [vr a, vi x1, vi x2, vi x3, vr o, vU]) (by decide +kernel) (Nat.le_of_ble_eq_true rfl) rfl ?_
  intro X hX hB
  unfold p_L_loadOver at hp
  refine xJ_aload hX dL_loadOver_0 rfl ?_
  refine xJ_iconst hX dL_loadOver_2 ?_
  refine xJ_aload_n hX dL_loadOver_3 rfl ?_
  refine xJ_iload_n hX dL_loadOver_4 rfl ?_
  refine xJ_iload_n hX dL_loadOver_5 rfl ?_
  refine xJ_iload_n hX dL_loadOver_6 rfl ?_
  refine xJ_callVH (As := [_, _, _]) hX hB dL_loadOver_7 lk_L_44 im_X11_loadOver se_X11_loadOver rfl (by decide) (oX11_k hL) (c_X11_loadOver hL hM hx1 hx2 hx3 hp) (by decide) rfl rfl rfl (Nat.le_of_ble_eq_true rfl) (by decide) (by decide) (fun v t1 M1 hv => ?_) (fun E t1 M1 hx => ?_)
  · obtain ⟨r, rfl, hr, hM1, hs, hq⟩ := hv
    subst hs
    dsimp only [Option.toList, List.cons_append, List.nil_append]
    refine xJ_i2l hX dL_loadOver_10 hr ?_
    refine xJ_lastM hX dL_loadOver_11 hko (by decide) (xnlt hno (by decide)) hM1 hr (fun M2 e2 hM2 => ?_)
    refine xJ_goto hX dL_loadOver_12 (tgt := 23) (by decide) ?_
    refine xJ_iconst hX dL_loadOver_23 ?_
    exact xJ_iretH hX hB dL_loadOver_24 (by decide) (by decide) ⟨_, rfl, ⟨by decide, by decide⟩, hM2, xqw_s (xqs_refl _), hq M2 e2⟩
  · obtain ⟨⟨z, rfl⟩, hM1, hx⟩ := hx
    replace hx := hx z
    rcases hx.2.2 with rfl | rfl
    · refine ⟨15, ⟨[], (0, 12, 15, 22), [(0, 12, 19, 13)], "java/lang/IndexOutOfBoundsException", rfl, (fun z hz => by cases hz), by decide, by decide, by decide, kl_L_22, by decide +kernel, rfl⟩, fun q => ?_⟩
      refine xJ_astore hX dL_loadOver_15 (Nat.le_of_ble_eq_true rfl) rfl ?_
      dsimp only [List.set]
      refine xJ_iconst hX dL_loadOver_17 ?_
      exact xJ_iretH hX hB dL_loadOver_18 (by decide) (by decide) ⟨_, rfl, ⟨by decide, by decide⟩, hM1, xqw_z z, hx.1 rfl⟩
    · refine ⟨19, ⟨[(0, 12, 15, 22)], (0, 12, 19, 13), [], "java/lang/IllegalArgumentException", rfl, (fun z hz => by
        simp only [List.mem_cons, List.not_mem_nil, or_false] at hz
        rcases hz with rfl
        · exact ⟨by decide, "java/lang/IndexOutOfBoundsException", kl_L_22, by decide +kernel⟩
        ), by decide, by decide, by decide, kl_L_13, by decide +kernel, rfl⟩, fun q => ?_⟩
      refine xJ_astore hX dL_loadOver_19 (Nat.le_of_ble_eq_true rfl) rfl ?_
      dsimp only [List.set]
      refine xJ_iconst hX dL_loadOver_21 ?_
      exact xJ_iretH hX hB dL_loadOver_22 (by decide) (by decide) ⟨_, rfl, ⟨by decide, by decide⟩, hM1, xqw_z z, hx.2.1 rfl⟩
theorem cw_L_curve : Cond.codeWith yL_curve cL_curve 5 (some .int) [(0, 10, 13, 22), (0, 10, 17, 13)] ∈ xT := List.mem_filter.mpr ⟨List.mem_append_right _ (List.mem_of_getElem? (i := 945) (by decide +kernel)), by decide +kernel⟩
theorem lkw_L_curve : xLkW RL 129 yL_curve cL_curve 5 (some .int) [(0, 10, 13, 22), (0, 10, 17, 13)] 4 := ⟨List.mem_filter.mpr ⟨List.mem_append_right _ (List.mem_of_getElem? (i := 943) (by decide +kernel)), by decide +kernel⟩, in_L, cw_L_curve, ⟨by decide +kernel, by decide +kernel⟩, by decide +kernel, by decide⟩
def p_L_curve (t : xTh) (a : Nat) (x1 : Int) (x2 : Int) (o : Nat) (M : xMe) (Q : Int → xTh → xMe → Prop) : Prop :=
  p_X11_curve a x1 x2 M (fun r M1 => ∀ M2 : xMe, M2 = xw M1 o 0 r → Q 0 t M2) (fun cls M1 => ∀ z : Nat, (cls = "java/lang/IndexOutOfBoundsException" → Q 1 (z, t.2) M1) ∧ (cls = "java/lang/IllegalArgumentException" → Q 2 (z, t.2) M1) ∧ (cls = "java/lang/IndexOutOfBoundsException" ∨ cls = "java/lang/IllegalArgumentException"))
set_option maxHeartbeats 4000000 in
theorem c_L_curve {G : xGx} {t : xTh} {M : xMe} {a o : Nat} {x1 x2 : Int} {Q : Int → xTh → xMe → Prop} (hL : oX11 t a) (hko : xk t o = 15) (hno : xn t o = 1) (hM : xMR M) (hx1 : xR x1) (hx2 : xR x2) (hp : p_L_curve t a x1 x2 o M Q) : xCtW G yL_curve cL_curve 5 (some .int) [(0, 10, 13, 22), (0, 10, 17, 13)] 9 2 12 [vr a, vi x1, vi x2, vr o] t M (fun v t' M' => ∃ r, v = some (vi r) ∧ xR r ∧ xMR M' ∧ xqw t t' ∧ Q r t' M') := by
  refine xCtW_of (L0 := [vr a, vi x1, vi x2, vr o, vU]) (by decide +kernel) (Nat.le_of_ble_eq_true rfl) rfl ?_
  intro X hX hB
  unfold p_L_curve at hp
  refine xJ_aload_n hX dL_curve_0 rfl ?_
  refine xJ_iconst hX dL_curve_1 ?_
  refine xJ_aload_n hX dL_curve_2 rfl ?_
  refine xJ_iload_n hX dL_curve_3 rfl ?_
  refine xJ_iload_n hX dL_curve_4 rfl ?_
  refine xJ_callVH (As := [_, _]) hX hB dL_curve_5 lk_L_48 im_X11_curve se_X11_curve rfl (by decide) (oX11_k hL) (c_X11_curve hL hM hx1 hx2 hp) (by decide) rfl rfl rfl (Nat.le_of_ble_eq_true rfl) (by decide) (by decide) (fun v t1 M1 hv => ?_) (fun E t1 M1 hx => ?_)
  · obtain ⟨r, rfl, hr, hM1, hs, hq⟩ := hv
    subst hs
    dsimp only [Option.toList, List.cons_append, List.nil_append]
    refine xJ_i2l hX dL_curve_8 hr ?_
    refine xJ_lastM hX dL_curve_9 hko (by decide) (xnlt hno (by decide)) hM1 hr (fun M2 e2 hM2 => ?_)
    refine xJ_goto hX dL_curve_10 (tgt := 21) (by decide) ?_
    refine xJ_iconst hX dL_curve_21 ?_
    exact xJ_iretH hX hB dL_curve_22 (by decide) (by decide) ⟨_, rfl, ⟨by decide, by decide⟩, hM2, xqw_s (xqs_refl _), hq M2 e2⟩
  · obtain ⟨⟨z, rfl⟩, hM1, hx⟩ := hx
    replace hx := hx z
    rcases hx.2.2 with rfl | rfl
    · refine ⟨13, ⟨[], (0, 10, 13, 22), [(0, 10, 17, 13)], "java/lang/IndexOutOfBoundsException", rfl, (fun z hz => by cases hz), by decide, by decide, by decide, kl_L_22, by decide +kernel, rfl⟩, fun q => ?_⟩
      refine xJ_astore hX dL_curve_13 (Nat.le_of_ble_eq_true rfl) rfl ?_
      dsimp only [List.set]
      refine xJ_iconst hX dL_curve_15 ?_
      exact xJ_iretH hX hB dL_curve_16 (by decide) (by decide) ⟨_, rfl, ⟨by decide, by decide⟩, hM1, xqw_z z, hx.1 rfl⟩
    · refine ⟨17, ⟨[(0, 10, 13, 22)], (0, 10, 17, 13), [], "java/lang/IllegalArgumentException", rfl, (fun z hz => by
        simp only [List.mem_cons, List.not_mem_nil, or_false] at hz
        rcases hz with rfl
        · exact ⟨by decide, "java/lang/IndexOutOfBoundsException", kl_L_22, by decide +kernel⟩
        ), by decide, by decide, by decide, kl_L_13, by decide +kernel, rfl⟩, fun q => ?_⟩
      refine xJ_astore hX dL_curve_17 (Nat.le_of_ble_eq_true rfl) rfl ?_
      dsimp only [List.set]
      refine xJ_iconst hX dL_curve_19 ?_
      exact xJ_iretH hX hB dL_curve_20 (by decide) (by decide) ⟨_, rfl, ⟨by decide, by decide⟩, hM1, xqw_z z, hx.2.1 rfl⟩
theorem cw_L_endsAt : Cond.codeWith yL_endsAt cL_endsAt 4 (some .int) [(0, 9, 12, 22)] ∈ xT := List.mem_filter.mpr ⟨List.mem_append_right _ (List.mem_of_getElem? (i := 952) (by decide +kernel)), by decide +kernel⟩
theorem lkw_L_endsAt : xLkW RL 132 yL_endsAt cL_endsAt 4 (some .int) [(0, 9, 12, 22)] 3 := ⟨List.mem_filter.mpr ⟨List.mem_append_right _ (List.mem_of_getElem? (i := 950) (by decide +kernel)), by decide +kernel⟩, in_L, cw_L_endsAt, ⟨by decide +kernel, by decide +kernel⟩, by decide +kernel, by decide⟩
def p_L_endsAt (F : Nat) (t : xTh) (a : Nat) (x1 : Int) (o : Nat) (M : xMe) (Q : Int → xTh → xMe → Prop) : Prop :=
  p_X11_endsAt F t a x1 M (fun r t1 M1 => ∀ M2 : xMe, M2 = xw M1 o 0 r → Q 0 t1 M2) (fun cls M1 => ∀ z : Nat, (cls = "java/lang/IndexOutOfBoundsException" → Q 1 (z, t.2) M1) ∧ (cls = "java/lang/IndexOutOfBoundsException"))
set_option maxHeartbeats 4000000 in
theorem c_L_endsAt {G : xGx} {t : xTh} {M : xMe} {F : Nat} {a o : Nat} {x1 : Int} {Q : Int → xTh → xMe → Prop} (hL : oX11 t a) (hXQ : oXQ t a) (hko : xk t o = 15) (hno : xn t o = 1) (hM : xMR M) (hx1 : xR x1) (hp : p_L_endsAt F t a x1 o M Q) : xCtW G yL_endsAt cL_endsAt 4 (some .int) [(0, 9, 12, 22)] 9 1 6 [vr a, vi x1, vr o] t M (fun v t' M' => ∃ r, v = some (vi r) ∧ xR r ∧ xMR M' ∧ xqw t t' ∧ Q r t' M') := by
  refine xCtW_of (L0 := [vr a, vi x1, vr o, vU]) (by decide +kernel) (Nat.le_of_ble_eq_true rfl) rfl ?_
  intro X hX hB
  unfold p_L_endsAt at hp
  refine xJ_aload_n hX dL_endsAt_0 rfl ?_
  refine xJ_iconst hX dL_endsAt_1 ?_
  refine xJ_aload_n hX dL_endsAt_2 rfl ?_
  refine xJ_iload_n hX dL_endsAt_3 rfl ?_
  refine xJ_callVH (As := [_]) hX hB dL_endsAt_4 lk_L_51 im_X11_endsAt se_X11_endsAt rfl (by decide) (oX11_k hL) (c_X11_endsAt hL hXQ hM hx1 hp) (by decide) rfl rfl rfl (Nat.le_of_ble_eq_true rfl) (by decide) (by decide) (fun v t1 M1 hv => ?_) (fun E t1 M1 hx => ?_)
  · obtain ⟨r, rfl, hr, hM1, hs, -, hq⟩ := hv
    dsimp only [Option.toList, List.cons_append, List.nil_append]
    refine xJ_i2l hX dL_endsAt_7 hr ?_
    refine xJ_lastM hX dL_endsAt_8 (xle_k hs.1 hko (by decide)) (by decide) (xnlt (xle_n hs.1 hko (by decide) hno) (by decide)) hM1 hr (fun M2 e2 hM2 => ?_)
    refine xJ_goto hX dL_endsAt_9 (tgt := 15) (by decide) ?_
    refine xJ_iconst hX dL_endsAt_15 ?_
    exact xJ_iretH hX hB dL_endsAt_16 (by decide) (by decide) ⟨_, rfl, ⟨by decide, by decide⟩, hM2, xqw_s hs, hq M2 e2⟩
  · obtain ⟨⟨z, rfl⟩, hM1, hx⟩ := hx
    replace hx := hx z
    rcases hx.2 with rfl
    · refine ⟨12, ⟨[], (0, 9, 12, 22), [], "java/lang/IndexOutOfBoundsException", rfl, (fun z hz => by cases hz), by decide, by decide, by decide, kl_L_22, by decide +kernel, rfl⟩, fun q => ?_⟩
      refine xJ_astore_n hX dL_endsAt_12 (Nat.le_of_ble_eq_true rfl) rfl ?_
      dsimp only [List.set]
      refine xJ_iconst hX dL_endsAt_13 ?_
      exact xJ_iretH hX hB dL_endsAt_14 (by decide) (by decide) ⟨_, rfl, ⟨by decide, by decide⟩, hM1, xqw_z z, hx.1 rfl⟩
theorem cw_L_billAfter : Cond.codeWith yL_billAfter cL_billAfter 5 (some .int) [(0, 10, 13, 22), (0, 10, 17, 13)] ∈ xT := List.mem_filter.mpr ⟨List.mem_append_right _ (List.mem_of_getElem? (i := 1067) (by decide +kernel)), by decide +kernel⟩
theorem lkw_L_billAfter : xLkW RL 135 yL_billAfter cL_billAfter 5 (some .int) [(0, 10, 13, 22), (0, 10, 17, 13)] 4 := ⟨List.mem_filter.mpr ⟨List.mem_append_right _ (List.mem_of_getElem? (i := 1065) (by decide +kernel)), by decide +kernel⟩, in_L, cw_L_billAfter, ⟨by decide +kernel, by decide +kernel⟩, by decide +kernel, by decide⟩
def p_L_billAfter (F : Nat) (t : xTh) (a : Nat) (x1 : Int) (x2 : Int) (o : Nat) (M : xMe) (Q : Int → xTh → xMe → Prop) : Prop :=
  p_X11_billAfter F t a x1 x2 M (fun r t1 M1 => ∀ M2 : xMe, M2 = xw M1 o 0 r → Q 0 t1 M2) (fun cls M1 => ∀ z : Nat, (cls = "java/lang/IndexOutOfBoundsException" → Q 1 (z, t.2) M1) ∧ (cls = "java/lang/IllegalArgumentException" → Q 2 (z, t.2) M1) ∧ (cls = "java/lang/IndexOutOfBoundsException" ∨ cls = "java/lang/IllegalArgumentException"))
set_option maxHeartbeats 4000000 in
theorem c_L_billAfter {G : xGx} {t : xTh} {M : xMe} {F : Nat} {a o : Nat} {x1 x2 : Int} {Q : Int → xTh → xMe → Prop} (hL : oX11 t a) (hXQ : oXQ t a) (hko : xk t o = 15) (hno : xn t o = 1) (hM : xMR M) (hx1 : xR x1) (hx2 : xR x2) (hp : p_L_billAfter F t a x1 x2 o M Q) : xCtW G yL_billAfter cL_billAfter 5 (some .int) [(0, 10, 13, 22), (0, 10, 17, 13)] 9 2 12 [vr a, vi x1, vi x2, vr o] t M (fun v t' M' => ∃ r, v = some (vi r) ∧ xR r ∧ xMR M' ∧ xqw t t' ∧ Q r t' M') := by
  refine xCtW_of (L0 := [vr a, vi x1, vi x2, vr o, vU]) (by decide +kernel) (Nat.le_of_ble_eq_true rfl) rfl ?_
  intro X hX hB
  unfold p_L_billAfter at hp
  refine xJ_aload_n hX dL_billAfter_0 rfl ?_
  refine xJ_iconst hX dL_billAfter_1 ?_
  refine xJ_aload_n hX dL_billAfter_2 rfl ?_
  refine xJ_iload_n hX dL_billAfter_3 rfl ?_
  refine xJ_iload_n hX dL_billAfter_4 rfl ?_
  refine xJ_callVH (As := [_, _]) hX hB dL_billAfter_5 lk_L_54 im_X11_billAfter se_X11_billAfter rfl (by decide) (oX11_k hL) (c_X11_billAfter hL hXQ hM hx1 hx2 hp) (by decide) rfl rfl rfl (Nat.le_of_ble_eq_true rfl) (by decide) (by decide) (fun v t1 M1 hv => ?_) (fun E t1 M1 hx => ?_)
  · obtain ⟨r, rfl, hr, hM1, hs, -, hq⟩ := hv
    dsimp only [Option.toList, List.cons_append, List.nil_append]
    refine xJ_i2l hX dL_billAfter_8 hr ?_
    refine xJ_lastM hX dL_billAfter_9 (xle_k hs.1 hko (by decide)) (by decide) (xnlt (xle_n hs.1 hko (by decide) hno) (by decide)) hM1 hr (fun M2 e2 hM2 => ?_)
    refine xJ_goto hX dL_billAfter_10 (tgt := 21) (by decide) ?_
    refine xJ_iconst hX dL_billAfter_21 ?_
    exact xJ_iretH hX hB dL_billAfter_22 (by decide) (by decide) ⟨_, rfl, ⟨by decide, by decide⟩, hM2, xqw_s hs, hq M2 e2⟩
  · obtain ⟨⟨z, rfl⟩, hM1, hx⟩ := hx
    replace hx := hx z
    rcases hx.2.2 with rfl | rfl
    · refine ⟨13, ⟨[], (0, 10, 13, 22), [(0, 10, 17, 13)], "java/lang/IndexOutOfBoundsException", rfl, (fun z hz => by cases hz), by decide, by decide, by decide, kl_L_22, by decide +kernel, rfl⟩, fun q => ?_⟩
      refine xJ_astore hX dL_billAfter_13 (Nat.le_of_ble_eq_true rfl) rfl ?_
      dsimp only [List.set]
      refine xJ_iconst hX dL_billAfter_15 ?_
      exact xJ_iretH hX hB dL_billAfter_16 (by decide) (by decide) ⟨_, rfl, ⟨by decide, by decide⟩, hM1, xqw_z z, hx.1 rfl⟩
    · refine ⟨17, ⟨[(0, 10, 13, 22)], (0, 10, 17, 13), [], "java/lang/IllegalArgumentException", rfl, (fun z hz => by
        simp only [List.mem_cons, List.not_mem_nil, or_false] at hz
        rcases hz with rfl
        · exact ⟨by decide, "java/lang/IndexOutOfBoundsException", kl_L_22, by decide +kernel⟩
        ), by decide, by decide, by decide, kl_L_13, by decide +kernel, rfl⟩, fun q => ?_⟩
      refine xJ_astore hX dL_billAfter_17 (Nat.le_of_ble_eq_true rfl) rfl ?_
      dsimp only [List.set]
      refine xJ_iconst hX dL_billAfter_19 ?_
      exact xJ_iretH hX hB dL_billAfter_20 (by decide) (by decide) ⟨_, rfl, ⟨by decide, by decide⟩, hM1, xqw_z z, hx.2.1 rfl⟩
theorem cw_L_help : Cond.codeWith yL_help cL_help 4 (some .int) [(0, 9, 12, 22)] ∈ xT := List.mem_filter.mpr ⟨List.mem_append_right _ (List.mem_of_getElem? (i := 1074) (by decide +kernel)), by decide +kernel⟩
theorem lkw_L_help : xLkW RL 138 yL_help cL_help 4 (some .int) [(0, 9, 12, 22)] 3 := ⟨List.mem_filter.mpr ⟨List.mem_append_right _ (List.mem_of_getElem? (i := 1072) (by decide +kernel)), by decide +kernel⟩, in_L, cw_L_help, ⟨by decide +kernel, by decide +kernel⟩, by decide +kernel, by decide⟩
def p_L_help (F : Nat) (t : xTh) (a : Nat) (x1 : Int) (o : Nat) (M : xMe) (Q : Int → xTh → xMe → Prop) : Prop :=
  p_X11_help F t a x1 M (fun r t1 M1 => ∀ M2 : xMe, M2 = xw M1 o 0 r → Q 0 t1 M2) (fun cls M1 => ∀ z : Nat, (cls = "java/lang/IndexOutOfBoundsException" → Q 1 (z, t.2) M1) ∧ (cls = "java/lang/IndexOutOfBoundsException"))
set_option maxHeartbeats 4000000 in
theorem c_L_help {G : xGx} {t : xTh} {M : xMe} {F : Nat} {a o : Nat} {x1 : Int} {Q : Int → xTh → xMe → Prop} (hL : oX11 t a) (hXQ : oXQ t a) (hko : xk t o = 15) (hno : xn t o = 1) (hM : xMR M) (hx1 : xR x1) (hp : p_L_help F t a x1 o M Q) : xCtW G yL_help cL_help 4 (some .int) [(0, 9, 12, 22)] 9 1 6 [vr a, vi x1, vr o] t M (fun v t' M' => ∃ r, v = some (vi r) ∧ xR r ∧ xMR M' ∧ xqw t t' ∧ Q r t' M') := by
  refine xCtW_of (L0 := [vr a, vi x1, vr o, vU]) (by decide +kernel) (Nat.le_of_ble_eq_true rfl) rfl ?_
  intro X hX hB
  unfold p_L_help at hp
  refine xJ_aload_n hX dL_help_0 rfl ?_
  refine xJ_iconst hX dL_help_1 ?_
  refine xJ_aload_n hX dL_help_2 rfl ?_
  refine xJ_iload_n hX dL_help_3 rfl ?_
  refine xJ_callVH (As := [_]) hX hB dL_help_4 lk_L_57 im_X11_help se_X11_help rfl (by decide) (oX11_k hL) (c_X11_help hL hXQ hM hx1 hp) (by decide) rfl rfl rfl (Nat.le_of_ble_eq_true rfl) (by decide) (by decide) (fun v t1 M1 hv => ?_) (fun E t1 M1 hx => ?_)
  · obtain ⟨r, rfl, hr, hM1, hs, -, hq⟩ := hv
    dsimp only [Option.toList, List.cons_append, List.nil_append]
    refine xJ_i2l hX dL_help_7 hr ?_
    refine xJ_lastM hX dL_help_8 (xle_k hs.1 hko (by decide)) (by decide) (xnlt (xle_n hs.1 hko (by decide) hno) (by decide)) hM1 hr (fun M2 e2 hM2 => ?_)
    refine xJ_goto hX dL_help_9 (tgt := 15) (by decide) ?_
    refine xJ_iconst hX dL_help_15 ?_
    exact xJ_iretH hX hB dL_help_16 (by decide) (by decide) ⟨_, rfl, ⟨by decide, by decide⟩, hM2, xqw_s hs, hq M2 e2⟩
  · obtain ⟨⟨z, rfl⟩, hM1, hx⟩ := hx
    replace hx := hx z
    rcases hx.2 with rfl
    · refine ⟨12, ⟨[], (0, 9, 12, 22), [], "java/lang/IndexOutOfBoundsException", rfl, (fun z hz => by cases hz), by decide, by decide, by decide, kl_L_22, by decide +kernel, rfl⟩, fun q => ?_⟩
      refine xJ_astore_n hX dL_help_12 (Nat.le_of_ble_eq_true rfl) rfl ?_
      dsimp only [List.set]
      refine xJ_iconst hX dL_help_13 ?_
      exact xJ_iretH hX hB dL_help_14 (by decide) (by decide) ⟨_, rfl, ⟨by decide, by decide⟩, hM1, xqw_z z, hx.1 rfl⟩
theorem cw_L_pass : Cond.codeWith yL_pass cL_pass 4 (some .int) [(0, 9, 12, 13)] ∈ xT := List.mem_filter.mpr ⟨List.mem_append_right _ (List.mem_of_getElem? (i := 1083) (by decide +kernel)), by decide +kernel⟩
theorem lkw_L_pass : xLkW RL 141 yL_pass cL_pass 4 (some .int) [(0, 9, 12, 13)] 3 := ⟨List.mem_filter.mpr ⟨List.mem_append_right _ (List.mem_of_getElem? (i := 1081) (by decide +kernel)), by decide +kernel⟩, in_L, cw_L_pass, ⟨by decide +kernel, by decide +kernel⟩, by decide +kernel, by decide⟩
def p_L_pass (F : Nat) (t : xTh) (a : Nat) (x1 : Int) (o : Nat) (M : xMe) (Q : Int → xTh → xMe → Prop) : Prop :=
  p_X11_pass F t a x1 M (fun r t1 M1 => ∀ M2 : xMe, M2 = xw M1 o 0 r → Q 0 t1 M2) (fun cls M1 => ∀ z : Nat, (cls = "java/lang/IllegalArgumentException" → Q 1 (z, t.2) M1) ∧ (cls = "java/lang/IllegalArgumentException"))
set_option maxHeartbeats 4000000 in
theorem c_L_pass {G : xGx} {t : xTh} {M : xMe} {F : Nat} {a o : Nat} {x1 : Int} {Q : Int → xTh → xMe → Prop} (hL : oX11 t a) (hXQ : oXQ t a) (hko : xk t o = 15) (hno : xn t o = 1) (hM : xMR M) (hx1 : xR x1) (hp : p_L_pass F t a x1 o M Q) : xCtW G yL_pass cL_pass 4 (some .int) [(0, 9, 12, 13)] 9 2 12 [vr a, vi x1, vr o] t M (fun v t' M' => ∃ r, v = some (vi r) ∧ xR r ∧ xMR M' ∧ xqw t t' ∧ Q r t' M') := by
  refine xCtW_of (L0 := [vr a, vi x1, vr o, vU]) (by decide +kernel) (Nat.le_of_ble_eq_true rfl) rfl ?_
  intro X hX hB
  unfold p_L_pass at hp
  refine xJ_aload_n hX dL_pass_0 rfl ?_
  refine xJ_iconst hX dL_pass_1 ?_
  refine xJ_aload_n hX dL_pass_2 rfl ?_
  refine xJ_iload_n hX dL_pass_3 rfl ?_
  refine xJ_callVH (As := [_]) hX hB dL_pass_4 lk_L_60 im_X11_pass se_X11_pass rfl (by decide) (oX11_k hL) (c_X11_pass hL hXQ hM hx1 hp) (by decide) rfl rfl rfl (Nat.le_of_ble_eq_true rfl) (by decide) (by decide) (fun v t1 M1 hv => ?_) (fun E t1 M1 hx => ?_)
  · obtain ⟨r, rfl, hr, hM1, hs, -, hq⟩ := hv
    dsimp only [Option.toList, List.cons_append, List.nil_append]
    refine xJ_i2l hX dL_pass_7 hr ?_
    refine xJ_lastM hX dL_pass_8 (xle_k hs.1 hko (by decide)) (by decide) (xnlt (xle_n hs.1 hko (by decide) hno) (by decide)) hM1 hr (fun M2 e2 hM2 => ?_)
    refine xJ_goto hX dL_pass_9 (tgt := 15) (by decide) ?_
    refine xJ_iconst hX dL_pass_15 ?_
    exact xJ_iretH hX hB dL_pass_16 (by decide) (by decide) ⟨_, rfl, ⟨by decide, by decide⟩, hM2, xqw_s hs, hq M2 e2⟩
  · obtain ⟨⟨z, rfl⟩, hM1, hx⟩ := hx
    replace hx := hx z
    rcases hx.2 with rfl
    · refine ⟨12, ⟨[], (0, 9, 12, 13), [], "java/lang/IllegalArgumentException", rfl, (fun z hz => by cases hz), by decide, by decide, by decide, kl_L_13, by decide +kernel, rfl⟩, fun q => ?_⟩
      refine xJ_astore_n hX dL_pass_12 (Nat.le_of_ble_eq_true rfl) rfl ?_
      dsimp only [List.set]
      refine xJ_iconst hX dL_pass_13 ?_
      exact xJ_iretH hX hB dL_pass_14 (by decide) (by decide) ⟨_, rfl, ⟨by decide, by decide⟩, hM1, xqw_z z, hx.1 rfl⟩
theorem cw_L_forward : Cond.codeWith yL_forward cL_forward 5 (some .int) [(0, 10, 13, 22)] ∈ xT := List.mem_filter.mpr ⟨List.mem_append_right _ (List.mem_of_getElem? (i := 1090) (by decide +kernel)), by decide +kernel⟩
theorem lkw_L_forward : xLkW RL 144 yL_forward cL_forward 5 (some .int) [(0, 10, 13, 22)] 4 := ⟨List.mem_filter.mpr ⟨List.mem_append_right _ (List.mem_of_getElem? (i := 1088) (by decide +kernel)), by decide +kernel⟩, in_L, cw_L_forward, ⟨by decide +kernel, by decide +kernel⟩, by decide +kernel, by decide⟩
def p_L_forward (t : xTh) (a : Nat) (x1 : Int) (x2 : Int) (o : Nat) (M : xMe) (Q : Int → xTh → xMe → Prop) : Prop :=
  p_X11_forward t a x1 x2 M (fun r t1 M1 => ∀ M2 : xMe, M2 = xw M1 o 0 r → Q 0 t1 M2) (fun cls M1 => ∀ z : Nat, (cls = "java/lang/IndexOutOfBoundsException" → Q 1 (z, t.2) M1) ∧ (cls = "java/lang/IndexOutOfBoundsException"))
set_option maxHeartbeats 4000000 in
theorem c_L_forward {G : xGx} {t : xTh} {M : xMe} {a o : Nat} {x1 x2 : Int} {Q : Int → xTh → xMe → Prop} (hL : oX11 t a) (hXQ : oXQ t a) (hko : xk t o = 15) (hno : xn t o = 1) (hM : xMR M) (hx1 : xR x1) (hx2 : xR x2) (hp : p_L_forward t a x1 x2 o M Q) : xCtW G yL_forward cL_forward 5 (some .int) [(0, 10, 13, 22)] 9 2 12 [vr a, vi x1, vi x2, vr o] t M (fun v t' M' => ∃ r, v = some (vi r) ∧ xR r ∧ xMR M' ∧ xqw t t' ∧ Q r t' M') := by
  refine xCtW_of (L0 := [vr a, vi x1, vi x2, vr o, vU]) (by decide +kernel) (Nat.le_of_ble_eq_true rfl) rfl ?_
  intro X hX hB
  unfold p_L_forward at hp
  refine xJ_aload_n hX dL_forward_0 rfl ?_
  refine xJ_iconst hX dL_forward_1 ?_
  refine xJ_aload_n hX dL_forward_2 rfl ?_
  refine xJ_iload_n hX dL_forward_3 rfl ?_
  refine xJ_iload_n hX dL_forward_4 rfl ?_
  refine xJ_callVH (As := [_, _]) hX hB dL_forward_5 lk_L_63 im_X11_forward se_X11_forward rfl (by decide) (oX11_k hL) (c_X11_forward hL hXQ hM hx1 hx2 hp) (by decide) rfl rfl rfl (Nat.le_of_ble_eq_true rfl) (by decide) (by decide) (fun v t1 M1 hv => ?_) (fun E t1 M1 hx => ?_)
  · obtain ⟨r, rfl, hr, hM1, hs, -, hq⟩ := hv
    dsimp only [Option.toList, List.cons_append, List.nil_append]
    refine xJ_i2l hX dL_forward_8 hr ?_
    refine xJ_lastM hX dL_forward_9 (xle_k hs.1 hko (by decide)) (by decide) (xnlt (xle_n hs.1 hko (by decide) hno) (by decide)) hM1 hr (fun M2 e2 hM2 => ?_)
    refine xJ_goto hX dL_forward_10 (tgt := 17) (by decide) ?_
    refine xJ_iconst hX dL_forward_17 ?_
    exact xJ_iretH hX hB dL_forward_18 (by decide) (by decide) ⟨_, rfl, ⟨by decide, by decide⟩, hM2, xqw_s hs, hq M2 e2⟩
  · obtain ⟨⟨z, rfl⟩, hM1, hx⟩ := hx
    replace hx := hx z
    rcases hx.2 with rfl
    · refine ⟨13, ⟨[], (0, 10, 13, 22), [], "java/lang/IndexOutOfBoundsException", rfl, (fun z hz => by cases hz), by decide, by decide, by decide, kl_L_22, by decide +kernel, rfl⟩, fun q => ?_⟩
      refine xJ_astore hX dL_forward_13 (Nat.le_of_ble_eq_true rfl) rfl ?_
      dsimp only [List.set]
      refine xJ_iconst hX dL_forward_15 ?_
      exact xJ_iretH hX hB dL_forward_16 (by decide) (by decide) ⟨_, rfl, ⟨by decide, by decide⟩, hM1, xqw_z z, hx.1 rfl⟩
theorem cw_L_grant : Cond.codeWith yL_grant cL_grant 6 (some .int) [(0, 12, 15, 22), (0, 12, 19, 13), (0, 12, 23, 69)] ∈ xT := List.mem_filter.mpr ⟨List.mem_append_right _ (List.mem_of_getElem? (i := 1097) (by decide +kernel)), by decide +kernel⟩
theorem lkw_L_grant : xLkW RL 147 yL_grant cL_grant 6 (some .int) [(0, 12, 15, 22), (0, 12, 19, 13), (0, 12, 23, 69)] 5 := ⟨List.mem_filter.mpr ⟨List.mem_append_right _ (List.mem_of_getElem? (i := 1095) (by decide +kernel)), by decide +kernel⟩, in_L, cw_L_grant, ⟨by decide +kernel, by decide +kernel⟩, by decide +kernel, by decide⟩
def p_L_grant (t : xTh) (a : Nat) (x1 : Int) (x2 : Int) (x3 : Int) (o : Nat) (M : xMe) (Q : Int → xTh → xMe → Prop) : Prop :=
  p_X11_grant t a x1 x2 x3 M (fun r t1 M1 => ∀ M2 : xMe, M2 = xw M1 o 0 r → Q 0 t1 M2) (fun cls M1 => ∀ z : Nat, (cls = "java/lang/IndexOutOfBoundsException" → Q 1 (z, t.2) M1) ∧ (cls = "java/lang/IllegalArgumentException" → Q 2 (z, t.2) M1) ∧ (cls = "java/lang/IllegalStateException" → Q 3 (z, t.2) M1) ∧ (cls = "java/lang/IndexOutOfBoundsException" ∨ cls = "java/lang/IllegalArgumentException" ∨ cls = "java/lang/IllegalStateException"))
set_option maxHeartbeats 4000000 in
theorem c_L_grant {G : xGx} {t : xTh} {M : xMe} {a o : Nat} {x1 x2 x3 : Int} {Q : Int → xTh → xMe → Prop} (hL : oX11 t a) (hXQ : oXQ t a) (hko : xk t o = 15) (hno : xn t o = 1) (hM : xMR M) (hx1 : xR x1) (hx2 : xR x2) (hx3 : xR x3) (hp : p_L_grant t a x1 x2 x3 o M Q) : xCtW G yL_grant cL_grant 6 (some .int) [(0, 12, 15, 22), (0, 12, 19, 13), (0, 12, 23, 69)] 9 4 24 [vr a, vi x1, vi x2, vi x3, vr o] t M (fun v t' M' => ∃ r, v = some (vi r) ∧ xR r ∧ xMR M' ∧ xqw t t' ∧ Q r t' M') := by
  refine xCtW_of (L0 := [vr a, vi x1, vi x2, vi x3, vr o, vU]) (by decide +kernel) (Nat.le_of_ble_eq_true rfl) rfl ?_
  intro X hX hB
  unfold p_L_grant at hp
  refine xJ_aload hX dL_grant_0 rfl ?_
  refine xJ_iconst hX dL_grant_2 ?_
  refine xJ_aload_n hX dL_grant_3 rfl ?_
  refine xJ_iload_n hX dL_grant_4 rfl ?_
  refine xJ_iload_n hX dL_grant_5 rfl ?_
  refine xJ_iload_n hX dL_grant_6 rfl ?_
  refine xJ_callVH (As := [_, _, _]) hX hB dL_grant_7 lk_L_66 im_X11_grant se_X11_grant rfl (by decide) (oX11_k hL) (c_X11_grant hL hXQ hM hx1 hx2 hx3 hp) (by decide) rfl rfl rfl (Nat.le_of_ble_eq_true rfl) (by decide) (by decide) (fun v t1 M1 hv => ?_) (fun E t1 M1 hx => ?_)
  · obtain ⟨r, rfl, hr, hM1, hs, -, hq⟩ := hv
    dsimp only [Option.toList, List.cons_append, List.nil_append]
    refine xJ_i2l hX dL_grant_10 hr ?_
    refine xJ_lastM hX dL_grant_11 (xle_k hs.1 hko (by decide)) (by decide) (xnlt (xle_n hs.1 hko (by decide) hno) (by decide)) hM1 hr (fun M2 e2 hM2 => ?_)
    refine xJ_goto hX dL_grant_12 (tgt := 27) (by decide) ?_
    refine xJ_iconst hX dL_grant_27 ?_
    exact xJ_iretH hX hB dL_grant_28 (by decide) (by decide) ⟨_, rfl, ⟨by decide, by decide⟩, hM2, xqw_s hs, hq M2 e2⟩
  · obtain ⟨⟨z, rfl⟩, hM1, hx⟩ := hx
    replace hx := hx z
    rcases hx.2.2.2 with rfl | rfl | rfl
    · refine ⟨15, ⟨[], (0, 12, 15, 22), [(0, 12, 19, 13), (0, 12, 23, 69)], "java/lang/IndexOutOfBoundsException", rfl, (fun z hz => by cases hz), by decide, by decide, by decide, kl_L_22, by decide +kernel, rfl⟩, fun q => ?_⟩
      refine xJ_astore hX dL_grant_15 (Nat.le_of_ble_eq_true rfl) rfl ?_
      dsimp only [List.set]
      refine xJ_iconst hX dL_grant_17 ?_
      exact xJ_iretH hX hB dL_grant_18 (by decide) (by decide) ⟨_, rfl, ⟨by decide, by decide⟩, hM1, xqw_z z, hx.1 rfl⟩
    · refine ⟨19, ⟨[(0, 12, 15, 22)], (0, 12, 19, 13), [(0, 12, 23, 69)], "java/lang/IllegalArgumentException", rfl, (fun z hz => by
        simp only [List.mem_cons, List.not_mem_nil, or_false] at hz
        rcases hz with rfl
        · exact ⟨by decide, "java/lang/IndexOutOfBoundsException", kl_L_22, by decide +kernel⟩
        ), by decide, by decide, by decide, kl_L_13, by decide +kernel, rfl⟩, fun q => ?_⟩
      refine xJ_astore hX dL_grant_19 (Nat.le_of_ble_eq_true rfl) rfl ?_
      dsimp only [List.set]
      refine xJ_iconst hX dL_grant_21 ?_
      exact xJ_iretH hX hB dL_grant_22 (by decide) (by decide) ⟨_, rfl, ⟨by decide, by decide⟩, hM1, xqw_z z, hx.2.1 rfl⟩
    · refine ⟨23, ⟨[(0, 12, 15, 22), (0, 12, 19, 13)], (0, 12, 23, 69), [], "java/lang/IllegalStateException", rfl, (fun z hz => by
        simp only [List.mem_cons, List.not_mem_nil, or_false] at hz
        rcases hz with rfl | rfl
        · exact ⟨by decide, "java/lang/IndexOutOfBoundsException", kl_L_22, by decide +kernel⟩
        · exact ⟨by decide, "java/lang/IllegalArgumentException", kl_L_13, by decide +kernel⟩
        ), by decide, by decide, by decide, kl_L_69, by decide +kernel, rfl⟩, fun q => ?_⟩
      refine xJ_astore hX dL_grant_23 (Nat.le_of_ble_eq_true rfl) rfl ?_
      dsimp only [List.set]
      refine xJ_iconst hX dL_grant_25 ?_
      exact xJ_iretH hX hB dL_grant_26 (by decide) (by decide) ⟨_, rfl, ⟨by decide, by decide⟩, hM1, xqw_z z, hx.2.2.1 rfl⟩
theorem cw_L_send : Cond.codeWith yL_send cL_send 5 (some .int) [(0, 10, 13, 22), (0, 10, 17, 13), (0, 10, 21, 69)] ∈ xT := List.mem_filter.mpr ⟨List.mem_append_right _ (List.mem_of_getElem? (i := 1121) (by decide +kernel)), by decide +kernel⟩
theorem lkw_L_send : xLkW RL 150 yL_send cL_send 5 (some .int) [(0, 10, 13, 22), (0, 10, 17, 13), (0, 10, 21, 69)] 4 := ⟨List.mem_filter.mpr ⟨List.mem_append_right _ (List.mem_of_getElem? (i := 1119) (by decide +kernel)), by decide +kernel⟩, in_L, cw_L_send, ⟨by decide +kernel, by decide +kernel⟩, by decide +kernel, by decide⟩
def p_L_send (t : xTh) (a : Nat) (x1 : Int) (x2 : Int) (o : Nat) (M : xMe) (Q : Int → xTh → xMe → Prop) : Prop :=
  p_X11_send t a x1 x2 M (fun r t1 M1 => ∀ M2 : xMe, M2 = xw M1 o 0 r → Q 0 t1 M2) (fun cls M1 => ∀ z : Nat, (cls = "java/lang/IndexOutOfBoundsException" → Q 1 (z, t.2) M1) ∧ (cls = "java/lang/IllegalArgumentException" → Q 2 (z, t.2) M1) ∧ (cls = "java/lang/IllegalStateException" → Q 3 (z, t.2) M1) ∧ (cls = "java/lang/IndexOutOfBoundsException" ∨ cls = "java/lang/IllegalArgumentException" ∨ cls = "java/lang/IllegalStateException"))
set_option maxHeartbeats 4000000 in
theorem c_L_send {G : xGx} {t : xTh} {M : xMe} {a o : Nat} {x1 x2 : Int} {Q : Int → xTh → xMe → Prop} (hL : oX11 t a) (hXQ : oXQ t a) (hko : xk t o = 15) (hno : xn t o = 1) (hM : xMR M) (hx1 : xR x1) (hx2 : xR x2) (hp : p_L_send t a x1 x2 o M Q) : xCtW G yL_send cL_send 5 (some .int) [(0, 10, 13, 22), (0, 10, 17, 13), (0, 10, 21, 69)] 9 3 18 [vr a, vi x1, vi x2, vr o] t M (fun v t' M' => ∃ r, v = some (vi r) ∧ xR r ∧ xMR M' ∧ xqw t t' ∧ Q r t' M') := by
  refine xCtW_of (L0 := [vr a, vi x1, vi x2, vr o, vU]) (by decide +kernel) (Nat.le_of_ble_eq_true rfl) rfl ?_
  intro X hX hB
  unfold p_L_send at hp
  refine xJ_aload_n hX dL_send_0 rfl ?_
  refine xJ_iconst hX dL_send_1 ?_
  refine xJ_aload_n hX dL_send_2 rfl ?_
  refine xJ_iload_n hX dL_send_3 rfl ?_
  refine xJ_iload_n hX dL_send_4 rfl ?_
  refine xJ_callVH (As := [_, _]) hX hB dL_send_5 lk_L_71 im_X11_send se_X11_send rfl (by decide) (oX11_k hL) (c_X11_send hL hXQ hM hx1 hx2 hp) (by decide) rfl rfl rfl (Nat.le_of_ble_eq_true rfl) (by decide) (by decide) (fun v t1 M1 hv => ?_) (fun E t1 M1 hx => ?_)
  · obtain ⟨r, rfl, hr, hM1, hs, -, hq⟩ := hv
    dsimp only [Option.toList, List.cons_append, List.nil_append]
    refine xJ_i2l hX dL_send_8 hr ?_
    refine xJ_lastM hX dL_send_9 (xle_k hs.1 hko (by decide)) (by decide) (xnlt (xle_n hs.1 hko (by decide) hno) (by decide)) hM1 hr (fun M2 e2 hM2 => ?_)
    refine xJ_goto hX dL_send_10 (tgt := 25) (by decide) ?_
    refine xJ_iconst hX dL_send_25 ?_
    exact xJ_iretH hX hB dL_send_26 (by decide) (by decide) ⟨_, rfl, ⟨by decide, by decide⟩, hM2, xqw_s hs, hq M2 e2⟩
  · obtain ⟨⟨z, rfl⟩, hM1, hx⟩ := hx
    replace hx := hx z
    rcases hx.2.2.2 with rfl | rfl | rfl
    · refine ⟨13, ⟨[], (0, 10, 13, 22), [(0, 10, 17, 13), (0, 10, 21, 69)], "java/lang/IndexOutOfBoundsException", rfl, (fun z hz => by cases hz), by decide, by decide, by decide, kl_L_22, by decide +kernel, rfl⟩, fun q => ?_⟩
      refine xJ_astore hX dL_send_13 (Nat.le_of_ble_eq_true rfl) rfl ?_
      dsimp only [List.set]
      refine xJ_iconst hX dL_send_15 ?_
      exact xJ_iretH hX hB dL_send_16 (by decide) (by decide) ⟨_, rfl, ⟨by decide, by decide⟩, hM1, xqw_z z, hx.1 rfl⟩
    · refine ⟨17, ⟨[(0, 10, 13, 22)], (0, 10, 17, 13), [(0, 10, 21, 69)], "java/lang/IllegalArgumentException", rfl, (fun z hz => by
        simp only [List.mem_cons, List.not_mem_nil, or_false] at hz
        rcases hz with rfl
        · exact ⟨by decide, "java/lang/IndexOutOfBoundsException", kl_L_22, by decide +kernel⟩
        ), by decide, by decide, by decide, kl_L_13, by decide +kernel, rfl⟩, fun q => ?_⟩
      refine xJ_astore hX dL_send_17 (Nat.le_of_ble_eq_true rfl) rfl ?_
      dsimp only [List.set]
      refine xJ_iconst hX dL_send_19 ?_
      exact xJ_iretH hX hB dL_send_20 (by decide) (by decide) ⟨_, rfl, ⟨by decide, by decide⟩, hM1, xqw_z z, hx.2.1 rfl⟩
    · refine ⟨21, ⟨[(0, 10, 13, 22), (0, 10, 17, 13)], (0, 10, 21, 69), [], "java/lang/IllegalStateException", rfl, (fun z hz => by
        simp only [List.mem_cons, List.not_mem_nil, or_false] at hz
        rcases hz with rfl | rfl
        · exact ⟨by decide, "java/lang/IndexOutOfBoundsException", kl_L_22, by decide +kernel⟩
        · exact ⟨by decide, "java/lang/IllegalArgumentException", kl_L_13, by decide +kernel⟩
        ), by decide, by decide, by decide, kl_L_69, by decide +kernel, rfl⟩, fun q => ?_⟩
      refine xJ_astore hX dL_send_21 (Nat.le_of_ble_eq_true rfl) rfl ?_
      dsimp only [List.set]
      refine xJ_iconst hX dL_send_23 ?_
      exact xJ_iretH hX hB dL_send_24 (by decide) (by decide) ⟨_, rfl, ⟨by decide, by decide⟩, hM1, xqw_z z, hx.2.2.1 rfl⟩
theorem cw_L_setThrift : Cond.codeWith yL_setThrift cL_setThrift 5 (some .int) [(0, 10, 13, 22), (0, 10, 17, 13)] ∈ xT := List.mem_filter.mpr ⟨List.mem_append_right _ (List.mem_of_getElem? (i := 1130) (by decide +kernel)), by decide +kernel⟩
theorem lkw_L_setThrift : xLkW RL 153 yL_setThrift cL_setThrift 5 (some .int) [(0, 10, 13, 22), (0, 10, 17, 13)] 4 := ⟨List.mem_filter.mpr ⟨List.mem_append_right _ (List.mem_of_getElem? (i := 1128) (by decide +kernel)), by decide +kernel⟩, in_L, cw_L_setThrift, ⟨by decide +kernel, by decide +kernel⟩, by decide +kernel, by decide⟩
def p_L_setThrift (t : xTh) (a : Nat) (x1 : Int) (x2 : Int) (o : Nat) (M : xMe) (Q : Int → xTh → xMe → Prop) : Prop :=
  p_X11_setThrift t a x1 x2 M (fun r t1 M1 => ∀ M2 : xMe, M2 = xw M1 o 0 r → Q 0 t1 M2) (fun cls M1 => ∀ z : Nat, (cls = "java/lang/IndexOutOfBoundsException" → Q 1 (z, t.2) M1) ∧ (cls = "java/lang/IllegalArgumentException" → Q 2 (z, t.2) M1) ∧ (cls = "java/lang/IndexOutOfBoundsException" ∨ cls = "java/lang/IllegalArgumentException"))
set_option maxHeartbeats 4000000 in
theorem c_L_setThrift {G : xGx} {t : xTh} {M : xMe} {a o : Nat} {x1 x2 : Int} {Q : Int → xTh → xMe → Prop} (hL : oX11 t a) (hXQ : oXQ t a) (hko : xk t o = 15) (hno : xn t o = 1) (hM : xMR M) (hx1 : xR x1) (hx2 : xR x2) (hp : p_L_setThrift t a x1 x2 o M Q) : xCtW G yL_setThrift cL_setThrift 5 (some .int) [(0, 10, 13, 22), (0, 10, 17, 13)] 9 2 12 [vr a, vi x1, vi x2, vr o] t M (fun v t' M' => ∃ r, v = some (vi r) ∧ xR r ∧ xMR M' ∧ xqw t t' ∧ Q r t' M') := by
  refine xCtW_of (L0 := [vr a, vi x1, vi x2, vr o, vU]) (by decide +kernel) (Nat.le_of_ble_eq_true rfl) rfl ?_
  intro X hX hB
  unfold p_L_setThrift at hp
  refine xJ_aload_n hX dL_setThrift_0 rfl ?_
  refine xJ_iconst hX dL_setThrift_1 ?_
  refine xJ_aload_n hX dL_setThrift_2 rfl ?_
  refine xJ_iload_n hX dL_setThrift_3 rfl ?_
  refine xJ_iload_n hX dL_setThrift_4 rfl ?_
  refine xJ_callVH (As := [_, _]) hX hB dL_setThrift_5 lk_L_74 im_X11_setThrift se_X11_setThrift rfl (by decide) (oX11_k hL) (c_X11_setThrift hL hXQ hM hx1 hx2 hp) (by decide) rfl rfl rfl (Nat.le_of_ble_eq_true rfl) (by decide) (by decide) (fun v t1 M1 hv => ?_) (fun E t1 M1 hx => ?_)
  · obtain ⟨r, rfl, hr, hM1, hs, -, hq⟩ := hv
    dsimp only [Option.toList, List.cons_append, List.nil_append]
    refine xJ_i2l hX dL_setThrift_8 hr ?_
    refine xJ_lastM hX dL_setThrift_9 (xle_k hs.1 hko (by decide)) (by decide) (xnlt (xle_n hs.1 hko (by decide) hno) (by decide)) hM1 hr (fun M2 e2 hM2 => ?_)
    refine xJ_goto hX dL_setThrift_10 (tgt := 21) (by decide) ?_
    refine xJ_iconst hX dL_setThrift_21 ?_
    exact xJ_iretH hX hB dL_setThrift_22 (by decide) (by decide) ⟨_, rfl, ⟨by decide, by decide⟩, hM2, xqw_s hs, hq M2 e2⟩
  · obtain ⟨⟨z, rfl⟩, hM1, hx⟩ := hx
    replace hx := hx z
    rcases hx.2.2 with rfl | rfl
    · refine ⟨13, ⟨[], (0, 10, 13, 22), [(0, 10, 17, 13)], "java/lang/IndexOutOfBoundsException", rfl, (fun z hz => by cases hz), by decide, by decide, by decide, kl_L_22, by decide +kernel, rfl⟩, fun q => ?_⟩
      refine xJ_astore hX dL_setThrift_13 (Nat.le_of_ble_eq_true rfl) rfl ?_
      dsimp only [List.set]
      refine xJ_iconst hX dL_setThrift_15 ?_
      exact xJ_iretH hX hB dL_setThrift_16 (by decide) (by decide) ⟨_, rfl, ⟨by decide, by decide⟩, hM1, xqw_z z, hx.1 rfl⟩
    · refine ⟨17, ⟨[(0, 10, 13, 22)], (0, 10, 17, 13), [], "java/lang/IllegalArgumentException", rfl, (fun z hz => by
        simp only [List.mem_cons, List.not_mem_nil, or_false] at hz
        rcases hz with rfl
        · exact ⟨by decide, "java/lang/IndexOutOfBoundsException", kl_L_22, by decide +kernel⟩
        ), by decide, by decide, by decide, kl_L_13, by decide +kernel, rfl⟩, fun q => ?_⟩
      refine xJ_astore hX dL_setThrift_17 (Nat.le_of_ble_eq_true rfl) rfl ?_
      dsimp only [List.set]
      refine xJ_iconst hX dL_setThrift_19 ?_
      exact xJ_iretH hX hB dL_setThrift_20 (by decide) (by decide) ⟨_, rfl, ⟨by decide, by decide⟩, hM1, xqw_z z, hx.2.1 rfl⟩
