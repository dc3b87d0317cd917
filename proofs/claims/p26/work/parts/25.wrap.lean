/-! THE LAW'S WRAPPERS -/
/-- t' has t's cells, it may be greater -/
def xqw (t t' : xTh) : Prop := ∃ (z : Nat) (u : xTh), t' = (z, u.2) ∧ xqs t u
theorem xqw_s {t t' : xTh} (h : xqs t t') : xqw t t' := ⟨xz t', t', rfl, h⟩
theorem xqw_z {t : xTh} (z : Nat) : xqw t (z, t.2) := ⟨z, t, rfl, xqs_refl t⟩
theorem cw_L_load : Cond.codeWith yL_load cL_load 3 (some .int) [(0, 5, 6, 40)] ∈ xT := List.mem_filter.mpr ⟨List.mem_append_right _ (List.mem_of_getElem? (i := 643) (by decide +kernel)), by decide +kernel⟩
theorem lkw_L_load : xLkW RL 19 yL_load cL_load 3 (some .int) [(0, 5, 6, 40)] 2 := ⟨List.mem_filter.mpr ⟨List.mem_append_right _ (List.mem_of_getElem? (i := 641) (by decide +kernel)), by decide +kernel⟩, in_L, cw_L_load, ⟨by decide +kernel, by decide +kernel⟩, by decide +kernel, by decide⟩
def p_L_load (F : Nat) (t : xTh) (a : Nat) (x1 : Int) (M : xMe) (Q : Int → xTh → xMe → Prop) : Prop :=
  p_X11_load F t a x1 M (fun r t1 M1 => Q r t1 M1) (fun cls M1 => ∀ z : Nat, (cls = "java/lang/IllegalArgumentException" → Q (-2000000098) (z, t.2) M1) ∧ (cls = "java/lang/IllegalArgumentException"))
set_option maxHeartbeats 4000000 in
theorem c_L_load {G : xGx} {t : xTh} {M : xMe} {F : Nat} {a : Nat} {x1 : Int} {Q : Int → xTh → xMe → Prop} (hL : oX11 t a) (hXQ : oXQ t a) (hM : xMR M) (hx1 : xR x1) (hp : p_L_load F t a x1 M Q) : xCtW G yL_load cL_load 3 (some .int) [(0, 5, 6, 40)] 116 6 1027 [vr a, vi x1] t M (fun v t' M' => ∃ r, v = some (vi r) ∧ xR r ∧ xMR M' ∧ xqw t t' ∧ Q r t' M') := by
  refine xCtW_of (L0 := [vr a, vi x1, vU]) (by decide +kernel) (Nat.le_of_ble_eq_true rfl) rfl ?_
  intro X hX hB
  unfold p_L_load at hp
  refine xJ_aload_n hX dL_load_0 rfl ?_
  refine xJ_iload_n hX dL_load_1 rfl ?_
  refine xJ_callVH (As := [_]) hX hB dL_load_2 lk_L_37 im_X11_load se_X11_load rfl (by decide) (oX11_k hL) (c_X11_load hL hXQ hM hx1 hp) (by decide) rfl rfl rfl (Nat.le_of_ble_eq_true rfl) (by decide) (by decide) (fun v t1 M1 hv => ?_) (fun E t1 M1 hx => ?_)
  · obtain ⟨r, rfl, hr, hM1, hs, -, hq⟩ := hv
    dsimp only [Option.toList, List.cons_append, List.nil_append]
    exact xJ_iretH hX hB dL_load_5 (by decide) (by decide) ⟨_, rfl, hr, hM1, xqw_s hs, hq⟩
  · obtain ⟨⟨z, rfl⟩, hM1, hx⟩ := hx
    replace hx := hx z
    rcases hx.2 with rfl
    · refine ⟨6, ⟨[], (0, 5, 6, 40), [], "java/lang/IllegalArgumentException", rfl, (fun z hz => by cases hz), by decide, by decide, by decide, kl_L_40, by decide +kernel, rfl⟩, fun q => ?_⟩
      refine xJ_astore_n hX dL_load_6 (Nat.le_of_ble_eq_true rfl) rfl ?_
      dsimp only [List.set]
      refine xJ_ldc (-2000000098) hX dL_load_7 kc_L_42 ?_
      exact xJ_iretH hX hB dL_load_9 (by decide) (by decide) ⟨_, rfl, ⟨by decide, by decide⟩, hM1, xqw_z z, hx.1 rfl⟩
theorem cw_L_state : Cond.codeWith yL_state cL_state 3 (some .int) [(0, 5, 6, 40)] ∈ xT := List.mem_filter.mpr ⟨List.mem_append_right _ (List.mem_of_getElem? (i := 1541) (by decide +kernel)), by decide +kernel⟩
theorem lkw_L_state : xLkW RL 206 yL_state cL_state 3 (some .int) [(0, 5, 6, 40)] 2 := ⟨List.mem_filter.mpr ⟨List.mem_append_right _ (List.mem_of_getElem? (i := 1539) (by decide +kernel)), by decide +kernel⟩, in_L, cw_L_state, ⟨by decide +kernel, by decide +kernel⟩, by decide +kernel, by decide⟩
def p_L_state (F : Nat) (t : xTh) (a : Nat) (x1 : Int) (M : xMe) (Q : Int → xTh → xMe → Prop) : Prop :=
  p_X11_state F a x1 M (fun r M1 => Q r t M1) (fun cls M1 => ∀ z : Nat, (cls = "java/lang/IllegalArgumentException" → Q (-2000000098) (z, t.2) M1) ∧ (cls = "java/lang/IllegalArgumentException"))
set_option maxHeartbeats 4000000 in
theorem c_L_state {G : xGx} {t : xTh} {M : xMe} {F : Nat} {a : Nat} {x1 : Int} {Q : Int → xTh → xMe → Prop} (hL : oX11 t a) (hM : xMR M) (hx1 : xR x1) (hp : p_L_state F t a x1 M Q) : xCtW G yL_state cL_state 3 (some .int) [(0, 5, 6, 40)] 8 1 6 [vr a, vi x1] t M (fun v t' M' => ∃ r, v = some (vi r) ∧ xR r ∧ xMR M' ∧ xqw t t' ∧ Q r t' M') := by
  refine xCtW_of (L0 := [vr a, vi x1, vU]) (by decide +kernel) (Nat.le_of_ble_eq_true rfl) rfl ?_
  intro X hX hB
  unfold p_L_state at hp
  refine xJ_aload_n hX dL_state_0 rfl ?_
  refine xJ_iload_n hX dL_state_1 rfl ?_
  refine xJ_callVH (As := [_]) hX hB dL_state_2 lk_L_43 im_X11_state se_X11_state rfl (by decide) (oX11_k hL) (c_X11_state hL hM hx1 hp) (by decide) rfl rfl rfl (Nat.le_of_ble_eq_true rfl) (by decide) (by decide) (fun v t1 M1 hv => ?_) (fun E t1 M1 hx => ?_)
  · obtain ⟨r, rfl, hr, hM1, hs, hq⟩ := hv
    subst hs
    dsimp only [Option.toList, List.cons_append, List.nil_append]
    exact xJ_iretH hX hB dL_state_5 (by decide) (by decide) ⟨_, rfl, hr, hM1, xqw_s (xqs_refl _), hq⟩
  · obtain ⟨⟨z, rfl⟩, hM1, hx⟩ := hx
    replace hx := hx z
    rcases hx.2 with rfl
    · refine ⟨6, ⟨[], (0, 5, 6, 40), [], "java/lang/IllegalArgumentException", rfl, (fun z hz => by cases hz), by decide, by decide, by decide, kl_L_40, by decide +kernel, rfl⟩, fun q => ?_⟩
      refine xJ_astore_n hX dL_state_6 (Nat.le_of_ble_eq_true rfl) rfl ?_
      dsimp only [List.set]
      refine xJ_ldc (-2000000098) hX dL_state_7 kc_L_42 ?_
      exact xJ_iretH hX hB dL_state_9 (by decide) (by decide) ⟨_, rfl, ⟨by decide, by decide⟩, hM1, xqw_z z, hx.1 rfl⟩
theorem cw_L_gate : Cond.codeWith yL_gate cL_gate 4 (some .int) [(0, 6, 7, 50), (0, 6, 11, 40)] ∈ xT := List.mem_filter.mpr ⟨List.mem_append_right _ (List.mem_of_getElem? (i := 1569) (by decide +kernel)), by decide +kernel⟩
theorem lkw_L_gate : xLkW RL 225 yL_gate cL_gate 4 (some .int) [(0, 6, 7, 50), (0, 6, 11, 40)] 3 := ⟨List.mem_filter.mpr ⟨List.mem_append_right _ (List.mem_of_getElem? (i := 1567) (by decide +kernel)), by decide +kernel⟩, in_L, cw_L_gate, ⟨by decide +kernel, by decide +kernel⟩, by decide +kernel, by decide⟩
def p_L_gate (t : xTh) (a : Nat) (x1 : Int) (x2 : Int) (M : xMe) (Q : Int → xTh → xMe → Prop) : Prop :=
  p_X11_gate a x1 x2 M (fun r M1 => Q r t M1) (fun cls M1 => ∀ z : Nat, (cls = "java/lang/IndexOutOfBoundsException" → Q (-2000000097) (z, t.2) M1) ∧ (cls = "java/lang/IllegalArgumentException" → Q (-2000000098) (z, t.2) M1) ∧ (cls = "java/lang/IndexOutOfBoundsException" ∨ cls = "java/lang/IllegalArgumentException"))
set_option maxHeartbeats 4000000 in
theorem c_L_gate {G : xGx} {t : xTh} {M : xMe} {a : Nat} {x1 x2 : Int} {Q : Int → xTh → xMe → Prop} (hL : oX11 t a) (hM : xMR M) (hx1 : xR x1) (hx2 : xR x2) (hp : p_L_gate t a x1 x2 M Q) : xCtW G yL_gate cL_gate 4 (some .int) [(0, 6, 7, 50), (0, 6, 11, 40)] 9 2 12 [vr a, vi x1, vi x2] t M (fun v t' M' => ∃ r, v = some (vi r) ∧ xR r ∧ xMR M' ∧ xqw t t' ∧ Q r t' M') := by
  refine xCtW_of (L0 := [vr a, vi x1, vi x2, vU]) (by decide +kernel) (Nat.le_of_ble_eq_true rfl) rfl ?_
  intro X hX hB
  unfold p_L_gate at hp
  refine xJ_aload_n hX dL_gate_0 rfl ?_
  refine xJ_iload_n hX dL_gate_1 rfl ?_
  refine xJ_iload_n hX dL_gate_2 rfl ?_
  refine xJ_callVH (As := [_, _]) hX hB dL_gate_3 lk_L_46 im_X11_gate se_X11_gate rfl (by decide) (oX11_k hL) (c_X11_gate hL hM hx1 hx2 hp) (by decide) rfl rfl rfl (Nat.le_of_ble_eq_true rfl) (by decide) (by decide) (fun v t1 M1 hv => ?_) (fun E t1 M1 hx => ?_)
  · obtain ⟨r, rfl, hr, hM1, hs, hq⟩ := hv
    subst hs
    dsimp only [Option.toList, List.cons_append, List.nil_append]
    exact xJ_iretH hX hB dL_gate_6 (by decide) (by decide) ⟨_, rfl, hr, hM1, xqw_s (xqs_refl _), hq⟩
  · obtain ⟨⟨z, rfl⟩, hM1, hx⟩ := hx
    replace hx := hx z
    rcases hx.2.2 with rfl | rfl
    · refine ⟨7, ⟨[], (0, 6, 7, 50), [(0, 6, 11, 40)], "java/lang/IndexOutOfBoundsException", rfl, (fun z hz => by cases hz), by decide, by decide, by decide, kl_L_50, by decide +kernel, rfl⟩, fun q => ?_⟩
      refine xJ_astore_n hX dL_gate_7 (Nat.le_of_ble_eq_true rfl) rfl ?_
      dsimp only [List.set]
      refine xJ_ldc (-2000000097) hX dL_gate_8 kc_L_52 ?_
      exact xJ_iretH hX hB dL_gate_10 (by decide) (by decide) ⟨_, rfl, ⟨by decide, by decide⟩, hM1, xqw_z z, hx.1 rfl⟩
    · refine ⟨11, ⟨[(0, 6, 7, 50)], (0, 6, 11, 40), [], "java/lang/IllegalArgumentException", rfl, (fun z hz => by
        simp only [List.mem_cons, List.not_mem_nil, or_false] at hz
        rcases hz with rfl
        · exact ⟨by decide, "java/lang/IndexOutOfBoundsException", kl_L_50, by decide +kernel⟩
        ), by decide, by decide, by decide, kl_L_40, by decide +kernel, rfl⟩, fun q => ?_⟩
      refine xJ_astore_n hX dL_gate_11 (Nat.le_of_ble_eq_true rfl) rfl ?_
      dsimp only [List.set]
      refine xJ_ldc (-2000000098) hX dL_gate_12 kc_L_42 ?_
      exact xJ_iretH hX hB dL_gate_14 (by decide) (by decide) ⟨_, rfl, ⟨by decide, by decide⟩, hM1, xqw_z z, hx.2.1 rfl⟩
theorem cw_L_flow : Cond.codeWith yL_flow cL_flow 4 (some .int) [(0, 6, 7, 50), (0, 6, 11, 40)] ∈ xT := List.mem_filter.mpr ⟨List.mem_append_right _ (List.mem_of_getElem? (i := 1546) (by decide +kernel)), by decide +kernel⟩
theorem lkw_L_flow : xLkW RL 211 yL_flow cL_flow 4 (some .int) [(0, 6, 7, 50), (0, 6, 11, 40)] 3 := ⟨List.mem_filter.mpr ⟨List.mem_append_right _ (List.mem_of_getElem? (i := 1544) (by decide +kernel)), by decide +kernel⟩, in_L, cw_L_flow, ⟨by decide +kernel, by decide +kernel⟩, by decide +kernel, by decide⟩
def p_L_flow (F : Nat) (t : xTh) (a : Nat) (x1 : Int) (x2 : Int) (M : xMe) (Q : Int → xTh → xMe → Prop) : Prop :=
  p_X11_flow F a x1 x2 M (fun r M1 => Q r t M1) (fun cls M1 => ∀ z : Nat, (cls = "java/lang/IndexOutOfBoundsException" → Q (-2000000097) (z, t.2) M1) ∧ (cls = "java/lang/IllegalArgumentException" → Q (-2000000098) (z, t.2) M1) ∧ (cls = "java/lang/IndexOutOfBoundsException" ∨ cls = "java/lang/IllegalArgumentException"))
set_option maxHeartbeats 4000000 in
theorem c_L_flow {G : xGx} {t : xTh} {M : xMe} {F : Nat} {a : Nat} {x1 x2 : Int} {Q : Int → xTh → xMe → Prop} (hL : oX11 t a) (hM : xMR M) (hx1 : xR x1) (hx2 : xR x2) (hp : p_L_flow F t a x1 x2 M Q) : xCtW G yL_flow cL_flow 4 (some .int) [(0, 6, 7, 50), (0, 6, 11, 40)] 9 2 12 [vr a, vi x1, vi x2] t M (fun v t' M' => ∃ r, v = some (vi r) ∧ xR r ∧ xMR M' ∧ xqw t t' ∧ Q r t' M') := by
  refine xCtW_of (L0 := [vr a, vi x1, vi x2, vU]) (by decide +kernel) (Nat.le_of_ble_eq_true rfl) rfl ?_
  intro X hX hB
  unfold p_L_flow at hp
  refine xJ_aload_n hX dL_flow_0 rfl ?_
  refine xJ_iload_n hX dL_flow_1 rfl ?_
  refine xJ_iload_n hX dL_flow_2 rfl ?_
  refine xJ_callVH (As := [_, _]) hX hB dL_flow_3 lk_L_53 im_X11_flow se_X11_flow rfl (by decide) (oX11_k hL) (c_X11_flow hL hM hx1 hx2 hp) (by decide) rfl rfl rfl (Nat.le_of_ble_eq_true rfl) (by decide) (by decide) (fun v t1 M1 hv => ?_) (fun E t1 M1 hx => ?_)
  · obtain ⟨r, rfl, hr, hM1, hs, hq⟩ := hv
    subst hs
    dsimp only [Option.toList, List.cons_append, List.nil_append]
    exact xJ_iretH hX hB dL_flow_6 (by decide) (by decide) ⟨_, rfl, hr, hM1, xqw_s (xqs_refl _), hq⟩
  · obtain ⟨⟨z, rfl⟩, hM1, hx⟩ := hx
    replace hx := hx z
    rcases hx.2.2 with rfl | rfl
    · refine ⟨7, ⟨[], (0, 6, 7, 50), [(0, 6, 11, 40)], "java/lang/IndexOutOfBoundsException", rfl, (fun z hz => by cases hz), by decide, by decide, by decide, kl_L_50, by decide +kernel, rfl⟩, fun q => ?_⟩
      refine xJ_astore_n hX dL_flow_7 (Nat.le_of_ble_eq_true rfl) rfl ?_
      dsimp only [List.set]
      refine xJ_ldc (-2000000097) hX dL_flow_8 kc_L_52 ?_
      exact xJ_iretH hX hB dL_flow_10 (by decide) (by decide) ⟨_, rfl, ⟨by decide, by decide⟩, hM1, xqw_z z, hx.1 rfl⟩
    · refine ⟨11, ⟨[(0, 6, 7, 50)], (0, 6, 11, 40), [], "java/lang/IllegalArgumentException", rfl, (fun z hz => by
        simp only [List.mem_cons, List.not_mem_nil, or_false] at hz
        rcases hz with rfl
        · exact ⟨by decide, "java/lang/IndexOutOfBoundsException", kl_L_50, by decide +kernel⟩
        ), by decide, by decide, by decide, kl_L_40, by decide +kernel, rfl⟩, fun q => ?_⟩
      refine xJ_astore_n hX dL_flow_11 (Nat.le_of_ble_eq_true rfl) rfl ?_
      dsimp only [List.set]
      refine xJ_ldc (-2000000098) hX dL_flow_12 kc_L_42 ?_
      exact xJ_iretH hX hB dL_flow_14 (by decide) (by decide) ⟨_, rfl, ⟨by decide, by decide⟩, hM1, xqw_z z, hx.2.1 rfl⟩
theorem cw_L_route : Cond.codeWith yL_route cL_route 4 (some .int) [(0, 6, 7, 50), (0, 6, 11, 59)] ∈ xT := List.mem_filter.mpr ⟨List.mem_append_right _ (List.mem_of_getElem? (i := 926) (by decide +kernel)), by decide +kernel⟩
theorem lkw_L_route : xLkW RL 269 yL_route cL_route 4 (some .int) [(0, 6, 7, 50), (0, 6, 11, 59)] 3 := ⟨List.mem_filter.mpr ⟨List.mem_append_right _ (List.mem_of_getElem? (i := 924) (by decide +kernel)), by decide +kernel⟩, in_L, cw_L_route, ⟨by decide +kernel, by decide +kernel⟩, by decide +kernel, by decide⟩
def p_L_route (t : xTh) (a : Nat) (x1 : Int) (x2 : Int) (M : xMe) (Q : Int → xTh → xMe → Prop) : Prop :=
  p_X11_route a x1 x2 M (fun r M1 => Q r t M1) (fun cls M1 => ∀ z : Nat, (cls = "java/lang/IndexOutOfBoundsException" → Q (-2000000097) (z, t.2) M1) ∧ (cls = "java/util/NoSuchElementException" → Q (-2000000100) (z, t.2) M1) ∧ (cls = "java/lang/IndexOutOfBoundsException" ∨ cls = "java/util/NoSuchElementException"))
set_option maxHeartbeats 4000000 in
theorem c_L_route {G : xGx} {t : xTh} {M : xMe} {a : Nat} {x1 x2 : Int} {Q : Int → xTh → xMe → Prop} (hL : oX11 t a) (hM : xMR M) (hx1 : xR x1) (hx2 : xR x2) (hp : p_L_route t a x1 x2 M Q) : xCtW G yL_route cL_route 4 (some .int) [(0, 6, 7, 50), (0, 6, 11, 59)] 9 2 12 [vr a, vi x1, vi x2] t M (fun v t' M' => ∃ r, v = some (vi r) ∧ xR r ∧ xMR M' ∧ xqw t t' ∧ Q r t' M') := by
  refine xCtW_of (L0 := [vr a, vi x1, vi x2, vU]) (by decide +kernel) (Nat.le_of_ble_eq_true rfl) rfl ?_
  intro X hX hB
  unfold p_L_route at hp
  refine xJ_aload_n hX dL_route_0 rfl ?_
  refine xJ_iload_n hX dL_route_1 rfl ?_
  refine xJ_iload_n hX dL_route_2 rfl ?_
  refine xJ_callVH (As := [_, _]) hX hB dL_route_3 lk_L_56 im_X11_route se_X11_route rfl (by decide) (oX11_k hL) (c_X11_route hL hM hx1 hx2 hp) (by decide) rfl rfl rfl (Nat.le_of_ble_eq_true rfl) (by decide) (by decide) (fun v t1 M1 hv => ?_) (fun E t1 M1 hx => ?_)
  · obtain ⟨r, rfl, hr, hM1, hs, hq⟩ := hv
    subst hs
    dsimp only [Option.toList, List.cons_append, List.nil_append]
    exact xJ_iretH hX hB dL_route_6 (by decide) (by decide) ⟨_, rfl, hr, hM1, xqw_s (xqs_refl _), hq⟩
  · obtain ⟨⟨z, rfl⟩, hM1, hx⟩ := hx
    replace hx := hx z
    rcases hx.2.2 with rfl | rfl
    · refine ⟨7, ⟨[], (0, 6, 7, 50), [(0, 6, 11, 59)], "java/lang/IndexOutOfBoundsException", rfl, (fun z hz => by cases hz), by decide, by decide, by decide, kl_L_50, by decide +kernel, rfl⟩, fun q => ?_⟩
      refine xJ_astore_n hX dL_route_7 (Nat.le_of_ble_eq_true rfl) rfl ?_
      dsimp only [List.set]
      refine xJ_ldc (-2000000097) hX dL_route_8 kc_L_52 ?_
      exact xJ_iretH hX hB dL_route_10 (by decide) (by decide) ⟨_, rfl, ⟨by decide, by decide⟩, hM1, xqw_z z, hx.1 rfl⟩
    · refine ⟨11, ⟨[(0, 6, 7, 50)], (0, 6, 11, 59), [], "java/util/NoSuchElementException", rfl, (fun z hz => by
        simp only [List.mem_cons, List.not_mem_nil, or_false] at hz
        rcases hz with rfl
        · exact ⟨by decide, "java/lang/IndexOutOfBoundsException", kl_L_50, by decide +kernel⟩
        ), by decide, by decide, by decide, kl_L_59, by decide +kernel, rfl⟩, fun q => ?_⟩
      refine xJ_astore_n hX dL_route_11 (Nat.le_of_ble_eq_true rfl) rfl ?_
      dsimp only [List.set]
      refine xJ_ldc (-2000000100) hX dL_route_12 kc_L_61 ?_
      exact xJ_iretH hX hB dL_route_14 (by decide) (by decide) ⟨_, rfl, ⟨by decide, by decide⟩, hM1, xqw_z z, hx.2.1 rfl⟩
theorem cw_L_tokens : Cond.codeWith yL_tokens cL_tokens 4 (some .int) [(0, 6, 7, 50)] ∈ xT := List.mem_filter.mpr ⟨List.mem_append_right _ (List.mem_of_getElem? (i := 1560) (by decide +kernel)), by decide +kernel⟩
theorem lkw_L_tokens : xLkW RL 220 yL_tokens cL_tokens 4 (some .int) [(0, 6, 7, 50)] 3 := ⟨List.mem_filter.mpr ⟨List.mem_append_right _ (List.mem_of_getElem? (i := 1558) (by decide +kernel)), by decide +kernel⟩, in_L, cw_L_tokens, ⟨by decide +kernel, by decide +kernel⟩, by decide +kernel, by decide⟩
def p_L_tokens (t : xTh) (a : Nat) (x1 : Int) (x2 : Int) (M : xMe) (Q : Int → xTh → xMe → Prop) : Prop :=
  p_X11_tokens a x1 x2 M (fun r M1 => Q r t M1) (fun cls M1 => ∀ z : Nat, (cls = "java/lang/IndexOutOfBoundsException" → Q (-2000000097) (z, t.2) M1) ∧ (cls = "java/lang/IndexOutOfBoundsException"))
set_option maxHeartbeats 4000000 in
theorem c_L_tokens {G : xGx} {t : xTh} {M : xMe} {a : Nat} {x1 x2 : Int} {Q : Int → xTh → xMe → Prop} (hL : oX11 t a) (hM : xMR M) (hx1 : xR x1) (hx2 : xR x2) (hp : p_L_tokens t a x1 x2 M Q) : xCtW G yL_tokens cL_tokens 4 (some .int) [(0, 6, 7, 50)] 9 2 12 [vr a, vi x1, vi x2] t M (fun v t' M' => ∃ r, v = some (vi r) ∧ xR r ∧ xMR M' ∧ xqw t t' ∧ Q r t' M') := by
  refine xCtW_of (L0 := [vr a, vi x1, vi x2, vU]) (by decide +kernel) (Nat.le_of_ble_eq_true rfl) rfl ?_
  intro X hX hB
  unfold p_L_tokens at hp
  refine xJ_aload_n hX dL_tokens_0 rfl ?_
  refine xJ_iload_n hX dL_tokens_1 rfl ?_
  refine xJ_iload_n hX dL_tokens_2 rfl ?_
  refine xJ_callVH (As := [_, _]) hX hB dL_tokens_3 lk_L_62 im_X11_tokens se_X11_tokens rfl (by decide) (oX11_k hL) (c_X11_tokens hL hM hx1 hx2 hp) (by decide) rfl rfl rfl (Nat.le_of_ble_eq_true rfl) (by decide) (by decide) (fun v t1 M1 hv => ?_) (fun E t1 M1 hx => ?_)
  · obtain ⟨r, rfl, hr, hM1, hs, hq⟩ := hv
    subst hs
    dsimp only [Option.toList, List.cons_append, List.nil_append]
    exact xJ_iretH hX hB dL_tokens_6 (by decide) (by decide) ⟨_, rfl, hr, hM1, xqw_s (xqs_refl _), hq⟩
  · obtain ⟨⟨z, rfl⟩, hM1, hx⟩ := hx
    replace hx := hx z
    rcases hx.2 with rfl
    · refine ⟨7, ⟨[], (0, 6, 7, 50), [], "java/lang/IndexOutOfBoundsException", rfl, (fun z hz => by cases hz), by decide, by decide, by decide, kl_L_50, by decide +kernel, rfl⟩, fun q => ?_⟩
      refine xJ_astore_n hX dL_tokens_7 (Nat.le_of_ble_eq_true rfl) rfl ?_
      dsimp only [List.set]
      refine xJ_ldc (-2000000097) hX dL_tokens_8 kc_L_52 ?_
      exact xJ_iretH hX hB dL_tokens_10 (by decide) (by decide) ⟨_, rfl, ⟨by decide, by decide⟩, hM1, xqw_z z, hx.1 rfl⟩
theorem cw_L_queue : Cond.codeWith yL_queue cL_queue 4 (some .int) [(0, 6, 7, 50)] ∈ xT := List.mem_filter.mpr ⟨List.mem_append_right _ (List.mem_of_getElem? (i := 1564) (by decide +kernel)), by decide +kernel⟩
theorem lkw_L_queue : xLkW RL 222 yL_queue cL_queue 4 (some .int) [(0, 6, 7, 50)] 3 := ⟨List.mem_filter.mpr ⟨List.mem_append_right _ (List.mem_of_getElem? (i := 1562) (by decide +kernel)), by decide +kernel⟩, in_L, cw_L_queue, ⟨by decide +kernel, by decide +kernel⟩, by decide +kernel, by decide⟩
def p_L_queue (t : xTh) (a : Nat) (x1 : Int) (x2 : Int) (M : xMe) (Q : Int → xTh → xMe → Prop) : Prop :=
  p_X11_queue a x1 x2 M (fun r M1 => Q r t M1) (fun cls M1 => ∀ z : Nat, (cls = "java/lang/IndexOutOfBoundsException" → Q (-2000000097) (z, t.2) M1) ∧ (cls = "java/lang/IndexOutOfBoundsException"))
set_option maxHeartbeats 4000000 in
theorem c_L_queue {G : xGx} {t : xTh} {M : xMe} {a : Nat} {x1 x2 : Int} {Q : Int → xTh → xMe → Prop} (hL : oX11 t a) (hM : xMR M) (hx1 : xR x1) (hx2 : xR x2) (hp : p_L_queue t a x1 x2 M Q) : xCtW G yL_queue cL_queue 4 (some .int) [(0, 6, 7, 50)] 9 2 12 [vr a, vi x1, vi x2] t M (fun v t' M' => ∃ r, v = some (vi r) ∧ xR r ∧ xMR M' ∧ xqw t t' ∧ Q r t' M') := by
  refine xCtW_of (L0 := [vr a, vi x1, vi x2, vU]) (by decide +kernel) (Nat.le_of_ble_eq_true rfl) rfl ?_
  intro X hX hB
  unfold p_L_queue at hp
  refine xJ_aload_n hX dL_queue_0 rfl ?_
  refine xJ_iload_n hX dL_queue_1 rfl ?_
  refine xJ_iload_n hX dL_queue_2 rfl ?_
  refine xJ_callVH (As := [_, _]) hX hB dL_queue_3 lk_L_65 im_X11_queue se_X11_queue rfl (by decide) (oX11_k hL) (c_X11_queue hL hM hx1 hx2 hp) (by decide) rfl rfl rfl (Nat.le_of_ble_eq_true rfl) (by decide) (by decide) (fun v t1 M1 hv => ?_) (fun E t1 M1 hx => ?_)
  · obtain ⟨r, rfl, hr, hM1, hs, hq⟩ := hv
    subst hs
    dsimp only [Option.toList, List.cons_append, List.nil_append]
    exact xJ_iretH hX hB dL_queue_6 (by decide) (by decide) ⟨_, rfl, hr, hM1, xqw_s (xqs_refl _), hq⟩
  · obtain ⟨⟨z, rfl⟩, hM1, hx⟩ := hx
    replace hx := hx z
    rcases hx.2 with rfl
    · refine ⟨7, ⟨[], (0, 6, 7, 50), [], "java/lang/IndexOutOfBoundsException", rfl, (fun z hz => by cases hz), by decide, by decide, by decide, kl_L_50, by decide +kernel, rfl⟩, fun q => ?_⟩
      refine xJ_astore_n hX dL_queue_7 (Nat.le_of_ble_eq_true rfl) rfl ?_
      dsimp only [List.set]
      refine xJ_ldc (-2000000097) hX dL_queue_8 kc_L_52 ?_
      exact xJ_iretH hX hB dL_queue_10 (by decide) (by decide) ⟨_, rfl, ⟨by decide, by decide⟩, hM1, xqw_z z, hx.1 rfl⟩
theorem cw_L_packet : Cond.codeWith yL_packet cL_packet 4 (some .int) [(0, 6, 7, 50), (0, 6, 11, 40)] ∈ xT := List.mem_filter.mpr ⟨List.mem_append_right _ (List.mem_of_getElem? (i := 1551) (by decide +kernel)), by decide +kernel⟩
theorem lkw_L_packet : xLkW RL 215 yL_packet cL_packet 4 (some .int) [(0, 6, 7, 50), (0, 6, 11, 40)] 3 := ⟨List.mem_filter.mpr ⟨List.mem_append_right _ (List.mem_of_getElem? (i := 1549) (by decide +kernel)), by decide +kernel⟩, in_L, cw_L_packet, ⟨by decide +kernel, by decide +kernel⟩, by decide +kernel, by decide⟩
def p_L_packet (t : xTh) (a : Nat) (x1 : Int) (x2 : Int) (M : xMe) (Q : Int → xTh → xMe → Prop) : Prop :=
  p_X11_packet a x1 x2 M (fun r M1 => Q r t M1) (fun cls M1 => ∀ z : Nat, (cls = "java/lang/IndexOutOfBoundsException" → Q (-2000000097) (z, t.2) M1) ∧ (cls = "java/lang/IllegalArgumentException" → Q (-2000000098) (z, t.2) M1) ∧ (cls = "java/lang/IndexOutOfBoundsException" ∨ cls = "java/lang/IllegalArgumentException"))
set_option maxHeartbeats 4000000 in
theorem c_L_packet {G : xGx} {t : xTh} {M : xMe} {a : Nat} {x1 x2 : Int} {Q : Int → xTh → xMe → Prop} (hL : oX11 t a) (hM : xMR M) (hx1 : xR x1) (hx2 : xR x2) (hp : p_L_packet t a x1 x2 M Q) : xCtW G yL_packet cL_packet 4 (some .int) [(0, 6, 7, 50), (0, 6, 11, 40)] 9 2 12 [vr a, vi x1, vi x2] t M (fun v t' M' => ∃ r, v = some (vi r) ∧ xR r ∧ xMR M' ∧ xqw t t' ∧ Q r t' M') := by
  refine xCtW_of (L0 := [vr a, vi x1, vi x2, vU]) (by decide +kernel) (Nat.le_of_ble_eq_true rfl) rfl ?_
  intro X hX hB
  unfold p_L_packet at hp
  refine xJ_aload_n hX dL_packet_0 rfl ?_
  refine xJ_iload_n hX dL_packet_1 rfl ?_
  refine xJ_iload_n hX dL_packet_2 rfl ?_
  refine xJ_callVH (As := [_, _]) hX hB dL_packet_3 lk_L_68 im_X11_packet se_X11_packet rfl (by decide) (oX11_k hL) (c_X11_packet hL hM hx1 hx2 hp) (by decide) rfl rfl rfl (Nat.le_of_ble_eq_true rfl) (by decide) (by decide) (fun v t1 M1 hv => ?_) (fun E t1 M1 hx => ?_)
  · obtain ⟨r, rfl, hr, hM1, hs, hq⟩ := hv
    subst hs
    dsimp only [Option.toList, List.cons_append, List.nil_append]
    exact xJ_iretH hX hB dL_packet_6 (by decide) (by decide) ⟨_, rfl, hr, hM1, xqw_s (xqs_refl _), hq⟩
  · obtain ⟨⟨z, rfl⟩, hM1, hx⟩ := hx
    replace hx := hx z
    rcases hx.2.2 with rfl | rfl
    · refine ⟨7, ⟨[], (0, 6, 7, 50), [(0, 6, 11, 40)], "java/lang/IndexOutOfBoundsException", rfl, (fun z hz => by cases hz), by decide, by decide, by decide, kl_L_50, by decide +kernel, rfl⟩, fun q => ?_⟩
      refine xJ_astore_n hX dL_packet_7 (Nat.le_of_ble_eq_true rfl) rfl ?_
      dsimp only [List.set]
      refine xJ_ldc (-2000000097) hX dL_packet_8 kc_L_52 ?_
      exact xJ_iretH hX hB dL_packet_10 (by decide) (by decide) ⟨_, rfl, ⟨by decide, by decide⟩, hM1, xqw_z z, hx.1 rfl⟩
    · refine ⟨11, ⟨[(0, 6, 7, 50)], (0, 6, 11, 40), [], "java/lang/IllegalArgumentException", rfl, (fun z hz => by
        simp only [List.mem_cons, List.not_mem_nil, or_false] at hz
        rcases hz with rfl
        · exact ⟨by decide, "java/lang/IndexOutOfBoundsException", kl_L_50, by decide +kernel⟩
        ), by decide, by decide, by decide, kl_L_40, by decide +kernel, rfl⟩, fun q => ?_⟩
      refine xJ_astore_n hX dL_packet_11 (Nat.le_of_ble_eq_true rfl) rfl ?_
      dsimp only [List.set]
      refine xJ_ldc (-2000000098) hX dL_packet_12 kc_L_42 ?_
      exact xJ_iretH hX hB dL_packet_14 (by decide) (by decide) ⟨_, rfl, ⟨by decide, by decide⟩, hM1, xqw_z z, hx.2.1 rfl⟩
theorem cw_L_coupon : Cond.codeWith yL_coupon cL_coupon 4 (some .int) [(0, 6, 7, 50), (0, 6, 11, 40)] ∈ xT := List.mem_filter.mpr ⟨List.mem_append_right _ (List.mem_of_getElem? (i := 1556) (by decide +kernel)), by decide +kernel⟩
theorem lkw_L_coupon : xLkW RL 218 yL_coupon cL_coupon 4 (some .int) [(0, 6, 7, 50), (0, 6, 11, 40)] 3 := ⟨List.mem_filter.mpr ⟨List.mem_append_right _ (List.mem_of_getElem? (i := 1554) (by decide +kernel)), by decide +kernel⟩, in_L, cw_L_coupon, ⟨by decide +kernel, by decide +kernel⟩, by decide +kernel, by decide⟩
def p_L_coupon (t : xTh) (a : Nat) (x1 : Int) (x2 : Int) (M : xMe) (Q : Int → xTh → xMe → Prop) : Prop :=
  p_X11_coupon a x1 x2 M (fun r M1 => Q r t M1) (fun cls M1 => ∀ z : Nat, (cls = "java/lang/IndexOutOfBoundsException" → Q (-2000000097) (z, t.2) M1) ∧ (cls = "java/lang/IllegalArgumentException" → Q (-2000000098) (z, t.2) M1) ∧ (cls = "java/lang/IndexOutOfBoundsException" ∨ cls = "java/lang/IllegalArgumentException"))
set_option maxHeartbeats 4000000 in
theorem c_L_coupon {G : xGx} {t : xTh} {M : xMe} {a : Nat} {x1 x2 : Int} {Q : Int → xTh → xMe → Prop} (hL : oX11 t a) (hM : xMR M) (hx1 : xR x1) (hx2 : xR x2) (hp : p_L_coupon t a x1 x2 M Q) : xCtW G yL_coupon cL_coupon 4 (some .int) [(0, 6, 7, 50), (0, 6, 11, 40)] 9 2 12 [vr a, vi x1, vi x2] t M (fun v t' M' => ∃ r, v = some (vi r) ∧ xR r ∧ xMR M' ∧ xqw t t' ∧ Q r t' M') := by
  refine xCtW_of (L0 := [vr a, vi x1, vi x2, vU]) (by decide +kernel) (Nat.le_of_ble_eq_true rfl) rfl ?_
  intro X hX hB
  unfold p_L_coupon at hp
  refine xJ_aload_n hX dL_coupon_0 rfl ?_
  refine xJ_iload_n hX dL_coupon_1 rfl ?_
  refine xJ_iload_n hX dL_coupon_2 rfl ?_
  refine xJ_callVH (As := [_, _]) hX hB dL_coupon_3 lk_L_71 im_X11_coupon se_X11_coupon rfl (by decide) (oX11_k hL) (c_X11_coupon hL hM hx1 hx2 hp) (by decide) rfl rfl rfl (Nat.le_of_ble_eq_true rfl) (by decide) (by decide) (fun v t1 M1 hv => ?_) (fun E t1 M1 hx => ?_)
  · obtain ⟨r, rfl, hr, hM1, hs, hq⟩ := hv
    subst hs
    dsimp only [Option.toList, List.cons_append, List.nil_append]
    exact xJ_iretH hX hB dL_coupon_6 (by decide) (by decide) ⟨_, rfl, hr, hM1, xqw_s (xqs_refl _), hq⟩
  · obtain ⟨⟨z, rfl⟩, hM1, hx⟩ := hx
    replace hx := hx z
    rcases hx.2.2 with rfl | rfl
    · refine ⟨7, ⟨[], (0, 6, 7, 50), [(0, 6, 11, 40)], "java/lang/IndexOutOfBoundsException", rfl, (fun z hz => by cases hz), by decide, by decide, by decide, kl_L_50, by decide +kernel, rfl⟩, fun q => ?_⟩
      refine xJ_astore_n hX dL_coupon_7 (Nat.le_of_ble_eq_true rfl) rfl ?_
      dsimp only [List.set]
      refine xJ_ldc (-2000000097) hX dL_coupon_8 kc_L_52 ?_
      exact xJ_iretH hX hB dL_coupon_10 (by decide) (by decide) ⟨_, rfl, ⟨by decide, by decide⟩, hM1, xqw_z z, hx.1 rfl⟩
    · refine ⟨11, ⟨[(0, 6, 7, 50)], (0, 6, 11, 40), [], "java/lang/IllegalArgumentException", rfl, (fun z hz => by
        simp only [List.mem_cons, List.not_mem_nil, or_false] at hz
        rcases hz with rfl
        · exact ⟨by decide, "java/lang/IndexOutOfBoundsException", kl_L_50, by decide +kernel⟩
        ), by decide, by decide, by decide, kl_L_40, by decide +kernel, rfl⟩, fun q => ?_⟩
      refine xJ_astore_n hX dL_coupon_11 (Nat.le_of_ble_eq_true rfl) rfl ?_
      dsimp only [List.set]
      refine xJ_ldc (-2000000098) hX dL_coupon_12 kc_L_42 ?_
      exact xJ_iretH hX hB dL_coupon_14 (by decide) (by decide) ⟨_, rfl, ⟨by decide, by decide⟩, hM1, xqw_z z, hx.2.1 rfl⟩
theorem cw_L_curve : Cond.codeWith yL_curve cL_curve 4 (some .int) [(0, 6, 7, 50), (0, 6, 11, 40)] ∈ xT := List.mem_filter.mpr ⟨List.mem_append_right _ (List.mem_of_getElem? (i := 974) (by decide +kernel)), by decide +kernel⟩
theorem lkw_L_curve : xLkW RL 271 yL_curve cL_curve 4 (some .int) [(0, 6, 7, 50), (0, 6, 11, 40)] 3 := ⟨List.mem_filter.mpr ⟨List.mem_append_right _ (List.mem_of_getElem? (i := 972) (by decide +kernel)), by decide +kernel⟩, in_L, cw_L_curve, ⟨by decide +kernel, by decide +kernel⟩, by decide +kernel, by decide⟩
def p_L_curve (t : xTh) (a : Nat) (x1 : Int) (x2 : Int) (M : xMe) (Q : Int → xTh → xMe → Prop) : Prop :=
  p_X11_curve a x1 x2 M (fun r M1 => Q r t M1) (fun cls M1 => ∀ z : Nat, (cls = "java/lang/IndexOutOfBoundsException" → Q (-2000000097) (z, t.2) M1) ∧ (cls = "java/lang/IllegalArgumentException" → Q (-2000000098) (z, t.2) M1) ∧ (cls = "java/lang/IndexOutOfBoundsException" ∨ cls = "java/lang/IllegalArgumentException"))
set_option maxHeartbeats 4000000 in
theorem c_L_curve {G : xGx} {t : xTh} {M : xMe} {a : Nat} {x1 x2 : Int} {Q : Int → xTh → xMe → Prop} (hL : oX11 t a) (hM : xMR M) (hx1 : xR x1) (hx2 : xR x2) (hp : p_L_curve t a x1 x2 M Q) : xCtW G yL_curve cL_curve 4 (some .int) [(0, 6, 7, 50), (0, 6, 11, 40)] 9 2 12 [vr a, vi x1, vi x2] t M (fun v t' M' => ∃ r, v = some (vi r) ∧ xR r ∧ xMR M' ∧ xqw t t' ∧ Q r t' M') := by
  refine xCtW_of (L0 := [vr a, vi x1, vi x2, vU]) (by decide +kernel) (Nat.le_of_ble_eq_true rfl) rfl ?_
  intro X hX hB
  unfold p_L_curve at hp
  refine xJ_aload_n hX dL_curve_0 rfl ?_
  refine xJ_iload_n hX dL_curve_1 rfl ?_
  refine xJ_iload_n hX dL_curve_2 rfl ?_
  refine xJ_callVH (As := [_, _]) hX hB dL_curve_3 lk_L_78 im_X11_curve se_X11_curve rfl (by decide) (oX11_k hL) (c_X11_curve hL hM hx1 hx2 hp) (by decide) rfl rfl rfl (Nat.le_of_ble_eq_true rfl) (by decide) (by decide) (fun v t1 M1 hv => ?_) (fun E t1 M1 hx => ?_)
  · obtain ⟨r, rfl, hr, hM1, hs, hq⟩ := hv
    subst hs
    dsimp only [Option.toList, List.cons_append, List.nil_append]
    exact xJ_iretH hX hB dL_curve_6 (by decide) (by decide) ⟨_, rfl, hr, hM1, xqw_s (xqs_refl _), hq⟩
  · obtain ⟨⟨z, rfl⟩, hM1, hx⟩ := hx
    replace hx := hx z
    rcases hx.2.2 with rfl | rfl
    · refine ⟨7, ⟨[], (0, 6, 7, 50), [(0, 6, 11, 40)], "java/lang/IndexOutOfBoundsException", rfl, (fun z hz => by cases hz), by decide, by decide, by decide, kl_L_50, by decide +kernel, rfl⟩, fun q => ?_⟩
      refine xJ_astore_n hX dL_curve_7 (Nat.le_of_ble_eq_true rfl) rfl ?_
      dsimp only [List.set]
      refine xJ_ldc (-2000000097) hX dL_curve_8 kc_L_52 ?_
      exact xJ_iretH hX hB dL_curve_10 (by decide) (by decide) ⟨_, rfl, ⟨by decide, by decide⟩, hM1, xqw_z z, hx.1 rfl⟩
    · refine ⟨11, ⟨[(0, 6, 7, 50)], (0, 6, 11, 40), [], "java/lang/IllegalArgumentException", rfl, (fun z hz => by
        simp only [List.mem_cons, List.not_mem_nil, or_false] at hz
        rcases hz with rfl
        · exact ⟨by decide, "java/lang/IndexOutOfBoundsException", kl_L_50, by decide +kernel⟩
        ), by decide, by decide, by decide, kl_L_40, by decide +kernel, rfl⟩, fun q => ?_⟩
      refine xJ_astore_n hX dL_curve_11 (Nat.le_of_ble_eq_true rfl) rfl ?_
      dsimp only [List.set]
      refine xJ_ldc (-2000000098) hX dL_curve_12 kc_L_42 ?_
      exact xJ_iretH hX hB dL_curve_14 (by decide) (by decide) ⟨_, rfl, ⟨by decide, by decide⟩, hM1, xqw_z z, hx.2.1 rfl⟩
theorem cw_L_endsAt : Cond.codeWith yL_endsAt cL_endsAt 3 (some .int) [(0, 5, 6, 50)] ∈ xT := List.mem_filter.mpr ⟨List.mem_append_right _ (List.mem_of_getElem? (i := 991) (by decide +kernel)), by decide +kernel⟩
theorem lkw_L_endsAt : xLkW RL 273 yL_endsAt cL_endsAt 3 (some .int) [(0, 5, 6, 50)] 2 := ⟨List.mem_filter.mpr ⟨List.mem_append_right _ (List.mem_of_getElem? (i := 989) (by decide +kernel)), by decide +kernel⟩, in_L, cw_L_endsAt, ⟨by decide +kernel, by decide +kernel⟩, by decide +kernel, by decide⟩
def p_L_endsAt (F : Nat) (t : xTh) (a : Nat) (x1 : Int) (M : xMe) (Q : Int → xTh → xMe → Prop) : Prop :=
  p_X11_endsAt F t a x1 M (fun r t1 M1 => Q r t1 M1) (fun cls M1 => ∀ z : Nat, (cls = "java/lang/IndexOutOfBoundsException" → Q (-2000000097) (z, t.2) M1) ∧ (cls = "java/lang/IndexOutOfBoundsException"))
set_option maxHeartbeats 4000000 in
theorem c_L_endsAt {G : xGx} {t : xTh} {M : xMe} {F : Nat} {a : Nat} {x1 : Int} {Q : Int → xTh → xMe → Prop} (hL : oX11 t a) (hXQ : oXQ t a) (hM : xMR M) (hx1 : xR x1) (hp : p_L_endsAt F t a x1 M Q) : xCtW G yL_endsAt cL_endsAt 3 (some .int) [(0, 5, 6, 50)] 9 1 6 [vr a, vi x1] t M (fun v t' M' => ∃ r, v = some (vi r) ∧ xR r ∧ xMR M' ∧ xqw t t' ∧ Q r t' M') := by
  refine xCtW_of (L0 := [vr a, vi x1, vU]) (by decide +kernel) (Nat.le_of_ble_eq_true rfl) rfl ?_
  intro X hX hB
  unfold p_L_endsAt at hp
  refine xJ_aload_n hX dL_endsAt_0 rfl ?_
  refine xJ_iload_n hX dL_endsAt_1 rfl ?_
  refine xJ_callVH (As := [_]) hX hB dL_endsAt_2 lk_L_81 im_X11_endsAt se_X11_endsAt rfl (by decide) (oX11_k hL) (c_X11_endsAt hL hXQ hM hx1 hp) (by decide) rfl rfl rfl (Nat.le_of_ble_eq_true rfl) (by decide) (by decide) (fun v t1 M1 hv => ?_) (fun E t1 M1 hx => ?_)
  · obtain ⟨r, rfl, hr, hM1, hs, -, hq⟩ := hv
    dsimp only [Option.toList, List.cons_append, List.nil_append]
    exact xJ_iretH hX hB dL_endsAt_5 (by decide) (by decide) ⟨_, rfl, hr, hM1, xqw_s hs, hq⟩
  · obtain ⟨⟨z, rfl⟩, hM1, hx⟩ := hx
    replace hx := hx z
    rcases hx.2 with rfl
    · refine ⟨6, ⟨[], (0, 5, 6, 50), [], "java/lang/IndexOutOfBoundsException", rfl, (fun z hz => by cases hz), by decide, by decide, by decide, kl_L_50, by decide +kernel, rfl⟩, fun q => ?_⟩
      refine xJ_astore_n hX dL_endsAt_6 (Nat.le_of_ble_eq_true rfl) rfl ?_
      dsimp only [List.set]
      refine xJ_ldc (-2000000097) hX dL_endsAt_7 kc_L_52 ?_
      exact xJ_iretH hX hB dL_endsAt_9 (by decide) (by decide) ⟨_, rfl, ⟨by decide, by decide⟩, hM1, xqw_z z, hx.1 rfl⟩
theorem cw_L_help : Cond.codeWith yL_help cL_help 3 (some .int) [(0, 5, 6, 50)] ∈ xT := List.mem_filter.mpr ⟨List.mem_append_right _ (List.mem_of_getElem? (i := 1111) (by decide +kernel)), by decide +kernel⟩
theorem lkw_L_help : xLkW RL 275 yL_help cL_help 3 (some .int) [(0, 5, 6, 50)] 2 := ⟨List.mem_filter.mpr ⟨List.mem_append_right _ (List.mem_of_getElem? (i := 1109) (by decide +kernel)), by decide +kernel⟩, in_L, cw_L_help, ⟨by decide +kernel, by decide +kernel⟩, by decide +kernel, by decide⟩
def p_L_help (F : Nat) (t : xTh) (a : Nat) (x1 : Int) (M : xMe) (Q : Int → xTh → xMe → Prop) : Prop :=
  p_X11_help F t a x1 M (fun r t1 M1 => Q r t1 M1) (fun cls M1 => ∀ z : Nat, (cls = "java/lang/IndexOutOfBoundsException" → Q (-2000000097) (z, t.2) M1) ∧ (cls = "java/lang/IndexOutOfBoundsException"))
set_option maxHeartbeats 4000000 in
theorem c_L_help {G : xGx} {t : xTh} {M : xMe} {F : Nat} {a : Nat} {x1 : Int} {Q : Int → xTh → xMe → Prop} (hL : oX11 t a) (hXQ : oXQ t a) (hM : xMR M) (hx1 : xR x1) (hp : p_L_help F t a x1 M Q) : xCtW G yL_help cL_help 3 (some .int) [(0, 5, 6, 50)] 9 1 6 [vr a, vi x1] t M (fun v t' M' => ∃ r, v = some (vi r) ∧ xR r ∧ xMR M' ∧ xqw t t' ∧ Q r t' M') := by
  refine xCtW_of (L0 := [vr a, vi x1, vU]) (by decide +kernel) (Nat.le_of_ble_eq_true rfl) rfl ?_
  intro X hX hB
  unfold p_L_help at hp
  refine xJ_aload_n hX dL_help_0 rfl ?_
  refine xJ_iload_n hX dL_help_1 rfl ?_
  refine xJ_callVH (As := [_]) hX hB dL_help_2 lk_L_87 im_X11_help se_X11_help rfl (by decide) (oX11_k hL) (c_X11_help hL hXQ hM hx1 hp) (by decide) rfl rfl rfl (Nat.le_of_ble_eq_true rfl) (by decide) (by decide) (fun v t1 M1 hv => ?_) (fun E t1 M1 hx => ?_)
  · obtain ⟨r, rfl, hr, hM1, hs, -, hq⟩ := hv
    dsimp only [Option.toList, List.cons_append, List.nil_append]
    exact xJ_iretH hX hB dL_help_5 (by decide) (by decide) ⟨_, rfl, hr, hM1, xqw_s hs, hq⟩
  · obtain ⟨⟨z, rfl⟩, hM1, hx⟩ := hx
    replace hx := hx z
    rcases hx.2 with rfl
    · refine ⟨6, ⟨[], (0, 5, 6, 50), [], "java/lang/IndexOutOfBoundsException", rfl, (fun z hz => by cases hz), by decide, by decide, by decide, kl_L_50, by decide +kernel, rfl⟩, fun q => ?_⟩
      refine xJ_astore_n hX dL_help_6 (Nat.le_of_ble_eq_true rfl) rfl ?_
      dsimp only [List.set]
      refine xJ_ldc (-2000000097) hX dL_help_7 kc_L_52 ?_
      exact xJ_iretH hX hB dL_help_9 (by decide) (by decide) ⟨_, rfl, ⟨by decide, by decide⟩, hM1, xqw_z z, hx.1 rfl⟩
theorem cw_L_pass : Cond.codeWith yL_pass cL_pass 3 (some .int) [(0, 5, 6, 40)] ∈ xT := List.mem_filter.mpr ⟨List.mem_append_right _ (List.mem_of_getElem? (i := 1120) (by decide +kernel)), by decide +kernel⟩
theorem lkw_L_pass : xLkW RL 241 yL_pass cL_pass 3 (some .int) [(0, 5, 6, 40)] 2 := ⟨List.mem_filter.mpr ⟨List.mem_append_right _ (List.mem_of_getElem? (i := 1118) (by decide +kernel)), by decide +kernel⟩, in_L, cw_L_pass, ⟨by decide +kernel, by decide +kernel⟩, by decide +kernel, by decide⟩
def p_L_pass (F : Nat) (t : xTh) (a : Nat) (x1 : Int) (M : xMe) (Q : Int → xTh → xMe → Prop) : Prop :=
  p_X11_pass F t a x1 M (fun r t1 M1 => Q r t1 M1) (fun cls M1 => ∀ z : Nat, (cls = "java/lang/IllegalArgumentException" → Q (-2000000098) (z, t.2) M1) ∧ (cls = "java/lang/IllegalArgumentException"))
set_option maxHeartbeats 4000000 in
theorem c_L_pass {G : xGx} {t : xTh} {M : xMe} {F : Nat} {a : Nat} {x1 : Int} {Q : Int → xTh → xMe → Prop} (hL : oX11 t a) (hXQ : oXQ t a) (hM : xMR M) (hx1 : xR x1) (hp : p_L_pass F t a x1 M Q) : xCtW G yL_pass cL_pass 3 (some .int) [(0, 5, 6, 40)] 9 2 12 [vr a, vi x1] t M (fun v t' M' => ∃ r, v = some (vi r) ∧ xR r ∧ xMR M' ∧ xqw t t' ∧ Q r t' M') := by
  refine xCtW_of (L0 := [vr a, vi x1, vU]) (by decide +kernel) (Nat.le_of_ble_eq_true rfl) rfl ?_
  intro X hX hB
  unfold p_L_pass at hp
  refine xJ_aload_n hX dL_pass_0 rfl ?_
  refine xJ_iload_n hX dL_pass_1 rfl ?_
  refine xJ_callVH (As := [_]) hX hB dL_pass_2 lk_L_90 im_X11_pass se_X11_pass rfl (by decide) (oX11_k hL) (c_X11_pass hL hXQ hM hx1 hp) (by decide) rfl rfl rfl (Nat.le_of_ble_eq_true rfl) (by decide) (by decide) (fun v t1 M1 hv => ?_) (fun E t1 M1 hx => ?_)
  · obtain ⟨r, rfl, hr, hM1, hs, -, hq⟩ := hv
    dsimp only [Option.toList, List.cons_append, List.nil_append]
    exact xJ_iretH hX hB dL_pass_5 (by decide) (by decide) ⟨_, rfl, hr, hM1, xqw_s hs, hq⟩
  · obtain ⟨⟨z, rfl⟩, hM1, hx⟩ := hx
    replace hx := hx z
    rcases hx.2 with rfl
    · refine ⟨6, ⟨[], (0, 5, 6, 40), [], "java/lang/IllegalArgumentException", rfl, (fun z hz => by cases hz), by decide, by decide, by decide, kl_L_40, by decide +kernel, rfl⟩, fun q => ?_⟩
      refine xJ_astore_n hX dL_pass_6 (Nat.le_of_ble_eq_true rfl) rfl ?_
      dsimp only [List.set]
      refine xJ_ldc (-2000000098) hX dL_pass_7 kc_L_42 ?_
      exact xJ_iretH hX hB dL_pass_9 (by decide) (by decide) ⟨_, rfl, ⟨by decide, by decide⟩, hM1, xqw_z z, hx.1 rfl⟩
theorem cw_L_forward : Cond.codeWith yL_forward cL_forward 4 (some .int) [(0, 6, 7, 50)] ∈ xT := List.mem_filter.mpr ⟨List.mem_append_right _ (List.mem_of_getElem? (i := 1131) (by decide +kernel)), by decide +kernel⟩
theorem lkw_L_forward : xLkW RL 261 yL_forward cL_forward 4 (some .int) [(0, 6, 7, 50)] 3 := ⟨List.mem_filter.mpr ⟨List.mem_append_right _ (List.mem_of_getElem? (i := 1129) (by decide +kernel)), by decide +kernel⟩, in_L, cw_L_forward, ⟨by decide +kernel, by decide +kernel⟩, by decide +kernel, by decide⟩
def p_L_forward (t : xTh) (a : Nat) (x1 : Int) (x2 : Int) (M : xMe) (Q : Int → xTh → xMe → Prop) : Prop :=
  p_X11_forward t a x1 x2 M (fun r t1 M1 => Q r t1 M1) (fun cls M1 => ∀ z : Nat, (cls = "java/lang/IndexOutOfBoundsException" → Q (-2000000097) (z, t.2) M1) ∧ (cls = "java/lang/IndexOutOfBoundsException"))
set_option maxHeartbeats 4000000 in
theorem c_L_forward {G : xGx} {t : xTh} {M : xMe} {a : Nat} {x1 x2 : Int} {Q : Int → xTh → xMe → Prop} (hL : oX11 t a) (hXQ : oXQ t a) (hM : xMR M) (hx1 : xR x1) (hx2 : xR x2) (hp : p_L_forward t a x1 x2 M Q) : xCtW G yL_forward cL_forward 4 (some .int) [(0, 6, 7, 50)] 9 2 12 [vr a, vi x1, vi x2] t M (fun v t' M' => ∃ r, v = some (vi r) ∧ xR r ∧ xMR M' ∧ xqw t t' ∧ Q r t' M') := by
  refine xCtW_of (L0 := [vr a, vi x1, vi x2, vU]) (by decide +kernel) (Nat.le_of_ble_eq_true rfl) rfl ?_
  intro X hX hB
  unfold p_L_forward at hp
  refine xJ_aload_n hX dL_forward_0 rfl ?_
  refine xJ_iload_n hX dL_forward_1 rfl ?_
  refine xJ_iload_n hX dL_forward_2 rfl ?_
  refine xJ_callVH (As := [_, _]) hX hB dL_forward_3 lk_L_93 im_X11_forward se_X11_forward rfl (by decide) (oX11_k hL) (c_X11_forward hL hXQ hM hx1 hx2 hp) (by decide) rfl rfl rfl (Nat.le_of_ble_eq_true rfl) (by decide) (by decide) (fun v t1 M1 hv => ?_) (fun E t1 M1 hx => ?_)
  · obtain ⟨r, rfl, hr, hM1, hs, -, hq⟩ := hv
    dsimp only [Option.toList, List.cons_append, List.nil_append]
    exact xJ_iretH hX hB dL_forward_6 (by decide) (by decide) ⟨_, rfl, hr, hM1, xqw_s hs, hq⟩
  · obtain ⟨⟨z, rfl⟩, hM1, hx⟩ := hx
    replace hx := hx z
    rcases hx.2 with rfl
    · refine ⟨7, ⟨[], (0, 6, 7, 50), [], "java/lang/IndexOutOfBoundsException", rfl, (fun z hz => by cases hz), by decide, by decide, by decide, kl_L_50, by decide +kernel, rfl⟩, fun q => ?_⟩
      refine xJ_astore_n hX dL_forward_7 (Nat.le_of_ble_eq_true rfl) rfl ?_
      dsimp only [List.set]
      refine xJ_ldc (-2000000097) hX dL_forward_8 kc_L_52 ?_
      exact xJ_iretH hX hB dL_forward_10 (by decide) (by decide) ⟨_, rfl, ⟨by decide, by decide⟩, hM1, xqw_z z, hx.1 rfl⟩
theorem cw_L_grant : Cond.codeWith yL_grant cL_grant 5 (some .int) [(0, 7, 8, 50), (0, 7, 13, 40), (0, 7, 18, 99)] ∈ xT := List.mem_filter.mpr ⟨List.mem_append_right _ (List.mem_of_getElem? (i := 1143) (by decide +kernel)), by decide +kernel⟩
theorem lkw_L_grant : xLkW RL 245 yL_grant cL_grant 5 (some .int) [(0, 7, 8, 50), (0, 7, 13, 40), (0, 7, 18, 99)] 4 := ⟨List.mem_filter.mpr ⟨List.mem_append_right _ (List.mem_of_getElem? (i := 1141) (by decide +kernel)), by decide +kernel⟩, in_L, cw_L_grant, ⟨by decide +kernel, by decide +kernel⟩, by decide +kernel, by decide⟩
def p_L_grant (t : xTh) (a : Nat) (x1 : Int) (x2 : Int) (x3 : Int) (M : xMe) (Q : Int → xTh → xMe → Prop) : Prop :=
  p_X11_grant t a x1 x2 x3 M (fun r t1 M1 => Q r t1 M1) (fun cls M1 => ∀ z : Nat, (cls = "java/lang/IndexOutOfBoundsException" → Q (-2000000097) (z, t.2) M1) ∧ (cls = "java/lang/IllegalArgumentException" → Q (-2000000098) (z, t.2) M1) ∧ (cls = "java/lang/IllegalStateException" → Q (-2000000099) (z, t.2) M1) ∧ (cls = "java/lang/IndexOutOfBoundsException" ∨ cls = "java/lang/IllegalArgumentException" ∨ cls = "java/lang/IllegalStateException"))
set_option maxHeartbeats 4000000 in
theorem c_L_grant {G : xGx} {t : xTh} {M : xMe} {a : Nat} {x1 x2 x3 : Int} {Q : Int → xTh → xMe → Prop} (hL : oX11 t a) (hXQ : oXQ t a) (hM : xMR M) (hx1 : xR x1) (hx2 : xR x2) (hx3 : xR x3) (hp : p_L_grant t a x1 x2 x3 M Q) : xCtW G yL_grant cL_grant 5 (some .int) [(0, 7, 8, 50), (0, 7, 13, 40), (0, 7, 18, 99)] 9 4 24 [vr a, vi x1, vi x2, vi x3] t M (fun v t' M' => ∃ r, v = some (vi r) ∧ xR r ∧ xMR M' ∧ xqw t t' ∧ Q r t' M') := by
  refine xCtW_of (L0 := [vr a, vi x1, vi x2, vi x3, vU]) (by decide +kernel) (Nat.le_of_ble_eq_true rfl) rfl ?_
  intro X hX hB
  unfold p_L_grant at hp
  refine xJ_aload_n hX dL_grant_0 rfl ?_
  refine xJ_iload_n hX dL_grant_1 rfl ?_
  refine xJ_iload_n hX dL_grant_2 rfl ?_
  refine xJ_iload_n hX dL_grant_3 rfl ?_
  refine xJ_callVH (As := [_, _, _]) hX hB dL_grant_4 lk_L_96 im_X11_grant se_X11_grant rfl (by decide) (oX11_k hL) (c_X11_grant hL hXQ hM hx1 hx2 hx3 hp) (by decide) rfl rfl rfl (Nat.le_of_ble_eq_true rfl) (by decide) (by decide) (fun v t1 M1 hv => ?_) (fun E t1 M1 hx => ?_)
  · obtain ⟨r, rfl, hr, hM1, hs, -, hq⟩ := hv
    dsimp only [Option.toList, List.cons_append, List.nil_append]
    exact xJ_iretH hX hB dL_grant_7 (by decide) (by decide) ⟨_, rfl, hr, hM1, xqw_s hs, hq⟩
  · obtain ⟨⟨z, rfl⟩, hM1, hx⟩ := hx
    replace hx := hx z
    rcases hx.2.2.2 with rfl | rfl | rfl
    · refine ⟨8, ⟨[], (0, 7, 8, 50), [(0, 7, 13, 40), (0, 7, 18, 99)], "java/lang/IndexOutOfBoundsException", rfl, (fun z hz => by cases hz), by decide, by decide, by decide, kl_L_50, by decide +kernel, rfl⟩, fun q => ?_⟩
      refine xJ_astore hX dL_grant_8 (Nat.le_of_ble_eq_true rfl) rfl ?_
      dsimp only [List.set]
      refine xJ_ldc (-2000000097) hX dL_grant_10 kc_L_52 ?_
      exact xJ_iretH hX hB dL_grant_12 (by decide) (by decide) ⟨_, rfl, ⟨by decide, by decide⟩, hM1, xqw_z z, hx.1 rfl⟩
    · refine ⟨13, ⟨[(0, 7, 8, 50)], (0, 7, 13, 40), [(0, 7, 18, 99)], "java/lang/IllegalArgumentException", rfl, (fun z hz => by
        simp only [List.mem_cons, List.not_mem_nil, or_false] at hz
        rcases hz with rfl
        · exact ⟨by decide, "java/lang/IndexOutOfBoundsException", kl_L_50, by decide +kernel⟩
        ), by decide, by decide, by decide, kl_L_40, by decide +kernel, rfl⟩, fun q => ?_⟩
      refine xJ_astore hX dL_grant_13 (Nat.le_of_ble_eq_true rfl) rfl ?_
      dsimp only [List.set]
      refine xJ_ldc (-2000000098) hX dL_grant_15 kc_L_42 ?_
      exact xJ_iretH hX hB dL_grant_17 (by decide) (by decide) ⟨_, rfl, ⟨by decide, by decide⟩, hM1, xqw_z z, hx.2.1 rfl⟩
    · refine ⟨18, ⟨[(0, 7, 8, 50), (0, 7, 13, 40)], (0, 7, 18, 99), [], "java/lang/IllegalStateException", rfl, (fun z hz => by
        simp only [List.mem_cons, List.not_mem_nil, or_false] at hz
        rcases hz with rfl | rfl
        · exact ⟨by decide, "java/lang/IndexOutOfBoundsException", kl_L_50, by decide +kernel⟩
        · exact ⟨by decide, "java/lang/IllegalArgumentException", kl_L_40, by decide +kernel⟩
        ), by decide, by decide, by decide, kl_L_99, by decide +kernel, rfl⟩, fun q => ?_⟩
      refine xJ_astore hX dL_grant_18 (Nat.le_of_ble_eq_true rfl) rfl ?_
      dsimp only [List.set]
      refine xJ_ldc (-2000000099) hX dL_grant_20 kc_L_101 ?_
      exact xJ_iretH hX hB dL_grant_22 (by decide) (by decide) ⟨_, rfl, ⟨by decide, by decide⟩, hM1, xqw_z z, hx.2.2.1 rfl⟩
theorem cw_L_send : Cond.codeWith yL_send cL_send 4 (some .int) [(0, 6, 7, 50), (0, 6, 11, 40), (0, 6, 15, 99)] ∈ xT := List.mem_filter.mpr ⟨List.mem_append_right _ (List.mem_of_getElem? (i := 1168) (by decide +kernel)), by decide +kernel⟩
theorem lkw_L_send : xLkW RL 243 yL_send cL_send 4 (some .int) [(0, 6, 7, 50), (0, 6, 11, 40), (0, 6, 15, 99)] 3 := ⟨List.mem_filter.mpr ⟨List.mem_append_right _ (List.mem_of_getElem? (i := 1166) (by decide +kernel)), by decide +kernel⟩, in_L, cw_L_send, ⟨by decide +kernel, by decide +kernel⟩, by decide +kernel, by decide⟩
def p_L_send (t : xTh) (a : Nat) (x1 : Int) (x2 : Int) (M : xMe) (Q : Int → xTh → xMe → Prop) : Prop :=
  p_X11_send t a x1 x2 M (fun r t1 M1 => Q r t1 M1) (fun cls M1 => ∀ z : Nat, (cls = "java/lang/IndexOutOfBoundsException" → Q (-2000000097) (z, t.2) M1) ∧ (cls = "java/lang/IllegalArgumentException" → Q (-2000000098) (z, t.2) M1) ∧ (cls = "java/lang/IllegalStateException" → Q (-2000000099) (z, t.2) M1) ∧ (cls = "java/lang/IndexOutOfBoundsException" ∨ cls = "java/lang/IllegalArgumentException" ∨ cls = "java/lang/IllegalStateException"))
set_option maxHeartbeats 4000000 in
theorem c_L_send {G : xGx} {t : xTh} {M : xMe} {a : Nat} {x1 x2 : Int} {Q : Int → xTh → xMe → Prop} (hL : oX11 t a) (hXQ : oXQ t a) (hM : xMR M) (hx1 : xR x1) (hx2 : xR x2) (hp : p_L_send t a x1 x2 M Q) : xCtW G yL_send cL_send 4 (some .int) [(0, 6, 7, 50), (0, 6, 11, 40), (0, 6, 15, 99)] 9 3 18 [vr a, vi x1, vi x2] t M (fun v t' M' => ∃ r, v = some (vi r) ∧ xR r ∧ xMR M' ∧ xqw t t' ∧ Q r t' M') := by
  refine xCtW_of (L0 := [vr a, vi x1, vi x2, vU]) (by decide +kernel) (Nat.le_of_ble_eq_true rfl) rfl ?_
  intro X hX hB
  unfold p_L_send at hp
  refine xJ_aload_n hX dL_send_0 rfl ?_
  refine xJ_iload_n hX dL_send_1 rfl ?_
  refine xJ_iload_n hX dL_send_2 rfl ?_
  refine xJ_callVH (As := [_, _]) hX hB dL_send_3 lk_L_102 im_X11_send se_X11_send rfl (by decide) (oX11_k hL) (c_X11_send hL hXQ hM hx1 hx2 hp) (by decide) rfl rfl rfl (Nat.le_of_ble_eq_true rfl) (by decide) (by decide) (fun v t1 M1 hv => ?_) (fun E t1 M1 hx => ?_)
  · obtain ⟨r, rfl, hr, hM1, hs, -, hq⟩ := hv
    dsimp only [Option.toList, List.cons_append, List.nil_append]
    exact xJ_iretH hX hB dL_send_6 (by decide) (by decide) ⟨_, rfl, hr, hM1, xqw_s hs, hq⟩
  · obtain ⟨⟨z, rfl⟩, hM1, hx⟩ := hx
    replace hx := hx z
    rcases hx.2.2.2 with rfl | rfl | rfl
    · refine ⟨7, ⟨[], (0, 6, 7, 50), [(0, 6, 11, 40), (0, 6, 15, 99)], "java/lang/IndexOutOfBoundsException", rfl, (fun z hz => by cases hz), by decide, by decide, by decide, kl_L_50, by decide +kernel, rfl⟩, fun q => ?_⟩
      refine xJ_astore_n hX dL_send_7 (Nat.le_of_ble_eq_true rfl) rfl ?_
      dsimp only [List.set]
      refine xJ_ldc (-2000000097) hX dL_send_8 kc_L_52 ?_
      exact xJ_iretH hX hB dL_send_10 (by decide) (by decide) ⟨_, rfl, ⟨by decide, by decide⟩, hM1, xqw_z z, hx.1 rfl⟩
    · refine ⟨11, ⟨[(0, 6, 7, 50)], (0, 6, 11, 40), [(0, 6, 15, 99)], "java/lang/IllegalArgumentException", rfl, (fun z hz => by
        simp only [List.mem_cons, List.not_mem_nil, or_false] at hz
        rcases hz with rfl
        · exact ⟨by decide, "java/lang/IndexOutOfBoundsException", kl_L_50, by decide +kernel⟩
        ), by decide, by decide, by decide, kl_L_40, by decide +kernel, rfl⟩, fun q => ?_⟩
      refine xJ_astore_n hX dL_send_11 (Nat.le_of_ble_eq_true rfl) rfl ?_
      dsimp only [List.set]
      refine xJ_ldc (-2000000098) hX dL_send_12 kc_L_42 ?_
      exact xJ_iretH hX hB dL_send_14 (by decide) (by decide) ⟨_, rfl, ⟨by decide, by decide⟩, hM1, xqw_z z, hx.2.1 rfl⟩
    · refine ⟨15, ⟨[(0, 6, 7, 50), (0, 6, 11, 40)], (0, 6, 15, 99), [], "java/lang/IllegalStateException", rfl, (fun z hz => by
        simp only [List.mem_cons, List.not_mem_nil, or_false] at hz
        rcases hz with rfl | rfl
        · exact ⟨by decide, "java/lang/IndexOutOfBoundsException", kl_L_50, by decide +kernel⟩
        · exact ⟨by decide, "java/lang/IllegalArgumentException", kl_L_40, by decide +kernel⟩
        ), by decide, by decide, by decide, kl_L_99, by decide +kernel, rfl⟩, fun q => ?_⟩
      refine xJ_astore_n hX dL_send_15 (Nat.le_of_ble_eq_true rfl) rfl ?_
      dsimp only [List.set]
      refine xJ_ldc (-2000000099) hX dL_send_16 kc_L_101 ?_
      exact xJ_iretH hX hB dL_send_18 (by decide) (by decide) ⟨_, rfl, ⟨by decide, by decide⟩, hM1, xqw_z z, hx.2.2.1 rfl⟩
theorem cw_L_setThrift : Cond.codeWith yL_setThrift cL_setThrift 4 (some .int) [(0, 6, 7, 50), (0, 6, 11, 40)] ∈ xT := List.mem_filter.mpr ⟨List.mem_append_right _ (List.mem_of_getElem? (i := 1177) (by decide +kernel)), by decide +kernel⟩
theorem lkw_L_setThrift : xLkW RL 256 yL_setThrift cL_setThrift 4 (some .int) [(0, 6, 7, 50), (0, 6, 11, 40)] 3 := ⟨List.mem_filter.mpr ⟨List.mem_append_right _ (List.mem_of_getElem? (i := 1175) (by decide +kernel)), by decide +kernel⟩, in_L, cw_L_setThrift, ⟨by decide +kernel, by decide +kernel⟩, by decide +kernel, by decide⟩
def p_L_setThrift (t : xTh) (a : Nat) (x1 : Int) (x2 : Int) (M : xMe) (Q : Int → xTh → xMe → Prop) : Prop :=
  p_X11_setThrift t a x1 x2 M (fun r t1 M1 => Q r t1 M1) (fun cls M1 => ∀ z : Nat, (cls = "java/lang/IndexOutOfBoundsException" → Q (-2000000097) (z, t.2) M1) ∧ (cls = "java/lang/IllegalArgumentException" → Q (-2000000098) (z, t.2) M1) ∧ (cls = "java/lang/IndexOutOfBoundsException" ∨ cls = "java/lang/IllegalArgumentException"))
set_option maxHeartbeats 4000000 in
theorem c_L_setThrift {G : xGx} {t : xTh} {M : xMe} {a : Nat} {x1 x2 : Int} {Q : Int → xTh → xMe → Prop} (hL : oX11 t a) (hXQ : oXQ t a) (hM : xMR M) (hx1 : xR x1) (hx2 : xR x2) (hp : p_L_setThrift t a x1 x2 M Q) : xCtW G yL_setThrift cL_setThrift 4 (some .int) [(0, 6, 7, 50), (0, 6, 11, 40)] 9 2 12 [vr a, vi x1, vi x2] t M (fun v t' M' => ∃ r, v = some (vi r) ∧ xR r ∧ xMR M' ∧ xqw t t' ∧ Q r t' M') := by
  refine xCtW_of (L0 := [vr a, vi x1, vi x2, vU]) (by decide +kernel) (Nat.le_of_ble_eq_true rfl) rfl ?_
  intro X hX hB
  unfold p_L_setThrift at hp
  refine xJ_aload_n hX dL_setThrift_0 rfl ?_
  refine xJ_iload_n hX dL_setThrift_1 rfl ?_
  refine xJ_iload_n hX dL_setThrift_2 rfl ?_
  refine xJ_callVH (As := [_, _]) hX hB dL_setThrift_3 lk_L_105 im_X11_setThrift se_X11_setThrift rfl (by decide) (oX11_k hL) (c_X11_setThrift hL hXQ hM hx1 hx2 hp) (by decide) rfl rfl rfl (Nat.le_of_ble_eq_true rfl) (by decide) (by decide) (fun v t1 M1 hv => ?_) (fun E t1 M1 hx => ?_)
  · obtain ⟨r, rfl, hr, hM1, hs, -, hq⟩ := hv
    dsimp only [Option.toList, List.cons_append, List.nil_append]
    exact xJ_iretH hX hB dL_setThrift_6 (by decide) (by decide) ⟨_, rfl, hr, hM1, xqw_s hs, hq⟩
  · obtain ⟨⟨z, rfl⟩, hM1, hx⟩ := hx
    replace hx := hx z
    rcases hx.2.2 with rfl | rfl
    · refine ⟨7, ⟨[], (0, 6, 7, 50), [(0, 6, 11, 40)], "java/lang/IndexOutOfBoundsException", rfl, (fun z hz => by cases hz), by decide, by decide, by decide, kl_L_50, by decide +kernel, rfl⟩, fun q => ?_⟩
      refine xJ_astore_n hX dL_setThrift_7 (Nat.le_of_ble_eq_true rfl) rfl ?_
      dsimp only [List.set]
      refine xJ_ldc (-2000000097) hX dL_setThrift_8 kc_L_52 ?_
      exact xJ_iretH hX hB dL_setThrift_10 (by decide) (by decide) ⟨_, rfl, ⟨by decide, by decide⟩, hM1, xqw_z z, hx.1 rfl⟩
    · refine ⟨11, ⟨[(0, 6, 7, 50)], (0, 6, 11, 40), [], "java/lang/IllegalArgumentException", rfl, (fun z hz => by
        simp only [List.mem_cons, List.not_mem_nil, or_false] at hz
        rcases hz with rfl
        · exact ⟨by decide, "java/lang/IndexOutOfBoundsException", kl_L_50, by decide +kernel⟩
        ), by decide, by decide, by decide, kl_L_40, by decide +kernel, rfl⟩, fun q => ?_⟩
      refine xJ_astore_n hX dL_setThrift_11 (Nat.le_of_ble_eq_true rfl) rfl ?_
      dsimp only [List.set]
      refine xJ_ldc (-2000000098) hX dL_setThrift_12 kc_L_42 ?_
      exact xJ_iretH hX hB dL_setThrift_14 (by decide) (by decide) ⟨_, rfl, ⟨by decide, by decide⟩, hM1, xqw_z z, hx.2.1 rfl⟩
