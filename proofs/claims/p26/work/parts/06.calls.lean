/-! CONTRACTS, CALLS, ENDS -/
def xRl (x : Int) : Prop := -9223372036854775808 ≤ x ∧ x < 9223372036854775808
theorem xRl_ti {x : Int} (h : xRl x) : (Int64.ofInt x).toInt = x := Int64.toInt_ofInt_of_le h.1 h.2
theorem xRl_lt {x y : Int} (h : xRl x) (g : xRl y) : (Int64.ofInt x < Int64.ofInt y) ↔ x < y := by rw [Int64.lt_iff_toInt_lt, xRl_ti h, xRl_ti g]
theorem xRl_eq {x y : Int} (h : xRl x) (g : xRl y) : (Int64.ofInt x = Int64.ofInt y) ↔ x = y := ⟨fun q => by rw [← xRl_ti h, ← xRl_ti g, q], fun q => by rw [q]⟩
def xCt (G : xGx) (y : MethodName) (cc : ByteArray) (n : Nat) (r : Option FieldType) (d mc ms : Nat) (vs : List Value) (t : xTh) (M : xMe) (Po : Option Value → xTh → xMe → Prop) (Px : String → xTh → xMe → Prop) : Prop :=
  ∀ l : Launch, l.stackTraces = false → vx_Met l y (xWs y cc n r) (xRm d mc ms) (va_Pc vs (fun U => xRp G t M U.heap [] ∧ xKn G U)) (xQ G Po) (xX G Px) mc ms (xA G)
def xB (X : xCx) (mc ms : Nat) (Po : Option Value → xTh → xMe → Prop) (Px : String → xTh → xMe → Prop) : Prop := xMc X = mc ∧ xMs X = ms ∧ xPo X = Po ∧ xPx X = Px ∧ xHn X = []
theorem xRp_nil {G : xGx} {t : xTh} {M : xMe} {H : Heap} {locs : List Loc} (h : xRp G t M H locs) : xRp G t M H [] := ⟨⟨h.1.1, h.1.2.1, fun _ q => by cases q⟩, h.2⟩
theorem xRp_loc {G : xGx} {t : xTh} {M : xMe} {H : Heap} {locs locs' : List Loc} (h : xRp G t M H locs) (hl : ∀ q ∈ locs', xA G q.base) : xRp G t M H locs' := ⟨⟨h.1.1, h.1.2.1, hl⟩, h.2⟩
theorem xold {G : xGx} {s : State} {H : Heap} {locs l2 : List Loc} (h1 : va_S (xA G) G.2.2.1 s.heap l2) (h2 : va_S (xA G) G.2.2.1 H locs) : ∀ a : Nat, ¬ xA G a → H[a]? = s.heap[a]? := fun a ha => by
  have hl : a < G.2.2.1.size := Nat.lt_of_not_le ha
  rw [h1.2.1 a hl ha, h2.2.1 a hl ha]
theorem xT_good : ∀ w ∈ xT, goodWord w = true := fun w h => (List.mem_filter.mp h).2
theorem xWs_good {y : MethodName} {cc : ByteArray} {n : Nat} {r : Option FieldType} (h : Cond.code y cc n r ∈ xT) : GoodIn xT (xWs y cc n r) := by
  intro w hw
  have hm : w ∈ xT := by
    rcases List.mem_cons.mp hw with q | q
    · rw [q]; exact h
    · exact q
  exact ⟨hm, good_of_word (xT_good w hm)⟩
theorem xCt_of {G : xGx} {y : MethodName} {cc : ByteArray} {n : Nat} {r : Option FieldType} {d mc ms : Nat} {vs L0 : List Value} {t : xTh} {M : xMe} {Po : Option Value → xTh → xMe → Prop} {Px : String → xTh → xMe → Prop}
    (hy : plainName y.cls = true) (hlen : (lg_sl vs).length ≤ n) (hL : xsl vs ++ List.replicate (n - (xsl vs).length) vU = L0)
    (body : ∀ X, xC X y.cls y.name cc n r d G → xB X mc ms Po Px → xJ X 0 0 t M 0 L0 []) : xCt G y cc n r d mc ms vs t M Po Px := by
  intro l hst
  refine vx_ofW (cc := cc) (maxL := n) (ret := r) hy rfl ?_
  intro p e s m args below meth c s₁ B hml htab hv
  obtain ⟨rfl, hRp, hKn⟩ := hv
  have hts := atoms_spec (ws := xWs y cc n r) B.pre
  have hown : s.vm.findClass y.cls = some m.cls := findClass_of_methodNamed B.named
  have hnil : c.exceptionTable.toList = [] := List.eq_nil_iff_forall_not_mem.mpr fun x hx => htab x hx
  have k := body (p, l, e, xRm d mc ms, s, m, vs.toArray, below, meth, c, G, Po, Px, mc, ms)
    ⟨B.exec, B.bytes, hml, hown, fun w hw => hts w (List.mem_cons_of_mem _ hw), B.returns, B.notSynchronized, hKn, hRp.1, (name_of_methodNamed B.named B.method).1, rfl, rfl, hst⟩ ⟨rfl, rfl, rfl, rfl, hnil⟩
  rw [lg_entry_eq]
  exact k s.heap [] _ (Nat.le_refl _) hRp (hL ▸ xLv_entry vs hlen)
section XK
variable {X : xCx} {own nm : String} {cc : ByteArray} {n d : Nat} {r : Option FieldType} {G : xGx} {cells slots mc ms : Nat} {t : xTh} {M : xMe} {pc : Nat} {L st : List Value} {Po : Option Value → xTh → xMe → Prop} {Px : String → xTh → xMe → Prop}
theorem xJ_iret {x : Int} (h : xC X own nm cc n (some .int) d G) (hB : xB X mc ms Po Px) (dd : decode cc pc = .ok (.ireturn, 1)) (hc : cells ≤ mc) (hs : slots ≤ ms) (hp : Po (some (vi x)) t M) : xJ X cells slots t M pc L [vi x] := by
  obtain ⟨p, l, e, R, s, m, args, below, meth, c, G9, Po9, Px9, mc9, ms9⟩ := X
  obtain ⟨hx, hb, hml, hown, hts, hr, hlk, hKn, hSs, hnm, hR, hG, hst⟩ := h
  obtain ⟨rfl, rfl, rfl, rfl, hnil⟩ := hB
  try subst hG
  intro H locs ls a1 a2 a3
  exact W.widen hc hs (vx_ret (W.iret hx hb hr (fun t' ht hW => ⟨_, t, M, rfl, hp, by rw [ht]; exact xRp_nil a2⟩) a2.1.2.2 dd hlk))
theorem xJ_zret {x : Int} {ty : FieldType} (h : xC X own nm cc n (some ty) d G) (hB : xB X mc ms Po Px) (dd : decode cc pc = .ok (.ireturn, 1)) (hn : narrow ty (vi x) = vi x) (hc : cells ≤ mc) (hs : slots ≤ ms) (hp : Po (some (vi x)) t M) : xJ X cells slots t M pc L [vi x] := by
  obtain ⟨p, l, e, R, s, m, args, below, meth, c, G9, Po9, Px9, mc9, ms9⟩ := X
  obtain ⟨hx, hb, hml, hown, hts, hr, hlk, hKn, hSs, hnm, hR, hG, hst⟩ := h
  obtain ⟨rfl, rfl, rfl, rfl, hnil⟩ := hB
  try subst hG
  intro H locs ls a1 a2 a3
  exact W.widen hc hs (vx_ret (W.zret hx hb hr hn (fun t' ht hW => ⟨_, t, M, rfl, hp, by rw [ht]; exact xRp_nil a2⟩) a2.1.2.2 dd hlk))
theorem xJ_lret {x : Int} (h : xC X own nm cc n (some .long) d G) (hB : xB X mc ms Po Px) (dd : decode cc pc = .ok (.lreturn, 1)) (hc : cells ≤ mc) (hs : slots ≤ ms) (hp : Po (some (vl x)) t M) : xJ X cells slots t M pc L [vl x] := by
  obtain ⟨p, l, e, R, s, m, args, below, meth, c, G9, Po9, Px9, mc9, ms9⟩ := X
  obtain ⟨hx, hb, hml, hown, hts, hr, hlk, hKn, hSs, hnm, hR, hG, hst⟩ := h
  obtain ⟨rfl, rfl, rfl, rfl, hnil⟩ := hB
  try subst hG
  intro H locs ls a1 a2 a3
  exact W.widen hc hs (vx_ret (W.lret hx hb hr (fun t' ht hW => ⟨_, t, M, rfl, hp, by rw [ht]; exact xRp_nil a2⟩) a2.1.2.2 dd hlk))
theorem xJ_vret (h : xC X own nm cc n none d G) (hB : xB X mc ms Po Px) (dd : decode cc pc = .ok (.return_, 1)) (hc : cells ≤ mc) (hs : slots ≤ ms) (hp : Po none t M) : xJ X cells slots t M pc L [] := by
  obtain ⟨p, l, e, R, s, m, args, below, meth, c, G9, Po9, Px9, mc9, ms9⟩ := X
  obtain ⟨hx, hb, hml, hown, hts, hr, hlk, hKn, hSs, hnm, hR, hG, hst⟩ := h
  obtain ⟨rfl, rfl, rfl, rfl, hnil⟩ := hB
  try subst hG
  intro H locs ls a1 a2 a3
  exact W.widen hc hs (vx_ret (W.vret hx hb hr (fun t' ht hW => ⟨_, t, M, rfl, hp, by rw [ht]; exact xRp_nil a2⟩) a2.1.2.2 dd hlk))
theorem xJ_aret {v : Value} {ty : FieldType} (h : xC X own nm cc n (some ty) d G) (hB : xB X mc ms Po Px) (dd : decode cc pc = .ok (.areturn, 1)) (hty : (∃ q, ty = .object q) ∨ ∃ q, ty = .array q) (hv : v = .null ∨ ∃ a, v = .ref a) (hc : cells ≤ mc) (hs : slots ≤ ms) (hp : Po (some v) t M) : xJ X cells slots t M pc L [v] := by
  obtain ⟨p, l, e, R, s, m, args, below, meth, c, G9, Po9, Px9, mc9, ms9⟩ := X
  obtain ⟨hx, hb, hml, hown, hts, hr, hlk, hKn, hSs, hnm, hR, hG, hst⟩ := h
  obtain ⟨rfl, rfl, rfl, rfl, hnil⟩ := hB
  try subst hG
  intro H locs ls a1 a2 a3
  exact W.widen hc hs (vx_ret (W.aret hx hb hr hty hv (fun t' ht hW => ⟨_, t, M, rfl, hp, by rw [ht]; exact xRp_nil a2⟩) a2.1.2.2 dd hlk))
/-- what a call's words are -/
def xLk (own : String) (idx : Nat) (y : MethodName) (cc : ByteArray) (n : Nat) (r : Option FieldType) (k : Nat) : Prop :=
  Cond.methodLink own idx y ∈ xT ∧ Cond.initialized y.cls ∈ xT ∧ Cond.code y cc n r ∈ xT ∧ (y.cls ≠ "java/lang/invoke/MethodHandle" ∧ y.cls ≠ "java/lang/invoke/VarHandle") ∧ (parseMethodDescriptor y.desc).map (fun d => d.parameters.length) = some k ∧ n ≤ 45
theorem xCB {own : String} {idx : Nat} {y : MethodName} {cc : ByteArray} {n : Nat} {r : Option FieldType} {k d d' mc ms mc' ms' : Nat} {s : State} {args : Array Value} (hts : ∀ w ∈ xT, w.before args s = true) (hl : xLk own idx y cc n r k) (hd : d' < d) : CallB (xRm d mc ms) s args own idx y cc n r (xWs y cc n r) (xRm d' mc' ms') mc' ms' k := by
  obtain ⟨l1, l2, l3, l4, l5, l6⟩ := hl
  refine ⟨rfl, rfl, hd, ?_, pay_in hts (xWs_good l3), List.mem_cons_self, hts _ l3, hts _ l2, l4, fun sig h => ?_, hts _ l1⟩
  · show 8 + (n + 11) + 64 * d' ≤ 64 * d
    omega
  · rw [h] at l5
    exact (Option.some.inj l5).symm
theorem xPc_blind {G : xGx} {vs : List Value} {t : xTh} {M : xMe} : FrameBlind (va_Pc vs (fun U => xRp G t M U.heap [] ∧ xKn G U)) := fun a U g mk q =>
  ⟨q.1, q.2.1, xKn_go (s := U) (U := U.calling g mk a) (State.WarmedH.refl U) (fun _ _ _ => rfl) q.2.2⟩
/-- behind a call: it has come back, or it has thrown -/
theorem xJ_back {mc' ms' : Nat} {Po' : Option Value → xTh → xMe → Prop} {Px' : String → xTh → xMe → Prop} {p : Program} {l : Launch} {e : Env} {R : Room} {s : State} {m : MethodId} {args : Array Value} {below : List Frame} {meth : Method} {c : Code} {H : Heap} {locs : List Loc} {ls : Array Slot} {stk : List Value} {a : Array Value}
    (hlk : meth.locks = false) (hnil : c.exceptionTable.toList = []) (a3 : xLv ls L) (hloc : ∀ q ∈ locs, xA G q.base)
    (hr : vx_Run p l e R s m args below meth c H locs cells slots mc' ms' (F0 m pc ls stk) st (xQ G Po' a) (xX G Px') (xA G)) (hc : cells + mc' ≤ mc) (hs : slots + ms' ≤ ms)
    (kk : ∀ v t' M', Po' v t' M' → xJ (p, l, e, R, s, m, args, below, meth, c, G, Po, Px, mc, ms) (cells + mc') (slots + ms') t' M' (pc + 3) L (v.toList ++ st)) (kx : ∀ E t' M', Px' E t' M' → Px E t' M') :
    W p l e R s m args below meth c H locs cells slots (vx_MQ below (xQ G Po) (xX G Px) args s mc ms (xA G)) (F0 m pc ls stk) := by
  intro T hT Z
  rcases hr T hT Z with ⟨v, st₀, t₀, T', L', h0, X', hL, e1, e2, ⟨v', t', M', hv, hpo, hrp⟩, stp⟩ | ⟨q, st₀, t₀, T', L', E, ce, h0, X', hL, e1, e2, ⟨t', M', hpx, hrp⟩, hce, hcv, hcl, stp⟩
  · cases hv
    have hz : s.heap.size ≤ T'.heap.size := X'.same.2.1
    have hl2 : ∀ q ∈ locs ++ L', xA G q.base := fun q hq => (List.mem_append.mp hq).elim (hloc q) (hL q)
    rw [← e1] at hrp
    obtain ⟨t2, b1, b2⟩ := kk v t' M' hpo T'.heap (locs ++ L') ls hz (xRp_loc hrp hl2) a3 T' rfl X'
    exact ⟨t2, stp t2 b1, b2⟩
  · have hl2 : ∀ q ∈ locs ++ L', xA G q.base := fun q hq => (List.mem_append.mp hq).elim (hloc q) (hL q)
    rw [← e1] at hrp hce
    obtain ⟨t2, b1, b2⟩ := vx_out (p := p) (l := l) (e := e) (R := R) (s := s) (m := m) (args := args) (below := below) (meth := meth) (c := c) (H := T'.heap) (locs := locs ++ L') (cells := cells + mc') (slots := slots + ms') (ls := ls) (rest := st) (Qc := xQ G Po) (XC := xX G Px) (free := xA G) (pc := pc) (E := E) (ce := ce) (q := q) (mc := mc) (ms := ms)
      (fun x hx => by rw [hnil] at hx; cases hx) hlk hce hcv hcl (fun tt ht _ => ⟨t', M', kx E t' M' hpx, by rw [ht]; exact hrp⟩) hl2 hc hs T' rfl X'
    exact ⟨t2, stp.trans b1, b2⟩
theorem xRecv {a ci : Nat} {C : String} {T : u_T} {N : Nat} {s : State} {H : Heap} {locs : List Loc} (hKn : xKn G s) (a2 : xRp G t M H locs) (hci : vwCl[ci]? = some (C, T, N)) (hc13 : ci < 13 ∨ (18 < ci ∧ ci < 23)) (hk : xk t a = ci) : ∃ cell : Cell, H[a]? = some cell ∧ cell.vm.isStatics = false ∧ s.vm.findClass C = some cell.cls := by
  have hat := xRp_at a2 (a := a) (by omega)
  rw [xE_obj hk hc13] at hat
  obtain ⟨q', h1, cell, g1, g2, g3, -⟩ := hat
  have hq : q' = (C, T, N) := Option.some.inj (h1.symm.trans hci)
  subst hq
  exact ⟨cell, g1, by rw [g3]; rfl, by rw [g2]; exact (hKn.1.1 ci _ hci).2.1⟩
theorem xJ_callV {idx : Nat} {y : MethodName} {cc' : ByteArray} {n' : Nat} {r' : Option FieldType} {d' mc' ms' k9 ci N b : Nat} {T : u_T} {As stk : List Value} {Po' : Option Value → xTh → xMe → Prop} {Px' : String → xTh → xMe → Prop} (h : xC X own nm cc n r d G) (hB : xB X mc ms Po Px) (dd : decode cc pc = .ok (.invokevirtual idx, 3)) (hl : xLk own idx y cc' n' r' k9) (hi : Cond.instanceMethod y ∈ xT) (hse : Cond.selects y.cls y y ∈ xT) (hci : vwCl[ci]? = some (y.cls, T, N)) (hc13 : ci < 13 ∨ (18 < ci ∧ ci < 23)) (hk : xk t b = ci)
    (hM : xCt G y cc' n' r' d' mc' ms' (vr b :: As) t M Po' Px') (hd : d' < d) (hLn : L.length = n) (hk9 : As.length = k9) (hsk : stk = As.reverse ++ vr b :: st) (hst8 : (st.map fun v => v.category).sum ≤ 8) (hc : cells + mc' ≤ mc) (hs : slots + ms' ≤ ms)
    (kk : ∀ v t' M', Po' v t' M' → xJ X (cells + mc') (slots + ms') t' M' (pc + 3) L (v.toList ++ st)) (kx : ∀ E t' M', Px' E t' M' → Px E t' M') : xJ X cells slots t M pc L stk := by
  obtain ⟨p, l, e, R, s, m, args, below, meth, c, G9, Po9, Px9, mc9, ms9⟩ := X
  obtain ⟨hx, hb, hml, hown, hts, hr, hlk, hKn, hSs, hnm, rfl, rfl, hst⟩ := h
  obtain ⟨rfl, rfl, rfl, rfl, hnil⟩ := hB
  try subst hG
  intro H locs ls a1 a2 a3
  exact xJ_back hlk hnil a3 a2.1.2.2 (vx_runV (C := y.cls) (As := As) (rest := st) (b := b) ⟨hx, hb, hml, hown, hts⟩ (hM l hst) ⟨xCB hts hl hd, hts _ hi, hts _ hse⟩
    ⟨xPc_blind, xRecv hKn a2 hci hc13 hk, fun U hU hW => ⟨rfl, by rw [hU]; exact xRp_nil a2, xKn_go hW (fun a ha hn => by rw [hU]; exact xold hSs a2.1 a hn) hKn⟩⟩ rfl hk9 (a3.1.trans hLn) hsk (lv_room hst8) dd ⟨hc, hs⟩) hc hs kk kx
theorem xJ_callS {idx : Nat} {y : MethodName} {cc' : ByteArray} {n' : Nat} {r' : Option FieldType} {d' mc' ms' k9 : Nat} {As stk : List Value} {Po' : Option Value → xTh → xMe → Prop} {Px' : String → xTh → xMe → Prop} (h : xC X own nm cc n r d G) (hB : xB X mc ms Po Px) (dd : decode cc pc = .ok (.invokestatic idx, 3)) (hl : xLk own idx y cc' n' r' k9) (hi : Cond.static y ∈ xT)
    (hM : xCt G y cc' n' r' d' mc' ms' As t M Po' Px') (hd : d' < d) (hLn : L.length = n) (hk9 : As.length = k9) (hsk : stk = As.reverse ++ st) (hst8 : (st.map fun v => v.category).sum ≤ 8) (hc : cells + mc' ≤ mc) (hs : slots + ms' ≤ ms)
    (kk : ∀ v t' M', Po' v t' M' → xJ X (cells + mc') (slots + ms') t' M' (pc + 3) L (v.toList ++ st)) (kx : ∀ E t' M', Px' E t' M' → Px E t' M') : xJ X cells slots t M pc L stk := by
  obtain ⟨p, l, e, R, s, m, args, below, meth, c, G9, Po9, Px9, mc9, ms9⟩ := X
  obtain ⟨hx, hb, hml, hown, hts, hr, hlk, hKn, hSs, hnm, rfl, rfl, hst⟩ := h
  obtain ⟨rfl, rfl, rfl, rfl, hnil⟩ := hB
  intro H locs ls a1 a2 a3
  exact xJ_back hlk hnil a3 a2.1.2.2 (vx_runS (As := As) (rest := st) ⟨hx, hb, hml, hown, hts⟩ (hM l hst) ⟨xCB hts hl hd, hts _ hi⟩ ⟨xPc_blind, fun U hU hW => ⟨rfl, by rw [hU]; exact xRp_nil a2, xKn_go hW (fun a ha hn => by rw [hU]; exact xold hSs a2.1 a hn) hKn⟩⟩ rfl hk9 (a3.1.trans hLn) hsk (lv_room hst8) dd ⟨hc, hs⟩) hc hs kk kx
/-- a callee that throws nothing -/
theorem xMet {y : MethodName} {cc : ByteArray} {n : Nat} {r : Option FieldType} {d mc ms : Nat} {vs : List Value} (hM : xCt G y cc n r d mc ms vs t M Po (fun _ _ _ => False)) (l : Launch) (hst : l.stackTraces = false) : Met l y (xWs y cc n r) (xRm d mc ms) (va_Pc vs (fun U => xRp G t M U.heap [] ∧ xKn G U)) (xQ G Po) mc ms (xA G) := by
  intro p e ha hc hk s m args below hf happ hP hK
  obtain ⟨k, o, h1, h2, h3, h4⟩ := hM l hst p e ha hc hk s m args below hf happ hP hK
  rcases h4 with h4 | ⟨q, -, E, ce, Lo, ⟨t', M', hx, -⟩, -⟩
  · exact ⟨k, o, h1, h2, h3, h4⟩
  · exact hx.elim
/-- behind a call that throws nothing -/
theorem xJ_backM {mc' ms' : Nat} {Po' : Option Value → xTh → xMe → Prop} {p : Program} {l : Launch} {e : Env} {R : Room} {s : State} {m : MethodId} {args : Array Value} {below : List Frame} {meth : Method} {c : Code} {H : Heap} {locs : List Loc} {ls : Array Slot} {stk : List Value} {a : Array Value}
    (a3 : xLv ls L) (hloc : ∀ q ∈ locs, xA G q.base)
    (hr : va_Run p l e R s m args below meth c H locs cells slots mc' ms' (F0 m pc ls stk) st (xQ G Po' a) (xA G))
    (kk : ∀ v t' M', Po' v t' M' → xJ (p, l, e, R, s, m, args, below, meth, c, G, Po, Px, mc, ms) (cells + mc') (slots + ms') t' M' (pc + 3) L (v.toList ++ st)) :
    W p l e R s m args below meth c H locs cells slots (vx_MQ below (xQ G Po) (xX G Px) args s mc ms (xA G)) (F0 m pc ls stk) := by
  intro T hT Z
  obtain ⟨v, st₀, t₀, T', L', h0, X', hL, e1, e2, ⟨v', t', M', hv, hpo, hrp⟩, stp⟩ := hr T hT Z
  cases hv
  have hz : s.heap.size ≤ T'.heap.size := X'.same.2.1
  have hl2 : ∀ q ∈ locs ++ L', xA G q.base := fun q hq => (List.mem_append.mp hq).elim (hloc q) (hL q)
  rw [← e1] at hrp
  obtain ⟨t2, b1, b2⟩ := kk v t' M' hpo T'.heap (locs ++ L') ls hz (xRp_loc hrp hl2) a3 T' rfl X'
  exact ⟨t2, stp t2 b1, b2⟩
/-- a nest mate's private method -/
def xLn (own : String) (idx : Nat) (y : MethodName) (host : String) (cc : ByteArray) (n : Nat) (r : Option FieldType) (k : Nat) : Prop :=
  (own, idx, y, host) ∈ xNe ∧ Cond.initialized y.cls ∈ xT ∧ Cond.code y cc n r ∈ xT ∧ (y.cls ≠ "java/lang/invoke/MethodHandle" ∧ y.cls ≠ "java/lang/invoke/VarHandle") ∧ (parseMethodDescriptor y.desc).map (fun d => d.parameters.length) = some k ∧ n ≤ 45
theorem xCN {own : String} {idx : Nat} {y : MethodName} {host : String} {cc : ByteArray} {n : Nat} {r : Option FieldType} {k d d' mc ms mc' ms' : Nat} {s : State} {args : Array Value} (hts : ∀ w ∈ xT, w.before args s = true) (hKn : xKn G s) (hl : xLn own idx y host cc n r k) (hd : d' < d) : va_CN (xRm d mc ms) s args own idx y host cc n r (xWs y cc n r) (xRm d' mc' ms') mc' ms' k := by
  obtain ⟨l1, l2, l3, l4, l5, l6⟩ := hl
  refine ⟨⟨rfl, rfl, hd, ?_, pay_in hts (xWs_good l3), List.mem_cons_self⟩, hts _ l3, hts _ l2, l4, fun sig h => ?_, va_Nw.use rfl (hKn.2.1 _ l1)⟩
  · show 8 + (n + 11) + 64 * d' ≤ 64 * d
    omega
  · rw [h] at l5
    exact (Option.some.inj l5).symm
theorem xJ_callI {idx : Nat} {y : MethodName} {cc' : ByteArray} {n' d' mc' ms' k9 b : Nat} {As stk : List Value} {Po' : Option Value → xTh → xMe → Prop} (h : xC X own nm cc n r d G) (hB : xB X mc ms Po Px) (dd : decode cc pc = .ok (.invokespecial idx, 3)) (hl : xLk own idx y cc' n' none k9) (hi : Cond.instanceMethod y ∈ xT) (hin : y.name = "<init>")
    (hM : xCt G y cc' n' none d' mc' ms' (vr b :: As) t M Po' (fun _ _ _ => False)) (hd : d' < d) (hLn : L.length = n) (hk9 : As.length = k9) (hsk : stk = As.reverse ++ vr b :: st) (hst8 : (st.map fun v => v.category).sum ≤ 8) (hc : cells + mc' ≤ mc) (hs : slots + ms' ≤ ms)
    (kk : ∀ v t' M', Po' v t' M' → xJ X (cells + mc') (slots + ms') t' M' (pc + 3) L (v.toList ++ st)) : xJ X cells slots t M pc L stk := by
  obtain ⟨p, l, e, R, s, m, args, below, meth, c, G9, Po9, Px9, mc9, ms9⟩ := X
  obtain ⟨hx, hb, hml, hown, hts, hr, hlk, hKn, hSs, hnm, rfl, rfl, hst⟩ := h
  obtain ⟨rfl, rfl, rfl, rfl, hnil⟩ := hB
  intro H locs ls a1 a2 a3
  exact xJ_backM a3 a2.1.2.2 (va_runI (As := As) (rest := st) (b := b) ⟨hx, hb, hml, hown, hts⟩ (xMet hM l hst) ⟨xCB hts hl hd, hin, hts _ hi⟩ ⟨xPc_blind, fun U hU hW => ⟨rfl, by rw [hU]; exact xRp_nil a2, xKn_go hW (fun a ha hn => by rw [hU]; exact xold hSs a2.1 a hn) hKn⟩⟩ rfl hk9 (a3.1.trans hLn) hsk (lv_room hst8) dd ⟨hc, hs⟩) kk
theorem xJ_callIN {idx : Nat} {y : MethodName} {host : String} {cc' : ByteArray} {n' d' mc' ms' k9 b : Nat} {As stk : List Value} {Po' : Option Value → xTh → xMe → Prop} (h : xC X own nm cc n r d G) (hB : xB X mc ms Po Px) (dd : decode cc pc = .ok (.invokespecial idx, 3)) (hl : xLn own idx y host cc' n' none k9) (hi : Cond.instanceMethod y ∈ xT) (hin : y.name = "<init>")
    (hM : xCt G y cc' n' none d' mc' ms' (vr b :: As) t M Po' (fun _ _ _ => False)) (hd : d' < d) (hLn : L.length = n) (hk9 : As.length = k9) (hsk : stk = As.reverse ++ vr b :: st) (hst8 : (st.map fun v => v.category).sum ≤ 8) (hc : cells + mc' ≤ mc) (hs : slots + ms' ≤ ms)
    (kk : ∀ v t' M', Po' v t' M' → xJ X (cells + mc') (slots + ms') t' M' (pc + 3) L (v.toList ++ st)) : xJ X cells slots t M pc L stk := by
  obtain ⟨p, l, e, R, s, m, args, below, meth, c, G9, Po9, Px9, mc9, ms9⟩ := X
  obtain ⟨hx, hb, hml, hown, hts, hr, hlk, hKn, hSs, hnm, rfl, rfl, hst⟩ := h
  obtain ⟨rfl, rfl, rfl, rfl, hnil⟩ := hB
  intro H locs ls a1 a2 a3
  exact xJ_backM a3 a2.1.2.2 (va_runIN (As := As) (rest := st) (b := b) ⟨hx, hb, hml, hown, hts⟩ (xMet hM l hst) ⟨xCN hts hKn hl hd, hin, hts _ hi⟩ ⟨xPc_blind, fun U hU hW => ⟨rfl, by rw [hU]; exact xRp_nil a2, xKn_go hW (fun a ha hn => by rw [hU]; exact xold hSs a2.1 a hn) hKn⟩⟩ rfl hk9 (a3.1.trans hLn) hsk (lv_room hst8) dd ⟨hc, hs⟩) kk
theorem xJ_callSN {idx : Nat} {y : MethodName} {host : String} {cc' : ByteArray} {n' : Nat} {r' : Option FieldType} {d' mc' ms' k9 : Nat} {As stk : List Value} {Po' : Option Value → xTh → xMe → Prop} (h : xC X own nm cc n r d G) (hB : xB X mc ms Po Px) (dd : decode cc pc = .ok (.invokestatic idx, 3)) (hl : xLn own idx y host cc' n' r' k9) (hi : Cond.static y ∈ xT)
    (hM : xCt G y cc' n' r' d' mc' ms' As t M Po' (fun _ _ _ => False)) (hd : d' < d) (hLn : L.length = n) (hk9 : As.length = k9) (hsk : stk = As.reverse ++ st) (hst8 : (st.map fun v => v.category).sum ≤ 8) (hc : cells + mc' ≤ mc) (hs : slots + ms' ≤ ms)
    (kk : ∀ v t' M', Po' v t' M' → xJ X (cells + mc') (slots + ms') t' M' (pc + 3) L (v.toList ++ st)) : xJ X cells slots t M pc L stk := by
  obtain ⟨p, l, e, R, s, m, args, below, meth, c, G9, Po9, Px9, mc9, ms9⟩ := X
  obtain ⟨hx, hb, hml, hown, hts, hr, hlk, hKn, hSs, hnm, rfl, rfl, hst⟩ := h
  obtain ⟨rfl, rfl, rfl, rfl, hnil⟩ := hB
  intro H locs ls a1 a2 a3
  exact xJ_backM a3 a2.1.2.2 (va_runSN (As := As) (rest := st) ⟨hx, hb, hml, hown, hts⟩ (xMet hM l hst) ⟨xCN hts hKn hl hd, hts _ hi, trivial⟩ ⟨xPc_blind, fun U hU hW => ⟨rfl, by rw [hU]; exact xRp_nil a2, xKn_go hW (fun a ha hn => by rw [hU]; exact xold hSs a2.1 a hn) hKn⟩⟩ rfl hk9 (a3.1.trans hLn) hsk (lv_room hst8) dd ⟨hc, hs⟩) kk
theorem xJ_objInit {idx a : Nat} (h : xC X own nm cc n r d G) (hB : xB X mc ms Po Px) (dd : decode cc pc = .ok (.invokespecial idx, 3)) (hl : Cond.methodLink own idx objectInit ∈ xT) (hi : Cond.instanceMethod objectInit ∈ xT) (hco : Cond.code objectInit ⟨#[0xb1]⟩ 1 none ∈ xT) (hLn : L.length = n) (hd : 1 ≤ d) (hst8 : (st.map fun v => v.category).sum ≤ 8) (k : xJ X cells slots t M (pc + 3) L st) : xJ X cells slots t M pc L (vr a :: st) := by
  obtain ⟨p, l, e, R, s, m, args, below, meth, c, G9, Po9, Px9, mc9, ms9⟩ := X
  obtain ⟨hx, hb, hml, hown, hts, hr, hlk, hKn, hSs, hnm, rfl, rfl, hst⟩ := h
  obtain ⟨rfl, rfl, rfl, rfl, hnil⟩ := hB
  intro H locs ls a1 a2 a3
  exact W.objInit hx hb hown (hts _ hl) (hts _ hi) (hts _ hco) rfl (by rw [hml]; exact a3.1.trans hLn) rfl dd (show 1 ≤ d from hd) (by show 2 * 0 + _ + 12 ≤ 64 * d; omega) (k H locs ls a1 a2 a3)
theorem xJ_mmax {idx : Nat} {x y : Int} (h : xC X own nm cc n r d G) (hB : xB X mc ms Po Px) (dd : decode cc pc = .ok (.invokestatic idx, 3)) (hl : Cond.methodLink own idx Lib.Math.max.name ∈ xT) (hi : Cond.static Lib.Math.max.name ∈ xT) (hini : Cond.initialized "java/lang/Math" ∈ xT) (hco : Cond.code Lib.Math.max.name Lib.Math.max.code 2 (some .int) ∈ xT) (hLn : L.length = n) (hd : 1 ≤ d) (hst8 : (st.map fun v => v.category).sum ≤ 8) (hc : cells ≤ mc) (hs : slots ≤ ms) (hxx : xR x) (hyy : xR y) (k : xJ X cells slots t M (pc + 3) L (vi (max x y) :: st)) : xJ X cells slots t M pc L (vi y :: vi x :: st) := by
  obtain ⟨p, l, e, R, s, m, args, below, meth, c, G9, Po9, Px9, mc9, ms9⟩ := X
  obtain ⟨hx, hb, hml, hown, hts, hr, hlk, hKn, hSs, hnm, rfl, rfl, hst⟩ := h
  obtain ⟨rfl, rfl, rfl, rfl, hnil⟩ := hB
  intro H locs ls a1 a2 a3
  have k' := k H locs ls a1 a2 a3
  have e : vi (max x y) = .int (if Int32.ofInt x < Int32.ofInt y then Int32.ofInt y else Int32.ofInt x) := by
    unfold vi
    by_cases q : x < y
    · rw [if_pos (((xR_lt hxx hyy).mpr q))]
      congr 2
      omega
    · rw [if_neg (fun z => q ((xR_lt hxx hyy).mp z))]
      congr 2
      omega
  rw [e] at k'
  exact va_mmax hx hb (by rw [hml, a3.1, hLn]) hown (hts _ hl) (hts _ hi) (hts _ hini) (hts _ hco) (show 1 ≤ d from hd) (by show _ + 13 ≤ 64 * d; omega) hc hs dd k'
theorem xJ_mmin {idx : Nat} {x y : Int} (h : xC X own nm cc n r d G) (hB : xB X mc ms Po Px) (dd : decode cc pc = .ok (.invokestatic idx, 3)) (hl : Cond.methodLink own idx Lib.Math.min.name ∈ xT) (hi : Cond.static Lib.Math.min.name ∈ xT) (hini : Cond.initialized "java/lang/Math" ∈ xT) (hco : Cond.code Lib.Math.min.name Lib.Math.min.code 2 (some .int) ∈ xT) (hLn : L.length = n) (hd : 1 ≤ d) (hst8 : (st.map fun v => v.category).sum ≤ 8) (hc : cells ≤ mc) (hs : slots ≤ ms) (hxx : xR x) (hyy : xR y) (k : xJ X cells slots t M (pc + 3) L (vi (min x y) :: st)) : xJ X cells slots t M pc L (vi y :: vi x :: st) := by
  obtain ⟨p, l, e, R, s, m, args, below, meth, c, G9, Po9, Px9, mc9, ms9⟩ := X
  obtain ⟨hx, hb, hml, hown, hts, hr, hlk, hKn, hSs, hnm, rfl, rfl, hst⟩ := h
  obtain ⟨rfl, rfl, rfl, rfl, hnil⟩ := hB
  intro H locs ls a1 a2 a3
  have k' := k H locs ls a1 a2 a3
  have e : vi (min x y) = .int (if Int32.ofInt y < Int32.ofInt x then Int32.ofInt y else Int32.ofInt x) := by
    unfold vi
    by_cases q : y < x
    · rw [if_pos (((xR_lt hyy hxx).mpr q))]
      congr 2
      omega
    · rw [if_neg (fun z => q ((xR_lt hyy hxx).mp z))]
      congr 2
      omega
  rw [e] at k'
  exact va_mmin hx hb (by rw [hml, a3.1, hLn]) hown (hts _ hl) (hts _ hi) (hts _ hini) (hts _ hco) (show 1 ≤ d from hd) (by show _ + 13 ≤ 64 * d; omega) hc hs dd k'
theorem xJ_mmaxL {idx : Nat} {x y : Int} (h : xC X own nm cc n r d G) (hB : xB X mc ms Po Px) (dd : decode cc pc = .ok (.invokestatic idx, 3)) (hl : Cond.methodLink own idx Lib.MathLoose.max_long.x ∈ xT) (hi : Cond.static Lib.MathLoose.max_long.x ∈ xT) (hini : Cond.initialized "java/lang/Math" ∈ xT) (hco : Cond.code Lib.MathLoose.max_long.x Lib.MathLoose.max_long.code 4 (some .long) ∈ xT) (hLn : L.length = n) (hd : 1 ≤ d) (hst8 : (st.map fun v => v.category).sum ≤ 8) (hc : cells ≤ mc) (hs : slots ≤ ms) (hxx : xRl x) (hyy : xRl y) (k : xJ X cells slots t M (pc + 3) L (vl (max x y) :: st)) : xJ X cells slots t M pc L (vl y :: vl x :: st) := by
  obtain ⟨p, l, e, R, s, m, args, below, meth, c, G9, Po9, Px9, mc9, ms9⟩ := X
  obtain ⟨hx, hb, hml, hown, hts, hr, hlk, hKn, hSs, hnm, rfl, rfl, hst⟩ := h
  obtain ⟨rfl, rfl, rfl, rfl, hnil⟩ := hB
  intro H locs ls a1 a2 a3
  have k' := k H locs ls a1 a2 a3
  have e : vl (max x y) = .long (if Int64.ofInt y < Int64.ofInt x then Int64.ofInt x else Int64.ofInt y) := by
    unfold vl
    by_cases q : y < x
    · rw [if_pos (((xRl_lt hyy hxx).mpr q))]
      congr 2
      omega
    · rw [if_neg (fun z => q ((xRl_lt hyy hxx).mp z))]
      congr 2
      omega
  rw [e] at k'
  exact va_mmax_long hx hb (by rw [hml, a3.1, hLn]) hown (hts _ hl) (hts _ hi) (hts _ hini) (hts _ hco) (show 1 ≤ d from hd) (by show _ + 15 ≤ 64 * d; omega) hc hs dd k'
theorem xJ_mminL {idx : Nat} {x y : Int} (h : xC X own nm cc n r d G) (hB : xB X mc ms Po Px) (dd : decode cc pc = .ok (.invokestatic idx, 3)) (hl : Cond.methodLink own idx Lib.MathLoose.min_long.x ∈ xT) (hi : Cond.static Lib.MathLoose.min_long.x ∈ xT) (hini : Cond.initialized "java/lang/Math" ∈ xT) (hco : Cond.code Lib.MathLoose.min_long.x Lib.MathLoose.min_long.code 4 (some .long) ∈ xT) (hLn : L.length = n) (hd : 1 ≤ d) (hst8 : (st.map fun v => v.category).sum ≤ 8) (hc : cells ≤ mc) (hs : slots ≤ ms) (hxx : xRl x) (hyy : xRl y) (k : xJ X cells slots t M (pc + 3) L (vl (min x y) :: st)) : xJ X cells slots t M pc L (vl y :: vl x :: st) := by
  obtain ⟨p, l, e, R, s, m, args, below, meth, c, G9, Po9, Px9, mc9, ms9⟩ := X
  obtain ⟨hx, hb, hml, hown, hts, hr, hlk, hKn, hSs, hnm, rfl, rfl, hst⟩ := h
  obtain ⟨rfl, rfl, rfl, rfl, hnil⟩ := hB
  intro H locs ls a1 a2 a3
  have k' := k H locs ls a1 a2 a3
  have e : vl (min x y) = .long (if Int64.ofInt y < Int64.ofInt x then Int64.ofInt y else Int64.ofInt x) := by
    unfold vl
    by_cases q : y < x
    · rw [if_pos (((xRl_lt hyy hxx).mpr q))]
      congr 2
      omega
    · rw [if_neg (fun z => q ((xRl_lt hyy hxx).mp z))]
      congr 2
      omega
  rw [e] at k'
  exact va_mmin_long hx hb (by rw [hml, a3.1, hLn]) hown (hts _ hl) (hts _ hi) (hts _ hini) (hts _ hco) (show 1 ≤ d from hd) (by show _ + 15 ≤ 64 * d; omega) hc hs dd k'
def xcp (M : xMe) (a0 a sp dp n : Nat) : xMe := fun b j => if b = a then (if dp ≤ j ∧ j < dp + n then M a0 (sp + (j - dp)) else M a j) else M b j
theorem xE_upC {ca : Nat → ClassId} {t : xTh} {M : xMe} {a0 a sp dp n : Nat} (hk : xk t a = 14) : va_up (xE ca t M) a (.inl (ca 1, xn t a, .inl (va_cpy (fun i => Int32.ofInt (M a0 i)) (fun i => Int32.ofInt (M a i)) sp dp n))) = xE ca t (xcp M a0 a sp dp n) := by
  funext b
  by_cases hb : b = a
  · subst hb
    rw [va_up_self, xE_int hk (by decide) (by decide)]
    congr 4
    funext i
    simp only [va_cpy, xcp, if_true]
    by_cases hi : dp ≤ i ∧ i < dp + n
    · rw [if_pos hi, if_pos hi]
    · rw [if_neg hi, if_neg hi]
  · rw [va_up_ne _ _ hb]
    exact (xE_off rfl rfl (fun _ => rfl) (fun _ => by simp [xcp, hb])).symm
theorem xJ_copy {idx a0 a : Nat} {sp dp nn : Int} (h : xC X own nm cc n r d G) (hB : xB X mc ms Po Px) (dd : decode cc pc = .ok (.invokestatic idx, 3)) (hl : Cond.methodLink own idx arraycopyName ∈ xT) (hnat : Cond.native arraycopyName ∈ xT) (hsta : Cond.static arraycopyName ∈ xT) (hini : Cond.initialized "java/lang/System" ∈ xT) (hLn : L.length = n) (hd : 1 ≤ d) (hst8 : (st.map fun v => v.category).sum ≤ 8) (hk0 : xk t a0 = 14) (hk : xk t a = 14) (h1 : 0 ≤ sp) (h2 : 0 ≤ dp) (h3 : 0 ≤ nn) (h4 : sp + nn ≤ xn t a0) (h5 : dp + nn ≤ xn t a) (k : xJ X cells slots t (xcp M a0 a sp.toNat dp.toNat nn.toNat) (pc + 3) L st) : xJ X cells slots t M pc L (vi nn :: vi dp :: vr a :: vi sp :: vr a0 :: st) := by
  obtain ⟨p, l, e, R, s, m, args, below, meth, c, G9, Po9, Px9, mc9, ms9⟩ := X
  obtain ⟨hx, hb, hml, hown, hts, hr, hlk, hKn, hSs, hnm, rfl, rfl, hst⟩ := h
  obtain ⟨rfl, rfl, rfl, rfl, hnil⟩ := hB
  intro H locs ls a1 a2 a3
  have g0 := a2.2.2.1 a0
  have g1 := a2.2.2.1 a
  have hat0 := xRp_at a2 (a := a0) (by omega)
  have hat := xRp_at a2 (a := a) (by omega)
  rw [xE_int hk0 (by decide) (by decide)] at hat0
  rw [xE_int hk (by decide) (by decide)] at hat
  have hc0 : H[a0]? = some (arrV (G9.2.1 1) (xn t a0) (fun i => .int (Int32.ofInt (M a0 i)))) := hat0
  have hc1 : H[a]? = some (arrV (G9.2.1 1) (xn t a) (fun i => .int (Int32.ofInt (M a i)))) := hat
  obtain ⟨i1, j1⟩ := xI_ti h1 (by omega)
  obtain ⟨i2, j2⟩ := xI_ti h2 (by omega)
  obtain ⟨i3, j3⟩ := xI_ti h3 (by omega)
  obtain ⟨-, k0, hk9, cm0, hkk0⟩ := (hKn.1.2 1 _ rfl).1 (xn t a0) (fun i => .int (Int32.ofInt (M a0 i)))
  obtain ⟨-, k1, hk1, cm1, hkk1⟩ := (hKn.1.2 1 _ rfl).1 (xn t a) (fun i => .int (Int32.ofInt (M a i)))
  intro T hT Z
  obtain ⟨vm', X', step⟩ := Z.arraycopy hx hown (hts _ hl) (hts _ hnat) (hts _ hsta) (hts _ hini) (src := a0) (dst := a) (srcPos := Int32.ofInt sp) (destPos := Int32.ofInt dp) (n := Int32.ofInt nn) (by rw [hT]; exact hc0) (by rw [hT]; exact hc1)
    (fun _ h => by cases h) (fun _ h => by cases h) (fun h => by cases h) (fun h => by cases h) hk9 hk1 hkk0 hkk1 (by simp [refKind]) j1 j2 j3
    (by rw [xR_ti ⟨by omega, by omega⟩, xR_ti ⟨by omega, by omega⟩, arrV_size]; omega)
    (by rw [xR_ti ⟨by omega, by omega⟩, xR_ti ⟨by omega, by omega⟩, arrV_size]; omega)
    (fun vm₁ _ i hi => by
      rw [i3] at hi
      have e : (arrV (G9.2.1 1) (xn t a0) (fun i => .int (Int32.ofInt (M a0 i)))).slots.getD ((Int32.ofInt sp).toNatClampNeg + i) .null = .int (Int32.ofInt (M a0 (sp.toNat + i))) := by
        rw [i1, Array.getD_eq_getD_getElem?, arrV_read _ _ (by omega)]
        rfl
      refine ⟨?_, ?_⟩
      · rw [e]; rfl
      · rw [e]; exact trivial)
    (g := F0 m pc ls (vi nn :: vi dp :: vr a :: vi sp :: vr a0 :: st)) rfl (by rw [hml]; exact a3.1.trans hLn) (rest := st) rfl (by rw [hb]; exact dd) (show 1 ≤ d from hd) (by show 2 * 0 + _ + (7 + 11) ≤ 64 * d; omega)
  have e1 : copied (arrV (G9.2.1 1) (xn t a0) (fun i => .int (Int32.ofInt (M a0 i)))) (arrV (G9.2.1 1) (xn t a) (fun i => .int (Int32.ofInt (M a i)))) (Int32.ofInt sp) (Int32.ofInt dp) (Int32.ofInt nn) = arrV (G9.2.1 1) (xn t a) (fun j => .int (va_cpy (fun i => Int32.ofInt (M a0 i)) (fun i => Int32.ofInt (M a i)) sp.toNat dp.toNat nn.toNat j)) := by
    have e9 := va_copied (fun z => Value.int z) (G9.2.1 1) (G9.2.1 1) (n0 := xn t a0) (n1 := xn t a) (sp := sp.toNat) (dp := dp.toNat) (n := nn.toNat) (fun i => Int32.ofInt (M a0 i)) (fun i => Int32.ofInt (M a i)) (by omega)
    rw [← e9, ← i1, ← i2, ← i3]
  rw [e1] at X' step
  have hl9 : a < H.size := (Array.getElem?_eq_some_iff.mp hc1).1
  generalize hce : arrV (G9.2.1 1) (xn t a) (fun j => Value.int (va_cpy (fun i => Int32.ofInt (M a0 i)) (fun i => Int32.ofInt (M a i)) sp.toNat dp.toNat nn.toNat j)) = ce at X' step
  have hheap : ((T.setVm vm').setCell a ce).heap = H.setIfInBounds a ce := by rw [← hT]; rfl
  have oq : ∀ q : Nat, q ≠ a → (H.setIfInBounds a ce)[q]? = H[q]? := fun q hq => by simp [Array.getElem?_setIfInBounds, Ne.symm hq]
  have hz : (H.setIfInBounds a ce).size = H.size := by simp
  have hup := xRp_upd (k := 0) (e' := .inl (G9.2.1 1, xn t a, .inl (va_cpy (fun i => Int32.ofInt (M a0 i)) (fun i => Int32.ofInt (M a i)) sp.toNat dp.toNat nn.toNat))) (a := a) (xRp_nil a2) (by omega) hz oq (show (H.setIfInBounds a ce)[a]? = some _ by simp [Array.getElem?_setIfInBounds, hl9]; rw [← hce]; rfl) (xE_upC (a0 := a0) (sp := sp.toNat) (dp := dp.toNat) (n := nn.toNat) hk) rfl (fun _ => rfl) (fun _ => rfl)
  obtain ⟨t2, b1, b2⟩ := k _ _ ls (by rw [hz]; exact a1) (xRp_loc (xRp_nil hup) (fun q hq => by
      rcases List.mem_append.mp hq with h | h
      · exact a2.1.2.2 q h
      · obtain ⟨z, -, hz2⟩ := List.mem_map.mp h
        rw [← hz2]
        exact hup.1.2.2 ⟨a, 0⟩ List.mem_cons_self)) a3 _ hheap X'
  exact ⟨t2, step t2 b1, b2⟩
end XK
