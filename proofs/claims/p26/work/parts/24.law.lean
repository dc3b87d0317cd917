/-! METHODS WITH A TABLE OF HANDLERS: the law's wrappers -/
def xWsW (y : MethodName) (cc : ByteArray) (n : Nat) (r : Option FieldType) (hh : List (Nat × Nat × Nat × Nat)) : List Cond := Cond.codeWith y cc n r hh :: xT
def xCtW (G : xGx) (y : MethodName) (cc : ByteArray) (n : Nat) (r : Option FieldType) (hh : List (Nat × Nat × Nat × Nat)) (d mc ms : Nat) (vs : List Value) (t : xTh) (M : xMe) (Po : Option Value → xTh → xMe → Prop) : Prop :=
  ∀ l : Launch, l.stackTraces = false → vx_Met l y (xWsW y cc n r hh) (xRm d mc ms) (va_Pc vs (fun U => xRp G t M U.heap [] ∧ xKn G U)) (xQ G Po) (xX G (fun _ _ _ => False)) mc ms (xA G)
def xBH (X : xCx) (mc ms : Nat) (Po : Option Value → xTh → xMe → Prop) (Px : String → xTh → xMe → Prop) (hh : List (Nat × Nat × Nat × Nat)) : Prop := xMc X = mc ∧ xMs X = ms ∧ xPo X = Po ∧ xPx X = Px ∧ (xHn X).map (fun h => (h.startPc, h.endPc, h.handlerPc, h.catchType)) = hh
theorem xCtW_of {G : xGx} {y : MethodName} {cc : ByteArray} {n : Nat} {r : Option FieldType} {hh : List (Nat × Nat × Nat × Nat)} {d mc ms : Nat} {vs L0 : List Value} {t : xTh} {M : xMe} {Po : Option Value → xTh → xMe → Prop}
    (hy : plainName y.cls = true) (hlen : (lg_sl vs).length ≤ n) (hL : xsl vs ++ List.replicate (n - (xsl vs).length) vU = L0)
    (body : ∀ X, xC X y.cls y.name cc n r d G → xBH X mc ms Po (fun _ _ _ => False) hh → xJ X 0 0 t M 0 L0 []) : xCtW G y cc n r hh d mc ms vs t M Po := by
  intro l hst
  refine vx_ofWH (cc := cc) (maxL := n) (ret := r) hy rfl ?_
  intro p e s m args below meth c s₁ B hml hv
  obtain ⟨rfl, hRp, hKn⟩ := hv
  have hts := atoms_spec (ws := xWsW y cc n r hh) B.pre
  have hown : s.vm.findClass y.cls = some m.cls := findClass_of_methodNamed B.named
  obtain ⟨m9, meth9, c9, q1, q2, q3, -, -, q6, -⟩ := Cond.codeWith_spec (hts _ List.mem_cons_self)
  have em : m9 = m := Option.some.inj (q1.symm.trans B.named)
  subst em
  have e1 : meth9 = meth := Option.some.inj (q2.symm.trans B.method)
  subst e1
  have e2 : c9 = c := Option.some.inj (q3.symm.trans (Stand.of_body B).code)
  subst e2
  have k := body (p, l, e, xRm d mc ms, s, m9, vs.toArray, below, meth9, c9, G, Po, (fun _ _ _ => False), mc, ms)
    ⟨B.exec, B.bytes, hml, hown, fun w hw => hts w (List.mem_cons_of_mem _ hw), B.returns, B.notSynchronized, hKn, hRp.1, (name_of_methodNamed B.named B.method).1, rfl, rfl, hst⟩ ⟨rfl, rfl, rfl, rfl, q6⟩
  rw [lg_entry_eq]
  exact k s.heap [] _ (Nat.le_refl _) hRp (hL ▸ xLv_entry vs hlen)
section XLH
variable {X : xCx} {own nm : String} {cc : ByteArray} {n d : Nat} {r : Option FieldType} {G : xGx} {cells slots mc ms : Nat} {t : xTh} {M : xMe} {pc : Nat} {L st : List Value} {Po : Option Value → xTh → xMe → Prop} {Px : String → xTh → xMe → Prop} {hh : List (Nat × Nat × Nat × Nat)}
theorem xJ_iretH {x : Int} (h : xC X own nm cc n (some .int) d G) (hB : xBH X mc ms Po Px hh) (dd : decode cc pc = .ok (.ireturn, 1)) (hc : cells ≤ mc) (hs : slots ≤ ms) (hp : Po (some (vi x)) t M) : xJ X cells slots t M pc L [vi x] := by
  obtain ⟨p, l, e, R, s, m, args, below, meth, c, G9, Po9, Px9, mc9, ms9⟩ := X
  obtain ⟨hx, hb, hml, hown, hts, hr, hlk, hKn, hSs, hnm, hR, hG, hst⟩ := h
  obtain ⟨rfl, rfl, rfl, rfl, hnil⟩ := hB
  try subst hG
  intro H locs ls a1 a2 a3
  exact W.widen hc hs (vx_ret (W.iret hx hb hr (fun t' ht hW => ⟨_, t, M, rfl, hp, by rw [ht]; exact xRp_nil a2⟩) a2.1.2.2 dd hlk))
/-- how a throw of E at pc is caught here: the handler's place -/
def xCat (own : String) (hh : List (Nat × Nat × Nat × Nat)) (pc : Nat) (E : String) (tgt : Nat) : Prop := ∃ (pre : List (Nat × Nat × Nat × Nat)) (x : Nat × Nat × Nat × Nat) (suf : List (Nat × Nat × Nat × Nat)) (nm : String), hh = pre ++ x :: suf ∧ (∀ z ∈ pre, z.2.2.2 ≠ 0 ∧ ∃ nm : String, Cond.classLink own z.2.2.2 nm ∈ xT ∧ (E, nm) ∈ xNc) ∧ x.1 ≤ pc ∧ pc < x.2.1 ∧ x.2.2.2 ≠ 0 ∧ Cond.classLink own x.2.2.2 nm ∈ xT ∧ Cond.castable E nm ∈ xOn ∧ x.2.2.1 = tgt
theorem xJ_callVH {idx : Nat} {y : MethodName} {cc' : ByteArray} {n' : Nat} {r' : Option FieldType} {d' mc' ms' k9 ci N b : Nat} {T : u_T} {As stk : List Value} {Po' : Option Value → xTh → xMe → Prop} {Px' : String → xTh → xMe → Prop} (h : xC X own nm cc n r d G) (hB : xBH X mc ms Po Px hh) (dd : decode cc pc = .ok (.invokevirtual idx, 3)) (hl : xLk own idx y cc' n' r' k9) (hi : Cond.instanceMethod y ∈ xT) (hse : Cond.selects y.cls y y ∈ xT) (hci : vwCl[ci]? = some (y.cls, T, N)) (hc13 : ci < 13 ∨ (18 < ci ∧ ci < 23)) (hk : xk t b = ci)
    (hM : xCt G y cc' n' r' d' mc' ms' (vr b :: As) t M Po' Px') (hd : d' < d) (hLn : L.length = n) (hk9 : As.length = k9) (hsk : stk = As.reverse ++ vr b :: st) (hst8 : (st.map fun v => v.category).sum ≤ 8) (hc : cells + mc' ≤ mc) (hs : slots + ms' ≤ ms)
    (kk : ∀ v t' M', Po' v t' M' → xJ X (cells + mc') (slots + ms') t' M' (pc + 3) L (v.toList ++ st)) (kx : ∀ E t' M', Px' E t' M' → ∃ tgt, xCat own hh pc E tgt ∧ ∀ q, xJ X (cells + mc') (slots + ms') t' M' tgt L [vr q]) : xJ X cells slots t M pc L stk := by
  obtain ⟨p, l, e, R, s, m, args, below, meth, c, G9, Po9, Px9, mc9, ms9⟩ := X
  obtain ⟨hx, hb, hml, hown, hts, hr, hlk, hKn, hSs, hnm, rfl, rfl, hst⟩ := h
  obtain ⟨rfl, rfl, rfl, rfl, hnil⟩ := hB
  intro H locs ls a1 a2 a3 T9 hT Z
  have hnil : c.exceptionTable.toList.map (fun h => (h.startPc, h.endPc, h.handlerPc, h.catchType)) = hh := hnil
  have hloc := a2.1.2.2
  rcases vx_runV (C := y.cls) (As := As) (rest := st) (b := b) ⟨hx, hb, hml, hown, hts⟩ (hM l hst) ⟨xCB hts hl hd, hts _ hi, hts _ hse⟩
    ⟨xPc_blind, xRecv hKn a2 hci hc13 hk, fun U hU hW => ⟨rfl, by rw [hU]; exact xRp_nil a2, xKn_go hW (fun a ha hn => by rw [hU]; exact xold hSs a2.1 a hn) hKn⟩⟩ rfl hk9 (a3.1.trans hLn) hsk (lv_room hst8) dd ⟨hc, hs⟩ T9 hT Z with ⟨v, st₀, t₀, T', L', h0, X', hL, e1, e2, ⟨v', t', M', hv, hpo, hrp⟩, stp⟩ | ⟨q, st₀, t₀, T', L', E, ce, h0, X', hL, e1, e2, ⟨t', M', hpx, hrp⟩, hce, hcv, hcl, stp⟩
  · cases hv
    have hz : s.heap.size ≤ T'.heap.size := X'.same.2.1
    have hl2 : ∀ q ∈ locs ++ L', xA G9 q.base := fun q hq => (List.mem_append.mp hq).elim (hloc q) (hL q)
    rw [← e1] at hrp
    obtain ⟨t2, b1, b2⟩ := kk v t' M' hpo T'.heap (locs ++ L') ls hz (xRp_loc hrp hl2) a3 T' rfl X'
    exact ⟨t2, stp t2 b1, b2⟩
  · have hz : s.heap.size ≤ T'.heap.size := X'.same.2.1
    have hl2 : ∀ q ∈ locs ++ L', xA G9 q.base := fun q hq => (List.mem_append.mp hq).elim (hloc q) (hL q)
    rw [← e1] at hrp hce
    obtain ⟨tgt, ⟨pre, x, suf, nm9, hsp, hpre, hx1, hx2, hx3, hx4, hx5, rfl⟩, kj⟩ := kx E t' M' hpx
    rw [hsp] at hnil
    obtain ⟨pre', suf', e9, e10, e11⟩ := List.map_eq_append_iff.mp hnil
    obtain ⟨x', suf2, e12, e13, e14⟩ := List.map_eq_cons_iff.mp e11
    subst e13
    rw [e12] at e9
    have hon := hKn.2.2.2.2.1
    obtain ⟨t2, b1, b2⟩ := vx_catch (p := p) (l := l) (e := e) (R := xRm d mc9 ms9) (s := s) (m := m) (args := args) (below := below) (meth := meth) (c := c) (H := T'.heap) (locs := locs ++ L') (cells := cells + mc') (slots := slots + ms') (ls := ls) (rest := st) (pc := pc) (E := E) (ce := ce) (q := q) (name := nm9) hown pre' x' suf2 e9
      (fun z hz9 => by
        obtain ⟨g1, nm2, g2, g3⟩ := hpre _ (by rw [← e10]; exact List.mem_map.mpr ⟨z, hz9, rfl⟩)
        exact Or.inr ⟨g1, nm2, hts _ g2, hKn.2.2.2.2.2.1 _ g3⟩)
      (by simp only [covers, Bool.and_eq_true, decide_eq_true_eq]; exact ⟨hx1, hx2⟩) hx3 (hts _ hx4) (va_Nw.use (by
        rcases List.mem_append.mp hx5 with q | q
        · obtain ⟨z, -, h9⟩ := List.mem_map.mp q
          rw [← h9]; rfl
        · obtain ⟨z, -, h9⟩ := List.mem_map.mp q
          cases h9) (hon _ hx5)) hce hcv hcl (kj q T'.heap (locs ++ L') ls hz (xRp_loc hrp hl2) a3) T' rfl X'
    exact ⟨t2, stp.trans b1, b2⟩
end XLH
/-- what a call of a wrapper's words are -/
def xLkW (own : String) (idx : Nat) (y : MethodName) (cc : ByteArray) (n : Nat) (r : Option FieldType) (hh : List (Nat × Nat × Nat × Nat)) (k : Nat) : Prop :=
  Cond.methodLink own idx y ∈ xT ∧ Cond.initialized y.cls ∈ xT ∧ Cond.codeWith y cc n r hh ∈ xT ∧ (y.cls ≠ "java/lang/invoke/MethodHandle" ∧ y.cls ≠ "java/lang/invoke/VarHandle") ∧ (parseMethodDescriptor y.desc).map (fun d => d.parameters.length) = some k ∧ n ≤ 45
theorem xWsW_good {y : MethodName} {cc : ByteArray} {n : Nat} {r : Option FieldType} {hh : List (Nat × Nat × Nat × Nat)} (h : Cond.codeWith y cc n r hh ∈ xT) : GoodIn xT (xWsW y cc n r hh) := by
  intro w hw
  have hm : w ∈ xT := by
    rcases List.mem_cons.mp hw with q | q
    · rw [q]; exact h
    · exact q
  exact ⟨hm, good_of_word (xT_good w hm)⟩
theorem xCBW {own : String} {idx : Nat} {y : MethodName} {cc : ByteArray} {n : Nat} {r : Option FieldType} {hh : List (Nat × Nat × Nat × Nat)} {k d d' mc ms mc' ms' : Nat} {s : State} {args : Array Value} (hts : ∀ w ∈ xT, w.before args s = true) (hl : xLkW own idx y cc n r hh k) (hst : Cond.static y ∈ xT) (hd : d' < d) : vx_CSW (xRm d mc ms) s args own idx y cc n r hh (xWsW y cc n r hh) (xRm d' mc' ms') mc' ms' k := by
  obtain ⟨l1, l2, l3, l4, l5, l6⟩ := hl
  refine ⟨⟨rfl, rfl, hd, ?_, pay_in hts (xWsW_good l3), List.mem_cons_self⟩, hts _ l3, hts _ l2, l4, fun sig h => ?_, hts _ l1, hts _ hst⟩
  · show 8 + (n + 11) + 64 * d' ≤ 64 * d
    omega
  · rw [h] at l5
    exact (Option.some.inj l5).symm
theorem xJ_callSW {X : xCx} {own nm : String} {cc : ByteArray} {n d : Nat} {r : Option FieldType} {G : xGx} {cells slots mc ms : Nat} {t : xTh} {M : xMe} {pc : Nat} {L st : List Value} {Po : Option Value → xTh → xMe → Prop} {Px : String → xTh → xMe → Prop} {idx : Nat} {y : MethodName} {cc' : ByteArray} {n' : Nat} {r' : Option FieldType} {hh : List (Nat × Nat × Nat × Nat)} {d' mc' ms' k9 : Nat} {As stk : List Value} {Po' : Option Value → xTh → xMe → Prop} (h : xC X own nm cc n r d G) (hB : xB X mc ms Po Px) (dd : decode cc pc = .ok (.invokestatic idx, 3)) (hl : xLkW own idx y cc' n' r' hh k9) (hi : Cond.static y ∈ xT)
    (hM : xCtW G y cc' n' r' hh d' mc' ms' As t M Po') (hd : d' < d) (hLn : L.length = n) (hk9 : As.length = k9) (hsk : stk = As.reverse ++ st) (hst8 : (st.map fun v => v.category).sum ≤ 8) (hc : cells + mc' ≤ mc) (hs : slots + ms' ≤ ms)
    (kk : ∀ v t' M', Po' v t' M' → xJ X (cells + mc') (slots + ms') t' M' (pc + 3) L (v.toList ++ st)) : xJ X cells slots t M pc L stk := by
  obtain ⟨p, l, e, R, s, m, args, below, meth, c, G9, Po9, Px9, mc9, ms9⟩ := X
  obtain ⟨hx, hb, hml, hown, hts, hr, hlk, hKn, hSs, hnm, rfl, rfl, hst⟩ := h
  obtain ⟨rfl, rfl, rfl, rfl, hnil⟩ := hB
  intro H locs ls a1 a2 a3
  exact xJ_back hlk hnil a3 a2.1.2.2 (vx_runSX (As := As) (rest := st) ⟨hx, hb, hml, hown, hts⟩ (hM l hst) (xCBW hts hl hi hd) ⟨xPc_blind, fun U hU hW => ⟨rfl, by rw [hU]; exact xRp_nil a2, xKn_go hW (fun a ha hn => by rw [hU]; exact xold hSs a2.1 a hn) hKn⟩⟩ rfl hk9 (a3.1.trans hLn) hsk (lv_room hst8) dd ⟨hc, hs⟩) hc hs kk (fun _ _ _ q => q.elim)
