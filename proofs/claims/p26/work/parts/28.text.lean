/-! ===== BEGIN a method of a class above, found by the receiver, that may throw (follows va_callVU, va_runU of this kit) ===== -/
section
variable {p : Program} {l : Launch} {e : Env} {R : Room} {s : State} {m : MethodId} {args : Array Value} {below : List Frame} {meth : Method} {c : Code} {H : Heap} {locs : List Loc} {cells slots : Nat}
theorem vx_callVU {T : State} {locs : List Loc} {cells slots : Nat} (X : Stand p l e R s m args below meth c T locs cells slots) (hexec : p.tables.exec = Jvm.exec) {own C owner : String} {index : Nat} {x y : MethodName} {bytes : ByteArray} {maxL : Nat} {ret : Option FieldType}
    (hown : s.vm.findClass own = some m.cls) (hlink : (Cond.methodLink own index x).before args s = true) (hsame : (Cond.sameMethod x.cls owner x.name x.desc).before args s = true)
    (hd0 : va_Decl s ⟨owner, x.name, x.desc⟩) (howner : owner ≠ "java/lang/invoke/MethodHandle" ∧ owner ≠ "java/lang/invoke/VarHandle")
    (hsel : (Cond.selects C x y).before args s = true) (hinst : (Cond.instanceMethod y).before args s = true) (hcode : (Cond.code y bytes maxL ret).before args s = true)
    {W : Nat} {Pre : Pt → Array Value → Prop} {Post : Pt → Array Value → Option Value → Pt → Prop} {PostX : Pt → Array Value → Addr → Pt → Prop} (hK : vx_Back l R p e below s args y 3 W Pre Post PostX)
    {b : Addr} {cellB : Cell} (hcell : T.heap[b]? = some cellB) (hobj : cellB.vm.isStatics = false) (hcls : s.vm.findClass C = some cellB.cls)
    {g : JFrame} (hg : g.method = m) (hsize : g.locals.size = c.maxLocals) {argsL rest : List Value} (hlen : ∀ sig, parseMethodDescriptor x.desc = some sig → argsL.length = sig.parameters.length)
    (hstack : g.stack = argsL.reverse ++ .ref b :: rest) (hW : 2 * g.monitorRoom + (rest.map fun v => v.category).sum ≤ W) (hdg : decode c.code g.pc = .ok (.invokevirtual index, 3))
    (hpre : ∀ vm₁, s.WarmedH vm₁ → Pre ⟨T.setVm vm₁, locs, cells, slots⟩ (Value.ref b :: argsL).toArray) :
    (∃ (v : Option Value) (vm₁ : Vm) (B : Pt), s.WarmedH vm₁ ∧ Stand p l e R s m args below meth c B.U B.locs B.cells B.slots ∧ Post ⟨T.setVm vm₁, locs, cells, slots⟩ (Value.ref b :: argsL).toArray v B ∧
      ∀ target, Steps p.tables e below (B.U.setTop { g with pc := g.pc + 3, stack := v.toList ++ rest }) target → Steps p.tables e below (T.setTop g) target) ∨
    (∃ (q : Addr) (vm₁ : Vm) (B : Pt), s.WarmedH vm₁ ∧ Stand p l e R s m args below meth c B.U B.locs B.cells B.slots ∧ PostX ⟨T.setVm vm₁, locs, cells, slots⟩ (Value.ref b :: argsL).toArray q B ∧
      Steps p.tables e below (T.setTop g) ((B.U.setTop { g with stack := rest }).pushFrame (.throwing q))) := by
  obtain ⟨r0, r, hn, hrm, hstR, hsigR⟩ := hd0
  obtain ⟨cn, ck, r1, hcn, hck, hni, hf, hn1⟩ := Cond.sameMethod_found hsame
  cases hn.symm.trans hn1
  obtain ⟨mk, methM, hnamed, hmethM, -, habM⟩ := Cond.instanceMethod_spec hinst
  obtain ⟨c2, r2, m2, q1, q2, q3, q4, kP, hkP, hkPi⟩ := Cond.selects_spec hsel
  cases hcls.symm.trans q1
  cases hf.symm.trans q2
  cases hnamed.symm.trans q3
  have hselP : selectMethod e.platform s.vm cellB.cls r0 = .method mk := by rw [Launch.admits_selectMethod X.admits]; exact q4
  obtain ⟨vm₁, X₁, hstep₁⟩ := X.invokevirtualUp hexec hown hlink hsame howner hn hrm hstR (a := b) (cell := cellB) hcell
    (fun z h => by rw [h] at hobj; cases hobj) hselP hmethM habM hkP hkPi (g := g) hg (argsL := argsL) (rest := rest) (hlen _ hsigR) hstack hdg
  rcases hK m meth c ⟨T.setVm vm₁, locs, cells, slots⟩ { g with stack := rest } (.invokevirtual index) mk (Value.ref b :: argsL).toArray X₁ hg hsize hdg hW (X₁.named hnamed) (hpre vm₁ X₁.warmed) with ⟨v, B, X', hpost, hsteps⟩ | ⟨q, B, X', hpost, hsteps⟩
  · exact Or.inl ⟨v, vm₁, B, X₁.warmed, X', hpost, fun target h => hstep₁ _ fun acts => by rw [doInvoke_state]; exact hsteps.trans h⟩
  · exact Or.inr ⟨q, vm₁, B, X₁.warmed, X', hpost, hstep₁ _ fun acts => by rw [doInvoke_state]; exact hsteps⟩
theorem vx_runU {x y : MethodName} {bytes cc : ByteArray} {maxL nL mc ms n index : Nat} {ret : Option FieldType} {ws : List Cond} {rm : Room} {Pc : Array Value → State → Prop} {Qc : Array Value → State → Outcome → State → Prop} {XC : String → State → State → Prop} {free : Addr → Prop} {Ts : List Cond} {own C owner : String} {b : Addr} {As rest : List Value} {g : JFrame}
    (S : CallFix p m c cc nL s args Ts own) (hM : vx_Met l y ws rm Pc Qc XC mc ms free) (cw : va_CU R s args own C owner index x y bytes maxL ret ws rm mc ms n) (hp : PreV s H C b Pc As)
    (hg : g.method = m) (hn : As.length = n) (hsize : g.locals.size = nL) (hstack : g.stack = As.reverse ++ .ref b :: rest) (hW : 2 * g.monitorRoom + (rest.map fun v => v.category).sum ≤ 8) (hdg : decode cc g.pc = .ok (.invokevirtual index, 3)) (hf : cells + mc ≤ R.cells ∧ slots + ms ≤ R.slots) :
    vx_Run p l e R s m args below meth c H locs cells slots mc ms g rest (Qc (Value.ref b :: As).toArray) XC free := by
  obtain ⟨hrc, hrs, hfr, hlo, hws, hcw⟩ := cw.back
  have hini := cw.init
  have hK : vx_Back l R p e below s args y 3 8 (PreOf R mc ms Pc) (PostOf Qc mc ms free) (vx_Post XC mc ms free) := vx_back (bytes := bytes) (maxL := maxL) (ret := ret) hM hp.1 hrc hrs hfr hlo hws hcw (fun a' U hW => word_at hW (Or.inl (by first | rfl | simp [Cond.onTables, Cond.keeps, Cond.steady])) hini)
  obtain ⟨hx, hb, hml, ho, -⟩ := S
  obtain ⟨-, ⟨cellB, hcB, hoB, hclB⟩, hPc⟩ := hp
  intro T hT X
  rcases vx_callVU X hx (C := C) (owner := owner) (bytes := bytes) (maxL := maxL) (ret := ret) ho cw.link cw.same cw.decl cw.notMH cw.sel cw.inst cw.code hK (by rw [hT]; exact hcB) hoB hclB hg (hsize.trans hml.symm) (argsL := As) (rest := rest) (fun sig h => hn.trans (cw.len sig h)) hstack hW (by rw [hb]; exact hdg)
    (fun vm₁ hW₁ => ⟨hf.1, hf.2, hPc (T.setVm vm₁) hT hW₁⟩) with ⟨v, vm₁, ⟨U', l2, c2, s2⟩, hW₁, X', ⟨g', mk, t, L, e1, e2, hq, h1, hL, h2, h3⟩, st⟩ | ⟨q, vm₁, ⟨U', l2, c2, s2⟩, hW₁, X', ⟨g', mk, t, L, E, ce, e1, e2, hq, hce, hcv, hcl, h1, hL, h2, h3⟩, st⟩
  · dsimp only [Pt.U, Pt.locs, Pt.cells, Pt.slots] at X' e1 e2 h1 h2 h3 st
    subst h1; subst h2; subst h3
    exact Or.inl ⟨v, (T.setVm vm₁).calling g' mk (Value.ref b :: As).toArray, t, U', L, hT, X', hL, e1, e2, hq, st⟩
  · dsimp only [Pt.U, Pt.locs, Pt.cells, Pt.slots] at X' e1 e2 h1 h2 h3 st hcl
    subst h1; subst h2; subst h3
    exact Or.inr ⟨q, (T.setVm vm₁).calling g' mk (Value.ref b :: As).toArray, t, U', L, E, ce, hT, X', hL, e1, e2, hq, hce, hcv, vx_cls hW₁ hcl, st⟩
end
/-! ===== END ===== -/
/-! ===== BEGIN super.m(..) that may throw (follows va_callSU, va_runSU) ===== -/
section
variable {p : Program} {l : Launch} {e : Env} {R : Room} {s : State} {m : MethodId} {args : Array Value} {below : List Frame} {meth : Method} {c : Code} {H : Heap} {locs : List Loc} {cells slots : Nat}
theorem vx_callSU {T : State} {locs : List Loc} {cells slots : Nat} (X : Stand p l e R s m args below meth c T locs cells slots) (hexec : p.tables.exec = Jvm.exec) {own : String} {index : Nat} {y : MethodName} {bytes : ByteArray} {maxL : Nat} {ret : Option FieldType}
    (hown : s.vm.findClass own = some m.cls) (hlink : (Cond.methodLink own index y).before args s = true) (hsame : (Cond.sameMethod y.cls y.cls y.name y.desc).before args s = true) (hsup : (Cond.superclass own y.cls).before args s = true)
    (hinst : (Cond.instanceMethod y).before args s = true) (hcode : (Cond.code y bytes maxL ret).before args s = true) (hno : y.name ≠ "<init>")
    {W : Nat} {Pre : Pt → Array Value → Prop} {Post : Pt → Array Value → Option Value → Pt → Prop} {PostX : Pt → Array Value → Addr → Pt → Prop} (hK : vx_Back l R p e below s args y 3 W Pre Post PostX)
    {b : Addr} {cellB : Cell} {kB : Class} (hcell : T.heap[b]? = some cellB) (hobj : cellB.vm.isStatics = false) (hkB : s.vm.classes[cellB.cls]? = some kB)
    {g : JFrame} (hg : g.method = m) (hsize : g.locals.size = c.maxLocals) {argsL rest : List Value} (hlen : ∀ sig, parseMethodDescriptor y.desc = some sig → argsL.length = sig.parameters.length)
    (hstack : g.stack = argsL.reverse ++ .ref b :: rest) (hW : 2 * g.monitorRoom + (rest.map fun v => v.category).sum ≤ W) (hdg : decode c.code g.pc = .ok (.invokespecial index, 3))
    (hpre : ∀ vm₁, s.WarmedH vm₁ → Pre ⟨T.setVm vm₁, locs, cells, slots⟩ (Value.ref b :: argsL).toArray) :
    (∃ (v : Option Value) (vm₁ : Vm) (B : Pt), s.WarmedH vm₁ ∧ Stand p l e R s m args below meth c B.U B.locs B.cells B.slots ∧ Post ⟨T.setVm vm₁, locs, cells, slots⟩ (Value.ref b :: argsL).toArray v B ∧
      ∀ target, Steps p.tables e below (B.U.setTop { g with pc := g.pc + 3, stack := v.toList ++ rest }) target → Steps p.tables e below (T.setTop g) target) ∨
    (∃ (q : Addr) (vm₁ : Vm) (B : Pt), s.WarmedH vm₁ ∧ Stand p l e R s m args below meth c B.U B.locs B.cells B.slots ∧ PostX ⟨T.setVm vm₁, locs, cells, slots⟩ (Value.ref b :: argsL).toArray q B ∧
      Steps p.tables e below (T.setTop g) ((B.U.setTop { g with stack := rest }).pushFrame (.throwing q))) := by
  obtain ⟨mk, methM, hnamed, hmethM, hstM, habM⟩ := Cond.instanceMethod_spec hinst
  obtain ⟨methM', cM, hmethM', -, -, -, -, -, -, hsigM⟩ := Cond.code_spec hnamed hcode
  cases hmethM.symm.trans hmethM'
  obtain ⟨ps, dk, kp, hps, hdk, hkp, hsuper, -, -, hnid⟩ := Cond.superclass_spec hown hsup
  have hn : s.methodNamed? ⟨y.cls, y.name, y.desc⟩ = some mk := hnamed
  have hpm : ps = mk.cls := Option.some.inj (hps.symm.trans (findClass_of_methodNamed hnamed))
  have hsub : s.vm.isSubclass ps mk.cls = true := by rw [hpm]; simp [Vm.isSubclass, Vm.isSubclassAux]
  obtain ⟨vm₁, X₁, hstep₁⟩ := X.invokespecialUp hexec hown hlink hsame hn hmethM hstM habM hno hdk hnid hps hsuper hsub (a := b) (cell := cellB) hcell
    (fun z h => by rw [h] at hobj; cases hobj) hkB (g := g) hg (argsL := argsL) (rest := rest) (hlen _ hsigM) hstack hdg
  rcases hK m meth c ⟨T.setVm vm₁, locs, cells, slots⟩ { g with stack := rest } (.invokespecial index) mk (Value.ref b :: argsL).toArray X₁ hg hsize hdg hW (X₁.named hnamed) (hpre vm₁ X₁.warmed) with ⟨v, B, X', hpost, hsteps⟩ | ⟨q, B, X', hpost, hsteps⟩
  · exact Or.inl ⟨v, vm₁, B, X₁.warmed, X', hpost, fun target h => hstep₁ _ (by rw [doInvoke_state]; exact hsteps.trans h)⟩
  · exact Or.inr ⟨q, vm₁, B, X₁.warmed, X', hpost, hstep₁ _ (by rw [doInvoke_state]; exact hsteps)⟩
theorem vx_runSU {y : MethodName} {bytes cc : ByteArray} {maxL nL mc ms n index : Nat} {ret : Option FieldType} {ws : List Cond} {rm : Room} {Pc : Array Value → State → Prop} {Qc : Array Value → State → Outcome → State → Prop} {XC : String → State → State → Prop} {free : Addr → Prop} {Ts : List Cond} {own C : String} {cC : ClassId} {b : Addr} {As rest : List Value} {g : JFrame}
    (hat : ClassAt s C cC) (S : CallFix p m c cc nL s args Ts own) (hM : vx_Met l y ws rm Pc Qc XC mc ms free) (cw : va_CS R s args own index y bytes maxL ret ws rm mc ms n) (hp : PreV s H C b Pc As)
    (hg : g.method = m) (hn : As.length = n) (hsize : g.locals.size = nL) (hstack : g.stack = As.reverse ++ .ref b :: rest) (hW : 2 * g.monitorRoom + (rest.map fun v => v.category).sum ≤ 8) (hdg : decode cc g.pc = .ok (.invokespecial index, 3)) (hf : cells + mc ≤ R.cells ∧ slots + ms ≤ R.slots) :
    vx_Run p l e R s m args below meth c H locs cells slots mc ms g rest (Qc (Value.ref b :: As).toArray) XC free := by
  obtain ⟨⟨hrc, hrs, hfr, hlo, hws, hcw⟩, hl1, hl2, hl3, hl4, hini, hcode, hno, hlen⟩ := cw
  have hK : vx_Back l R p e below s args y 3 8 (PreOf R mc ms Pc) (PostOf Qc mc ms free) (vx_Post XC mc ms free) := vx_back (bytes := bytes) (maxL := maxL) (ret := ret) hM hp.1 hrc hrs hfr hlo hws hcw (fun a' U hW => word_at hW (Or.inl (by first | rfl | simp [Cond.onTables, Cond.keeps, Cond.steady])) hini)
  obtain ⟨hx, hb, hml, ho, -⟩ := S
  obtain ⟨-, ⟨cellB, hcB, hoB, hclB⟩, hPc⟩ := hp
  obtain ⟨hfc, kB, hkB, -⟩ := hat
  cases hfc.symm.trans hclB
  intro T hT X
  rcases vx_callSU X hx (bytes := bytes) (maxL := maxL) (ret := ret) ho hl1 hl2 hl3 hl4 hcode hno hK (by rw [hT]; exact hcB) hoB hkB hg (hsize.trans hml.symm) (argsL := As) (rest := rest) (fun sig h => hn.trans (hlen sig h)) hstack hW (by rw [hb]; exact hdg)
    (fun vm₁ hW₁ => ⟨hf.1, hf.2, hPc (T.setVm vm₁) hT hW₁⟩) with ⟨v, vm₁, ⟨U', l2, c2, s2⟩, hW₁, X', ⟨g', mk, t, L, e1, e2, hq, h1, hL, h2, h3⟩, st⟩ | ⟨q, vm₁, ⟨U', l2, c2, s2⟩, hW₁, X', ⟨g', mk, t, L, E, ce, e1, e2, hq, hce, hcv, hcl, h1, hL, h2, h3⟩, st⟩
  · dsimp only [Pt.U, Pt.locs, Pt.cells, Pt.slots] at X' e1 e2 h1 h2 h3 st
    subst h1; subst h2; subst h3
    exact Or.inl ⟨v, (T.setVm vm₁).calling g' mk (Value.ref b :: As).toArray, t, U', L, hT, X', hL, e1, e2, hq, st⟩
  · dsimp only [Pt.U, Pt.locs, Pt.cells, Pt.slots] at X' e1 e2 h1 h2 h3 st hcl
    subst h1; subst h2; subst h3
    exact Or.inr ⟨q, (T.setVm vm₁).calling g' mk (Value.ref b :: As).toArray, t, U', L, E, ce, hT, X', hL, e1, e2, hq, hce, hcv, vx_cls hW₁ hcl, st⟩
end
/-! ===== END ===== -/
/-! INHERITED METHODS OF StringBuilder -/
theorem xSelSB {y : MethodName} {s : State} {args : Array Value} {n : Nat} (hy : y.cls ≠ "java/lang/invoke/MethodHandle" ∧ y.cls ≠ "java/lang/invoke/VarHandle") (hins : (Cond.instantiable "java/lang/StringBuilder" n).before args s = true) (hsame : (Cond.sameMethod y.cls y.cls y.name y.desc).before args s = true) (hpriv : (Cond.privateMethod y).before args s = true) (hinst : (Cond.instanceMethod y).before args s = true) : (Cond.selects "java/lang/StringBuilder" y y).before args s = true := by
  obtain ⟨c, k, hc, hk, -, hniab, -, -⟩ := Cond.instantiable_spec hins
  obtain ⟨cn, ck, r1, hcn, hck, hni, hf, hn1⟩ := Cond.sameMethod_found hsame
  obtain ⟨mk, methM, hnamed, hmethM, -, -⟩ := Cond.instanceMethod_spec hinst
  have hfound : s.methodFound? y.cls y.name y.desc = some mk := State.methodFound?_of_named hnamed hy
  have hsel : selectMethod {} s.vm c mk = .method mk := selectMethod_private hmethM (Cond.privateMethod_at hpriv mk methM hnamed hmethM)
  have hcls : mk.cls = cn := Option.some.inj ((findClass_of_methodNamed hnamed).symm.trans hcn)
  simp only [Cond.before, Cond.holds, Cond.value, hc, hfound, hnamed, hsel, hcls, hck]
  simp [hni]
/-- the words of a call of x on a StringBuilder, which y answers -/
def xLkU (own : String) (idx : Nat) (x y : MethodName) (cc : ByteArray) (n : Nat) (r : Option FieldType) (k : Nat) : Prop :=
  xLk own idx x cc n r k ∧ y.desc = x.desc ∧ Cond.sameMethod x.cls x.cls x.name x.desc ∈ xT ∧ Cond.instanceMethod x ∈ xT ∧ Cond.instanceMethod y ∈ xT ∧ (Cond.selects "java/lang/StringBuilder" x y ∈ xT ∨ (x ∈ xSp ∧ y = x))
section XKU
variable {X : xCx} {own nm : String} {cc : ByteArray} {n d : Nat} {r : Option FieldType} {G : xGx} {cells slots mc ms : Nat} {t : xTh} {M : xMe} {pc : Nat} {L st : List Value} {Po : Option Value → xTh → xMe → Prop} {Px : String → xTh → xMe → Prop}
theorem xJ_callU {idx : Nat} {x : MethodName} {cc' : ByteArray} {n' : Nat} {r' : Option FieldType} {d' mc' ms' k9 b : Nat} {As stk : List Value} {Po' : Option Value → xTh → xMe → Prop} (h : xC X own nm cc n r d G) (hB : xB X mc ms Po Px) (dd : decode cc pc = .ok (.invokevirtual idx, 3)) (hl : xLkU own idx x x cc' n' r' k9) (hk : xk t b = 22)
    (hM : xCt G x cc' n' r' d' mc' ms' (vr b :: As) t M Po' (fun _ _ _ => False)) (hd : d' < d) (hLn : L.length = n) (hk9 : As.length = k9) (hsk : stk = As.reverse ++ vr b :: st) (hst8 : (st.map fun v => v.category).sum ≤ 8) (hc : cells + mc' ≤ mc) (hs : slots + ms' ≤ ms)
    (kk : ∀ v t' M', Po' v t' M' → xJ X (cells + mc') (slots + ms') t' M' (pc + 3) L (v.toList ++ st)) : xJ X cells slots t M pc L stk := by
  obtain ⟨p, l, e, R, s, m, args, below, meth, c, G9, Po9, Px9, mc9, ms9⟩ := X
  obtain ⟨hx, hb, hml, hown, hts, hr, hlk, hKn, hSs, hnm, rfl, rfl, hst⟩ := h
  obtain ⟨rfl, rfl, rfl, rfl, hnil⟩ := hB
  obtain ⟨hl0, -, l2, l3, l4, l5⟩ := hl
  intro H locs ls a1 a2 a3
  obtain ⟨b1, b2, b3, b4, b5, b6, b7, b8, b9, b10, b11⟩ := xCB (mc := mc9) (ms := ms9) (mc' := mc') (ms' := ms') hts hl0 hd
  exact xJ_back hlk hnil a3 a2.1.2.2 (vx_runU (C := "java/lang/StringBuilder") (owner := x.cls) (y := x) (As := As) (rest := st) (b := b) ⟨hx, hb, hml, hown, hts⟩ (hM l hst) ⟨⟨b1, b2, b3, b4, b5, b6⟩, b7, b8, b9, b10, b11, hts _ l2, va_Decl.of (hts _ l3) b7, (by rcases l5 with q | ⟨q, -⟩; exact hts _ q; exact va_Nw.use rfl (hKn.2.2.2.2.2.2.2.2.1.2.2.2.2.2.2.1 _ q)), hts _ l4⟩
    ⟨xPc_blind, xRecv hKn a2 (ci := 22) rfl (by decide) hk, fun U hU hW => ⟨rfl, by rw [hU]; exact xRp_nil a2, xKn_go hW (fun a ha hn => by rw [hU]; exact xold hSs a2.1 a hn) hKn⟩⟩ rfl hk9 (a3.1.trans hLn) hsk (lv_room hst8) dd ⟨hc, hs⟩) hc hs kk (fun _ _ _ q => q.elim)
theorem xJ_callU2 {idx nx : Nat} {x y : MethodName} {cx cc' : ByteArray} {rx : Option FieldType} {n' : Nat} {r' : Option FieldType} {d' mc' ms' k9 b : Nat} {As stk : List Value} {Po' : Option Value → xTh → xMe → Prop} (h : xC X own nm cc n r d G) (hB : xB X mc ms Po Px) (dd : decode cc pc = .ok (.invokevirtual idx, 3)) (hl0 : xLk own idx x cx nx rx k9) (l2 : Cond.sameMethod x.cls x.cls x.name x.desc ∈ xT) (l3 : Cond.instanceMethod x ∈ xT) (l4 : Cond.instanceMethod y ∈ xT) (l5 : Cond.selects "java/lang/StringBuilder" x y ∈ xT) (l6 : Cond.code y cc' n' r' ∈ xT) (l7 : Cond.initialized y.cls ∈ xT) (l8 : n' ≤ 45) (hk : xk t b = 22)
    (hM : xCt G y cc' n' r' d' mc' ms' (vr b :: As) t M Po' (fun _ _ _ => False)) (hd : d' < d) (hLn : L.length = n) (hk9 : As.length = k9) (hsk : stk = As.reverse ++ vr b :: st) (hst8 : (st.map fun v => v.category).sum ≤ 8) (hc : cells + mc' ≤ mc) (hs : slots + ms' ≤ ms)
    (kk : ∀ v t' M', Po' v t' M' → xJ X (cells + mc') (slots + ms') t' M' (pc + 3) L (v.toList ++ st)) : xJ X cells slots t M pc L stk := by
  obtain ⟨p, l, e, R, s, m, args, below, meth, c, G9, Po9, Px9, mc9, ms9⟩ := X
  obtain ⟨hx, hb, hml, hown, hts, hr, hlk, hKn, hSs, hnm, rfl, rfl, hst⟩ := h
  obtain ⟨rfl, rfl, rfl, rfl, hnil⟩ := hB
  intro H locs ls a1 a2 a3
  obtain ⟨b1, b2, b3, b4, b5, b6, b7, b8, b9, b10, b11⟩ := xCB (mc := mc9) (ms := ms9) (mc' := mc') (ms' := ms') hts hl0 hd
  exact xJ_back hlk hnil a3 a2.1.2.2 (vx_runU (C := "java/lang/StringBuilder") (owner := x.cls) (y := y) (As := As) (rest := st) (b := b) ⟨hx, hb, hml, hown, hts⟩ (hM l hst) ⟨⟨rfl, rfl, hd, by show 8 + (n' + 11) + 64 * d' ≤ 64 * d; omega, pay_in hts (xWs_good l6), List.mem_cons_self⟩, hts _ l6, hts _ l7, b9, b10, b11, hts _ l2, va_Decl.of (hts _ l3) b7, hts _ l5, hts _ l4⟩
    ⟨xPc_blind, xRecv hKn a2 (ci := 22) rfl (by decide) hk, fun U hU hW => ⟨rfl, by rw [hU]; exact xRp_nil a2, xKn_go hW (fun a ha hn => by rw [hU]; exact xold hSs a2.1 a hn) hKn⟩⟩ rfl hk9 (a3.1.trans hLn) hsk (lv_room hst8) dd ⟨hc, hs⟩) hc hs kk (fun _ _ _ q => q.elim)
/-- super.m(..) on a StringBuilder -/
theorem xJ_callSU {idx : Nat} {x : MethodName} {cc' : ByteArray} {n' : Nat} {r' : Option FieldType} {d' mc' ms' k9 b : Nat} {As stk : List Value} {Po' : Option Value → xTh → xMe → Prop} (h : xC X own nm cc n r d G) (hB : xB X mc ms Po Px) (dd : decode cc pc = .ok (.invokespecial idx, 3)) (hl0 : xLk own idx x cc' n' r' k9) (l2 : Cond.sameMethod x.cls x.cls x.name x.desc ∈ xT) (l3 : Cond.superclass own x.cls ∈ xT) (l4 : Cond.instanceMethod x ∈ xT) (hno : x.name ≠ "<init>") (hk : xk t b = 22)
    (hM : xCt G x cc' n' r' d' mc' ms' (vr b :: As) t M Po' (fun _ _ _ => False)) (hd : d' < d) (hLn : L.length = n) (hk9 : As.length = k9) (hsk : stk = As.reverse ++ vr b :: st) (hst8 : (st.map fun v => v.category).sum ≤ 8) (hc : cells + mc' ≤ mc) (hs : slots + ms' ≤ ms)
    (kk : ∀ v t' M', Po' v t' M' → xJ X (cells + mc') (slots + ms') t' M' (pc + 3) L (v.toList ++ st)) : xJ X cells slots t M pc L stk := by
  obtain ⟨p, l, e, R, s, m, args, below, meth, c, G9, Po9, Px9, mc9, ms9⟩ := X
  obtain ⟨hx, hb, hml, hown, hts, hr, hlk, hKn, hSs, hnm, rfl, rfl, hst⟩ := h
  obtain ⟨rfl, rfl, rfl, rfl, hnil⟩ := hB
  intro H locs ls a1 a2 a3
  obtain ⟨b1, b2, b3, b4, b5, b6, b7, b8, b9, b10, b11⟩ := xCB (mc := mc9) (ms := ms9) (mc' := mc') (ms' := ms') hts hl0 hd
  exact xJ_back hlk hnil a3 a2.1.2.2 (vx_runSU (C := RJ4) (As := As) (rest := st) (b := b) (hKn.1.1 22 _ rfl).2 ⟨hx, hb, hml, hown, hts⟩ (hM l hst) ⟨⟨b1, b2, b3, b4, b5, b6⟩, b11, hts _ l2, hts _ l3, hts _ l4, b8, b7, hno, b10⟩
    ⟨xPc_blind, xRecv hKn a2 (ci := 22) rfl (by decide) hk, fun U hU hW => ⟨rfl, by rw [hU]; exact xRp_nil a2, xKn_go hW (fun a ha hn => by rw [hU]; exact xold hSs a2.1 a hn) hKn⟩⟩ rfl hk9 (a3.1.trans hLn) hsk (lv_room hst8) dd ⟨hc, hs⟩) hc hs kk (fun _ _ _ q => q.elim)
end XKU
/-! words of StringBuilder -/
set_option maxRecDepth 100000 in
theorem ws_J5_ensureCapacityInternal_d00df : Cond.sameMethod yJ5_ensureCapacityInternal_d00df.cls yJ5_ensureCapacityInternal_d00df.cls yJ5_ensureCapacityInternal_d00df.name yJ5_ensureCapacityInternal_d00df.desc ∈ xT := List.mem_filter.mpr ⟨List.mem_append_right _ (List.mem_of_getElem? (i := 1578) rfl), by rfl⟩
set_option maxRecDepth 100000 in
theorem ws_J5_newCapacity_0f7a4 : Cond.sameMethod yJ5_newCapacity_0f7a4.cls yJ5_newCapacity_0f7a4.cls yJ5_newCapacity_0f7a4.name yJ5_newCapacity_0f7a4.desc ∈ xT := List.mem_filter.mpr ⟨List.mem_append_right _ (List.mem_of_getElem? (i := 1579) rfl), by rfl⟩
set_option maxRecDepth 100000 in
theorem ws_J5_putStringAt_47b60 : Cond.sameMethod yJ5_putStringAt_47b60.cls yJ5_putStringAt_47b60.cls yJ5_putStringAt_47b60.name yJ5_putStringAt_47b60.desc ∈ xT := List.mem_filter.mpr ⟨List.mem_append_right _ (List.mem_of_getElem? (i := 1580) rfl), by rfl⟩
set_option maxRecDepth 100000 in
theorem ws_J5_inflateIfNeededFor_a7421 : Cond.sameMethod yJ5_inflateIfNeededFor_a7421.cls yJ5_inflateIfNeededFor_a7421.cls yJ5_inflateIfNeededFor_a7421.name yJ5_inflateIfNeededFor_a7421.desc ∈ xT := List.mem_filter.mpr ⟨List.mem_append_right _ (List.mem_of_getElem? (i := 1581) rfl), by rfl⟩
set_option maxRecDepth 100000 in
theorem ws_J5_isLatin1_aae02 : Cond.sameMethod yJ5_isLatin1_aae02.cls yJ5_isLatin1_aae02.cls yJ5_isLatin1_aae02.name yJ5_isLatin1_aae02.desc ∈ xT := List.mem_filter.mpr ⟨List.mem_append_right _ (List.mem_of_getElem? (i := 1319) rfl), by rfl⟩
set_option maxRecDepth 100000 in
theorem ws_J5_getValue_6d5f1 : Cond.sameMethod yJ5_getValue_6d5f1.cls yJ5_getValue_6d5f1.cls yJ5_getValue_6d5f1.name yJ5_getValue_6d5f1.desc ∈ xT := List.mem_filter.mpr ⟨List.mem_append_right _ (List.mem_of_getElem? (i := 1412) rfl), by rfl⟩
set_option maxRecDepth 100000 in
theorem ws_J5_length_8abf5 : Cond.sameMethod yJ5_length_8abf5.cls yJ5_length_8abf5.cls yJ5_length_8abf5.name yJ5_length_8abf5.desc ∈ xT := List.mem_filter.mpr ⟨List.mem_append_right _ (List.mem_of_getElem? (i := 1417) rfl), by rfl⟩
set_option maxRecDepth 100000 in
theorem ws_J5_append_cf1ce : Cond.sameMethod yJ5_append_cf1ce.cls yJ5_append_cf1ce.cls yJ5_append_cf1ce.name yJ5_append_cf1ce.desc ∈ xT := List.mem_filter.mpr ⟨List.mem_append_right _ (List.mem_of_getElem? (i := 1576) rfl), by rfl⟩
set_option maxRecDepth 100000 in
theorem ws_J5_append_c97b9 : Cond.sameMethod yJ5_append_c97b9.cls yJ5_append_c97b9.cls yJ5_append_c97b9.name yJ5_append_c97b9.desc ∈ xT := List.mem_filter.mpr ⟨List.mem_append_right _ (List.mem_of_getElem? (i := 1583) rfl), by rfl⟩
set_option maxRecDepth 100000 in
theorem wl_J5_isLatin1_aae02 : Cond.selects "java/lang/StringBuilder" yJ5_isLatin1_aae02 yJ5_isLatin1_aae02 ∈ xT := List.mem_filter.mpr ⟨List.mem_append_right _ (List.mem_of_getElem? (i := 1320) rfl), by rfl⟩
set_option maxRecDepth 100000 in
theorem wl_J5_getValue_6d5f1 : Cond.selects "java/lang/StringBuilder" yJ5_getValue_6d5f1 yJ5_getValue_6d5f1 ∈ xT := List.mem_filter.mpr ⟨List.mem_append_right _ (List.mem_of_getElem? (i := 1413) rfl), by rfl⟩
set_option maxRecDepth 100000 in
theorem wl_SBlen : Cond.selects "java/lang/StringBuilder" yJ5_length_8abf5 yJ4_length_8abf5 ∈ xT := List.mem_filter.mpr ⟨List.mem_append_right _ (List.mem_of_getElem? (i := 1418) rfl), by rfl⟩
set_option maxRecDepth 100000 in
theorem wsup_SB : Cond.superclass RJ4 RJ5 ∈ xT := List.mem_filter.mpr ⟨List.mem_append_right _ (List.mem_of_getElem? (i := 1279) rfl), by rfl⟩
theorem lu_J5_100 : xLkU RJ5 100 yJ5_ensureCapacityInternal_d00df yJ5_ensureCapacityInternal_d00df cJ5_ensureCapacityInternal_d00df 3 none 1 := ⟨lk_J5_100, rfl, ws_J5_ensureCapacityInternal_d00df, im_J5_ensureCapacityInternal_d00df, im_J5_ensureCapacityInternal_d00df, Or.inr ⟨by simp [xSp], rfl⟩⟩
theorem lu_J5_104 : xLkU RJ5 104 yJ5_newCapacity_0f7a4 yJ5_newCapacity_0f7a4 cJ5_newCapacity_0f7a4 6 (some .int) 1 := ⟨lk_J5_104, rfl, ws_J5_newCapacity_0f7a4, im_J5_newCapacity_0f7a4, im_J5_newCapacity_0f7a4, Or.inr ⟨by simp [xSp], rfl⟩⟩
theorem lu_J5_208 : xLkU RJ5 208 yJ5_putStringAt_47b60 yJ5_putStringAt_47b60 cJ5_putStringAt_47b60 3 none 2 := ⟨lk_J5_208, rfl, ws_J5_putStringAt_47b60, im_J5_putStringAt_47b60, im_J5_putStringAt_47b60, Or.inr ⟨by simp [xSp], rfl⟩⟩
theorem lu_J5_397 : xLkU RJ5 397 yJ5_inflateIfNeededFor_a7421 yJ5_inflateIfNeededFor_a7421 cJ5_inflateIfNeededFor_a7421 2 none 1 := ⟨lk_J5_397, rfl, ws_J5_inflateIfNeededFor_a7421, im_J5_inflateIfNeededFor_a7421, im_J5_inflateIfNeededFor_a7421, Or.inr ⟨by simp [xSp], rfl⟩⟩
theorem lu_J5_83 : xLkU RJ5 83 yJ5_isLatin1_aae02 yJ5_isLatin1_aae02 cJ5_isLatin1_aae02 1 (some .boolean) 0 := ⟨lk_J5_83, rfl, ws_J5_isLatin1_aae02, im_J5_isLatin1_aae02, im_J5_isLatin1_aae02, Or.inl wl_J5_isLatin1_aae02⟩
theorem lu_J0_1047 : xLkU RJ0 1047 yJ5_isLatin1_aae02 yJ5_isLatin1_aae02 cJ5_isLatin1_aae02 1 (some .boolean) 0 := ⟨lk_J0_1047, rfl, ws_J5_isLatin1_aae02, im_J5_isLatin1_aae02, im_J5_isLatin1_aae02, Or.inl wl_J5_isLatin1_aae02⟩
theorem lu_J0_552 : xLkU RJ0 552 yJ5_getValue_6d5f1 yJ5_getValue_6d5f1 cJ5_getValue_6d5f1 1 (some (.array .byte)) 0 := ⟨lk_J0_552, rfl, ws_J5_getValue_6d5f1, im_J5_getValue_6d5f1, im_J5_getValue_6d5f1, Or.inl wl_J5_getValue_6d5f1⟩
theorem xfy {x : Int} (h1 : -128 ≤ x) (h2 : x < 128) : fits .byte (.int (Int32.ofInt x)) = true := by
  have e : (Int32.ofInt x).toInt = x := xR_ti ⟨by omega, by omega⟩
  have a : (-128 : Int32) ≤ Int32.ofInt x := by rw [Int32.le_iff_toInt_le, e]; exact h1
  have b : Int32.ofInt x ≤ (127 : Int32) := by rw [Int32.le_iff_toInt_le, e]; show x ≤ 127; omega
  simp [fits, a, b]
theorem xJ_ishl0 {X : xCx} {own nm : String} {cc : ByteArray} {n d : Nat} {r : Option FieldType} {G : xGx} {cells slots : Nat} {t : xTh} {M : xMe} {pc : Nat} {L st : List Value} {x y : Int} (h : xC X own nm cc n r d G) (dd : decode cc pc = .ok (.ishl, 1)) (hx9 : xR x) (hy : y = 0) (k : xJ X cells slots t M (pc + 1) L (vi x :: st)) : xJ X cells slots t M pc L (vi y :: vi x :: st) := by
  subst hy
  obtain ⟨p, l, e, R, s, m, args, below, meth, c, G9, Po, Px, mc, ms⟩ := X
  obtain ⟨hx, hb, hml, hown, hts, hr, hlk, hKn, hSs, hnm, hR, hG, hst⟩ := h
  intro H locs ls a1 a2 a3
  have k' := k H locs ls a1 a2 a3
  rw [show vi x = Value.int (Int32.ofInt x <<< (Int32.ofInt 0 &&& 31)) from congrArg Value.int (sb_shl0 _).symm] at k'
  exact lv_ishl hx hb dd k'
theorem xJ_ineg {X : xCx} {own nm : String} {cc : ByteArray} {n d : Nat} {r : Option FieldType} {G : xGx} {cells slots : Nat} {t : xTh} {M : xMe} {pc : Nat} {L st : List Value} {x : Int} (h : xC X own nm cc n r d G) (dd : decode cc pc = .ok (.ineg, 1)) (k : xJ X cells slots t M (pc + 1) L (vi (-x) :: st)) : xJ X cells slots t M pc L (vi x :: st) := by
  obtain ⟨p, l, e, R, s, m, args, below, meth, c, G9, Po, Px, mc, ms⟩ := X
  obtain ⟨hx, hb, hml, hown, hts, hr, hlk, hKn, hSs, hnm, hR, hG, hst⟩ := h
  intro H locs ls a1 a2 a3
  have k' := k H locs ls a1 a2 a3
  rw [show vi (-x) = .int (-(Int32.ofInt x)) from congrArg Value.int (Int32.ofInt_neg x)] at k'
  exact lv_ineg hx hb dd k'
/-! TEXTS: a String constant, or a String of ours -/
def xIsT (G : xGx) (t : xTh) (M : xMe) (a w : Nat) (f : Nat → Int) : Prop :=
  ((∀ j, j < w → 32 ≤ f j ∧ f j < 127) ∧ w ≤ 1000) ∧
  ((∃ s, s < 31 ∧ a = G.2.2.2.1 s ∧ (w : Int) = xSl s ∧ ∀ j, j < w → f j = xSc s j) ∨
   (xk t a = 21 ∧ M a 1 = 0 ∧ ∃ b, xr t a 0 = some b ∧ xk t b = 13 ∧ xn t b = w ∧ ∀ j, j < w → M b j = f j))
theorem xIsT_R {G : xGx} {t : xTh} {M : xMe} {a w : Nat} {f : Nat → Int} (h : xIsT G t M a w f) : xR (w : Int) := ⟨by omega, by have := h.1.2; omega⟩
theorem xIsT_c {G : xGx} {t : xTh} {M : xMe} {a w : Nat} {f : Nat → Int} (h : xIsT G t M a w f) {j : Nat} (hj : j < w) : xR (f j) := ⟨by have := (h.1.1 j hj).1; omega, by have := (h.1.1 j hj).2; omega⟩
theorem xIsT_lit {G : xGx} {t : xTh} {M : xMe} {s w : Nat} (hs : s < 31) (hw : (w : Int) = xSl s) : xIsT G t M (G.2.2.2.1 s) w (xSc s) :=
  ⟨⟨fun j hj => xSb hs (by omega), by have h9 : xLe.getD s 0 < 100 := (xS_all ⟨s, hs⟩).1; unfold xSl at hw; omega⟩, Or.inl ⟨s, hs, rfl, hw, fun _ _ => rfl⟩⟩
section XTD
variable {G : xGx} {t : xTh} {M : xMe} {a b w : Nat} {f : Nat → Int}
theorem c_J0_coderD (hk : xk t a = 21) (hc : M a 1 = 0) : xCt G yJ0_coder_7d493 cJ0_coder_7d493 1 (some .byte) 0 0 0 [vr a] t M (fun v t' M' => v = some (vi 0) ∧ t' = t ∧ M' = M) (fun _ _ _ => False) := by
  refine xCt_of (L0 := [vr a]) (by decide +kernel) (Nat.le_of_ble_eq_true rfl) rfl ?_
  intro X hX hB
  refine xJ_gcomp hX rfl dJ0_coder_7d493_0 ?_
  refine xJ_if_eq hX dJ0_coder_7d493_3 (tgt := 13) (by decide) ⟨by decide, by decide⟩ (fun q => absurd q (by decide)) (fun _ => ?_)
  refine xJ_aload_n hX dJ0_coder_7d493_6 rfl ?_
  refine xJ_getI hX dJ0_coder_7d493_7 fd_J0_15 rfl hk ?_
  rw [hc]
  refine xJ_goto hX dJ0_coder_7d493_10 (tgt := 14) (by decide) ?_
  exact xJ_zret hX hB dJ0_coder_7d493_14 rfl (Nat.le_refl _) (Nat.le_refl _) ⟨rfl, rfl, rfl⟩
theorem c_J0_isLatin1D (hk : xk t a = 21) (hc : M a 1 = 0) : xCt G yJ0_isLatin1_aae02 cJ0_isLatin1_aae02 1 (some .boolean) 0 0 0 [vr a] t M (fun v t' M' => v = some (vi 1) ∧ t' = t ∧ M' = M) (fun _ _ _ => False) := by
  refine xCt_of (L0 := [vr a]) (by decide +kernel) (Nat.le_of_ble_eq_true rfl) rfl ?_
  intro X hX hB
  refine xJ_gcomp hX rfl dJ0_isLatin1_aae02_0 ?_
  refine xJ_if_eq hX dJ0_isLatin1_aae02_3 (tgt := 17) (by decide) ⟨by decide, by decide⟩ (fun q => absurd q (by decide)) (fun _ => ?_)
  refine xJ_aload_n hX dJ0_isLatin1_aae02_6 rfl ?_
  refine xJ_getI hX dJ0_isLatin1_aae02_7 fd_J0_15 rfl hk ?_
  rw [hc]
  refine xJ_if_ne hX dJ0_isLatin1_aae02_10 (tgt := 17) (by decide) ⟨by decide, by decide⟩ (fun q => absurd rfl q) (fun _ => ?_)
  refine xJ_iconst hX dJ0_isLatin1_aae02_13 ?_
  refine xJ_goto hX dJ0_isLatin1_aae02_14 (tgt := 18) (by decide) ?_
  exact xJ_zret hX hB dJ0_isLatin1_aae02_18 rfl (Nat.le_refl _) (Nat.le_refl _) ⟨rfl, rfl, rfl⟩
theorem c_J0_lengthD (hk : xk t a = 21) (hc : M a 1 = 0) (hr : xr t a 0 = some b) (hkb : xk t b = 13) (hn : xn t b = w) (hw : xR (w : Int)) : xCt G yJ0_length_8abf5 cJ0_length_8abf5 1 (some .int) 1 0 0 [vr a] t M (fun v t' M' => v = some (vi (w : Int)) ∧ t' = t ∧ M' = M) (fun _ _ _ => False) := by
  refine xCt_of (L0 := [vr a]) (by decide +kernel) (Nat.le_of_ble_eq_true rfl) rfl ?_
  intro X hX hB
  refine xJ_aload_n hX dJ0_length_8abf5_0 rfl ?_
  refine xJ_getR (b := b) hX dJ0_length_8abf5_1 fd_J0_9 rfl hk hr ?_
  refine xJ_alen hX dJ0_length_8abf5_4 (by rw [hkb]; decide) (by rw [hkb]; decide) ?_
  rw [hn]
  refine xJ_aload_n hX dJ0_length_8abf5_5 rfl ?_
  refine xJ_callV (As := []) hX hB dJ0_length_8abf5_6 lk_J0_335 im_J0_coder_7d493 se_J0_coder_7d493 rfl (by decide) hk (c_J0_coderD hk hc) (by decide) rfl rfl rfl (Nat.le_of_ble_eq_true rfl) (Nat.le_refl _) (Nat.le_refl _) ?_ (fun _ _ _ q => q.elim)
  rintro v t' M' ⟨rfl, rfl, rfl⟩
  refine xJ_ishrI hX dJ0_length_8abf5_9 hw (by decide) (by decide) ?_
  refine xJ_iret hX hB dJ0_length_8abf5_10 (Nat.le_refl _) (Nat.le_refl _) ⟨?_, rfl, rfl⟩
  show some (vi ((w : Int) / 2 ^ 0)) = _
  rw [show (2 : Int) ^ 0 = 1 from rfl, Int.ediv_one]
theorem c_J1_charAtD {i : Int} (hkb : xk t b = 13) (hn : xn t b = w) (hw : xR (w : Int)) (hi : xR i) (h0 : 0 ≤ i) (h1 : i < w) (hx : 32 ≤ M b i.toNat ∧ M b i.toNat < 127) : xCt G yJ1_charAt_3b067 cJ1_charAt_3b067 2 (some .char) 2 0 0 [vr b, vi i] t M (fun v t' M' => v = some (vi (M b i.toNat)) ∧ t' = t ∧ M' = M) (fun _ _ _ => False) := by
  refine xCt_of (L0 := [vr b, vi i]) (by decide +kernel) (Nat.le_of_ble_eq_true rfl) rfl ?_
  intro X hX hB
  refine xJ_iload_n hX dJ1_charAt_3b067_0 rfl ?_
  refine xJ_aload_n hX dJ1_charAt_3b067_1 rfl ?_
  refine xJ_alen hX dJ1_charAt_3b067_2 (by rw [hkb]; decide) (by rw [hkb]; decide) ?_
  rw [hn]
  refine xJ_callS (As := [vi i, vi (w : Int)]) hX hB dJ1_charAt_3b067_3 lk_J1_9 sm_J0_checkIndex_df160 (c_J0_checkIndex hi hw h0 h1) (by decide) rfl rfl rfl (Nat.le_of_ble_eq_true rfl) (Nat.le_refl _) (Nat.le_refl _) ?_ (fun _ _ _ q => q.elim)
  rintro v t' M' ⟨rfl, rfl, rfl⟩
  refine xJ_aload_n hX dJ1_charAt_3b067_6 rfl ?_
  refine xJ_iload_n hX dJ1_charAt_3b067_7 rfl ?_
  refine xJ_bald hX dJ1_charAt_3b067_8 hkb h0 (by rw [hn]; exact h1) ?_
  refine xJ_sipush hX dJ1_charAt_3b067_9 rfl ?_
  refine xJ_iand 8 hX dJ1_charAt_3b067_12 (by decide) (by decide) ?_
  rw [show M' b i.toNat % 2 ^ 8 = M' b i.toNat from Int.emod_eq_of_lt (by omega) (by omega)]
  refine xJ_i2c hX dJ1_charAt_3b067_13 hx.1 hx.2 ?_
  refine xJ_zret hX hB dJ1_charAt_3b067_14 ?_ (Nat.le_refl _) (Nat.le_refl _) ⟨rfl, rfl, rfl⟩
  show Value.int (Int32.ofInt _).toUInt32.toUInt16.toUInt32.toInt32 = _
  rw [xI_ch hx.1 hx.2]
  rfl
theorem c_J0_charAtD {i : Int} (hk : xk t a = 21) (hc : M a 1 = 0) (hr : xr t a 0 = some b) (hkb : xk t b = 13) (hn : xn t b = w) (hw : xR (w : Int)) (hi : xR i) (h0 : 0 ≤ i) (h1 : i < w) (hx : 32 ≤ M b i.toNat ∧ M b i.toNat < 127) : xCt G yJ0_charAt_5068e cJ0_charAt_5068e 2 (some .char) 3 0 0 [vr a, vi i] t M (fun v t' M' => v = some (vi (M b i.toNat)) ∧ t' = t ∧ M' = M) (fun _ _ _ => False) := by
  refine xCt_of (L0 := [vr a, vi i]) (by decide +kernel) (Nat.le_of_ble_eq_true rfl) rfl ?_
  intro X hX hB
  refine xJ_aload_n hX dJ0_charAt_5068e_0 rfl ?_
  refine xJ_callV (As := []) hX hB dJ0_charAt_5068e_1 lk_J0_492 im_J0_isLatin1_aae02 se_J0_isLatin1_aae02 rfl (by decide) hk (c_J0_isLatin1D hk hc) (by decide) rfl rfl rfl (Nat.le_of_ble_eq_true rfl) (Nat.le_refl _) (Nat.le_refl _) ?_ (fun _ _ _ q => q.elim)
  rintro v t' M' ⟨rfl, rfl, rfl⟩
  refine xJ_if_eq hX dJ0_charAt_5068e_4 (tgt := 16) (by decide) ⟨by decide, by decide⟩ (fun q => absurd q (by decide)) (fun _ => ?_)
  refine xJ_aload_n hX dJ0_charAt_5068e_7 rfl ?_
  refine xJ_getR (b := b) hX dJ0_charAt_5068e_8 fd_J0_9 rfl hk hr ?_
  refine xJ_iload_n hX dJ0_charAt_5068e_11 rfl ?_
  refine xJ_callS (As := [vr b, vi i]) hX hB dJ0_charAt_5068e_12 lk_J0_495 sm_J1_charAt_3b067 (c_J1_charAtD hkb hn hw hi h0 h1 hx) (by decide) rfl rfl rfl (Nat.le_of_ble_eq_true rfl) (Nat.le_refl _) (Nat.le_refl _) ?_ (fun _ _ _ q => q.elim)
  rintro v t' M' ⟨rfl, rfl, rfl⟩
  refine xJ_zret hX hB dJ0_charAt_5068e_15 ?_ (Nat.le_refl _) (Nat.le_refl _) ⟨rfl, rfl, rfl⟩
  show Value.int (Int32.ofInt _).toUInt32.toUInt16.toUInt32.toInt32 = _
  rw [xI_ch hx.1 hx.2]
  rfl
end XTD
/-- a text written into a row of bytes -/
def xtx (M : xMe) (v p w : Nat) (f : Nat → Int) : xMe := fun b j => if b = v ∧ p ≤ j ∧ j < p + w then f (j - p) else M b j
theorem xMR_tx {M : xMe} {v p w : Nat} {f : Nat → Int} (h : xMR M) (hf : ∀ j, j < w → xR (f j)) : xMR (xtx M v p w f) := fun b j => by
  unfold xtx; split
  · rename_i q; exact hf _ (by omega)
  · exact h b j
section XTE
variable {X : xCx} {own nm : String} {cc : ByteArray} {n d : Nat} {r : Option FieldType} {G : xGx} {cells slots mc ms : Nat} {t : xTh} {M : xMe} {pc : Nat} {L st : List Value} {Po : Option Value → xTh → xMe → Prop} {Px : String → xTh → xMe → Prop} {a w : Nat} {f : Nat → Int}
theorem xJ_tlen {idx : Nat} (h : xC X own nm cc n r d G) (hB : xB X mc ms Po Px) (dd : decode cc pc = .ok (.invokevirtual idx, 3)) (hl : xLk own idx yJ0_length_8abf5 cJ0_length_8abf5 1 (some .int) 0) (hLn : L.length = n) (hd : 8 ≤ d) (hst8 : (st.map fun v => v.category).sum ≤ 8) (hT : xIsT G t M a w f) (hc : cells ≤ mc) (hs' : slots ≤ ms) (k : xJ X cells slots t M (pc + 3) L (vi (w : Int) :: st)) : xJ X cells slots t M pc L (vr a :: st) := by
  have hw := xIsT_R hT
  rcases hT.2 with ⟨s, hs, rfl, e, -⟩ | ⟨hk, h0, b, hr, hkb, hn, -⟩
  · rw [e] at k
    exact xJ_strlen h hB dd hl hLn hd hst8 hs hc hs' k
  · refine xJ_callV (As := []) h hB dd hl im_J0_length_8abf5 se_J0_length_8abf5 rfl (by decide) hk (c_J0_lengthD hk h0 hr hkb hn hw) (by omega) hLn rfl rfl hst8 hc hs' ?_ (fun _ _ _ q => q.elim)
    rintro v t' M' ⟨rfl, rfl, rfl⟩
    exact k
theorem xJ_tchar {idx : Nat} {i : Int} (h : xC X own nm cc n r d G) (hB : xB X mc ms Po Px) (dd : decode cc pc = .ok (.invokevirtual idx, 3)) (hl : xLk own idx yJ0_charAt_5068e cJ0_charAt_5068e 2 (some .char) 1) (hLn : L.length = n) (hd : 8 ≤ d) (hst8 : (st.map fun v => v.category).sum ≤ 8) (hT : xIsT G t M a w f) (hi : xR i) (h0 : 0 ≤ i) (h1 : i < (w : Int)) (hc : cells ≤ mc) (hs' : slots ≤ ms) (k : xJ X cells slots t M (pc + 3) L (vi (f i.toNat) :: st)) : xJ X cells slots t M pc L (vi i :: vr a :: st) := by
  have hw := xIsT_R hT
  have hb := hT.1.1 i.toNat (by omega)
  rcases hT.2 with ⟨s, hs, rfl, e, g⟩ | ⟨hk, h00, b, hr, hkb, hn, g⟩
  · rw [g _ (by omega)] at k
    exact xJ_charAt h hB dd hl hLn hd hst8 hs hc hs' hi h0 (by omega) k
  · have eb := g i.toNat (by omega)
    refine xJ_callV (As := [vi i]) h hB dd hl im_J0_charAt_5068e se_J0_charAt_5068e rfl (by decide) hk (c_J0_charAtD hk h00 hr hkb hn hw hi h0 h1 (by rw [eb]; exact hb)) (by omega) hLn rfl rfl hst8 hc hs' ?_ (fun _ _ _ q => q.elim)
    rintro v t' M' ⟨rfl, rfl, rfl⟩
    rw [eb]
    exact k
theorem xJ_tcoder {idx : Nat} (h : xC X own nm cc n r d G) (hB : xB X mc ms Po Px) (dd : decode cc pc = .ok (.invokevirtual idx, 3)) (hl : xLk own idx yJ0_coder_7d493 cJ0_coder_7d493 1 (some .byte) 0) (hLn : L.length = n) (hd : 8 ≤ d) (hst8 : (st.map fun v => v.category).sum ≤ 8) (hT : xIsT G t M a w f) (hc : cells ≤ mc) (hs' : slots ≤ ms) (k : xJ X cells slots t M (pc + 3) L (vi 0 :: st)) : xJ X cells slots t M pc L (vr a :: st) := by
  rcases hT.2 with ⟨s, hs, rfl, e, -⟩ | ⟨hk, h0, b, hr, hkb, hn, -⟩
  · refine xJ_callL (As := []) h hB dd hl im_J0_coder_7d493 se_J0_coder_7d493 rfl hs (c_J0_coder hs) (by omega) hLn rfl rfl hst8 hc hs' ?_
    rintro v t' M' ⟨rfl, rfl, rfl⟩
    exact k
  · refine xJ_callV (As := []) h hB dd hl im_J0_coder_7d493 se_J0_coder_7d493 rfl (by decide) hk (c_J0_coderD hk h0) (by omega) hLn rfl rfl hst8 hc hs' ?_ (fun _ _ _ q => q.elim)
    rintro v t' M' ⟨rfl, rfl, rfl⟩
    exact k
end XTE
/-! THE BYTES OF A TEXT -/
def xIsB (G : xGx) (t : xTh) (M : xMe) (b w : Nat) (f : Nat → Int) : Prop :=
  ((∀ j, j < w → 32 ≤ f j ∧ f j < 127) ∧ w ≤ 1000) ∧
  ((∃ s, s < 31 ∧ b = G.2.2.2.2 s ∧ (w : Int) = xSl s ∧ ∀ j, j < w → f j = xSc s j) ∨ (xk t b = 13 ∧ xn t b = w ∧ ∀ j, j < w → M b j = f j))
theorem xE_upB {ca : Nat → ClassId} {t : xTh} {M : xMe} {a p w : Nat} {f : Nat → Int} (hk : xk t a = 13) : va_up (xE ca t M) a (.inl (ca 0, xn t a, .inl (va_cpy (fun i => Int32.ofInt (f i)) (fun i => Int32.ofInt (M a i)) 0 p w))) = xE ca t (xtx M a p w f) := by
  funext b
  by_cases hb : b = a
  · subst hb
    rw [va_up_self, xE_int hk (by decide) (by decide)]
    congr 4
    funext i
    simp only [va_cpy, xtx, true_and]
    by_cases hi : p ≤ i ∧ i < p + w
    · rw [if_pos hi, if_pos hi, Nat.zero_add]
    · rw [if_neg hi, if_neg hi]
  · rw [va_up_ne _ _ hb]
    exact (xE_off rfl rfl (fun _ => rfl) (fun _ => by simp [xtx, hb])).symm
section XTF
variable {X : xCx} {own nm : String} {cc : ByteArray} {n d : Nat} {r : Option FieldType} {G : xGx} {cells slots mc ms : Nat} {t : xTh} {M : xMe} {pc : Nat} {L st : List Value} {Po : Option Value → xTh → xMe → Prop} {Px : String → xTh → xMe → Prop} {a w : Nat} {f : Nat → Int}
theorem xJ_tval (h : xC X own nm cc n r d G) (ho : own = RJ0) (hT : xIsT G t M a w f) (dd : decode cc pc = .ok (.getfield 9, 3)) (k : ∀ b, xIsB G t M b w f → xJ X cells slots t M (pc + 3) L (vr b :: st)) : xJ X cells slots t M pc L (vr a :: st) := by
  rcases hT.2 with ⟨s, hs, rfl, e, g⟩ | ⟨hk, h0, b, hr, hkb, hn, g⟩
  · exact xJ_sfV h ho hs dd (k _ ⟨hT.1, Or.inl ⟨s, hs, rfl, e, g⟩⟩)
  · subst ho
    exact xJ_getR (b := b) h dd fd_J0_9 rfl hk hr (k _ ⟨hT.1, Or.inr ⟨hkb, hn, g⟩⟩)
theorem xJ_tblen {b : Nat} (h : xC X own nm cc n r d G) (hT : xIsB G t M b w f) (dd : decode cc pc = .ok (.arraylength, 1)) (k : xJ X cells slots t M (pc + 1) L (vi (w : Int) :: st)) : xJ X cells slots t M pc L (vr b :: st) := by
  rcases hT.2 with ⟨s, hs, rfl, e, g⟩ | ⟨hk, hn, g⟩
  · rw [e] at k
    exact xJ_slen h hs dd k
  · refine xJ_alen h dd (by rw [hk]; decide) (by rw [hk]; decide) ?_
    rw [hn]; exact k
theorem xIsB_cell {p : Program} {l : Launch} {s : State} {H : Heap} {locs : List Loc} {b : Nat} (hKn : xKn G s) (hS : va_S (xA G) s.heap H locs) (a2 : xRp G t M H locs) (hT : xIsB G t M b w f) : ∃ cs : Cell, H[b]? = some cs ∧ s.isArrayOf cs .byte ∧ cs.vm ≠ .unknown ∧ w ≤ cs.slots.size ∧ ∀ j, j < w → cs.slots[j]? = some (.int (Int32.ofInt (f j))) := by
  rcases hT.2 with ⟨q, hs, rfl, e, g⟩ | ⟨hk, hn, g⟩
  · obtain ⟨cs, h1, h2, h3, h4, h5, h6, h7⟩ := (hKn.2.2.2.2.2.2.2.2.2.1.1 q hs).2.2.2
    have ew : xLe.getD q 0 = w := by unfold xSl at e; omega
    rw [ew] at h4 h5 h6
    refine ⟨cs, by rw [hS.2.1 _ (Array.getElem?_eq_some_iff.mp h1).1 h7]; exact h1, h2, h3, h4, fun j hj => ?_⟩
    rw [h6 j hj, g j hj]
    unfold xSc
    rw [Int32.ofInt_toInt]
  · have hat := xRp_at a2 (a := b) (by omega)
    rw [xE_int hk (by decide) (by decide)] at hat
    have hat : H[b]? = some (arrV (G.2.1 0) (xn t b) (fun i => .int (Int32.ofInt (M b i)))) := hat
    refine ⟨_, hat, (hKn.1.2 0 _ rfl).1 (xn t b) _, (fun q => by cases q), by rw [arrV_size, hn]; exact Nat.le_refl _, fun j hj => ?_⟩
    rw [arrV_read _ _ (by omega), g j hj]
theorem xJ_copyB {idx b v : Nat} {p9 : Int} (h : xC X own nm cc n r d G) (hB : xB X mc ms Po Px) (dd : decode cc pc = .ok (.invokestatic idx, 3)) (hl : Cond.methodLink own idx arraycopyName ∈ xT) (hnat : Cond.native arraycopyName ∈ xT) (hsta : Cond.static arraycopyName ∈ xT) (hini : Cond.initialized "java/lang/System" ∈ xT) (hLn : L.length = n) (hd : 1 ≤ d) (hst8 : (st.map fun v => v.category).sum ≤ 8) (hT : xIsB G t M b w f) (hk : xk t v = 13) (h2 : 0 ≤ p9) (h5 : p9 + w ≤ xn t v) (hM : xMR M) (k : ∀ M', M' = xtx M v p9.toNat w f → xMR M' → xJ X cells slots t M' (pc + 3) L st) : xJ X cells slots t M pc L (vi (w : Int) :: vi p9 :: vr v :: vi 0 :: vr b :: st) := by
  have hMt := xMR_tx (v := v) (p := p9.toNat) hM (fun j hj => (⟨by have := hT.1.1 j hj; omega, by have := hT.1.1 j hj; omega⟩ : xR (f j)))
  obtain ⟨p, l, e, R, s, m, args, below, meth, c, G9, Po9, Px9, mc9, ms9⟩ := X
  obtain ⟨hx, hb, hml, hown, hts, hr, hlk, hKn, hSs, hnm, rfl, rfl, hst⟩ := h
  obtain ⟨rfl, rfl, rfl, rfl, hnil⟩ := hB
  intro H locs ls a1 a2 a3
  have g1 := a2.2.2.1 v
  obtain ⟨cs, hc0, hcs, hcu, hcn, hcv⟩ := xIsB_cell (p := p) (l := l) hKn (xSw hSs a1 a2.1) a2 hT
  have hat := xRp_at a2 (a := v) (by omega)
  rw [xE_int hk (by decide) (by decide)] at hat
  have hc1 : H[v]? = some (arrV (G9.2.1 0) (xn t v) (fun i => .int (Int32.ofInt (M v i)))) := hat
  obtain ⟨i1, j1⟩ := xI_ti (j := 0) (by decide) (by decide)
  obtain ⟨i2, j2⟩ := xI_ti h2 (by omega)
  obtain ⟨i3, j3⟩ := xI_ti (j := (w : Int)) (by omega) (by omega)
  obtain ⟨hns, k0, hk9, cm0, hkk0⟩ := hcs
  obtain ⟨-, k1, hk1, cm1, hkk1⟩ := (hKn.1.2 0 _ rfl).1 (xn t v) (fun i => .int (Int32.ofInt (M v i)))
  intro T hT9 Z
  obtain ⟨vm', X', step⟩ := Z.arraycopy hx hown (hts _ hl) (hts _ hnat) (hts _ hsta) (hts _ hini) (src := b) (dst := v) (srcPos := Int32.ofInt 0) (destPos := Int32.ofInt p9) (n := Int32.ofInt (w : Int)) (by rw [hT9]; exact hc0) (by rw [hT9]; exact hc1)
    hns (fun _ h => by cases h) hcu (fun h => by cases h) hk9 hk1 hkk0 hkk1 (by simp [refKind]) j1 j2 j3
    (by rw [xR_ti ⟨by omega, by omega⟩, xR_ti ⟨by omega, by omega⟩]; omega)
    (by rw [xR_ti ⟨by omega, by omega⟩, xR_ti ⟨by omega, by omega⟩, arrV_size]; omega)
    (fun vm₁ _ i hi => by
      rw [i3] at hi
      have e : cs.slots.getD ((Int32.ofInt 0).toNatClampNeg + i) .null = .int (Int32.ofInt (f i)) := by
        rw [i1, Array.getD_eq_getD_getElem?, show Int.toNat 0 + i = i by omega, hcv _ (by omega)]
        rfl
      refine ⟨?_, ?_⟩
      · rw [e]; exact xfy (by have := hT.1.1 i (by omega); omega) (by have := hT.1.1 i (by omega); omega)
      · rw [e]; exact trivial)
    (g := F0 m pc ls (vi (w : Int) :: vi p9 :: vr v :: vi 0 :: vr b :: st)) rfl (by rw [hml]; exact a3.1.trans hLn) (rest := st) rfl (by rw [hb]; exact dd) (show 1 ≤ d from hd) (by show 2 * 0 + _ + (7 + 11) ≤ 64 * d; omega)
  have e1 : copied cs (arrV (G9.2.1 0) (xn t v) (fun i => .int (Int32.ofInt (M v i)))) (Int32.ofInt 0) (Int32.ofInt p9) (Int32.ofInt (w : Int)) = arrV (G9.2.1 0) (xn t v) (fun j => .int (va_cpy (fun i => Int32.ofInt (f i)) (fun i => Int32.ofInt (M v i)) 0 p9.toNat w j)) := by
    have e9 := va_copiedX (fun z => Value.int z) cs (G9.2.1 0) (n0 := w) (n1 := xn t v) (sp := 0) (dp := p9.toNat) (n := w) (fun i => Int32.ofInt (f i)) (fun i => Int32.ofInt (M v i)) hcv (by omega)
    rw [← e9]
    unfold copied
    rw [i1, i2, i3]
    rfl
  rw [e1] at X' step
  have hl9 : v < H.size := (Array.getElem?_eq_some_iff.mp hc1).1
  generalize hce : arrV (G9.2.1 0) (xn t v) (fun j => Value.int (va_cpy (fun i => Int32.ofInt (f i)) (fun i => Int32.ofInt (M v i)) 0 p9.toNat w j)) = ce at X' step
  have hheap : ((T.setVm vm').setCell v ce).heap = H.setIfInBounds v ce := by rw [← hT9]; rfl
  have oq : ∀ q : Nat, q ≠ v → (H.setIfInBounds v ce)[q]? = H[q]? := fun q hq => by simp [Array.getElem?_setIfInBounds, Ne.symm hq]
  have hz : (H.setIfInBounds v ce).size = H.size := by simp
  have hup := xRp_upd (k := 0) (e' := .inl (G9.2.1 0, xn t v, .inl (va_cpy (fun i => Int32.ofInt (f i)) (fun i => Int32.ofInt (M v i)) 0 p9.toNat w))) (a := v) (xRp_nil a2) (by omega) hz oq (show (H.setIfInBounds v ce)[v]? = some _ by simp [Array.getElem?_setIfInBounds, hl9]; rw [← hce]; rfl) (xE_upB (p := p9.toNat) (w := w) (f := f) hk) rfl (fun _ => rfl) (fun _ => rfl)
  obtain ⟨t2, b1, b2⟩ := k _ rfl hMt _ _ ls (by rw [hz]; exact a1) (xRp_loc (xRp_nil hup) (fun q hq => by
      rcases List.mem_append.mp hq with h | h
      · exact a2.1.2.2 q h
      · obtain ⟨z, -, hz2⟩ := List.mem_map.mp h
        rw [← hz2]
        exact hup.1.2.2 ⟨v, 0⟩ List.mem_cons_self)) a3 _ hheap X'
  exact ⟨t2, step t2 b1, b2⟩
end XTF
/-- String.getBytes(byte[], int, byte) -/
theorem c_J0_getBytes {G : xGx} {t : xTh} {M : xMe} {a w v : Nat} {f : Nat → Int} {p9 : Int} (hT : xIsT G t M a w f) (hk : xk t v = 13) (h2 : 0 ≤ p9) (hp : xR p9) (h5 : p9 + w ≤ xn t v) (hM : xMR M) : xCt G yJ0_getBytes_840e7 cJ0_getBytes_840e7 4 none 9 0 0 [vr a, vr v, vi p9, vi 0] t M (fun v9 t' M' => v9 = none ∧ t' = t ∧ M' = xtx M v p9.toNat w f ∧ xMR M') (fun _ _ _ => False) := by
  refine xCt_of (L0 := [vr a, vr v, vi p9, vi 0]) (by decide +kernel) (Nat.le_of_ble_eq_true rfl) rfl ?_
  intro X hX hB
  refine xJ_aload_n hX dJ0_getBytes_840e7_0 rfl ?_
  refine xJ_tcoder hX hB dJ0_getBytes_840e7_1 lk_J0_335 rfl (by decide) (Nat.le_of_ble_eq_true rfl) hT (Nat.le_refl _) (Nat.le_refl _) ?_
  refine xJ_iload_n hX dJ0_getBytes_840e7_4 rfl ?_
  refine xJ_icmp_ne hX dJ0_getBytes_840e7_5 (tgt := 28) (by decide) ⟨by decide, by decide⟩ ⟨by decide, by decide⟩ (fun q => absurd rfl q) (fun _ => ?_)
  refine xJ_aload_n hX dJ0_getBytes_840e7_8 rfl ?_
  refine xJ_tval hX rfl hT dJ0_getBytes_840e7_9 (fun b hb => ?_)
  refine xJ_iconst hX dJ0_getBytes_840e7_12 ?_
  refine xJ_aload_n hX dJ0_getBytes_840e7_13 rfl ?_
  refine xJ_iload_n hX dJ0_getBytes_840e7_14 rfl ?_
  refine xJ_iload_n hX dJ0_getBytes_840e7_15 rfl ?_
  refine xJ_ishl0 hX dJ0_getBytes_840e7_16 hp rfl ?_
  refine xJ_aload_n hX dJ0_getBytes_840e7_17 rfl ?_
  refine xJ_tval hX rfl hT dJ0_getBytes_840e7_18 (fun b' hb' => ?_)
  refine xJ_tblen hX hb' dJ0_getBytes_840e7_21 ?_
  refine xJ_copyB hX hB dJ0_getBytes_840e7_22 lj_J0_212 jw_cp_nat jw_cp_st jw_cp_in rfl (by decide) (Nat.le_of_ble_eq_true rfl) hb hk h2 h5 hM (fun M' e hM' => ?_)
  refine xJ_goto hX dJ0_getBytes_840e7_25 (tgt := 43) (by decide) ?_
  exact xJ_vret hX hB dJ0_getBytes_840e7_43 (Nat.le_refl _) (Nat.le_refl _) ⟨rfl, rfl, e, hM'⟩
set_option maxRecDepth 100000 in
theorem fs5_compact : Cond.fieldLink RJ5 18 "java/lang/String" "COMPACT_STRINGS" "Z" ∈ xT := List.mem_filter.mpr ⟨List.mem_append_right _ (List.mem_of_getElem? (i := 1259) rfl), by rfl⟩
set_option maxRecDepth 100000 in
theorem fs6_ones : Cond.fieldLink RJ6 83 "java/lang/Integer" "DigitOnes" "[B" ∈ xT := List.mem_filter.mpr ⟨List.mem_append_right _ (List.mem_of_getElem? (i := 1385) rfl), by rfl⟩
set_option maxRecDepth 100000 in
theorem fs6_tens : Cond.fieldLink RJ6 87 "java/lang/Integer" "DigitTens" "[B" ∈ xT := List.mem_filter.mpr ⟨List.mem_append_right _ (List.mem_of_getElem? (i := 1387) rfl), by rfl⟩
set_option maxRecDepth 100000 in
theorem wclB_link : Cond.methodLink RJ7 310 ⟨"[B", "clone", "()Ljava/lang/Object;"⟩ ∈ xT := List.mem_filter.mpr ⟨List.mem_append_right _ (List.mem_of_getElem? (i := 1312) rfl), by rfl⟩
set_option maxRecDepth 100000 in
theorem wclB_same : Cond.sameMethod "[B" "java/lang/Object" "clone" "()Ljava/lang/Object;" ∈ xT := List.mem_filter.mpr ⟨List.mem_append_right _ (List.mem_of_getElem? (i := 1313) rfl), by rfl⟩
set_option maxRecDepth 100000 in
theorem wclB_sel : Cond.selects "[B" ⟨"[B", "clone", "()Ljava/lang/Object;"⟩ ⟨"java/lang/Object", "clone", "()Ljava/lang/Object;"⟩ ∈ xT := List.mem_filter.mpr ⟨List.mem_append_right _ (List.mem_of_getElem? (i := 1314) rfl), by rfl⟩
section XTG
variable {X : xCx} {own nm : String} {cc : ByteArray} {n d : Nat} {r : Option FieldType} {G : xGx} {cells slots mc ms : Nat} {t : xTh} {M : xMe} {pc : Nat} {L st : List Value} {Po : Option Value → xTh → xMe → Prop} {Px : String → xTh → xMe → Prop}
theorem xJ_gcomp5 (h : xC X own nm cc n r d G) (ho : own = RJ5) (dd : decode cc pc = .ok (.getstatic 18, 3)) (k : xJ X cells slots t M (pc + 3) L (vi 1 :: st)) : xJ X cells slots t M pc L st := by
  subst ho
  obtain ⟨p, l, e, R, s, m, args, below, meth, c, G9, Po9, Px9, mc9, ms9⟩ := X
  obtain ⟨hx, hb, hml, hown, hts, hr, hlk, hKn, hSs, hnm, rfl, rfl, hst⟩ := h
  intro H locs ls a1 a2 a3
  exact va_gets hx hb hKn.2.2.2.2.2.2.2.2.1.1 (xSw hSs a1 a2.1) hown (hts _ fs5_compact) (fun _ h => h) dd (k H locs ls a1 a2 a3)
theorem xJ_gdig0 (h : xC X own nm cc n r d G) (ho : own = RJ6) (dd : decode cc pc = .ok (.getstatic 83, 3)) (k : xJ X cells slots t M (pc + 3) L (vr (G.2.2.2.2 100) :: st)) : xJ X cells slots t M pc L st := by
  subst ho
  obtain ⟨p, l, e, R, s, m, args, below, meth, c, G9, Po9, Px9, mc9, ms9⟩ := X
  obtain ⟨hx, hb, hml, hown, hts, hr, hlk, hKn, hSs, hnm, rfl, rfl, hst⟩ := h
  intro H locs ls a1 a2 a3
  exact va_gets hx hb hKn.2.2.2.2.2.2.2.2.1.2.2.1.1 (xSw hSs a1 a2.1) hown (hts _ fs6_ones) (fun _ h => h) dd (k H locs ls a1 a2 a3)
theorem xJ_gdig1 (h : xC X own nm cc n r d G) (ho : own = RJ6) (dd : decode cc pc = .ok (.getstatic 87, 3)) (k : xJ X cells slots t M (pc + 3) L (vr (G.2.2.2.2 101) :: st)) : xJ X cells slots t M pc L st := by
  subst ho
  obtain ⟨p, l, e, R, s, m, args, below, meth, c, G9, Po9, Px9, mc9, ms9⟩ := X
  obtain ⟨hx, hb, hml, hown, hts, hr, hlk, hKn, hSs, hnm, rfl, rfl, hst⟩ := h
  intro H locs ls a1 a2 a3
  exact va_gets hx hb hKn.2.2.2.2.2.2.2.2.1.2.2.2.1.1 (xSw hSs a1 a2.1) hown (hts _ fs6_tens) (fun _ h => h) dd (k H locs ls a1 a2 a3)
theorem xJ_dig0 {i : Int} (h : xC X own nm cc n r d G) (ho : own = RJ6) (dd : decode cc pc = .ok (.baload, 1)) (h0 : 0 ≤ i) (h1 : i < 100) (k : xJ X cells slots t M (pc + 1) L (vi (48 + i % 10) :: st)) : xJ X cells slots t M pc L (vi i :: vr (G.2.2.2.2 100) :: st) := by
  obtain ⟨p, l, e, R, s, m, args, below, meth, c, G9, Po9, Px9, mc9, ms9⟩ := X
  obtain ⟨hx, hb, hml, hown, hts, hr, hlk, hKn, hSs, hnm, rfl, rfl, hst⟩ := h
  intro H locs ls a1 a2 a3
  obtain ⟨e1, e2⟩ := xI_ti (j := i) h0 (by omega)
  refine va_tb hx hb hKn.2.2.2.2.2.2.2.2.1.2.2.1.2 (xSw hSs a1 a2.1) (v := vi (48 + i % 10)) ?_ ?_ dd (k H locs ls a1 a2 a3)
  · rintro (q | q)
    · exact e2 q
    · rw [e1] at q; omega
  · rw [e1]
    show vi ((48 + i.toNat % 10 : Nat) : Int) = _
    congr 1
    omega
theorem xJ_dig1 {i : Int} (h : xC X own nm cc n r d G) (ho : own = RJ6) (dd : decode cc pc = .ok (.baload, 1)) (h0 : 0 ≤ i) (h1 : i < 100) (k : xJ X cells slots t M (pc + 1) L (vi (48 + i / 10) :: st)) : xJ X cells slots t M pc L (vi i :: vr (G.2.2.2.2 101) :: st) := by
  obtain ⟨p, l, e, R, s, m, args, below, meth, c, G9, Po9, Px9, mc9, ms9⟩ := X
  obtain ⟨hx, hb, hml, hown, hts, hr, hlk, hKn, hSs, hnm, rfl, rfl, hst⟩ := h
  intro H locs ls a1 a2 a3
  obtain ⟨e1, e2⟩ := xI_ti (j := i) h0 (by omega)
  refine va_tb hx hb hKn.2.2.2.2.2.2.2.2.1.2.2.2.1.2 (xSw hSs a1 a2.1) (v := vi (48 + i / 10)) ?_ ?_ dd (k H locs ls a1 a2 a3)
  · rintro (q | q)
    · exact e2 q
    · rw [e1] at q; omega
  · rw [e1]
    show vi ((48 + i.toNat / 10 : Nat) : Int) = _
    congr 1
    omega
theorem xR_d0 {i : Int} (h0 : 0 ≤ i) (h1 : i < 100) : xR (48 + i % 10) := ⟨by omega, by omega⟩
theorem xR_d1 {i : Int} (h0 : 0 ≤ i) (h1 : i < 100) : xR (48 + i / 10) := ⟨by omega, by omega⟩
theorem xJ_gvar (h : xC X own nm cc n r d G) (ho : own = RX12) (dd : decode cc pc = .ok (.getstatic 50, 3)) (k : xJ X cells slots t M (pc + 3) L (vr (G.2.2.2.2 102) :: st)) : xJ X cells slots t M pc L st := by
  subst ho
  obtain ⟨p, l, e, R, s, m, args, below, meth, c, G9, Po9, Px9, mc9, ms9⟩ := X
  obtain ⟨hx, hb, hml, hown, hts, hr, hlk, hKn, hSs, hnm, rfl, rfl, hst⟩ := h
  intro H locs ls a1 a2 a3
  exact va_getsN hx hb (host := "PacketTollLaw") hKn.2.2.2.2.2.2.2.2.1.2.2.2.2.1 (xSw hSs a1 a2.1) hown (va_Nw.use rfl hKn.2.2.2.2.2.2.2.2.1.2.2.2.2.2.2.2) (fun _ h => h) dd (k H locs ls a1 a2 a3)
theorem xJ_vara {i : Int} (h : xC X own nm cc n r d G) (dd : decode cc pc = .ok (.aaload, 1)) (h0 : 0 ≤ i) (h1 : i < 4) (k : xJ X cells slots t M (pc + 1) L (vr (G.2.2.2.1 ([9, 1, 10, 11].getD i.toNat 0)) :: st)) : xJ X cells slots t M pc L (vi i :: vr (G.2.2.2.2 102) :: st) := by
  obtain ⟨p, l, e, R, s, m, args, below, meth, c, G9, Po9, Px9, mc9, ms9⟩ := X
  obtain ⟨hx, hb, hml, hown, hts, hr, hlk, hKn, hSs, hnm, rfl, rfl, hst⟩ := h
  intro H locs ls a1 a2 a3
  obtain ⟨e1, e2⟩ := xI_ti (j := i) h0 (by omega)
  refine vb_tq hx hb hKn.2.2.2.2.2.2.2.2.1.2.2.2.2.2.1 (xSw hSs a1 a2.1) (v := vr (G9.2.2.2.1 ([9, 1, 10, 11].getD i.toNat 0))) ?_ ?_ dd (k H locs ls a1 a2 a3)
  · rintro (q | q)
    · exact e2 q
    · rw [e1] at q; omega
  · rw [e1]
theorem xJ_ishr0 {x y : Int} (h : xC X own nm cc n r d G) (dd : decode cc pc = .ok (.ishr, 1)) (hx9 : xR x) (hy : y = 0) (k : xJ X cells slots t M (pc + 1) L (vi x :: st)) : xJ X cells slots t M pc L (vi y :: vi x :: st) := by
  subst hy
  refine xJ_ishrI h dd hx9 (by decide) (by decide) ?_
  rw [show x / 2 ^ (0 : Int).toNat = x from by show x / 2 ^ 0 = x; rw [show (2 : Int) ^ 0 = 1 from rfl, Int.ediv_one]]
  exact k
theorem xJ_tget {idx a w v : Nat} {f : Nat → Int} {p9 : Int} (h : xC X own nm cc n r d G) (hB : xB X mc ms Po Px) (dd : decode cc pc = .ok (.invokevirtual idx, 3)) (hl : xLk own idx yJ0_getBytes_840e7 cJ0_getBytes_840e7 4 none 3) (hLn : L.length = n) (hd : 10 ≤ d) (hst8 : (st.map fun v => v.category).sum ≤ 8) (hT : xIsT G t M a w f) (hk : xk t v = 13) (hp : xR p9) (h2 : 0 ≤ p9) (h5 : p9 + w ≤ (xn t v : Int)) (hM : xMR M) (hc : cells ≤ mc) (hs' : slots ≤ ms) (k : ∀ M', M' = xtx M v p9.toNat w f → xMR M' → xJ X cells slots t M' (pc + 3) L st) : xJ X cells slots t M pc L (vi 0 :: vi p9 :: vr v :: vr a :: st) := by
  rcases hT.2 with ⟨s, hs, rfl, e, -⟩ | ⟨hk0, -⟩
  · refine xJ_callL (As := [vr v, vi p9, vi 0]) h hB dd hl im_J0_getBytes_840e7 se_J0_getBytes_840e7 rfl hs (c_J0_getBytes hT hk h2 hp h5 hM) (by omega) hLn rfl rfl hst8 hc hs' ?_
    rintro v t' M' ⟨rfl, rfl, e', hM'⟩
    exact k _ e' hM'
  · refine xJ_callV (As := [vr v, vi p9, vi 0]) h hB dd hl im_J0_getBytes_840e7 se_J0_getBytes_840e7 rfl (by decide) hk0 (c_J0_getBytes hT hk h2 hp h5 hM) (by omega) hLn rfl rfl hst8 hc hs' ?_ (fun _ _ _ q => q.elim)
    rintro v t' M' ⟨rfl, rfl, e', hM'⟩
    exact k _ e' hM'
theorem xJ_newYE {nn : Int} (h : xC X own nm cc n r d G) (hB : xB X mc ms Po Px) (hM : xMR M) (dd : decode cc pc = .ok (.newarray .byte, 2)) (hw : Cond.arrayClass .byte ∈ xT) (h0 : 0 ≤ nn) (h1 : nn ≤ 1000000) (hc : cells + 1 ≤ mc) (hs : slots + nn.toNat ≤ ms)
    (k : ∀ a t' M', a = xz t → t' = xnw t 13 nn.toNat → M' = xw0 M a → xMR M' → xke t t' → xk t' a = 13 → xJ X (cells + 1) (slots + nn.toNat) t' M' (pc + 2) L (vr a :: st)) : xJ X cells slots t M pc L (vi nn :: st) :=
  xJ_live fun hl => xJ_newY h hB dd hw h0 h1 hc hs (k _ _ _ rfl rfl rfl (xMR_n0 hM) (xke_nw hl rfl) (xkN_k rfl))
/-- byte[].clone() -/
theorem xJ_cloneB {idx a : Nat} (h : xC X own nm cc n r d G) (hB : xB X mc ms Po Px) (dd : decode cc pc = .ok (.invokevirtual idx, 3)) (hlink : Cond.methodLink own idx ⟨"[B", "clone", "()Ljava/lang/Object;"⟩ ∈ xT) (hsame : Cond.sameMethod "[B" "java/lang/Object" "clone" "()Ljava/lang/Object;" ∈ xT)
    (hnat : Cond.native ⟨"java/lang/Object", "clone", "()Ljava/lang/Object;"⟩ ∈ xT) (hinst : Cond.instanceMethod ⟨"java/lang/Object", "clone", "()Ljava/lang/Object;"⟩ ∈ xT)
    (hsel : Cond.selects "[B" ⟨"[B", "clone", "()Ljava/lang/Object;"⟩ ⟨"java/lang/Object", "clone", "()Ljava/lang/Object;"⟩ ∈ xT) (hLn : L.length = n) (hd : 1 ≤ d) (hst8 : (st.map fun v => v.category).sum ≤ 8) (hk : xk t a = 13) (hby : ∀ i, i < xn t a → -128 ≤ M a i ∧ M a i < 128) (hc : cells + 1 ≤ mc) (hs : slots + xn t a ≤ ms)
    (k : ∀ t', t' = xnw t 13 (xn t a) → xJ X (cells + 1) (slots + xn t a) t' (xcl M a (xz t)) (pc + 3) L (vr (xz t) :: st)) : xJ X cells slots t M pc L (vr a :: st) := by
  obtain ⟨p, l, e, R, s, m, args, below, meth, c, G9, Po9, Px9, mc9, ms9⟩ := X
  obtain ⟨hx, hb, hml, hown, hts, hr, hlk, hKn, hSs, hnm, rfl, rfl, hst⟩ := h
  obtain ⟨rfl, rfl, rfl, rfl, hnil⟩ := hB
  intro H locs ls a1 a2 a3
  have h3 := a2.2.2.1 a
  have hat := xRp_at a2 (a := a) (by omega)
  rw [xE_int hk (by decide) (by decide)] at hat
  have hat : H[a]? = some (arrV (G9.2.1 0) (xn t a) (fun i => .int (Int32.ofInt (M a i)))) := hat
  have hnm1 : s.vm.findClass ("[" ++ (FieldType.byte).toString) = some (G9.2.1 0) := (hKn.1.2 0 _ rfl).2
  have hnm2 : s.vm.findClass "[B" = some (G9.2.1 0) := hnm1
  obtain ⟨c0, t0', f1, f2, f3⟩ := Cond.castable_spec (va_Nw.use (A := args) rfl (hKn.2.2.2.2.1 _ (show Cond.castable "[B" "java/lang/Cloneable" ∈ xOn from List.mem_append_left _ (List.mem_map.mpr ⟨("[B", "java/lang/Cloneable"), by decide +kernel, rfl⟩))))
  cases hnm2.symm.trans f1
  have hcz : (arrV (G9.2.1 0) (xn t a) (fun i => Value.int (Int32.ofInt (M a i)))).slots.size = xn t a := arrV_size _ _ _
  intro T hT X9
  have hcellT : T.heap[a]? = some (arrV (G9.2.1 0) (xn t a) (fun i => .int (Int32.ofInt (M a i)))) := by rw [hT]; exact hat
  obtain ⟨-, kA, hkA, comp, hkind⟩ := State.isArrayOf_alike X9.warmed.alike ((hKn.1.2 0 _ rfl).1 0 (fun _ => .null))
  obtain ⟨-, kS, hkS, compS, hkindS⟩ := (hKn.1.2 0 _ rfl).1 0 (fun _ => .null)
  obtain ⟨vm', X', stp⟩ := X9.cloneArray hx hown (hts _ hlink) (hts _ hsame) (hts _ hnat) (hts _ hinst) (hts _ hsel) (a := a) (cell := arrV (G9.2.1 0) (xn t a) (fun i => .int (Int32.ofInt (M a i)))) hcellT (fun k h => by cases h) (fun h => by cases h) hnm2 f2 f3
    (fun i v hv => by
      have hk' : T.vm.classes[G9.2.1 0]? = some kA := hkA
      have hfi : fits .byte v = true := by
        by_cases hi : i < xn t a
        · rw [arrV_read _ _ hi] at hv
          cases hv; exact xfy (hby i hi).1 (hby i hi).2
        · rw [Array.getElem?_eq_none (by rw [arrV_size]; omega)] at hv
          cases hv
      show T.fitsSlot (G9.2.1 0) _ _ _ = true
      simpa [State.fitsSlot, State.slotType?, hk', hkind] using hfi)
    (g := F0 m pc ls (.ref a :: st)) rfl (by rw [hml]; exact a3.1.trans hLn) rfl (by rw [hb]; exact dd) (show 1 ≤ d from hd) (by show 2 * 0 + _ + 14 ≤ 64 * d; omega) hc (by rw [hcz]; exact hs) (hloader := Vm.clonesLoader_of_array hkS hkindS)
  have hcellE : ({ cls := (arrV (G9.2.1 0) (xn t a) (fun i => Value.int (Int32.ofInt (M a i)))).cls, slots := (arrV (G9.2.1 0) (xn t a) (fun i => Value.int (Int32.ofInt (M a i)))).slots } : Cell) = arrV (G9.2.1 0) (xn t a) (fun i => .int (Int32.ofInt (M a i))) := rfl
  rw [hcellE, hcz] at X'
  generalize hH1 : H.push (arrV (G9.2.1 0) (xn t a) (fun i => Value.int (Int32.ofInt (M a i)))) = H1
  have z1 : H1.size = H.size + 1 := by rw [← hH1, Array.size_push]
  have e1 : H1[H.size]? = some (arrV (G9.2.1 0) (xn t a) (fun i => .int (Int32.ofInt (M a i)))) := by rw [← hH1, Array.getElem?_push_size]
  have o1 : ∀ q : Nat, q < H.size → H1[q]? = H[q]? := fun q hq => by rw [← hH1, Array.getElem?_push, if_neg (Nat.ne_of_lt hq)]
  have hz := a2.2.1
  obtain ⟨t2, b1, b2⟩ := k _ rfl H1 locs ls (by omega) (by
    obtain ⟨c1, c2, c3, Ld, c4, c5, c6⟩ := id a2
    have hup : xRp G9 (xnw t 13 (xn t a)) (xcl M a (xz t)) H1 locs := by
      refine xRp_newM a2 (by decide) h3 z1 o1 (M' := xcl M a (xz t)) (fun b hb => by unfold xcl; funext j; rw [if_neg hb]) ?_
      rw [xE_int (ki := 13) (by simp [xk, xnw]) (by decide) (by decide), xn_new, show (fun j => Int32.ofInt (xcl M a (xz t) (xz t) j)) = fun j => Int32.ofInt (M a j) from funext fun j => by simp [xcl]]
      exact e1
    exact hup) a3 _ (by rw [← hH1, ← hT]; rfl) X'
  refine ⟨t2, ?_, b2⟩
  rw [hz.symm] at b1
  refine stp t2 ?_
  rw [hT]
  exact b1
theorem xJ_cloneBE {idx a : Nat} (h : xC X own nm cc n r d G) (hB : xB X mc ms Po Px) (hM : xMR M) (dd : decode cc pc = .ok (.invokevirtual idx, 3)) (hlink : Cond.methodLink own idx ⟨"[B", "clone", "()Ljava/lang/Object;"⟩ ∈ xT) (hsame : Cond.sameMethod "[B" "java/lang/Object" "clone" "()Ljava/lang/Object;" ∈ xT)
    (hnat : Cond.native ⟨"java/lang/Object", "clone", "()Ljava/lang/Object;"⟩ ∈ xT) (hinst : Cond.instanceMethod ⟨"java/lang/Object", "clone", "()Ljava/lang/Object;"⟩ ∈ xT)
    (hsel : Cond.selects "[B" ⟨"[B", "clone", "()Ljava/lang/Object;"⟩ ⟨"java/lang/Object", "clone", "()Ljava/lang/Object;"⟩ ∈ xT) (hLn : L.length = n) (hd : 1 ≤ d) (hst8 : (st.map fun v => v.category).sum ≤ 8) (hk : xk t a = 13) (hby : ∀ i, i < xn t a → -128 ≤ M a i ∧ M a i < 128) (hc : cells + 1 ≤ mc) (hs : slots + xn t a ≤ ms)
    (k : ∀ b t' M', b = xz t → t' = xnw t 13 (xn t a) → M' = xcl M a b → xMR M' → xke t t' → xk t' b = 13 → xJ X (cells + 1) (slots + xn t a) t' M' (pc + 3) L (vr b :: st)) : xJ X cells slots t M pc L (vr a :: st) :=
  xJ_live fun hl => xJ_cloneB h hB dd hlink hsame hnat hinst hsel hLn hd hst8 hk hby hc hs (fun t' e => k _ _ _ rfl e rfl (xMR_cl hM) (xke_nw hl e) (xkN_k e))
end XTG
theorem xJ_ccB {X : xCx} {own nm : String} {cc : ByteArray} {n d : Nat} {r : Option FieldType} {G : xGx} {cells slots : Nat} {t : xTh} {M : xMe} {pc : Nat} {L st : List Value} {idx a : Nat} (h : xC X own nm cc n r d G) (dd : decode cc pc = .ok (.checkcast idx, 3)) (hw : Cond.classLink own idx "[B" ∈ xT) (hk : xk t a = 13) (k : xJ X cells slots t M (pc + 3) L (vr a :: st)) : xJ X cells slots t M pc L (vr a :: st) := by
  obtain ⟨p, l, e, R, s, m, args, below, meth, c, G9, Po9, Px9, mc9, ms9⟩ := X
  obtain ⟨hx, hb, hml, hown, hts, hr, hlk, hKn, hSs, hnm, rfl, rfl, hst⟩ := h
  intro H locs ls a1 a2 a3
  obtain ⟨b1, b2, b3, Ld, b4, b5, b6⟩ := id a2
  obtain ⟨q0, hq0⟩ := va_pl_get (X := []) (f := xE G9.2.1 t M) ((b4 a).mpr (by omega))
  rw [xE_int hk (by decide) (by decide)] at hq0
  have f1 : s.vm.findClass ("[" ++ (FieldType.byte).toString) = some (G9.2.1 0) := (hKn.1.2 0 _ rfl).2
  exact va_castA (D := G9.1) (cl := vwCl) hx hb hown (hts _ hw) b5 q0 hq0 f1 dd (k H locs ls a1 a2 a3)
theorem xE_upY {ca : Nat → ClassId} {t : xTh} {M : xMe} {a0 a sp dp n : Nat} (hk : xk t a = 13) : va_up (xE ca t M) a (.inl (ca 0, xn t a, .inl (va_cpy (fun i => Int32.ofInt (M a0 i)) (fun i => Int32.ofInt (M a i)) sp dp n))) = xE ca t (xcp M a0 a sp dp n) := by
  funext b
  by_cases hb : b = a
  · subst hb
    rw [va_up_self, xE_int hk (by decide) (by decide)]
    congr 4
    funext i
    simp only [va_cpy, xcp, if_true]
    by_cases hi : dp ≤ i ∧ i < dp + n
    · rw [if_pos hi, if_pos hi]
    · rw [if_neg hi, if_neg hi]
  · rw [va_up_ne _ _ hb]
    exact (xE_off rfl rfl (fun _ => rfl) (fun _ => by simp [xcp, hb])).symm
section XTH
variable {X : xCx} {own nm : String} {cc : ByteArray} {n d : Nat} {r : Option FieldType} {G : xGx} {cells slots mc ms : Nat} {t : xTh} {M : xMe} {pc : Nat} {L st : List Value} {Po : Option Value → xTh → xMe → Prop} {Px : String → xTh → xMe → Prop}
theorem xJ_copyY0 {idx a0 a : Nat} {sp dp nn : Int} (h : xC X own nm cc n r d G) (hB : xB X mc ms Po Px) (dd : decode cc pc = .ok (.invokestatic idx, 3)) (hl : Cond.methodLink own idx arraycopyName ∈ xT) (hnat : Cond.native arraycopyName ∈ xT) (hsta : Cond.static arraycopyName ∈ xT) (hini : Cond.initialized "java/lang/System" ∈ xT) (hLn : L.length = n) (hd : 1 ≤ d) (hst8 : (st.map fun v => v.category).sum ≤ 8) (hk0 : xk t a0 = 13) (hk : xk t a = 13) (h1 : 0 ≤ sp) (h2 : 0 ≤ dp) (h3 : 0 ≤ nn) (h4 : sp + nn ≤ xn t a0) (h5 : dp + nn ≤ xn t a) (hby : ∀ i : Nat, (i : Int) < nn → -128 ≤ M a0 (sp.toNat + i) ∧ M a0 (sp.toNat + i) < 128) (k : xJ X cells slots t (xcp M a0 a sp.toNat dp.toNat nn.toNat) (pc + 3) L st) : xJ X cells slots t M pc L (vi nn :: vi dp :: vr a :: vi sp :: vr a0 :: st) := by
  obtain ⟨p, l, e, R, s, m, args, below, meth, c, G9, Po9, Px9, mc9, ms9⟩ := X
  obtain ⟨hx, hb, hml, hown, hts, hr, hlk, hKn, hSs, hnm, rfl, rfl, hst⟩ := h
  obtain ⟨rfl, rfl, rfl, rfl, hnil⟩ := hB
  intro H locs ls a1 a2 a3
  have g0 := a2.2.2.1 a0
  have g1 := a2.2.2.1 a
  have hat0 := xRp_at a2 (a := a0) (by omega)
  have hat := xRp_at a2 (a := a) (by omega)
  rw [xE_int hk0 (by decide) (by decide)] at hat0
  rw [xE_int hk (by decide) (by decide)] at hat
  have hc0 : H[a0]? = some (arrV (G9.2.1 0) (xn t a0) (fun i => .int (Int32.ofInt (M a0 i)))) := hat0
  have hc1 : H[a]? = some (arrV (G9.2.1 0) (xn t a) (fun i => .int (Int32.ofInt (M a i)))) := hat
  obtain ⟨i1, j1⟩ := xI_ti h1 (by omega)
  obtain ⟨i2, j2⟩ := xI_ti h2 (by omega)
  obtain ⟨i3, j3⟩ := xI_ti h3 (by omega)
  obtain ⟨-, k0, hk9, cm0, hkk0⟩ := (hKn.1.2 0 _ rfl).1 (xn t a0) (fun i => .int (Int32.ofInt (M a0 i)))
  obtain ⟨-, k1, hk1, cm1, hkk1⟩ := (hKn.1.2 0 _ rfl).1 (xn t a) (fun i => .int (Int32.ofInt (M a i)))
  intro T hT Z
  obtain ⟨vm', X', step⟩ := Z.arraycopy hx hown (hts _ hl) (hts _ hnat) (hts _ hsta) (hts _ hini) (src := a0) (dst := a) (srcPos := Int32.ofInt sp) (destPos := Int32.ofInt dp) (n := Int32.ofInt nn) (by rw [hT]; exact hc0) (by rw [hT]; exact hc1)
    (fun _ h => by cases h) (fun _ h => by cases h) (fun h => by cases h) (fun h => by cases h) hk9 hk1 hkk0 hkk1 (by simp [refKind]) j1 j2 j3
    (by rw [xR_ti ⟨by omega, by omega⟩, xR_ti ⟨by omega, by omega⟩, arrV_size]; omega)
    (by rw [xR_ti ⟨by omega, by omega⟩, xR_ti ⟨by omega, by omega⟩, arrV_size]; omega)
    (fun vm₁ _ i hi => by
      rw [i3] at hi
      have e : (arrV (G9.2.1 0) (xn t a0) (fun i => .int (Int32.ofInt (M a0 i)))).slots.getD ((Int32.ofInt sp).toNatClampNeg + i) .null = .int (Int32.ofInt (M a0 (sp.toNat + i))) := by
        rw [i1, Array.getD_eq_getD_getElem?, arrV_read _ _ (by omega)]
        rfl
      refine ⟨?_, ?_⟩
      · rw [e]; exact xfy (hby i (by omega)).1 (hby i (by omega)).2
      · rw [e]; exact trivial)
    (g := F0 m pc ls (vi nn :: vi dp :: vr a :: vi sp :: vr a0 :: st)) rfl (by rw [hml]; exact a3.1.trans hLn) (rest := st) rfl (by rw [hb]; exact dd) (show 1 ≤ d from hd) (by show 2 * 0 + _ + (7 + 11) ≤ 64 * d; omega)
  have e1 : copied (arrV (G9.2.1 0) (xn t a0) (fun i => .int (Int32.ofInt (M a0 i)))) (arrV (G9.2.1 0) (xn t a) (fun i => .int (Int32.ofInt (M a i)))) (Int32.ofInt sp) (Int32.ofInt dp) (Int32.ofInt nn) = arrV (G9.2.1 0) (xn t a) (fun j => .int (va_cpy (fun i => Int32.ofInt (M a0 i)) (fun i => Int32.ofInt (M a i)) sp.toNat dp.toNat nn.toNat j)) := by
    have e9 := va_copied (fun z => Value.int z) (G9.2.1 0) (G9.2.1 0) (n0 := xn t a0) (n1 := xn t a) (sp := sp.toNat) (dp := dp.toNat) (n := nn.toNat) (fun i => Int32.ofInt (M a0 i)) (fun i => Int32.ofInt (M a i)) (by omega)
    rw [← e9, ← i1, ← i2, ← i3]
  rw [e1] at X' step
  have hl9 : a < H.size := (Array.getElem?_eq_some_iff.mp hc1).1
  generalize hce : arrV (G9.2.1 0) (xn t a) (fun j => Value.int (va_cpy (fun i => Int32.ofInt (M a0 i)) (fun i => Int32.ofInt (M a i)) sp.toNat dp.toNat nn.toNat j)) = ce at X' step
  have hheap : ((T.setVm vm').setCell a ce).heap = H.setIfInBounds a ce := by rw [← hT]; rfl
  have oq : ∀ q : Nat, q ≠ a → (H.setIfInBounds a ce)[q]? = H[q]? := fun q hq => by simp [Array.getElem?_setIfInBounds, Ne.symm hq]
  have hz : (H.setIfInBounds a ce).size = H.size := by simp
  have hup := xRp_upd (k := 0) (e' := .inl (G9.2.1 0, xn t a, .inl (va_cpy (fun i => Int32.ofInt (M a0 i)) (fun i => Int32.ofInt (M a i)) sp.toNat dp.toNat nn.toNat))) (a := a) (xRp_nil a2) (by omega) hz oq (show (H.setIfInBounds a ce)[a]? = some _ by simp [Array.getElem?_setIfInBounds, hl9]; rw [← hce]; rfl) (xE_upY (a0 := a0) (sp := sp.toNat) (dp := dp.toNat) (n := nn.toNat) hk) rfl (fun _ => rfl) (fun _ => rfl)
  obtain ⟨t2, b1, b2⟩ := k _ _ ls (by rw [hz]; exact a1) (xRp_loc (xRp_nil hup) (fun q hq => by
      rcases List.mem_append.mp hq with h | h
      · exact a2.1.2.2 q h
      · obtain ⟨z, -, hz2⟩ := List.mem_map.mp h
        rw [← hz2]
        exact hup.1.2.2 ⟨a, 0⟩ List.mem_cons_self)) a3 _ hheap X'
  exact ⟨t2, step t2 b1, b2⟩
theorem xJ_copyY {idx a0 a : Nat} {sp dp nn : Int} (h : xC X own nm cc n r d G) (hB : xB X mc ms Po Px) (dd : decode cc pc = .ok (.invokestatic idx, 3)) (hl : Cond.methodLink own idx arraycopyName ∈ xT) (hnat : Cond.native arraycopyName ∈ xT) (hsta : Cond.static arraycopyName ∈ xT) (hini : Cond.initialized "java/lang/System" ∈ xT) (hLn : L.length = n) (hd : 1 ≤ d) (hst8 : (st.map fun v => v.category).sum ≤ 8) (hk0 : xk t a0 = 13) (hk : xk t a = 13) (h1 : 0 ≤ sp) (h2 : 0 ≤ dp) (h3 : 0 ≤ nn) (h4 : sp + nn ≤ xn t a0) (h5 : dp + nn ≤ xn t a) (hby : ∀ i : Nat, (i : Int) < nn → -128 ≤ M a0 (sp.toNat + i) ∧ M a0 (sp.toNat + i) < 128) (hM : xMR M) (k : ∀ M', M' = xcp M a0 a sp.toNat dp.toNat nn.toNat → xMR M' → xJ X cells slots t M' (pc + 3) L st) : xJ X cells slots t M pc L (vi nn :: vi dp :: vr a :: vi sp :: vr a0 :: st) :=
  xJ_copyY0 h hB dd hl hnat hsta hini hLn hd hst8 hk0 hk h1 h2 h3 h4 h5 hby (k _ rfl (xMR_cp hM))
theorem xJ_putFI0 {a idx ci j N : Nat} {C : String} {T : u_T} {ty : Nat → FieldType} {x : Int} (h : xC X own nm cc n r d G) (dd : decode cc pc = .ok (.putfield idx, 3)) (hf : xFd own idx ci j C T N) (hty : xFt C T N ty) (hi : (xFr.getD ci [])[j]? = some false) (hfin : (T j).2.2.2 = true) (hin2 : nm = "<init>") (hCo : C = own) (hDC : (T j).1 = C) (hn : narrow (ty j) (vi x) = vi x) (hfit : fits (ty j) (vi x) = true) (hk : xk t a = ci) (k : xJ X cells slots t (xw M a j x) (pc + 3) L st) : xJ X cells slots t M pc L (vi x :: vr a :: st) := by
  obtain ⟨p, l, e, R, s, m, args, below, meth, c, G9, Po, Px, mc, ms⟩ := X
  obtain ⟨hx, hb, hml, hown, hts, hr, hlk, hKn, hSs, hnm, hR, hG, hst⟩ := h
  obtain ⟨f1, f2, f3, f4, f5, f6, f7⟩ := hf
  subst hG
  intro H locs ls a1 a2 a3
  have hat := xRp_at a2 (a := a) (by omega)
  rw [xE_obj hk f2] at hat
  obtain ⟨r9, h1, cell, q1, q2, q3, q4⟩ := hat
  have hr9 : r9 = (C, T, N) := Option.some.inj (h1.symm.trans f1)
  subst hr9
  obtain ⟨hS, hfc, kC, hkC, hkind⟩ := hKn.1.1 ci _ f1
  obtain ⟨cf, kf, fi, f, hi9, hsl⟩ := hS j f3
  have hap := va_apart (own := own) hts f7 ty hty.1 hty.2 hKn.1 f1
  have hlay := hts _ (f7 _ (u_in_lay f3))
  unfold u_lay at hlay
  rw [if_pos hfin] at hlay
  have hst9 := (u_facts hfc hkC (u_lays hts f7 f3) hi9).1
  have hcf : m.cls = cf := by
    obtain ⟨_, _, c', _, _, _, -, -, hf', -, -, -, hown2, -⟩ := Cond.laysFinal_spec hlay
    have e1 : c' = cf := by have := hi9.symm.trans hf'; simp at this; exact this.1.symm
    rw [hDC, hCo] at hown2
    rw [← e1]; exact Option.some.inj (hown.symm.trans hown2)
  have h6 := u_fits hfc hkC hkind (Or.inr hlay) hi9 (hty.1 j f3) hn hfit
  refine W.putFinK hx hb hown (hts _ f4) (hi9) hst9 hcf (hnm.trans hin2) (by rw [q2]; exact h6) q1 q3 (by rw [hsl]; exact k2_hasslot (q4 j f3)) rfl rfl dd fun H' e1 e2 e3 => ?_
  rw [hsl] at e1 ⊢
  refine k H' _ ls (by rw [e2]; exact a1) (xRp_upd (e' := .inr (ci, (xfl ci t M a).set j (vi x))) (a := a) a2 (by rw [hk]; omega) e2 e3 ⟨_, f1, t_OB.to (V := updV (vp_V (xfl ci t M a)) j (vi x)) ⟨_, e1, q2, q3, t_set q4 hap f3 _⟩ (fun j _ => vp_updV_set (by rw [xfl_len, f6]; exact f3) _ j)⟩ (xE_upI hk f2 hi) rfl (fun _ => rfl) (fun _ => rfl)) a3
theorem xJ_putFI {a idx ci j N : Nat} {C : String} {T : u_T} {ty : Nat → FieldType} {x : Int} (h : xC X own nm cc n r d G) (dd : decode cc pc = .ok (.putfield idx, 3)) (hf : xFd own idx ci j C T N) (hty : xFt C T N ty) (hi : (xFr.getD ci [])[j]? = some false) (hfin : (T j).2.2.2 = true) (hin2 : nm = "<init>") (hCo : C = own) (hDC : (T j).1 = C) (hn : narrow (ty j) (vi x) = vi x) (hfit : fits (ty j) (vi x) = true) (hk : xk t a = ci) (hM : xMR M) (hv : xR x) (k : ∀ M', M' = xw M a j x → xMR M' → xJ X cells slots t M' (pc + 3) L st) : xJ X cells slots t M pc L (vi x :: vr a :: st) :=
  xJ_putFI0 h dd hf hty hi hfin hin2 hCo hDC hn hfit hk (k _ rfl (xMR_w hM hv))
theorem xJ_putFE {a idx ci j N : Nat} {C : String} {T : u_T} {ty : Nat → FieldType} {x : Option Nat} (h : xC X own nm cc n r d G) (dd : decode cc pc = .ok (.putfield idx, 3)) (hf : xFd own idx ci j C T N) (hty : xFt C T N ty) (hi : (xFr.getD ci [])[j]? = some true) (hfin : (T j).2.2.2 = true) (hin2 : nm = "<init>") (hCo : C = own) (hDC : (T j).1 = C) (hn : narrow (ty j) (va_rf x) = va_rf x) (hfit : fits (ty j) (va_rf x) = true) (hk : xk t a = ci) (k : ∀ t', t' = xwr t a j x → xke t t' → xJ X cells slots t' M (pc + 3) L st) : xJ X cells slots t M pc L (va_rf x :: vr a :: st) :=
  xJ_putF h dd hf hty hi hfin hin2 hCo hDC hn hfit hk (k _ rfl (xke_wr rfl))
end XTH
