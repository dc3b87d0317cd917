/-! whole numbers as the machine has them -/
def xR (x : Int) : Prop := -2147483648 ≤ x ∧ x < 2147483648
theorem xR_0 : xR 0 := ⟨by decide, by decide⟩
theorem xR_ti {x : Int} (h : xR x) : (Int32.ofInt x).toInt = x := Int32.toInt_ofInt_of_le h.1 h.2
theorem xR_eq {x y : Int} (h : xR x) (g : xR y) : (Int32.ofInt x = Int32.ofInt y) ↔ x = y := ⟨fun q => by rw [← xR_ti h, ← xR_ti g, q], fun q => by rw [q]⟩
theorem xR_ne {x y : Int} (h : xR x) (g : xR y) : (Int32.ofInt x ≠ Int32.ofInt y) ↔ x ≠ y := not_congr (xR_eq h g)
theorem xR_lt {x y : Int} (h : xR x) (g : xR y) : (Int32.ofInt x < Int32.ofInt y) ↔ x < y := by rw [Int32.lt_iff_toInt_lt, xR_ti h, xR_ti g]
theorem xR_ge {x y : Int} (h : xR x) (g : xR y) : (Int32.ofInt x ≥ Int32.ofInt y) ↔ y ≤ x := by show Int32.ofInt y ≤ Int32.ofInt x ↔ _; rw [Int32.le_iff_toInt_le, xR_ti h, xR_ti g]
theorem xR_gt {x y : Int} (h : xR x) (g : xR y) : (Int32.ofInt x > Int32.ofInt y) ↔ y < x := by show Int32.ofInt y < Int32.ofInt x ↔ _; rw [Int32.lt_iff_toInt_lt, xR_ti h, xR_ti g]
theorem xR_le {x y : Int} (h : xR x) (g : xR y) : (Int32.ofInt x ≤ Int32.ofInt y) ↔ x ≤ y := by rw [Int32.le_iff_toInt_le, xR_ti h, xR_ti g]
/-! A METHOD'S WALK over the picture: the machine stands at pc with locals L and stack st, the heap holds t and M -/
abbrev xCx : Type := Program × Launch × Env × Room × State × MethodId × Array Value × List Frame × Method × Code × xGx × (Option Value → xTh → xMe → Prop) × (String → xTh → xMe → Prop) × Nat × Nat
def xQ (G : xGx) (Po : Option Value → xTh → xMe → Prop) : Array Value → State → Outcome → State → Prop := fun _ _ o u => ∃ (v : Option Value) (t : xTh) (M : xMe), o = .returned v ∧ Po v t M ∧ xRp G t M u.heap []
def xX (G : xGx) (Px : String → xTh → xMe → Prop) : String → State → State → Prop := fun E _ u => ∃ (t : xTh) (M : xMe), Px E t M ∧ xRp G t M u.heap []
def xJ (X : xCx) (cells slots : Nat) (t : xTh) (M : xMe) (pc : Nat) (L st : List Value) : Prop := match X with
  | (p, l, e, R, s, m, args, below, meth, c, G, Po, Px, mc, ms) => ∀ (H : Heap) (locs : List Loc) (ls : Array Slot), s.heap.size ≤ H.size → xRp G t M H locs → xLv ls L →
      W p l e R s m args below meth c H locs cells slots (vx_MQ below (xQ G Po) (xX G Px) args s mc ms (xA G)) (F0 m pc ls st)
def xT : List Cond := lw_tbl.filter goodWord
def xRm (d mc ms : Nat) : Room := { frames := d, cells := mc, slots := ms, locals := 64 * d }
def xWs (y : MethodName) (cc : ByteArray) (n : Nat) (r : Option FieldType) : List Cond := Cond.code y cc n r :: xT
/-- what a method's walk knows of its place: its name y, its code cc of n locals, its answer's type r, the depth d, what may be made -/
def xC (X : xCx) (own : String) (nm : String) (cc : ByteArray) (n : Nat) (r : Option FieldType) (d : Nat) (G : xGx) : Prop := match X with
  | (p, l, _, R, s, m, args, _, meth, c, G', _, _, mc, ms) => p.tables.exec = Jvm.exec ∧ c.code = cc ∧ c.maxLocals = n ∧ s.vm.findClass own = some m.cls ∧ (∀ w ∈ xT, w.before args s = true) ∧
      meth.sig.returnType = r ∧ meth.locks = false ∧ xKn G s ∧ (va_S (xA G) G.2.2.1 s.heap []) ∧ meth.name = nm ∧ R = xRm d mc ms ∧ G' = G ∧ l.stackTraces = false
def xMc (X : xCx) : Nat := X.2.2.2.2.2.2.2.2.2.2.2.2.2.1
def xMs (X : xCx) : Nat := X.2.2.2.2.2.2.2.2.2.2.2.2.2.2
def xPo (X : xCx) : Option Value → xTh → xMe → Prop := X.2.2.2.2.2.2.2.2.2.2.2.1
def xPx (X : xCx) : String → xTh → xMe → Prop := X.2.2.2.2.2.2.2.2.2.2.2.2.1
def xHn (X : xCx) : List ExceptionTableEntry := X.2.2.2.2.2.2.2.2.2.1.exceptionTable.toList
theorem vi_ret (x : Int) : ∀ n, vi x ≠ .retAddr n := fun n h => by unfold vi at h; cases h
theorem vl_ret (x : Int) : ∀ n, vl x ≠ .retAddr n := fun n h => by unfold vl at h; cases h
theorem vr_ret (x : Nat) : ∀ n, vr x ≠ .retAddr n := fun n h => by unfold vr at h; cases h
theorem rf_ret (x : Option Nat) : ∀ n, va_rf x ≠ .retAddr n := fun n h => by cases x <;> cases h
section XR
variable {X : xCx} {own nm : String} {cc : ByteArray} {n d : Nat} {r : Option FieldType} {G : xGx} {cells slots : Nat} {t : xTh} {M : xMe} {pc : Nat} {L st : List Value}
theorem xJ_eq {pc2 : Nat} {L2 st2 : List Value} (e1 : pc = pc2) (e2 : L = L2) (e3 : st = st2) (k : xJ X cells slots t M pc2 L2 st2) : xJ X cells slots t M pc L st := by subst e1; subst e2; subst e3; exact k
theorem xJ_widen {k9 n9 : Nat} (h1 : cells ≤ k9) (h2 : slots ≤ n9) (k : xJ X k9 n9 t M pc L st) : xJ X cells slots t M pc L st := by
  obtain ⟨p, l, e, R, s, m, args, below, meth, c, G, Po, Px, mc, ms⟩ := X
  intro H locs ls a1 a2 a3
  exact W.widen h1 h2 (k H locs ls a1 a2 a3)
theorem xJ_iconst {i9 : Int} (h : xC X own nm cc n r d G) (dd : decode cc pc = .ok (.iconst i9, 1)) (k : xJ X cells slots t M (pc + 1) L (vi i9 :: st)) : xJ X cells slots t M pc L st := by
  obtain ⟨p, l, e, R, s, m, args, below, meth, c, G9, Po, Px, mc, ms⟩ := X
  obtain ⟨hx, hb, hml, hown, hts, hr, hlk, hKn, hSs, hnm, hR, hG, hst⟩ := h
  intro H locs ls a1 a2 a3
  exact lv_iconst hx hb dd rfl (k H locs ls a1 a2 a3)
theorem xJ_bipush {i9 : Int} (h : xC X own nm cc n r d G) (dd : decode cc pc = .ok (.bipush i9, 2)) (hi : (Int8.ofInt i9).toInt32 = Int32.ofInt i9) (k : xJ X cells slots t M (pc + 2) L (vi i9 :: st)) : xJ X cells slots t M pc L st := by
  obtain ⟨p, l, e, R, s, m, args, below, meth, c, G9, Po, Px, mc, ms⟩ := X
  obtain ⟨hx, hb, hml, hown, hts, hr, hlk, hKn, hSs, hnm, hR, hG, hst⟩ := h
  intro H locs ls a1 a2 a3
  exact lv_bipush hx hb dd hi (k H locs ls a1 a2 a3)
theorem xJ_sipush {i9 : Int} (h : xC X own nm cc n r d G) (dd : decode cc pc = .ok (.sipush i9, 3)) (hi : (Int16.ofInt i9).toInt32 = Int32.ofInt i9) (k : xJ X cells slots t M (pc + 3) L (vi i9 :: st)) : xJ X cells slots t M pc L st := by
  obtain ⟨p, l, e, R, s, m, args, below, meth, c, G9, Po, Px, mc, ms⟩ := X
  obtain ⟨hx, hb, hml, hown, hts, hr, hlk, hKn, hSs, hnm, hR, hG, hst⟩ := h
  intro H locs ls a1 a2 a3
  exact lv_sipush hx hb dd hi (k H locs ls a1 a2 a3)
theorem xJ_lconst {i9 : Fin 2} (h : xC X own nm cc n r d G) (dd : decode cc pc = .ok (.lconst i9, 1)) (k : xJ X cells slots t M (pc + 1) L (vl ((i9 : Nat) : Int) :: st)) : xJ X cells slots t M pc L st := by
  obtain ⟨p, l, e, R, s, m, args, below, meth, c, G9, Po, Px, mc, ms⟩ := X
  obtain ⟨hx, hb, hml, hown, hts, hr, hlk, hKn, hSs, hnm, hR, hG, hst⟩ := h
  intro H locs ls a1 a2 a3
  exact lv_lconst hx hb dd ((show ∀ i : Fin 2, Int64.ofNat (i : Nat) = Int64.ofInt ((i : Nat) : Int) by decide) i9) (k H locs ls a1 a2 a3)
theorem xJ_iload_n {x : Int} {k9 : Fin 4} (h : xC X own nm cc n r d G) (dd : decode cc pc = .ok (.iload_n k9, 1)) (hL : L[(k9 : Nat)]? = some (vi x)) (k : xJ X cells slots t M (pc + 1) L (vi x :: st)) : xJ X cells slots t M pc L st := by
  obtain ⟨p, l, e, R, s, m, args, below, meth, c, G9, Po, Px, mc, ms⟩ := X
  obtain ⟨hx, hb, hml, hown, hts, hr, hlk, hKn, hSs, hnm, hR, hG, hst⟩ := h
  intro H locs ls a1 a2 a3
  exact lv_iload_n hx hb dd rfl (xLv_at a3 hL (vi_ret x)) (k H locs ls a1 a2 a3)
theorem xJ_iload {x : Int} {k9 : Nat} (h : xC X own nm cc n r d G) (dd : decode cc pc = .ok (.iload k9, 2)) (hL : L[k9]? = some (vi x)) (k : xJ X cells slots t M (pc + 2) L (vi x :: st)) : xJ X cells slots t M pc L st := by
  obtain ⟨p, l, e, R, s, m, args, below, meth, c, G9, Po, Px, mc, ms⟩ := X
  obtain ⟨hx, hb, hml, hown, hts, hr, hlk, hKn, hSs, hnm, hR, hG, hst⟩ := h
  intro H locs ls a1 a2 a3
  exact lv_iload hx hb dd (xLv_at a3 hL (vi_ret x)) (k H locs ls a1 a2 a3)
theorem xJ_istore_n {x : Int} {k9 : Fin 4} (h : xC X own nm cc n r d G) (dd : decode cc pc = .ok (.istore_n k9, 1)) (hi : (k9 : Nat) < L.length) (ho : xok L (k9 : Nat) = true) (k : xJ X cells slots t M (pc + 1) (L.set (k9 : Nat) (vi x)) st) : xJ X cells slots t M pc L (vi x :: st) := by
  obtain ⟨p, l, e, R, s, m, args, below, meth, c, G9, Po, Px, mc, ms⟩ := X
  obtain ⟨hx, hb, hml, hown, hts, hr, hlk, hKn, hSs, hnm, hR, hG, hst⟩ := h
  intro H locs ls a1 a2 a3
  exact lv_istore_n hx hb dd rfl (xLv_has a3) hi rfl (fun ls' h9 => k H locs ls' a1 a2 (xLv_set1 h9 hi ho))
theorem xJ_istore {x : Int} {k9 : Nat} (h : xC X own nm cc n r d G) (dd : decode cc pc = .ok (.istore k9, 2)) (hi : (k9 : Nat) < L.length) (ho : xok L (k9 : Nat) = true) (k : xJ X cells slots t M (pc + 2) (L.set (k9 : Nat) (vi x)) st) : xJ X cells slots t M pc L (vi x :: st) := by
  obtain ⟨p, l, e, R, s, m, args, below, meth, c, G9, Po, Px, mc, ms⟩ := X
  obtain ⟨hx, hb, hml, hown, hts, hr, hlk, hKn, hSs, hnm, hR, hG, hst⟩ := h
  intro H locs ls a1 a2 a3
  exact lv_istore hx hb dd (xLv_has a3) hi rfl (fun ls' h9 => k H locs ls' a1 a2 (xLv_set1 h9 hi ho))
theorem xJ_lload_n {x : Int} {k9 : Fin 4} (h : xC X own nm cc n r d G) (dd : decode cc pc = .ok (.lload_n k9, 1)) (hL : L[(k9 : Nat)]? = some (vl x)) (k : xJ X cells slots t M (pc + 1) L (vl x :: st)) : xJ X cells slots t M pc L st := by
  obtain ⟨p, l, e, R, s, m, args, below, meth, c, G9, Po, Px, mc, ms⟩ := X
  obtain ⟨hx, hb, hml, hown, hts, hr, hlk, hKn, hSs, hnm, hR, hG, hst⟩ := h
  intro H locs ls a1 a2 a3
  exact lv_lload_n hx hb dd rfl (xLv_at a3 hL (vl_ret x)) (k H locs ls a1 a2 a3)
theorem xJ_lload {x : Int} {k9 : Nat} (h : xC X own nm cc n r d G) (dd : decode cc pc = .ok (.lload k9, 2)) (hL : L[k9]? = some (vl x)) (k : xJ X cells slots t M (pc + 2) L (vl x :: st)) : xJ X cells slots t M pc L st := by
  obtain ⟨p, l, e, R, s, m, args, below, meth, c, G9, Po, Px, mc, ms⟩ := X
  obtain ⟨hx, hb, hml, hown, hts, hr, hlk, hKn, hSs, hnm, hR, hG, hst⟩ := h
  intro H locs ls a1 a2 a3
  exact lv_lload hx hb dd (xLv_at a3 hL (vl_ret x)) (k H locs ls a1 a2 a3)
theorem xJ_lstore_n {x : Int} {k9 : Fin 4} (h : xC X own nm cc n r d G) (dd : decode cc pc = .ok (.lstore_n k9, 1)) (hi : (k9 : Nat) + 1 < L.length) (ho : xok L (k9 : Nat) = true) (k : xJ X cells slots t M (pc + 1) ((L.set (k9 : Nat) (vl x)).set ((k9 : Nat) + 1) vU) st) : xJ X cells slots t M pc L (vl x :: st) := by
  obtain ⟨p, l, e, R, s, m, args, below, meth, c, G9, Po, Px, mc, ms⟩ := X
  obtain ⟨hx, hb, hml, hown, hts, hr, hlk, hKn, hSs, hnm, hR, hG, hst⟩ := h
  intro H locs ls a1 a2 a3
  exact lv_lstore_n hx hb dd rfl (xLv_has a3) hi rfl (fun ls' h9 => k H locs ls' a1 a2 (xLv_set2 h9 hi ho))
theorem xJ_lstore {x : Int} {k9 : Nat} (h : xC X own nm cc n r d G) (dd : decode cc pc = .ok (.lstore k9, 2)) (hi : (k9 : Nat) + 1 < L.length) (ho : xok L (k9 : Nat) = true) (k : xJ X cells slots t M (pc + 2) ((L.set (k9 : Nat) (vl x)).set ((k9 : Nat) + 1) vU) st) : xJ X cells slots t M pc L (vl x :: st) := by
  obtain ⟨p, l, e, R, s, m, args, below, meth, c, G9, Po, Px, mc, ms⟩ := X
  obtain ⟨hx, hb, hml, hown, hts, hr, hlk, hKn, hSs, hnm, hR, hG, hst⟩ := h
  intro H locs ls a1 a2 a3
  exact lv_lstore hx hb dd (xLv_has a3) hi rfl (fun ls' h9 => k H locs ls' a1 a2 (xLv_set2 h9 hi ho))
theorem xJ_aload_n {x : Nat} {k9 : Fin 4} (h : xC X own nm cc n r d G) (dd : decode cc pc = .ok (.aload_n k9, 1)) (hL : L[(k9 : Nat)]? = some (vr x)) (k : xJ X cells slots t M (pc + 1) L (vr x :: st)) : xJ X cells slots t M pc L st := by
  obtain ⟨p, l, e, R, s, m, args, below, meth, c, G9, Po, Px, mc, ms⟩ := X
  obtain ⟨hx, hb, hml, hown, hts, hr, hlk, hKn, hSs, hnm, hR, hG, hst⟩ := h
  intro H locs ls a1 a2 a3
  exact lv_aload_n hx hb dd rfl (xLv_at a3 hL (vr_ret x)) (k H locs ls a1 a2 a3)
theorem xJ_aload {x : Nat} {k9 : Nat} (h : xC X own nm cc n r d G) (dd : decode cc pc = .ok (.aload k9, 2)) (hL : L[k9]? = some (vr x)) (k : xJ X cells slots t M (pc + 2) L (vr x :: st)) : xJ X cells slots t M pc L st := by
  obtain ⟨p, l, e, R, s, m, args, below, meth, c, G9, Po, Px, mc, ms⟩ := X
  obtain ⟨hx, hb, hml, hown, hts, hr, hlk, hKn, hSs, hnm, hR, hG, hst⟩ := h
  intro H locs ls a1 a2 a3
  exact lv_aload hx hb dd (xLv_at a3 hL (vr_ret x)) (k H locs ls a1 a2 a3)
theorem xJ_astore_n {x : Nat} {k9 : Fin 4} (h : xC X own nm cc n r d G) (dd : decode cc pc = .ok (.astore_n k9, 1)) (hi : (k9 : Nat) < L.length) (ho : xok L (k9 : Nat) = true) (k : xJ X cells slots t M (pc + 1) (L.set (k9 : Nat) (vr x)) st) : xJ X cells slots t M pc L (vr x :: st) := by
  obtain ⟨p, l, e, R, s, m, args, below, meth, c, G9, Po, Px, mc, ms⟩ := X
  obtain ⟨hx, hb, hml, hown, hts, hr, hlk, hKn, hSs, hnm, hR, hG, hst⟩ := h
  intro H locs ls a1 a2 a3
  exact lv_astore_n hx hb dd rfl (xLv_has a3) hi rfl (fun ls' h9 => k H locs ls' a1 a2 (xLv_set1 h9 hi ho))
theorem xJ_astore {x : Nat} {k9 : Nat} (h : xC X own nm cc n r d G) (dd : decode cc pc = .ok (.astore k9, 2)) (hi : (k9 : Nat) < L.length) (ho : xok L (k9 : Nat) = true) (k : xJ X cells slots t M (pc + 2) (L.set (k9 : Nat) (vr x)) st) : xJ X cells slots t M pc L (vr x :: st) := by
  obtain ⟨p, l, e, R, s, m, args, below, meth, c, G9, Po, Px, mc, ms⟩ := X
  obtain ⟨hx, hb, hml, hown, hts, hr, hlk, hKn, hSs, hnm, hR, hG, hst⟩ := h
  intro H locs ls a1 a2 a3
  exact lv_astore hx hb dd (xLv_has a3) hi rfl (fun ls' h9 => k H locs ls' a1 a2 (xLv_set1 h9 hi ho))
theorem xJ_iinc {x i9 : Int} {k9 : Nat} (h : xC X own nm cc n r d G) (dd : decode cc pc = .ok (.iinc k9 i9, 3)) (hL : L[k9]? = some (vi x)) (ho : xok L k9 = true) (k : xJ X cells slots t M (pc + 3) (L.set k9 (vi (x + i9))) st) : xJ X cells slots t M pc L st := by
  obtain ⟨p, l, e, R, s, m, args, below, meth, c, G9, Po, Px, mc, ms⟩ := X
  obtain ⟨hx, hb, hml, hown, hts, hr, hlk, hKn, hSs, hnm, hR, hG, hst⟩ := h
  intro H locs ls a1 a2 a3
  have hi : k9 < L.length := (List.getElem?_eq_some_iff.mp hL).1
  obtain ⟨j9, hj9⟩ := List.getElem?_of_mem (xas_in hL (vi_ret x))
  exact lv_iinc hx hb dd (xLv_has a3) hj9 (Int32.ofInt_add x i9).symm hi rfl (fun ls' h9 => k H locs ls' a1 a2 (xLv_set1 (v := vi (x + i9)) h9 hi ho))
theorem xJ_iadd {x y : Int} (h : xC X own nm cc n r d G) (dd : decode cc pc = .ok (.iadd, 1)) (k : xJ X cells slots t M (pc + 1) L (vi (x + y) :: st)) : xJ X cells slots t M pc L (vi y :: vi x :: st) := by
  obtain ⟨p, l, e, R, s, m, args, below, meth, c, G9, Po, Px, mc, ms⟩ := X
  obtain ⟨hx, hb, hml, hown, hts, hr, hlk, hKn, hSs, hnm, hR, hG, hst⟩ := h
  intro H locs ls a1 a2 a3
  have k' := k H locs ls a1 a2 a3
  rw [show vi (x + y) = .int (Int32.ofInt x + Int32.ofInt y) from congrArg Value.int (Int32.ofInt_add x y)] at k'
  exact lv_iadd hx hb dd k'
theorem xJ_isub {x y : Int} (h : xC X own nm cc n r d G) (dd : decode cc pc = .ok (.isub, 1)) (k : xJ X cells slots t M (pc + 1) L (vi (x - y) :: st)) : xJ X cells slots t M pc L (vi y :: vi x :: st) := by
  obtain ⟨p, l, e, R, s, m, args, below, meth, c, G9, Po, Px, mc, ms⟩ := X
  obtain ⟨hx, hb, hml, hown, hts, hr, hlk, hKn, hSs, hnm, hR, hG, hst⟩ := h
  intro H locs ls a1 a2 a3
  have k' := k H locs ls a1 a2 a3
  rw [show vi (x - y) = .int (Int32.ofInt x - Int32.ofInt y) from congrArg Value.int (Int32.ofInt_sub x y)] at k'
  exact lv_isub hx hb dd k'
theorem xJ_imul {x y : Int} (h : xC X own nm cc n r d G) (dd : decode cc pc = .ok (.imul, 1)) (k : xJ X cells slots t M (pc + 1) L (vi (x * y) :: st)) : xJ X cells slots t M pc L (vi y :: vi x :: st) := by
  obtain ⟨p, l, e, R, s, m, args, below, meth, c, G9, Po, Px, mc, ms⟩ := X
  obtain ⟨hx, hb, hml, hown, hts, hr, hlk, hKn, hSs, hnm, hR, hG, hst⟩ := h
  intro H locs ls a1 a2 a3
  have k' := k H locs ls a1 a2 a3
  rw [show vi (x * y) = .int (Int32.ofInt x * Int32.ofInt y) from congrArg Value.int (Int32.ofInt_mul x y)] at k'
  exact lv_imul hx hb dd k'
theorem xJ_ladd {x y : Int} (h : xC X own nm cc n r d G) (dd : decode cc pc = .ok (.ladd, 1)) (k : xJ X cells slots t M (pc + 1) L (vl (x + y) :: st)) : xJ X cells slots t M pc L (vl y :: vl x :: st) := by
  obtain ⟨p, l, e, R, s, m, args, below, meth, c, G9, Po, Px, mc, ms⟩ := X
  obtain ⟨hx, hb, hml, hown, hts, hr, hlk, hKn, hSs, hnm, hR, hG, hst⟩ := h
  intro H locs ls a1 a2 a3
  have k' := k H locs ls a1 a2 a3
  rw [show vl (x + y) = .long (Int64.ofInt x + Int64.ofInt y) from congrArg Value.long (Int64.ofInt_add x y)] at k'
  exact lv_ladd hx hb dd k'
theorem xJ_lsub {x y : Int} (h : xC X own nm cc n r d G) (dd : decode cc pc = .ok (.lsub, 1)) (k : xJ X cells slots t M (pc + 1) L (vl (x - y) :: st)) : xJ X cells slots t M pc L (vl y :: vl x :: st) := by
  obtain ⟨p, l, e, R, s, m, args, below, meth, c, G9, Po, Px, mc, ms⟩ := X
  obtain ⟨hx, hb, hml, hown, hts, hr, hlk, hKn, hSs, hnm, hR, hG, hst⟩ := h
  intro H locs ls a1 a2 a3
  have k' := k H locs ls a1 a2 a3
  rw [show vl (x - y) = .long (Int64.ofInt x - Int64.ofInt y) from congrArg Value.long (Int64.ofInt_sub x y)] at k'
  exact lv_lsub hx hb dd k'
theorem xJ_lmul {x y : Int} (h : xC X own nm cc n r d G) (dd : decode cc pc = .ok (.lmul, 1)) (k : xJ X cells slots t M (pc + 1) L (vl (x * y) :: st)) : xJ X cells slots t M pc L (vl y :: vl x :: st) := by
  obtain ⟨p, l, e, R, s, m, args, below, meth, c, G9, Po, Px, mc, ms⟩ := X
  obtain ⟨hx, hb, hml, hown, hts, hr, hlk, hKn, hSs, hnm, hR, hG, hst⟩ := h
  intro H locs ls a1 a2 a3
  have k' := k H locs ls a1 a2 a3
  rw [show vl (x * y) = .long (Int64.ofInt x * Int64.ofInt y) from congrArg Value.long (Int64.ofInt_mul x y)] at k'
  exact lv_lmul hx hb dd k'
theorem xJ_icmp_eq {x y off : Int} {tgt : Nat} (h : xC X own nm cc n r d G) (dd : decode cc pc = .ok (.if_icmp .eq off, 3)) (ht : (pc : Int) + off = (tgt : Int)) (hxx : xR x) (hyy : xR y) (kt : x = y → xJ X cells slots t M tgt L st) (kf : x ≠ y → xJ X cells slots t M (pc + 3) L st) : xJ X cells slots t M pc L (vi y :: vi x :: st) := by
  obtain ⟨p, l, e, R, s, m, args, below, meth, c, G9, Po, Px, mc, ms⟩ := X
  obtain ⟨hx, hb, hml, hown, hts, hr, hlk, hKn, hSs, hnm, hR, hG, hst⟩ := h
  intro H locs ls a1 a2 a3
  exact lv_icmp_eq hx hb dd ht (fun q => kt ((xR_eq hxx hyy).mp q) H locs ls a1 a2 a3) (fun q => kf (fun z => q ((xR_eq hxx hyy).mpr z)) H locs ls a1 a2 a3)
theorem xJ_if_eq {x off : Int} {tgt : Nat} (h : xC X own nm cc n r d G) (dd : decode cc pc = .ok (.ifCond .eq off, 3)) (ht : (pc : Int) + off = (tgt : Int)) (hxx : xR x) (kt : x = 0 → xJ X cells slots t M tgt L st) (kf : x ≠ 0 → xJ X cells slots t M (pc + 3) L st) : xJ X cells slots t M pc L (vi x :: st) := by
  obtain ⟨p, l, e, R, s, m, args, below, meth, c, G9, Po, Px, mc, ms⟩ := X
  obtain ⟨hx, hb, hml, hown, hts, hr, hlk, hKn, hSs, hnm, hR, hG, hst⟩ := h
  intro H locs ls a1 a2 a3
  exact lv_if_eq hx hb dd ht (fun q => kt ((xR_eq hxx xR_0).mp q) H locs ls a1 a2 a3) (fun q => kf (fun z => q ((xR_eq hxx xR_0).mpr z)) H locs ls a1 a2 a3)
theorem xJ_icmp_ne {x y off : Int} {tgt : Nat} (h : xC X own nm cc n r d G) (dd : decode cc pc = .ok (.if_icmp .ne off, 3)) (ht : (pc : Int) + off = (tgt : Int)) (hxx : xR x) (hyy : xR y) (kt : x ≠ y → xJ X cells slots t M tgt L st) (kf : x = y → xJ X cells slots t M (pc + 3) L st) : xJ X cells slots t M pc L (vi y :: vi x :: st) := by
  obtain ⟨p, l, e, R, s, m, args, below, meth, c, G9, Po, Px, mc, ms⟩ := X
  obtain ⟨hx, hb, hml, hown, hts, hr, hlk, hKn, hSs, hnm, hR, hG, hst⟩ := h
  intro H locs ls a1 a2 a3
  exact lv_icmp_ne hx hb dd ht (fun q => kt ((xR_ne hxx hyy).mp q) H locs ls a1 a2 a3) (fun q => kf ((xR_eq hxx hyy).mp q) H locs ls a1 a2 a3)
theorem xJ_if_ne {x off : Int} {tgt : Nat} (h : xC X own nm cc n r d G) (dd : decode cc pc = .ok (.ifCond .ne off, 3)) (ht : (pc : Int) + off = (tgt : Int)) (hxx : xR x) (kt : x ≠ 0 → xJ X cells slots t M tgt L st) (kf : x = 0 → xJ X cells slots t M (pc + 3) L st) : xJ X cells slots t M pc L (vi x :: st) := by
  obtain ⟨p, l, e, R, s, m, args, below, meth, c, G9, Po, Px, mc, ms⟩ := X
  obtain ⟨hx, hb, hml, hown, hts, hr, hlk, hKn, hSs, hnm, hR, hG, hst⟩ := h
  intro H locs ls a1 a2 a3
  exact lv_if_ne hx hb dd ht (fun q => kt ((xR_ne hxx xR_0).mp q) H locs ls a1 a2 a3) (fun q => kf ((xR_eq hxx xR_0).mp q) H locs ls a1 a2 a3)
theorem xJ_icmp_lt {x y off : Int} {tgt : Nat} (h : xC X own nm cc n r d G) (dd : decode cc pc = .ok (.if_icmp .lt off, 3)) (ht : (pc : Int) + off = (tgt : Int)) (hxx : xR x) (hyy : xR y) (kt : x < y → xJ X cells slots t M tgt L st) (kf : y ≤ x → xJ X cells slots t M (pc + 3) L st) : xJ X cells slots t M pc L (vi y :: vi x :: st) := by
  obtain ⟨p, l, e, R, s, m, args, below, meth, c, G9, Po, Px, mc, ms⟩ := X
  obtain ⟨hx, hb, hml, hown, hts, hr, hlk, hKn, hSs, hnm, hR, hG, hst⟩ := h
  intro H locs ls a1 a2 a3
  exact lv_icmp_lt hx hb dd ht (fun q => kt ((xR_lt hxx hyy).mp q) H locs ls a1 a2 a3) (fun q => kf (Int.not_lt.mp (fun z => q ((xR_lt hxx hyy).mpr z))) H locs ls a1 a2 a3)
theorem xJ_if_lt {x off : Int} {tgt : Nat} (h : xC X own nm cc n r d G) (dd : decode cc pc = .ok (.ifCond .lt off, 3)) (ht : (pc : Int) + off = (tgt : Int)) (hxx : xR x) (kt : x < 0 → xJ X cells slots t M tgt L st) (kf : 0 ≤ x → xJ X cells slots t M (pc + 3) L st) : xJ X cells slots t M pc L (vi x :: st) := by
  obtain ⟨p, l, e, R, s, m, args, below, meth, c, G9, Po, Px, mc, ms⟩ := X
  obtain ⟨hx, hb, hml, hown, hts, hr, hlk, hKn, hSs, hnm, hR, hG, hst⟩ := h
  intro H locs ls a1 a2 a3
  exact lv_if_lt hx hb dd ht (fun q => kt ((xR_lt hxx xR_0).mp q) H locs ls a1 a2 a3) (fun q => kf (Int.not_lt.mp (fun z => q ((xR_lt hxx xR_0).mpr z))) H locs ls a1 a2 a3)
theorem xJ_icmp_ge {x y off : Int} {tgt : Nat} (h : xC X own nm cc n r d G) (dd : decode cc pc = .ok (.if_icmp .ge off, 3)) (ht : (pc : Int) + off = (tgt : Int)) (hxx : xR x) (hyy : xR y) (kt : y ≤ x → xJ X cells slots t M tgt L st) (kf : x < y → xJ X cells slots t M (pc + 3) L st) : xJ X cells slots t M pc L (vi y :: vi x :: st) := by
  obtain ⟨p, l, e, R, s, m, args, below, meth, c, G9, Po, Px, mc, ms⟩ := X
  obtain ⟨hx, hb, hml, hown, hts, hr, hlk, hKn, hSs, hnm, hR, hG, hst⟩ := h
  intro H locs ls a1 a2 a3
  exact lv_icmp_ge hx hb dd ht (fun q => kt ((xR_ge hxx hyy).mp q) H locs ls a1 a2 a3) (fun q => kf (Int.not_le.mp (fun z => q ((xR_ge hxx hyy).mpr z))) H locs ls a1 a2 a3)
theorem xJ_if_ge {x off : Int} {tgt : Nat} (h : xC X own nm cc n r d G) (dd : decode cc pc = .ok (.ifCond .ge off, 3)) (ht : (pc : Int) + off = (tgt : Int)) (hxx : xR x) (kt : 0 ≤ x → xJ X cells slots t M tgt L st) (kf : x < 0 → xJ X cells slots t M (pc + 3) L st) : xJ X cells slots t M pc L (vi x :: st) := by
  obtain ⟨p, l, e, R, s, m, args, below, meth, c, G9, Po, Px, mc, ms⟩ := X
  obtain ⟨hx, hb, hml, hown, hts, hr, hlk, hKn, hSs, hnm, hR, hG, hst⟩ := h
  intro H locs ls a1 a2 a3
  exact lv_if_ge hx hb dd ht (fun q => kt ((xR_ge hxx xR_0).mp q) H locs ls a1 a2 a3) (fun q => kf (Int.not_le.mp (fun z => q ((xR_ge hxx xR_0).mpr z))) H locs ls a1 a2 a3)
theorem xJ_icmp_gt {x y off : Int} {tgt : Nat} (h : xC X own nm cc n r d G) (dd : decode cc pc = .ok (.if_icmp .gt off, 3)) (ht : (pc : Int) + off = (tgt : Int)) (hxx : xR x) (hyy : xR y) (kt : y < x → xJ X cells slots t M tgt L st) (kf : x ≤ y → xJ X cells slots t M (pc + 3) L st) : xJ X cells slots t M pc L (vi y :: vi x :: st) := by
  obtain ⟨p, l, e, R, s, m, args, below, meth, c, G9, Po, Px, mc, ms⟩ := X
  obtain ⟨hx, hb, hml, hown, hts, hr, hlk, hKn, hSs, hnm, hR, hG, hst⟩ := h
  intro H locs ls a1 a2 a3
  exact lv_icmp_gt hx hb dd ht (fun q => kt ((xR_gt hxx hyy).mp q) H locs ls a1 a2 a3) (fun q => kf (Int.not_lt.mp (fun z => q ((xR_gt hxx hyy).mpr z))) H locs ls a1 a2 a3)
theorem xJ_if_gt {x off : Int} {tgt : Nat} (h : xC X own nm cc n r d G) (dd : decode cc pc = .ok (.ifCond .gt off, 3)) (ht : (pc : Int) + off = (tgt : Int)) (hxx : xR x) (kt : 0 < x → xJ X cells slots t M tgt L st) (kf : x ≤ 0 → xJ X cells slots t M (pc + 3) L st) : xJ X cells slots t M pc L (vi x :: st) := by
  obtain ⟨p, l, e, R, s, m, args, below, meth, c, G9, Po, Px, mc, ms⟩ := X
  obtain ⟨hx, hb, hml, hown, hts, hr, hlk, hKn, hSs, hnm, hR, hG, hst⟩ := h
  intro H locs ls a1 a2 a3
  exact lv_if_gt hx hb dd ht (fun q => kt ((xR_gt hxx xR_0).mp q) H locs ls a1 a2 a3) (fun q => kf (Int.not_lt.mp (fun z => q ((xR_gt hxx xR_0).mpr z))) H locs ls a1 a2 a3)
theorem xJ_icmp_le {x y off : Int} {tgt : Nat} (h : xC X own nm cc n r d G) (dd : decode cc pc = .ok (.if_icmp .le off, 3)) (ht : (pc : Int) + off = (tgt : Int)) (hxx : xR x) (hyy : xR y) (kt : x ≤ y → xJ X cells slots t M tgt L st) (kf : y < x → xJ X cells slots t M (pc + 3) L st) : xJ X cells slots t M pc L (vi y :: vi x :: st) := by
  obtain ⟨p, l, e, R, s, m, args, below, meth, c, G9, Po, Px, mc, ms⟩ := X
  obtain ⟨hx, hb, hml, hown, hts, hr, hlk, hKn, hSs, hnm, hR, hG, hst⟩ := h
  intro H locs ls a1 a2 a3
  exact lv_icmp_le hx hb dd ht (fun q => kt ((xR_le hxx hyy).mp q) H locs ls a1 a2 a3) (fun q => kf (Int.not_le.mp (fun z => q ((xR_le hxx hyy).mpr z))) H locs ls a1 a2 a3)
theorem xJ_if_le {x off : Int} {tgt : Nat} (h : xC X own nm cc n r d G) (dd : decode cc pc = .ok (.ifCond .le off, 3)) (ht : (pc : Int) + off = (tgt : Int)) (hxx : xR x) (kt : x ≤ 0 → xJ X cells slots t M tgt L st) (kf : 0 < x → xJ X cells slots t M (pc + 3) L st) : xJ X cells slots t M pc L (vi x :: st) := by
  obtain ⟨p, l, e, R, s, m, args, below, meth, c, G9, Po, Px, mc, ms⟩ := X
  obtain ⟨hx, hb, hml, hown, hts, hr, hlk, hKn, hSs, hnm, hR, hG, hst⟩ := h
  intro H locs ls a1 a2 a3
  exact lv_if_le hx hb dd ht (fun q => kt ((xR_le hxx xR_0).mp q) H locs ls a1 a2 a3) (fun q => kf (Int.not_le.mp (fun z => q ((xR_le hxx xR_0).mpr z))) H locs ls a1 a2 a3)
theorem xJ_goto {off : Int} {tgt : Nat} (h : xC X own nm cc n r d G) (dd : decode cc pc = .ok (.goto off, 3)) (ht : (pc : Int) + off = (tgt : Int)) (k : xJ X cells slots t M tgt L st) : xJ X cells slots t M pc L st := by
  obtain ⟨p, l, e, R, s, m, args, below, meth, c, G9, Po, Px, mc, ms⟩ := X
  obtain ⟨hx, hb, hml, hown, hts, hr, hlk, hKn, hSs, hnm, hR, hG, hst⟩ := h
  intro H locs ls a1 a2 a3
  exact lv_goto hx hb dd ht (k H locs ls a1 a2 a3)
theorem xJ_dup {v : Value} (h : xC X own nm cc n r d G) (dd : decode cc pc = .ok (.dup, 1)) (hv : v.category = 1) (k : xJ X cells slots t M (pc + 1) L (v :: v :: st)) : xJ X cells slots t M pc L (v :: st) := by
  obtain ⟨p, l, e, R, s, m, args, below, meth, c, G9, Po, Px, mc, ms⟩ := X
  obtain ⟨hx, hb, hml, hown, hts, hr, hlk, hKn, hSs, hnm, hR, hG, hst⟩ := h
  intro H locs ls a1 a2 a3
  exact lv_dup hx hb dd hv (k H locs ls a1 a2 a3)
theorem xJ_pop {v : Value} (h : xC X own nm cc n r d G) (dd : decode cc pc = .ok (.pop, 1)) (hv : v.category = 1) (k : xJ X cells slots t M (pc + 1) L st) : xJ X cells slots t M pc L (v :: st) := by
  obtain ⟨p, l, e, R, s, m, args, below, meth, c, G9, Po, Px, mc, ms⟩ := X
  obtain ⟨hx, hb, hml, hown, hts, hr, hlk, hKn, hSs, hnm, hR, hG, hst⟩ := h
  intro H locs ls a1 a2 a3
  exact lv_pop hx hb dd hv (k H locs ls a1 a2 a3)
theorem xJ_dup2 {v w : Value} (h : xC X own nm cc n r d G) (dd : decode cc pc = .ok (.dup2, 1)) (hv : v.category = 1) (hw : w.category = 1) (k : xJ X cells slots t M (pc + 1) L (v :: w :: v :: w :: st)) : xJ X cells slots t M pc L (v :: w :: st) := by
  obtain ⟨p, l, e, R, s, m, args, below, meth, c, G9, Po, Px, mc, ms⟩ := X
  obtain ⟨hx, hb, hml, hown, hts, hr, hlk, hKn, hSs, hnm, hR, hG, hst⟩ := h
  intro H locs ls a1 a2 a3
  exact lv_dup2_11 hx hb dd hv hw (k H locs ls a1 a2 a3)
theorem xJ_null (h : xC X own nm cc n r d G) (dd : decode cc pc = .ok (.aconst_null, 1)) (k : xJ X cells slots t M (pc + 1) L (.null :: st)) : xJ X cells slots t M pc L st := by
  obtain ⟨p, l, e, R, s, m, args, below, meth, c, G9, Po, Px, mc, ms⟩ := X
  obtain ⟨hx, hb, hml, hown, hts, hr, hlk, hKn, hSs, hnm, hR, hG, hst⟩ := h
  intro H locs ls a1 a2 a3
  exact lv_null hx hb dd (k H locs ls a1 a2 a3)
end XR
