/-! THE PICTURE OF THE HEAP. An address of ours has a kind (0..12, 19..22: an object of the class of that number in vwCl; 13 byte[], 14 int[], 15 long[], 16 World[], 17 int[][], 18 Road[]; more: nothing that we read), an array its length; numbers lie in one memory of integers, references beside it. -/
def vi (x : Int) : Value := .int (Int32.ofInt x)
def vl (x : Int) : Value := .long (Int64.ofInt x)
def vr (a : Nat) : Value := .ref a
def vU : Value := .retAddr 0
abbrev xTh : Type := Nat × ((Nat → Nat) × ((Nat → Nat) × (Nat → Nat → Option Nat)))
def xz (t : xTh) : Nat := t.1
def xk (t : xTh) (a : Nat) : Nat := t.2.1 a
def xn (t : xTh) (a : Nat) : Nat := t.2.2.1 a
def xr (t : xTh) (a k : Nat) : Option Nat := t.2.2.2 a k
abbrev xMe : Type := Nat → Nat → Int
def xw (M : xMe) (a k : Nat) (v : Int) : xMe := fun b j => if b = a ∧ j = k then v else M b j
def xwr (t : xTh) (a k : Nat) (v : Option Nat) : xTh := (xz t, xk t, xn t, fun b j => if b = a ∧ j = k then v else xr t b j)
def xnw (t : xTh) (k n : Nat) : xTh := (xz t + 1, (fun b => if b = xz t then k else xk t b), (fun b => if b = xz t then n else xn t b), fun b j => if b = xz t then none else xr t b j)
def xw0 (M : xMe) (a : Nat) : xMe := fun b j => if b = a then 0 else M b j
def xFr : List (List Bool) := [[true, true, true, true, false], [true, true, true, true, false], [true, true, true, false], [true, false, false], [true, true, true, true, true], [true, true, true, true, true, true, true, true, false], [true, true, true, true, true, false, false], [true, true], [true, true, false, false, true, false, false, false, false], [true, false, false, false, false, false, false], [true, true, true, true, true, true, true, false, false, false, false, false, false, false, false], [true, true, true, true, false], [false, false, true, true], [], [], [], [], [], [], [false], [false, true, true, true, true, true, true, true, false, false, false, false, false, true], [true, false, false, false], [true, false, false, false]]
def xfl (ci : Nat) (t : xTh) (M : xMe) (a : Nat) : List Value := ((xFr.getD ci []).zipIdx).map fun q => if q.1 then va_rf (xr t a q.2) else vi (M a q.2)
def xE (ca : Nat → ClassId) (t : xTh) (M : xMe) : Nat → va_E := fun a =>
  if xk t a < 13 ∨ (18 < xk t a ∧ xk t a < 23) then .inr (xk t a, xfl (xk t a) t M a)
  else if xk t a < 15 then .inl (ca (xk t a - 13), xn t a, .inl (fun j => Int32.ofInt (M a j)))
  else if xk t a = 15 then .inl (ca 2, xn t a, .inr (.inl (fun j => Int64.ofInt (M a j))))
  else .inl (ca (xk t a - 13), xn t a, .inr (.inr (.inr (.inr (fun j => xr t a j)))))
/-- the classes' numbers and slots, the arrays' classes, the heap as the law's start found it, the addresses of the String constants and of their bytes -/
abbrev xGx : Type := va_G × (Nat → ClassId) × Heap × (Nat → Nat) × (Nat → Nat)
def xA (G : xGx) : Nat → Prop := fun q => G.2.2.1.size ≤ q
def xRp (G : xGx) (t : xTh) (M : xMe) (H : Heap) (locs : List Loc) : Prop :=
  va_S (xA G) G.2.2.1 H locs ∧ H.size = xz t ∧ (∀ a, xn t a < 2147483648) ∧ ∃ L : List Nat, (∀ a, a ∈ L ↔ xk t a ≤ 22) ∧ va_P G.1 vwCl (va_pl L (xE G.2.1 t M)) H ∧ va_D (xA G) (va_pl L (xE G.2.1 t M))
def xTx : List String := ["toll", "gate", "flow", "packet", "coupon", "fee", "refund", "price", "thrift", "size", "spent", "wait", "what", "place", "coupons", "packets", "out of range", "length", "toll;", " ", ";", " thrift", "price ", "", "+", " - ", "* ", "/", "(", ")", " ;"]
def xBy : List (List Int32) := [[116, 111, 108, 108], [103, 97, 116, 101], [102, 108, 111, 119], [112, 97, 99, 107, 101, 116], [99, 111, 117, 112, 111, 110], [102, 101, 101], [114, 101, 102, 117, 110, 100], [112, 114, 105, 99, 101], [116, 104, 114, 105, 102, 116], [115, 105, 122, 101], [115, 112, 101, 110, 116], [119, 97, 105, 116], [119, 104, 97, 116], [112, 108, 97, 99, 101], [99, 111, 117, 112, 111, 110, 115], [112, 97, 99, 107, 101, 116, 115], [111, 117, 116, 32, 111, 102, 32, 114, 97, 110, 103, 101], [108, 101, 110, 103, 116, 104], [116, 111, 108, 108, 59], [32], [59], [32, 116, 104, 114, 105, 102, 116], [112, 114, 105, 99, 101, 32], [], [43], [32, 45, 32], [42, 32], [47], [40], [41], [32, 59]]
def xLe : List Nat := xBy.map List.length
/-- a literal: the class, its place there, its text -/
def xLt : List (String × Nat × Nat) := [("PacketToll", 52, 17), ("PacketToll$SetupReader", 53, 0), ("PacketToll$SetupReader", 105, 1), ("PacketToll$SetupReader", 110, 2), ("PacketToll$SetupReader", 174, 8), ("PacketToll$SetupReader", 115, 3), ("PacketToll$SetupReader", 120, 4), ("PacketToll$SetupReader", 125, 5), ("PacketToll$SetupReader", 133, 6), ("PacketToll$SetupReader", 141, 7), ("PacketToll$SetupReader", 214, 9), ("PacketToll$SetupReader", 216, 10), ("PacketToll$SetupReader", 218, 11), ("PacketToll", 282, 2), ("PacketToll", 162, 13), ("PacketToll", 279, 1), ("PacketToll", 285, 16), ("PacketToll", 283, 3), ("PacketToll", 284, 4), ("PacketToll", 252, 14), ("PacketToll", 254, 15), ("PacketTollLaw", 126, 18), ("PacketTollLaw", 141, 1), ("PacketTollLaw", 118, 19), ("PacketTollLaw", 146, 20), ("PacketTollLaw", 154, 2), ("PacketTollLaw", 155, 21), ("PacketTollLaw", 160, 3), ("PacketTollLaw", 164, 4), ("PacketTollLaw", 169, 5), ("PacketTollLaw", 176, 6), ("PacketTollLaw", 187, 22), ("PacketTollLaw$Node", 37, 23), ("PacketTollLaw$Node", 60, 24), ("PacketTollLaw$Node", 62, 25), ("PacketTollLaw$Node", 64, 26), ("PacketTollLaw$Node", 66, 27), ("PacketTollLaw$Node", 68, 28), ("PacketTollLaw$Node", 70, 29), ("PacketTollLaw", 193, 30), ("PacketToll", 120, 12), ("PacketTollLaw", 277, 9), ("PacketTollLaw", 279, 10), ("PacketTollLaw", 281, 11)]
/-- private methods of AbstractStringBuilder, called on a StringBuilder -/
def xSp : List MethodName := [yJ5_ensureCapacityInternal_d00df, yJ5_newCapacity_0f7a4, yJ5_putStringAt_47b60, yJ5_inflateIfNeededFor_a7421]
/-- static arrays that nobody writes: Integer's digits, the law's names of variables (their addresses: places 100, 101, 102) -/
def xStc (G : xGx) (U : State) : Prop :=
  (va_Z "java/lang/Integer" "DigitOnes" "[B" (vr (G.2.2.2.2 100)) (xA G) U U.heap ∧ va_T .byte (G.2.2.2.2 100) 100 (fun j => vi ((48 + j % 10 : Nat) : Int)) (xA G) U U.heap) ∧
  (va_Z "java/lang/Integer" "DigitTens" "[B" (vr (G.2.2.2.2 101)) (xA G) U U.heap ∧ va_T .byte (G.2.2.2.2 101) 100 (fun j => vi ((48 + j / 10 : Nat) : Int)) (xA G) U U.heap) ∧
  va_Z "PacketTollLaw" "VARIABLES" "[Ljava/lang/String;" (vr (G.2.2.2.2 102)) (xA G) U U.heap ∧ va_T (.object "java/lang/String") (G.2.2.2.2 102) 4 (fun j => vr (G.2.2.2.1 ([9, 1, 10, 11].getD j 0))) (xA G) U U.heap ∧
  (∀ y ∈ xSp, va_Nw (.selects "java/lang/StringBuilder" y y) U) ∧ va_Nw (.fieldLinkNest "PacketTollLaw$Node" 50 "PacketTollLaw" "VARIABLES" "[Ljava/lang/String;" "PacketTollLaw") U
theorem xStc_go {G : xGx} {s U : State} (hW : s.WarmedH U.vm) (hq : ∀ a : Nat, a < s.heap.size → ¬ xA G a → U.heap[a]? = s.heap[a]?) (h : xStc G s) : xStc G U := by
  obtain ⟨⟨h1, h2⟩, ⟨h3, h4⟩, h5, h6, h7, h8⟩ := h
  exact ⟨⟨va_Z.moved hW.alike (h1.kept hq), va_T.moved hW.alike (h2.kept hq)⟩, ⟨va_Z.moved hW.alike (h3.kept hq), va_T.moved hW.alike (h4.kept hq)⟩, va_Z.moved hW.alike (h5.kept hq), va_T.moved hW.alike (h6.kept hq), fun y hy => word_at hW (Or.inl rfl) (h7 y hy), va_Nw.warmF hW h8⟩
def xOl (G : xGx) (U : State) : Prop :=
  vx_Zq Bundle.tN "UNASSIGNED_STACK" Bundle.steD (xA G) U U.heap ∧ vx_Zq Bundle.tN "SUPPRESSED_SENTINEL" Bundle.listD (xA G) U U.heap ∧
  (va_Z "java/lang/String" "COMPACT_STRINGS" "Z" (.int 1) (xA G) U U.heap ∧ va_Zq "jdk/internal/util/Preconditions" "SIOOBE_FORMATTER" "Ljava/util/function/BiFunction;" (xA G) U U.heap ∧ xStc G U) ∧ vk_S xTx.length xLe xBy G.2.2.2.1 G.2.2.2.2 (xA G) U U.heap ∧
  ∀ q ∈ xLt, vk_R q.1 q.2.1 (xTx.getD q.2.2 "") (G.2.2.2.1 q.2.2) U
/-- the links between nest mates -/
def xNe : List (String × Nat × MethodName × String) := [("PacketToll", 9, ⟨"PacketToll$SetupReader", "<init>", "()V"⟩, "PacketToll"), ("PacketToll$SetupReader", 11, ⟨"PacketToll$SetupText", "<init>", "()V"⟩, "PacketToll"), ("PacketToll$SetupReader", 20, ⟨"PacketToll$World", "<init>", "()V"⟩, "PacketToll"), ("PacketToll$World", 11, ⟨"PacketToll$Gates", "<init>", "()V"⟩, "PacketToll"), ("PacketToll$World", 20, ⟨"PacketToll$Flows", "<init>", "()V"⟩, "PacketToll"), ("PacketToll$World", 27, ⟨"PacketToll$Lines", "<init>", "()V"⟩, "PacketToll"), ("PacketToll$World", 34, ⟨"PacketToll$Packets", "<init>", "()V"⟩, "PacketToll"), ("PacketToll$World", 41, ⟨"PacketToll$Coupons", "<init>", "()V"⟩, "PacketToll"), ("PacketToll$World", 48, ⟨"PacketToll$Passages", "<init>", "()V"⟩, "PacketToll"), ("PacketToll", 18, ⟨"PacketToll$World", "<init>", "()V"⟩, "PacketToll"), ("PacketToll$History", 17, ⟨"PacketToll$World", "<init>", "()V"⟩, "PacketToll"), ("PacketToll$Gates", 25, ⟨"PacketToll", "copyRow", "([I[II)V"⟩, "PacketToll"), ("PacketToll$Flows", 28, ⟨"PacketToll", "copyRow", "([I[II)V"⟩, "PacketToll"), ("PacketToll$Lines", 27, ⟨"PacketToll", "copyRow", "([I[II)V"⟩, "PacketToll"), ("PacketToll$Packets", 40, ⟨"PacketToll", "copyRow", "([I[II)V"⟩, "PacketToll"), ("PacketToll$Coupons", 28, ⟨"PacketToll", "copyRow", "([I[II)V"⟩, "PacketToll"), ("PacketToll$Passages", 34, ⟨"PacketToll", "copyRow", "([I[II)V"⟩, "PacketToll"), ("PacketTollLaw", 125, ⟨"PacketTollLaw$Road", "<init>", "()V"⟩, "PacketTollLaw"), ("PacketTollLaw$Road", 48, ⟨"PacketTollLaw", "copied", "([[I)[[I"⟩, "PacketTollLaw"), ("PacketTollLaw$Road", 105, ⟨"PacketTollLaw", "without", "([[II)[[I"⟩, "PacketTollLaw"), ("PacketTollLaw$Road", 77, ⟨"PacketTollLaw", "with", "([[I[I)[[I"⟩, "PacketTollLaw")]
def xTys (G : xGx) : List (ClassId × FieldType) := [(G.2.1 0, .byte), (G.2.1 1, .int), (G.2.1 2, .long), (G.2.1 3, .object "PacketToll$World"), (G.2.1 4, .array .int), (G.2.1 5, .object "PacketTollLaw$Road")]
def xNc : List (String × String) := [("java/lang/IndexOutOfBoundsException", "java/lang/IllegalArgumentException"), ("java/lang/IllegalStateException", "java/lang/IllegalArgumentException"), ("java/util/NoSuchElementException", "java/lang/IllegalArgumentException"), ("java/lang/IllegalArgumentException", "java/lang/IndexOutOfBoundsException"), ("java/lang/IllegalStateException", "java/lang/IndexOutOfBoundsException"), ("java/util/NoSuchElementException", "java/lang/IndexOutOfBoundsException"), ("java/lang/IllegalArgumentException", "java/util/NoSuchElementException"), ("java/lang/IndexOutOfBoundsException", "java/util/NoSuchElementException"), ("java/lang/IllegalStateException", "java/util/NoSuchElementException"), ("java/lang/IllegalArgumentException", "java/lang/IllegalStateException"), ("java/lang/IndexOutOfBoundsException", "java/lang/IllegalStateException"), ("java/util/NoSuchElementException", "java/lang/IllegalStateException")]
def xCa : List (String × String) := [("[I", "java/lang/Cloneable"), ("java/lang/IllegalArgumentException", "java/lang/IllegalArgumentException"), ("java/lang/IndexOutOfBoundsException", "java/lang/IndexOutOfBoundsException"), ("java/util/NoSuchElementException", "java/util/NoSuchElementException"), ("java/lang/IllegalStateException", "java/lang/IllegalStateException"), ("[B", "java/lang/Cloneable"), ("PacketToll", "java/lang/Object"), ("PacketToll$SetupReader", "java/lang/Object"), ("PacketToll$SetupText", "java/lang/Object"), ("PacketToll$World", "java/lang/Object"), ("PacketToll$Gates", "java/lang/Object"), ("PacketToll$Flows", "java/lang/Object"), ("PacketToll$Lines", "java/lang/Object"), ("PacketToll$Packets", "java/lang/Object"), ("PacketToll$Coupons", "java/lang/Object"), ("PacketToll$Passages", "java/lang/Object"), ("PacketToll$Price", "java/lang/Object"), ("PacketToll$History", "java/lang/Object"), ("PacketTollLaw$Random", "java/lang/Object"), ("PacketTollLaw$Road", "java/lang/Object"), ("java/lang/IllegalArgumentException", "java/lang/Object"), ("java/lang/IndexOutOfBoundsException", "java/lang/Object"), ("java/lang/IllegalStateException", "java/lang/Object"), ("PacketTollLaw$Node", "java/lang/Object"), ("java/lang/StringBuilder", "java/lang/Object"), ("java/lang/String", "java/lang/Object"), ("java/util/NoSuchElementException", "java/lang/Object"), ("java/lang/Throwable", "java/lang/Object")]
def xDe : List MethodName := [⟨"java/lang/RuntimeException", "<init>", "()V"⟩, ⟨"java/lang/RuntimeException", "<init>", "(Ljava/lang/String;)V"⟩, ⟨"java/lang/Exception", "<init>", "()V"⟩, ⟨"java/lang/Exception", "<init>", "(Ljava/lang/String;)V"⟩, ⟨"java/lang/Throwable", "<init>", "()V"⟩, ⟨"java/lang/Throwable", "<init>", "(Ljava/lang/String;)V"⟩]
/-- words that the tables decide, but not for good -/
def xOn : List Cond := xCa.map (fun q => .castable q.1 q.2) ++ xDe.map Cond.declares
theorem xOn_warm {s U : State} (hW : s.WarmedH U.vm) (h : ∀ w ∈ xOn, va_Nw w s) : ∀ w ∈ xOn, va_Nw w U := by
  intro w hw
  rcases List.mem_append.mp hw with q | q
  · obtain ⟨z, -, rfl⟩ := List.mem_map.mp q
    exact va_Nw.warmC hW (h _ hw)
  · obtain ⟨z, -, rfl⟩ := List.mem_map.mp q
    exact va_Nw.warmD hW (h _ hw)
def xKn (G : xGx) (U : State) : Prop :=
  va_K G.1 vwCl (xTys G) U ∧ (∀ q ∈ xNe, va_Nw (.methodLinkNest q.1 q.2.1 q.2.2.1 q.2.2.2) U) ∧ va_AO "PacketToll$World" U ∧ (va_AOA .int U ∧ va_AO "PacketTollLaw$Road" U) ∧ (∀ w ∈ xOn, va_Nw w U) ∧ (∀ q ∈ xNc, va_Nc q.1 q.2 U) ∧ xOl G U
theorem xOl_go {G : xGx} {s U : State} (hW : s.WarmedH U.vm) (hq : ∀ a : Nat, a < s.heap.size → ¬ xA G a → U.heap[a]? = s.heap[a]?) (h : xOl G s) : xOl G U := by
  obtain ⟨h1, h2, h3, h4, h5⟩ := h
  exact ⟨vx_Zq.moved hW.alike (h1.kept hq), vx_Zq.moved hW.alike (h2.kept hq), ⟨va_Z.moved hW.alike (h3.1.kept hq), va_Zq.moved hW.alike (va_Zq.kept h3.2.1 hq), xStc_go hW hq h3.2.2⟩, vk_S.moved hW.alike (h4.kept hq), fun q hm => vk_R.warm hW (h5 q hm)⟩
theorem xKn_go {G : xGx} {s U : State} (hW : s.WarmedH U.vm) (hq : ∀ a : Nat, a < s.heap.size → ¬ xA G a → U.heap[a]? = s.heap[a]?) (h : xKn G s) : xKn G U := by
  obtain ⟨h1, h2, h3, h6, h7, h4, h5⟩ := h
  exact ⟨va_K.moved hW.alike h1, fun q hm => va_Nw.warmM hW (h2 q hm), va_AO.moved hW.alike h3, ⟨va_AOA.moved hW.alike h6.1, va_AO.moved hW.alike h6.2⟩, xOn_warm hW h7, fun q hm => va_Nc.moved hW.alike (h4 q hm), xOl_go hW hq h5⟩
/-! LOCALS: a list, a value a place; vU where nothing is said -/
def xLv (ls : Array Slot) (L : List Value) : Prop := ls.size = L.length ∧ lv_wf ls ∧ ∀ (i : Nat) (v : Value), L[i]? = some v → (∀ n, v ≠ .retAddr n) → ls[i]? = some (.val v)
def xnr : Value → Bool
  | .retAddr _ => false
  | _ => true
theorem xnr_t {v : Value} (hv : ∀ n, v ≠ .retAddr n) : xnr v = true := by
  cases v with
  | retAddr n => exact absurd rfl (hv n)
  | _ => rfl
theorem xnr_of {v : Value} (h : xnr v = true) : ∀ n, v ≠ .retAddr n := by
  intro n e
  rw [e] at h
  cases h
def xas (L : List Value) : List (Nat × Value) := (L.zipIdx.filter fun q => xnr q.1).map fun q => (q.2, q.1)
theorem xas_in {L : List Value} {j : Nat} {v : Value} (h : L[j]? = some v) (hv : ∀ n, v ≠ .retAddr n) : (j, v) ∈ xas L :=
  List.mem_map.mpr ⟨(v, j), List.mem_filter.mpr ⟨List.mk_mem_zipIdx_iff_getElem?.mpr h, xnr_t hv⟩, rfl⟩
theorem xas_of {L : List Value} {j : Nat} {v : Value} (h : (j, v) ∈ xas L) : L[j]? = some v ∧ ∀ n, v ≠ .retAddr n := by
  obtain ⟨⟨w, i⟩, hm, he⟩ := List.mem_map.mp h
  obtain ⟨h1, h2⟩ := List.mem_filter.mp hm
  cases he
  exact ⟨List.mk_mem_zipIdx_iff_getElem?.mp h1, xnr_of h2⟩
theorem xLv_has {ls : Array Slot} {L : List Value} (h : xLv ls L) : lv_has ls L.length (xas L) :=
  ⟨h.1, h.2.1, fun q hq => h.2.2 q.1 q.2 (xas_of hq).1 (xas_of hq).2⟩
theorem xLv_at {ls : Array Slot} {L : List Value} (h : xLv ls L) {i : Nat} {v : Value} (hL : L[i]? = some v) (hv : ∀ n, v ≠ .retAddr n) : ls[i]? = some (.val v) := h.2.2 i v hL hv
def xok (L : List Value) : Nat → Bool
  | 0 => true
  | j + 1 => (L.getD j vU).category == 1
theorem xLv_set1 {ls : Array Slot} {L : List Value} {i : Nat} {v : Value} (h : lv_has ls L.length ((i, v) :: (xas L).filter (fun q => !(q.1 == i) && !(q.1 + 1 == i && q.2.category == 2)))) (hi : i < L.length) (hk : xok L i = true) : xLv ls (L.set i v) := by
  refine ⟨by rw [List.length_set]; exact h.1, h.2.1, fun j w hj hw => ?_⟩
  by_cases e : j = i
  · subst e
    rw [List.getElem?_set_self hi] at hj
    cases hj
    exact h.2.2 (j, v) List.mem_cons_self
  · rw [List.getElem?_set_ne (fun q => e q.symm)] at hj
    refine h.2.2 (j, w) (List.mem_cons_of_mem _ (List.mem_filter.mpr ⟨xas_in hj hw, ?_⟩))
    have hc : j + 1 = i → w.category = 1 := by
      intro q
      subst q
      simp only [xok, List.getD_eq_getElem?_getD, hj, Option.getD_some] at hk
      exact eq_of_beq hk
    by_cases e2 : j + 1 = i
    · simp [e, hc e2]
    · simp [e, e2]
theorem xLv_set2 {ls : Array Slot} {L : List Value} {i : Nat} {v : Value} (h : lv_has ls L.length ((i, v) :: (xas L).filter (fun q => !(q.1 == i) && (!(q.1 == i + 1) && !(q.1 + 1 == i && q.2.category == 2))))) (hi : i + 1 < L.length) (hk : xok L i = true) : xLv ls ((L.set i v).set (i + 1) vU) := by
  refine ⟨by rw [List.length_set, List.length_set]; exact h.1, h.2.1, fun j w hj hw => ?_⟩
  by_cases e3 : j = i + 1
  · subst e3
    rw [List.getElem?_set_self (by rw [List.length_set]; exact hi)] at hj
    cases hj
    exact absurd rfl (hw 0)
  · rw [List.getElem?_set_ne (fun q => e3 q.symm)] at hj
    by_cases e : j = i
    · subst e
      rw [List.getElem?_set_self (by omega)] at hj
      cases hj
      exact h.2.2 (j, v) List.mem_cons_self
    · rw [List.getElem?_set_ne (fun q => e q.symm)] at hj
      refine h.2.2 (j, w) (List.mem_cons_of_mem _ (List.mem_filter.mpr ⟨xas_in hj hw, ?_⟩))
      have hc : j + 1 = i → w.category = 1 := by
        intro q
        subst q
        simp only [xok, List.getD_eq_getElem?_getD, hj, Option.getD_some] at hk
        exact eq_of_beq hk
      by_cases e2 : j + 1 = i
      · simp [e, e3, hc e2]
      · simp [e, e3, e2]
def xsl (vs : List Value) : List Value := vs.flatMap fun v => if v.category = 2 then [v, vU] else [v]
theorem xsl_sl : ∀ (vs : List Value), (xsl vs).length = (lg_sl vs).length ∧ ∀ (i : Nat) (v : Value), (xsl vs)[i]? = some v → (∀ n, v ≠ .retAddr n) → (lg_sl vs)[i]? = some (.val v)
  | [] => ⟨rfl, fun i v h _ => by simp [xsl] at h⟩
  | w :: ws => by
    obtain ⟨h1, h2⟩ := xsl_sl ws
    by_cases hc : w.category = 2
    · have e1 : xsl (w :: ws) = w :: vU :: xsl ws := by simp [xsl, hc]
      have e2 : lg_sl (w :: ws) = .val w :: .second :: lg_sl ws := by simp [lg_sl, hc]
      rw [e1, e2]
      refine ⟨by simp [h1], fun i v h hv => ?_⟩
      match i, h with
      | 0, h => cases h; rfl
      | 1, h => cases h; exact absurd rfl (hv 0)
      | i + 2, h => exact h2 i v h hv
    · have e1 : xsl (w :: ws) = w :: xsl ws := by simp [xsl, hc]
      have e2 : lg_sl (w :: ws) = .val w :: lg_sl ws := by simp [lg_sl, hc]
      rw [e1, e2]
      refine ⟨by simp [h1], fun i v h hv => ?_⟩
      match i, h with
      | 0, h => cases h; rfl
      | i + 1, h => exact h2 i v h hv
theorem xLv_entry (vs : List Value) {n : Nat} (h : (lg_sl vs).length ≤ n) : xLv ((lg_sl vs ++ List.replicate (n - (lg_sl vs).length) Slot.unset).toArray) (xsl vs ++ List.replicate (n - (xsl vs).length) vU) := by
  obtain ⟨h1, h2, -⟩ := lv_entry vs h
  obtain ⟨g1, g2⟩ := xsl_sl vs
  refine ⟨?_, h2, fun i v hi hv => ?_⟩
  · simp [g1]
  · by_cases hl : i < (xsl vs).length
    · rw [List.getElem?_append_left hl] at hi
      have := g2 i v hi hv
      rw [List.getElem?_toArray, List.getElem?_append_left (by rw [← g1]; exact hl)]
      exact this
    · rw [List.getElem?_append_right (Nat.le_of_not_lt hl)] at hi
      have := List.mem_of_getElem? hi
      rw [List.mem_replicate] at this
      exact absurd this.2 (hv 0)
