def xFi : List (String × Nat) := [("PacketToll$SetupReader", 53), ("PacketToll", 279), ("PacketToll", 282), ("PacketToll", 283), ("PacketToll", 284), ("PacketToll$SetupReader", 125), ("PacketToll$SetupReader", 133), ("PacketToll$SetupReader", 141), ("PacketToll$SetupReader", 174), ("PacketToll$SetupReader", 214), ("PacketToll$SetupReader", 216), ("PacketToll$SetupReader", 218), ("PacketToll", 120), ("PacketToll", 162), ("PacketToll", 252), ("PacketToll", 254), ("PacketToll", 285), ("PacketToll", 52)]
def xTm (i : Nat) : Term := Term.string (xFi.getD i ("", 0)).1 (xFi.getD i ("", 0)).2
def xTv (i : Nat) : Term := Term.field (xTm i) "java/lang/String" "value" "[B"
def xPr1 : List Cond := (List.range 18).flatMap fun i => [Cond.exactly (xTm i) "java/lang/String", Cond.eq (.field (xTm i) "java/lang/String" "coder" "B") (.int 0), Cond.arrayOf (xTv i) .byte, Cond.eq (.length (xTv i)) (.int (Int32.ofNat (xLe.getD i 0)))] ++ ((List.range (xLe.getD i 0)).map fun j => Cond.eq (.elem (xTv i) (.int (Int32.ofNat j))) (.int ((xBy.getD i []).getD j 0)))
def xPr2 : List Cond := (xLt.filter fun q => !(xFi.getD q.2.2 ("", 0) == (q.1, q.2.1))).map fun q => Cond.eq (xTm q.2.2) (Term.string q.1 q.2.1)
def xPr3 : List Cond := (xNc.map fun q => Cond.not (.castable q.1 q.2)) ++ [Cond.isRef (.static "java/lang/Throwable" "UNASSIGNED_STACK" "[Ljava/lang/StackTraceElement;"), Cond.isRef (.static "java/lang/Throwable" "SUPPRESSED_SENTINEL" "Ljava/util/List;"), Cond.eq (.static "java/lang/String" "COMPACT_STRINGS" "Z") (.int 1), Cond.isRef (.static "jdk/internal/util/Preconditions" "SIOOBE_FORMATTER" "Ljava/util/function/BiFunction;")]
def xPrA : List Cond := xPr1 ++ (xPr2 ++ xPr3)
def xPrI : List Nat := [129, 130, 131, 132, 133, 134, 135, 136, 111, 112, 113, 114, 115, 116, 117, 118, 83, 84, 85, 86, 87, 88, 89, 90, 91, 92, 93, 94, 95, 96, 97, 98, 99, 100, 101, 102, 103, 104, 105, 106, 107, 108, 109, 110, 187, 188, 189, 190, 191, 192, 193, 194, 195, 196, 197, 198, 199, 200, 201, 202, 203, 204, 205, 206, 207, 208, 209, 210, 211, 212, 155, 156, 157, 158, 159, 160, 161, 162, 163, 164, 213, 214, 215, 216, 217, 218, 219, 220, 221, 222, 223, 224, 225, 226, 227, 228, 229, 230, 231, 232, 233, 234, 235, 236, 237, 75, 76, 77, 78, 79, 80, 81, 82, 238, 239, 240, 241, 242, 243, 244, 245, 246, 263, 264, 265, 266, 267, 268, 269, 270, 271, 272, 273, 274, 275, 276, 277, 278, 279, 280, 281, 282, 283, 284, 247, 248, 249, 250, 251, 252, 253, 254, 255, 256, 257, 258, 259, 260, 261, 262, 119, 120, 121, 122, 123, 124, 125, 126, 127, 128, 145, 154, 175, 186, 293, 302, 312, 324, 335, 347, 356, 367, 377, 386, 396, 405, 24, 25, 26, 40, 41, 42, 56, 57, 58, 72, 73, 74, 4, 5, 6, 7]
set_option maxRecDepth 100000 in
theorem xPr_eq : xPrA.map some = xPrI.map (fun k => (flatC (Jvm.Cond.and given_1 narrow_1))[k]?) := by decide +kernel
theorem xPr_in : ∀ w ∈ xPrA, w ∈ flatC (Jvm.Cond.and given_1 narrow_1) := by
  intro w hw
  have h : some w ∈ xPrA.map some := List.mem_map.mpr ⟨w, hw, rfl⟩
  rw [xPr_eq] at h
  obtain ⟨k, -, hk⟩ := List.mem_map.mp h
  exact List.mem_of_getElem? hk
theorem xPr_1 {w : Cond} (h : w ∈ xPr1) : w ∈ xPrA := List.mem_append_left _ h
theorem xPr_2 {w : Cond} (h : w ∈ xPr2) : w ∈ xPrA := List.mem_append_right _ (List.mem_append_left _ h)
theorem xPr_3 {w : Cond} (h : w ∈ xPr3) : w ∈ xPrA := List.mem_append_right _ (List.mem_append_right _ h)
/-- the texts' first differing place -/
def xDf (i j : Nat) : Bool := (xLe.getD i 0 != xLe.getD j 0) || (List.range (xLe.getD i 0)).any fun k => k < xLe.getD j 0 && ((xBy.getD i []).getD k 0 != (xBy.getD j []).getD k 0)
theorem xDf_ok : ∀ i, i < 18 → ∀ j, j < 18 → i ≠ j → xDf i j = true := by decide +kernel
theorem xPr1_a {i : Nat} {w : Cond} (hi : i < 18) (hw : w ∈ [Cond.exactly (xTm i) "java/lang/String", Cond.eq (.field (xTm i) "java/lang/String" "coder" "B") (.int 0), Cond.arrayOf (xTv i) .byte, Cond.eq (.length (xTv i)) (.int (Int32.ofNat (xLe.getD i 0)))]) : w ∈ xPr1 := List.mem_flatMap.mpr ⟨i, List.mem_range.mpr hi, List.mem_append_left _ hw⟩
theorem xPr1_b {i j : Nat} (hi : i < 18) (hj : j < xLe.getD i 0) : Cond.eq (.elem (xTv i) (.int (Int32.ofNat j))) (.int ((xBy.getD i []).getD j 0)) ∈ xPr1 := List.mem_flatMap.mpr ⟨i, List.mem_range.mpr hi, List.mem_append_right _ (List.mem_map.mpr ⟨j, List.mem_range.mpr hj, rfl⟩)⟩
theorem xTv_eval {i j : Nat} {args : Array Value} {s : State} {a : Nat} (hi : (xTm i).eval args s none [] s = some (.ref a)) (hj : (xTm j).eval args s none [] s = some (.ref a)) : (xTv i).eval args s none [] s = (xTv j).eval args s none [] s := by
  show ((xTm i).eval args s none [] s >>= _) = ((xTm j).eval args s none [] s >>= _)
  rw [hi, hj]
theorem xTm_ne {args : Array Value} {s : State} (h : ∀ w ∈ xPrA, w.before args s = true) {i j : Nat} (hi : i < 18) (hj : j < 18) (hij : i ≠ j) : (Cond.not (Cond.eq (xTm i) (xTm j))).before args s = true := by
  obtain ⟨a, _, _, _, qa, -⟩ := Cond.exactly_spec (args := args) (first := s) (o := none) (s := s) (idx := []) (h _ (xPr_1 (xPr1_a hi List.mem_cons_self)))
  obtain ⟨b, _, _, _, qb, -⟩ := Cond.exactly_spec (args := args) (first := s) (o := none) (s := s) (idx := []) (h _ (xPr_1 (xPr1_a hj List.mem_cons_self)))
  have hne : a ≠ b := by
    rintro rfl
    have hv := xTv_eval qa qb
    have li := va_eqt (h _ (xPr_1 (xPr1_a hi (w := Cond.eq (.length (xTv i)) (.int (Int32.ofNat (xLe.getD i 0)))) (by simp))))
    have lj := va_eqt (h _ (xPr_1 (xPr1_a hj (w := Cond.eq (.length (xTv j)) (.int (Int32.ofNat (xLe.getD j 0)))) (by simp))))
    have el : (Term.length (xTv i)).eval args s none [] s = (Term.length (xTv j)).eval args s none [] s := by
      show ((xTv i).eval args s none [] s >>= _) = ((xTv j).eval args s none [] s >>= _)
      rw [hv]
    rw [li, lj] at el
    have el' : Int32.ofNat (xLe.getD i 0) = Int32.ofNat (xLe.getD j 0) := by exact Value.int.inj (Option.some.inj el)
    have hd := xDf_ok i hi j hj hij
    simp only [xDf, Bool.or_eq_true, List.any_eq_true, bne_iff_ne, ne_eq, Bool.and_eq_true, decide_eq_true_eq] at hd
    rcases hd with hd | ⟨k, hk, hk2, hd⟩
    · exact (show ∀ i, i < 18 → ∀ j, j < 18 → xLe.getD i 0 ≠ xLe.getD j 0 → Int32.ofNat (xLe.getD i 0) ≠ Int32.ofNat (xLe.getD j 0) by decide +kernel) i hi j hj hd el'
    · have vi9 := va_eqt (h _ (xPr_1 (xPr1_b hi (List.mem_range.mp hk))))
      have vj9 := va_eqt (h _ (xPr_1 (xPr1_b hj hk2)))
      have ev : (Term.elem (xTv i) (.int (Int32.ofNat k))).eval args s none [] s = (Term.elem (xTv j) (.int (Int32.ofNat k))).eval args s none [] s := by
        show ((xTv i).eval args s none [] s >>= _) = ((xTv j).eval args s none [] s >>= _)
        rw [hv]
      rw [vi9, vj9] at ev
      exact hd (Value.int.inj (Option.some.inj ev))
  show ((Cond.value args s none s [] (Cond.not (Cond.eq (xTm i) (xTm j)))) == some true) = true
  simp only [Cond.value, qa, qb]
  simp [hne]
def xTbA : List Cond := (xNe.map fun q => Cond.methodLinkNest q.1 q.2.1 q.2.2.1 q.2.2.2) ++ (xOn ++ ((xLt.map fun q => Cond.stringRef q.1 q.2.1 (xTx.getD q.2.2 "")) ++ [Cond.initialized "java/lang/Throwable", Cond.initialized "java/lang/String", Cond.initialized "jdk/internal/util/Preconditions", Cond.laysStatic "java/lang/Throwable" "UNASSIGNED_STACK" "[Ljava/lang/StackTraceElement;", Cond.laysStatic "java/lang/Throwable" "SUPPRESSED_SENTINEL" "Ljava/util/List;", Cond.laysStatic "java/lang/String" "COMPACT_STRINGS" "Z", Cond.laysStatic "jdk/internal/util/Preconditions" "SIOOBE_FORMATTER" "Ljava/util/function/BiFunction;", Cond.arrayOver (.object "PacketToll$World"), Cond.arrayOver (.array .int)]))
def xTbI : List Nat := [38, 44, 77, 83, 112, 143, 169, 220, 250, 389, 398, 457, 467, 472, 477, 482, 487, 503, 579, 852, 890, 1105, 1539, 1540, 1541, 1542, 1543, 1544, 1545, 1546, 1547, 1548, 1549, 1550, 1551, 1552, 1553, 1554, 1555, 1556, 1557, 504, 505, 506, 507, 508, 509, 543, 586, 613, 630, 639, 652, 677, 743, 764, 786, 791, 800, 809, 810, 811, 824, 825, 826, 897, 931, 1112, 1126, 1221, 1252, 1268, 1277, 1278, 1286, 1294, 1299, 1300, 1313, 1314, 1315, 14, 19, 21, 528, 530, 691, 707, 397, 1142]
set_option maxRecDepth 100000 in
theorem xTb_eq : xTbA.map some = xTbI.map (fun k => tables_1[k]?) := by decide +kernel
theorem xTb_in : ∀ w ∈ xTbA, w ∈ lw_tbl := by
  intro w hw
  have h : some w ∈ xTbA.map some := List.mem_map.mpr ⟨w, hw, rfl⟩
  rw [xTb_eq] at h
  obtain ⟨k, -, hk⟩ := List.mem_map.mp h
  exact List.mem_append_right _ (List.mem_of_getElem? hk)
theorem xKn_cl {args : Array Value} {s : State} (hts : ∀ w ∈ xT, w.before args s = true) : ∀ (k : Nat), ∃ r : ClassId × (Nat → Nat), ∀ (q : vw_C), vwCl[k]? = some q → u_Kn s q.1 q.2.1 q.2.2 r.1 r.2 := by
  intro k
  match k with
  | 0 =>
    obtain ⟨c, f, h⟩ := u_known hts uw_X0 (hts _ is_X0)
    exact ⟨(c, f), fun q hq => by cases hq; exact h⟩
  | 1 =>
    obtain ⟨c, f, h⟩ := u_known hts uw_X1 (hts _ is_X1)
    exact ⟨(c, f), fun q hq => by cases hq; exact h⟩
  | 2 =>
    obtain ⟨c, f, h⟩ := u_known hts uw_X2 (hts _ is_X2)
    exact ⟨(c, f), fun q hq => by cases hq; exact h⟩
  | 3 =>
    obtain ⟨c, f, h⟩ := u_known hts uw_X3 (hts _ is_X3)
    exact ⟨(c, f), fun q hq => by cases hq; exact h⟩
  | 4 =>
    obtain ⟨c, f, h⟩ := u_known hts uw_X4 (hts _ is_X4)
    exact ⟨(c, f), fun q hq => by cases hq; exact h⟩
  | 5 =>
    obtain ⟨c, f, h⟩ := u_known hts uw_X5 (hts _ is_X5)
    exact ⟨(c, f), fun q hq => by cases hq; exact h⟩
  | 6 =>
    obtain ⟨c, f, h⟩ := u_known hts uw_X6 (hts _ is_X6)
    exact ⟨(c, f), fun q hq => by cases hq; exact h⟩
  | 7 =>
    obtain ⟨c, f, h⟩ := u_known hts uw_X7 (hts _ is_X7)
    exact ⟨(c, f), fun q hq => by cases hq; exact h⟩
  | 8 =>
    obtain ⟨c, f, h⟩ := u_known hts uw_X8 (hts _ is_X8)
    exact ⟨(c, f), fun q hq => by cases hq; exact h⟩
  | 9 =>
    obtain ⟨c, f, h⟩ := u_known hts uw_X9 (hts _ is_X9)
    exact ⟨(c, f), fun q hq => by cases hq; exact h⟩
  | 10 =>
    obtain ⟨c, f, h⟩ := u_known hts uw_X10 (hts _ is_X10)
    exact ⟨(c, f), fun q hq => by cases hq; exact h⟩
  | 11 =>
    obtain ⟨c, f, h⟩ := u_known hts uw_X11 (hts _ is_X11)
    exact ⟨(c, f), fun q hq => by cases hq; exact h⟩
  | 12 =>
    obtain ⟨c, f, h⟩ := u_known hts uw_X12 (hts _ is_X12)
    exact ⟨(c, f), fun q hq => by cases hq; exact h⟩
  | k + 13 => exact ⟨(default, fun _ => 0), fun q hq => by simp [vwCl] at hq⟩
theorem xKn_ar {args : Array Value} {s : State} (hts : ∀ w ∈ xT, w.before args s = true) (hov : ∀ w ∈ xTbA, w.before args s = true) : ∃ ca : Nat → ClassId, ∀ (k : Nat) (q : ClassId × FieldType), [(ca 0, FieldType.byte), (ca 1, .int), (ca 2, .long), (ca 3, .object "PacketToll$World"), (ca 4, .array .int)][k]? = some q → ArrOfT s q.1 q.2 ∧ va_RA s q.1 q.2 := by
  obtain ⟨c0, k0, m0, f0, g0, h0⟩ := Cond.arrayClass_spec (args := args) (first := s) (o := none) (s := s) (idx := []) (hts _ ac_byte)
  obtain ⟨c1, k1, m1, f1, g1, h1⟩ := Cond.arrayClass_spec (args := args) (first := s) (o := none) (s := s) (idx := []) (hts _ ac_int)
  obtain ⟨c2, k2, m2, f2, g2, h2⟩ := Cond.arrayClass_spec (args := args) (first := s) (o := none) (s := s) (idx := []) (hts _ ac_long)
  obtain ⟨m3, c3, k3, e3, -, g3, h3, f3⟩ := Cond.arrayOver_spec (args := args) (first := s) (o := none) (s := s) (idx := []) (n := "PacketToll$World") (hov _ (by simp [xTbA]))
  obtain ⟨m4, c4, k4, e4, -, g4, h4, f4⟩ := arrayOverA_spec (args := args) (first := s) (o := none) (s := s) (idx := []) (t := .int) (hov _ (by simp [xTbA]))
  refine ⟨fun i => if i = 0 then c0 else if i = 1 then c1 else if i = 2 then c2 else if i = 3 then c3 else c4, fun k q hq => ?_⟩
  match k, hq with
  | 0, hq => cases hq; exact ⟨fun N z => ⟨(fun k h => by cases h), k0, g0, m0, h0⟩, f0⟩
  | 1, hq => cases hq; exact ⟨fun N z => ⟨(fun k h => by cases h), k1, g1, m1, h1⟩, f1⟩
  | 2, hq => cases hq; exact ⟨fun N z => ⟨(fun k h => by cases h), k2, g2, m2, h2⟩, f2⟩
  | 3, hq => cases hq; exact ⟨fun N z => ⟨(fun k h => by cases h), k3, g3, m3, h3⟩, k3, m3, g3, h3, e3, f3⟩
  | 4, hq => cases hq; exact ⟨fun N z => ⟨(fun k h => by cases h), k4, g4, m4, h4⟩, f4⟩
  | k + 5, hq => simp at hq
theorem xKn_start {args : Array Value} {s : State} (htb : ∀ w ∈ lw_tbl, w.before args s = true) (hgv : (Jvm.Cond.and given_1 narrow_1).before args s = true) : ∃ G : xGx, G.2.2.1 = s.heap ∧ xKn G s := by
  have hts : ∀ w ∈ xT, w.before args s = true := fun w hw => htb w (List.mem_filter.mp hw).1
  have hov : ∀ w ∈ xTbA, w.before args s = true := fun w hw => htb w (xTb_in w hw)
  have hpr : ∀ w ∈ xPrA, w.before args s = true := fun w hw => flat_of_before _ hgv w (xPr_in w hw)
  have hA : ∀ a : Nat, a < s.heap.size → ¬ (s.heap.size ≤ a) := fun a h => Nat.not_le.mpr h
  obtain ⟨dC, hdC⟩ := Classical.axiomOfChoice (xKn_cl hts)
  obtain ⟨ca, hca⟩ := xKn_ar hts hov
  obtain ⟨adK, adV, hS, hR⟩ := vk_Sof (args := args) (s := s) (N := 18) (tm := xTm) (len := xLe) (byt := xBy) (A := fun q => s.heap.size ≤ q) (by decide +kernel)
    (fun i hi => hpr _ (xPr_1 (xPr1_a hi (by simp)))) (fun i hi => hpr _ (xPr_1 (xPr1_a hi (by simp)))) (fun i hi => hpr _ (xPr_1 (xPr1_a hi (by simp [xTv])))) (fun i hi => hpr _ (xPr_1 (xPr1_a hi (by simp [xTv])))) (fun i hi j hj => hpr _ (xPr_1 (xPr1_b hi hj))) (fun i j hi hj hij => Or.inl (xTm_ne hpr hi hj hij)) hA
  refine ⟨((fun k => (dC k).1, fun k => (dC k).2), ca, s.heap, adK, adV), rfl, ⟨fun k q hq => hdC k q hq, hca⟩, fun q hq => va_Nw.of rfl (hov _ (List.mem_append_left _ (List.mem_map.mpr ⟨q, hq, rfl⟩))), hov (.arrayOver (.object "PacketToll$World")) (by simp [xTbA]), hov (.arrayOver (.array .int)) (by simp [xTbA]), fun w hw => ?_, fun q hq => va_Nc.of (hpr _ (xPr_3 (List.mem_append_left _ (List.mem_map.mpr ⟨q, hq, rfl⟩)))), ?_, ?_, ⟨?_, ?_⟩, hS, ?_⟩
  · refine va_Nw.of ?_ (hov w (List.mem_append_right _ (List.mem_append_left _ hw)))
    rcases List.mem_append.mp hw with q | q <;> obtain ⟨z, -, rfl⟩ := List.mem_map.mp q <;> rfl
  · exact vx_Zqof (hov _ (by simp [xTbA, Bundle.tN, Bundle.steD])) (hov _ (by simp [xTbA, Bundle.tN])) (hpr _ (xPr_3 (by simp [xPr3, Bundle.tN, Bundle.steD]))) hA
  · exact vx_Zqof (hov _ (by simp [xTbA, Bundle.tN, Bundle.listD])) (hov _ (by simp [xTbA, Bundle.tN])) (hpr _ (xPr_3 (by simp [xPr3, Bundle.tN, Bundle.listD]))) hA
  · exact va_Zof (hov _ (by simp [xTbA])) (hov _ (by simp [xTbA])) (va_eqi (hpr _ (xPr_3 (by simp [xPr3])))) hA
  · exact va_Zqof (hov _ (by simp [xTbA])) (hov _ (by simp [xTbA])) (hpr _ (xPr_3 (by simp [xPr3]))) hA
  · intro q hq
    refine vk_R.of (hov _ (List.mem_append_right _ (List.mem_append_right _ (List.mem_append_left _ (List.mem_map.mpr ⟨q, hq, rfl⟩))))) ?_
    have hi : q.2.2 < 18 := (show ∀ q ∈ xLt, q.2.2 < 18 by decide +kernel) q hq
    by_cases e : xFi.getD q.2.2 ("", 0) = (q.1, q.2.1)
    · have h9 := hR q.2.2 hi
      unfold xTm at h9
      rw [e] at h9
      exact h9
    · exact va_eqR (hpr _ (xPr_2 (List.mem_map.mpr ⟨q, List.mem_filter.mpr ⟨hq, by rw [Bool.not_eq_true']; exact beq_eq_false_iff_ne.mpr e⟩, rfl⟩))) (hR q.2.2 hi)
theorem oQ_sm {t t' : xTh} {hi w : Nat} (h : xsm t t' 0 hi) (hl : xlive t) (hz : xz t ≤ hi) (hw : xk t w = 10) (g : oQ t w) : oQ t' w ∧ xq t' w = xq t w ∧ xqn t' w = xqn t w := by
  obtain ⟨g1, k7, r0, kc, nc, r1, ks, ns, hR⟩ := g
  have lw : w < hi := by have := hl w (by omega); omega
  have l0 : xq t w < hi := by have := hl (xq t w) (by omega); omega
  have l1 : xq t w + 1 < hi := by have := hl (xq t w + 1) (by omega); omega
  have l2 : xq t w + 2 < hi := by have := hl (xq t w + 2) (by omega); omega
  have e1 : xr t' w 6 = some (xq t w) := xsm_r h (Nat.zero_le _) lw hw (by decide) g1
  have e2 : xq t' w = xq t w := by unfold xq at *; rw [e1]; rfl
  have e3 : xqn t' w = xqn t w := by unfold xqn; rw [e2]; exact xsm_n h (Nat.zero_le _) l1 kc (by decide) rfl
  refine ⟨⟨by rw [e1, e2], ?_⟩, e2, e3⟩
  rw [e2, e3]
  exact ⟨xsm_k h (Nat.zero_le _) l0 k7 (by decide), xsm_r h (Nat.zero_le _) l0 k7 (by decide) r0, xsm_k h (Nat.zero_le _) l1 kc (by decide), xsm_n h (Nat.zero_le _) l1 kc (by decide) nc, xsm_r h (Nat.zero_le _) l0 k7 (by decide) r1, xsm_k h (Nat.zero_le _) l2 ks (by decide), xsm_n h (Nat.zero_le _) l2 ks (by decide) ns, hR⟩
theorem oX11W_sm {t t' : xTh} {hi x : Nat} (h : xsm t t' 0 hi) (hl : xlive t) (hz : xz t ≤ hi) (hx : x + 436 ≤ hi) (g : oX11W t x) : oX11W t' x := by
  obtain ⟨g1, g2, g3, g4⟩ := g
  have h1 := oQ_sm h hl hz (oX10_k (oX11_o1 g1)) (g2 _ (Or.inr (Or.inl rfl)))
  exact ⟨oX11_sm h (Nat.zero_le _) hx g1, fun w hw => (oQ_sm h hl hz (xWo_k g1 hw) (g2 w hw)).1, h1.2.1.trans g3, h1.2.2.trans g4⟩
theorem xTI_eq {M M' : xMe} {x : Nat} (h : ∀ b, b < x + 436 → M' b = M b) (g : xTI M x) : xTI M' x := ⟨by rw [h x (by omega)]; exact g.1, xRI_eq (fun b h1 h2 => h b (by omega)) g.2.1, xWI_eq (fun b h1 h2 => h b (by omega)) g.2.2.1, xHI_eq (fun b h1 h2 => h b (by omega)) g.2.2.2⟩
theorem xDI_eq {M M' : xMe} {m : Nat} (h : ∀ b, m ≤ b → b < m + 16 → M' b = M b) (g : xDI M m) : xDI M' m := ⟨fun j hj => by rw [h m (by omega) (by omega)]; exact g.1 j hj, by rw [h m (by omega) (by omega)]; exact g.2.1, fun k hk => by rw [h (m + 2) (by omega) (by omega)]; exact g.2.2 k hk⟩
/-- a call of each kind, from J to J -/
def xSt (x m o : Nat) (J : xTh → xMe → Prop) : Prop := ∀ (t : xTh) (M : xMe), J t M → xLG t x m o → xMR M → (xlive t → ∀ p1 p2 p3 p4 p5 : Int, xR p1 → xR p2 → xR p3 → xR p4 → xR p5 →
  (∃ F K : Nat, q_append F K t x m o p1 p2 p3 p4 p5 M J) ∧
  (∃ F K : Nat, q_load F K t x m o p1 M J) ∧
  (q_errorOffset t x m o M J) ∧
  (∃ F : Nat, q_state F t x m o p1 M J) ∧
  (q_gate t x m o p1 p2 M J) ∧
  (∃ F K : Nat, q_flow F K t x m o p1 p2 M J) ∧
  (q_route t x m o p1 p2 M J) ∧
  (q_tokens t x m o p1 p2 M J) ∧
  (q_queue t x m o p1 p2 M J) ∧
  (q_packet t x m o p1 p2 M J) ∧
  (q_coupon t x m o p1 p2 M J) ∧
  (∃ F K : Nat, q_loadOver F K t x m o p1 p2 p3 M J) ∧
  (q_curve t x m o p1 p2 M J) ∧
  (∃ F K : Nat, q_endsAt F K t x m o p1 M J) ∧
  (∃ F K : Nat, q_billAfter F K t x m o p1 p2 M J) ∧
  (∃ F K : Nat, q_help F K t x m o p1 M J) ∧
  (∃ F K : Nat, q_pass F K t x m o p1 M J) ∧
  (∃ K : Nat, q_forward K t x m o p1 p2 M J) ∧
  (∃ K : Nat, q_grant K t x m o p1 p2 p3 M J) ∧
  (∃ K : Nat, q_send K t x m o p1 p2 M J) ∧
  (∃ K : Nat, q_setThrift K t x m o p1 p2 M J) ∧
  (∃ K : Nat, q_undo K t x m o M J) ∧
  (∃ F K : Nat, q_checksum F K t x m o M J))
/-- as the constructors leave it: the PacketToll at x, the model behind it, then the long -/
def xST (x : Nat) (t : xTh) (M : xMe) : Prop := oX11W t x ∧ oX12 t (x + 436) ∧ xk t (x + 452) = 15 ∧ xn t (x + 452) = 1 ∧ xMR M ∧ xTI M x ∧ xDI M (x + 436) ∧ M (x + 452) 0 = 0 ∧ xz t = x + 453
def xMain : Prop := ∀ x : Nat, ∃ J : xTh → xMe → Prop, (∀ t M, xST x t M → J t M) ∧ xSt x (x + 436) (x + 452) J
section XLO
variable {X : xCx} {G : xGx} {Po : Option Value → xTh → xMe → Prop} {Px : String → xTh → xMe → Prop} {b N x m o : Nat} {xs : Nat → Int32} {J : xTh → xMe → Prop}
set_option maxHeartbeats 4000000 in
theorem xST_J {x : Nat} {J : xTh → xMe → Prop} {t : xTh} {M : xMe} (hj : ∀ t M, xST x t M → J t M) (h : xST x t M) : xLG t x (x + 436) (x + 452) ∧ xMR M ∧ J t M := ⟨⟨h.1.1, h.1.2.1, h.2.1, h.2.2.1, h.2.2.2.1⟩, h.2.2.2.2.1, hj t M h⟩
set_option maxHeartbeats 4000000 in
theorem w_it {cells slots : Nat} {t : xTh} {M : xMe} {i : Int} {u5 u6 : Value} (hX : xC X RL "law" cL_law 7 (some .boolean) 1312 G) (hB : xB X 601024 7293034 Po Px) (hS : xScr X b N xs) (hN : N ≤ 3072) (hJ : xSt x m o J) (h0 : 0 ≤ i) (h6 : i + 6 ≤ N) (hc : cells + 6 ≤ 601024) (hs : slots + 1027 ≤ 7293034) (hj : xLG t x m o ∧ xMR M ∧ J t M)
    (kk : ∀ t' M' v5 v6, xLG t' x m o ∧ xMR M' ∧ J t' M' → xJ X (cells + 6) (slots + 1027) t' M' 23 [vr b, vr x, vr m, vr o, vi (i + 6), v5, v6] []) : xJ X cells slots t M 33 [vr b, vr x, vr m, vr o, vi i, u5, u6] [] := by
  refine xJ_live fun hlv => ?_
  obtain ⟨hg, hM, hj1⟩ := hj
  have hst := hJ t M hj1 hg hM hlv _ _ _ _ _ (xR_32 (xs (i + 1).toNat)) (xR_32 (xs (i + 2).toNat)) (xR_32 (xs (i + 3).toNat)) (xR_32 (xs (i + 4).toNat)) (xR_32 (xs (i + 5).toNat))
  have kz : ∀ t' M' v5 v6, xLG t' x m o ∧ xMR M' ∧ J t' M' → ∀ c s, c ≤ cells + 6 → s ≤ slots + 1027 → xJ X c s t' M' 1517 [vr b, vr x, vr m, vr o, vi i, v5, v6] [] := fun t' M' v5 v6 hj' c s hc' hs' => by
    refine xJ_iinc hX dL_law_1517 rfl rfl ?_
    dsimp only [List.set]
    refine xJ_goto hX dL_law_1520 (tgt := 23) (by decide) ?_
    exact xJ_widen hc' hs' (kk t' M' v5 v6 hj')
  have kw : ∀ t' M' v5 v6, xqw t t' → xMR M' → J t' M' → xJ X (cells + 6) (slots + 1027) t' M' 1517 [vr b, vr x, vr m, vr o, vi i, v5, v6] [] := fun t' M' v5 v6 hw hr hj' => kz t' M' v5 v6 ⟨xLG_qw hw hg, hr, hj'⟩ _ _ (Nat.le_refl _) (Nat.le_refl _)
  refine xJ_aload_n hX dL_law_33 rfl ?_
  refine xJ_iload hX dL_law_34 rfl ?_
  refine xJ_scr hX hS hN dL_law_36 (by omega) (by omega) ?_
  refine xJ_bipush hX dL_law_37 rfl ?_
  refine xJ_iand 5 hX dL_law_39 (by decide) (by decide) ?_
  have c0 := Int.emod_nonneg (xs i.toNat).toInt (show ((2 : Int) ^ 5) ≠ 0 by decide)
  have c1 := Int.emod_lt_of_pos (xs i.toNat).toInt (show (0 : Int) < 2 ^ 5 by decide)
  generalize (xs i.toNat).toInt % 2 ^ 5 = c at c0 c1 ⊢
  have c2 : c < 32 := c1
  have hcR : xR c := ⟨by omega, by omega⟩
  have hcs : c = 0 ∨ c = 1 ∨ c = 2 ∨ c = 3 ∨ c = 4 ∨ c = 5 ∨ c = 6 ∨ c = 7 ∨ c = 8 ∨ c = 9 ∨ c = 10 ∨ c = 11 ∨ c = 12 ∨ c = 13 ∨ c = 14 ∨ c = 15 ∨ c = 16 ∨ c = 17 ∨ c = 18 ∨ c = 19 ∨ c = 20 ∨ c = 21 ∨ c = 22 ∨ 22 < c := by omega
  rcases hcs with rfl | rfl | rfl | rfl | rfl | rfl | rfl | rfl | rfl | rfl | rfl | rfl | rfl | rfl | rfl | rfl | rfl | rfl | rfl | rfl | rfl | rfl | rfl | hcs
  · refine xJ_tIn hX dL_law_40 hcR (by decide) (by decide) (off := 108) (tgt := 148) (by decide) (by decide) ?_
    obtain ⟨F, K, hq⟩ := hst.1
    exact w_append hX hB hS hN hg hM h0 h6 hc hs hq kw
  · refine xJ_tIn hX dL_law_40 hcR (by decide) (by decide) (off := 181) (tgt := 221) (by decide) (by decide) ?_
    obtain ⟨F, K, hq⟩ := hst.2.1
    exact w_load hX hB hS hN hg hM h0 h6 hc hs hq kw
  · refine xJ_tIn hX dL_law_40 hcR (by decide) (by decide) (off := 237) (tgt := 277) (by decide) (by decide) ?_
    exact w_errorOffset hX hB hS hN hg hM h0 h6 hc hs hst.2.2.1 kw
  · refine xJ_tIn hX dL_law_40 hcR (by decide) (by decide) (off := 250) (tgt := 290) (by decide) (by decide) ?_
    obtain ⟨F, hq⟩ := hst.2.2.2.1
    exact w_state hX hB hS hN hg hM h0 h6 hc hs hq kw
  · refine xJ_tIn hX dL_law_40 hcR (by decide) (by decide) (off := 306) (tgt := 346) (by decide) (by decide) ?_
    exact w_gate hX hB hS hN hg hM h0 h6 hc hs hst.2.2.2.2.1 kw
  · refine xJ_tIn hX dL_law_40 hcR (by decide) (by decide) (off := 374) (tgt := 414) (by decide) (by decide) ?_
    obtain ⟨F, K, hq⟩ := hst.2.2.2.2.2.1
    exact w_flow hX hB hS hN hg hM h0 h6 hc hs hq kw
  · refine xJ_tIn hX dL_law_40 hcR (by decide) (by decide) (off := 442) (tgt := 482) (by decide) (by decide) ?_
    exact w_route hX hB hS hN hg hM h0 h6 hc hs hst.2.2.2.2.2.2.1 kw
  · refine xJ_tIn hX dL_law_40 hcR (by decide) (by decide) (off := 510) (tgt := 550) (by decide) (by decide) ?_
    exact w_tokens hX hB hS hN hg hM h0 h6 hc hs hst.2.2.2.2.2.2.2.1 kw
  · refine xJ_tIn hX dL_law_40 hcR (by decide) (by decide) (off := 578) (tgt := 618) (by decide) (by decide) ?_
    exact w_queue hX hB hS hN hg hM h0 h6 hc hs hst.2.2.2.2.2.2.2.2.1 kw
  · refine xJ_tIn hX dL_law_40 hcR (by decide) (by decide) (off := 646) (tgt := 686) (by decide) (by decide) ?_
    exact w_packet hX hB hS hN hg hM h0 h6 hc hs hst.2.2.2.2.2.2.2.2.2.1 kw
  · refine xJ_tIn hX dL_law_40 hcR (by decide) (by decide) (off := 714) (tgt := 754) (by decide) (by decide) ?_
    exact w_coupon hX hB hS hN hg hM h0 h6 hc hs hst.2.2.2.2.2.2.2.2.2.2.1 kw
  · refine xJ_tIn hX dL_law_40 hcR (by decide) (by decide) (off := 782) (tgt := 822) (by decide) (by decide) ?_
    obtain ⟨F, K, hq⟩ := hst.2.2.2.2.2.2.2.2.2.2.2.1
    exact w_loadOver hX hB hS hN hg hM h0 h6 hc hs hq kw
  · refine xJ_tIn hX dL_law_40 hcR (by decide) (by decide) (off := 862) (tgt := 902) (by decide) (by decide) ?_
    exact w_curve hX hB hS hN hg hM h0 h6 hc hs hst.2.2.2.2.2.2.2.2.2.2.2.2.1 kw
  · refine xJ_tIn hX dL_law_40 hcR (by decide) (by decide) (off := 930) (tgt := 970) (by decide) (by decide) ?_
    obtain ⟨F, K, hq⟩ := hst.2.2.2.2.2.2.2.2.2.2.2.2.2.1
    exact w_endsAt hX hB hS hN hg hM h0 h6 hc hs hq kw
  · refine xJ_tIn hX dL_law_40 hcR (by decide) (by decide) (off := 986) (tgt := 1026) (by decide) (by decide) ?_
    obtain ⟨F, K, hq⟩ := hst.2.2.2.2.2.2.2.2.2.2.2.2.2.2.1
    exact w_billAfter hX hB hS hN hg hM h0 h6 hc hs hq kw
  · refine xJ_tIn hX dL_law_40 hcR (by decide) (by decide) (off := 1054) (tgt := 1094) (by decide) (by decide) ?_
    obtain ⟨F, K, hq⟩ := hst.2.2.2.2.2.2.2.2.2.2.2.2.2.2.2.1
    exact w_help hX hB hS hN hg hM h0 h6 hc hs hq kw
  · refine xJ_tIn hX dL_law_40 hcR (by decide) (by decide) (off := 1110) (tgt := 1150) (by decide) (by decide) ?_
    obtain ⟨F, K, hq⟩ := hst.2.2.2.2.2.2.2.2.2.2.2.2.2.2.2.2.1
    exact w_pass hX hB hS hN hg hM h0 h6 hc hs hq kw
  · refine xJ_tIn hX dL_law_40 hcR (by decide) (by decide) (off := 1166) (tgt := 1206) (by decide) (by decide) ?_
    obtain ⟨K, hq⟩ := hst.2.2.2.2.2.2.2.2.2.2.2.2.2.2.2.2.2.1
    exact w_forward hX hB hS hN hg hM h0 h6 hc hs hq kw
  · refine xJ_tIn hX dL_law_40 hcR (by decide) (by decide) (off := 1234) (tgt := 1274) (by decide) (by decide) ?_
    obtain ⟨K, hq⟩ := hst.2.2.2.2.2.2.2.2.2.2.2.2.2.2.2.2.2.2.1
    exact w_grant hX hB hS hN hg hM h0 h6 hc hs hq kw
  · refine xJ_tIn hX dL_law_40 hcR (by decide) (by decide) (off := 1314) (tgt := 1354) (by decide) (by decide) ?_
    obtain ⟨K, hq⟩ := hst.2.2.2.2.2.2.2.2.2.2.2.2.2.2.2.2.2.2.2.1
    exact w_send hX hB hS hN hg hM h0 h6 hc hs hq kw
  · refine xJ_tIn hX dL_law_40 hcR (by decide) (by decide) (off := 1382) (tgt := 1422) (by decide) (by decide) ?_
    obtain ⟨K, hq⟩ := hst.2.2.2.2.2.2.2.2.2.2.2.2.2.2.2.2.2.2.2.2.1
    exact w_setThrift hX hB hS hN hg hM h0 h6 hc hs hq kw
  · refine xJ_tIn hX dL_law_40 hcR (by decide) (by decide) (off := 1450) (tgt := 1490) (by decide) (by decide) ?_
    obtain ⟨K, hq⟩ := hst.2.2.2.2.2.2.2.2.2.2.2.2.2.2.2.2.2.2.2.2.2.1
    exact w_undo hX hB hS hN hg hM h0 h6 hc hs hq kw
  · refine xJ_tIn hX dL_law_40 hcR (by decide) (by decide) (off := 1463) (tgt := 1503) (by decide) (by decide) ?_
    obtain ⟨F, K, hq⟩ := hst.2.2.2.2.2.2.2.2.2.2.2.2.2.2.2.2.2.2.2.2.2.2
    exact w_checksum hX hB hS hN hg hM h0 h6 hc hs hq kw
  · refine xJ_tOut hX dL_law_40 hcR (Or.inr hcs) (tgt := 1517) (by decide) ?_
    exact kz _ _ _ _ ⟨hg, hM, hj1⟩ _ _ (by omega) (by omega)
theorem w_loop (hX : xC X RL "law" cL_law 7 (some .boolean) 1312 G) (hB : xB X 601024 7293034 Po Px) (hS : xScr X b N xs) (hN : N ≤ 3072) (hJ : xSt x m o J) (hPo : ∀ t M, Po (some (vi 1)) t M) : ∀ (n cells slots : Nat) (t : xTh) (M : xMe) (i : Int) (u5 u6 : Value), 0 ≤ i → i ≤ N → (N : Int) - i < 6 * n + 6 → cells + 6 * n ≤ 601024 → slots + 1027 * n ≤ 7293034 → (xLG t x m o ∧ xMR M ∧ J t M) → xJ X cells slots t M 23 [vr b, vr x, vr m, vr o, vi i, u5, u6] [] := by
  intro n
  induction n with
  | zero =>
    intro cells slots t M i u5 u6 h0 hi hn hc hs hj
    refine xJ_iload hX dL_law_23 rfl ?_
    refine xJ_aload_n hX dL_law_25 rfl ?_
    refine xJ_scl hX hS dL_law_26 ?_
    refine xJ_bipush hX dL_law_27 rfl ?_
    refine xJ_isub hX dL_law_29 ?_
    refine xJ_icmp_gt hX dL_law_30 (tgt := 1523) (by decide) ⟨by omega, by omega⟩ ⟨by omega, by omega⟩ (fun _ => ?_) (fun q => by exfalso; omega)
    refine xJ_iconst hX dL_law_1523 ?_
    exact xJ_zret hX hB dL_law_1524 (by decide) (by omega) (by omega) (hPo _ _)
  | succ n ih =>
    intro cells slots t M i u5 u6 h0 hi hn hc hs hj
    refine xJ_iload hX dL_law_23 rfl ?_
    refine xJ_aload_n hX dL_law_25 rfl ?_
    refine xJ_scl hX hS dL_law_26 ?_
    refine xJ_bipush hX dL_law_27 rfl ?_
    refine xJ_isub hX dL_law_29 ?_
    refine xJ_icmp_gt hX dL_law_30 (tgt := 1523) (by decide) ⟨by omega, by omega⟩ ⟨by omega, by omega⟩ (fun _ => ?_) (fun q => ?_)
    · refine xJ_iconst hX dL_law_1523 ?_
      exact xJ_zret hX hB dL_law_1524 (by decide) (by omega) (by omega) (hPo _ _)
    · have e1 : i + 6 ≤ (N : Int) := by omega
      have e4 : cells + 6 + 6 * n ≤ 601024 := by rw [Nat.mul_succ, Nat.add_comm (6 * n) 6, ← Nat.add_assoc] at hc; exact hc
      have e5 : slots + 1027 + 1027 * n ≤ 7293034 := by rw [Nat.mul_succ, Nat.add_comm (1027 * n) 1027, ← Nat.add_assoc] at hs; exact hs
      have e2 : cells + 6 ≤ 601024 := Nat.le_trans (Nat.le_add_right _ _) e4
      have e3 : slots + 1027 ≤ 7293034 := Nat.le_trans (Nat.le_add_right _ _) e5
      exact w_it hX hB hS hN hJ h0 e1 e2 e3 hj (fun t' M' v5 v6 hj' => ih _ _ t' M' (i + 6) v5 v6 (by omega) e1 (by omega) e4 e5 hj')
set_option maxHeartbeats 4000000 in
theorem w_law {z : Nat} (hX : xC X RL "law" cL_law 7 (some .boolean) 1312 G) (hB : xB X 601024 7293034 Po Px) (hS : xScr X b N xs) (hN : N ≤ 3072) (hm : xMain) (hPo : ∀ t M, Po (some (vi 1)) t M) : xJ X 0 0 (z, fun _ => 99, fun _ => 0, fun _ _ => none) (fun _ _ => 0) 0 [vr b, vU, vU, vU, vU, vU, vU] [] := by
  have hM0 : xMR (fun _ _ => (0 : Int)) := fun _ _ => xR_0
  refine xJ_new hX hB dL_law_0 (ci := 11) rfl (by decide) ft_X11 uw_X11 kl_L_8 is_X11 in_X11 rfl (by decide) (by decide) (by decide) ?_
  refine xJ_dup hX dL_law_3 rfl ?_
  refine xJ_callI (As := []) (b := z) hX hB dL_law_4 lk_L_77 im_X11_init rfl (c_X11_init xkN_new rfl (xMR_0 hM0) (fun j => xw0_self)) (by decide) rfl rfl rfl (Nat.le_of_ble_eq_true rfl) (by decide) (by decide) ?_
  rintro v t1 M1 ⟨rfl, g1, g2, g3, g4, g5, g6⟩
  refine xJ_live fun hl1 => ?_
  refine xJ_astore_n hX dL_law_7 (Nat.le_of_ble_eq_true rfl) rfl ?_
  dsimp only [List.set]
  refine xJ_new hX hB dL_law_8 (ci := 12) rfl (by decide) ft_X12 uw_X12 kl_L_78 is_X12 in_X12 rfl (by decide) (by decide) (by decide) ?_
  refine xJ_dup hX dL_law_11 rfl ?_
  refine xJ_callI (As := []) (b := xz t1) hX hB dL_law_12 lk_L_80 im_X12_init rfl (c_X12_init xkN_new rfl (xMR_0 g1) (fun j => xw0_self)) (by decide) rfl rfl rfl (Nat.le_of_ble_eq_true rfl) (by decide) (by decide) ?_
  rintro v t2 M2 ⟨rfl, k1, k2, k3, k4, k5, k6⟩
  refine xJ_astore_n hX dL_law_15 (Nat.le_of_ble_eq_true rfl) rfl ?_
  dsimp only [List.set]
  refine xJ_iconst hX dL_law_16 ?_
  refine xJ_newJ hX hB dL_law_17 ac_long (by decide) (by decide) (by decide) (by decide) ?_
  refine xJ_astore_n hX dL_law_19 (Nat.le_of_ble_eq_true rfl) rfl ?_
  dsimp only [List.set]
  refine xJ_iconst hX dL_law_20 ?_
  refine xJ_istore hX dL_law_21 (Nat.le_of_ble_eq_true rfl) rfl ?_
  dsimp only [List.set]
  have hz1 : xz t1 = z + 436 := g2
  have hz2 : xz t2 = z + 452 := by rw [k2, hz1]
  rw [hz1] at k3 k4 k5 k6 ⊢
  rw [hz2]
  obtain ⟨J, hj0, hJ⟩ := hm z
  have s1 : xsm t1 t2 0 (z + 436) := xsm_trans (xsm_new (by omega)) k3
  have s2 : xsm t1 (xnw t2 15 (1 : Int).toNat) 0 (z + 436) := xsm_trans s1 (xsm_new (by omega))
  have e1 : (0 : Int) ≤ (N : Int) := by omega
  have e2 : (N : Int) - 0 < 6 * ((512 : Nat) : Int) + 6 := by omega
  refine w_loop hX hB hS hN hJ hPo 512 _ _ _ _ 0 _ _ (by decide) e1 e2 (by decide) (by decide) (xST_J hj0 ⟨oX11W_sm s2 hl1 (by omega) (Nat.le_refl _) g4, oX12_sm (xsm_new (lo := z + 436) (hi := z + 452) (by omega)) (Nat.le_refl _) (Nat.le_refl _) k4, ?_, ?_, xMR_0 k1, ?_, ?_, ?_, ?_⟩)
  · rw [← hz2]; exact xkN_new
  · rw [← hz2]; exact xn_new2
  · have e : ∀ b, b < z + 436 → xw0 M2 (z + 452) b = M1 b := fun b hb => by
      rw [show xw0 M2 (z + 452) b = M2 b by funext j; unfold xw0; rw [if_neg (by omega)], k5 b hb]
      funext j; unfold xw0; rw [if_neg (by omega)]
    exact xTI_eq e g6
  · exact xDI_eq (fun b h1 h2 => by funext j; unfold xw0; rw [if_neg (by omega)]) k6
  · exact xw0_self
  · show xz t2 + 1 = _; omega
end XLO
/-! THE CLAIM OUT OF ONE WALK OF THE LAW'S BODY. Your part is whole_start (and what it stands on); all else here is the same for every law, but numbers. -/
def R_law : String := "PacketTollLaw"
def lw_P (b : Addr) (xs : List Int32) (args : Array Value) (s : State) : Prop := args = #[.ref b] ∧ s.IntsAt b xs ∧ xs.length ≤ 3072 ∧ (Jvm.Cond.and given_1 narrow_1).before args s = true
def lw_Q (_ : Array Value) (s : State) (o : Outcome) (t : State) : Prop := o = .returned (some (.int 1)) ∧ Framed s o t [] 601024 7293034
def lw_Z (below : List Frame) (a : Array Value) (s : State) : State → Prop := fun t => ∃ o, t.status = .running ∧ Ended t below o ∧ lw_Q a s o t
/-- what holds at the law's entry: the machine, the code, the tables' words (any of lw_tbl by 'hts w (by decide +kernel)'), the script of L ints xs at the cell b, what the Statement gives of the start (any of its parts by flat_of_before) -/
def lw_At (p : Program) (s : State) (m : MethodId) (meth : Method) (c : Code) (b L : Nat) (xs : Nat → Int32) : Prop :=
  p.tables.exec = Jvm.exec ∧ c.code = code ∧ meth.sig.returnType = ret ∧ c.maxLocals = 7 ∧ s.vm.findClass R_law = some m.cls ∧ (∀ w ∈ lw_tbl, w.before #[Value.ref b] s = true) ∧ va_X b L xs s s.heap ∧ b < s.heap.size ∧ meth.locks = false ∧ (Jvm.Cond.and given_1 narrow_1).before #[Value.ref b] s = true ∧ meth.name = "law" ∧ c.exceptionTable.toList = []
set_option maxHeartbeats 4000000 in
theorem whole_start {p : Program} {e : Env} {s : State} {m : MethodId} {below : List Frame} {meth : Method} {c : Code} (hm : xMain) (l : Launch) (hflags : l.flags = flags0) {b L : Nat} {xs : Nat → Int32} (hL : L ≤ 3072) (C0 : lw_At p s m meth c b L xs) : W p l e room_1 s m #[Value.ref b] below meth c s.heap [] 0 0 (lw_Z below #[Value.ref b] s) (entryFrame m ([Value.ref b] : List Value).toArray 7) := by
  obtain ⟨hx, hb, hr, hml, hown, hts, hX, hbl, hlocks, hgv, hnm, hnil⟩ := C0
  obtain ⟨⟨g1, ca, h9, adK, adV⟩, hG, hKn⟩ := xKn_start hts hgv
  have hG : h9 = s.heap := hG
  subst hG
  have hst : l.stackTraces = false := by unfold Launch.stackTraces; rw [hflags]; decide
  have k := w_law (X := (p, l, e, xRm 1312 601024 7293034, s, m, #[Value.ref b], below, meth, c, (g1, ca, s.heap, adK, adV), (fun v _ _ => v = some (vi 1)), (fun _ _ _ => False), 601024, 7293034)) (G := (g1, ca, s.heap, adK, adV)) (Po := fun v _ _ => v = some (vi 1)) (Px := fun _ _ _ => False) (b := b) (N := L) (xs := xs) (z := s.heap.size)
    ⟨hx, hb, hml, hown, fun w hw => hts w (List.mem_filter.mp hw).1, hr, hlocks, hKn, va_S.rf, hnm, rfl, rfl, hst⟩ ⟨rfl, rfl, rfl, rfl, hnil⟩ ⟨hX, hbl, Nat.not_le.mpr hbl⟩ hL hm (fun _ _ => rfl)
  have k := k s.heap [] _ (Nat.le_refl _) ⟨va_S.rf, rfl, fun _ => (by show 0 < _; decide), [], fun a => ⟨fun h => absurd h List.not_mem_nil, fun h => absurd h (by show ¬ (99 ≤ 17); decide)⟩, fun k q h => by simp [va_pl] at h, ⟨fun i j p q h => by simp [va_pl] at h, fun k q h => by simp [va_pl] at h⟩⟩ (xLv_entry [Value.ref b] (n := 7) (Nat.le_of_ble_eq_true rfl))
  rw [lg_entry_eq]
  intro T hT X0
  have X1 : Stand p l e (xRm 1312 601024 7293034) s m #[Value.ref b] below meth c T [] 0 0 := { X0 with room := (by
    have h := X0.room
    simp only [State.hasRoom, Bool.and_eq_true, decide_eq_true_eq] at h ⊢
    obtain ⟨⟨⟨⟨h1, h2, h3, h4, h5, h6⟩, h7⟩, h8⟩, h9⟩ := h
    simp only [room_1, xRm] at h1 h2 h3 h4 h5 h6 h7 h8 h9 ⊢
    refine ⟨⟨⟨⟨by omega, by omega, by omega, by omega, by omega, ?_⟩, by omega⟩, by omega⟩, h9⟩
    exact h6) }
  obtain ⟨t, st, o, r1, r2, r3⟩ := k T hT X1
  refine ⟨t, st, o, r1, r2, ?_⟩
  rcases r3 with ⟨⟨v, t9, M9, rfl, rfl, -⟩, L9, hF, hfree⟩ | ⟨q, rfl, hq⟩
  · refine ⟨rfl, hF.1, hF.2.1, hF.2.2.weaken (fun y hy hlt => absurd hlt (Nat.not_lt.mpr (hfree y hy))) (Nat.le_refl _) (Nat.le_refl _)⟩
  · obtain ⟨E, ce, L9, ⟨t8, M8, f, -⟩, -⟩ := hq
    exact f.elim
set_option maxHeartbeats 4000000 in
theorem lw_walk (hm : xMain) (l : Launch) (hflags : l.flags = flags0) (b : Addr) (xs : List Int32) : MetFree l x (headSpec (Jvm.Cond.code x code maxLocals ret :: tables_1) room_1) (lw_P b xs) (fun _ _ _ _ _ => True) lw_Q := by
  refine MetFree.of_bodyS (code := code) (maxLocals := maxLocals) (ret := ret) (by decide) ?_ ?_
  · intro args s m h hn
    obtain ⟨meth, c, h1, h2, h3, h4, h5, h6, -, -⟩ := Cond.code_spec hn (atoms_spec (ws := Jvm.Cond.code x code maxLocals ret :: tables_1) h _ List.mem_cons_self)
    exact ⟨meth, c, h1, h2, h3, h4, h5, h6⟩
  · intro p e s m args below meth c s₁ B hml0 hP _
    obtain ⟨rfl, hx, hbd, hgv⟩ := hP
    obtain ⟨scr, harrAt, hlist, hof, hsmall⟩ := hx
    obtain ⟨hcb, hkn, -, -⟩ := State.arrayAt?_spec harrAt
    have hown : s.vm.findClass R_law = some m.cls := findClass_of_methodNamed B.named
    have hts0 : ∀ c ∈ (Jvm.Cond.code x code maxLocals ret :: tables_1), c.before #[Value.ref b] s = true := atoms_spec (ws := Jvm.Cond.code x code maxLocals ret :: tables_1) B.pre
    have hts : ∀ w ∈ lw_tbl, w.before #[Value.ref b] s = true := k2_hts_sels lw_privs (fun w hw => hts0 w (List.mem_cons_of_mem _ hw)) lw_privs_ok
    have hml : c.maxLocals = 7 := B.maxLocals_eq (hts0 _ List.mem_cons_self)
    have X₀ : Stand p l e room_1 s m #[Value.ref b] below meth c s₁ [] 0 0 := Stand.of_body B
    have hh0 : s₁.heap = s.heap := by rw [B.state]; rfl
    have hsz : scr.slots.size = xs.length := by rw [← Array.length_toList, hlist, List.length_map]
    have hval : ∀ j : Nat, j < xs.length → scr.slots[j]? = some (.int (xs.getD j 0)) := fun j hj => by
      rw [← Array.getElem?_toList, hlist]
      simp [hj]
    have hbl : b < s.heap.size := (Array.getElem?_eq_some_iff.mp hcb).1
    have hX : va_X b xs.length (fun j => xs.getD j 0) s s.heap := ⟨scr, hcb, hof, hkn, hsz, hval⟩
    have K : W p l e room_1 s m #[Value.ref b] below meth c s₁.heap [] 0 0 (lw_Z below #[Value.ref b] s) (entryFrame m ([Value.ref b] : List Value).toArray 7) := by
      rw [hh0]
      have ht : c.exceptionTable.toList = [] := by
        obtain ⟨meth9, c9, h1, h2, -, -, -, -, h7, -⟩ := Cond.code_spec B.named (hts0 _ List.mem_cons_self)
        cases Option.some.inj (h1.symm.trans B.method)
        cases Option.some.inj (h2.symm.trans (Stand.of_body B).code)
        rw [Array.isEmpty_iff.mp h7]
      exact whole_start hm l hflags hbd ⟨B.exec, B.bytes, B.returns, hml, hown, hts, hX, hbl, B.notSynchronized, hgv, (name_of_methodNamed B.named B.method).1, ht⟩
    obtain ⟨t, a1, o, b1, b2, b3⟩ := K s₁ rfl X₀
    exact ⟨t, o, a1, b1, b2, b3⟩
theorem lw_pre_spec {args : Array Value} {s : State} (h : (Jvm.Cond.and given_1 narrow_1).before args s = true) (hr : rest_1_c.before args s = true) : ∃ (b : Addr) (xs : List Int32), lw_P b xs args s := by
  have hs := flat_of_before _ h
  have hq := flat_of_before _ hr
  have hc : (Cond.count 1).before args s = true := hs _ (by decide +kernel)
  have harr : (Cond.arrayOf (.arg 0) .int).before args s = true := hs _ (by decide +kernel)
  have hle : (Cond.le (.length (.arg 0)) (.int 3072)).before args s = true := hs _ (by decide +kernel)
  have hlen : (Cond.isInt (.length (.arg 0))).before args s = true := hq _ (by decide +kernel)
  have hall : (Cond.all (.arg 0) (.isInt (.elem (.arg 0) (.index 0)))).before args s = true := hq _ (by decide +kernel)
  obtain ⟨b, xs, hb, hx⟩ := State.ints_of_pre rfl harr hlen hall
  have hsm : xs.length < 2 ^ 31 := hx.choose_spec.2.2.2
  have hev : (Term.length (.arg 0)).eval args s none [] s = some (.int xs.length.toInt32) := hx.length_eval hb
  have hv := Cond.le_ints hev (show (Term.int 3072).eval args s none [] s = some (.int 3072) from rfl)
  have hd : xs.length.toInt32 ≤ 3072 := by
    simpa [Cond.before, Cond.holds, hv] using hle
  have hN : xs.length ≤ 3072 := (Int32.ofNat_le_ofNat hsm (by decide)).mp (show Int32.ofNat xs.length ≤ Int32.ofNat 3072 from hd)
  exact ⟨b, xs, Cond.one_arg hc (show args[0]? = some (.ref b) from hb), hx, hN, h⟩
theorem lw_comes (hm : xMain) (l : Launch) (hflags : l.flags = flags0) : Comes l x (Jvm.Cond.code x code maxLocals ret :: tables_1) room_1 (fun tb e args s => Calls_1 tb e args s ∧ rest_1 tb e args s ∧ Pre_1 tb e args s)
    (fun _ _ args s o t => lw_Q args s o t) := by
  intro p e ha hc hk s m args below hf hfit hheap happ hpre
  obtain ⟨b, xs, hP⟩ := lw_pre_spec hpre.2.2 hpre.2.1
  obtain ⟨k, o, h1, h2, h3, hQ⟩ := lw_walk hm l hflags b xs p e ha hc hk s m args below hf ((Spec.applies_iff_loose hf).mp happ).1 hP trivial
  exact ⟨k, o, h1, h2, h3, hQ⟩
theorem lw_frame {s t : State} {o : Outcome} {args : Array Value} (h : Framed s o t [] 601024 7293034) :
    Framed s o t (fieldLocs frame_1_writes args s ++ arrayLocs frame_1_arrays args s ++ staticLocs frame_1_statics s) 601024 7293034 := h
theorem lw_limb (hm : xMain) (L : Cond) (hL : ∀ (args : Array Value) (s t : State), L.after args s (.returned (some (.int 1))) t = true) :
    ArmFor flags0 classFile x code maxLocals ret World_1 tables_1 room_1 Calls_1 rest_1 Pre_1
      (fun tb e a s o t => postC L tb e a s o t ∧ Framed s o t (fieldLocs frame_1_writes a s ++ arrayLocs frame_1_arrays a s ++ staticLocs frame_1_statics s) 601024 7293034) := by
  intro l hflags _ _ p e ha hc hk s m args below hf hfit hheap happ hpre
  obtain ⟨k, o, h1, h2, h3, rfl, hF⟩ := lw_comes hm l hflags p e ha hc hk s m args below hf hfit hheap happ hpre
  exact ⟨k, _, h1, h2, h3, hL args s _, lw_frame hF⟩
theorem lw_all (hm : xMain) : Claimed_1_1 ∧ Claimed_1_2 := ⟨lw_limb hm limb_1_1 (fun args s t => by simp [limb_1_1, Cond.after, Cond.holds, Cond.value]), lw_limb hm limb_1_2 (fun args s t => Cond.after_iff.mpr (by
  first | (rw [show limb_1_2 = Cond.eq .result (.int 1) from rfl, Cond.eq_ints (x := 1) (y := 1) rfl rfl]; simp; done) | (simp [limb_1_2, Cond.value, Term.eval]; done)))⟩
