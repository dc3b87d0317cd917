def xFi : List (String × Nat) := [("PacketToll$SetupReader", 53), ("PacketToll$SetupReader", 105), ("PacketToll$SetupReader", 110), ("PacketToll$SetupReader", 115), ("PacketToll$SetupReader", 120), ("PacketToll$SetupReader", 125), ("PacketToll$SetupReader", 133), ("PacketToll$SetupReader", 141), ("PacketToll$SetupReader", 174), ("PacketToll$SetupReader", 214), ("PacketToll$SetupReader", 216), ("PacketToll$SetupReader", 218), ("PacketToll", 120), ("PacketToll", 162), ("PacketToll", 252), ("PacketToll", 254), ("PacketToll", 285), ("PacketToll", 52), ("PacketTollLaw", 126), ("PacketTollLaw", 118), ("PacketTollLaw", 146), ("PacketTollLaw", 155), ("PacketTollLaw", 187), ("PacketTollLaw$Node", 37), ("PacketTollLaw$Node", 60), ("PacketTollLaw$Node", 62), ("PacketTollLaw$Node", 64), ("PacketTollLaw$Node", 66), ("PacketTollLaw$Node", 68), ("PacketTollLaw$Node", 70), ("PacketTollLaw", 193)]
def xTm (i : Nat) : Term := Term.string (xFi.getD i ("", 0)).1 (xFi.getD i ("", 0)).2
def xTv (i : Nat) : Term := Term.field (xTm i) "java/lang/String" "value" "[B"
def vi_t (n : Nat) : Term := .int (Int32.ofInt (n : Int))
def xPr1 : List Cond := (List.range 31).flatMap fun i => [Cond.exactly (xTm i) "java/lang/String", Cond.eq (.field (xTm i) "java/lang/String" "coder" "B") (.int 0), Cond.arrayOf (xTv i) .byte, Cond.eq (.length (xTv i)) (.int (Int32.ofNat (xLe.getD i 0)))] ++ ((List.range (xLe.getD i 0)).map fun j => Cond.eq (.elem (xTv i) (.int (Int32.ofNat j))) (.int ((xBy.getD i []).getD j 0)))
def xPr2 : List Cond := (xLt.filter fun q => !(xFi.getD q.2.2 ("", 0) == (q.1, q.2.1))).map fun q => Cond.eq (xTm q.2.2) (Term.string q.1 q.2.1)
def xPr3 : List Cond := (xNc.map fun q => Cond.not (.castable q.1 q.2)) ++ [Cond.isRef (.static "java/lang/Throwable" "UNASSIGNED_STACK" "[Ljava/lang/StackTraceElement;"), Cond.isRef (.static "java/lang/Throwable" "SUPPRESSED_SENTINEL" "Ljava/util/List;"), Cond.eq (.static "java/lang/String" "COMPACT_STRINGS" "Z") (.int 1), Cond.isRef (.static "jdk/internal/util/Preconditions" "SIOOBE_FORMATTER" "Ljava/util/function/BiFunction;")]
def xDg1 : Term := .static "java/lang/Integer" "DigitOnes" "[B"
def xDg2 : Term := .static "java/lang/Integer" "DigitTens" "[B"
def xVar : Term := .static "PacketTollLaw" "VARIABLES" "[Ljava/lang/String;"
def xPr4 : List Cond := [Cond.arrayOf xDg1 .byte, Cond.eq (.length xDg1) (.int 100)] ++ (List.range 100).map fun j => Cond.eq (.elem xDg1 (.int (Int32.ofNat j))) (vi_t (48 + j % 10))
def xPr5 : List Cond := [Cond.arrayOf xDg2 .byte, Cond.eq (.length xDg2) (.int 100)] ++ (List.range 100).map fun j => Cond.eq (.elem xDg2 (.int (Int32.ofNat j))) (vi_t (48 + j / 10))
def xPr6 : List Cond := [Cond.arrayOf xVar (.object "java/lang/String"), Cond.eq (.length xVar) (.int 4)] ++ (List.range 4).map fun j => Cond.eq (.elem xVar (.int (Int32.ofNat j))) (.string "PacketTollLaw" ([277, 141, 279, 281].getD j 0))
def xPr7 : List Cond := [Cond.eq (xTm 9) (.string "PacketTollLaw" 277), Cond.eq (xTm 1) (.string "PacketTollLaw" 141), Cond.eq (xTm 10) (.string "PacketTollLaw" 279), Cond.eq (xTm 11) (.string "PacketTollLaw" 281)]
def xPrB : List Cond := xPr4 ++ (xPr5 ++ (xPr6 ++ xPr7))
def xPrA : List Cond := xPr1 ++ (xPr2 ++ (xPr3 ++ xPrB))
def xPrI : List Nat := [356, 357, 358, 359, 360, 361, 362, 363, 364, 365, 366, 367, 368, 369, 370, 371, 372, 373, 374, 375, 376, 377, 378, 379, 390, 391, 392, 393, 394, 395, 396, 397, 398, 399, 400, 401, 402, 403, 404, 405, 406, 407, 408, 409, 410, 411, 412, 413, 414, 415, 416, 417, 418, 419, 420, 421, 422, 423, 424, 425, 426, 427, 428, 429, 430, 431, 432, 433, 434, 435, 380, 381, 382, 383, 384, 385, 386, 387, 388, 389, 436, 437, 438, 439, 440, 441, 442, 443, 444, 445, 446, 447, 448, 449, 450, 451, 452, 453, 454, 455, 456, 457, 458, 459, 460, 701, 702, 703, 704, 705, 706, 707, 708, 470, 471, 472, 473, 474, 475, 476, 477, 478, 526, 527, 528, 529, 530, 531, 532, 533, 534, 535, 536, 537, 538, 539, 540, 541, 542, 543, 544, 545, 546, 547, 488, 489, 490, 491, 492, 493, 494, 495, 496, 497, 498, 499, 500, 501, 502, 503, 346, 347, 348, 349, 350, 351, 352, 353, 354, 355, 548, 549, 550, 551, 552, 553, 554, 555, 556, 567, 568, 569, 570, 571, 572, 573, 574, 575, 576, 587, 588, 589, 590, 591, 592, 593, 594, 595, 596, 597, 641, 642, 643, 644, 645, 646, 647, 648, 649, 650, 651, 652, 653, 654, 662, 663, 664, 665, 666, 667, 668, 669, 670, 671, 672, 673, 674, 675, 676, 677, 678, 679, 680, 681, 682, 683, 684, 685, 686, 687, 688, 689, 690, 691, 692, 693, 694, 695, 696, 697, 698, 699, 700, 469, 487, 514, 525, 565, 585, 608, 620, 629, 640, 717, 727, 736, 238, 239, 243, 258, 259, 263, 278, 279, 280, 298, 299, 303, 4, 5, 6, 7, 12, 13, 14, 15, 16, 17, 18, 19, 20, 21, 22, 23, 24, 25, 26, 27, 28, 29, 30, 31, 32, 33, 34, 35, 36, 37, 38, 39, 40, 41, 42, 43, 44, 45, 46, 47, 48, 49, 50, 51, 52, 53, 54, 55, 56, 57, 58, 59, 60, 61, 62, 63, 64, 65, 66, 67, 68, 69, 70, 71, 72, 73, 74, 75, 76, 77, 78, 79, 80, 81, 82, 83, 84, 85, 86, 87, 88, 89, 90, 91, 92, 93, 94, 95, 96, 97, 98, 99, 100, 101, 102, 103, 104, 105, 106, 107, 108, 109, 110, 111, 112, 113, 115, 116, 117, 118, 119, 120, 121, 122, 123, 124, 125, 126, 127, 128, 129, 130, 131, 132, 133, 134, 135, 136, 137, 138, 139, 140, 141, 142, 143, 144, 145, 146, 147, 148, 149, 150, 151, 152, 153, 154, 155, 156, 157, 158, 159, 160, 161, 162, 163, 164, 165, 166, 167, 168, 169, 170, 171, 172, 173, 174, 175, 176, 177, 178, 179, 180, 181, 182, 183, 184, 185, 186, 187, 188, 189, 190, 191, 192, 193, 194, 195, 196, 197, 198, 199, 200, 201, 202, 203, 204, 205, 206, 207, 208, 209, 210, 211, 212, 213, 214, 215, 216, 218, 219, 220, 221, 222, 223, 717, 565, 727, 736]
set_option maxRecDepth 100000 in
theorem xPr_eq : xPrA.map some = xPrI.map (fun k => (flatC (Jvm.Cond.and given_1 narrow_1))[k]?) := by decide +kernel
theorem xPr_in : ∀ w ∈ xPrA, w ∈ flatC (Jvm.Cond.and given_1 narrow_1) := by
  intro w hw
  have h : some w ∈ xPrA.map some := List.mem_map.mpr ⟨w, hw, rfl⟩
  rw [xPr_eq] at h
  obtain ⟨k, -, hk⟩ := List.mem_map.mp h
  exact List.mem_of_getElem? hk
theorem xPr_1 {w : Cond} (h : w ∈ xPr1) : w ∈ xPrA := List.mem_append_left _ h
theorem xPr_2 {w : Cond} (h : w ∈ xPr2) : w ∈ xPrA := List.mem_append_right _ (List.mem_append_left _ h)
theorem xPr_3 {w : Cond} (h : w ∈ xPr3) : w ∈ xPrA := List.mem_append_right _ (List.mem_append_right _ (List.mem_append_left _ h))
theorem xPr_B {w : Cond} (h : w ∈ xPrB) : w ∈ xPrA := List.mem_append_right _ (List.mem_append_right _ (List.mem_append_right _ h))
/-- the texts' first differing place -/
def xDf (i j : Nat) : Bool := (xLe.getD i 0 != xLe.getD j 0) || (List.range (xLe.getD i 0)).any fun k => k < xLe.getD j 0 && ((xBy.getD i []).getD k 0 != (xBy.getD j []).getD k 0)
theorem xDf_ok : ∀ i, i < 31 → ∀ j, j < 31 → i ≠ j → xDf i j = true := by decide +kernel
theorem xPr1_a {i : Nat} {w : Cond} (hi : i < 31) (hw : w ∈ [Cond.exactly (xTm i) "java/lang/String", Cond.eq (.field (xTm i) "java/lang/String" "coder" "B") (.int 0), Cond.arrayOf (xTv i) .byte, Cond.eq (.length (xTv i)) (.int (Int32.ofNat (xLe.getD i 0)))]) : w ∈ xPr1 := List.mem_flatMap.mpr ⟨i, List.mem_range.mpr hi, List.mem_append_left _ hw⟩
theorem xPr1_b {i j : Nat} (hi : i < 31) (hj : j < xLe.getD i 0) : Cond.eq (.elem (xTv i) (.int (Int32.ofNat j))) (.int ((xBy.getD i []).getD j 0)) ∈ xPr1 := List.mem_flatMap.mpr ⟨i, List.mem_range.mpr hi, List.mem_append_right _ (List.mem_map.mpr ⟨j, List.mem_range.mpr hj, rfl⟩)⟩
theorem xTv_eval {i j : Nat} {args : Array Value} {s : State} {a : Nat} (hi : (xTm i).eval args s none [] s = some (.ref a)) (hj : (xTm j).eval args s none [] s = some (.ref a)) : (xTv i).eval args s none [] s = (xTv j).eval args s none [] s := by
  show ((xTm i).eval args s none [] s >>= _) = ((xTm j).eval args s none [] s >>= _)
  rw [hi, hj]
theorem xTm_ne {args : Array Value} {s : State} (h : ∀ w ∈ xPrA, w.before args s = true) {i j : Nat} (hi : i < 31) (hj : j < 31) (hij : i ≠ j) : (Cond.not (Cond.eq (xTm i) (xTm j))).before args s = true := by
  obtain ⟨a, _, _, _, qa, -⟩ := Cond.exactly_spec (args := args) (first := s) (o := none) (s := s) (idx := []) (h _ (xPr_1 (xPr1_a hi List.mem_cons_self)))
  obtain ⟨b, _, _, _, qb, -⟩ := Cond.exactly_spec (args := args) (first := s) (o := none) (s := s) (idx := []) (h _ (xPr_1 (xPr1_a hj List.mem_cons_self)))
  have hne : a ≠ b := by
    rintro rfl
    have hv := xTv_eval qa qb
    have li := va_eqt (h _ (xPr_1 (xPr1_a hi (w := Cond.eq (.length (xTv i)) (.int (Int32.ofNat (xLe.getD i 0)))) (by simp))))
    have lj := va_eqt (h _ (xPr_1 (xPr1_a hj (w := Cond.eq (.length (xTv j)) (.int (Int32.ofNat (xLe.getD j 0)))) (by simp))))
    have el : (Term.length (xTv i)).eval args s none [] s = (Term.length (xTv j)).eval args s none [] s := by
      show ((xTv i).eval args s none [] s >>= _) = ((xTv j).eval args s none [] s >>= _)
      rw [hv]
    rw [li, lj] at el
    have el' : Int32.ofNat (xLe.getD i 0) = Int32.ofNat (xLe.getD j 0) := by exact Value.int.inj (Option.some.inj el)
    have hd := xDf_ok i hi j hj hij
    simp only [xDf, Bool.or_eq_true, List.any_eq_true, bne_iff_ne, ne_eq, Bool.and_eq_true, decide_eq_true_eq] at hd
    rcases hd with hd | ⟨k, hk, hk2, hd⟩
    · exact (show ∀ i, i < 31 → ∀ j, j < 31 → xLe.getD i 0 ≠ xLe.getD j 0 → Int32.ofNat (xLe.getD i 0) ≠ Int32.ofNat (xLe.getD j 0) by decide +kernel) i hi j hj hd el'
    · have vi9 := va_eqt (h _ (xPr_1 (xPr1_b hi (List.mem_range.mp hk))))
      have vj9 := va_eqt (h _ (xPr_1 (xPr1_b hj hk2)))
      have ev : (Term.elem (xTv i) (.int (Int32.ofNat k))).eval args s none [] s = (Term.elem (xTv j) (.int (Int32.ofNat k))).eval args s none [] s := by
        show ((xTv i).eval args s none [] s >>= _) = ((xTv j).eval args s none [] s >>= _)
        rw [hv]
      rw [vi9, vj9] at ev
      exact hd (Value.int.inj (Option.some.inj ev))
  show ((Cond.value args s none s [] (Cond.not (Cond.eq (xTm i) (xTm j)))) == some true) = true
  simp only [Cond.value, qa, qb]
  simp [hne]
def xTbS : List Cond := [Cond.initialized "java/lang/Throwable", Cond.initialized "java/lang/String", Cond.initialized "jdk/internal/util/Preconditions", Cond.laysStatic "java/lang/Throwable" "UNASSIGNED_STACK" "[Ljava/lang/StackTraceElement;", Cond.laysStatic "java/lang/Throwable" "SUPPRESSED_SENTINEL" "Ljava/util/List;", Cond.laysStatic "java/lang/String" "COMPACT_STRINGS" "Z", Cond.laysStatic "jdk/internal/util/Preconditions" "SIOOBE_FORMATTER" "Ljava/util/function/BiFunction;", Cond.arrayOver (.object "PacketToll$World"), Cond.arrayOver (.array .int), Cond.arrayOver (.object "PacketTollLaw$Road"), Cond.initialized "java/lang/Integer", Cond.laysStatic "java/lang/Integer" "DigitOnes" "[B", Cond.laysStatic "java/lang/Integer" "DigitTens" "[B", Cond.initialized "PacketTollLaw", Cond.laysStatic "PacketTollLaw" "VARIABLES" "[Ljava/lang/String;", Cond.fieldLinkNest "PacketTollLaw$Node" 50 "PacketTollLaw" "VARIABLES" "[Ljava/lang/String;" "PacketTollLaw", Cond.instantiable "java/lang/StringBuilder" 4]
def xTbP : List Cond := xSp.flatMap fun y => [Cond.sameMethod y.cls y.cls y.name y.desc, Cond.privateMethod y, Cond.instanceMethod y]
def xTbA : List Cond := (xNe.map fun q => Cond.methodLinkNest q.1 q.2.1 q.2.2.1 q.2.2.2) ++ (xOn ++ ((xLt.map fun q => Cond.stringRef q.1 q.2.1 (xTx.getD q.2.2 "")) ++ (xTbS ++ xTbP)))
def xTbI : List Nat := [45, 51, 84, 90, 119, 150, 176, 227, 257, 395, 404, 455, 465, 470, 475, 480, 485, 503, 570, 587, 602, 579, 651, 939, 956, 1151, 1315, 1584, 1585, 1586, 1587, 1588, 1589, 1590, 1591, 1592, 1593, 1594, 1595, 1596, 1597, 1598, 1599, 1600, 1601, 1602, 1603, 1604, 1605, 652, 653, 654, 655, 656, 657, 691, 739, 805, 826, 851, 856, 865, 874, 875, 876, 889, 890, 891, 946, 963, 983, 988, 1000, 1140, 1158, 1173, 1186, 1206, 1210, 1214, 1215, 1216, 1217, 1218, 1219, 1220, 1245, 1280, 1465, 1466, 1467, 1468, 1469, 1470, 1471, 1487, 1606, 1607, 1608, 15, 23, 25, 676, 678, 753, 769, 403, 508, 1574, 33, 1386, 1388, 0, 1463, 1462, 1251, 1578, 1293, 1294, 1579, 1297, 1298, 1580, 1339, 1340, 1581, 1343, 1344]
set_option maxRecDepth 100000 in
theorem xTb_eq : xTbA.map some = xTbI.map (fun k => tables_1[k]?) := by decide +kernel
theorem xTb_in : ∀ w ∈ xTbA, w ∈ lw_tbl := by
  intro w hw
  have h : some w ∈ xTbA.map some := List.mem_map.mpr ⟨w, hw, rfl⟩
  rw [xTb_eq] at h
  obtain ⟨k, -, hk⟩ := List.mem_map.mp h
  exact List.mem_append_right _ (List.mem_of_getElem? hk)
theorem xKn_cl {args : Array Value} {s : State} (hts : ∀ w ∈ xT, w.before args s = true) : ∀ (k : Nat), ∃ r : ClassId × (Nat → Nat), ∀ (q : vw_C), vwCl[k]? = some q → u_Kn s q.1 q.2.1 q.2.2 r.1 r.2 := by
  intro k
  match k with
  | 0 =>
    obtain ⟨c, f, h⟩ := u_known hts uw_X0 (hts _ is_X0)
    exact ⟨(c, f), fun q hq => by cases hq; exact h⟩
  | 1 =>
    obtain ⟨c, f, h⟩ := u_known hts uw_X1 (hts _ is_X1)
    exact ⟨(c, f), fun q hq => by cases hq; exact h⟩
  | 2 =>
    obtain ⟨c, f, h⟩ := u_known hts uw_X2 (hts _ is_X2)
    exact ⟨(c, f), fun q hq => by cases hq; exact h⟩
  | 3 =>
    obtain ⟨c, f, h⟩ := u_known hts uw_X3 (hts _ is_X3)
    exact ⟨(c, f), fun q hq => by cases hq; exact h⟩
  | 4 =>
    obtain ⟨c, f, h⟩ := u_known hts uw_X4 (hts _ is_X4)
    exact ⟨(c, f), fun q hq => by cases hq; exact h⟩
  | 5 =>
    obtain ⟨c, f, h⟩ := u_known hts uw_X5 (hts _ is_X5)
    exact ⟨(c, f), fun q hq => by cases hq; exact h⟩
  | 6 =>
    obtain ⟨c, f, h⟩ := u_known hts uw_X6 (hts _ is_X6)
    exact ⟨(c, f), fun q hq => by cases hq; exact h⟩
  | 7 =>
    obtain ⟨c, f, h⟩ := u_known hts uw_X7 (hts _ is_X7)
    exact ⟨(c, f), fun q hq => by cases hq; exact h⟩
  | 8 =>
    obtain ⟨c, f, h⟩ := u_known hts uw_X8 (hts _ is_X8)
    exact ⟨(c, f), fun q hq => by cases hq; exact h⟩
  | 9 =>
    obtain ⟨c, f, h⟩ := u_known hts uw_X9 (hts _ is_X9)
    exact ⟨(c, f), fun q hq => by cases hq; exact h⟩
  | 10 =>
    obtain ⟨c, f, h⟩ := u_known hts uw_X10 (hts _ is_X10)
    exact ⟨(c, f), fun q hq => by cases hq; exact h⟩
  | 11 =>
    obtain ⟨c, f, h⟩ := u_known hts uw_X11 (hts _ is_X11)
    exact ⟨(c, f), fun q hq => by cases hq; exact h⟩
  | 12 =>
    obtain ⟨c, f, h⟩ := u_known hts uw_X12 (hts _ is_X12)
    exact ⟨(c, f), fun q hq => by cases hq; exact h⟩
  | 13 =>
    obtain ⟨c, f, h⟩ := u_known hts uw_X0 (hts _ is_X0)
    exact ⟨(c, f), fun q hq => by cases hq; exact h⟩
  | 14 =>
    obtain ⟨c, f, h⟩ := u_known hts uw_X0 (hts _ is_X0)
    exact ⟨(c, f), fun q hq => by cases hq; exact h⟩
  | 15 =>
    obtain ⟨c, f, h⟩ := u_known hts uw_X0 (hts _ is_X0)
    exact ⟨(c, f), fun q hq => by cases hq; exact h⟩
  | 16 =>
    obtain ⟨c, f, h⟩ := u_known hts uw_X0 (hts _ is_X0)
    exact ⟨(c, f), fun q hq => by cases hq; exact h⟩
  | 17 =>
    obtain ⟨c, f, h⟩ := u_known hts uw_X0 (hts _ is_X0)
    exact ⟨(c, f), fun q hq => by cases hq; exact h⟩
  | 18 =>
    obtain ⟨c, f, h⟩ := u_known hts uw_X0 (hts _ is_X0)
    exact ⟨(c, f), fun q hq => by cases hq; exact h⟩
  | 19 =>
    obtain ⟨c, f, h⟩ := u_known hts uw_X13 (hts _ is_X13)
    exact ⟨(c, f), fun q hq => by cases hq; exact h⟩
  | 20 =>
    obtain ⟨c, f, h⟩ := u_known hts uw_X14 (hts _ is_X14)
    exact ⟨(c, f), fun q hq => by cases hq; exact h⟩
  | 21 =>
    obtain ⟨c, f, h⟩ := u_known hts uw_J0 (hts _ is_J0)
    exact ⟨(c, f), fun q hq => by cases hq; exact h⟩
  | 22 =>
    obtain ⟨c, f, h⟩ := u_known hts uw_J4 (hts _ is_J4)
    exact ⟨(c, f), fun q hq => by cases hq; exact h⟩
  | k + 23 => exact ⟨(default, fun _ => 0), fun q hq => by simp [vwCl] at hq⟩
theorem xTbS_in {w : Cond} (h : w ∈ xTbS) : w ∈ xTbA := List.mem_append_right _ (List.mem_append_right _ (List.mem_append_right _ (List.mem_append_left _ h)))
theorem xTbP_in {w : Cond} (h : w ∈ xTbP) : w ∈ xTbA := List.mem_append_right _ (List.mem_append_right _ (List.mem_append_right _ (List.mem_append_right _ h)))
theorem xKn_ar {args : Array Value} {s : State} (hts : ∀ w ∈ xT, w.before args s = true) (hov : ∀ w ∈ xTbA, w.before args s = true) : ∃ ca : Nat → ClassId, ∀ (k : Nat) (q : ClassId × FieldType), [(ca 0, FieldType.byte), (ca 1, .int), (ca 2, .long), (ca 3, .object "PacketToll$World"), (ca 4, .array .int), (ca 5, .object "PacketTollLaw$Road")][k]? = some q → ArrOfT s q.1 q.2 ∧ va_RA s q.1 q.2 := by
  obtain ⟨c0, k0, m0, f0, g0, h0⟩ := Cond.arrayClass_spec (args := args) (first := s) (o := none) (s := s) (idx := []) (hts _ ac_byte)
  obtain ⟨c1, k1, m1, f1, g1, h1⟩ := Cond.arrayClass_spec (args := args) (first := s) (o := none) (s := s) (idx := []) (hts _ ac_int)
  obtain ⟨c2, k2, m2, f2, g2, h2⟩ := Cond.arrayClass_spec (args := args) (first := s) (o := none) (s := s) (idx := []) (hts _ ac_long)
  obtain ⟨m3, c3, k3, e3, -, g3, h3, f3⟩ := Cond.arrayOver_spec (args := args) (first := s) (o := none) (s := s) (idx := []) (n := "PacketToll$World") (hov _ (xTbS_in (by simp [xTbS])))
  obtain ⟨m4, c4, k4, e4, -, g4, h4, f4⟩ := arrayOverA_spec (args := args) (first := s) (o := none) (s := s) (idx := []) (t := .int) (hov _ (xTbS_in (by simp [xTbS])))
  obtain ⟨m5, c5, k5, e5, -, g5, h5, f5⟩ := Cond.arrayOver_spec (args := args) (first := s) (o := none) (s := s) (idx := []) (n := "PacketTollLaw$Road") (hov _ (xTbS_in (by simp [xTbS])))
  refine ⟨fun i => if i = 0 then c0 else if i = 1 then c1 else if i = 2 then c2 else if i = 3 then c3 else if i = 4 then c4 else c5, fun k q hq => ?_⟩
  match k, hq with
  | 0, hq => cases hq; exact ⟨fun N z => ⟨(fun k h => by cases h), k0, g0, m0, h0⟩, f0⟩
  | 1, hq => cases hq; exact ⟨fun N z => ⟨(fun k h => by cases h), k1, g1, m1, h1⟩, f1⟩
  | 2, hq => cases hq; exact ⟨fun N z => ⟨(fun k h => by cases h), k2, g2, m2, h2⟩, f2⟩
  | 3, hq => cases hq; exact ⟨fun N z => ⟨(fun k h => by cases h), k3, g3, m3, h3⟩, k3, m3, g3, h3, e3, f3⟩
  | 4, hq => cases hq; exact ⟨fun N z => ⟨(fun k h => by cases h), k4, g4, m4, h4⟩, f4⟩
  | 5, hq => cases hq; exact ⟨fun N z => ⟨(fun k h => by cases h), k5, g5, m5, h5⟩, k5, m5, g5, h5, e5, f5⟩
  | k + 6, hq => simp at hq
theorem xStc_start {args : Array Value} {s : State} {G : xGx} (hov : ∀ w ∈ xTbA, w.before args s = true) (htb : ∀ w ∈ lw_tbl, w.before args s = true) (h100 : (Term.static "java/lang/Integer" "DigitOnes" "[B").eval args s none [] s = some (.ref (G.2.2.2.2 100)) ∧ va_T .byte (G.2.2.2.2 100) 100 (fun j => vi ((48 + j % 10 : Nat) : Int)) (xA G) s s.heap) (h101 : (Term.static "java/lang/Integer" "DigitTens" "[B").eval args s none [] s = some (.ref (G.2.2.2.2 101)) ∧ va_T .byte (G.2.2.2.2 101) 100 (fun j => vi ((48 + j / 10 : Nat) : Int)) (xA G) s s.heap)
    (h102 : (Term.static "PacketTollLaw" "VARIABLES" "[Ljava/lang/String;").eval args s none [] s = some (.ref (G.2.2.2.2 102)) ∧ va_T (.object "java/lang/String") (G.2.2.2.2 102) 4 (fun j => vr (G.2.2.2.1 ([9, 1, 10, 11].getD j 0))) (xA G) s s.heap) (hA : ∀ a : Nat, a < s.heap.size → ¬ xA G a) : xStc G s := by
  refine ⟨⟨va_Zref (hov _ (xTbS_in (by simp [xTbS]))) (hov _ (xTbS_in (by simp [xTbS]))) h100.1 hA, h100.2⟩, ⟨va_Zref (hov _ (xTbS_in (by simp [xTbS]))) (hov _ (xTbS_in (by simp [xTbS]))) h101.1 hA, h101.2⟩, va_Zref (hov _ (xTbS_in (by simp [xTbS]))) (hov _ (xTbS_in (by simp [xTbS]))) h102.1 hA, h102.2, fun y hy => ?_, ?_⟩
  · have hP : ∀ w ∈ [Cond.sameMethod y.cls y.cls y.name y.desc, Cond.privateMethod y, Cond.instanceMethod y], w.before args s = true := fun w hw => hov _ (xTbP_in (List.mem_flatMap.mpr ⟨y, hy, hw⟩))
    have hI := hov _ (xTbS_in (w := Cond.instantiable "java/lang/StringBuilder" 4) (by simp [xTbS]))
    refine va_Nw.of rfl (xSelSB ?_ hI (hP _ (by simp)) (hP _ (by simp)) (hP _ (by simp)))
    exact (show ∀ y ∈ xSp, y.cls ≠ "java/lang/invoke/MethodHandle" ∧ y.cls ≠ "java/lang/invoke/VarHandle" by decide +kernel) y hy
  · exact va_Nw.of rfl (hov _ (xTbS_in (by simp [xTbS])))
theorem vk_S_cg {N : Nat} {len : List Nat} {byt : List (List Int32)} {k v v' : Nat → Nat} {A : Nat → Prop} {U : State} {H : Heap} (h : vk_S N len byt k v A U H) (e : ∀ i, i < N → v' i = v i) : vk_S N len byt k v' A U H := by
  unfold vk_S at h ⊢
  exact ⟨fun i hi => by rw [e i hi]; exact h.1 i hi, h.2⟩
theorem xKn_start {args : Array Value} {s : State} (htb : ∀ w ∈ lw_tbl, w.before args s = true) (hgv : (Jvm.Cond.and given_1 narrow_1).before args s = true) : ∃ G : xGx, G.2.2.1 = s.heap ∧ xKn G s := by
  have hts : ∀ w ∈ xT, w.before args s = true := fun w hw => htb w (List.mem_filter.mp hw).1
  have hov : ∀ w ∈ xTbA, w.before args s = true := fun w hw => htb w (xTb_in w hw)
  have hpr : ∀ w ∈ xPrA, w.before args s = true := fun w hw => flat_of_before _ hgv w (xPr_in w hw)
  have hA : ∀ a : Nat, a < s.heap.size → ¬ (s.heap.size ≤ a) := fun a h => Nat.not_le.mpr h
  obtain ⟨dC, hdC⟩ := Classical.axiomOfChoice (xKn_cl hts)
  obtain ⟨ca, hca⟩ := xKn_ar hts hov
  obtain ⟨adK, adV, hS, hR⟩ := vk_Sof (args := args) (s := s) (N := 31) (tm := xTm) (len := xLe) (byt := xBy) (A := fun q => s.heap.size ≤ q) (by decide +kernel)
    (fun i hi => hpr _ (xPr_1 (xPr1_a hi (by simp)))) (fun i hi => hpr _ (xPr_1 (xPr1_a hi (by simp)))) (fun i hi => hpr _ (xPr_1 (xPr1_a hi (by simp [xTv])))) (fun i hi => hpr _ (xPr_1 (xPr1_a hi (by simp [xTv])))) (fun i hi j hj => hpr _ (xPr_1 (xPr1_b hi hj))) (fun i j hi hj hij => Or.inl (xTm_ne hpr hi hj hij)) hA
  have hB4 : ∀ w ∈ xPr4, w.before args s = true := fun w hw => hpr _ (xPr_B (List.mem_append_left _ hw))
  have hB5 : ∀ w ∈ xPr5, w.before args s = true := fun w hw => hpr _ (xPr_B (List.mem_append_right _ (List.mem_append_left _ hw)))
  have hB6 : ∀ w ∈ xPr6, w.before args s = true := fun w hw => hpr _ (xPr_B (List.mem_append_right _ (List.mem_append_right _ (List.mem_append_left _ hw))))
  have hB7 : ∀ w ∈ xPr7, w.before args s = true := fun w hw => hpr _ (xPr_B (List.mem_append_right _ (List.mem_append_right _ (List.mem_append_right _ hw))))
  obtain ⟨t0, q0, r0⟩ := va_Tof (args := args) (s := s) (tm := xDg1) (ty := .byte) (N := 100) (f := fun j => vi ((48 + j % 10 : Nat) : Int)) (A := fun q => s.heap.size ≤ q) (by decide) (hB4 _ (by simp [xPr4])) (va_eqt (hB4 _ (List.mem_append_left _ (by simp)))) (fun j hj => va_eqt (hB4 _ (List.mem_append_right _ (List.mem_map.mpr ⟨j, List.mem_range.mpr hj, rfl⟩)))) hA
  obtain ⟨t1, q1, r1⟩ := va_Tof (args := args) (s := s) (tm := xDg2) (ty := .byte) (N := 100) (f := fun j => vi ((48 + j / 10 : Nat) : Int)) (A := fun q => s.heap.size ≤ q) (by decide) (hB5 _ (by simp [xPr5])) (va_eqt (hB5 _ (List.mem_append_left _ (by simp)))) (fun j hj => va_eqt (hB5 _ (List.mem_append_right _ (List.mem_map.mpr ⟨j, List.mem_range.mpr hj, rfl⟩)))) hA
  obtain ⟨t2, q2, r2⟩ := va_Tof (args := args) (s := s) (tm := xVar) (ty := .object "java/lang/String") (N := 4) (f := fun j => vr (adK ([9, 1, 10, 11].getD j 0))) (A := fun q => s.heap.size ≤ q) (by decide) (hB6 _ (by simp [xPr6])) (va_eqt (hB6 _ (List.mem_append_left _ (by simp)))) (fun j hj => by
    refine va_eqv (hB6 _ (List.mem_append_right _ (List.mem_map.mpr ⟨j, List.mem_range.mpr hj, rfl⟩))) ?_
    match j, hj with
    | 0, _ => exact va_eqR (hB7 _ (by simp [xPr7])) (hR 9 (by decide))
    | 1, _ => exact va_eqR (hB7 _ (by simp [xPr7])) (hR 1 (by decide))
    | 2, _ => exact va_eqR (hB7 _ (by simp [xPr7])) (hR 10 (by decide))
    | 3, _ => exact va_eqR (hB7 _ (by simp [xPr7])) (hR 11 (by decide))) hA
  let adV' : Nat → Nat := fun i => if i = 100 then t0 else if i = 101 then t1 else if i = 102 then t2 else adV i
  have hS' : vk_S 31 xLe xBy adK adV' (fun q => s.heap.size ≤ q) s s.heap := vk_S_cg hS (fun i hi => by
    show (if i = 100 then t0 else if i = 101 then t1 else if i = 102 then t2 else adV i) = adV i
    rw [if_neg (by omega), if_neg (by omega), if_neg (by omega)])
  refine ⟨((fun k => (dC k).1, fun k => (dC k).2), ca, s.heap, adK, adV'), rfl, ⟨fun k q hq => hdC k q hq, hca⟩, fun q hq => va_Nw.of rfl (hov _ (List.mem_append_left _ (List.mem_map.mpr ⟨q, hq, rfl⟩))), hov (.arrayOver (.object "PacketToll$World")) (xTbS_in (by simp [xTbS])), ⟨hov (.arrayOver (.array .int)) (xTbS_in (by simp [xTbS])), hov (.arrayOver (.object "PacketTollLaw$Road")) (xTbS_in (by simp [xTbS]))⟩, fun w hw => ?_, fun q hq => va_Nc.of (hpr _ (xPr_3 (List.mem_append_left _ (List.mem_map.mpr ⟨q, hq, rfl⟩)))), ?_, ?_, ⟨?_, ?_, ?_⟩, hS', ?_⟩
  · refine va_Nw.of ?_ (hov w (List.mem_append_right _ (List.mem_append_left _ hw)))
    rcases List.mem_append.mp hw with q | q <;> obtain ⟨z, -, rfl⟩ := List.mem_map.mp q <;> rfl
  · exact vx_Zqof (hov _ (xTbS_in (by simp [xTbS, Bundle.tN, Bundle.steD]))) (hov _ (xTbS_in (by simp [xTbS, Bundle.tN]))) (hpr _ (xPr_3 (by simp [xPr3, Bundle.tN, Bundle.steD]))) hA
  · exact vx_Zqof (hov _ (xTbS_in (by simp [xTbS, Bundle.tN, Bundle.listD]))) (hov _ (xTbS_in (by simp [xTbS, Bundle.tN]))) (hpr _ (xPr_3 (by simp [xPr3, Bundle.tN, Bundle.listD]))) hA
  · exact va_Zof (hov _ (xTbS_in (by simp [xTbS]))) (hov _ (xTbS_in (by simp [xTbS]))) (va_eqi (hpr _ (xPr_3 (by simp [xPr3])))) hA
  · exact va_Zqof (hov _ (xTbS_in (by simp [xTbS]))) (hov _ (xTbS_in (by simp [xTbS]))) (hpr _ (xPr_3 (by simp [xPr3]))) hA
  · exact xStc_start hov htb ⟨q0, r0⟩ ⟨q1, r1⟩ ⟨q2, r2⟩ hA
  · intro q hq
    refine vk_R.of (hov _ (List.mem_append_right _ (List.mem_append_right _ (List.mem_append_left _ (List.mem_map.mpr ⟨q, hq, rfl⟩))))) ?_
    have hi : q.2.2 < 31 := (show ∀ q ∈ xLt, q.2.2 < 31 by decide +kernel) q hq
    by_cases e : xFi.getD q.2.2 ("", 0) = (q.1, q.2.1)
    · have h9 := hR q.2.2 hi
      unfold xTm at h9
      rw [e] at h9
      exact h9
    · exact va_eqR (hpr _ (xPr_2 (List.mem_map.mpr ⟨q, List.mem_filter.mpr ⟨hq, by rw [Bool.not_eq_true']; exact beq_eq_false_iff_ne.mpr e⟩, rfl⟩))) (hR q.2.2 hi)
/-! THE CLAIM OUT OF ONE WALK OF THE LAW'S BODY. Your part is whole_start (and what it stands on); all else here is the same for every law, but numbers. -/
def R_law : String := "PacketTollLaw"
def lw_P (b : Addr) (xs : List Int32) (args : Array Value) (s : State) : Prop := args = #[.ref b] ∧ s.IntsAt b xs ∧ xs.length ≤ 260 ∧ (Jvm.Cond.and given_1 narrow_1).before args s = true
def lw_Q (_ : Array Value) (s : State) (o : Outcome) (t : State) : Prop := o = .returned (some (.int 1)) ∧ Framed s o t [] 600086 7301442
def lw_Z (below : List Frame) (a : Array Value) (s : State) : State → Prop := fun t => ∃ o, t.status = .running ∧ Ended t below o ∧ lw_Q a s o t
/-- what holds at the law's entry: the machine, the code, the tables' words (any of lw_tbl by 'hts w (by decide +kernel)'), the script of L ints xs at the cell b, what the Statement gives of the start (any of its parts by flat_of_before) -/
def lw_At (p : Program) (s : State) (m : MethodId) (meth : Method) (c : Code) (b L : Nat) (xs : Nat → Int32) : Prop :=
  p.tables.exec = Jvm.exec ∧ c.code = code ∧ meth.sig.returnType = ret ∧ c.maxLocals = 26 ∧ s.vm.findClass R_law = some m.cls ∧ (∀ w ∈ lw_tbl, w.before #[Value.ref b] s = true) ∧ va_X b L xs s s.heap ∧ b < s.heap.size ∧ meth.locks = false ∧ (Jvm.Cond.and given_1 narrow_1).before #[Value.ref b] s = true ∧ meth.name = "law" ∧ c.exceptionTable.toList = []
/-- the pure statement behind it all: the law, from an empty picture, answers 1 -/
def xMain : Prop := ∀ (N : Nat) (xs : Nat → Int32) (G : xGx) (z b : Nat), N ≤ 260 → ∃ F : Nat, p_L_law F G N xs 114084 (z, fun _ => 99, fun _ => 0, fun _ _ => none) b (fun _ _ => 0) (fun r _ _ => r = 1)
set_option maxHeartbeats 4000000 in
theorem whole_start {p : Program} {e : Env} {s : State} {m : MethodId} {below : List Frame} {meth : Method} {c : Code} (hm : xMain) (l : Launch) (hflags : l.flags = flags0) {b L : Nat} {xs : Nat → Int32} (hL : L ≤ 260) (C0 : lw_At p s m meth c b L xs) : W p l e room_1 s m #[Value.ref b] below meth c s.heap [] 0 0 (lw_Z below #[Value.ref b] s) (entryFrame m ([Value.ref b] : List Value).toArray 26) := by
  obtain ⟨hx, hb, hr, hml, hown, hts, hX, hbl, hlocks, hgv, hnm, hnil⟩ := C0
  obtain ⟨⟨g1, ca, h9, adK, adV⟩, hG, hKn⟩ := xKn_start hts hgv
  have hG : h9 = s.heap := hG
  subst hG
  have hst : l.stackTraces = false := by unfold Launch.stackTraces; rw [hflags]; decide
  obtain ⟨F, hF0⟩ := hm L xs (g1, ca, s.heap, adK, adV) s.heap.size b hL
  have k := w_law (X := (p, l, e, xRm 1312 600086 7301442, s, m, #[Value.ref b], below, meth, c, (g1, ca, s.heap, adK, adV), (fun v _ _ => v = some (vi 1)), (fun _ _ _ => False), 600086, 7301442)) (G := (g1, ca, s.heap, adK, adV)) (Po := fun v _ _ => v = some (vi 1)) (Px := fun _ _ _ => False) (x0 := b) (N := L) (xs := xs) (F := F) (nE := 114084)
    ⟨hx, hb, hml, hown, fun w hw => hts w (List.mem_filter.mp hw).1, hr, hlocks, hKn, va_S.rf, hnm, rfl, rfl, hst⟩ ⟨rfl, rfl, rfl, rfl, hnil⟩ (by show 114084 ≤ 600086; decide) (by show 64 * 114084 ≤ 7301442; decide) ⟨hX, hbl, Nat.not_le.mpr hbl⟩ hL (fun r _ _ hq => by rw [hq]) (fun _ _ => xR_0) hF0
  have k := k s.heap [] _ (Nat.le_refl _) ⟨va_S.rf, rfl, fun _ => (by show 0 < _; decide), [], fun a => ⟨fun h => absurd h List.not_mem_nil, fun h => absurd h (by show ¬ (99 ≤ 22); decide)⟩, fun k q h => by simp [va_pl] at h, ⟨fun i j p q h => by simp [va_pl] at h, fun k q h => by simp [va_pl] at h⟩⟩ (xLv_entry [Value.ref b] (n := 26) (Nat.le_of_ble_eq_true rfl))
  rw [lg_entry_eq]
  intro T hT X0
  have X1 : Stand p l e (xRm 1312 600086 7301442) s m #[Value.ref b] below meth c T [] 0 0 := { X0 with room := (by
    have h := X0.room
    simp only [State.hasRoom, Bool.and_eq_true, decide_eq_true_eq] at h ⊢
    obtain ⟨⟨⟨⟨h1, h2, h3, h4, h5, h6⟩, h7⟩, h8⟩, h9⟩ := h
    simp only [room_1, xRm] at h1 h2 h3 h4 h5 h6 h7 h8 h9 ⊢
    refine ⟨⟨⟨⟨by omega, by omega, by omega, by omega, by omega, ?_⟩, by omega⟩, by omega⟩, h9⟩
    exact h6) }
  obtain ⟨t, st, o, r1, r2, r3⟩ := k T hT X1
  refine ⟨t, st, o, r1, r2, ?_⟩
  rcases r3 with ⟨⟨v, t9, M9, rfl, rfl, -⟩, L9, hF, hfree⟩ | ⟨q, rfl, hq⟩
  · refine ⟨rfl, hF.1, hF.2.1, hF.2.2.weaken (fun y hy hlt => absurd hlt (Nat.not_lt.mpr (hfree y hy))) (Nat.le_refl _) (Nat.le_refl _)⟩
  · obtain ⟨E, ce, L9, ⟨t8, M8, f, -⟩, -⟩ := hq
    exact f.elim
set_option maxHeartbeats 4000000 in
theorem lw_walk (hm : xMain) (l : Launch) (hflags : l.flags = flags0) (b : Addr) (xs : List Int32) : MetFree l x (headSpec (Jvm.Cond.code x code maxLocals ret :: tables_1) room_1) (lw_P b xs) (fun _ _ _ _ _ => True) lw_Q := by
  refine MetFree.of_bodyS (code := code) (maxLocals := maxLocals) (ret := ret) (by decide) ?_ ?_
  · intro args s m h hn
    obtain ⟨meth, c, h1, h2, h3, h4, h5, h6, -, -⟩ := Cond.code_spec hn (atoms_spec (ws := Jvm.Cond.code x code maxLocals ret :: tables_1) h _ List.mem_cons_self)
    exact ⟨meth, c, h1, h2, h3, h4, h5, h6⟩
  · intro p e s m args below meth c s₁ B hml0 hP _
    obtain ⟨rfl, hx, hbd, hgv⟩ := hP
    obtain ⟨scr, harrAt, hlist, hof, hsmall⟩ := hx
    obtain ⟨hcb, hkn, -, -⟩ := State.arrayAt?_spec harrAt
    have hown : s.vm.findClass R_law = some m.cls := findClass_of_methodNamed B.named
    have hts0 : ∀ c ∈ (Jvm.Cond.code x code maxLocals ret :: tables_1), c.before #[Value.ref b] s = true := atoms_spec (ws := Jvm.Cond.code x code maxLocals ret :: tables_1) B.pre
    have hts : ∀ w ∈ lw_tbl, w.before #[Value.ref b] s = true := k2_hts_sels lw_privs (fun w hw => hts0 w (List.mem_cons_of_mem _ hw)) lw_privs_ok
    have hml : c.maxLocals = 26 := B.maxLocals_eq (hts0 _ List.mem_cons_self)
    have X₀ : Stand p l e room_1 s m #[Value.ref b] below meth c s₁ [] 0 0 := Stand.of_body B
    have hh0 : s₁.heap = s.heap := by rw [B.state]; rfl
    have hsz : scr.slots.size = xs.length := by rw [← Array.length_toList, hlist, List.length_map]
    have hval : ∀ j : Nat, j < xs.length → scr.slots[j]? = some (.int (xs.getD j 0)) := fun j hj => by
      rw [← Array.getElem?_toList, hlist]
      simp [hj]
    have hbl : b < s.heap.size := (Array.getElem?_eq_some_iff.mp hcb).1
    have hX : va_X b xs.length (fun j => xs.getD j 0) s s.heap := ⟨scr, hcb, hof, hkn, hsz, hval⟩
    have K : W p l e room_1 s m #[Value.ref b] below meth c s₁.heap [] 0 0 (lw_Z below #[Value.ref b] s) (entryFrame m ([Value.ref b] : List Value).toArray 26) := by
      rw [hh0]
      have ht : c.exceptionTable.toList = [] := by
        obtain ⟨meth9, c9, h1, h2, -, -, -, -, h7, -⟩ := Cond.code_spec B.named (hts0 _ List.mem_cons_self)
        cases Option.some.inj (h1.symm.trans B.method)
        cases Option.some.inj (h2.symm.trans (Stand.of_body B).code)
        rw [Array.isEmpty_iff.mp h7]
      exact whole_start hm l hflags hbd ⟨B.exec, B.bytes, B.returns, hml, hown, hts, hX, hbl, B.notSynchronized, hgv, (name_of_methodNamed B.named B.method).1, ht⟩
    obtain ⟨t, a1, o, b1, b2, b3⟩ := K s₁ rfl X₀
    exact ⟨t, o, a1, b1, b2, b3⟩
theorem lw_pre_spec {args : Array Value} {s : State} (h : (Jvm.Cond.and given_1 narrow_1).before args s = true) (hr : rest_1_c.before args s = true) : ∃ (b : Addr) (xs : List Int32), lw_P b xs args s := by
  have hs := flat_of_before _ h
  have hq := flat_of_before _ hr
  have hc : (Cond.count 1).before args s = true := hs _ (by decide +kernel)
  have harr : (Cond.arrayOf (.arg 0) .int).before args s = true := hs _ (by decide +kernel)
  have hle : (Cond.le (.length (.arg 0)) (.int 260)).before args s = true := hs _ (by decide +kernel)
  have hlen : (Cond.isInt (.length (.arg 0))).before args s = true := hq _ (by decide +kernel)
  have hall : (Cond.all (.arg 0) (.isInt (.elem (.arg 0) (.index 0)))).before args s = true := hq _ (by decide +kernel)
  obtain ⟨b, xs, hb, hx⟩ := State.ints_of_pre rfl harr hlen hall
  have hsm : xs.length < 2 ^ 31 := hx.choose_spec.2.2.2
  have hev : (Term.length (.arg 0)).eval args s none [] s = some (.int xs.length.toInt32) := hx.length_eval hb
  have hv := Cond.le_ints hev (show (Term.int 260).eval args s none [] s = some (.int 260) from rfl)
  have hd : xs.length.toInt32 ≤ 260 := by
    simpa [Cond.before, Cond.holds, hv] using hle
  have hN : xs.length ≤ 260 := (Int32.ofNat_le_ofNat hsm (by decide)).mp (show Int32.ofNat xs.length ≤ Int32.ofNat 260 from hd)
  exact ⟨b, xs, Cond.one_arg hc (show args[0]? = some (.ref b) from hb), hx, hN, h⟩
theorem lw_comes (hm : xMain) (l : Launch) (hflags : l.flags = flags0) : Comes l x (Jvm.Cond.code x code maxLocals ret :: tables_1) room_1 (fun tb e args s => Calls_1 tb e args s ∧ rest_1 tb e args s ∧ Pre_1 tb e args s)
    (fun _ _ args s o t => lw_Q args s o t) := by
  intro p e ha hc hk s m args below hf hfit hheap happ hpre
  obtain ⟨b, xs, hP⟩ := lw_pre_spec hpre.2.2 hpre.2.1
  obtain ⟨k, o, h1, h2, h3, hQ⟩ := lw_walk hm l hflags b xs p e ha hc hk s m args below hf ((Spec.applies_iff_loose hf).mp happ).1 hP trivial
  exact ⟨k, o, h1, h2, h3, hQ⟩
theorem lw_frame {s t : State} {o : Outcome} {args : Array Value} (h : Framed s o t [] 600086 7301442) :
    Framed s o t (fieldLocs frame_1_writes args s ++ arrayLocs frame_1_arrays args s ++ staticLocs frame_1_statics s) 600086 7301442 := h
theorem lw_limb (hm : xMain) (L : Cond) (hL : ∀ (args : Array Value) (s t : State), L.after args s (.returned (some (.int 1))) t = true) :
    ArmFor flags0 classFile x code maxLocals ret World_1 tables_1 room_1 Calls_1 rest_1 Pre_1
      (fun tb e a s o t => postC L tb e a s o t ∧ Framed s o t (fieldLocs frame_1_writes a s ++ arrayLocs frame_1_arrays a s ++ staticLocs frame_1_statics s) 600086 7301442) := by
  intro l hflags _ _ p e ha hc hk s m args below hf hfit hheap happ hpre
  obtain ⟨k, o, h1, h2, h3, rfl, hF⟩ := lw_comes hm l hflags p e ha hc hk s m args below hf hfit hheap happ hpre
  exact ⟨k, _, h1, h2, h3, hL args s _, lw_frame hF⟩
theorem lw_all (hm : xMain) : Claimed_1_1 ∧ Claimed_1_2 := ⟨lw_limb hm limb_1_1 (fun args s t => by simp [limb_1_1, Cond.after, Cond.holds, Cond.value]), lw_limb hm limb_1_2 (fun args s t => Cond.after_iff.mpr (by
  first | (rw [show limb_1_2 = Cond.eq .result (.int 1) from rfl, Cond.eq_ints (x := 1) (y := 1) rfl rfl]; simp; done) | (simp [limb_1_2, Cond.value, Term.eval]; done)))⟩
