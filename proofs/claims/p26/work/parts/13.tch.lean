/-! THE WORDS OF A THROW -/
def xIx : List Cond → List Nat → Bool
  | [], _ => true
  | _ :: _, [] => false
  | w :: l, k :: ks => decide (lw_tbl[k]? = some w) && (goodWord w && xIx l ks)
theorem xT_ix : ∀ (l : List Cond) (ks : List Nat), xIx l ks = true → ∀ w ∈ l, w ∈ xT
  | [], _, _, w, hw => by cases hw
  | _ :: _, [], h, _, _ => by cases h
  | v :: l, k :: ks, h, w, hw => by
    simp only [xIx, Bool.and_eq_true, decide_eq_true_eq] at h
    rcases List.mem_cons.mp hw with rfl | q
    · exact List.mem_filter.mpr ⟨List.mem_of_getElem? h.1, h.2.1⟩
    · exact xT_ix l ks h.2.2 w q
theorem tw_X11_281 : xTw RX11 281 "java/lang/IndexOutOfBoundsException" ["java/lang/RuntimeException", "java/lang/Exception"] := ⟨by decide +kernel, by decide +kernel, xT_ix _ [50, 706, 715, 720, 723, 725, 707, 708, 76, 77, 709, 714, 721, 741, 696, 742, 698, 743, 700, 710, 712, 702, 737, 738, 740, 702, 983, 984, 985, 731, 731, 732, 733, 734, 734, 735, 736, 737, 982, 973, 975, 718, 976, 977, 978, 979, 705, 704, 980] (by decide +kernel), by decide +kernel, by decide +kernel, by decide, in_java_lang_IndexOutOfBoundsException⟩
theorem tw_X11_54 : xTw RX11 54 "java/lang/IllegalArgumentException" ["java/lang/RuntimeException", "java/lang/Exception"] := ⟨by decide +kernel, by decide +kernel, xT_ix _ [50, 706, 715, 720, 723, 725, 707, 708, 76, 77, 709, 714, 721, 741, 696, 742, 698, 743, 700, 710, 712, 702, 737, 738, 740, 702, 728, 729, 730, 731, 731, 732, 733, 734, 734, 735, 736, 737, 727, 685, 693, 694, 695, 697, 699, 701, 705, 704, 703] (by decide +kernel), by decide +kernel, by decide +kernel, by decide, in_java_lang_IllegalArgumentException⟩
theorem tw_X11_253 : xTw RX11 253 "java/lang/IllegalStateException" ["java/lang/RuntimeException", "java/lang/Exception"] := ⟨by decide +kernel, by decide +kernel, xT_ix _ [50, 706, 715, 720, 723, 725, 707, 708, 76, 77, 709, 714, 721, 741, 696, 742, 698, 743, 700, 710, 712, 702, 737, 738, 740, 702, 1195, 1196, 1197, 731, 731, 732, 733, 734, 734, 735, 736, 737, 1194, 1185, 1187, 717, 1188, 1189, 1190, 1191, 705, 704, 1192] (by decide +kernel), by decide +kernel, by decide +kernel, by decide, in_java_lang_IllegalStateException⟩
/-! WHAT CHANGES OF THE PICTURE'S SHAPE: new cells, and the price of a World -/
def xlive (t : xTh) : Prop := ∀ b, xk t b ≤ 22 → b < xz t
/-- t' has all of t's cells, their references but the prices of Worlds -/
def xle (t t' : xTh) : Prop := xz t ≤ xz t' ∧ ∀ b, xk t b ≤ 22 → xk t' b = xk t b ∧ xn t' b = xn t b ∧ ∀ j, ¬ (xk t b = 10 ∧ j = 6) → xr t' b j = xr t b j
theorem xle_k {t t' : xTh} {a k : Nat} (h : xle t t') (g : xk t a = k) (hk : k ≤ 22) : xk t' a = k := (h.2 a (by omega)).1.trans g
theorem xle_n {t t' : xTh} {a k m : Nat} (h : xle t t') (g : xk t a = k) (hk : k ≤ 22) (gn : xn t a = m) : xn t' a = m := (h.2 a (by omega)).2.1.trans gn
theorem xle_r {t t' : xTh} {a k j : Nat} {v : Option Nat} (h : xle t t') (g : xk t a = k) (hk : k ≤ 22) (hj : ¬ (k = 10 ∧ j = 6)) (gr : xr t a j = v) : xr t' a j = v := ((h.2 a (by omega)).2.2 j (by rw [g]; exact hj)).trans gr
theorem xle_refl (t : xTh) : xle t t := ⟨Nat.le_refl _, fun _ _ => ⟨rfl, rfl, fun _ _ => rfl⟩⟩
theorem xle_trans {t t' u : xTh} (h : xle t t') (g : xle t' u) : xle t u := ⟨Nat.le_trans h.1 g.1, fun b hb => by
  obtain ⟨h1, h2, h3⟩ := h.2 b hb
  obtain ⟨g1, g2, g3⟩ := g.2 b (by omega)
  exact ⟨g1.trans h1, g2.trans h2, fun j hj => (g3 j (by rw [h1]; exact hj)).trans (h3 j hj)⟩⟩
theorem oX0_le {t t' : xTh} {a : Nat} (h : xle t t') (g : oX0 t a) : oX0 t' a := ⟨xle_k h g.1 (by decide), xle_r h g.1 (by decide) (by decide) (oX0_r0 g), xle_k h (oX0_k0 g) (by decide), xle_n h (oX0_k0 g) (by decide) (oX0_n0 g), xle_r h g.1 (by decide) (by decide) (oX0_r1 g), xle_k h (oX0_k1 g) (by decide), xle_n h (oX0_k1 g) (by decide) (oX0_n1 g), xle_r h g.1 (by decide) (by decide) (oX0_r2 g), xle_k h (oX0_k2 g) (by decide), xle_n h (oX0_k2 g) (by decide) (oX0_n2 g), xle_r h g.1 (by decide) (by decide) (oX0_r3 g), xle_k h (oX0_k3 g) (by decide), xle_n h (oX0_k3 g) (by decide) (oX0_n3 g)⟩
theorem oX1_le {t t' : xTh} {a : Nat} (h : xle t t') (g : oX1 t a) : oX1 t' a := ⟨xle_k h g.1 (by decide), xle_r h g.1 (by decide) (by decide) (oX1_r0 g), xle_k h (oX1_k0 g) (by decide), xle_n h (oX1_k0 g) (by decide) (oX1_n0 g), xle_r h g.1 (by decide) (by decide) (oX1_r1 g), xle_k h (oX1_k1 g) (by decide), xle_n h (oX1_k1 g) (by decide) (oX1_n1 g), xle_r h g.1 (by decide) (by decide) (oX1_r2 g), xle_k h (oX1_k2 g) (by decide), xle_n h (oX1_k2 g) (by decide) (oX1_n2 g), xle_r h g.1 (by decide) (by decide) (oX1_r3 g), xle_k h (oX1_k3 g) (by decide), xle_n h (oX1_k3 g) (by decide) (oX1_n3 g)⟩
theorem oX2_le {t t' : xTh} {a : Nat} (h : xle t t') (g : oX2 t a) : oX2 t' a := ⟨xle_k h g.1 (by decide), xle_r h g.1 (by decide) (by decide) (oX2_r0 g), xle_k h (oX2_k0 g) (by decide), xle_n h (oX2_k0 g) (by decide) (oX2_n0 g), xle_r h g.1 (by decide) (by decide) (oX2_r1 g), xle_k h (oX2_k1 g) (by decide), xle_n h (oX2_k1 g) (by decide) (oX2_n1 g), xle_r h g.1 (by decide) (by decide) (oX2_r2 g), xle_k h (oX2_k2 g) (by decide), xle_n h (oX2_k2 g) (by decide) (oX2_n2 g)⟩
theorem oX4_le {t t' : xTh} {a : Nat} (h : xle t t') (g : oX4 t a) : oX4 t' a := ⟨xle_k h g.1 (by decide), xle_r h g.1 (by decide) (by decide) (oX4_r0 g), xle_k h (oX4_k0 g) (by decide), xle_n h (oX4_k0 g) (by decide) (oX4_n0 g), xle_r h g.1 (by decide) (by decide) (oX4_r1 g), xle_k h (oX4_k1 g) (by decide), xle_n h (oX4_k1 g) (by decide) (oX4_n1 g), xle_r h g.1 (by decide) (by decide) (oX4_r2 g), xle_k h (oX4_k2 g) (by decide), xle_n h (oX4_k2 g) (by decide) (oX4_n2 g), xle_r h g.1 (by decide) (by decide) (oX4_r3 g), xle_k h (oX4_k3 g) (by decide), xle_n h (oX4_k3 g) (by decide) (oX4_n3 g), xle_r h g.1 (by decide) (by decide) (oX4_r4 g), xle_k h (oX4_k4 g) (by decide), xle_n h (oX4_k4 g) (by decide) (oX4_n4 g)⟩
theorem oX5_le {t t' : xTh} {a : Nat} (h : xle t t') (g : oX5 t a) : oX5 t' a := ⟨xle_k h g.1 (by decide), xle_r h g.1 (by decide) (by decide) (oX5_r0 g), xle_k h (oX5_k0 g) (by decide), xle_n h (oX5_k0 g) (by decide) (oX5_n0 g), xle_r h g.1 (by decide) (by decide) (oX5_r1 g), xle_k h (oX5_k1 g) (by decide), xle_n h (oX5_k1 g) (by decide) (oX5_n1 g), xle_r h g.1 (by decide) (by decide) (oX5_r2 g), xle_k h (oX5_k2 g) (by decide), xle_n h (oX5_k2 g) (by decide) (oX5_n2 g), xle_r h g.1 (by decide) (by decide) (oX5_r3 g), xle_k h (oX5_k3 g) (by decide), xle_n h (oX5_k3 g) (by decide) (oX5_n3 g), xle_r h g.1 (by decide) (by decide) (oX5_r4 g), xle_k h (oX5_k4 g) (by decide), xle_n h (oX5_k4 g) (by decide) (oX5_n4 g), xle_r h g.1 (by decide) (by decide) (oX5_r5 g), xle_k h (oX5_k5 g) (by decide), xle_n h (oX5_k5 g) (by decide) (oX5_n5 g), xle_r h g.1 (by decide) (by decide) (oX5_r6 g), xle_k h (oX5_k6 g) (by decide), xle_n h (oX5_k6 g) (by decide) (oX5_n6 g), xle_r h g.1 (by decide) (by decide) (oX5_r7 g), xle_k h (oX5_k7 g) (by decide), xle_n h (oX5_k7 g) (by decide) (oX5_n7 g)⟩
theorem oX6_le {t t' : xTh} {a : Nat} (h : xle t t') (g : oX6 t a) : oX6 t' a := ⟨xle_k h g.1 (by decide), xle_r h g.1 (by decide) (by decide) (oX6_r0 g), xle_k h (oX6_k0 g) (by decide), xle_n h (oX6_k0 g) (by decide) (oX6_n0 g), xle_r h g.1 (by decide) (by decide) (oX6_r1 g), xle_k h (oX6_k1 g) (by decide), xle_n h (oX6_k1 g) (by decide) (oX6_n1 g), xle_r h g.1 (by decide) (by decide) (oX6_r2 g), xle_k h (oX6_k2 g) (by decide), xle_n h (oX6_k2 g) (by decide) (oX6_n2 g), xle_r h g.1 (by decide) (by decide) (oX6_r3 g), xle_k h (oX6_k3 g) (by decide), xle_n h (oX6_k3 g) (by decide) (oX6_n3 g), xle_r h g.1 (by decide) (by decide) (oX6_r4 g), xle_k h (oX6_k4 g) (by decide), xle_n h (oX6_k4 g) (by decide) (oX6_n4 g)⟩
theorem oX9_le {t t' : xTh} {a : Nat} (h : xle t t') (g : oX9 t a) : oX9 t' a := ⟨xle_k h g.1 (by decide), xle_r h g.1 (by decide) (by decide) (oX9_r0 g), xle_k h (oX9_k0 g) (by decide), xle_n h (oX9_k0 g) (by decide) (oX9_n0 g)⟩
theorem oX10_le {t t' : xTh} {a : Nat} (h : xle t t') (g : oX10 t a) : oX10 t' a := ⟨xle_k h g.1 (by decide), xle_r h g.1 (by decide) (by decide) (oX10_r0 g), oX2_le h (oX10_o0 g), xle_r h g.1 (by decide) (by decide) (oX10_r1 g), oX1_le h (oX10_o1 g), xle_r h g.1 (by decide) (by decide) (oX10_r2 g), oX4_le h (oX10_o2 g), xle_r h g.1 (by decide) (by decide) (oX10_r3 g), oX5_le h (oX10_o3 g), xle_r h g.1 (by decide) (by decide) (oX10_r4 g), oX0_le h (oX10_o4 g), xle_r h g.1 (by decide) (by decide) (oX10_r5 g), oX6_le h (oX10_o5 g)⟩
theorem oX8_le {t t' : xTh} {a : Nat} (h : xle t t') (g : oX8 t a) : oX8 t' a := ⟨xle_k h g.1 (by decide), xle_r h g.1 (by decide) (by decide) (oX8_r0 g), oX9_le h (oX8_o0 g), xle_r h g.1 (by decide) (by decide) (oX8_r1 g), oX10_le h (oX8_o1 g), xle_r h g.1 (by decide) (by decide) (oX8_r4 g), xle_k h (oX8_k4 g) (by decide), xle_n h (oX8_k4 g) (by decide) (oX8_n4 g)⟩
theorem oX3_le {t t' : xTh} {a : Nat} (h : xle t t') (g : oX3 t a) : oX3 t' a := ⟨xle_k h g.1 (by decide), xle_r h g.1 (by decide) (by decide) (oX3_r0 g), xle_k h (oX3_k0 g) (by decide), xle_n h (oX3_k0 g) (by decide) (oX3_n0 g), fun i hi => ⟨xle_r h (oX3_k0 g) (by decide) (by omega) (oX3_w g i hi).1, oX10_le h (oX3_w g i hi).2⟩⟩
theorem oX11_le {t t' : xTh} {a : Nat} (h : xle t t') (g : oX11 t a) : oX11 t' a := ⟨xle_k h g.1 (by decide), xle_r h g.1 (by decide) (by decide) (oX11_r0 g), oX8_le h (oX11_o0 g), xle_r h g.1 (by decide) (by decide) (oX11_r1 g), oX10_le h (oX11_o1 g), xle_r h g.1 (by decide) (by decide) (oX11_r2 g), oX10_le h (oX11_o2 g), xle_r h g.1 (by decide) (by decide) (oX11_r3 g), oX3_le h (oX11_o3 g)⟩
theorem oX7_le {t t' : xTh} {a qc qs nq : Nat} (h : xle t t') (g : oX7 t a qc qs nq) : oX7 t' a qc qs nq := by
  obtain ⟨g1, g2, g3, g4, g5, g6, g7, g8⟩ := g
  exact ⟨xle_k h g1 (by decide), xle_r h g1 (by decide) (by decide) g2, xle_k h g3 (by decide), xle_n h g3 (by decide) g4, xle_r h g1 (by decide) (by decide) g5, xle_k h g6 (by decide), xle_n h g6 (by decide) g7, g8⟩
/-- the price of the World at w; what a price's code is as long as -/
def xq (t : xTh) (w : Nat) : Nat := (xr t w 6).getD 0
def xqn (t : xTh) (w : Nat) : Nat := xn t (xq t w + 1)
def oQ (t : xTh) (w : Nat) : Prop := xr t w 6 = some (xq t w) ∧ oX7 t (xq t w) (xq t w + 1) (xq t w + 2) (xqn t w)
theorem oQ_le {t t' : xTh} {w : Nat} (h : xle t t') (he : xr t' w 6 = xr t w 6) (g : oQ t w) : oQ t' w ∧ xq t' w = xq t w ∧ xqn t' w = xqn t w := by
  have e : xq t' w = xq t w := by unfold xq; rw [he]
  have e2 : xqn t' w = xqn t w := by unfold xqn; rw [e]; exact xle_n h g.2.2.2.1 (by decide) rfl
  refine ⟨⟨by rw [e, he]; exact g.1, ?_⟩, e, e2⟩
  rw [e, e2]
  exact oX7_le h g.2
def xqs (t t' : xTh) : Prop := xle t t' ∧ (∀ w, xk t w = 10 → oQ t w → oQ t' w) ∧ (xlive t → xlive t')
theorem xqs_refl (t : xTh) : xqs t t := ⟨xle_refl t, fun _ _ h => h, fun h => h⟩
theorem xqs_trans {t t' u : xTh} (h : xqs t t') (g : xqs t' u) : xqs t u := ⟨xle_trans h.1 g.1, fun w hw q => g.2.1 w (xle_k h.1 hw (by decide)) (h.2.1 w hw q), fun q => g.2.2 (h.2.2 q)⟩
theorem xr_wr {t : xTh} {a j b i : Nat} {v : Option Nat} : xr (xwr t a j v) b i = if b = a ∧ i = j then v else xr t b i := rfl
theorem xqs_wr {t : xTh} {a b : Nat} (hk : xk t a = 10) (hq : oX7 t b (b + 1) (b + 2) (xn t (b + 1))) : xqs t (xwr t a 6 (some b)) := by
  have hl : xle t (xwr t a 6 (some b)) := ⟨Nat.le_refl _, fun c _ => ⟨rfl, rfl, fun j hj => by
    rw [xr_wr, if_neg]
    rintro ⟨rfl, rfl⟩
    exact hj ⟨hk, rfl⟩⟩⟩
  refine ⟨hl, fun w hw q => ?_, fun h => h⟩
  by_cases e : w = a
  · subst e
    have e1 : xr (xwr t w 6 (some b)) w 6 = some b := by rw [xr_wr, if_pos ⟨rfl, rfl⟩]
    have e2 : xq (xwr t w 6 (some b)) w = b := by unfold xq; rw [e1]; rfl
    refine ⟨by rw [e2]; exact e1, ?_⟩
    unfold xqn
    rw [e2]
    exact oX7_le hl hq
  · exact (oQ_le hl (by rw [xr_wr, if_neg (fun z => e z.1)]) q).1
theorem xle_new {t : xTh} {k n : Nat} (h : xlive t) : xle t (xnw t k n) := ⟨Nat.le_succ _, fun b hb => by
  have hne : b ≠ xz t := fun e => Nat.lt_irrefl _ (e ▸ h b hb)
  exact ⟨by simp [xk, xnw, hne], by simp [xn, xnw, hne], fun j _ => by simp [xr, xnw, hne]⟩⟩
theorem xlive_new {t : xTh} {k n : Nat} (h : xlive t) : xlive (xnw t k n) := fun b hb => by
  by_cases e : b = xz t
  · rw [e]; exact Nat.lt_succ_self _
  · have : xk (xnw t k n) b = xk t b := by simp [xk, xnw, e]
    exact Nat.lt_succ_of_lt (h b (by rw [← this]; exact hb))
theorem xlive_wr {t : xTh} {a j : Nat} {v : Option Nat} (h : xlive t) : xlive (xwr t a j v) := h
theorem xle_wf {t t' : xTh} {a j : Nat} {v : Option Nat} (hl : xlive t) (h : xle t t') (ha : xz t ≤ a) : xle t (xwr t' a j v) := ⟨h.1, fun b hb => by
  obtain ⟨h1, h2, h3⟩ := h.2 b hb
  have := hl b hb
  exact ⟨h1, h2, fun i hi => by rw [xr_wr, if_neg (by omega)]; exact h3 i hi⟩⟩
theorem xkN_new {t : xTh} {k n : Nat} : xk (xnw t k n) (xz t) = k := by simp [xk, xnw]
theorem xn_new2 {t : xTh} {k n : Nat} : xn (xnw t k n) (xz t) = n := by simp [xn, xnw]
theorem xz_new {t : xTh} {k n : Nat} : xz (xnw t k n) = xz t + 1 := rfl
theorem xk_newne {t : xTh} {k n a : Nat} (h : a ≠ xz t) : xk (xnw t k n) a = xk t a := by simp [xk, xnw, h]
theorem xn_newne {t : xTh} {k n a : Nat} (h : a ≠ xz t) : xn (xnw t k n) a = xn t a := by simp [xn, xnw, h]
theorem xr_newne {t : xTh} {k n a j : Nat} (h : a ≠ xz t) : xr (xnw t k n) a j = xr t a j := by simp [xr, xnw, h]
theorem xMR_0 {M : xMe} {a : Nat} (h : xMR M) : xMR (xw0 M a) := fun b j => by
  unfold xw0; split
  · exact ⟨by decide, by decide⟩
  · exact h b j
section XTC
variable {X : xCx} {own nm : String} {cc : ByteArray} {n d : Nat} {r : Option FieldType} {G : xGx} {cells slots mc ms : Nat} {t : xTh} {M : xMe} {pc : Nat} {L st : List Value} {Po : Option Value → xTh → xMe → Prop} {Px : String → xTh → xMe → Prop}
theorem xRp_live {H : Heap} {locs : List Loc} (h : xRp G t M H locs) : xlive t := fun b hb => by
  obtain ⟨q0, hq0⟩ := va_pl_get (X := []) (f := xE G.2.1 t M) ((h.2.2.2.choose_spec.1 b).mpr hb)
  have := (h.2.2.2.choose_spec.2.1 q0 _ hq0).lt
  rw [h.2.1] at this
  exact this
theorem xJ_live (k : xlive t → xJ X cells slots t M pc L st) : xJ X cells slots t M pc L st := by
  obtain ⟨p, l, e, R, s, m, args, below, meth, c, G9, Po9, Px9, mc9, ms9⟩ := X
  intro H locs ls a1 a2 a3
  exact k (xRp_live a2) H locs ls a1 a2 a3
/-- a World's price is set to one that lies there -/
theorem xJ_putPM {a b idx : Nat} (h : xC X own nm cc n r d G) (dd : decode cc pc = .ok (.putfield idx, 3)) (hf : xFd own idx 10 6 RX10 TX10 15) (hk : xk t a = 10) (hq : oX7 t b (b + 1) (b + 2) (xn t (b + 1))) (k : ∀ t', t' = xwr t a 6 (some b) → xqs t t' → xJ X cells slots t' M (pc + 3) L st) : xJ X cells slots t M pc L (vr b :: vr a :: st) :=
  xJ_putR (x := some b) h dd hf ft_X10 rfl rfl rfl rfl hk (k _ rfl (xqs_wr hk hq))
end XTC
theorem c_X7_init {G : xGx} {t : xTh} {M : xMe} {a b : Nat} (hk : xk t a = 7) : xCt G yX7_init cX7_init 2 none 1 1 11 [vr a, vr b] t M (fun v t' M' => v = none ∧ t' = xwr (xwr (xnw t 14 11) a 1 (some (xz t))) a 0 (some b) ∧ M' = xw0 M (xz t)) (fun _ _ _ => False) := by
  refine xCt_of (L0 := [vr a, vr b]) (by decide +kernel) (Nat.le_of_ble_eq_true rfl) rfl ?_
  intro X hX hB
  refine xJ_live (fun hl => ?_)
  have hne : a ≠ xz t := fun e => Nat.lt_irrefl _ (e ▸ hl a (by rw [hk]; decide))
  have hk1 : xk (xnw t 14 11) a = 7 := (xk_newne hne).trans hk
  refine xJ_aload_n hX dX7_init_0 rfl ?_
  refine xJ_objInit hX hB dX7_init_1 lj_X7_3 jw_obj_im jw_obj_co rfl (by decide) (Nat.le_of_ble_eq_true rfl) ?_
  refine xJ_aload_n hX dX7_init_4 rfl ?_
  refine xJ_bipush hX dX7_init_5 rfl ?_
  refine xJ_newI hX hB dX7_init_7 ac_int (by decide) (by decide) (by decide) (by decide) ?_
  refine xJ_putF (x := some (xz t)) hX dX7_init_9 fd_X7_9 ft_X7 rfl rfl rfl rfl rfl rfl rfl hk1 ?_
  refine xJ_aload_n hX dX7_init_12 rfl ?_
  refine xJ_aload_n hX dX7_init_13 rfl ?_
  refine xJ_putF (x := some b) hX dX7_init_14 fd_X7_15 ft_X7 rfl rfl rfl rfl rfl rfl rfl hk1 ?_
  exact xJ_vret hX hB dX7_init_17 (by decide) (by decide) ⟨rfl, rfl, rfl⟩
/-- a new price q of n codes for the World w: its cells are the three next -/
def xqp (t t' : xTh) (w n : Nat) : Prop := xqs t t' ∧ xz t' = xz t + 3 ∧ oQ t' w ∧ xq t' w = xz t ∧ xqn t' w = n ∧ ∀ w', w' ≠ w → xk t w' ≤ 22 → xr t' w' 6 = xr t w' 6
theorem xqp_of {t : xTh} {w n : Nat} (hl : xlive t) (hk : xk t w = 10) (hn : xR (n : Int)) : xqp t (xwr (xwr (xwr (xnw (xnw (xnw t 7 0) 14 n) 14 11) (xz t) 1 (some (xz t + 2))) (xz t) 0 (some (xz t + 1))) w 6 (some (xz t))) w n := by
  have hw : w < xz t := hl w (by rw [hk]; decide)
  have hl3 : xlive (xnw (xnw (xnw t 7 0) 14 n) 14 11) := xlive_new (xlive_new (xlive_new hl))
  have h1 : xle t (xwr (xwr (xnw (xnw (xnw t 7 0) 14 n) 14 11) (xz t) 1 (some (xz t + 2))) (xz t) 0 (some (xz t + 1))) :=
    xle_wf hl (xle_wf hl (xle_trans (xle_new hl) (xle_trans (xle_new (xlive_new hl)) (xle_new (xlive_new (xlive_new hl))))) (Nat.le_refl _)) (Nat.le_refl _)
  have e0 : ∀ b : Nat, b ≠ xz t → b ≠ xz t + 1 → b ≠ xz t + 2 → xk (xnw (xnw (xnw t 7 0) 14 n) 14 11) b = xk t b := fun b i j k => by rw [xk_newne k, xk_newne j, xk_newne i]
  have k0 : xk (xnw (xnw (xnw t 7 0) 14 n) 14 11) (xz t) = 7 := by rw [xk_newne (by show xz t ≠ xz t + 2; omega), xk_newne (by show xz t ≠ xz t + 1; omega), xkN_new]
  have k1 : xk (xnw (xnw (xnw t 7 0) 14 n) 14 11) (xz t + 1) = 14 := by rw [xk_newne (by show xz t + 1 ≠ xz t + 2; omega)]; exact xkN_new (t := xnw t 7 0)
  have k2 : xk (xnw (xnw (xnw t 7 0) 14 n) 14 11) (xz t + 2) = 14 := xkN_new (t := xnw (xnw t 7 0) 14 n)
  have n1 : xn (xnw (xnw (xnw t 7 0) 14 n) 14 11) (xz t + 1) = n := by rw [xn_newne (by show xz t + 1 ≠ xz t + 2; omega)]; exact xn_new2 (t := xnw t 7 0)
  have n2 : xn (xnw (xnw (xnw t 7 0) 14 n) 14 11) (xz t + 2) = 11 := xn_new2 (t := xnw (xnw t 7 0) 14 n)
  have hq : oX7 (xwr (xwr (xnw (xnw (xnw t 7 0) 14 n) 14 11) (xz t) 1 (some (xz t + 2))) (xz t) 0 (some (xz t + 1))) (xz t) (xz t + 1) (xz t + 2) n :=
    ⟨k0, by rw [xr_wr, if_pos ⟨rfl, rfl⟩], k1, n1, by rw [xr_wr, if_neg (by simp), xr_wr, if_pos ⟨rfl, rfl⟩], k2, n2, hn⟩
  have hk' : xk (xwr (xwr (xnw (xnw (xnw t 7 0) 14 n) 14 11) (xz t) 1 (some (xz t + 2))) (xz t) 0 (some (xz t + 1))) w = 10 := (e0 w (by omega) (by omega) (by omega)).trans hk
  have hq' : oX7 (xwr (xwr (xnw (xnw (xnw t 7 0) 14 n) 14 11) (xz t) 1 (some (xz t + 2))) (xz t) 0 (some (xz t + 1))) (xz t) (xz t + 1) (xz t + 2) (xn (xwr (xwr (xnw (xnw (xnw t 7 0) 14 n) 14 11) (xz t) 1 (some (xz t + 2))) (xz t) 0 (some (xz t + 1))) (xz t + 1)) := by
    rw [hq.2.2.2.1]; exact hq
  have hs := xqs_wr (a := w) hk' hq'
  have hr : ∀ w', w' ≠ xz t → w' ≠ xz t + 1 → w' ≠ xz t + 2 → ∀ j, xr (xwr (xwr (xnw (xnw (xnw t 7 0) 14 n) 14 11) (xz t) 1 (some (xz t + 2))) (xz t) 0 (some (xz t + 1))) w' j = xr t w' j := fun w' i1 i2 i3 j => by
    rw [xr_wr, if_neg (fun z => i1 z.1), xr_wr, if_neg (fun z => i1 z.1), xr_newne i3, xr_newne i2, xr_newne i1]
  have e1 : xq (xwr (xwr (xwr (xnw (xnw (xnw t 7 0) 14 n) 14 11) (xz t) 1 (some (xz t + 2))) (xz t) 0 (some (xz t + 1))) w 6 (some (xz t))) w = xz t := by
    unfold xq; rw [xr_wr, if_pos ⟨rfl, rfl⟩]; rfl
  have hQ : oQ (xwr (xwr (xwr (xnw (xnw (xnw t 7 0) 14 n) 14 11) (xz t) 1 (some (xz t + 2))) (xz t) 0 (some (xz t + 1))) w 6 (some (xz t))) w := by
    refine ⟨by rw [e1, xr_wr, if_pos ⟨rfl, rfl⟩], ?_⟩
    unfold xqn
    rw [e1]
    exact oX7_le hs.1 hq'
  refine ⟨⟨xle_trans h1 hs.1, fun w' hw' q => ?_, fun _ => hl3⟩, rfl, hQ, e1, ?_, fun w' hne hk9 => ?_⟩
  · by_cases e : w' = w
    · rw [e]; exact hQ
    · have hlt := hl w' (by rw [hw']; decide)
      exact (oQ_le (xle_trans h1 hs.1) (by rw [xr_wr, if_neg (fun z => e z.1)]; exact hr w' (by omega) (by omega) (by omega) 6) q).1
  · unfold xqn; rw [e1]; exact n1
  · have hlt := hl w' hk9
    rw [xr_wr, if_neg (fun z => hne z.1)]
    exact hr w' (by omega) (by omega) (by omega) 6
theorem xJ_prS {X : xCx} {nm : String} {cc : ByteArray} {n d : Nat} {r : Option FieldType} {G : xGx} {cells slots mc ms : Nat} {t : xTh} {M : xMe} {pc w : Nat} {L st : List Value} {Po : Option Value → xTh → xMe → Prop} {Px : String → xTh → xMe → Prop} (h : xC X RX10 nm cc n r d G) (hB : xB X mc ms Po Px)
    (d0 : decode cc pc = .ok (.new 53, 3)) (d1 : decode cc (pc + 3) = .ok (.dup, 1)) (d2 : decode cc (pc + 4) = .ok (.iconst 1, 1)) (d3 : decode cc (pc + 5) = .ok (.newarray .int, 2)) (d4 : decode cc (pc + 7) = .ok (.dup, 1)) (d5 : decode cc (pc + 8) = .ok (.iconst 0, 1)) (d6 : decode cc (pc + 9) = .ok (.bipush (-5), 2)) (d7 : decode cc (pc + 11) = .ok (.iastore, 1)) (d8 : decode cc (pc + 12) = .ok (.invokespecial 55, 3)) (d9 : decode cc (pc + 15) = .ok (.putfield 58, 3))
    (hk : xk t w = 10) (hLn : L.length = n) (hd : 2 ≤ d) (hst8 : (st.map fun v => v.category).sum ≤ 6) (hc : cells + 3 ≤ mc) (hs : slots + 14 ≤ ms) (hM : xMR M)
    (k : ∀ t' M', xqp t t' w 1 → M' = xw0 (xw (xw0 (xw0 M (xz t)) (xz t + 1)) (xz t + 1) 0 (-5)) (xz t + 2) → xMR M' → xJ X (cells + 3) (slots + 14) t' M' (pc + 18) L st) : xJ X cells slots t M pc L (vr w :: st) := by
  refine xJ_live (fun hl => ?_)
  have hw : w < xz t := hl w (by rw [hk]; decide)
  refine xJ_new h hB d0 (ci := 7) rfl (by decide) ft_X7 uw_X7 kl_X10_53 is_X7 in_X7 rfl (by decide) (by omega) (by omega) ?_
  refine xJ_dup h d1 rfl ?_
  refine xJ_iconst h d2 ?_
  refine xJ_newI h hB d3 ac_int (by decide) (by decide) (by omega) (by show slots + 2 + 1 ≤ ms; omega) ?_
  have k1 : xk (xnw (xnw t 7 0) 14 (1 : Int).toNat) (xz t) = 7 := by rw [xk_newne (by show xz t ≠ xz t + 1; omega), xkN_new]
  have k2 : xk (xnw (xnw t 7 0) 14 (1 : Int).toNat) (xz t + 1) = 14 := xkN_new (t := xnw t 7 0)
  have n2 : xn (xnw (xnw t 7 0) 14 (1 : Int).toNat) (xz t + 1) = 1 := xn_new2 (t := xnw t 7 0)
  refine xJ_dup h d4 rfl ?_
  refine xJ_iconst h d5 ?_
  refine xJ_bipush h d6 rfl ?_
  refine xJ_iast h d7 k2 (by decide) (xnlt n2 (by decide)) ?_
  refine xJ_callI (As := [vr (xz t + 1)]) (b := xz t) h hB d8 lk_X10_55 im_X7_init rfl (c_X7_init k1) (by omega) hLn rfl rfl (by show ((vr (xz t) :: vr w :: st).map fun v => v.category).sum ≤ 8; simp only [List.map_cons, List.sum_cons]; show 1 + (1 + _) ≤ 8; omega) (by omega) (by show slots + 2 + 1 + 11 ≤ ms; omega) ?_
  rintro v t' M' ⟨rfl, rfl, rfl⟩
  have hp := xqp_of (n := 1) hl hk ⟨by decide, by decide⟩
  refine xJ_putR (x := some (xz t)) h d9 fd_X10_58 ft_X10 rfl rfl rfl rfl ?_ ?_
  · show xk (xnw (xnw (xnw t 7 0) 14 1) 14 11) w = 10
    rw [xk_newne (by show w ≠ xz t + 2; omega), xk_newne (by show w ≠ xz t + 1; omega), xk_newne (by omega)]
    exact hk
  · exact k _ _ hp rfl (xMR_0 (xMR_w (xMR_0 (xMR_0 hM)) ⟨by decide, by decide⟩))
/-- Arrays.copyOf, where the copy is shorter -/
theorem c_J7_copyOf {G : xGx} {t : xTh} {M : xMe} {b nb : Nat} {nn : Int} (hk : xk t b = 14) (hn : xn t b = nb) (hR : xR (nb : Int)) (h0 : 0 ≤ nn) (h1 : nn < nb) (hm : (nb : Int) ≤ 1000) : xCt G yJ7_copyOf_59c91 cJ7_copyOf_59c91 3 (some (.array .int)) 1 1 1000 [vr b, vi nn] t M (fun v t' M' => v = some (vr (xz t)) ∧ t' = xnw t 14 nn.toNat ∧ M' = xcp (xw0 M (xz t)) b (xz t) 0 0 nn.toNat) (fun _ _ _ => False) := by
  have hnR : xR nn := ⟨by omega, by omega⟩
  refine xCt_of (L0 := [vr b, vi nn, vU]) (by decide +kernel) (Nat.le_of_ble_eq_true rfl) rfl ?_
  intro X hX hB
  refine xJ_live (fun hl => ?_)
  have hne : b ≠ xz t := fun e => Nat.lt_irrefl _ (e ▸ hl b (by rw [hk]; decide))
  have hk1 : xk (xnw t 14 nn.toNat) b = 14 := (xk_newne hne).trans hk
  have hn1 : xn (xnw t 14 nn.toNat) b = nb := (xn_newne hne).trans hn
  refine xJ_iload_n hX dJ7_copyOf_59c91_0 rfl ?_
  refine xJ_aload_n hX dJ7_copyOf_59c91_1 rfl ?_
  refine xJ_alen hX dJ7_copyOf_59c91_2 (by rw [hk]; decide) (by rw [hk]; decide) ?_
  rw [hn]
  refine xJ_icmp_ne hX dJ7_copyOf_59c91_3 (tgt := 14) (by decide) hnR hR (fun _ => ?_) (fun q => absurd q (by omega))
  refine xJ_iload_n hX dJ7_copyOf_59c91_14 rfl ?_
  refine xJ_newI hX hB dJ7_copyOf_59c91_15 ac_int h0 (by omega) (by decide) (by show 0 + nn.toNat ≤ 1000; omega) ?_
  refine xJ_astore_n hX dJ7_copyOf_59c91_17 (Nat.le_of_ble_eq_true rfl) rfl ?_
  dsimp only [List.set]
  refine xJ_aload_n hX dJ7_copyOf_59c91_18 rfl ?_
  refine xJ_iconst hX dJ7_copyOf_59c91_19 ?_
  refine xJ_aload_n hX dJ7_copyOf_59c91_20 rfl ?_
  refine xJ_iconst hX dJ7_copyOf_59c91_21 ?_
  refine xJ_aload_n hX dJ7_copyOf_59c91_22 rfl ?_
  refine xJ_alen hX dJ7_copyOf_59c91_23 (by rw [hk1]; decide) (by rw [hk1]; decide) ?_
  rw [hn1]
  refine xJ_iload_n hX dJ7_copyOf_59c91_24 rfl ?_
  refine xJ_mmin hX hB dJ7_copyOf_59c91_25 lj_J7_304 jw_min_st jw_ma_in jw_min_co rfl (by decide) (Nat.le_of_ble_eq_true rfl) (by decide) (by show 0 + nn.toNat ≤ 1000; omega) hR hnR ?_
  rw [show min (nb : Int) nn = nn by omega]
  refine xJ_copy hX hB dJ7_copyOf_59c91_28 lj_J7_150 jw_cp_nat jw_cp_st jw_cp_in rfl (by decide) (Nat.le_of_ble_eq_true rfl) hk1 xkN_new (by decide) (by decide) h0 (by rw [hn1]; omega) (by rw [xn_new2]; omega) ?_
  refine xJ_aload_n hX dJ7_copyOf_59c91_31 rfl ?_
  exact xJ_aret hX hB dJ7_copyOf_59c91_32 (Or.inr ⟨_, rfl⟩) (Or.inr ⟨_, rfl⟩) (by decide) (by show 0 + nn.toNat ≤ 1000; omega) ⟨rfl, rfl, rfl⟩
theorem xJ_prR {X : xCx} {nm : String} {n d : Nat} {r : Option FieldType} {G : xGx} {cells slots mc ms : Nat} {t : xTh} {M : xMe} {a : Nat} {L : List Value} {Po : Option Value → xTh → xMe → Prop} {Px : String → xTh → xMe → Prop} (h : xC X RX8 nm cX8_read n r d G) (hB : xB X mc ms Po Px)
    (hL0 : L[0]? = some (vr a)) (hLn : L.length = n) (hX8 : oX8 t a) (hM : xMR M) (h0 : 0 ≤ M a 5) (h1 : M a 5 < 700) (hd : 3 ≤ d) (hc : cells + 3 ≤ mc) (hs : slots + 1013 ≤ ms)
    (k : ∀ t' M', xqp t t' (a + 3) (M a 5).toNat → M' = xw0 (xcp (xw0 (xw0 M (xz t)) (xz t + 1)) (a + 42) (xz t + 1) 0 0 (M a 5).toNat) (xz t + 2) → xMR M' → xJ X (cells + 3) (slots + 1013) t' M' 182 L []) : xJ X cells slots t M 161 L [vr (a + 3)] := by
  refine xJ_live (fun hl => ?_)
  have hk : xk t (a + 3) = 10 := oX10_k (oX8_o1 hX8)
  have hw : a + 3 < xz t := hl _ (by rw [hk]; decide)
  have h42 : a + 42 < xz t := hl _ (by rw [oX8_k4 hX8]; decide)
  have hl1 : xle t (xnw t 7 0) := xle_new hl
  have e5 : xw0 M (xz t) a 5 = M a 5 := by unfold xw0; rw [if_neg (by omega)]
  refine xJ_new h hB dX8_read_161 (ci := 7) rfl (by decide) ft_X7 uw_X7 kl_X8_80 is_X7 in_X7 rfl (by decide) (by omega) (by omega) ?_
  refine xJ_dup h dX8_read_164 rfl ?_
  refine xJ_aload_n h dX8_read_165 hL0 ?_
  refine xJ_getR (b := a + 42) h dX8_read_166 fd_X8_25 rfl (xle_k hl1 (oX8_k hX8) (by decide)) (xle_r hl1 (oX8_k hX8) (by decide) (by decide) (oX8_r4 hX8)) ?_
  refine xJ_aload_n h dX8_read_169 hL0 ?_
  refine xJ_getI h dX8_read_170 fd_X8_77 rfl (xle_k hl1 (oX8_k hX8) (by decide)) ?_
  rw [e5]
  refine xJ_callS (As := [vr (a + 42), vi (M a 5)]) h hB dX8_read_173 lk_X8_82 sm_J7_copyOf_59c91 (c_J7_copyOf (nb := 700) (xle_k hl1 (oX8_k4 hX8) (by decide)) (xle_n hl1 (oX8_k4 hX8) (by decide) (oX8_n4 hX8)) ⟨by decide, by decide⟩ h0 (by omega) (by decide)) (by omega) hLn rfl rfl (Nat.le_of_ble_eq_true rfl) (by omega) (by omega) ?_ (fun _ _ _ q => q.elim)
  rintro v t' M' ⟨rfl, rfl, rfl⟩
  have k1 : xk (xnw (xnw t 7 0) 14 (M a 5).toNat) (xz t) = 7 := by rw [xk_newne (by show xz t ≠ xz t + 1; omega), xkN_new]
  refine xJ_callI (As := [vr (xz t + 1)]) (b := xz t) h hB dX8_read_176 lk_X8_88 im_X7_init rfl (c_X7_init k1) (by omega) hLn rfl rfl (Nat.le_of_ble_eq_true rfl) (by omega) (by omega) ?_
  rintro v t' M' ⟨rfl, rfl, rfl⟩
  have hp := xqp_of (w := a + 3) (n := (M a 5).toNat) hl hk ⟨by omega, by omega⟩
  refine xJ_putR (x := some (xz t)) h dX8_read_179 fd_X8_91 ft_X10 rfl rfl rfl rfl ?_ ?_
  · show xk (xnw (xnw (xnw t 7 0) 14 _) 14 11) (a + 3) = 10
    rw [xk_newne (by show a + 3 ≠ xz t + 2; omega), xk_newne (by show a + 3 ≠ xz t + 1; omega), xk_newne (by omega)]
    exact hk
  · exact k _ _ hp rfl (xMR_0 (xMR_cp (xMR_0 (xMR_0 hM))))
/-- History.at -/
theorem c_X3_at {G : xGx} {t : xTh} {M : xMe} {a : Nat} {i : Int} (hL : oX3 t a) (h0 : 0 ≤ i) (h1 : i < 8) : xCt G yX3_at cX3_at 2 (some (.object "PacketToll$World")) 0 0 0 [vr a, vi i] t M (fun v t' M' => v = some (vr (a + 2 + 39 * i.toNat)) ∧ t' = t ∧ M' = M) (fun _ _ _ => False) := by
  have hi : xR i := ⟨by omega, by omega⟩
  refine xCt_of (L0 := [vr a, vi i]) (by decide +kernel) (Nat.le_of_ble_eq_true rfl) rfl ?_
  intro X hX hB
  refine xJ_iload_n hX dX3_at_0 rfl ?_
  refine xJ_if_lt hX dX3_at_1 (tgt := 19) (by decide) hi (fun q => absurd q (by omega)) (fun _ => ?_)
  refine xJ_iload_n hX dX3_at_4 rfl ?_
  refine xJ_bipush hX dX3_at_5 rfl ?_
  refine xJ_icmp_ge hX dX3_at_7 (tgt := 19) (by decide) hi ⟨by decide, by decide⟩ (fun q => absurd q (by omega)) (fun _ => ?_)
  refine xJ_aload_n hX dX3_at_10 rfl ?_
  refine xJ_getR (b := a + 1) hX dX3_at_11 fd_X3_11 rfl (oX3_k hL) (oX3_r0 hL) ?_
  refine xJ_iload_n hX dX3_at_14 rfl ?_
  refine xJ_aaldW hX dX3_at_15 (oX3_k0 hL) h0 (xnlt (oX3_n0 hL) h1) ?_
  rw [(oX3_w hL i.toNat (by omega)).1]
  refine xJ_goto hX dX3_at_16 (tgt := 20) (by decide) ?_
  exact xJ_aret hX hB dX3_at_20 (Or.inl ⟨_, rfl⟩) (Or.inr ⟨_, rfl⟩) (by decide) (by decide) ⟨rfl, rfl, rfl⟩
theorem xwr_same {t : xTh} {a j : Nat} {v : Option Nat} (h : xr t a j = v) : xwr t a j v = t := by
  have : (fun b i => if b = a ∧ i = j then v else xr t b i) = fun b i => xr t b i := by
    funext b i
    by_cases e : b = a ∧ i = j
    · rw [if_pos e, e.1, e.2, h]
    · rw [if_neg e]
  unfold xwr
  rw [this]
  rfl
theorem xwr_hsm {t t' : xTh} {a b : Nat} (h : t' = xwr t a 6 (some (xq t b))) (hne : b ≠ a) : xr t' a 6 = some (xq t' b) := by
  subst h
  rw [xr_wr, if_pos ⟨rfl, rfl⟩]
  unfold xq
  rw [xr_wr, if_neg (fun z => hne z.1)]
/-- the Worlds of the PacketToll at x -/
def xWo (x w : Nat) : Prop := w = x + 1 + 3 ∨ w = x + 44 ∨ w = x + 83 ∨ ∃ i, i < 8 ∧ w = x + 122 + 2 + 39 * i
def oXQ (t : xTh) (x : Nat) : Prop := ∀ w, xWo x w → oQ t w
theorem xWo_k {t : xTh} {x w : Nat} (hL : oX11 t x) (h : xWo x w) : xk t w = 10 := by
  rcases h with rfl | rfl | rfl | ⟨i, hi, rfl⟩
  · exact oX10_k (oX8_o1 (oX11_o0 hL))
  · exact oX10_k (oX11_o1 hL)
  · exact oX10_k (oX11_o2 hL)
  · exact oX10_k (oX3_w (oX11_o3 hL) i hi).2
theorem oXQ_le {t t' : xTh} {x : Nat} (h : xqs t t') (hL : oX11 t x) (g : oXQ t x) : oXQ t' x := fun w hw => h.2.1 w (xWo_k hL hw) (g w hw)
theorem oXQ_0 {t : xTh} {x : Nat} (g : oXQ t x) : oQ t (x + 1 + 3) := g _ (Or.inl rfl)
theorem oXQ_1 {t : xTh} {x : Nat} (g : oXQ t x) : oQ t (x + 44) := g _ (Or.inr (Or.inl rfl))
theorem oXQ_2 {t : xTh} {x : Nat} (g : oXQ t x) : oQ t (x + 83) := g _ (Or.inr (Or.inr (Or.inl rfl)))
theorem oXQ_3 {t : xTh} {x : Nat} (g : oXQ t x) : ∀ i, i < 8 → oQ t (x + 122 + 2 + 39 * i) := fun i hi => g _ (Or.inr (Or.inr (Or.inr ⟨i, hi, rfl⟩)))
