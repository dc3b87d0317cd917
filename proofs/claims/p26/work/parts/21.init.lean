/-! CONSTRUCTORS: the cells of an object one behind another -/
/-- t' is t on the cells of ours in [lo, hi) -/
def xsm (t t' : xTh) (lo hi : Nat) : Prop := ∀ b, lo ≤ b → b < hi → xk t b ≤ 22 → xk t' b = xk t b ∧ xn t' b = xn t b ∧ ∀ j, xr t' b j = xr t b j
theorem xsm_k {t t' : xTh} {lo hi a k : Nat} (h : xsm t t' lo hi) (h1 : lo ≤ a) (h2 : a < hi) (g : xk t a = k) (hk : k ≤ 22) : xk t' a = k := (h a h1 h2 (by omega)).1.trans g
theorem xsm_n {t t' : xTh} {lo hi a k m : Nat} (h : xsm t t' lo hi) (h1 : lo ≤ a) (h2 : a < hi) (g : xk t a = k) (hk : k ≤ 22) (gn : xn t a = m) : xn t' a = m := (h a h1 h2 (by omega)).2.1.trans gn
theorem xsm_r {t t' : xTh} {lo hi a k j : Nat} {v : Option Nat} (h : xsm t t' lo hi) (h1 : lo ≤ a) (h2 : a < hi) (g : xk t a = k) (hk : k ≤ 22) (gr : xr t a j = v) : xr t' a j = v := ((h a h1 h2 (by omega)).2.2 j).trans gr
theorem xsm_refl (t : xTh) (lo hi : Nat) : xsm t t lo hi := fun _ _ _ _ => ⟨rfl, rfl, fun _ => rfl⟩
theorem xsm_trans {t t' u : xTh} {lo hi : Nat} (h : xsm t t' lo hi) (g : xsm t' u lo hi) : xsm t u lo hi := fun b h1 h2 h3 => by
  obtain ⟨a1, a2, a3⟩ := h b h1 h2 h3
  obtain ⟨c1, c2, c3⟩ := g b h1 h2 (by omega)
  exact ⟨c1.trans a1, c2.trans a2, fun j => (c3 j).trans (a3 j)⟩
theorem xsm_sub {t t' : xTh} {lo hi lo' hi' : Nat} (h : xsm t t' lo hi) (h1 : lo ≤ lo') (h2 : hi' ≤ hi) : xsm t t' lo' hi' := fun b g1 g2 => h b (by omega) (by omega)
theorem xsm_new {t : xTh} {k n lo hi : Nat} (h : hi ≤ xz t) : xsm t (xnw t k n) lo hi := fun b _ h2 _ => ⟨xk_newne (by omega), xn_newne (by omega), fun _ => xr_newne (by omega)⟩
theorem xsm_wr {t : xTh} {a j lo hi : Nat} {v : Option Nat} (h : a < lo ∨ hi ≤ a) : xsm t (xwr t a j v) lo hi := fun b h1 h2 _ => ⟨rfl, rfl, fun i => by rw [xr_wr, if_neg]; omega⟩
theorem xsm_qp {t t' : xTh} {w n lo hi : Nat} (h : xqp t t' w n) (hw : w < lo ∨ hi ≤ w) : xsm t t' lo hi := fun b h1 h2 h3 => by
  obtain ⟨a1, a2, a3⟩ := h.1.1.2 b h3
  refine ⟨a1, a2, fun j => ?_⟩
  by_cases e : j = 6
  · subst e
    exact h.2.2.2.2.2 b (by omega) h3
  · exact a3 j (by omega)
theorem oX0_sm {t t' : xTh} {lo hi a : Nat} (h : xsm t t' lo hi) (h1 : lo ≤ a) (h2 : a + 5 ≤ hi) (g : oX0 t a) : oX0 t' a := ⟨xsm_k h h1 (by omega) g.1 (by decide), xsm_r h h1 (by omega) g.1 (by decide) (oX0_r0 g), xsm_k h (by omega) (by omega) (oX0_k0 g) (by decide), xsm_n h (by omega) (by omega) (oX0_k0 g) (by decide) (oX0_n0 g), xsm_r h h1 (by omega) g.1 (by decide) (oX0_r1 g), xsm_k h (by omega) (by omega) (oX0_k1 g) (by decide), xsm_n h (by omega) (by omega) (oX0_k1 g) (by decide) (oX0_n1 g), xsm_r h h1 (by omega) g.1 (by decide) (oX0_r2 g), xsm_k h (by omega) (by omega) (oX0_k2 g) (by decide), xsm_n h (by omega) (by omega) (oX0_k2 g) (by decide) (oX0_n2 g), xsm_r h h1 (by omega) g.1 (by decide) (oX0_r3 g), xsm_k h (by omega) (by omega) (oX0_k3 g) (by decide), xsm_n h (by omega) (by omega) (oX0_k3 g) (by decide) (oX0_n3 g)⟩
theorem oX1_sm {t t' : xTh} {lo hi a : Nat} (h : xsm t t' lo hi) (h1 : lo ≤ a) (h2 : a + 5 ≤ hi) (g : oX1 t a) : oX1 t' a := ⟨xsm_k h h1 (by omega) g.1 (by decide), xsm_r h h1 (by omega) g.1 (by decide) (oX1_r0 g), xsm_k h (by omega) (by omega) (oX1_k0 g) (by decide), xsm_n h (by omega) (by omega) (oX1_k0 g) (by decide) (oX1_n0 g), xsm_r h h1 (by omega) g.1 (by decide) (oX1_r1 g), xsm_k h (by omega) (by omega) (oX1_k1 g) (by decide), xsm_n h (by omega) (by omega) (oX1_k1 g) (by decide) (oX1_n1 g), xsm_r h h1 (by omega) g.1 (by decide) (oX1_r2 g), xsm_k h (by omega) (by omega) (oX1_k2 g) (by decide), xsm_n h (by omega) (by omega) (oX1_k2 g) (by decide) (oX1_n2 g), xsm_r h h1 (by omega) g.1 (by decide) (oX1_r3 g), xsm_k h (by omega) (by omega) (oX1_k3 g) (by decide), xsm_n h (by omega) (by omega) (oX1_k3 g) (by decide) (oX1_n3 g)⟩
theorem oX2_sm {t t' : xTh} {lo hi a : Nat} (h : xsm t t' lo hi) (h1 : lo ≤ a) (h2 : a + 4 ≤ hi) (g : oX2 t a) : oX2 t' a := ⟨xsm_k h h1 (by omega) g.1 (by decide), xsm_r h h1 (by omega) g.1 (by decide) (oX2_r0 g), xsm_k h (by omega) (by omega) (oX2_k0 g) (by decide), xsm_n h (by omega) (by omega) (oX2_k0 g) (by decide) (oX2_n0 g), xsm_r h h1 (by omega) g.1 (by decide) (oX2_r1 g), xsm_k h (by omega) (by omega) (oX2_k1 g) (by decide), xsm_n h (by omega) (by omega) (oX2_k1 g) (by decide) (oX2_n1 g), xsm_r h h1 (by omega) g.1 (by decide) (oX2_r2 g), xsm_k h (by omega) (by omega) (oX2_k2 g) (by decide), xsm_n h (by omega) (by omega) (oX2_k2 g) (by decide) (oX2_n2 g)⟩
theorem oX4_sm {t t' : xTh} {lo hi a : Nat} (h : xsm t t' lo hi) (h1 : lo ≤ a) (h2 : a + 6 ≤ hi) (g : oX4 t a) : oX4 t' a := ⟨xsm_k h h1 (by omega) g.1 (by decide), xsm_r h h1 (by omega) g.1 (by decide) (oX4_r0 g), xsm_k h (by omega) (by omega) (oX4_k0 g) (by decide), xsm_n h (by omega) (by omega) (oX4_k0 g) (by decide) (oX4_n0 g), xsm_r h h1 (by omega) g.1 (by decide) (oX4_r1 g), xsm_k h (by omega) (by omega) (oX4_k1 g) (by decide), xsm_n h (by omega) (by omega) (oX4_k1 g) (by decide) (oX4_n1 g), xsm_r h h1 (by omega) g.1 (by decide) (oX4_r2 g), xsm_k h (by omega) (by omega) (oX4_k2 g) (by decide), xsm_n h (by omega) (by omega) (oX4_k2 g) (by decide) (oX4_n2 g), xsm_r h h1 (by omega) g.1 (by decide) (oX4_r3 g), xsm_k h (by omega) (by omega) (oX4_k3 g) (by decide), xsm_n h (by omega) (by omega) (oX4_k3 g) (by decide) (oX4_n3 g), xsm_r h h1 (by omega) g.1 (by decide) (oX4_r4 g), xsm_k h (by omega) (by omega) (oX4_k4 g) (by decide), xsm_n h (by omega) (by omega) (oX4_k4 g) (by decide) (oX4_n4 g)⟩
theorem oX5_sm {t t' : xTh} {lo hi a : Nat} (h : xsm t t' lo hi) (h1 : lo ≤ a) (h2 : a + 9 ≤ hi) (g : oX5 t a) : oX5 t' a := ⟨xsm_k h h1 (by omega) g.1 (by decide), xsm_r h h1 (by omega) g.1 (by decide) (oX5_r0 g), xsm_k h (by omega) (by omega) (oX5_k0 g) (by decide), xsm_n h (by omega) (by omega) (oX5_k0 g) (by decide) (oX5_n0 g), xsm_r h h1 (by omega) g.1 (by decide) (oX5_r1 g), xsm_k h (by omega) (by omega) (oX5_k1 g) (by decide), xsm_n h (by omega) (by omega) (oX5_k1 g) (by decide) (oX5_n1 g), xsm_r h h1 (by omega) g.1 (by decide) (oX5_r2 g), xsm_k h (by omega) (by omega) (oX5_k2 g) (by decide), xsm_n h (by omega) (by omega) (oX5_k2 g) (by decide) (oX5_n2 g), xsm_r h h1 (by omega) g.1 (by decide) (oX5_r3 g), xsm_k h (by omega) (by omega) (oX5_k3 g) (by decide), xsm_n h (by omega) (by omega) (oX5_k3 g) (by decide) (oX5_n3 g), xsm_r h h1 (by omega) g.1 (by decide) (oX5_r4 g), xsm_k h (by omega) (by omega) (oX5_k4 g) (by decide), xsm_n h (by omega) (by omega) (oX5_k4 g) (by decide) (oX5_n4 g), xsm_r h h1 (by omega) g.1 (by decide) (oX5_r5 g), xsm_k h (by omega) (by omega) (oX5_k5 g) (by decide), xsm_n h (by omega) (by omega) (oX5_k5 g) (by decide) (oX5_n5 g), xsm_r h h1 (by omega) g.1 (by decide) (oX5_r6 g), xsm_k h (by omega) (by omega) (oX5_k6 g) (by decide), xsm_n h (by omega) (by omega) (oX5_k6 g) (by decide) (oX5_n6 g), xsm_r h h1 (by omega) g.1 (by decide) (oX5_r7 g), xsm_k h (by omega) (by omega) (oX5_k7 g) (by decide), xsm_n h (by omega) (by omega) (oX5_k7 g) (by decide) (oX5_n7 g)⟩
theorem oX6_sm {t t' : xTh} {lo hi a : Nat} (h : xsm t t' lo hi) (h1 : lo ≤ a) (h2 : a + 6 ≤ hi) (g : oX6 t a) : oX6 t' a := ⟨xsm_k h h1 (by omega) g.1 (by decide), xsm_r h h1 (by omega) g.1 (by decide) (oX6_r0 g), xsm_k h (by omega) (by omega) (oX6_k0 g) (by decide), xsm_n h (by omega) (by omega) (oX6_k0 g) (by decide) (oX6_n0 g), xsm_r h h1 (by omega) g.1 (by decide) (oX6_r1 g), xsm_k h (by omega) (by omega) (oX6_k1 g) (by decide), xsm_n h (by omega) (by omega) (oX6_k1 g) (by decide) (oX6_n1 g), xsm_r h h1 (by omega) g.1 (by decide) (oX6_r2 g), xsm_k h (by omega) (by omega) (oX6_k2 g) (by decide), xsm_n h (by omega) (by omega) (oX6_k2 g) (by decide) (oX6_n2 g), xsm_r h h1 (by omega) g.1 (by decide) (oX6_r3 g), xsm_k h (by omega) (by omega) (oX6_k3 g) (by decide), xsm_n h (by omega) (by omega) (oX6_k3 g) (by decide) (oX6_n3 g), xsm_r h h1 (by omega) g.1 (by decide) (oX6_r4 g), xsm_k h (by omega) (by omega) (oX6_k4 g) (by decide), xsm_n h (by omega) (by omega) (oX6_k4 g) (by decide) (oX6_n4 g)⟩
theorem oX9_sm {t t' : xTh} {lo hi a : Nat} (h : xsm t t' lo hi) (h1 : lo ≤ a) (h2 : a + 2 ≤ hi) (g : oX9 t a) : oX9 t' a := ⟨xsm_k h h1 (by omega) g.1 (by decide), xsm_r h h1 (by omega) g.1 (by decide) (oX9_r0 g), xsm_k h (by omega) (by omega) (oX9_k0 g) (by decide), xsm_n h (by omega) (by omega) (oX9_k0 g) (by decide) (oX9_n0 g)⟩
theorem oX10_sm {t t' : xTh} {lo hi a : Nat} (h : xsm t t' lo hi) (h1 : lo ≤ a) (h2 : a + 36 ≤ hi) (g : oX10 t a) : oX10 t' a := ⟨xsm_k h h1 (by omega) g.1 (by decide), xsm_r h h1 (by omega) g.1 (by decide) (oX10_r0 g), oX2_sm h (by omega) (by omega) (oX10_o0 g), xsm_r h h1 (by omega) g.1 (by decide) (oX10_r1 g), oX1_sm h (by omega) (by omega) (oX10_o1 g), xsm_r h h1 (by omega) g.1 (by decide) (oX10_r2 g), oX4_sm h (by omega) (by omega) (oX10_o2 g), xsm_r h h1 (by omega) g.1 (by decide) (oX10_r3 g), oX5_sm h (by omega) (by omega) (oX10_o3 g), xsm_r h h1 (by omega) g.1 (by decide) (oX10_r4 g), oX0_sm h (by omega) (by omega) (oX10_o4 g), xsm_r h h1 (by omega) g.1 (by decide) (oX10_r5 g), oX6_sm h (by omega) (by omega) (oX10_o5 g)⟩
theorem oX8_sm {t t' : xTh} {lo hi a : Nat} (h : xsm t t' lo hi) (h1 : lo ≤ a) (h2 : a + 43 ≤ hi) (g : oX8 t a) : oX8 t' a := ⟨xsm_k h h1 (by omega) g.1 (by decide), xsm_r h h1 (by omega) g.1 (by decide) (oX8_r0 g), oX9_sm h (by omega) (by omega) (oX8_o0 g), xsm_r h h1 (by omega) g.1 (by decide) (oX8_r1 g), oX10_sm h (by omega) (by omega) (oX8_o1 g), xsm_r h h1 (by omega) g.1 (by decide) (oX8_r4 g), xsm_k h (by omega) (by omega) (oX8_k4 g) (by decide), xsm_n h (by omega) (by omega) (oX8_k4 g) (by decide) (oX8_n4 g)⟩
theorem oX3_sm {t t' : xTh} {lo hi a : Nat} (h : xsm t t' lo hi) (h1 : lo ≤ a) (h2 : a + 314 ≤ hi) (g : oX3 t a) : oX3 t' a := ⟨xsm_k h h1 (by omega) g.1 (by decide), xsm_r h h1 (by omega) g.1 (by decide) (oX3_r0 g), xsm_k h (by omega) (by omega) (oX3_k0 g) (by decide), xsm_n h (by omega) (by omega) (oX3_k0 g) (by decide) (oX3_n0 g), fun i hi => ⟨xsm_r h (by omega) (by omega) (oX3_k0 g) (by decide) (oX3_w g i hi).1, oX10_sm h (by omega) (by omega) (oX3_w g i hi).2⟩⟩
theorem oX11_sm {t t' : xTh} {lo hi a : Nat} (h : xsm t t' lo hi) (h1 : lo ≤ a) (h2 : a + 436 ≤ hi) (g : oX11 t a) : oX11 t' a := ⟨xsm_k h h1 (by omega) g.1 (by decide), xsm_r h h1 (by omega) g.1 (by decide) (oX11_r0 g), oX8_sm h (by omega) (by omega) (oX11_o0 g), xsm_r h h1 (by omega) g.1 (by decide) (oX11_r1 g), oX10_sm h (by omega) (by omega) (oX11_o1 g), xsm_r h h1 (by omega) g.1 (by decide) (oX11_r2 g), oX10_sm h (by omega) (by omega) (oX11_o2 g), xsm_r h h1 (by omega) g.1 (by decide) (oX11_r3 g), oX3_sm h (by omega) (by omega) (oX11_o3 g)⟩
/-- the arrays of an object at a, as far as they are made -/
def xIA (a : Nat) (t0 t : xTh) (ls : List (Nat × Nat)) : Prop := xz t = a + 1 + ls.length ∧ xsm t0 t 0 a ∧ xk t a = xk t0 a ∧ ∀ i p, ls[i]? = some p → xr t a i = some (a + 1 + i) ∧ xk t (a + 1 + i) = p.1 ∧ xn t (a + 1 + i) = p.2
theorem xIA_0 {a : Nat} {t : xTh} (h : xz t = a + 1) : xIA a t t [] := ⟨h, xsm_refl _ _ _, rfl, fun i p q => by simp at q⟩
theorem xIA_s {a kd n : Nat} {t0 t : xTh} {ls : List (Nat × Nat)} (h : xIA a t0 t ls) : xIA a t0 (xwr (xnw t kd n) a ls.length (some (xz t))) (ls ++ [(kd, n)]) := by
  obtain ⟨h1, h2, h3, h4⟩ := h
  have hne : a ≠ xz t := by omega
  refine ⟨?_, ?_, ?_, fun i p hp => ?_⟩
  · show xz t + 1 = _
    rw [h1, List.length_append]; rfl
  · exact xsm_trans h2 (xsm_trans (xsm_new (by omega)) (xsm_wr (Or.inr (Nat.le_refl _))))
  · exact (xk_newne (n := n) hne).trans h3
  · by_cases e : i < ls.length
    · rw [List.getElem?_append_left e] at hp
      obtain ⟨g1, g2, g3⟩ := h4 i p hp
      refine ⟨by rw [xr_wr, if_neg (by omega), xr_newne hne]; exact g1, (xk_newne (n := n) (by omega)).trans g2, (xn_newne (k := kd) (by omega)).trans g3⟩
    · rw [List.getElem?_append_right (by omega)] at hp
      have e0 : i - ls.length = 0 := by
        have := (List.getElem?_eq_some_iff.mp hp).1
        simp only [List.length_cons, List.length_nil] at this
        omega
      rw [e0] at hp
      cases hp
      have ei : i = ls.length := by omega
      subst ei
      refine ⟨by rw [xr_wr, if_pos ⟨rfl, rfl⟩, h1], ?_, ?_⟩
      · rw [← h1]; exact xkN_new (n := n)
      · rw [← h1]; exact xn_new2 (k := kd)
section XIN
variable {X : xCx} {own nm : String} {cc : ByteArray} {n d : Nat} {r : Option FieldType} {G : xGx} {cells slots mc ms : Nat} {t : xTh} {M : xMe} {pc : Nat} {L st : List Value} {Po : Option Value → xTh → xMe → Prop} {Px : String → xTh → xMe → Prop}
/-- an array is made and laid into the field behind the last -/
theorem xJ_ia {a idx ci j N : Nat} {C : String} {T : u_T} {ty : Nat → FieldType} {nn : Int} {t0 : xTh} {M0 : xMe} {ls : List (Nat × Nat)} (h : xC X own nm cc n r d G) (hB : xB X mc ms Po Px) (d1 : decode cc pc = .ok (.newarray .int, 2)) (d2 : decode cc (pc + 2) = .ok (.putfield idx, 3)) (hf : xFd own idx ci j C T N) (hty : xFt C T N ty) (hi : (xFr.getD ci [])[j]? = some true) (hfin : (T j).2.2.2 = true) (hin2 : nm = "<init>") (hCo : C = own) (hDC : (T j).1 = C) (hn : ∀ z, narrow (ty j) (va_rf (some z)) = va_rf (some z)) (hfit : ∀ z, fits (ty j) (va_rf (some z)) = true)
    (hj : ls.length = j) (hA : xIA a t0 t ls) (hk : xk t0 a = ci) (hM : xMR M) (hMb : ∀ b, b ≤ a → M b = M0 b) (h0 : 0 ≤ nn) (h1 : nn ≤ 1000000) (hc : cells + 1 ≤ mc) (hs : slots + nn.toNat ≤ ms) (k : ∀ t' M', xIA a t0 t' (ls ++ [(14, nn.toNat)]) → xMR M' → (∀ b, b ≤ a → M' b = M0 b) → xJ X (cells + 1) (slots + nn.toNat) t' M' (pc + 5) L st) : xJ X cells slots t M pc L (vi nn :: vr a :: st) := by
  subst hj
  refine xJ_newI h hB d1 ac_int h0 h1 hc hs ?_
  have hz := hA.1
  refine xJ_putF (x := some (xz t)) h d2 hf hty hi hfin hin2 hCo hDC (hn _) (hfit _) ((xk_newne (by omega)).trans (hA.2.2.1.trans hk)) ?_
  refine k _ _ (xIA_s hA) (xMR_0 hM) (fun b hb => ?_)
  rw [← hMb b hb]
  funext j
  unfold xw0
  rw [if_neg (by omega)]
theorem xJ_iaZ {a idx ci j N : Nat} {C : String} {T : u_T} {ty : Nat → FieldType} {nn : Int} {t0 : xTh} {M0 : xMe} {ls : List (Nat × Nat)} (h : xC X own nm cc n r d G) (hB : xB X mc ms Po Px) (d1 : decode cc pc = .ok (.newarray .int, 2)) (d2 : decode cc (pc + 2) = .ok (.putfield idx, 3)) (hf : xFd own idx ci j C T N) (hty : xFt C T N ty) (hi : (xFr.getD ci [])[j]? = some true) (hfin : (T j).2.2.2 = true) (hin2 : nm = "<init>") (hCo : C = own) (hDC : (T j).1 = C) (hn : ∀ z, narrow (ty j) (va_rf (some z)) = va_rf (some z)) (hfit : ∀ z, fits (ty j) (va_rf (some z)) = true)
    (hj : ls.length = j) (hA : xIA a t0 t ls) (hk : xk t0 a = ci) (hM : xMR M) (hMb : ∀ b, b ≤ a → M b = M0 b) (hZ : ∀ b, a < b → b < xz t → ∀ j, M b j = 0) (h0 : 0 ≤ nn) (h1 : nn ≤ 1000000) (hc : cells + 1 ≤ mc) (hs : slots + nn.toNat ≤ ms) (k : ∀ t' M', xIA a t0 t' (ls ++ [(14, nn.toNat)]) → xMR M' → (∀ b, b ≤ a → M' b = M0 b) → (∀ b, a < b → b < xz t' → ∀ j, M' b j = 0) → xJ X (cells + 1) (slots + nn.toNat) t' M' (pc + 5) L st) : xJ X cells slots t M pc L (vi nn :: vr a :: st) := by
  subst hj
  refine xJ_newI h hB d1 ac_int h0 h1 hc hs ?_
  have hz := hA.1
  refine xJ_putF (x := some (xz t)) h d2 hf hty hi hfin hin2 hCo hDC (hn _) (hfit _) ((xk_newne (by omega)).trans (hA.2.2.1.trans hk)) ?_
  refine k _ _ (xIA_s hA) (xMR_0 hM) (fun b hb => ?_) (fun b b1 b2 j => ?_)
  · rw [← hMb b hb]
    funext j
    unfold xw0
    rw [if_neg (by omega)]
  · have b2 : b < xz t + 1 := b2
    unfold xw0
    split
    · rfl
    · exact hZ b b1 (by omega) j
theorem xJ_iaY {a idx ci j N : Nat} {C : String} {T : u_T} {ty : Nat → FieldType} {nn : Int} {t0 : xTh} {M0 : xMe} {ls : List (Nat × Nat)} (h : xC X own nm cc n r d G) (hB : xB X mc ms Po Px) (d1 : decode cc pc = .ok (.newarray .byte, 2)) (d2 : decode cc (pc + 2) = .ok (.putfield idx, 3)) (hf : xFd own idx ci j C T N) (hty : xFt C T N ty) (hi : (xFr.getD ci [])[j]? = some true) (hfin : (T j).2.2.2 = true) (hin2 : nm = "<init>") (hCo : C = own) (hDC : (T j).1 = C) (hn : ∀ z, narrow (ty j) (va_rf (some z)) = va_rf (some z)) (hfit : ∀ z, fits (ty j) (va_rf (some z)) = true)
    (hj : ls.length = j) (hA : xIA a t0 t ls) (hk : xk t0 a = ci) (hM : xMR M) (hMb : ∀ b, b ≤ a → M b = M0 b) (h0 : 0 ≤ nn) (h1 : nn ≤ 1000000) (hc : cells + 1 ≤ mc) (hs : slots + nn.toNat ≤ ms) (k : ∀ t' M', xIA a t0 t' (ls ++ [(13, nn.toNat)]) → xMR M' → (∀ b, b ≤ a → M' b = M0 b) → xJ X (cells + 1) (slots + nn.toNat) t' M' (pc + 5) L st) : xJ X cells slots t M pc L (vi nn :: vr a :: st) := by
  subst hj
  refine xJ_newY h hB d1 ac_byte h0 h1 hc hs ?_
  have hz := hA.1
  refine xJ_putF (x := some (xz t)) h d2 hf hty hi hfin hin2 hCo hDC (hn _) (hfit _) ((xk_newne (by omega)).trans (hA.2.2.1.trans hk)) ?_
  refine k _ _ (xIA_s hA) (xMR_0 hM) (fun b hb => ?_)
  rw [← hMb b hb]
  funext j
  unfold xw0
  rw [if_neg (by omega)]
/-- what a constructor of the cells [a, a + s) leaves: J of the numbers -/
def xIn (t : xTh) (M : xMe) (a s : Nat) (P : xTh → Nat → Prop) (J : xMe → Nat → Prop) (v : Option Value) (t' : xTh) (M' : xMe) : Prop := v = none ∧ xMR M' ∧ xz t' = a + s ∧ xsm t t' 0 a ∧ P t' a ∧ (∀ b, b < a → M' b = M b) ∧ J M' a
/-- new C(); its reference into a field of the object at a, which lies before all that it makes -/
theorem xJ_oa {a j idx ci cN ik ic N NC s dI mcI msI nI : Nat} {host C CC : String} {T TC : u_T} {ty tyC : Nat → FieldType} {yI : MethodName} {cI : ByteArray} {P : xTh → Nat → Prop} {J : xMe → Nat → Prop} (h : xC X own nm cc n r d G) (hB : xB X mc ms Po Px) (d0 : decode cc pc = .ok (.new ik, 3)) (d1 : decode cc (pc + 3) = .ok (.dup, 1)) (d2 : decode cc (pc + 4) = .ok (.invokespecial ic, 3)) (d3 : decode cc (pc + 7) = .ok (.putfield idx, 3))
    (hci : vwCl[cN]? = some (CC, TC, NC)) (hc13 : cN < 13 ∨ (18 < cN ∧ cN < 23)) (htyC : xFt CC TC NC tyC) (hwsC : ∀ w ∈ u_ws CC TC NC, w ∈ xT) (hw1 : Cond.classLink own ik CC ∈ xT) (hw2 : Cond.instantiable CC NC ∈ xT) (hw3 : Cond.initialized CC ∈ xT) (hNC : (xFr.getD cN []).length = NC) (hdef : ∀ j, j < NC → defaultValue (tyC j) = if (xFr.getD cN []).getD j false then .null else .int 0)
    (hl : xLn own ic yI host cI nI none 0) (hi : Cond.instanceMethod yI ∈ xT) (hin : yI.name = "<init>")
    (hP : ∀ t1 t2 : xTh, xsm t1 t2 (xz t) (xz t + s) → P t1 (xz t) → P t2 (xz t))
    (hcon : ∀ (t1 : xTh) (M1 : xMe), xk t1 (xz t) = cN → xz t1 = xz t + 1 → xMR M1 → (∀ j, M1 (xz t) j = 0) → xCt G yI cI nI none dI mcI msI [vr (xz t)] t1 M1 (xIn t1 M1 (xz t) s P J) (fun _ _ _ => False))
    (hf : xFd own idx ci j C T N) (hty : xFt C T N ty) (hi2 : (xFr.getD ci [])[j]? = some true) (hfin : (T j).2.2.2 = true) (hin2 : nm = "<init>") (hCo : C = own) (hDC : (T j).1 = C) (hn : ∀ z, narrow (ty j) (va_rf (some z)) = va_rf (some z)) (hfit : ∀ z, fits (ty j) (va_rf (some z)) = true)
    (hk : xk t a = ci) (ha : a < xz t) (hM : xMR M) (hd : dI < d) (hLn : L.length = n) (hst8 : (st.map fun v => v.category).sum ≤ 6) (hc : cells + 1 + mcI ≤ mc) (hs : slots + NC + msI ≤ ms)
    (k : ∀ t' M', xMR M' → xz t' = xz t + s → xsm t t' 0 a → xsm t t' (a + 1) (xz t) → xk t' a = ci → (∀ i, i ≠ j → xr t' a i = xr t a i) → xr t' a j = some (xz t) → P t' (xz t) → (∀ b, b < xz t → M' b = M b) → J M' (xz t) → xJ X (cells + 1 + mcI) (slots + NC + msI) t' M' (pc + 10) L st) : xJ X cells slots t M pc L (vr a :: st) := by
  refine xJ_new h hB d0 hci hc13 htyC hwsC hw1 hw2 hw3 hNC hdef (by omega) (by omega) ?_
  refine xJ_dup h d1 rfl ?_
  refine xJ_callIN (As := []) (b := xz t) h hB d2 hl hi hin (hcon _ _ xkN_new rfl (xMR_0 hM) (fun j => xw0_self)) hd hLn rfl rfl (by simp only [List.map_cons, List.sum_cons]; show 1 + (1 + _) ≤ 8; omega) (by omega) (by omega) ?_
  rintro v t2 M2 ⟨rfl, g1, g2, g3, g4, g5, g6⟩
  have hk2 : xk t2 a = ci := xsm_k g3 (Nat.zero_le _) ha ((xk_newne (by omega)).trans hk) (by have := hf.2.1; omega)
  refine xJ_putF (x := some (xz t)) h d3 hf hty hi2 hfin hin2 hCo hDC (hn _) (hfit _) hk2 ?_
  have hs0 : xsm t t2 0 (xz t) := xsm_trans (xsm_new (Nat.le_refl _)) g3
  refine k _ _ g1 g2 (xsm_trans (xsm_sub hs0 (Nat.le_refl _) (by omega)) (xsm_wr (Or.inr (Nat.le_refl _)))) (xsm_trans (xsm_sub hs0 (Nat.zero_le _) (Nat.le_refl _)) (xsm_wr (Or.inl (by omega)))) hk2 (fun i hi => ?_) (by rw [xr_wr, if_pos ⟨rfl, rfl⟩]) (hP _ _ (xsm_wr (Or.inl ha)) g4) (fun b hb => ?_) g6
  · rw [xr_wr, if_neg (fun z => hi z.2)]
    exact xsm_r hs0 (Nat.zero_le _) ha hk (by have := hf.2.1; omega) rfl
  · rw [g5 b hb]
    funext i
    unfold xw0
    rw [if_neg (by omega)]
end XIN
theorem c_X0_init {G : xGx} {t : xTh} {M : xMe} {a : Nat} (hk : xk t a = 0) (hz : xz t = a + 1) (hM : xMR M) (h0 : ∀ j, M a j = 0) : xCt G yX0_init cX0_init 1 none 1 4 120 [vr a] t M (xIn t M a 5 oX0 (fun M z => ∀ j, M z j = 0)) (fun _ _ _ => False) := by
  refine xCt_of (L0 := [vr a]) (by decide +kernel) (Nat.le_of_ble_eq_true rfl) rfl ?_
  intro X hX hB
  refine xJ_aload_n hX dX0_init_0 rfl ?_
  refine xJ_objInit hX hB dX0_init_1 lj_X0_3 jw_obj_im jw_obj_co rfl (by decide) (Nat.le_of_ble_eq_true rfl) ?_
  have hA0 := xIA_0 hz
  refine xJ_aload_n hX dX0_init_4 rfl ?_
  refine xJ_bipush hX dX0_init_5 rfl ?_
  refine xJ_ia hX hB dX0_init_7 dX0_init_9 fd_X0_9 ft_X0 rfl rfl rfl rfl rfl (fun _ => rfl) (fun _ => rfl) rfl hA0 hk hM (fun _ _ => rfl) (by decide) (by decide) (by decide) (by decide) (fun t1 M1 hA1 hM1 hb1 => ?_)
  refine xJ_aload_n hX dX0_init_12 rfl ?_
  refine xJ_bipush hX dX0_init_13 rfl ?_
  refine xJ_ia hX hB dX0_init_15 dX0_init_17 fd_X0_15 ft_X0 rfl rfl rfl rfl rfl (fun _ => rfl) (fun _ => rfl) rfl hA1 hk hM1 hb1 (by decide) (by decide) (by decide) (by decide) (fun t2 M2 hA2 hM2 hb2 => ?_)
  refine xJ_aload_n hX dX0_init_20 rfl ?_
  refine xJ_bipush hX dX0_init_21 rfl ?_
  refine xJ_ia hX hB dX0_init_23 dX0_init_25 fd_X0_18 ft_X0 rfl rfl rfl rfl rfl (fun _ => rfl) (fun _ => rfl) rfl hA2 hk hM2 hb2 (by decide) (by decide) (by decide) (by decide) (fun t3 M3 hA3 hM3 hb3 => ?_)
  refine xJ_aload_n hX dX0_init_28 rfl ?_
  refine xJ_bipush hX dX0_init_29 rfl ?_
  refine xJ_ia hX hB dX0_init_31 dX0_init_33 fd_X0_21 ft_X0 rfl rfl rfl rfl rfl (fun _ => rfl) (fun _ => rfl) rfl hA3 hk hM3 hb3 (by decide) (by decide) (by decide) (by decide) (fun t4 M4 hA4 hM4 hb4 => ?_)
  exact xJ_vret hX hB dX0_init_36 (by decide) (by decide) ⟨rfl, hM4, hA4.1, hA4.2.1, ⟨hA4.2.2.1.trans hk, (hA4.2.2.2 0 _ rfl).1, (hA4.2.2.2 0 _ rfl).2.1, (hA4.2.2.2 0 _ rfl).2.2, (hA4.2.2.2 1 _ rfl).1, (hA4.2.2.2 1 _ rfl).2.1, (hA4.2.2.2 1 _ rfl).2.2, (hA4.2.2.2 2 _ rfl).1, (hA4.2.2.2 2 _ rfl).2.1, (hA4.2.2.2 2 _ rfl).2.2, (hA4.2.2.2 3 _ rfl).1, (hA4.2.2.2 3 _ rfl).2.1, (hA4.2.2.2 3 _ rfl).2.2⟩, fun b hb => hb4 b (Nat.le_of_lt hb), fun j => by rw [hb4 a (Nat.le_refl _)]; exact h0 j⟩
theorem c_X1_init {G : xGx} {t : xTh} {M : xMe} {a : Nat} (hk : xk t a = 1) (hz : xz t = a + 1) (hM : xMR M) (h0 : ∀ j, M a j = 0) : xCt G yX1_init cX1_init 1 none 1 4 42 [vr a] t M (xIn t M a 5 oX1 (fun M z => ∀ j, M z j = 0)) (fun _ _ _ => False) := by
  refine xCt_of (L0 := [vr a]) (by decide +kernel) (Nat.le_of_ble_eq_true rfl) rfl ?_
  intro X hX hB
  refine xJ_aload_n hX dX1_init_0 rfl ?_
  refine xJ_objInit hX hB dX1_init_1 lj_X1_3 jw_obj_im jw_obj_co rfl (by decide) (Nat.le_of_ble_eq_true rfl) ?_
  have hA0 := xIA_0 hz
  refine xJ_aload_n hX dX1_init_4 rfl ?_
  refine xJ_bipush hX dX1_init_5 rfl ?_
  refine xJ_ia hX hB dX1_init_7 dX1_init_9 fd_X1_9 ft_X1 rfl rfl rfl rfl rfl (fun _ => rfl) (fun _ => rfl) rfl hA0 hk hM (fun _ _ => rfl) (by decide) (by decide) (by decide) (by decide) (fun t1 M1 hA1 hM1 hb1 => ?_)
  refine xJ_aload_n hX dX1_init_12 rfl ?_
  refine xJ_bipush hX dX1_init_13 rfl ?_
  refine xJ_ia hX hB dX1_init_15 dX1_init_17 fd_X1_15 ft_X1 rfl rfl rfl rfl rfl (fun _ => rfl) (fun _ => rfl) rfl hA1 hk hM1 hb1 (by decide) (by decide) (by decide) (by decide) (fun t2 M2 hA2 hM2 hb2 => ?_)
  refine xJ_aload_n hX dX1_init_20 rfl ?_
  refine xJ_bipush hX dX1_init_21 rfl ?_
  refine xJ_ia hX hB dX1_init_23 dX1_init_25 fd_X1_18 ft_X1 rfl rfl rfl rfl rfl (fun _ => rfl) (fun _ => rfl) rfl hA2 hk hM2 hb2 (by decide) (by decide) (by decide) (by decide) (fun t3 M3 hA3 hM3 hb3 => ?_)
  refine xJ_aload_n hX dX1_init_28 rfl ?_
  refine xJ_bipush hX dX1_init_29 rfl ?_
  refine xJ_ia hX hB dX1_init_31 dX1_init_33 fd_X1_21 ft_X1 rfl rfl rfl rfl rfl (fun _ => rfl) (fun _ => rfl) rfl hA3 hk hM3 hb3 (by decide) (by decide) (by decide) (by decide) (fun t4 M4 hA4 hM4 hb4 => ?_)
  exact xJ_vret hX hB dX1_init_36 (by decide) (by decide) ⟨rfl, hM4, hA4.1, hA4.2.1, ⟨hA4.2.2.1.trans hk, (hA4.2.2.2 0 _ rfl).1, (hA4.2.2.2 0 _ rfl).2.1, (hA4.2.2.2 0 _ rfl).2.2, (hA4.2.2.2 1 _ rfl).1, (hA4.2.2.2 1 _ rfl).2.1, (hA4.2.2.2 1 _ rfl).2.2, (hA4.2.2.2 2 _ rfl).1, (hA4.2.2.2 2 _ rfl).2.1, (hA4.2.2.2 2 _ rfl).2.2, (hA4.2.2.2 3 _ rfl).1, (hA4.2.2.2 3 _ rfl).2.1, (hA4.2.2.2 3 _ rfl).2.2⟩, fun b hb => hb4 b (Nat.le_of_lt hb), fun j => by rw [hb4 a (Nat.le_refl _)]; exact h0 j⟩
theorem c_X2_init {G : xGx} {t : xTh} {M : xMe} {a : Nat} (hk : xk t a = 2) (hz : xz t = a + 1) (hM : xMR M) (h0 : ∀ j, M a j = 0) : xCt G yX2_init cX2_init 1 none 1 3 18 [vr a] t M (xIn t M a 4 oX2 (fun M z => ∀ j, M z j = 0)) (fun _ _ _ => False) := by
  refine xCt_of (L0 := [vr a]) (by decide +kernel) (Nat.le_of_ble_eq_true rfl) rfl ?_
  intro X hX hB
  refine xJ_aload_n hX dX2_init_0 rfl ?_
  refine xJ_objInit hX hB dX2_init_1 lj_X2_3 jw_obj_im jw_obj_co rfl (by decide) (Nat.le_of_ble_eq_true rfl) ?_
  have hA0 := xIA_0 hz
  refine xJ_aload_n hX dX2_init_4 rfl ?_
  refine xJ_bipush hX dX2_init_5 rfl ?_
  refine xJ_ia hX hB dX2_init_7 dX2_init_9 fd_X2_9 ft_X2 rfl rfl rfl rfl rfl (fun _ => rfl) (fun _ => rfl) rfl hA0 hk hM (fun _ _ => rfl) (by decide) (by decide) (by decide) (by decide) (fun t1 M1 hA1 hM1 hb1 => ?_)
  refine xJ_aload_n hX dX2_init_12 rfl ?_
  refine xJ_bipush hX dX2_init_13 rfl ?_
  refine xJ_ia hX hB dX2_init_15 dX2_init_17 fd_X2_15 ft_X2 rfl rfl rfl rfl rfl (fun _ => rfl) (fun _ => rfl) rfl hA1 hk hM1 hb1 (by decide) (by decide) (by decide) (by decide) (fun t2 M2 hA2 hM2 hb2 => ?_)
  refine xJ_aload_n hX dX2_init_20 rfl ?_
  refine xJ_bipush hX dX2_init_21 rfl ?_
  refine xJ_ia hX hB dX2_init_23 dX2_init_25 fd_X2_18 ft_X2 rfl rfl rfl rfl rfl (fun _ => rfl) (fun _ => rfl) rfl hA2 hk hM2 hb2 (by decide) (by decide) (by decide) (by decide) (fun t3 M3 hA3 hM3 hb3 => ?_)
  exact xJ_vret hX hB dX2_init_28 (by decide) (by decide) ⟨rfl, hM3, hA3.1, hA3.2.1, ⟨hA3.2.2.1.trans hk, (hA3.2.2.2 0 _ rfl).1, (hA3.2.2.2 0 _ rfl).2.1, (hA3.2.2.2 0 _ rfl).2.2, (hA3.2.2.2 1 _ rfl).1, (hA3.2.2.2 1 _ rfl).2.1, (hA3.2.2.2 1 _ rfl).2.2, (hA3.2.2.2 2 _ rfl).1, (hA3.2.2.2 2 _ rfl).2.1, (hA3.2.2.2 2 _ rfl).2.2⟩, fun b hb => hb3 b (Nat.le_of_lt hb), fun j => by rw [hb3 a (Nat.le_refl _)]; exact h0 j⟩
theorem c_X4_init {G : xGx} {t : xTh} {M : xMe} {a : Nat} (hk : xk t a = 4) (hz : xz t = a + 1) (hM : xMR M) (h0 : ∀ j, M a j = 0) : xCt G yX4_init cX4_init 1 none 1 5 184 [vr a] t M (xIn t M a 6 oX4 (fun M z => (∀ j, M z j = 0) ∧ ∀ j, M (z + 2) j = 0)) (fun _ _ _ => False) := by
  refine xCt_of (L0 := [vr a]) (by decide +kernel) (Nat.le_of_ble_eq_true rfl) rfl ?_
  intro X hX hB
  refine xJ_aload_n hX dX4_init_0 rfl ?_
  refine xJ_objInit hX hB dX4_init_1 lj_X4_3 jw_obj_im jw_obj_co rfl (by decide) (Nat.le_of_ble_eq_true rfl) ?_
  have hA0 := xIA_0 hz
  refine xJ_aload_n hX dX4_init_4 rfl ?_
  refine xJ_bipush hX dX4_init_5 rfl ?_
  refine xJ_iaZ hX hB dX4_init_7 dX4_init_9 fd_X4_11 ft_X4 rfl rfl rfl rfl rfl (fun _ => rfl) (fun _ => rfl) rfl hA0 hk hM (fun _ _ => rfl) (fun b b1 b2 => by omega) (by decide) (by decide) (by decide) (by decide) (fun t1 M1 hA1 hM1 hb1 hZ1 => ?_)
  refine xJ_aload_n hX dX4_init_12 rfl ?_
  refine xJ_bipush hX dX4_init_13 rfl ?_
  refine xJ_iaZ hX hB dX4_init_15 dX4_init_17 fd_X4_15 ft_X4 rfl rfl rfl rfl rfl (fun _ => rfl) (fun _ => rfl) rfl hA1 hk hM1 hb1 hZ1 (by decide) (by decide) (by decide) (by decide) (fun t2 M2 hA2 hM2 hb2 hZ2 => ?_)
  refine xJ_aload_n hX dX4_init_20 rfl ?_
  refine xJ_bipush hX dX4_init_21 rfl ?_
  refine xJ_iaZ hX hB dX4_init_23 dX4_init_25 fd_X4_18 ft_X4 rfl rfl rfl rfl rfl (fun _ => rfl) (fun _ => rfl) rfl hA2 hk hM2 hb2 hZ2 (by decide) (by decide) (by decide) (by decide) (fun t3 M3 hA3 hM3 hb3 hZ3 => ?_)
  refine xJ_aload_n hX dX4_init_28 rfl ?_
  refine xJ_bipush hX dX4_init_29 rfl ?_
  refine xJ_iaZ hX hB dX4_init_31 dX4_init_33 fd_X4_21 ft_X4 rfl rfl rfl rfl rfl (fun _ => rfl) (fun _ => rfl) rfl hA3 hk hM3 hb3 hZ3 (by decide) (by decide) (by decide) (by decide) (fun t4 M4 hA4 hM4 hb4 hZ4 => ?_)
  refine xJ_aload_n hX dX4_init_36 rfl ?_
  refine xJ_bipush hX dX4_init_37 rfl ?_
  refine xJ_iaZ hX hB dX4_init_39 dX4_init_41 fd_X4_24 ft_X4 rfl rfl rfl rfl rfl (fun _ => rfl) (fun _ => rfl) rfl hA4 hk hM4 hb4 hZ4 (by decide) (by decide) (by decide) (by decide) (fun t5 M5 hA5 hM5 hb5 hZ5 => ?_)
  exact xJ_vret hX hB dX4_init_44 (by decide) (by decide) ⟨rfl, hM5, hA5.1, hA5.2.1, ⟨hA5.2.2.1.trans hk, (hA5.2.2.2 0 _ rfl).1, (hA5.2.2.2 0 _ rfl).2.1, (hA5.2.2.2 0 _ rfl).2.2, (hA5.2.2.2 1 _ rfl).1, (hA5.2.2.2 1 _ rfl).2.1, (hA5.2.2.2 1 _ rfl).2.2, (hA5.2.2.2 2 _ rfl).1, (hA5.2.2.2 2 _ rfl).2.1, (hA5.2.2.2 2 _ rfl).2.2, (hA5.2.2.2 3 _ rfl).1, (hA5.2.2.2 3 _ rfl).2.1, (hA5.2.2.2 3 _ rfl).2.2, (hA5.2.2.2 4 _ rfl).1, (hA5.2.2.2 4 _ rfl).2.1, (hA5.2.2.2 4 _ rfl).2.2⟩, fun b hb => hb5 b (Nat.le_of_lt hb), fun j => by rw [hb5 a (Nat.le_refl _)]; exact h0 j, hZ5 (a + 2) (by omega) (by rw [hA5.1]; show a + 2 < a + 1 + 5; omega)⟩
theorem c_X5_init {G : xGx} {t : xTh} {M : xMe} {a : Nat} (hk : xk t a = 5) (hz : xz t = a + 1) (hM : xMR M) (h0 : ∀ j, M a j = 0) : xCt G yX5_init cX5_init 1 none 1 8 320 [vr a] t M (xIn t M a 9 oX5 (fun M z => ∀ j, M z j = 0)) (fun _ _ _ => False) := by
  refine xCt_of (L0 := [vr a]) (by decide +kernel) (Nat.le_of_ble_eq_true rfl) rfl ?_
  intro X hX hB
  refine xJ_aload_n hX dX5_init_0 rfl ?_
  refine xJ_objInit hX hB dX5_init_1 lj_X5_3 jw_obj_im jw_obj_co rfl (by decide) (Nat.le_of_ble_eq_true rfl) ?_
  have hA0 := xIA_0 hz
  refine xJ_aload_n hX dX5_init_4 rfl ?_
  refine xJ_bipush hX dX5_init_5 rfl ?_
  refine xJ_ia hX hB dX5_init_7 dX5_init_9 fd_X5_9 ft_X5 rfl rfl rfl rfl rfl (fun _ => rfl) (fun _ => rfl) rfl hA0 hk hM (fun _ _ => rfl) (by decide) (by decide) (by decide) (by decide) (fun t1 M1 hA1 hM1 hb1 => ?_)
  refine xJ_aload_n hX dX5_init_12 rfl ?_
  refine xJ_bipush hX dX5_init_13 rfl ?_
  refine xJ_ia hX hB dX5_init_15 dX5_init_17 fd_X5_15 ft_X5 rfl rfl rfl rfl rfl (fun _ => rfl) (fun _ => rfl) rfl hA1 hk hM1 hb1 (by decide) (by decide) (by decide) (by decide) (fun t2 M2 hA2 hM2 hb2 => ?_)
  refine xJ_aload_n hX dX5_init_20 rfl ?_
  refine xJ_bipush hX dX5_init_21 rfl ?_
  refine xJ_ia hX hB dX5_init_23 dX5_init_25 fd_X5_18 ft_X5 rfl rfl rfl rfl rfl (fun _ => rfl) (fun _ => rfl) rfl hA2 hk hM2 hb2 (by decide) (by decide) (by decide) (by decide) (fun t3 M3 hA3 hM3 hb3 => ?_)
  refine xJ_aload_n hX dX5_init_28 rfl ?_
  refine xJ_bipush hX dX5_init_29 rfl ?_
  refine xJ_ia hX hB dX5_init_31 dX5_init_33 fd_X5_21 ft_X5 rfl rfl rfl rfl rfl (fun _ => rfl) (fun _ => rfl) rfl hA3 hk hM3 hb3 (by decide) (by decide) (by decide) (by decide) (fun t4 M4 hA4 hM4 hb4 => ?_)
  refine xJ_aload_n hX dX5_init_36 rfl ?_
  refine xJ_bipush hX dX5_init_37 rfl ?_
  refine xJ_ia hX hB dX5_init_39 dX5_init_41 fd_X5_24 ft_X5 rfl rfl rfl rfl rfl (fun _ => rfl) (fun _ => rfl) rfl hA4 hk hM4 hb4 (by decide) (by decide) (by decide) (by decide) (fun t5 M5 hA5 hM5 hb5 => ?_)
  refine xJ_aload_n hX dX5_init_44 rfl ?_
  refine xJ_bipush hX dX5_init_45 rfl ?_
  refine xJ_ia hX hB dX5_init_47 dX5_init_49 fd_X5_27 ft_X5 rfl rfl rfl rfl rfl (fun _ => rfl) (fun _ => rfl) rfl hA5 hk hM5 hb5 (by decide) (by decide) (by decide) (by decide) (fun t6 M6 hA6 hM6 hb6 => ?_)
  refine xJ_aload_n hX dX5_init_52 rfl ?_
  refine xJ_bipush hX dX5_init_53 rfl ?_
  refine xJ_ia hX hB dX5_init_55 dX5_init_57 fd_X5_30 ft_X5 rfl rfl rfl rfl rfl (fun _ => rfl) (fun _ => rfl) rfl hA6 hk hM6 hb6 (by decide) (by decide) (by decide) (by decide) (fun t7 M7 hA7 hM7 hb7 => ?_)
  refine xJ_aload_n hX dX5_init_60 rfl ?_
  refine xJ_bipush hX dX5_init_61 rfl ?_
  refine xJ_ia hX hB dX5_init_63 dX5_init_65 fd_X5_33 ft_X5 rfl rfl rfl rfl rfl (fun _ => rfl) (fun _ => rfl) rfl hA7 hk hM7 hb7 (by decide) (by decide) (by decide) (by decide) (fun t8 M8 hA8 hM8 hb8 => ?_)
  exact xJ_vret hX hB dX5_init_68 (by decide) (by decide) ⟨rfl, hM8, hA8.1, hA8.2.1, ⟨hA8.2.2.1.trans hk, (hA8.2.2.2 0 _ rfl).1, (hA8.2.2.2 0 _ rfl).2.1, (hA8.2.2.2 0 _ rfl).2.2, (hA8.2.2.2 1 _ rfl).1, (hA8.2.2.2 1 _ rfl).2.1, (hA8.2.2.2 1 _ rfl).2.2, (hA8.2.2.2 2 _ rfl).1, (hA8.2.2.2 2 _ rfl).2.1, (hA8.2.2.2 2 _ rfl).2.2, (hA8.2.2.2 3 _ rfl).1, (hA8.2.2.2 3 _ rfl).2.1, (hA8.2.2.2 3 _ rfl).2.2, (hA8.2.2.2 4 _ rfl).1, (hA8.2.2.2 4 _ rfl).2.1, (hA8.2.2.2 4 _ rfl).2.2, (hA8.2.2.2 5 _ rfl).1, (hA8.2.2.2 5 _ rfl).2.1, (hA8.2.2.2 5 _ rfl).2.2, (hA8.2.2.2 6 _ rfl).1, (hA8.2.2.2 6 _ rfl).2.1, (hA8.2.2.2 6 _ rfl).2.2, (hA8.2.2.2 7 _ rfl).1, (hA8.2.2.2 7 _ rfl).2.1, (hA8.2.2.2 7 _ rfl).2.2⟩, fun b hb => hb8 b (Nat.le_of_lt hb), fun j => by rw [hb8 a (Nat.le_refl _)]; exact h0 j⟩
theorem c_X6_init {G : xGx} {t : xTh} {M : xMe} {a : Nat} (hk : xk t a = 6) (hz : xz t = a + 1) (hM : xMR M) (h0 : ∀ j, M a j = 0) : xCt G yX6_init cX6_init 1 none 1 5 200 [vr a] t M (xIn t M a 6 oX6 (fun M z => ∀ j, M z j = 0)) (fun _ _ _ => False) := by
  refine xCt_of (L0 := [vr a]) (by decide +kernel) (Nat.le_of_ble_eq_true rfl) rfl ?_
  intro X hX hB
  refine xJ_aload_n hX dX6_init_0 rfl ?_
  refine xJ_objInit hX hB dX6_init_1 lj_X6_3 jw_obj_im jw_obj_co rfl (by decide) (Nat.le_of_ble_eq_true rfl) ?_
  have hA0 := xIA_0 hz
  refine xJ_aload_n hX dX6_init_4 rfl ?_
  refine xJ_bipush hX dX6_init_5 rfl ?_
  refine xJ_ia hX hB dX6_init_7 dX6_init_9 fd_X6_9 ft_X6 rfl rfl rfl rfl rfl (fun _ => rfl) (fun _ => rfl) rfl hA0 hk hM (fun _ _ => rfl) (by decide) (by decide) (by decide) (by decide) (fun t1 M1 hA1 hM1 hb1 => ?_)
  refine xJ_aload_n hX dX6_init_12 rfl ?_
  refine xJ_bipush hX dX6_init_13 rfl ?_
  refine xJ_ia hX hB dX6_init_15 dX6_init_17 fd_X6_15 ft_X6 rfl rfl rfl rfl rfl (fun _ => rfl) (fun _ => rfl) rfl hA1 hk hM1 hb1 (by decide) (by decide) (by decide) (by decide) (fun t2 M2 hA2 hM2 hb2 => ?_)
  refine xJ_aload_n hX dX6_init_20 rfl ?_
  refine xJ_bipush hX dX6_init_21 rfl ?_
  refine xJ_ia hX hB dX6_init_23 dX6_init_25 fd_X6_18 ft_X6 rfl rfl rfl rfl rfl (fun _ => rfl) (fun _ => rfl) rfl hA2 hk hM2 hb2 (by decide) (by decide) (by decide) (by decide) (fun t3 M3 hA3 hM3 hb3 => ?_)
  refine xJ_aload_n hX dX6_init_28 rfl ?_
  refine xJ_bipush hX dX6_init_29 rfl ?_
  refine xJ_ia hX hB dX6_init_31 dX6_init_33 fd_X6_21 ft_X6 rfl rfl rfl rfl rfl (fun _ => rfl) (fun _ => rfl) rfl hA3 hk hM3 hb3 (by decide) (by decide) (by decide) (by decide) (fun t4 M4 hA4 hM4 hb4 => ?_)
  refine xJ_aload_n hX dX6_init_36 rfl ?_
  refine xJ_bipush hX dX6_init_37 rfl ?_
  refine xJ_ia hX hB dX6_init_39 dX6_init_41 fd_X6_24 ft_X6 rfl rfl rfl rfl rfl (fun _ => rfl) (fun _ => rfl) rfl hA4 hk hM4 hb4 (by decide) (by decide) (by decide) (by decide) (fun t5 M5 hA5 hM5 hb5 => ?_)
  exact xJ_vret hX hB dX6_init_44 (by decide) (by decide) ⟨rfl, hM5, hA5.1, hA5.2.1, ⟨hA5.2.2.1.trans hk, (hA5.2.2.2 0 _ rfl).1, (hA5.2.2.2 0 _ rfl).2.1, (hA5.2.2.2 0 _ rfl).2.2, (hA5.2.2.2 1 _ rfl).1, (hA5.2.2.2 1 _ rfl).2.1, (hA5.2.2.2 1 _ rfl).2.2, (hA5.2.2.2 2 _ rfl).1, (hA5.2.2.2 2 _ rfl).2.1, (hA5.2.2.2 2 _ rfl).2.2, (hA5.2.2.2 3 _ rfl).1, (hA5.2.2.2 3 _ rfl).2.1, (hA5.2.2.2 3 _ rfl).2.2, (hA5.2.2.2 4 _ rfl).1, (hA5.2.2.2 4 _ rfl).2.1, (hA5.2.2.2 4 _ rfl).2.2⟩, fun b hb => hb5 b (Nat.le_of_lt hb), fun j => by rw [hb5 a (Nat.le_refl _)]; exact h0 j⟩
theorem c_X9_init {G : xGx} {t : xTh} {M : xMe} {a : Nat} (hk : xk t a = 9) (hz : xz t = a + 1) (hM : xMR M) (h0 : ∀ j, M a j = 0) : xCt G yX9_init cX9_init 1 none 1 1 700 [vr a] t M (xIn t M a 2 oX9 (fun M z => ∀ j, M z j = 0)) (fun _ _ _ => False) := by
  refine xCt_of (L0 := [vr a]) (by decide +kernel) (Nat.le_of_ble_eq_true rfl) rfl ?_
  intro X hX hB
  refine xJ_aload_n hX dX9_init_0 rfl ?_
  refine xJ_objInit hX hB dX9_init_1 lj_X9_3 jw_obj_im jw_obj_co rfl (by decide) (Nat.le_of_ble_eq_true rfl) ?_
  have hA0 := xIA_0 hz
  refine xJ_aload_n hX dX9_init_4 rfl ?_
  refine xJ_sipush hX dX9_init_5 rfl ?_
  refine xJ_iaY hX hB dX9_init_8 dX9_init_10 fd_X9_9 ft_X9 rfl rfl rfl rfl rfl (fun _ => rfl) (fun _ => rfl) rfl hA0 hk hM (fun _ _ => rfl) (by decide) (by decide) (by decide) (by decide) (fun t1 M1 hA1 hM1 hb1 => ?_)
  exact xJ_vret hX hB dX9_init_13 (by decide) (by decide) ⟨rfl, hM1, hA1.1, hA1.2.1, ⟨hA1.2.2.1.trans hk, (hA1.2.2.2 0 _ rfl).1, (hA1.2.2.2 0 _ rfl).2.1, (hA1.2.2.2 0 _ rfl).2.2⟩, fun b hb => hb1 b (Nat.le_of_lt hb), fun j => by rw [hb1 a (Nat.le_refl _)]; exact h0 j⟩
/-- the World at w as its constructor leaves it: its price is its own, the word SIZE -/
def oXW (t : xTh) (w : Nat) : Prop := oX10 t w ∧ oQ t w ∧ xq t w = w + 36 ∧ xqn t w = 1
theorem oXW_sm {t t' : xTh} {lo hi w : Nat} (h : xsm t t' lo hi) (h1 : lo ≤ w) (h2 : w + 39 ≤ hi) (g : oXW t w) : oXW t' w := by
  obtain ⟨g1, g2, g3, g4⟩ := g
  have hr : xr t' w 6 = xr t w 6 := (h w h1 (by omega) (by rw [oX10_k g1]; decide)).2.2 6
  have e : xq t' w = xq t w := by unfold xq; rw [hr]
  obtain ⟨q1, q2, q3, q4, q5, q6, q7, q8⟩ := g2.2
  have e2 : xqn t' w = xqn t w := by
    unfold xqn; rw [e]
    exact xsm_n h (by omega) (by omega) q3 (by decide) rfl
  refine ⟨oX10_sm h h1 (by omega) g1, ⟨by rw [e, hr]; exact g2.1, ?_⟩, by rw [e]; exact g3, by rw [e2]; exact g4⟩
  rw [e, e2]
  exact ⟨xsm_k h (by omega) (by omega) q1 (by decide), xsm_r h (by omega) (by omega) q1 (by decide) q2, xsm_k h (by omega) (by omega) q3 (by decide), xsm_n h (by omega) (by omega) q3 (by decide) q4, xsm_r h (by omega) (by omega) q1 (by decide) q5, xsm_k h (by omega) (by omega) q6 (by decide), xsm_n h (by omega) (by omega) q6 (by decide) q7, q8⟩
/-- the numbers of a new World that anything reads -/
def xWI (M : xMe) (w : Nat) : Prop := (∀ j, M (w + 1) j = 0) ∧ (∀ j, M (w + 5) j = 0) ∧ (∀ j, M (w + 16) j = 0) ∧ (∀ j, M (w + 25) j = 0) ∧ (∀ j, M (w + 30) j = 0) ∧ M w 7 = 0 ∧ M w 8 = 1 ∧ M w 9 = 50 ∧ M w 10 = 10 ∧ M w 11 = 0 ∧ M w 12 = 0 ∧ M w 13 = -1 ∧ M w 14 = 1000000 ∧ M (w + 37) 0 = -5 ∧ ∀ j, M (w + 12) j = 0
theorem xWI_eq {M M' : xMe} {w : Nat} (h : ∀ b, w ≤ b → b < w + 39 → M' b = M b) (g : xWI M w) : xWI M' w := by
  unfold xWI at g ⊢
  rw [h w (by omega) (by omega), h (w + 1) (by omega) (by omega), h (w + 5) (by omega) (by omega), h (w + 16) (by omega) (by omega), h (w + 25) (by omega) (by omega), h (w + 30) (by omega) (by omega), h (w + 37) (by omega) (by omega), h (w + 12) (by omega) (by omega)]
  exact g
theorem xJ_aastW {X : xCx} {own nm : String} {cc : ByteArray} {n d : Nat} {r : Option FieldType} {G : xGx} {cells slots : Nat} {t : xTh} {M : xMe} {pc : Nat} {L st : List Value} {a b : Nat} {j : Int} (h : xC X own nm cc n r d G) (dd : decode cc pc = .ok (.aastore, 1)) (hk : xk t a = 16) (hkb : xk t b = 10) (h0 : 0 ≤ j) (h1 : j < xn t a) (k : xJ X cells slots (xwr t a j.toNat (some b)) M (pc + 1) L st) : xJ X cells slots t M pc L (vr b :: vi j :: vr a :: st) := by
  obtain ⟨p, l, e, R, s, m, args, below, meth, c, G9, Po, Px, mc, ms⟩ := X
  obtain ⟨hx, hb, hml, hown, hts, hr, hlk, hKn, hSs, hnm, hR, hG, hst⟩ := h
  subst hG
  intro H locs ls a1 a2 a3
  have h3 := a2.2.2.1 a
  have hat := xRp_at a2 (a := a) (by omega)
  rw [xE_ref hk (by decide) (by decide)] at hat
  have hat : H[a]? = some (vp_cell (G9.2.1 3) (xn t a, .inr (.inr (.inr (.inr (fun j => xr t a j)))))) := hat
  have hin := xI_in h3 h0 h1
  have hlt : j.toNat < xn t a := by omega
  have e1 := (xI_ti h0 (Int.lt_trans h1 (by omega))).1
  have hatb := xRp_at a2 (a := b) (by omega)
  rw [xE_obj hkb (by decide)] at hatb
  obtain ⟨q', hq', cellV, g1, g2, g3, -⟩ := hatb
  have hcls := (hKn.1.1 10 q' hq').2
  have hq9 : q' = (RX10, TX10, 15) := (Option.some.inj hq').symm
  obtain ⟨kA, comp, k1, k2, k3, -⟩ := (hKn.1.2 3 _ rfl).2
  have hcomp : comp = G9.1.1 10 := by
    have := hcls.1
    rw [hq9] at this
    exact Option.some.inj (k3.symm.trans this)
  subst hcomp
  obtain ⟨kC, hkC, -⟩ := hcls.2
  refine W.aast hx hb hat (fun q h => by cases h) (fun h => by cases h) k1 k2 rfl hkC ⟨fun q => hin (Or.inl q), by show _ < (arrV _ _ _).slots.size; rw [arrV_size, e1]; exact hlt⟩ g1 (fun q h => by rw [g3] at h; cases h) (by rw [g2]; exact hkC) (by rw [g2]; exact va_assign hcls) rfl rfl dd fun H1 e z oq => ?_
  rw [e1] at e ⊢
  refine k H1 _ ls (by rw [z]; exact a1) (xRp_upd (e' := .inl (G9.2.1 3, xn t a, .inr (.inr (.inr (.inr (va_up (fun i => xr t a i) j.toNat (some b))))))) (a := a) a2 (by omega) z oq ?_ (xE_upQ (ki := 16) hk (by decide) (by decide)) rfl (fun _ => rfl) (fun _ => rfl)) a3
  show H1[a]? = some (vp_cell _ _)
  rw [e]
  rw [vp_cell_q, vp_cell_q, arrV_store]
  congr 2
  funext q
  by_cases hq : q = j.toNat
  · subst hq
    simp [updV, va_up, va_rf]
  · simp [updV, va_up, hq]
set_option maxHeartbeats 4000000 in
theorem c_X10_init {G : xGx} {t : xTh} {M : xMe} {a : Nat} (hk : xk t a = 10) (hz : xz t = a + 1) (hM : xMR M) (h0 : ∀ j, M a j = 0) : xCt G yX10_init cX10_init 1 none 3 38 933 [vr a] t M (xIn t M a 39 oXW xWI) (fun _ _ _ => False) := by
  refine xCt_of (L0 := [vr a]) (by decide +kernel) (Nat.le_of_ble_eq_true rfl) rfl ?_
  intro X hX hB
  refine xJ_aload_n hX dX10_init_0 rfl ?_
  refine xJ_objInit hX hB dX10_init_1 lj_X10_3 jw_obj_im jw_obj_co rfl (by decide) (Nat.le_of_ble_eq_true rfl) ?_
  have L0 : xsm t t 0 a := xsm_refl _ _ _
  have B0 : ∀ b, b ≤ a → M b = M b := fun _ _ => rfl
  have z0 : xz t = a + 1 := hz
  refine xJ_aload_n hX dX10_init_4 rfl ?_
  refine xJ_oa (P := oX2) (J := (fun M z => ∀ j, M z j = 0)) (s := 4) (cN := 2) hX hB dX10_init_5 dX10_init_8 dX10_init_9 dX10_init_12 rfl (by decide) ft_X2 uw_X2 kl_X10_9 is_X2 in_X2 rfl (by decide) ln_X10_11 im_X2_init rfl (fun t1 t2 h g => oX2_sm h (by omega) (by omega) g) (fun t1 M1 q1 q2 q3 q4 => c_X2_init q1 q2 q3 q4) fd_X10_12 ft_X10 rfl rfl rfl rfl rfl (fun _ => rfl) (fun _ => rfl) hk (by omega) hM (by decide) rfl (by decide) (by decide) (by decide) (fun t1 M1 hM1 hz1 hl1 hu1 hk1 hr1 hn1 hP1 hb1 hJ1 => ?_)
  rw [z0] at hz1 hu1 hn1 hP1 hb1 hJ1
  have z1 : xz t1 = a + 5 := by omega
  have r1_1 := hn1
  have o1_1 := hP1
  have j1_1 := hJ1
  have L1 := xsm_trans L0 hl1
  have B1 : ∀ b, b ≤ a → M1 b = M b := fun b hb => (hb1 b (by omega)).trans (B0 b hb)
  refine xJ_aload_n hX dX10_init_15 rfl ?_
  refine xJ_oa (P := oX1) (J := (fun M z => ∀ j, M z j = 0)) (s := 5) (cN := 1) hX hB dX10_init_16 dX10_init_19 dX10_init_20 dX10_init_23 rfl (by decide) ft_X1 uw_X1 kl_X10_18 is_X1 in_X1 rfl (by decide) ln_X10_20 im_X1_init rfl (fun t1 t2 h g => oX1_sm h (by omega) (by omega) g) (fun t1 M1 q1 q2 q3 q4 => c_X1_init q1 q2 q3 q4) fd_X10_21 ft_X10 rfl rfl rfl rfl rfl (fun _ => rfl) (fun _ => rfl) hk1 (by omega) hM1 (by decide) rfl (by decide) (by decide) (by decide) (fun t2 M2 hM2 hz2 hl2 hu2 hk2 hr2 hn2 hP2 hb2 hJ2 => ?_)
  rw [z1] at hz2 hu2 hn2 hP2 hb2 hJ2
  have z2 : xz t2 = a + 10 := by omega
  have r1_2 := (hr2 0 (by decide)).trans r1_1
  have o1_2 := oX2_sm hu2 (by omega) (by omega) o1_1
  have j1_2 := (fun j => by rw [hb2 _ (by omega)]; exact j1_1 j : ∀ j, M2 (a + 1) j = 0)
  have r2_2 := hn2
  have o2_2 := hP2
  have j2_2 := hJ2
  have L2 := xsm_trans L1 hl2
  have B2 : ∀ b, b ≤ a → M2 b = M b := fun b hb => (hb2 b (by omega)).trans (B1 b hb)
  refine xJ_aload_n hX dX10_init_26 rfl ?_
  refine xJ_oa (P := oX4) (J := (fun M z => (∀ j, M z j = 0) ∧ ∀ j, M (z + 2) j = 0)) (s := 6) (cN := 4) hX hB dX10_init_27 dX10_init_30 dX10_init_31 dX10_init_34 rfl (by decide) ft_X4 uw_X4 kl_X10_25 is_X4 in_X4 rfl (by decide) ln_X10_27 im_X4_init rfl (fun t1 t2 h g => oX4_sm h (by omega) (by omega) g) (fun t1 M1 q1 q2 q3 q4 => c_X4_init q1 q2 q3 q4) fd_X10_28 ft_X10 rfl rfl rfl rfl rfl (fun _ => rfl) (fun _ => rfl) hk2 (by omega) hM2 (by decide) rfl (by decide) (by decide) (by decide) (fun t3 M3 hM3 hz3 hl3 hu3 hk3 hr3 hn3 hP3 hb3 hJ3 => ?_)
  rw [z2] at hz3 hu3 hn3 hP3 hb3 hJ3
  have z3 : xz t3 = a + 16 := by omega
  have r1_3 := (hr3 0 (by decide)).trans r1_2
  have o1_3 := oX2_sm hu3 (by omega) (by omega) o1_2
  have j1_3 := (fun j => by rw [hb3 _ (by omega)]; exact j1_2 j : ∀ j, M3 (a + 1) j = 0)
  have r2_3 := (hr3 1 (by decide)).trans r2_2
  have o2_3 := oX1_sm hu3 (by omega) (by omega) o2_2
  have j2_3 := (fun j => by rw [hb3 _ (by omega)]; exact j2_2 j : ∀ j, M3 (a + 5) j = 0)
  have r3_3 := hn3
  have o3_3 := hP3
  have j3_3 := hJ3
  have L3 := xsm_trans L2 hl3
  have B3 : ∀ b, b ≤ a → M3 b = M b := fun b hb => (hb3 b (by omega)).trans (B2 b hb)
  refine xJ_aload_n hX dX10_init_37 rfl ?_
  refine xJ_oa (P := oX5) (J := (fun M z => ∀ j, M z j = 0)) (s := 9) (cN := 5) hX hB dX10_init_38 dX10_init_41 dX10_init_42 dX10_init_45 rfl (by decide) ft_X5 uw_X5 kl_X10_32 is_X5 in_X5 rfl (by decide) ln_X10_34 im_X5_init rfl (fun t1 t2 h g => oX5_sm h (by omega) (by omega) g) (fun t1 M1 q1 q2 q3 q4 => c_X5_init q1 q2 q3 q4) fd_X10_35 ft_X10 rfl rfl rfl rfl rfl (fun _ => rfl) (fun _ => rfl) hk3 (by omega) hM3 (by decide) rfl (by decide) (by decide) (by decide) (fun t4 M4 hM4 hz4 hl4 hu4 hk4 hr4 hn4 hP4 hb4 hJ4 => ?_)
  rw [z3] at hz4 hu4 hn4 hP4 hb4 hJ4
  have z4 : xz t4 = a + 25 := by omega
  have r1_4 := (hr4 0 (by decide)).trans r1_3
  have o1_4 := oX2_sm hu4 (by omega) (by omega) o1_3
  have j1_4 := (fun j => by rw [hb4 _ (by omega)]; exact j1_3 j : ∀ j, M4 (a + 1) j = 0)
  have r2_4 := (hr4 1 (by decide)).trans r2_3
  have o2_4 := oX1_sm hu4 (by omega) (by omega) o2_3
  have j2_4 := (fun j => by rw [hb4 _ (by omega)]; exact j2_3 j : ∀ j, M4 (a + 5) j = 0)
  have r3_4 := (hr4 2 (by decide)).trans r3_3
  have o3_4 := oX4_sm hu4 (by omega) (by omega) o3_3
  have j3_4 : (∀ j, M4 (a + 10) j = 0) ∧ ∀ j, M4 (a + 10 + 2) j = 0 := ⟨fun j => by rw [hb4 _ (by omega)]; exact j3_3.1 j, fun j => by rw [hb4 _ (by omega)]; exact j3_3.2 j⟩
  have r4_4 := hn4
  have o4_4 := hP4
  have j4_4 := hJ4
  have L4 := xsm_trans L3 hl4
  have B4 : ∀ b, b ≤ a → M4 b = M b := fun b hb => (hb4 b (by omega)).trans (B3 b hb)
  refine xJ_aload_n hX dX10_init_48 rfl ?_
  refine xJ_oa (P := oX0) (J := (fun M z => ∀ j, M z j = 0)) (s := 5) (cN := 0) hX hB dX10_init_49 dX10_init_52 dX10_init_53 dX10_init_56 rfl (by decide) ft_X0 uw_X0 kl_X10_39 is_X0 in_X0 rfl (by decide) ln_X10_41 im_X0_init rfl (fun t1 t2 h g => oX0_sm h (by omega) (by omega) g) (fun t1 M1 q1 q2 q3 q4 => c_X0_init q1 q2 q3 q4) fd_X10_42 ft_X10 rfl rfl rfl rfl rfl (fun _ => rfl) (fun _ => rfl) hk4 (by omega) hM4 (by decide) rfl (by decide) (by decide) (by decide) (fun t5 M5 hM5 hz5 hl5 hu5 hk5 hr5 hn5 hP5 hb5 hJ5 => ?_)
  rw [z4] at hz5 hu5 hn5 hP5 hb5 hJ5
  have z5 : xz t5 = a + 30 := by omega
  have r1_5 := (hr5 0 (by decide)).trans r1_4
  have o1_5 := oX2_sm hu5 (by omega) (by omega) o1_4
  have j1_5 := (fun j => by rw [hb5 _ (by omega)]; exact j1_4 j : ∀ j, M5 (a + 1) j = 0)
  have r2_5 := (hr5 1 (by decide)).trans r2_4
  have o2_5 := oX1_sm hu5 (by omega) (by omega) o2_4
  have j2_5 := (fun j => by rw [hb5 _ (by omega)]; exact j2_4 j : ∀ j, M5 (a + 5) j = 0)
  have r3_5 := (hr5 2 (by decide)).trans r3_4
  have o3_5 := oX4_sm hu5 (by omega) (by omega) o3_4
  have j3_5 : (∀ j, M5 (a + 10) j = 0) ∧ ∀ j, M5 (a + 10 + 2) j = 0 := ⟨fun j => by rw [hb5 _ (by omega)]; exact j3_4.1 j, fun j => by rw [hb5 _ (by omega)]; exact j3_4.2 j⟩
  have r4_5 := (hr5 3 (by decide)).trans r4_4
  have o4_5 := oX5_sm hu5 (by omega) (by omega) o4_4
  have j4_5 := (fun j => by rw [hb5 _ (by omega)]; exact j4_4 j : ∀ j, M5 (a + 16) j = 0)
  have r5_5 := hn5
  have o5_5 := hP5
  have j5_5 := hJ5
  have L5 := xsm_trans L4 hl5
  have B5 : ∀ b, b ≤ a → M5 b = M b := fun b hb => (hb5 b (by omega)).trans (B4 b hb)
  refine xJ_aload_n hX dX10_init_59 rfl ?_
  refine xJ_oa (P := oX6) (J := (fun M z => ∀ j, M z j = 0)) (s := 6) (cN := 6) hX hB dX10_init_60 dX10_init_63 dX10_init_64 dX10_init_67 rfl (by decide) ft_X6 uw_X6 kl_X10_46 is_X6 in_X6 rfl (by decide) ln_X10_48 im_X6_init rfl (fun t1 t2 h g => oX6_sm h (by omega) (by omega) g) (fun t1 M1 q1 q2 q3 q4 => c_X6_init q1 q2 q3 q4) fd_X10_49 ft_X10 rfl rfl rfl rfl rfl (fun _ => rfl) (fun _ => rfl) hk5 (by omega) hM5 (by decide) rfl (by decide) (by decide) (by decide) (fun t6 M6 hM6 hz6 hl6 hu6 hk6 hr6 hn6 hP6 hb6 hJ6 => ?_)
  rw [z5] at hz6 hu6 hn6 hP6 hb6 hJ6
  have z6 : xz t6 = a + 36 := by omega
  have r1_6 := (hr6 0 (by decide)).trans r1_5
  have o1_6 := oX2_sm hu6 (by omega) (by omega) o1_5
  have j1_6 := (fun j => by rw [hb6 _ (by omega)]; exact j1_5 j : ∀ j, M6 (a + 1) j = 0)
  have r2_6 := (hr6 1 (by decide)).trans r2_5
  have o2_6 := oX1_sm hu6 (by omega) (by omega) o2_5
  have j2_6 := (fun j => by rw [hb6 _ (by omega)]; exact j2_5 j : ∀ j, M6 (a + 5) j = 0)
  have r3_6 := (hr6 2 (by decide)).trans r3_5
  have o3_6 := oX4_sm hu6 (by omega) (by omega) o3_5
  have j3_6 : (∀ j, M6 (a + 10) j = 0) ∧ ∀ j, M6 (a + 10 + 2) j = 0 := ⟨fun j => by rw [hb6 _ (by omega)]; exact j3_5.1 j, fun j => by rw [hb6 _ (by omega)]; exact j3_5.2 j⟩
  have r4_6 := (hr6 3 (by decide)).trans r4_5
  have o4_6 := oX5_sm hu6 (by omega) (by omega) o4_5
  have j4_6 := (fun j => by rw [hb6 _ (by omega)]; exact j4_5 j : ∀ j, M6 (a + 16) j = 0)
  have r5_6 := (hr6 4 (by decide)).trans r5_5
  have o5_6 := oX0_sm hu6 (by omega) (by omega) o5_5
  have j5_6 := (fun j => by rw [hb6 _ (by omega)]; exact j5_5 j : ∀ j, M6 (a + 25) j = 0)
  have r6_6 := hn6
  have o6_6 := hP6
  have j6_6 := hJ6
  have L6 := xsm_trans L5 hl6
  have B6 : ∀ b, b ≤ a → M6 b = M b := fun b hb => (hb6 b (by omega)).trans (B5 b hb)
  refine xJ_aload_n hX dX10_init_70 rfl ?_
  refine xJ_prS hX hB dX10_init_71 dX10_init_74 dX10_init_75 dX10_init_76 dX10_init_78 dX10_init_79 dX10_init_80 dX10_init_82 dX10_init_83 dX10_init_86 hk6 rfl (by decide) (by decide) (by decide) (by decide) hM6 (fun t7 M7 hq e7 hM7 => ?_)
  rw [z6] at e7
  have hk7 := xle_k hq.1.1 hk6 (by decide)
  refine xJ_aload_n hX dX10_init_89 rfl ?_
  refine xJ_iconst hX dX10_init_90 ?_
  refine xJ_putIM hX dX10_init_91 fd_X10_62 ft_X10 rfl rfl rfl rfl hk7 hM7 ⟨by decide, by decide⟩ (fun M8 e8 hM8 => ?_)
  refine xJ_aload_n hX dX10_init_94 rfl ?_
  refine xJ_bipush hX dX10_init_95 rfl ?_
  refine xJ_putIM hX dX10_init_97 fd_X10_66 ft_X10 rfl rfl rfl rfl hk7 hM8 ⟨by decide, by decide⟩ (fun M9 e9 hM9 => ?_)
  refine xJ_aload_n hX dX10_init_100 rfl ?_
  refine xJ_bipush hX dX10_init_101 rfl ?_
  refine xJ_putIM hX dX10_init_103 fd_X10_69 ft_X10 rfl rfl rfl rfl hk7 hM9 ⟨by decide, by decide⟩ (fun M10 e10 hM10 => ?_)
  refine xJ_aload_n hX dX10_init_106 rfl ?_
  refine xJ_iconst hX dX10_init_107 ?_
  refine xJ_putIM hX dX10_init_108 fd_X10_72 ft_X10 rfl rfl rfl rfl hk7 hM10 ⟨by decide, by decide⟩ (fun M11 e11 hM11 => ?_)
  refine xJ_aload_n hX dX10_init_111 rfl ?_
  refine xJ_ldc (1000000) hX dX10_init_112 kc_X10_75 ?_
  refine xJ_putIM hX dX10_init_114 fd_X10_76 ft_X10 rfl rfl rfl rfl hk7 hM11 ⟨by decide, by decide⟩ (fun M12 e12 hM12 => ?_)
  have xs : xsm t6 t7 0 a := xsm_qp hq (Or.inr (Nat.le_refl _))
  have xu : xsm t6 t7 (a + 1) (a + 36) := xsm_qp hq (Or.inl (by omega))
  have x6 : ∀ i, i ≠ 6 → xr t7 a i = xr t6 a i := fun i hi => xle_r hq.1.1 hk6 (by decide) (by omega) rfl
  have hM12e : ∀ b, b ≠ a → M12 b = M7 b := fun b hb => by rw [e12, e11, e10, e9, e8]; funext i; simp [xw, hb]
  have hM7e : ∀ b, b < a + 36 → M7 b = M6 b := fun b hb => by rw [e7]; funext i; simp only [xw, xw0]; rw [if_neg (by omega), if_neg (by omega), if_neg (by omega), if_neg (by omega)]
  have hMa : ∀ j, M7 a j = 0 := fun j => by rw [hM7e a (by omega), B6 a (Nat.le_refl _)]; exact h0 j
  have hM37 : M7 (a + 37) 0 = -5 := by rw [e7]; simp [xw, xw0]
  have h10 : oX10 t7 a := ⟨hk7, (x6 0 (by decide)).trans r1_6, oX2_sm xu (by omega) (by omega) o1_6, (x6 1 (by decide)).trans r2_6, oX1_sm xu (by omega) (by omega) o2_6, (x6 2 (by decide)).trans r3_6, oX4_sm xu (by omega) (by omega) o3_6, (x6 3 (by decide)).trans r4_6, oX5_sm xu (by omega) (by omega) o4_6, (x6 4 (by decide)).trans r5_6, oX0_sm xu (by omega) (by omega) o5_6, (x6 5 (by decide)).trans r6_6, oX6_sm xu (by omega) (by omega) o6_6⟩
  refine xJ_vret hX hB dX10_init_117 (by decide) (by decide) ⟨rfl, hM12, by rw [hq.2.1, z6], xsm_trans L6 xs, ⟨h10, hq.2.2.1, by rw [hq.2.2.2.1, z6], hq.2.2.2.2.1⟩, fun b hb => ?_, ?_, ?_, ?_, ?_, ?_, ?_, ?_, ?_, ?_, ?_, ?_, ?_, ?_, ?_, ?_⟩
  · rw [hM12e b (by omega), hM7e b (by omega)]; exact B6 b (by omega)
  · exact fun j => by rw [hM12e _ (by omega), hM7e _ (by omega)]; exact j1_6 j
  · exact fun j => by rw [hM12e _ (by omega), hM7e _ (by omega)]; exact j2_6 j
  · exact fun j => by rw [hM12e _ (by omega), hM7e _ (by omega)]; exact j4_6 j
  · exact fun j => by rw [hM12e _ (by omega), hM7e _ (by omega)]; exact j5_6 j
  · exact fun j => by rw [hM12e _ (by omega), hM7e _ (by omega)]; exact j6_6 j
  · rw [e12, e11, e10, e9, e8]; simp [xw, hMa]
  · rw [e12, e11, e10, e9, e8]; simp [xw]
  · rw [e12, e11, e10, e9, e8]; simp [xw]
  · rw [e12, e11, e10, e9, e8]; simp [xw]
  · rw [e12, e11, e10, e9, e8]; simp [xw, hMa]
  · rw [e12, e11, e10, e9, e8]; simp [xw, hMa]
  · rw [e12, e11, e10, e9, e8]; simp [xw]
  · rw [e12, e11, e10, e9, e8]; simp [xw]
  · rw [hM12e _ (by omega)]; exact hM37
  · exact fun j => by rw [hM12e _ (by omega), hM7e _ (by omega)]; exact j3_6.2 j
section XIN2
variable {X : xCx} {own nm : String} {cc : ByteArray} {n d : Nat} {r : Option FieldType} {G : xGx} {cells slots mc ms : Nat} {t : xTh} {M : xMe} {pc : Nat} {L st : List Value} {Po : Option Value → xTh → xMe → Prop} {Px : String → xTh → xMe → Prop}
theorem xJ_oaI {a j idx ci cN ik ic N NC s dI mcI msI nI : Nat} {C CC : String} {T TC : u_T} {ty tyC : Nat → FieldType} {yI : MethodName} {cI : ByteArray} {P : xTh → Nat → Prop} {J : xMe → Nat → Prop} (h : xC X own nm cc n r d G) (hB : xB X mc ms Po Px) (d0 : decode cc pc = .ok (.new ik, 3)) (d1 : decode cc (pc + 3) = .ok (.dup, 1)) (d2 : decode cc (pc + 4) = .ok (.invokespecial ic, 3)) (d3 : decode cc (pc + 7) = .ok (.putfield idx, 3))
    (hci : vwCl[cN]? = some (CC, TC, NC)) (hc13 : cN < 13 ∨ (18 < cN ∧ cN < 23)) (htyC : xFt CC TC NC tyC) (hwsC : ∀ w ∈ u_ws CC TC NC, w ∈ xT) (hw1 : Cond.classLink own ik CC ∈ xT) (hw2 : Cond.instantiable CC NC ∈ xT) (hw3 : Cond.initialized CC ∈ xT) (hNC : (xFr.getD cN []).length = NC) (hdef : ∀ j, j < NC → defaultValue (tyC j) = if (xFr.getD cN []).getD j false then .null else .int 0)
    (hl : xLk own ic yI cI nI none 0) (hi : Cond.instanceMethod yI ∈ xT) (hin : yI.name = "<init>")
    (hP : ∀ t1 t2 : xTh, xsm t1 t2 (xz t) (xz t + s) → P t1 (xz t) → P t2 (xz t))
    (hcon : ∀ (t1 : xTh) (M1 : xMe), xk t1 (xz t) = cN → xz t1 = xz t + 1 → xMR M1 → (∀ j, M1 (xz t) j = 0) → xCt G yI cI nI none dI mcI msI [vr (xz t)] t1 M1 (xIn t1 M1 (xz t) s P J) (fun _ _ _ => False))
    (hf : xFd own idx ci j C T N) (hty : xFt C T N ty) (hi2 : (xFr.getD ci [])[j]? = some true) (hfin : (T j).2.2.2 = true) (hin2 : nm = "<init>") (hCo : C = own) (hDC : (T j).1 = C) (hn : ∀ z, narrow (ty j) (va_rf (some z)) = va_rf (some z)) (hfit : ∀ z, fits (ty j) (va_rf (some z)) = true)
    (hk : xk t a = ci) (ha : a < xz t) (hM : xMR M) (hd : dI < d) (hLn : L.length = n) (hst8 : (st.map fun v => v.category).sum ≤ 6) (hc : cells + 1 + mcI ≤ mc) (hs : slots + NC + msI ≤ ms)
    (k : ∀ t' M', xMR M' → xz t' = xz t + s → xsm t t' 0 a → xsm t t' (a + 1) (xz t) → xk t' a = ci → (∀ i, i ≠ j → xr t' a i = xr t a i) → xr t' a j = some (xz t) → P t' (xz t) → (∀ b, b < xz t → M' b = M b) → J M' (xz t) → xJ X (cells + 1 + mcI) (slots + NC + msI) t' M' (pc + 10) L st) : xJ X cells slots t M pc L (vr a :: st) := by
  refine xJ_new h hB d0 hci hc13 htyC hwsC hw1 hw2 hw3 hNC hdef (by omega) (by omega) ?_
  refine xJ_dup h d1 rfl ?_
  refine xJ_callI (As := []) (b := xz t) h hB d2 hl hi hin (hcon _ _ xkN_new rfl (xMR_0 hM) (fun j => xw0_self)) hd hLn rfl rfl (by simp only [List.map_cons, List.sum_cons]; show 1 + (1 + _) ≤ 8; omega) (by omega) (by omega) ?_
  rintro v t2 M2 ⟨rfl, g1, g2, g3, g4, g5, g6⟩
  have hk2 : xk t2 a = ci := xsm_k g3 (Nat.zero_le _) ha ((xk_newne (by omega)).trans hk) (by have := hf.2.1; omega)
  refine xJ_putF (x := some (xz t)) h d3 hf hty hi2 hfin hin2 hCo hDC (hn _) (hfit _) hk2 ?_
  have hs0 : xsm t t2 0 (xz t) := xsm_trans (xsm_new (Nat.le_refl _)) g3
  refine k _ _ g1 g2 (xsm_trans (xsm_sub hs0 (Nat.le_refl _) (by omega)) (xsm_wr (Or.inr (Nat.le_refl _)))) (xsm_trans (xsm_sub hs0 (Nat.zero_le _) (Nat.le_refl _)) (xsm_wr (Or.inl (by omega)))) hk2 (fun i hi => ?_) (by rw [xr_wr, if_pos ⟨rfl, rfl⟩]) (hP _ _ (xsm_wr (Or.inl ha)) g4) (fun b hb => ?_) g6
  · rw [xr_wr, if_neg (fun z => hi z.2)]
    exact xsm_r hs0 (Nat.zero_le _) ha hk (by have := hf.2.1; omega) rfl
  · rw [g5 b hb]
    funext i
    unfold xw0
    rw [if_neg (by omega)]
end XIN2
def oX8W (t : xTh) (a : Nat) : Prop := oX8 t a ∧ oXW t (a + 3)
theorem oX8W_sm {t t' : xTh} {lo hi a : Nat} (h : xsm t t' lo hi) (h1 : lo ≤ a) (h2 : a + 43 ≤ hi) (g : oX8W t a) : oX8W t' a := ⟨oX8_sm h h1 h2 g.1, oXW_sm h (by omega) (by omega) g.2⟩
def xRI (M : xMe) (a : Nat) : Prop := (∀ j, M a j = 0) ∧ (∀ j, M (a + 1) j = 0) ∧ xWI M (a + 3)
theorem xRI_eq {M M' : xMe} {a : Nat} (h : ∀ b, a ≤ b → b < a + 43 → M' b = M b) (g : xRI M a) : xRI M' a := ⟨fun j => by rw [h a (by omega) (by omega)]; exact g.1 j, fun j => by rw [h (a + 1) (by omega) (by omega)]; exact g.2.1 j, xWI_eq (fun b h1 h2 => h b (by omega) (by omega)) g.2.2⟩
def oX3W (t : xTh) (a : Nat) : Prop := oX3 t a ∧ ∀ i, i < 8 → oXW t (a + 2 + 39 * i)
theorem oX3W_sm {t t' : xTh} {lo hi a : Nat} (h : xsm t t' lo hi) (h1 : lo ≤ a) (h2 : a + 314 ≤ hi) (g : oX3W t a) : oX3W t' a := ⟨oX3_sm h h1 h2 g.1, fun i hi => oXW_sm h (by omega) (by omega) (g.2 i hi)⟩
def xHI (M : xMe) (a : Nat) : Prop := ∀ j, M a j = 0
theorem xHI_eq {M M' : xMe} {a : Nat} (h : ∀ b, a ≤ b → b < a + 314 → M' b = M b) (g : xHI M a) : xHI M' a := fun j => by rw [h a (by omega) (by omega)]; exact g j
def oX11W (t : xTh) (a : Nat) : Prop := oX11 t a ∧ oXQ t a ∧ xq t (a + 44) = a + 80 ∧ xqn t (a + 44) = 1
def xTI (M : xMe) (a : Nat) : Prop := M a 4 = -1 ∧ xRI M (a + 1) ∧ xWI M (a + 44) ∧ xHI M (a + 122)
set_option maxHeartbeats 4000000 in
theorem c_X3_init {G : xGx} {t : xTh} {M : xMe} {a : Nat} (hk : xk t a = 3) (hz : xz t = a + 1) (hM : xMR M) (h0 : ∀ j, M a j = 0) : xCt G yX3_init cX3_init 2 none 4 313 7592 [vr a] t M (xIn t M a 314 oX3W xHI) (fun _ _ _ => False) := by
  refine xCt_of (L0 := [vr a, vU]) (by decide +kernel) (Nat.le_of_ble_eq_true rfl) rfl ?_
  intro X hX hB
  refine xJ_aload_n hX dX3_init_0 rfl ?_
  refine xJ_objInit hX hB dX3_init_1 lj_X3_3 jw_obj_im jw_obj_co rfl (by decide) (Nat.le_of_ble_eq_true rfl) ?_
  refine xJ_aload_n hX dX3_init_4 rfl ?_
  refine xJ_bipush hX dX3_init_5 rfl ?_
  refine xJ_newW hX hB dX3_init_7 kl_X3_9 (by decide) (by decide) (by decide) (by decide) ?_
  have hne : a ≠ xz t := by omega
  have hk1 : xk (xnw t 16 (8 : Int).toNat) a = 3 := (xk_newne hne).trans hk
  refine xJ_putF (x := some (xz t)) hX dX3_init_10 fd_X3_11 ft_X3 rfl rfl rfl rfl rfl rfl rfl hk1 ?_
  refine xJ_iconst hX dX3_init_13 ?_
  refine xJ_istore_n hX dX3_init_14 (Nat.le_of_ble_eq_true rfl) rfl ?_
  dsimp only [List.set]
  have lp : ∀ (k i : Nat) (t' : xTh) (M' : xMe), i + k = 8 → xz t' = a + 2 + 39 * i → xsm t t' 0 a → xk t' a = 3 → xr t' a 0 = some (a + 1) → xk t' (a + 1) = 16 → xn t' (a + 1) = 8 → (∀ j, j < i → xr t' (a + 1) j = some (a + 2 + 39 * j) ∧ oXW t' (a + 2 + 39 * j)) → xMR M' → (∀ b, b ≤ a → M' b = M b) → xJ X (1 + 39 * i) (8 + 948 * i) t' M' 15 [vr a, vi (i : Int)] [] := by
    intro k
    induction k with
    | zero =>
      intro i t' M' hi hz' hs hk' hr hk1' hn1 hw hM' hMb
      have hi8 : i = 8 := by omega
      subst hi8
      refine xJ_iload_n hX dX3_init_15 rfl ?_
      refine xJ_bipush hX dX3_init_16 rfl ?_
      refine xJ_icmp_ge hX dX3_init_18 (tgt := 40) (by decide) ⟨by decide, by decide⟩ ⟨by decide, by decide⟩ (fun _ => ?_) (fun q => absurd q (by decide))
      exact xJ_vret hX hB dX3_init_40 (by decide) (by decide) ⟨rfl, hM', hz', hs, ⟨⟨hk', hr, hk1', hn1, fun i hi => ⟨(hw i hi).1, (hw i hi).2.1⟩⟩, fun i hi => (hw i hi).2⟩, fun b hb => hMb b (Nat.le_of_lt hb), fun j => by rw [hMb a (Nat.le_refl _)]; exact h0 j⟩
    | succ k ih =>
      intro i t' M' hi hz' hs hk' hr hk1' hn1 hw hM' hMb
      have hiR : xR (i : Int) := ⟨by omega, by omega⟩
      refine xJ_iload_n hX dX3_init_15 rfl ?_
      refine xJ_bipush hX dX3_init_16 rfl ?_
      refine xJ_icmp_ge hX dX3_init_18 (tgt := 40) (by decide) hiR ⟨by decide, by decide⟩ (fun q => absurd q (by omega)) (fun _ => ?_)
      refine xJ_aload_n hX dX3_init_21 rfl ?_
      refine xJ_getR (b := a + 1) hX dX3_init_22 fd_X3_11 rfl hk' hr ?_
      refine xJ_iload_n hX dX3_init_25 rfl ?_
      refine xJ_new hX hB dX3_init_26 (ci := 10) rfl (by decide) ft_X10 uw_X10 kl_X3_9 is_X10 in_X10 rfl (by decide) (by omega) (by omega) ?_
      refine xJ_dup hX dX3_init_29 rfl ?_
      refine xJ_callIN (As := []) (b := xz t') hX hB dX3_init_30 ln_X3_17 im_X10_init rfl (c_X10_init xkN_new rfl (xMR_0 hM') (fun j => xw0_self)) (by decide) rfl rfl rfl (Nat.le_of_ble_eq_true rfl) (by omega) (by omega) ?_
      rintro v t2 M2 ⟨rfl, g1, g2, g3, g4, g5, g6⟩
      have s0 : xsm t' t2 0 (xz t') := xsm_trans (xsm_new (Nat.le_refl _)) g3
      rw [hz'] at g2 g4 s0
      have e5 : ∀ b, b ≤ a → M2 b = M b := fun b hb => by
        rw [g5 b (by omega), ← hMb b hb]
        funext j
        unfold xw0
        rw [if_neg (by omega)]
      have e1 : xk t2 (a + 1) = 16 := xsm_k s0 (Nat.zero_le _) (by omega) hk1' (by decide)
      have e2 : xn t2 (a + 1) = 8 := xsm_n s0 (Nat.zero_le _) (by omega) hk1' (by decide) hn1
      rw [hz']
      refine xJ_aastW hX dX3_init_33 e1 (oX10_k g4.1) (by omega) (by rw [e2]; omega) ?_
      refine xJ_iinc hX dX3_init_34 rfl rfl ?_
      dsimp only [List.set]
      refine xJ_goto hX dX3_init_37 (tgt := 15) (by decide) ?_
      have s1 : ∀ {lo hi : Nat}, (a + 1 < lo ∨ hi ≤ a + 1) → xsm t2 (xwr t2 (a + 1) (i : Int).toNat (some (a + 2 + 39 * i))) lo hi := fun h => xsm_wr h
      refine xJ_widen (by omega) (by omega) (ih (i + 1) (xwr t2 (a + 1) (i : Int).toNat (some (a + 2 + 39 * i))) M2 (by omega) (by show xz t2 = a + 2 + 39 * (i + 1); omega) (xsm_trans (xsm_trans hs (xsm_sub (hi' := a) s0 (Nat.le_refl _) (by omega))) (s1 (lo := 0) (hi := a) (Or.inr (by omega)))) (show xk t2 a = 3 from xsm_k s0 (Nat.zero_le _) (by omega) hk' (by decide)) ?_ e1 e2 (fun j hj => ?_) g1 e5)
      · rw [xr_wr, if_neg (by omega)]
        exact xsm_r s0 (Nat.zero_le _) (by omega) hk' (by decide) hr
      · rw [xr_wr]
        by_cases e : j = i
        · subst e
          rw [if_pos ⟨rfl, by omega⟩]
          exact ⟨rfl, oXW_sm (s1 (lo := a + 2) (hi := a + 2 + 39 * j + 39) (Or.inl (by omega))) (by omega) (by omega) g4⟩
        · rw [if_neg (by omega)]
          obtain ⟨w1, w2⟩ := hw j (by omega)
          exact ⟨xsm_r s0 (Nat.zero_le _) (by omega) hk1' (by decide) w1, oXW_sm (s1 (lo := a + 2) (hi := a + 2 + 39 * i) (Or.inl (by omega))) (by omega) (by omega) (oXW_sm s0 (Nat.zero_le _) (by omega) w2)⟩
  have e1 : xz (xwr (xnw t 16 (8 : Int).toNat) a 0 (some (xz t))) = a + 2 + 39 * 0 := by show xz t + 1 = _; omega
  refine lp 8 0 _ _ rfl e1 (xsm_trans (xsm_new (by omega)) (xsm_wr (Or.inr (Nat.le_refl _)))) hk1 (by rw [xr_wr, if_pos ⟨rfl, rfl⟩, hz]) (by rw [← hz]; exact xkN_new (t := t) (k := 16) (n := 8)) (by rw [← hz]; exact xn_new2 (t := t) (k := 16) (n := 8)) (fun j hj => absurd hj (Nat.not_lt_zero _)) (xMR_0 hM) (fun b hb => ?_)
  funext j
  unfold xw0
  rw [if_neg (by omega)]
set_option maxHeartbeats 4000000 in
theorem c_X8_init {G : xGx} {t : xTh} {M : xMe} {a : Nat} (hk : xk t a = 8) (hz : xz t = a + 1) (hM : xMR M) (h0 : ∀ j, M a j = 0) : xCt G yX8_init cX8_init 1 none 4 42 2355 [vr a] t M (xIn t M a 43 oX8W xRI) (fun _ _ _ => False) := by
  refine xCt_of (L0 := [vr a]) (by decide +kernel) (Nat.le_of_ble_eq_true rfl) rfl ?_
  intro X hX hB
  refine xJ_aload_n hX dX8_init_0 rfl ?_
  refine xJ_objInit hX hB dX8_init_1 lj_X8_3 jw_obj_im jw_obj_co rfl (by decide) (Nat.le_of_ble_eq_true rfl) ?_
  have L0 : xsm t t 0 a := xsm_refl _ _ _
  have B0 : ∀ b, b ≤ a → M b = M b := fun _ _ => rfl
  have z0 : xz t = a + 1 := hz
  refine xJ_aload_n hX dX8_init_4 rfl ?_
  refine xJ_oa (P := oX9) (J := (fun M z => ∀ j, M z j = 0)) (s := 2) (cN := 9) hX hB dX8_init_5 dX8_init_8 dX8_init_9 dX8_init_12 rfl (by decide) ft_X9 uw_X9 kl_X8_9 is_X9 in_X9 rfl (by decide) ln_X8_11 im_X9_init rfl (fun t1 t2 h g => oX9_sm h (by omega) (by omega) g) (fun t1 M1 q1 q2 q3 q4 => c_X9_init q1 q2 q3 q4) fd_X8_12 ft_X8 rfl rfl rfl rfl rfl (fun _ => rfl) (fun _ => rfl) hk (by omega) hM (by decide) rfl (by decide) (by decide) (by decide) (fun t1 M1 hM1 hz1 hl1 hu1 hk1 hr1 hn1 hP1 hb1 hJ1 => ?_)
  rw [z0] at hz1 hu1 hn1 hP1 hb1 hJ1
  have z1 : xz t1 = a + 3 := by omega
  have r1_1 := hn1
  have o1_1 := hP1
  have j1_1 := hJ1
  have L1 := xsm_trans L0 hl1
  have B1 : ∀ b, b ≤ a → M1 b = M b := fun b hb => (hb1 b (by omega)).trans (B0 b hb)
  refine xJ_aload_n hX dX8_init_15 rfl ?_
  refine xJ_oa (P := oXW) (J := xWI) (s := 39) (cN := 10) hX hB dX8_init_16 dX8_init_19 dX8_init_20 dX8_init_23 rfl (by decide) ft_X10 uw_X10 kl_X8_18 is_X10 in_X10 rfl (by decide) ln_X8_20 im_X10_init rfl (fun t1 t2 h g => oXW_sm h (by omega) (by omega) g) (fun t1 M1 q1 q2 q3 q4 => c_X10_init q1 q2 q3 q4) fd_X8_21 ft_X8 rfl rfl rfl rfl rfl (fun _ => rfl) (fun _ => rfl) hk1 (by omega) hM1 (by decide) rfl (by decide) (by decide) (by decide) (fun t2 M2 hM2 hz2 hl2 hu2 hk2 hr2 hn2 hP2 hb2 hJ2 => ?_)
  rw [z1] at hz2 hu2 hn2 hP2 hb2 hJ2
  have z2 : xz t2 = a + 42 := by omega
  have r1_2 := (hr2 0 (by decide)).trans r1_1
  have o1_2 := oX9_sm hu2 (by omega) (by omega) o1_1
  have j1_2 := (fun j => by rw [hb2 _ (by omega)]; exact j1_1 j : ∀ j, M2 (a + 1) j = 0)
  have r2_2 := hn2
  have o2_2 := hP2
  have j2_2 := hJ2
  have L2 := xsm_trans L1 hl2
  have B2 : ∀ b, b ≤ a → M2 b = M b := fun b hb => (hb2 b (by omega)).trans (B1 b hb)
  refine xJ_aload_n hX dX8_init_26 rfl ?_
  refine xJ_sipush hX dX8_init_27 rfl ?_
  refine xJ_newI hX hB dX8_init_30 ac_int (by decide) (by decide) (by decide) (by decide) ?_
  refine xJ_putF (x := some (xz t2)) hX dX8_init_32 fd_X8_25 ft_X8 rfl rfl rfl rfl rfl rfl rfl ((xk_newne (by omega)).trans hk2) ?_
  have s3 : ∀ {lo hi : Nat}, (a < lo ∨ hi ≤ a) → hi ≤ a + 42 → xsm t2 (xwr (xnw t2 14 (700 : Int).toNat) a 4 (some (xz t2))) lo hi := fun h h2 => xsm_trans (xsm_new (by omega)) (xsm_wr h)
  have x4 : ∀ i, i ≠ 4 → xr (xwr (xnw t2 14 (700 : Int).toNat) a 4 (some (xz t2))) a i = xr t2 a i := fun i hi => by rw [xr_wr, if_neg (fun z => hi z.2), xr_newne (by omega)]
  have eM : ∀ b, b < a + 42 → xw0 M2 (xz t2) b = M2 b := fun b hb => by funext j; unfold xw0; rw [if_neg (by omega)]
  have k4 : xk (xwr (xnw t2 14 (700 : Int).toNat) a 4 (some (xz t2))) (a + 42) = 14 := by rw [← z2]; exact xkN_new (t := t2) (k := 14) (n := 700)
  have n4 : xn (xwr (xnw t2 14 (700 : Int).toNat) a 4 (some (xz t2))) (a + 42) = 700 := by rw [← z2]; exact xn_new2 (t := t2) (k := 14) (n := 700)
  refine xJ_vret hX hB dX8_init_35 (by decide) (by decide) ⟨rfl, xMR_0 hM2, by show xz t2 + 1 = _; omega, xsm_trans L2 (s3 (Or.inr (Nat.le_refl _)) (by omega)), ⟨⟨(xk_newne (n := 700) (by omega)).trans hk2, (x4 0 (by decide)).trans r1_2, oX9_sm (s3 (lo := a + 1) (hi := a + 42) (Or.inl (by omega)) (Nat.le_refl _)) (by omega) (by omega) o1_2, (x4 1 (by decide)).trans r2_2, ?_, by rw [xr_wr, if_pos ⟨rfl, rfl⟩, z2], k4, n4⟩, ?_⟩, fun b hb => (eM b (by omega)).trans (B2 b (by omega)), fun j => by rw [eM a (by omega), B2 a (Nat.le_refl _)]; exact h0 j, fun j => by rw [eM _ (by omega)]; exact j1_2 j, xWI_eq (fun b h1 h2 => ?_) j2_2⟩
  · exact (oXW_sm (s3 (lo := a + 1) (hi := a + 42) (Or.inl (by omega)) (Nat.le_refl _)) (by omega) (by omega) o2_2).1
  · exact oXW_sm (s3 (lo := a + 1) (hi := a + 42) (Or.inl (by omega)) (Nat.le_refl _)) (by omega) (by omega) o2_2
  · exact eM b (by omega)
set_option maxHeartbeats 4000000 in
theorem c_X11_init {G : xGx} {t : xTh} {M : xMe} {a : Nat} (hk : xk t a = 11) (hz : xz t = a + 1) (hM : xMR M) (h0 : ∀ j, M a j = 0) : xCt G yX11_init cX11_init 1 none 5 435 11855 [vr a] t M (xIn t M a 436 oX11W xTI) (fun _ _ _ => False) := by
  refine xCt_of (L0 := [vr a]) (by decide +kernel) (Nat.le_of_ble_eq_true rfl) rfl ?_
  intro X hX hB
  refine xJ_aload_n hX dX11_init_0 rfl ?_
  refine xJ_objInit hX hB dX11_init_1 lj_X11_1 jw_obj_im jw_obj_co rfl (by decide) (Nat.le_of_ble_eq_true rfl) ?_
  have L0 : xsm t t 0 a := xsm_refl _ _ _
  have B0 : ∀ b, b ≤ a → M b = M b := fun _ _ => rfl
  have z0 : xz t = a + 1 := hz
  refine xJ_aload_n hX dX11_init_4 rfl ?_
  refine xJ_oa (P := oX8W) (J := xRI) (s := 43) (cN := 8) hX hB dX11_init_5 dX11_init_8 dX11_init_9 dX11_init_12 rfl (by decide) ft_X8 uw_X8 kl_X11_7 is_X8 in_X8 rfl (by decide) ln_X11_9 im_X8_init rfl (fun t1 t2 h g => oX8W_sm h (by omega) (by omega) g) (fun t1 M1 q1 q2 q3 q4 => c_X8_init q1 q2 q3 q4) fd_X11_10 ft_X11 rfl rfl rfl rfl rfl (fun _ => rfl) (fun _ => rfl) hk (by omega) hM (by decide) rfl (by decide) (by decide) (by decide) (fun t1 M1 hM1 hz1 hl1 hu1 hk1 hr1 hn1 hP1 hb1 hJ1 => ?_)
  rw [z0] at hz1 hu1 hn1 hP1 hb1 hJ1
  have z1 : xz t1 = a + 44 := by omega
  have r1_1 := hn1
  have o1_1 := hP1
  have j1_1 := hJ1
  have L1 := xsm_trans L0 hl1
  have B1 : ∀ b, b ≤ a → M1 b = M b := fun b hb => (hb1 b (by omega)).trans (B0 b hb)
  refine xJ_aload_n hX dX11_init_15 rfl ?_
  refine xJ_oa (P := oXW) (J := xWI) (s := 39) (cN := 10) hX hB dX11_init_16 dX11_init_19 dX11_init_20 dX11_init_23 rfl (by decide) ft_X10 uw_X10 kl_X11_16 is_X10 in_X10 rfl (by decide) ln_X11_18 im_X10_init rfl (fun t1 t2 h g => oXW_sm h (by omega) (by omega) g) (fun t1 M1 q1 q2 q3 q4 => c_X10_init q1 q2 q3 q4) fd_X11_19 ft_X11 rfl rfl rfl rfl rfl (fun _ => rfl) (fun _ => rfl) hk1 (by omega) hM1 (by decide) rfl (by decide) (by decide) (by decide) (fun t2 M2 hM2 hz2 hl2 hu2 hk2 hr2 hn2 hP2 hb2 hJ2 => ?_)
  rw [z1] at hz2 hu2 hn2 hP2 hb2 hJ2
  have z2 : xz t2 = a + 83 := by omega
  have r1_2 := (hr2 0 (by decide)).trans r1_1
  have o1_2 := oX8W_sm hu2 (by omega) (by omega) o1_1
  have j1_2 := xRI_eq (fun b h1 h2 => hb2 b (by omega)) j1_1
  have r2_2 := hn2
  have o2_2 := hP2
  have j2_2 := hJ2
  have L2 := xsm_trans L1 hl2
  have B2 : ∀ b, b ≤ a → M2 b = M b := fun b hb => (hb2 b (by omega)).trans (B1 b hb)
  refine xJ_aload_n hX dX11_init_26 rfl ?_
  refine xJ_oa (P := oXW) (J := xWI) (s := 39) (cN := 10) hX hB dX11_init_27 dX11_init_30 dX11_init_31 dX11_init_34 rfl (by decide) ft_X10 uw_X10 kl_X11_16 is_X10 in_X10 rfl (by decide) ln_X11_18 im_X10_init rfl (fun t1 t2 h g => oXW_sm h (by omega) (by omega) g) (fun t1 M1 q1 q2 q3 q4 => c_X10_init q1 q2 q3 q4) fd_X11_23 ft_X11 rfl rfl rfl rfl rfl (fun _ => rfl) (fun _ => rfl) hk2 (by omega) hM2 (by decide) rfl (by decide) (by decide) (by decide) (fun t3 M3 hM3 hz3 hl3 hu3 hk3 hr3 hn3 hP3 hb3 hJ3 => ?_)
  rw [z2] at hz3 hu3 hn3 hP3 hb3 hJ3
  have z3 : xz t3 = a + 122 := by omega
  have r1_3 := (hr3 0 (by decide)).trans r1_2
  have o1_3 := oX8W_sm hu3 (by omega) (by omega) o1_2
  have j1_3 := xRI_eq (fun b h1 h2 => hb3 b (by omega)) j1_2
  have r2_3 := (hr3 1 (by decide)).trans r2_2
  have o2_3 := oXW_sm hu3 (by omega) (by omega) o2_2
  have j2_3 := xWI_eq (fun b h1 h2 => hb3 b (by omega)) j2_2
  have r3_3 := hn3
  have o3_3 := hP3
  have j3_3 := hJ3
  have L3 := xsm_trans L2 hl3
  have B3 : ∀ b, b ≤ a → M3 b = M b := fun b hb => (hb3 b (by omega)).trans (B2 b hb)
  refine xJ_aload_n hX dX11_init_37 rfl ?_
  refine xJ_oaI (P := oX3W) (J := xHI) (s := 314) (cN := 3) hX hB dX11_init_38 dX11_init_41 dX11_init_42 dX11_init_45 rfl (by decide) ft_X3 uw_X3 kl_X11_26 is_X3 in_X3 rfl (by decide) lk_X11_28 im_X3_init rfl (fun t1 t2 h g => oX3W_sm h (by omega) (by omega) g) (fun t1 M1 q1 q2 q3 q4 => c_X3_init q1 q2 q3 q4) fd_X11_29 ft_X11 rfl rfl rfl rfl rfl (fun _ => rfl) (fun _ => rfl) hk3 (by omega) hM3 (by decide) rfl (by decide) (by decide) (by decide) (fun t4 M4 hM4 hz4 hl4 hu4 hk4 hr4 hn4 hP4 hb4 hJ4 => ?_)
  rw [z3] at hz4 hu4 hn4 hP4 hb4 hJ4
  have z4 : xz t4 = a + 436 := by omega
  have r1_4 := (hr4 0 (by decide)).trans r1_3
  have o1_4 := oX8W_sm hu4 (by omega) (by omega) o1_3
  have j1_4 := xRI_eq (fun b h1 h2 => hb4 b (by omega)) j1_3
  have r2_4 := (hr4 1 (by decide)).trans r2_3
  have o2_4 := oXW_sm hu4 (by omega) (by omega) o2_3
  have j2_4 := xWI_eq (fun b h1 h2 => hb4 b (by omega)) j2_3
  have r3_4 := (hr4 2 (by decide)).trans r3_3
  have o3_4 := oXW_sm hu4 (by omega) (by omega) o3_3
  have j3_4 := xWI_eq (fun b h1 h2 => hb4 b (by omega)) j3_3
  have r4_4 := hn4
  have o4_4 := hP4
  have j4_4 := hJ4
  have L4 := xsm_trans L3 hl4
  have B4 : ∀ b, b ≤ a → M4 b = M b := fun b hb => (hb4 b (by omega)).trans (B3 b hb)
  refine xJ_aload_n hX dX11_init_48 rfl ?_
  refine xJ_iconst hX dX11_init_49 ?_
  refine xJ_putIM hX dX11_init_50 fd_X11_33 ft_X11 rfl rfl rfl rfl hk4 hM4 ⟨by decide, by decide⟩ (fun M5 e5 hM5 => ?_)
  have eM : ∀ b, b ≠ a → M5 b = M4 b := fun b hb => by rw [e5]; funext j; simp [xw, hb]
  have h11 : oX11 t4 a := ⟨hk4, r1_4, o1_4.1, r2_4, o2_4.1, r3_4, o3_4.1, r4_4, o4_4.1⟩
  have hQ : oXQ t4 a := fun w hw => by
    rcases hw with rfl | rfl | rfl | ⟨i, hi, rfl⟩
    · exact o1_4.2.2.1
    · exact o2_4.2.1
    · exact o3_4.2.1
    · exact (o4_4.2 i hi).2.1
  exact xJ_vret hX hB dX11_init_53 (by decide) (by decide) ⟨rfl, hM5, z4, L4, ⟨h11, hQ, o2_4.2.2.1, o2_4.2.2.2⟩, fun b hb => (eM b (by omega)).trans (B4 b (by omega)), by rw [e5]; simp [xw], xRI_eq (fun b h1 h2 => eM b (by omega)) j1_4, xWI_eq (fun b h1 h2 => eM b (by omega)) j2_4, xHI_eq (fun b h1 h2 => eM b (by omega)) j4_4⟩
