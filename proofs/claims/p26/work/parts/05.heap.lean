/-! THE HEAP'S RULES -/
theorem xfl_get (ci : Nat) (t : xTh) (M : xMe) (a i : Nat) : (xfl ci t M a)[i]? = ((xFr.getD ci [])[i]?).map fun b => if b then va_rf (xr t a i) else vi (M a i) := by
  unfold xfl
  rw [List.getElem?_map, List.getElem?_zipIdx]
  cases (xFr.getD ci [])[i]? <;> simp
theorem xfl_len (ci : Nat) (t : xTh) (M : xMe) (a : Nat) : (xfl ci t M a).length = (xFr.getD ci []).length := by simp [xfl]
theorem xE_obj {ca : Nat → ClassId} {t : xTh} {M : xMe} {a ci : Nat} (hk : xk t a = ci) (hc : ci < 13 ∨ (18 < ci ∧ ci < 23)) : xE ca t M a = .inr (ci, xfl ci t M a) := by
  unfold xE; rw [hk, if_pos hc]
theorem xE_int {ca : Nat → ClassId} {t : xTh} {M : xMe} {a ki : Nat} (hk : xk t a = ki) (h1 : 13 ≤ ki) (h2 : ki < 15) : xE ca t M a = .inl (ca (ki - 13), xn t a, .inl (fun j => Int32.ofInt (M a j))) := by
  unfold xE; rw [hk, if_neg (by omega), if_pos h2]
theorem xE_long {ca : Nat → ClassId} {t : xTh} {M : xMe} {a : Nat} (hk : xk t a = 15) : xE ca t M a = .inl (ca 2, xn t a, .inr (.inl (fun j => Int64.ofInt (M a j)))) := by
  unfold xE; rw [hk, if_neg (by decide), if_neg (by decide), if_pos rfl]
theorem xE_ref {ca : Nat → ClassId} {t : xTh} {M : xMe} {a ki : Nat} (hk : xk t a = ki) (h1 : 16 ≤ ki) (h2 : ki ≤ 18) : xE ca t M a = .inl (ca (ki - 13), xn t a, .inr (.inr (.inr (.inr (fun j => xr t a j))))) := by
  unfold xE; rw [hk, if_neg (by omega), if_neg (by omega), if_neg (by omega)]
theorem xw_ne {M : xMe} {a k : Nat} {v : Int} {b j : Nat} (h : b ≠ a) : xw M a k v b j = M b j := by simp [xw, h]
theorem xw_self {M : xMe} {a k : Nat} {v : Int} : xw M a k v a k = v := by simp [xw]
/-- a cell but a changes nothing of it -/
theorem xE_off {ca : Nat → ClassId} {t t' : xTh} {M M' : xMe} {b : Nat} (h1 : xk t' b = xk t b) (h2 : xn t' b = xn t b) (h3 : ∀ j, xr t' b j = xr t b j) (h4 : ∀ j, M' b j = M b j) : xE ca t' M' b = xE ca t M b := by
  have e1 : (fun j => xr t' b j) = fun j => xr t b j := funext h3
  have e2 : M' b = M b := funext h4
  unfold xE xfl
  simp only [h1, h2, h3, h4]
theorem xE_upI {ca : Nat → ClassId} {t : xTh} {M : xMe} {a ci j : Nat} {v : Int} (hk : xk t a = ci) (hc : ci < 13 ∨ (18 < ci ∧ ci < 23)) (hf : (xFr.getD ci [])[j]? = some false) : va_up (xE ca t M) a (.inr (ci, (xfl ci t M a).set j (vi v))) = xE ca t (xw M a j v) := by
  funext b
  by_cases hb : b = a
  · subst hb
    rw [va_up_self, xE_obj hk hc]
    congr 2
    apply List.ext_getElem?
    intro i
    rw [List.getElem?_set, xfl_get, xfl_get, xfl_len]
    by_cases hi : j = i
    · subst hi
      rw [if_pos rfl, if_pos (List.getElem?_eq_some_iff.mp hf).1, hf]
      simp [xw]
    · rw [if_neg hi]
      simp [xw, Ne.symm hi]
  · rw [va_up_ne _ _ hb]
    exact (xE_off rfl rfl (fun _ => rfl) (fun _ => xw_ne hb)).symm
theorem xE_upR {ca : Nat → ClassId} {t : xTh} {M : xMe} {a ci j : Nat} {v : Option Nat} (hk : xk t a = ci) (hc : ci < 13 ∨ (18 < ci ∧ ci < 23)) (hf : (xFr.getD ci [])[j]? = some true) : va_up (xE ca t M) a (.inr (ci, (xfl ci t M a).set j (va_rf v))) = xE ca (xwr t a j v) M := by
  funext b
  by_cases hb : b = a
  · subst hb
    rw [va_up_self, xE_obj (t := xwr t b j v) hk hc]
    congr 2
    apply List.ext_getElem?
    intro i
    rw [List.getElem?_set, xfl_get, xfl_get, xfl_len]
    by_cases hi : j = i
    · subst hi
      rw [if_pos rfl, if_pos (List.getElem?_eq_some_iff.mp hf).1, hf]
      simp [xwr, xr]
    · rw [if_neg hi]
      simp [xwr, xr, Ne.symm hi]
  · rw [va_up_ne _ _ hb]
    exact (xE_off (t := t) (t' := xwr t a j v) rfl rfl (fun _ => by simp [xwr, xr, hb]) (fun _ => rfl)).symm
theorem xE_upA {ca : Nat → ClassId} {t : xTh} {M : xMe} {a ki j : Nat} {v : Int} (hk : xk t a = ki) (h1 : 13 ≤ ki) (h2 : ki < 15) : va_up (xE ca t M) a (.inl (ca (ki - 13), xn t a, .inl (upd (fun i => Int32.ofInt (M a i)) j (Int32.ofInt v)))) = xE ca t (xw M a j v) := by
  funext b
  by_cases hb : b = a
  · subst hb
    rw [va_up_self, xE_int hk h1 h2]
    congr 4
    funext i
    by_cases hi : i = j
    · subst hi; simp [xw, upd]
    · simp [xw, upd, hi]
  · rw [va_up_ne _ _ hb]
    exact (xE_off rfl rfl (fun _ => rfl) (fun _ => xw_ne hb)).symm
theorem xE_upL {ca : Nat → ClassId} {t : xTh} {M : xMe} {a j : Nat} {v : Int} (hk : xk t a = 15) : va_up (xE ca t M) a (.inl (ca 2, xn t a, .inr (.inl (vp_updL (fun i => Int64.ofInt (M a i)) j (Int64.ofInt v))))) = xE ca t (xw M a j v) := by
  funext b
  by_cases hb : b = a
  · subst hb
    rw [va_up_self, xE_long hk]
    congr 5
    funext i
    by_cases hi : i = j
    · subst hi; simp [xw, vp_updL]
    · simp [xw, vp_updL, hi]
  · rw [va_up_ne _ _ hb]
    exact (xE_off rfl rfl (fun _ => rfl) (fun _ => xw_ne hb)).symm
theorem xE_upQ {ca : Nat → ClassId} {t : xTh} {M : xMe} {a ki j : Nat} {v : Option Nat} (hk : xk t a = ki) (h1 : 16 ≤ ki) (h2 : ki ≤ 18) : va_up (xE ca t M) a (.inl (ca (ki - 13), xn t a, .inr (.inr (.inr (.inr (va_up (fun i => xr t a i) j v)))))) = xE ca (xwr t a j v) M := by
  funext b
  by_cases hb : b = a
  · subst hb
    have e : (fun i => xr (xwr t b j v) b i) = va_up (fun i => xr t b i) j v := by
      funext i
      by_cases hi : i = j
      · subst hi; simp [xwr, xr, va_up]
      · simp [xwr, xr, va_up, hi]
    rw [va_up_self, xE_ref (t := xwr t b j v) hk h1 h2, e]
    rfl
  · rw [va_up_ne _ _ hb]
    exact (xE_off (t := t) (t' := xwr t a j v) rfl rfl (fun _ => by simp [xwr, xr, hb]) (fun _ => rfl)).symm
/-- a field: how the class own names it -/
def xFd (own : String) (idx ci j : Nat) (C : String) (T : u_T) (N : Nat) : Prop := vwCl[ci]? = some (C, T, N) ∧ (ci < 13 ∨ (18 < ci ∧ ci < 23)) ∧ j < N ∧ Cond.fieldLink own idx (T j).1 (T j).2.1 (T j).2.2.1 ∈ xT ∧ (T j).1 = (T j).1 ∧ (xFr.getD ci []).length = N ∧ (∀ w ∈ u_ws C T N, w ∈ xT)
def xFt (C : String) (T : u_T) (N : Nat) (ty : Nat → FieldType) : Prop := (∀ k, k < N → parseFieldDescriptor (T k).2.2.1 = some (ty k)) ∧ (∀ a, a < N → ∀ b, b < N → a ≠ b → (T a).2.1 ≠ (T b).2.1)
theorem xRp_upd {G : xGx} {t t' : xTh} {M M' : xMe} {H H1 : Heap} {locs : List Loc} {a k : Nat} {e' : va_E} (h : xRp G t M H locs) (ha : xk t a ≤ 22) (z : H1.size = H.size) (oq : ∀ q : Nat, q ≠ a → H1[q]? = H[q]?) (he : va_at G.1 vwCl (a, e') H1) (hE : va_up (xE G.2.1 t M) a e' = xE G.2.1 t' M') (hz : xz t' = xz t) (hk : ∀ b, xk t' b = xk t b) (hn : ∀ b, xn t' b = xn t b) : xRp G t' M' H1 (locs ++ [⟨a, k⟩]) := by
  obtain ⟨b1, b2, b3, Ld, b4, b5, b6⟩ := h
  obtain ⟨q0, hq0⟩ := va_pl_get (X := []) (f := xE G.2.1 t M) ((b4 a).mpr ha)
  have hse : (va_pl Ld (xE G.2.1 t M)).set q0 (a, e') = va_pl Ld (xE G.2.1 t' M') := (va_pl_set (X := []) b6 ((b4 a).mpr ha) hq0).trans (by rw [hE]; rfl)
  refine ⟨b1.put z oq (b6.2 q0 _ hq0), by rw [z, hz]; exact b2, fun b => by rw [hn]; exact b3 b, Ld, fun b => by rw [hk]; exact b4 b, ?_, ?_⟩
  · rw [← hse]
    exact b5.set b6 hq0 he oq
  · rw [← hse]
    exact b6.set hq0
theorem xRp_at {G : xGx} {t : xTh} {M : xMe} {H : Heap} {locs : List Loc} {a : Nat} (h : xRp G t M H locs) (ha : xk t a ≤ 22) : va_at G.1 vwCl (a, xE G.2.1 t M a) H := by
  obtain ⟨b1, b2, b3, Ld, b4, b5, b6⟩ := h
  obtain ⟨q0, hq0⟩ := va_pl_get (X := []) (f := xE G.2.1 t M) ((b4 a).mpr ha)
  exact b5 q0 _ hq0
theorem xRp_new {G : xGx} {t : xTh} {M : xMe} {H H1 : Heap} {locs : List Loc} {ki nn : Nat} (h : xRp G t M H locs) (hki : ki ≤ 22) (hnn : nn < 2147483648) (z : H1.size = H.size + 1) (oq : ∀ q : Nat, q < H.size → H1[q]? = H[q]?) (he : va_at G.1 vwCl (H.size, xE G.2.1 (xnw t ki nn) (xw0 M (xz t)) (xz t)) H1) : xRp G (xnw t ki nn) (xw0 M (xz t)) H1 locs := by
  obtain ⟨b1, b2, b3, Ld, b4, b5, b6⟩ := h
  have hk : ∀ (k : Nat) (x : Nat × va_E), (va_pl Ld (xE G.2.1 t M))[k]? = some x → H1[x.1]? = H[x.1]? := fun k x hx => oq x.1 ((b5 k x hx).lt)
  have hfr : H.size ∉ Ld := fun q => by
    obtain ⟨q0, hq0⟩ := va_pl_get (X := []) (f := xE G.2.1 t M) q
    exact absurd (b5 q0 _ hq0).lt (Nat.lt_irrefl _)
  have hup : va_up (xE G.2.1 t M) H.size (xE G.2.1 (xnw t ki nn) (xw0 M (xz t)) (xz t)) = xE G.2.1 (xnw t ki nn) (xw0 M (xz t)) := by
    funext b
    by_cases hb : b = H.size
    · subst hb
      rw [va_up_self, b2]
    · rw [va_up_ne _ _ hb]
      rw [b2] at hb
      exact (xE_off (t := t) (t' := xnw t ki nn) (by simp [xk, xnw, hb]) (by simp [xn, xnw, hb]) (fun _ => by simp [xr, xnw, hb]) (fun _ => by simp [xw0, hb])).symm
  have hpu := va_pl_push (L := Ld) (f := xE G.2.1 t M) (e := xE G.2.1 (xnw t ki nn) (xw0 M (xz t)) (xz t)) hfr
  rw [hup] at hpu
  refine ⟨⟨Nat.le_trans b1.1 (by omega), fun x h1 h2 => (oq x (Nat.lt_of_lt_of_le h1 b1.1)).trans (b1.2.1 x h1 h2), b1.2.2⟩, by rw [z, b2]; rfl, fun a => ?_, Ld ++ [H.size], fun a => ?_, ?_, ?_⟩
  · by_cases ha : a = xz t
    · simp [xn, xnw, ha]; exact hnn
    · simp [xn, xnw, ha]; exact b3 a
  · rw [List.mem_append, List.mem_singleton]
    by_cases ha : a = xz t
    · simp [xk, xnw, ha, b2, hki]
    · simp [xk, xnw, ha, b2]; exact b4 a
  · rw [← hpu]
    refine (b5.kept hk).app fun k x hx => ?_
    have hz : k < 1 := (List.getElem?_eq_some_iff.mp hx).1
    rw [show k = 0 by omega] at hx
    cases hx
    exact he
  · rw [← hpu]
    exact b6.push b5 rfl (show xA G H.size from b1.1)
theorem xI_ti {j : Int} (h0 : 0 ≤ j) (h1 : j < 2147483648) : (Int32.ofInt j).toNatClampNeg = j.toNat ∧ ¬ Int32.ofInt j < 0 := by
  have e : (Int32.ofInt j).toInt = j := xR_ti ⟨by omega, h1⟩
  refine ⟨?_, fun q => ?_⟩
  · rw [← Int32.toNat_toInt, e]
  · rw [Int32.lt_iff_toInt_lt, e] at q
    have : (0 : Int32).toInt = 0 := rfl
    omega
theorem xI_in {t : xTh} {a : Nat} {j : Int} (h3 : xn t a < 2147483648) (h0 : 0 ≤ j) (h1 : j < xn t a) : ¬ (Int32.ofInt j < 0 ∨ xn t a ≤ (Int32.ofInt j).toNatClampNeg) := by
  obtain ⟨e1, e2⟩ := xI_ti h0 (by omega)
  rw [e1]
  intro q
  rcases q with q | q
  · exact e2 q
  · omega
section XH
variable {X : xCx} {own nm : String} {cc : ByteArray} {n d : Nat} {r : Option FieldType} {G : xGx} {cells slots : Nat} {t : xTh} {M : xMe} {pc : Nat} {L st : List Value}
theorem xJ_getI {a idx ci j N : Nat} {C : String} {T : u_T} (h : xC X own nm cc n r d G) (dd : decode cc pc = .ok (.getfield idx, 3)) (hf : xFd own idx ci j C T N) (hi : (xFr.getD ci [])[j]? = some false) (hk : xk t a = ci) (k : xJ X cells slots t M (pc + 3) L (vi (M a j) :: st)) : xJ X cells slots t M pc L (vr a :: st) := by
  obtain ⟨p, l, e, R, s, m, args, below, meth, c, G9, Po, Px, mc, ms⟩ := X
  obtain ⟨hx, hb, hml, hown, hts, hr, hlk, hKn, hSs, hnm, hR, hG, hst⟩ := h
  obtain ⟨f1, f2, f3, f4, f5, f6, f7⟩ := hf
  subst hG
  intro H locs ls a1 a2 a3
  obtain ⟨b1, b2, b3, Ld, b4, b5, b6⟩ := id a2
  obtain ⟨q0, hq0⟩ := va_pl_get (X := []) (f := xE G9.2.1 t M) ((b4 a).mpr (by omega))
  rw [xE_obj hk f2] at hq0
  exact va_get (D := G9.1) (cl := vwCl) (tys := xTys G9) hx hb hts f7 hown hKn.1 b5 q0 hq0 f1 j f3 (hts _ f4) (fun _ h9 => h9) (v := vi (M a j)) (by rw [xfl_get, hi]; rfl) dd (k H locs ls a1 a2 a3)
theorem xJ_getR {a b idx ci j N : Nat} {C : String} {T : u_T} (h : xC X own nm cc n r d G) (dd : decode cc pc = .ok (.getfield idx, 3)) (hf : xFd own idx ci j C T N) (hi : (xFr.getD ci [])[j]? = some true) (hk : xk t a = ci) (hr9 : xr t a j = some b) (k : xJ X cells slots t M (pc + 3) L (vr b :: st)) : xJ X cells slots t M pc L (vr a :: st) := by
  obtain ⟨p, l, e, R, s, m, args, below, meth, c, G9, Po, Px, mc, ms⟩ := X
  obtain ⟨hx, hb, hml, hown, hts, hr, hlk, hKn, hSs, hnm, hR, hG, hst⟩ := h
  obtain ⟨f1, f2, f3, f4, f5, f6, f7⟩ := hf
  subst hG
  intro H locs ls a1 a2 a3
  obtain ⟨b1, b2, b3, Ld, b4, b5, b6⟩ := id a2
  obtain ⟨q0, hq0⟩ := va_pl_get (X := []) (f := xE G9.2.1 t M) ((b4 a).mpr (by omega))
  rw [xE_obj hk f2] at hq0
  exact va_get (D := G9.1) (cl := vwCl) (tys := xTys G9) hx hb hts f7 hown hKn.1 b5 q0 hq0 f1 j f3 (hts _ f4) (fun _ h9 => h9) (v := vr b) (by rw [xfl_get, hi, hr9]; rfl) dd (k H locs ls a1 a2 a3)
theorem xJ_putI {a idx ci j N : Nat} {C : String} {T : u_T} {ty : Nat → FieldType} {x : Int} (h : xC X own nm cc n r d G) (dd : decode cc pc = .ok (.putfield idx, 3)) (hf : xFd own idx ci j C T N) (hty : xFt C T N ty) (hi : (xFr.getD ci [])[j]? = some false) (hfin : (T j).2.2.2 = false) (hn : narrow (ty j) (vi x) = vi x) (hfit : fits (ty j) (vi x) = true) (hk : xk t a = ci) (k : xJ X cells slots t (xw M a j x) (pc + 3) L st) : xJ X cells slots t M pc L (vi x :: vr a :: st) := by
  obtain ⟨p, l, e, R, s, m, args, below, meth, c, G9, Po, Px, mc, ms⟩ := X
  obtain ⟨hx, hb, hml, hown, hts, hr, hlk, hKn, hSs, hnm, hR, hG, hst⟩ := h
  obtain ⟨f1, f2, f3, f4, f5, f6, f7⟩ := hf
  subst hG
  intro H locs ls a1 a2 a3
  have hat := xRp_at a2 (a := a) (by omega)
  rw [xE_obj hk f2] at hat
  obtain ⟨r9, h1, cell, q1, q2, q3, q4⟩ := hat
  have hr9 : r9 = (C, T, N) := Option.some.inj (h1.symm.trans f1)
  subst hr9
  obtain ⟨hS, hfc, kC, hkC, hkind⟩ := hKn.1.1 ci _ f1
  obtain ⟨cf, kf, fi, f, hi9, hsl⟩ := hS j f3
  have hap := va_apart (own := own) hts f7 ty hty.1 hty.2 hKn.1 f1
  have hlay := hts _ (f7 _ (u_in_lay f3))
  unfold u_lay at hlay
  rw [if_neg (by rw [hfin]; decide)] at hlay
  have hst9 := (u_facts hfc hkC (u_lays hts f7 f3) hi9).1
  have h6 := u_store hfc hkC hkind hlay hi9 (hty.1 j f3) hn hfit
  refine W.putK hx hb (f := f) ⟨hown, hts _ f4, ⟨_, _, _, hi9⟩, hst9⟩ (by rw [q2]; exact h6) q1 q3 (by rw [hsl]; exact k2_hasslot (q4 j f3)) rfl rfl dd fun H' e1 e2 e3 => ?_
  rw [hsl] at e1 ⊢
  refine k H' _ ls (by rw [e2]; exact a1) (xRp_upd (e' := .inr (ci, (xfl ci t M a).set j (vi x))) (a := a) a2 (by rw [hk]; omega) e2 e3 ⟨_, f1, t_OB.to (V := updV (vp_V (xfl ci t M a)) j (vi x)) ⟨_, e1, q2, q3, t_set q4 hap f3 _⟩ (fun j _ => vp_updV_set (by rw [xfl_len, f6]; exact f3) _ j)⟩ (xE_upI hk f2 hi) rfl (fun _ => rfl) (fun _ => rfl)) a3
theorem xJ_putR {a idx ci j N : Nat} {C : String} {T : u_T} {ty : Nat → FieldType} {x : Option Nat} (h : xC X own nm cc n r d G) (dd : decode cc pc = .ok (.putfield idx, 3)) (hf : xFd own idx ci j C T N) (hty : xFt C T N ty) (hi : (xFr.getD ci [])[j]? = some true) (hfin : (T j).2.2.2 = false) (hn : narrow (ty j) (va_rf x) = va_rf x) (hfit : fits (ty j) (va_rf x) = true) (hk : xk t a = ci) (k : xJ X cells slots (xwr t a j x) M (pc + 3) L st) : xJ X cells slots t M pc L (va_rf x :: vr a :: st) := by
  obtain ⟨p, l, e, R, s, m, args, below, meth, c, G9, Po, Px, mc, ms⟩ := X
  obtain ⟨hx, hb, hml, hown, hts, hr, hlk, hKn, hSs, hnm, hR, hG, hst⟩ := h
  obtain ⟨f1, f2, f3, f4, f5, f6, f7⟩ := hf
  subst hG
  intro H locs ls a1 a2 a3
  have hat := xRp_at a2 (a := a) (by omega)
  rw [xE_obj hk f2] at hat
  obtain ⟨r9, h1, cell, q1, q2, q3, q4⟩ := hat
  have hr9 : r9 = (C, T, N) := Option.some.inj (h1.symm.trans f1)
  subst hr9
  obtain ⟨hS, hfc, kC, hkC, hkind⟩ := hKn.1.1 ci _ f1
  obtain ⟨cf, kf, fi, f, hi9, hsl⟩ := hS j f3
  have hap := va_apart (own := own) hts f7 ty hty.1 hty.2 hKn.1 f1
  have hlay := hts _ (f7 _ (u_in_lay f3))
  unfold u_lay at hlay
  rw [if_neg (by rw [hfin]; decide)] at hlay
  have hst9 := (u_facts hfc hkC (u_lays hts f7 f3) hi9).1
  have h6 := u_store hfc hkC hkind hlay hi9 (hty.1 j f3) hn hfit
  refine W.putK hx hb (f := f) ⟨hown, hts _ f4, ⟨_, _, _, hi9⟩, hst9⟩ (by rw [q2]; exact h6) q1 q3 (by rw [hsl]; exact k2_hasslot (q4 j f3)) rfl rfl dd fun H' e1 e2 e3 => ?_
  rw [hsl] at e1 ⊢
  refine k H' _ ls (by rw [e2]; exact a1) (xRp_upd (e' := .inr (ci, (xfl ci t M a).set j (va_rf x))) (a := a) a2 (by rw [hk]; omega) e2 e3 ⟨_, f1, t_OB.to (V := updV (vp_V (xfl ci t M a)) j (va_rf x)) ⟨_, e1, q2, q3, t_set q4 hap f3 _⟩ (fun j _ => vp_updV_set (by rw [xfl_len, f6]; exact f3) _ j)⟩ (xE_upR hk f2 hi) rfl (fun _ => rfl) (fun _ => rfl)) a3
theorem xJ_putF {a idx ci j N : Nat} {C : String} {T : u_T} {ty : Nat → FieldType} {x : Option Nat} (h : xC X own nm cc n r d G) (dd : decode cc pc = .ok (.putfield idx, 3)) (hf : xFd own idx ci j C T N) (hty : xFt C T N ty) (hi : (xFr.getD ci [])[j]? = some true) (hfin : (T j).2.2.2 = true) (hin2 : nm = "<init>") (hCo : C = own) (hDC : (T j).1 = C) (hn : narrow (ty j) (va_rf x) = va_rf x) (hfit : fits (ty j) (va_rf x) = true) (hk : xk t a = ci) (k : xJ X cells slots (xwr t a j x) M (pc + 3) L st) : xJ X cells slots t M pc L (va_rf x :: vr a :: st) := by
  obtain ⟨p, l, e, R, s, m, args, below, meth, c, G9, Po, Px, mc, ms⟩ := X
  obtain ⟨hx, hb, hml, hown, hts, hr, hlk, hKn, hSs, hnm, hR, hG, hst⟩ := h
  obtain ⟨f1, f2, f3, f4, f5, f6, f7⟩ := hf
  subst hG
  intro H locs ls a1 a2 a3
  have hat := xRp_at a2 (a := a) (by omega)
  rw [xE_obj hk f2] at hat
  obtain ⟨r9, h1, cell, q1, q2, q3, q4⟩ := hat
  have hr9 : r9 = (C, T, N) := Option.some.inj (h1.symm.trans f1)
  subst hr9
  obtain ⟨hS, hfc, kC, hkC, hkind⟩ := hKn.1.1 ci _ f1
  obtain ⟨cf, kf, fi, f, hi9, hsl⟩ := hS j f3
  have hap := va_apart (own := own) hts f7 ty hty.1 hty.2 hKn.1 f1
  have hlay := hts _ (f7 _ (u_in_lay f3))
  unfold u_lay at hlay
  rw [if_pos hfin] at hlay
  have hst9 := (u_facts hfc hkC (u_lays hts f7 f3) hi9).1
  have hcf : m.cls = cf := by
    obtain ⟨_, _, c', _, _, _, -, -, hf', -, -, -, hown2, -⟩ := Cond.laysFinal_spec hlay
    have e1 : c' = cf := by have := hi9.symm.trans hf'; simp at this; exact this.1.symm
    rw [hDC, hCo] at hown2
    rw [← e1]; exact Option.some.inj (hown.symm.trans hown2)
  have h6 := u_fits hfc hkC hkind (Or.inr hlay) hi9 (hty.1 j f3) hn hfit
  refine W.putFinK hx hb hown (hts _ f4) (hi9) hst9 hcf (hnm.trans hin2) (by rw [q2]; exact h6) q1 q3 (by rw [hsl]; exact k2_hasslot (q4 j f3)) rfl rfl dd fun H' e1 e2 e3 => ?_
  rw [hsl] at e1 ⊢
  refine k H' _ ls (by rw [e2]; exact a1) (xRp_upd (e' := .inr (ci, (xfl ci t M a).set j (va_rf x))) (a := a) a2 (by rw [hk]; omega) e2 e3 ⟨_, f1, t_OB.to (V := updV (vp_V (xfl ci t M a)) j (va_rf x)) ⟨_, e1, q2, q3, t_set q4 hap f3 _⟩ (fun j _ => vp_updV_set (by rw [xfl_len, f6]; exact f3) _ j)⟩ (xE_upR hk f2 hi) rfl (fun _ => rfl) (fun _ => rfl)) a3
theorem xJ_iald {a : Nat} {j : Int} (h : xC X own nm cc n r d G) (dd : decode cc pc = .ok (.iaload, 1)) (hk : xk t a = 14) (h0 : 0 ≤ j) (h1 : j < xn t a) (k : xJ X cells slots t M (pc + 1) L (vi (M a j.toNat) :: st)) : xJ X cells slots t M pc L (vi j :: vr a :: st) := by
  obtain ⟨p, l, e, R, s, m, args, below, meth, c, G9, Po, Px, mc, ms⟩ := X
  obtain ⟨hx, hb, hml, hown, hts, hr, hlk, hKn, hSs, hnm, hR, hG, hst⟩ := h
  subst hG
  intro H locs ls a1 a2 a3
  have h3 := a2.2.2.1 a
  have hat := xRp_at a2 (a := a) (by omega)
  rw [xE_int hk (by decide) (by decide)] at hat
  have hin := xI_in h3 h0 h1
  have hlt : j.toNat < xn t a := by omega
  have e1 := (xI_ti h0 (Int.lt_trans h1 (by omega))).1
  exact W.iald (v := vi (M a j.toNat)) hx hb hat ((hKn.1.2 1 _ rfl).1 (xn t a) _) (fun q => by cases q) (by show ¬ (_ ∨ (arrV _ _ _).slots.size ≤ _); rw [arrV_size]; exact hin) (by show (arrV _ _ _).slots[_]? = _; rw [e1, arrV_read _ _ hlt]; rfl) rfl rfl dd (k H locs ls a1 a2 a3)
theorem xJ_bald {a : Nat} {j : Int} (h : xC X own nm cc n r d G) (dd : decode cc pc = .ok (.baload, 1)) (hk : xk t a = 13) (h0 : 0 ≤ j) (h1 : j < xn t a) (k : xJ X cells slots t M (pc + 1) L (vi (M a j.toNat) :: st)) : xJ X cells slots t M pc L (vi j :: vr a :: st) := by
  obtain ⟨p, l, e, R, s, m, args, below, meth, c, G9, Po, Px, mc, ms⟩ := X
  obtain ⟨hx, hb, hml, hown, hts, hr, hlk, hKn, hSs, hnm, hR, hG, hst⟩ := h
  subst hG
  intro H locs ls a1 a2 a3
  have h3 := a2.2.2.1 a
  have hat := xRp_at a2 (a := a) (by omega)
  rw [xE_int hk (by decide) (by decide)] at hat
  have hin := xI_in h3 h0 h1
  have hlt : j.toNat < xn t a := by omega
  have e1 := (xI_ti h0 (Int.lt_trans h1 (by omega))).1
  exact W.bald (v := vi (M a j.toNat)) hx hb hat ((hKn.1.2 0 _ rfl).1 (xn t a) _) (fun q => by cases q) (by show ¬ (_ ∨ (arrV _ _ _).slots.size ≤ _); rw [arrV_size]; exact hin) (by show (arrV _ _ _).slots[_]? = _; rw [e1, arrV_read _ _ hlt]; rfl) rfl rfl dd (k H locs ls a1 a2 a3)
theorem xJ_lald {a : Nat} {j : Int} (h : xC X own nm cc n r d G) (dd : decode cc pc = .ok (.laload, 1)) (hk : xk t a = 15) (h0 : 0 ≤ j) (h1 : j < xn t a) (k : xJ X cells slots t M (pc + 1) L (vl (M a j.toNat) :: st)) : xJ X cells slots t M pc L (vi j :: vr a :: st) := by
  obtain ⟨p, l, e, R, s, m, args, below, meth, c, G9, Po, Px, mc, ms⟩ := X
  obtain ⟨hx, hb, hml, hown, hts, hr, hlk, hKn, hSs, hnm, hR, hG, hst⟩ := h
  subst hG
  intro H locs ls a1 a2 a3
  have h3 := a2.2.2.1 a
  have hat := xRp_at a2 (a := a) (by omega)
  rw [xE_long hk] at hat
  have hin := xI_in h3 h0 h1
  have hlt : j.toNat < xn t a := by omega
  have e1 := (xI_ti h0 (Int.lt_trans h1 (by omega))).1
  exact W.lald (v := vl (M a j.toNat)) hx hb hat ((hKn.1.2 2 _ rfl).1 (xn t a) _) (fun q => by cases q) (by show ¬ (_ ∨ (arrV _ _ _).slots.size ≤ _); rw [arrV_size]; exact hin) (by show (arrV _ _ _).slots[_]? = _; rw [e1, arrV_read _ _ hlt]; rfl) rfl rfl dd (k H locs ls a1 a2 a3)
theorem xJ_aaldW {a : Nat} {j : Int} (h : xC X own nm cc n r d G) (dd : decode cc pc = .ok (.aaload, 1)) (hk : xk t a = 16) (h0 : 0 ≤ j) (h1 : j < xn t a) (k : xJ X cells slots t M (pc + 1) L (va_rf (xr t a j.toNat) :: st)) : xJ X cells slots t M pc L (vi j :: vr a :: st) := by
  obtain ⟨p, l, e, R, s, m, args, below, meth, c, G9, Po, Px, mc, ms⟩ := X
  obtain ⟨hx, hb, hml, hown, hts, hr, hlk, hKn, hSs, hnm, hR, hG, hst⟩ := h
  subst hG
  intro H locs ls a1 a2 a3
  have h3 := a2.2.2.1 a
  have hat := xRp_at a2 (a := a) (by omega)
  rw [xE_ref hk (by decide) (by decide)] at hat
  have hin := xI_in h3 h0 h1
  have hlt : j.toNat < xn t a := by omega
  have e1 := (xI_ti h0 (Int.lt_trans h1 (by omega))).1
  exact W.aald (v := va_rf (xr t a j.toNat)) hx hb hat ((hKn.1.2 3 _ rfl).1 (xn t a) _) rfl (fun q => by cases q) (by show ¬ (_ ∨ (arrV _ _ _).slots.size ≤ _); rw [arrV_size]; exact hin) (by show (arrV _ _ _).slots[_]? = _; rw [e1, arrV_read _ _ hlt]) rfl rfl dd (k H locs ls a1 a2 a3)
theorem xJ_aaldI {a : Nat} {j : Int} (h : xC X own nm cc n r d G) (dd : decode cc pc = .ok (.aaload, 1)) (hk : xk t a = 17) (h0 : 0 ≤ j) (h1 : j < xn t a) (k : xJ X cells slots t M (pc + 1) L (va_rf (xr t a j.toNat) :: st)) : xJ X cells slots t M pc L (vi j :: vr a :: st) := by
  obtain ⟨p, l, e, R, s, m, args, below, meth, c, G9, Po, Px, mc, ms⟩ := X
  obtain ⟨hx, hb, hml, hown, hts, hr, hlk, hKn, hSs, hnm, hR, hG, hst⟩ := h
  subst hG
  intro H locs ls a1 a2 a3
  have h3 := a2.2.2.1 a
  have hat := xRp_at a2 (a := a) (by omega)
  rw [xE_ref hk (by decide) (by decide)] at hat
  have hin := xI_in h3 h0 h1
  have hlt : j.toNat < xn t a := by omega
  have e1 := (xI_ti h0 (Int.lt_trans h1 (by omega))).1
  exact W.aald (v := va_rf (xr t a j.toNat)) hx hb hat ((hKn.1.2 4 _ rfl).1 (xn t a) _) rfl (fun q => by cases q) (by show ¬ (_ ∨ (arrV _ _ _).slots.size ≤ _); rw [arrV_size]; exact hin) (by show (arrV _ _ _).slots[_]? = _; rw [e1, arrV_read _ _ hlt]) rfl rfl dd (k H locs ls a1 a2 a3)
theorem xJ_aaldD {a : Nat} {j : Int} (h : xC X own nm cc n r d G) (dd : decode cc pc = .ok (.aaload, 1)) (hk : xk t a = 18) (h0 : 0 ≤ j) (h1 : j < xn t a) (k : xJ X cells slots t M (pc + 1) L (va_rf (xr t a j.toNat) :: st)) : xJ X cells slots t M pc L (vi j :: vr a :: st) := by
  obtain ⟨p, l, e, R, s, m, args, below, meth, c, G9, Po, Px, mc, ms⟩ := X
  obtain ⟨hx, hb, hml, hown, hts, hr, hlk, hKn, hSs, hnm, hR, hG, hst⟩ := h
  subst hG
  intro H locs ls a1 a2 a3
  have h3 := a2.2.2.1 a
  have hat := xRp_at a2 (a := a) (by omega)
  rw [xE_ref hk (by decide) (by decide)] at hat
  have hin := xI_in h3 h0 h1
  have hlt : j.toNat < xn t a := by omega
  have e1 := (xI_ti h0 (Int.lt_trans h1 (by omega))).1
  exact W.aald (v := va_rf (xr t a j.toNat)) hx hb hat ((hKn.1.2 5 _ rfl).1 (xn t a) _) rfl (fun q => by cases q) (by show ¬ (_ ∨ (arrV _ _ _).slots.size ≤ _); rw [arrV_size]; exact hin) (by show (arrV _ _ _).slots[_]? = _; rw [e1, arrV_read _ _ hlt]) rfl rfl dd (k H locs ls a1 a2 a3)
theorem xJ_iast {a : Nat} {j x : Int} (h : xC X own nm cc n r d G) (dd : decode cc pc = .ok (.iastore, 1)) (hk : xk t a = 14) (h0 : 0 ≤ j) (h1 : j < xn t a) (k : xJ X cells slots t (xw M a j.toNat x) (pc + 1) L st) : xJ X cells slots t M pc L (vi x :: vi j :: vr a :: st) := by
  obtain ⟨p, l, e, R, s, m, args, below, meth, c, G9, Po, Px, mc, ms⟩ := X
  obtain ⟨hx, hb, hml, hown, hts, hr, hlk, hKn, hSs, hnm, hR, hG, hst⟩ := h
  subst hG
  intro H locs ls a1 a2 a3
  have h3 := a2.2.2.1 a
  have hat := xRp_at a2 (a := a) (by omega)
  rw [xE_int hk (by decide) (by decide)] at hat
  have hat : H[a]? = some (arrV (G9.2.1 1) (xn t a) (fun i => .int (Int32.ofInt (M a i)))) := hat
  have hin := xI_in h3 h0 h1
  have hlt : j.toNat < xn t a := by omega
  have e1 := (xI_ti h0 (Int.lt_trans h1 (by omega))).1
  refine W.iast hx hb hat ((hKn.1.2 1 _ rfl).1 (xn t a) _) (fun q => by cases q) (by show ¬ (_ ∨ (arrV _ _ _).slots.size ≤ _); rw [arrV_size]; exact hin) rfl rfl dd fun H1 e z oq => ?_
  rw [e1] at e ⊢
  refine k H1 _ ls (by rw [z]; exact a1) (xRp_upd (e' := .inl (G9.2.1 1, xn t a, .inl (upd (fun i => Int32.ofInt (M a i)) j.toNat (Int32.ofInt x)))) (a := a) a2 (by omega) z oq ?_ (xE_upA hk (by decide) (by decide)) rfl (fun _ => rfl) (fun _ => rfl)) a3
  show H1[a]? = some (arrV (G9.2.1 1) (xn t a) (fun i => .int (upd (fun i => Int32.ofInt (M a i)) j.toNat (Int32.ofInt x) i)))
  rw [e, arrV_store]
  congr 2
  funext q
  by_cases hq : q = j.toNat
  · subst hq
    simp [updV, upd]
  · simp [updV, upd, hq]
theorem xJ_last {a : Nat} {j x : Int} (h : xC X own nm cc n r d G) (dd : decode cc pc = .ok (.lastore, 1)) (hk : xk t a = 15) (h0 : 0 ≤ j) (h1 : j < xn t a) (k : xJ X cells slots t (xw M a j.toNat x) (pc + 1) L st) : xJ X cells slots t M pc L (vl x :: vi j :: vr a :: st) := by
  obtain ⟨p, l, e, R, s, m, args, below, meth, c, G9, Po, Px, mc, ms⟩ := X
  obtain ⟨hx, hb, hml, hown, hts, hr, hlk, hKn, hSs, hnm, hR, hG, hst⟩ := h
  subst hG
  intro H locs ls a1 a2 a3
  have h3 := a2.2.2.1 a
  have hat := xRp_at a2 (a := a) (by omega)
  rw [xE_long hk] at hat
  have hat : H[a]? = some (arrV (G9.2.1 2) (xn t a) (fun i => .long (Int64.ofInt (M a i)))) := hat
  have hin := xI_in h3 h0 h1
  have hlt : j.toNat < xn t a := by omega
  have e1 := (xI_ti h0 (Int.lt_trans h1 (by omega))).1
  refine W.last hx hb hat ((hKn.1.2 2 _ rfl).1 (xn t a) _) (fun q => by cases q) (by show ¬ (_ ∨ (arrV _ _ _).slots.size ≤ _); rw [arrV_size]; exact hin) rfl rfl dd fun H1 e z oq => ?_
  rw [e1] at e ⊢
  refine k H1 _ ls (by rw [z]; exact a1) (xRp_upd (e' := .inl (G9.2.1 2, xn t a, .inr (.inl (vp_updL (fun i => Int64.ofInt (M a i)) j.toNat (Int64.ofInt x))))) (a := a) a2 (by omega) z oq ?_ (xE_upL hk) rfl (fun _ => rfl) (fun _ => rfl)) a3
  show H1[a]? = some (arrV (G9.2.1 2) (xn t a) (fun i => .long (vp_updL (fun i => Int64.ofInt (M a i)) j.toNat (Int64.ofInt x) i)))
  rw [e, arrV_store]
  congr 2
  funext q
  by_cases hq : q = j.toNat
  · subst hq
    simp [updV, vp_updL]
  · simp [updV, vp_updL, hq]
theorem xJ_bast {a : Nat} {j x : Int} (h : xC X own nm cc n r d G) (dd : decode cc pc = .ok (.bastore, 1)) (hk : xk t a = 13) (h0 : 0 ≤ j) (h1 : j < xn t a) (hby : narrow .byte (vi x) = vi x) (k : xJ X cells slots t (xw M a j.toNat x) (pc + 1) L st) : xJ X cells slots t M pc L (vi x :: vi j :: vr a :: st) := by
  obtain ⟨p, l, e, R, s, m, args, below, meth, c, G9, Po, Px, mc, ms⟩ := X
  obtain ⟨hx, hb, hml, hown, hts, hr, hlk, hKn, hSs, hnm, hR, hG, hst⟩ := h
  subst hG
  intro H locs ls a1 a2 a3
  have h3 := a2.2.2.1 a
  have hat := xRp_at a2 (a := a) (by omega)
  rw [xE_int hk (by decide) (by decide)] at hat
  have hat : H[a]? = some (arrV (G9.2.1 0) (xn t a) (fun i => .int (Int32.ofInt (M a i)))) := hat
  have hin := xI_in h3 h0 h1
  have hlt : j.toNat < xn t a := by omega
  have e1 := (xI_ti h0 (Int.lt_trans h1 (by omega))).1
  refine W.bast hx hb hat ((hKn.1.2 0 _ rfl).1 (xn t a) _) (fun q => by cases q) (by show ¬ (_ ∨ (arrV _ _ _).slots.size ≤ _); rw [arrV_size]; exact hin) rfl rfl dd fun H1 e z oq => ?_
  rw [e1] at e ⊢
  refine k H1 _ ls (by rw [z]; exact a1) (xRp_upd (e' := .inl (G9.2.1 0, xn t a, .inl (upd (fun i => Int32.ofInt (M a i)) j.toNat (Int32.ofInt x)))) (a := a) a2 (by omega) z oq ?_ (xE_upA hk (by decide) (by decide)) rfl (fun _ => rfl) (fun _ => rfl)) a3
  show H1[a]? = some (arrV (G9.2.1 0) (xn t a) (fun i => .int (upd (fun i => Int32.ofInt (M a i)) j.toNat (Int32.ofInt x) i)))
  rw [e, show narrow .byte (.int (Int32.ofInt x)) = .int (Int32.ofInt x) from hby, arrV_store]
  congr 2
  funext q
  by_cases hq : q = j.toNat
  · subst hq
    simp [updV, upd]
  · simp [updV, upd, hq]
theorem xJ_alen {a : Nat} (h : xC X own nm cc n r d G) (dd : decode cc pc = .ok (.arraylength, 1)) (hk1 : 13 ≤ xk t a) (hk2 : xk t a ≤ 18) (k : xJ X cells slots t M (pc + 1) L (vi (xn t a) :: st)) : xJ X cells slots t M pc L (vr a :: st) := by
  obtain ⟨p, l, e, R, s, m, args, below, meth, c, G9, Po, Px, mc, ms⟩ := X
  obtain ⟨hx, hb, hml, hown, hts, hr, hlk, hKn, hSs, hnm, hR, hG, hst⟩ := h
  subst hG
  intro H locs ls a1 a2 a3
  obtain ⟨b1, b2, b3, Ld, b4, b5, b6⟩ := id a2
  obtain ⟨q0, hq0⟩ := va_pl_get (X := []) (f := xE G9.2.1 t M) ((b4 a).mpr (by omega))
  have k' := k H locs ls a1 a2 a3
  have hv : ∀ z : vp_A, z.1 = xn t a → Int32.ofNat z.1 = Int32.ofInt (xn t a : Int) := fun z hz => by rw [hz]; exact (Int32.ofInt_eq_ofNat).symm
  rcases (show xk t a = 13 ∨ xk t a = 14 ∨ xk t a = 15 ∨ xk t a = 16 ∨ xk t a = 17 ∨ xk t a = 18 by omega) with e | e | e | e | e | e
  · rw [xE_int e (by decide) (by decide)] at hq0
    exact va_alen (D := G9.1) (cl := vwCl) (tys := xTys G9) hx hb hKn.1 b5 q0 0 hq0 rfl (hv _ rfl) dd k'
  · rw [xE_int e (by decide) (by decide)] at hq0
    exact va_alen (D := G9.1) (cl := vwCl) (tys := xTys G9) hx hb hKn.1 b5 q0 1 hq0 rfl (hv _ rfl) dd k'
  · rw [xE_long e] at hq0
    exact va_alen (D := G9.1) (cl := vwCl) (tys := xTys G9) hx hb hKn.1 b5 q0 2 hq0 rfl (hv _ rfl) dd k'
  · rw [xE_ref e (by decide) (by decide)] at hq0
    exact va_alen (D := G9.1) (cl := vwCl) (tys := xTys G9) hx hb hKn.1 b5 q0 3 hq0 rfl (hv _ rfl) dd k'
  · rw [xE_ref e (by decide) (by decide)] at hq0
    exact va_alen (D := G9.1) (cl := vwCl) (tys := xTys G9) hx hb hKn.1 b5 q0 4 hq0 rfl (hv _ rfl) dd k'
  · rw [xE_ref e (by decide) (by decide)] at hq0
    exact va_alen (D := G9.1) (cl := vwCl) (tys := xTys G9) hx hb hKn.1 b5 q0 5 hq0 rfl (hv _ rfl) dd k'
end XH
