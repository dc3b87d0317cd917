/-! EACH METHOD AS A PREDICATE: p_<method> .. M Q says: it runs from M without a fault, and what it answers (r) and leaves (M') is in Q; c_<method>: its bytecode does so. Written by program out of the listing (wip/whole/gen/pgen.py). -/
/-- all numbers in the memory are ints -/
def xSl (i : Nat) : Int := (xLe.getD i 0 : Nat)
def xSc (i j : Nat) : Int := (((xBy.getD i []).getD j 0).toInt)
theorem xS_all : ∀ i : Fin 31, (xLe.getD i 0 < 100 ∧ (xBy.getD i []).all (fun b => decide (32 ≤ b.toInt ∧ b.toInt < 127)) = true) := by decide +kernel
theorem xSl_R (i : Nat) : xR (xSl i) := by
  unfold xSl
  have : xLe.getD i 0 < 100 := by
    by_cases h : i < 31
    · exact (xS_all ⟨i, h⟩).1
    · rw [List.getD_eq_getElem?_getD, List.getElem?_eq_none (by show 31 ≤ i; omega)]; decide
  exact ⟨by omega, by omega⟩
theorem xSc_R (i j : Nat) : xR (xSc i j) := by
  unfold xSc
  have h1 := Int32.le_toInt ((xBy.getD i []).getD j 0)
  have h2 := Int32.toInt_lt ((xBy.getD i []).getD j 0)
  exact ⟨by simpa using h1, by simpa using h2⟩
theorem xtoN {j : Int} {N : Nat} (h0 : 0 ≤ j) (h1 : j < (N : Int)) : j.toNat < N := by omega
def xMR (M : xMe) : Prop := ∀ b j, xR (M b j)
theorem xMR_w {M : xMe} {a k : Nat} {v : Int} (h : xMR M) (hv : xR v) : xMR (xw M a k v) := fun b j => by
  unfold xw; split
  · exact hv
  · exact h b j
theorem xMR_cp {M : xMe} {a0 a sp dp n : Nat} (h : xMR M) : xMR (xcp M a0 a sp dp n) := fun b j => by
  unfold xcp; split
  · split
    · exact h _ _
    · exact h _ _
  · exact h b j
theorem xRl_of {x : Int} (h : xR x) : xRl x := ⟨by have := h.1; omega, by have := h.2; omega⟩
theorem xR_mod {x : Int} (k : Nat) (hk : k ≤ 31) : xR (x % 2 ^ k) := by
  have h0 : (0 : Int) < 2 ^ k := Int.pow_pos (by decide)
  have h1 := Int.emod_nonneg x (show (2 : Int) ^ k ≠ 0 by omega)
  have h2 := Int.emod_lt_of_pos x h0
  have h3 : (2 : Nat) ^ k ≤ 2 ^ 31 := Nat.pow_le_pow_right (by decide) hk
  have h4 : ((2 ^ k : Nat) : Int) ≤ ((2 ^ 31 : Nat) : Int) := Int.ofNat_le.mpr h3
  rw [Int.natCast_pow, Int.natCast_pow] at h4
  refine ⟨by omega, ?_⟩
  have h5 : ((2 : Nat) : Int) ^ 31 = 2147483648 := by decide
  have h6 : ((2 : Nat) : Int) ^ k = 2 ^ k := rfl
  omega
theorem xR_shr {x : Int} (hx : xR x) (s : Nat) : xR (x / 2 ^ s) := by
  have h0 : (0 : Int) < 2 ^ s := Int.pow_pos (by decide)
  obtain ⟨a, b⟩ := hx
  refine ⟨?_, ?_⟩
  · rw [Int.le_ediv_iff_mul_le h0]
    have : (-2147483648 : Int) * 2 ^ s ≤ -2147483648 * 1 := Int.mul_le_mul_of_nonpos_left (by decide) (by omega)
    omega
  · rcases Int.le_total 0 x with q | q
    · exact Int.lt_of_le_of_lt (Int.ediv_le_self _ q) b
    · have : x / 2 ^ s ≤ 0 := by have := Int.ediv_le_ediv h0 q; rwa [Int.zero_ediv] at this
      omega
theorem xR_bm (x : Int) : xR (Int.bmod x 256) := by
  have h1 : x.bmod 256 < 128 := Int.bmod_lt (by decide)
  have h2 : -128 ≤ x.bmod 256 := Int.le_bmod (by decide)
  exact ⟨by omega, by omega⟩
theorem xR_cmp (x y : Int) : xR (xcmp x y) := by
  unfold xcmp; split
  · exact ⟨by decide, by decide⟩
  · split <;> exact ⟨by decide, by decide⟩
theorem xR_max {x y : Int} (h : xR x) (g : xR y) : xR (max x y) := ⟨by have := h.1; omega, by have := h.2; have := g.2; omega⟩
theorem xR_min {x y : Int} (h : xR x) (g : xR y) : xR (min x y) := ⟨by have := h.1; have := g.1; omega, by have := h.2; omega⟩
theorem xRl_max {x y : Int} (h : xRl x) (g : xRl y) : xRl (max x y) := ⟨by have := h.1; omega, by have := h.2; have := g.2; omega⟩
theorem xRl_min {x y : Int} (h : xRl x) (g : xRl y) : xRl (min x y) := ⟨by have := h.1; have := g.1; omega, by have := h.2; omega⟩
theorem xnz {x : Int} (h : x = 0 ∨ x = 1) : narrow .boolean (vi x) = vi x := by rcases h with rfl | rfl <;> rfl
theorem xfz {x : Int} (h : x = 0 ∨ x = 1) : fits .boolean (vi x) = true := by rcases h with rfl | rfl <;> rfl
theorem xny {x : Int} (h1 : -128 ≤ x) (h2 : x < 128) : narrow .byte (vi x) = vi x := by
  show Value.int ((Int32.ofInt x).toInt8.toInt32) = _
  rw [xI_i2b, show x.bmod 256 = x from Int.bmod_eq_of_le (by omega) (by omega)]
  rfl
/-- a local is forgotten -/
theorem xJ_fg {X : xCx} {cells slots : Nat} {t : xTh} {M : xMe} {pc : Nat} {L st : List Value} (i : Nat) (k : xJ X cells slots t M pc (L.set i vU) st) : xJ X cells slots t M pc L st := by
  obtain ⟨p, l, e, R, s, m, args, below, meth, c, G, Po, Px, mc, ms⟩ := X
  intro H locs ls a1 a2 a3
  refine k H locs ls a1 a2 ⟨by rw [List.length_set]; exact a3.1, a3.2.1, fun j v hj hv => ?_⟩
  by_cases e : i = j
  · subst e
    by_cases hl : i < L.length
    · rw [List.getElem?_set_self hl] at hj
      cases hj
      exact absurd rfl (hv 0)
    · rw [List.getElem?_eq_none (by rw [List.length_set]; omega)] at hj
      cases hj
  · rw [List.getElem?_set_ne e] at hj
    exact a3.2.2 j v hj hv
theorem xJ_ishrI {X : xCx} {own nm : String} {cc : ByteArray} {n d : Nat} {r : Option FieldType} {G : xGx} {cells slots : Nat} {t : xTh} {M : xMe} {pc : Nat} {L st : List Value} {x y : Int} (h : xC X own nm cc n r d G) (dd : decode cc pc = .ok (.ishr, 1)) (hxx : xR x) (h0 : 0 ≤ y) (h1 : y < 32) (k : xJ X cells slots t M (pc + 1) L (vi (x / 2 ^ y.toNat) :: st)) : xJ X cells slots t M pc L (vi y :: vi x :: st) := by
  obtain ⟨s, rfl⟩ := Int.eq_ofNat_of_zero_le h0
  rw [Int.toNat_natCast] at k
  exact xJ_ishr h dd hxx (by omega) k
section XST
variable {X : xCx} {own nm : String} {cc : ByteArray} {n d : Nat} {r : Option FieldType} {G : xGx} {cells slots mc ms : Nat} {t : xTh} {M : xMe} {pc : Nat} {L st : List Value} {Po : Option Value → xTh → xMe → Prop} {Px : String → xTh → xMe → Prop}
theorem xJ_aaldIb {a b : Nat} {j : Int} (h : xC X own nm cc n r d G) (dd : decode cc pc = .ok (.aaload, 1)) (hk : xk t a = 17) (h0 : 0 ≤ j) (h1 : j < xn t a) (hb : xr t a j.toNat = some b) (k : xJ X cells slots t M (pc + 1) L (vr b :: st)) : xJ X cells slots t M pc L (vi j :: vr a :: st) := by
  refine xJ_aaldI h dd hk h0 h1 ?_
  rw [hb]
  exact k
end XST
section XMM
variable {X : xCx} {own nm : String} {cc : ByteArray} {n d : Nat} {r : Option FieldType} {G : xGx} {cells slots mc ms : Nat} {t : xTh} {M : xMe} {pc : Nat} {L st : List Value} {Po : Option Value → xTh → xMe → Prop} {Px : String → xTh → xMe → Prop}
theorem xJ_putIM {a idx ci j N : Nat} {C : String} {T : u_T} {ty : Nat → FieldType} {x : Int} (h : xC X own nm cc n r d G) (dd : decode cc pc = .ok (.putfield idx, 3)) (hf : xFd own idx ci j C T N) (hty : xFt C T N ty) (hi : (xFr.getD ci [])[j]? = some false) (hfin : (T j).2.2.2 = false) (hn : narrow (ty j) (vi x) = vi x) (hfit : fits (ty j) (vi x) = true) (hk : xk t a = ci) (hM : xMR M) (hv : xR x) (k : ∀ M', M' = xw M a j x → xMR M' → xJ X cells slots t M' (pc + 3) L st) : xJ X cells slots t M pc L (vi x :: vr a :: st) :=
  xJ_putI h dd hf hty hi hfin hn hfit hk (k _ rfl (xMR_w hM hv))
theorem xJ_iastM {a : Nat} {j x : Int} (h : xC X own nm cc n r d G) (dd : decode cc pc = .ok (.iastore, 1)) (hk : xk t a = 14) (h0 : 0 ≤ j) (h1 : j < xn t a) (hM : xMR M) (hv : xR x) (k : ∀ M', M' = xw M a j.toNat x → xMR M' → xJ X cells slots t M' (pc + 1) L st) : xJ X cells slots t M pc L (vi x :: vi j :: vr a :: st) :=
  xJ_iast h dd hk h0 h1 (k _ rfl (xMR_w hM hv))
theorem xJ_lastM {a : Nat} {j x : Int} (h : xC X own nm cc n r d G) (dd : decode cc pc = .ok (.lastore, 1)) (hk : xk t a = 15) (h0 : 0 ≤ j) (h1 : j < xn t a) (hM : xMR M) (hv : xR x) (k : ∀ M', M' = xw M a j.toNat x → xMR M' → xJ X cells slots t M' (pc + 1) L st) : xJ X cells slots t M pc L (vl x :: vi j :: vr a :: st) :=
  xJ_last h dd hk h0 h1 (k _ rfl (xMR_w hM hv))
theorem xJ_bastM {a : Nat} {j x : Int} (h : xC X own nm cc n r d G) (dd : decode cc pc = .ok (.bastore, 1)) (hk : xk t a = 13) (h0 : 0 ≤ j) (h1 : j < xn t a) (hby : narrow .byte (vi x) = vi x) (hM : xMR M) (hv : xR x) (k : ∀ M', M' = xw M a j.toNat x → xMR M' → xJ X cells slots t M' (pc + 1) L st) : xJ X cells slots t M pc L (vi x :: vi j :: vr a :: st) :=
  xJ_bast h dd hk h0 h1 hby (k _ rfl (xMR_w hM hv))
theorem xJ_copyM {idx a0 a : Nat} {sp dp nn : Int} (h : xC X own nm cc n r d G) (hB : xB X mc ms Po Px) (dd : decode cc pc = .ok (.invokestatic idx, 3)) (hl : Cond.methodLink own idx arraycopyName ∈ xT) (hnat : Cond.native arraycopyName ∈ xT) (hsta : Cond.static arraycopyName ∈ xT) (hini : Cond.initialized "java/lang/System" ∈ xT) (hLn : L.length = n) (hd : 1 ≤ d) (hst8 : (st.map fun v => v.category).sum ≤ 8) (hk0 : xk t a0 = 14) (hk : xk t a = 14) (h1 : 0 ≤ sp) (h2 : 0 ≤ dp) (h3 : 0 ≤ nn) (h4 : sp + nn ≤ xn t a0) (h5 : dp + nn ≤ xn t a) (hM : xMR M) (k : ∀ M', M' = xcp M a0 a sp.toNat dp.toNat nn.toNat → xMR M' → xJ X cells slots t M' (pc + 3) L st) : xJ X cells slots t M pc L (vi nn :: vi dp :: vr a :: vi sp :: vr a0 :: st) :=
  xJ_copy h hB dd hl hnat hsta hini hLn hd hst8 hk0 hk h1 h2 h3 h4 h5 (k _ rfl (xMR_cp hM))
end XMM
theorem xJ_ishlI {X : xCx} {own nm : String} {cc : ByteArray} {n d : Nat} {r : Option FieldType} {G : xGx} {cells slots : Nat} {t : xTh} {M : xMe} {pc : Nat} {L st : List Value} {y : Int} (h : xC X own nm cc n r d G) (dd : decode cc pc = .ok (.ishl, 1)) (h0 : 0 ≤ y) (h1 : y < 31) (k : xJ X cells slots t M (pc + 1) L (vi ((2 ^ y.toNat : Nat) : Int) :: st)) : xJ X cells slots t M pc L (vi y :: vi 1 :: st) := by
  obtain ⟨s, rfl⟩ := Int.eq_ofNat_of_zero_le h0
  rw [Int.toNat_natCast] at k
  exact xJ_ishl1 h dd (by omega) k
theorem xJ_iorI {X : xCx} {own nm : String} {cc : ByteArray} {n d : Nat} {r : Option FieldType} {G : xGx} {cells slots : Nat} {t : xTh} {M : xMe} {pc : Nat} {L st : List Value} {x y : Int} (h : xC X own nm cc n r d G) (dd : decode cc pc = .ok (.ior, 1)) (h0 : 0 ≤ x) (h1 : x < 8) (g0 : 0 ≤ y) (g1 : y < 8) (k : xJ X cells slots t M (pc + 1) L (vi ((x.toNat ||| y.toNat : Nat) : Int) :: st)) : xJ X cells slots t M pc L (vi y :: vi x :: st) := by
  obtain ⟨s, rfl⟩ := Int.eq_ofNat_of_zero_le h0
  obtain ⟨u, rfl⟩ := Int.eq_ofNat_of_zero_le g0
  rw [Int.toNat_natCast, Int.toNat_natCast] at k
  exact xJ_ior8 h dd (by omega) (by omega) k
theorem xR_p2 {y : Int} (h0 : 0 ≤ y) (h1 : y < 31) : xR ((2 ^ y.toNat : Nat) : Int) := by
  have h : 2 ^ y.toNat ≤ 2 ^ 30 := Nat.pow_le_pow_right (by decide) (by omega)
  have h2 : (2 : Nat) ^ 30 = 1073741824 := by decide
  rw [h2] at h
  generalize 2 ^ y.toNat = z at h ⊢
  exact ⟨by omega, by omega⟩
theorem xR_o8 {x y : Int} (h0 : 0 ≤ x) (h1 : x < 8) (g0 : 0 ≤ y) (g1 : y < 8) : xR ((x.toNat ||| y.toNat : Nat) : Int) := by
  have h : x.toNat ||| y.toNat < 2 ^ 3 := Nat.or_lt_two_pow (by omega) (by omega)
  generalize x.toNat ||| y.toNat = z at h ⊢
  exact ⟨by omega, by omega⟩
/-- a price: its code and its stack -/
def oX7 (t : xTh) (a qc qs nq : Nat) : Prop := xk t a = 7 ∧ xr t a 0 = some qc ∧ xk t qc = 14 ∧ xn t qc = nq ∧ xr t a 1 = some qs ∧ xk t qs = 14 ∧ xn t qs = 11 ∧ xR (nq : Int)
theorem oX7_k {t : xTh} {a qc qs nq : Nat} (h : oX7 t a qc qs nq) : xk t a = 7 := h.1
theorem oX7_rc {t : xTh} {a qc qs nq : Nat} (h : oX7 t a qc qs nq) : xr t a 0 = some qc := h.2.1
theorem oX7_kc {t : xTh} {a qc qs nq : Nat} (h : oX7 t a qc qs nq) : xk t qc = 14 := h.2.2.1
theorem oX7_nc {t : xTh} {a qc qs nq : Nat} (h : oX7 t a qc qs nq) : xn t qc = nq := h.2.2.2.1
theorem oX7_rs {t : xTh} {a qc qs nq : Nat} (h : oX7 t a qc qs nq) : xr t a 1 = some qs := h.2.2.2.2.1
theorem oX7_ks {t : xTh} {a qc qs nq : Nat} (h : oX7 t a qc qs nq) : xk t qs = 14 := h.2.2.2.2.2.1
theorem oX7_nR {t : xTh} {a qc qs nq : Nat} (h : oX7 t a qc qs nq) : xR (nq : Int) := h.2.2.2.2.2.2.2
theorem oX7_ns {t : xTh} {a qc qs nq : Nat} (h : oX7 t a qc qs nq) : xn t qs = 11 := h.2.2.2.2.2.2.1
