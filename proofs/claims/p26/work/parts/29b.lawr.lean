/-- the script, as the law's start found it -/
def xScr (X : xCx) (b L : Nat) (xs : Nat → Int32) : Prop := match X with
  | (p, l, e, R, s, m, args, below, meth, c, G, Po, Px, mc, ms) => va_X b L xs s s.heap ∧ b < s.heap.size ∧ ¬ xA G b
section XLW
variable {X : xCx} {own nm : String} {cc : ByteArray} {n d : Nat} {r : Option FieldType} {G : xGx} {cells slots mc ms : Nat} {t : xTh} {M : xMe} {pc : Nat} {L st : List Value} {Po : Option Value → xTh → xMe → Prop} {Px : String → xTh → xMe → Prop} {b N : Nat} {xs : Nat → Int32}
theorem xJ_scr {j : Int} (h : xC X own nm cc n r d G) (hS : xScr X b N xs) (hN : N ≤ 260) (dd : decode cc pc = .ok (.iaload, 1)) (h0 : 0 ≤ j) (h1 : j < N) (k : xJ X cells slots t M (pc + 1) L (vi (xs j.toNat).toInt :: st)) : xJ X cells slots t M pc L (vi j :: vr b :: st) := by
  obtain ⟨p, l, e, R, s, m, args, below, meth, c, G9, Po9, Px9, mc9, ms9⟩ := X
  obtain ⟨hx, hb, hml, hown, hts, hr, hlk, hKn, hSs, hnm, rfl, rfl, hst⟩ := h
  intro H locs ls a1 a2 a3
  obtain ⟨e1, e2⟩ := xI_ti (j := j) h0 (by omega)
  refine va_sld hx hb hS.1 hS.2.1 hS.2.2 (xSw hSs a1 a2.1) ?_ dd ?_
  · rintro (q | q)
    · exact e2 q
    · rw [e1] at q; omega
  · rw [e1]
    have k' := k H locs ls a1 a2 a3
    rw [show vi (xs j.toNat).toInt = Value.int (xs j.toNat) from congrArg Value.int (Int32.ofInt_toInt _)] at k'
    exact k'
theorem xJ_scl (h : xC X own nm cc n r d G) (hS : xScr X b N xs) (dd : decode cc pc = .ok (.arraylength, 1)) (k : xJ X cells slots t M (pc + 1) L (vi (N : Int) :: st)) : xJ X cells slots t M pc L (vr b :: st) := by
  obtain ⟨p, l, e, R, s, m, args, below, meth, c, G9, Po9, Px9, mc9, ms9⟩ := X
  obtain ⟨hx, hb, hml, hown, hts, hr, hlk, hKn, hSs, hnm, rfl, rfl, hst⟩ := h
  intro H locs ls a1 a2 a3
  refine va_slen hx hb hS.1 hS.2.1 hS.2.2 (xSw hSs a1 a2.1) dd ?_
  have k' := k H locs ls a1 a2 a3
  rw [show vi (N : Int) = Value.int (Int32.ofNat N) from congrArg Value.int Int32.ofInt_eq_ofNat] at k'
  exact k'
end XLW
theorem xR_32 (x : Int32) : xR x.toInt := ⟨Int32.le_toInt x, Int32.toInt_lt x⟩
theorem xke_ini {t t' : xTh} {a : Nat} (hl : xlive t) (hs : xsm t t' 0 a) (hz : xz t = a + 1) (hk : xk t a = 11) (hW : oX11W t' a) : xke t t' := by
  intro b hb
  have := hl b hb
  by_cases e : b = a
  · subst e
    exact ⟨(oX11_k hW.1).trans hk.symm, fun q => by omega⟩
  · have h := hs b (Nat.zero_le _) (by omega) hb
    exact ⟨h.1, fun _ => h.2.1⟩
theorem xI_shl (x : Int) (s : Nat) (hs : s < 32) : Int32.ofInt x <<< Int32.ofInt (s : Int) = Int32.ofInt (x * 2 ^ s) := by
  apply Int32.toBitVec.inj
  have e := (by decide +kernel : ∀ q : Fin 32, ((Int32.ofInt ((q : Nat) : Int)).toBitVec.smod 32) = BitVec.ofNat 32 q) ⟨s, hs⟩
  rw [Int32.toBitVec_shiftLeft, e]
  show (BitVec.ofInt 32 x) <<< (BitVec.ofNat 32 s) = BitVec.ofInt 32 (x * 2 ^ s)
  have e2 : (BitVec.ofNat 32 s).toNat = s := by rw [BitVec.toNat_ofNat]; exact Nat.mod_eq_of_lt (by omega)
  rw [BitVec.shiftLeft_eq', e2, BitVec.shiftLeft_eq_mul_twoPow, BitVec.ofInt_mul]
  congr 1
  apply BitVec.eq_of_toNat_eq
  rw [BitVec.toNat_twoPow, BitVec.toNat_ofInt]
  have h2 : (2 : Int) ^ s = ((2 ^ s : Nat) : Int) := by rw [Int.natCast_pow]; rfl
  rw [h2]
  omega
theorem xI_orA {a b j : Nat} (hj : j ≤ 31) (h1 : (a : Int) % 2 ^ j = 0) (g1 : (b : Int) < 2 ^ j) (hR : xR ((a : Int) + b)) : Int32.ofInt (a : Int) ||| Int32.ofInt (b : Int) = Int32.ofInt ((a : Int) + b) := by
  have h2 : (2 : Int) ^ j = ((2 ^ j : Nat) : Int) := by rw [Int.natCast_pow]; rfl
  rw [h2] at h1 g1
  have hb : b < 2 ^ j := by omega
  have ha : a % 2 ^ j = 0 := by omega
  have hs := hR.2
  apply Int32.toBitVec.inj
  rw [Int32.toBitVec_or]
  show BitVec.ofInt 32 (a : Int) ||| BitVec.ofInt 32 (b : Int) = BitVec.ofInt 32 ((a : Int) + b)
  have e : ((a : Int) + b) = ((a + b : Nat) : Int) := by omega
  rw [e, BitVec.ofInt_natCast, BitVec.ofInt_natCast, BitVec.ofInt_natCast]
  apply BitVec.eq_of_toNat_eq
  rw [BitVec.toNat_or, BitVec.toNat_ofNat, BitVec.toNat_ofNat, BitVec.toNat_ofNat, Nat.mod_eq_of_lt (by omega), Nat.mod_eq_of_lt (by omega), Nat.mod_eq_of_lt (by omega)]
  obtain ⟨c, rfl⟩ := Nat.dvd_of_mod_eq_zero ha
  exact (Nat.two_pow_add_eq_or_of_lt hb c).symm
section XLZ
variable {X : xCx} {own nm : String} {cc : ByteArray} {n d : Nat} {r : Option FieldType} {G : xGx} {cells slots : Nat} {t : xTh} {M : xMe} {pc : Nat} {L st : List Value}
theorem xJ_ishlA {x y : Int} (h : xC X own nm cc n r d G) (dd : decode cc pc = .ok (.ishl, 1)) (h0 : 0 ≤ y) (h1 : y < 32) (k : xJ X cells slots t M (pc + 1) L (vi (x * 2 ^ y.toNat) :: st)) : xJ X cells slots t M pc L (vi y :: vi x :: st) := by
  obtain ⟨s, rfl⟩ := Int.eq_ofNat_of_zero_le h0
  rw [Int.toNat_natCast] at k
  obtain ⟨p, l, e, R, s9, m, args, below, meth, c, G9, Po, Px, mc, ms⟩ := X
  obtain ⟨hx, hb, hml, hown, hts, hr, hlk, hKn, hSs, hnm, hR, hG, hst⟩ := h
  intro H locs ls a1 a2 a3
  have k' := k H locs ls a1 a2 a3
  have e : Int32.ofInt (x * 2 ^ s) = Int32.ofInt x <<< (Int32.ofInt (s : Int) &&& 31) := by
    have hm : (Int32.ofInt (s : Int) &&& 31) = Int32.ofInt (s : Int) := (by decide +kernel : ∀ q : Fin 32, (Int32.ofInt ((q : Nat) : Int) &&& 31) = Int32.ofInt ((q : Nat) : Int)) ⟨s, by omega⟩
    rw [hm]
    exact (xI_shl x s (by omega)).symm
  rw [show vi (x * 2 ^ s) = Value.int _ from congrArg Value.int e] at k'
  exact lv_ishl hx hb dd k'
theorem xJ_iorA {x y : Int} {j : Nat} (h : xC X own nm cc n r d G) (dd : decode cc pc = .ok (.ior, 1)) (hj : j ≤ 31) (h0 : 0 ≤ x) (h1 : x % 2 ^ j = 0) (g0 : 0 ≤ y) (g1 : y < 2 ^ j) (hR : xR (x + y)) (k : xJ X cells slots t M (pc + 1) L (vi (x + y) :: st)) : xJ X cells slots t M pc L (vi y :: vi x :: st) := by
  obtain ⟨a, rfl⟩ := Int.eq_ofNat_of_zero_le h0
  obtain ⟨b, rfl⟩ := Int.eq_ofNat_of_zero_le g0
  obtain ⟨p, l, e, R, s9, m, args, below, meth, c, G9, Po, Px, mc, ms⟩ := X
  obtain ⟨hx, hb, hml, hown, hts, hr, hlk, hKn, hSs, hnm, hR9, hG, hst⟩ := h
  intro H locs ls a1 a2 a3
  have k' := k H locs ls a1 a2 a3
  rw [show vi ((a : Int) + b) = Value.int _ from congrArg Value.int (xI_orA hj h1 g1 hR).symm] at k'
  exact lv_ior hx hb dd k'
end XLZ
