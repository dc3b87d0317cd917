section XM
variable {X : xCx} {own nm : String} {cc : ByteArray} {n d : Nat} {r : Option FieldType} {G : xGx} {cells slots mc ms : Nat} {t : xTh} {M : xMe} {pc : Nat} {L st : List Value} {Po : Option Value → xTh → xMe → Prop} {Px : String → xTh → xMe → Prop}
theorem xJ_iand {x m9 : Int} (k9 : Nat) (h : xC X own nm cc n r d G) (dd : decode cc pc = .ok (.iand, 1)) (hm : (Int32.ofInt m9).toBitVec.toNat = 2 ^ k9 - 1) (hk : k9 ≤ 31) (k : xJ X cells slots t M (pc + 1) L (vi (x % 2 ^ k9) :: st)) : xJ X cells slots t M pc L (vi m9 :: vi x :: st) := by
  obtain ⟨p, l, e, R, s, m, args, below, meth, c, G9, Po9, Px9, mc9, ms9⟩ := X
  obtain ⟨hx, hb, hml, hown, hts, hr, hlk, hKn, hSs, hnm, rfl, rfl, hst⟩ := h
  intro H locs ls a1 a2 a3
  have k' := k H locs ls a1 a2 a3
  rw [show vi (x % 2 ^ k9) = _ from congrArg Value.int ((xI_and (x := x) k9 hm hk).symm)] at k'
  exact lv_iand hx hb dd k'
theorem xJ_ishr {x : Int} {s9 : Nat} (h : xC X own nm cc n r d G) (dd : decode cc pc = .ok (.ishr, 1)) (hxx : xR x) (hs : s9 < 32) (k : xJ X cells slots t M (pc + 1) L (vi (x / 2 ^ s9) :: st)) : xJ X cells slots t M pc L (vi (s9 : Int) :: vi x :: st) := by
  obtain ⟨p, l, e, R, s, m, args, below, meth, c, G9, Po9, Px9, mc9, ms9⟩ := X
  obtain ⟨hx, hb, hml, hown, hts, hr, hlk, hKn, hSs, hnm, rfl, rfl, hst⟩ := h
  intro H locs ls a1 a2 a3
  have k' := k H locs ls a1 a2 a3
  rw [show vi (x / 2 ^ s9) = _ from congrArg Value.int ((xI_shr hxx s9 hs).symm)] at k'
  exact lv_ishr hx hb dd k'
theorem xJ_ishl1 {s9 : Nat} (h : xC X own nm cc n r d G) (dd : decode cc pc = .ok (.ishl, 1)) (hs : s9 < 31) (k : xJ X cells slots t M (pc + 1) L (vi ((2 ^ s9 : Nat) : Int) :: st)) : xJ X cells slots t M pc L (vi (s9 : Int) :: vi 1 :: st) := by
  obtain ⟨p, l, e, R, s, m, args, below, meth, c, G9, Po9, Px9, mc9, ms9⟩ := X
  obtain ⟨hx, hb, hml, hown, hts, hr, hlk, hKn, hSs, hnm, rfl, rfl, hst⟩ := h
  intro H locs ls a1 a2 a3
  have k' := k H locs ls a1 a2 a3
  rw [show vi ((2 ^ s9 : Nat) : Int) = _ from congrArg Value.int ((xI_shl1 ⟨s9, hs⟩).symm)] at k'
  exact lv_ishl hx hb dd k'
theorem xJ_ior8 {x y : Nat} (h : xC X own nm cc n r d G) (dd : decode cc pc = .ok (.ior, 1)) (hxx : x < 8) (hyy : y < 8) (k : xJ X cells slots t M (pc + 1) L (vi ((x ||| y : Nat) : Int) :: st)) : xJ X cells slots t M pc L (vi (y : Int) :: vi (x : Int) :: st) := by
  obtain ⟨p, l, e, R, s, m, args, below, meth, c, G9, Po9, Px9, mc9, ms9⟩ := X
  obtain ⟨hx, hb, hml, hown, hts, hr, hlk, hKn, hSs, hnm, rfl, rfl, hst⟩ := h
  intro H locs ls a1 a2 a3
  have k' := k H locs ls a1 a2 a3
  rw [show vi ((x ||| y : Nat) : Int) = _ from congrArg Value.int ((xI_or8 ⟨x, hxx⟩ ⟨y, hyy⟩).symm)] at k'
  exact lv_ior hx hb dd k'
theorem xJ_idiv {x y : Int} (h : xC X own nm cc n r d G) (dd : decode cc pc = .ok (.idiv, 1)) (hxx : xR x) (hyy : xR y) (hne : y ≠ 0) (k : xJ X cells slots t M (pc + 1) L (vi (x.tdiv y) :: st)) : xJ X cells slots t M pc L (vi y :: vi x :: st) := by
  obtain ⟨p, l, e, R, s, m, args, below, meth, c, G9, Po9, Px9, mc9, ms9⟩ := X
  obtain ⟨hx, hb, hml, hown, hts, hr, hlk, hKn, hSs, hnm, rfl, rfl, hst⟩ := h
  intro H locs ls a1 a2 a3
  have k' := k H locs ls a1 a2 a3
  rw [show vi (x.tdiv y) = _ from congrArg Value.int ((xI_div hxx hyy).symm)] at k'
  exact lv_idiv hx hb dd (fun q => hne ((xR_eq hyy xR_0).mp q)) k'
theorem xJ_irem {x y : Int} (h : xC X own nm cc n r d G) (dd : decode cc pc = .ok (.irem, 1)) (hxx : xR x) (hyy : xR y) (hne : y ≠ 0) (k : xJ X cells slots t M (pc + 1) L (vi (x.tmod y) :: st)) : xJ X cells slots t M pc L (vi y :: vi x :: st) := by
  obtain ⟨p, l, e, R, s, m, args, below, meth, c, G9, Po9, Px9, mc9, ms9⟩ := X
  obtain ⟨hx, hb, hml, hown, hts, hr, hlk, hKn, hSs, hnm, rfl, rfl, hst⟩ := h
  intro H locs ls a1 a2 a3
  have k' := k H locs ls a1 a2 a3
  rw [show vi (x.tmod y) = _ from congrArg Value.int ((xI_rem hxx hyy).symm)] at k'
  exact lv_irem hx hb dd (fun q => hne ((xR_eq hyy xR_0).mp q)) k'
theorem xJ_ldiv {x y : Int} (h : xC X own nm cc n r d G) (dd : decode cc pc = .ok (.ldiv, 1)) (hxx : xRl x) (hyy : xRl y) (hne : y ≠ 0) (k : xJ X cells slots t M (pc + 1) L (vl (x.tdiv y) :: st)) : xJ X cells slots t M pc L (vl y :: vl x :: st) := by
  obtain ⟨p, l, e, R, s, m, args, below, meth, c, G9, Po9, Px9, mc9, ms9⟩ := X
  obtain ⟨hx, hb, hml, hown, hts, hr, hlk, hKn, hSs, hnm, rfl, rfl, hst⟩ := h
  intro H locs ls a1 a2 a3
  have k' := k H locs ls a1 a2 a3
  rw [show vl (x.tdiv y) = _ from congrArg Value.long ((xI_ldiv hxx hyy).symm)] at k'
  exact lv_ldiv hx hb dd (fun q => hne ((xRl_eq hyy ⟨by decide, by decide⟩).mp q)) k'
theorem xJ_i2l {x : Int} (h : xC X own nm cc n r d G) (dd : decode cc pc = .ok (.i2l, 1)) (hxx : xR x) (k : xJ X cells slots t M (pc + 1) L (vl x :: st)) : xJ X cells slots t M pc L (vi x :: st) := by
  obtain ⟨p, l, e, R, s, m, args, below, meth, c, G9, Po9, Px9, mc9, ms9⟩ := X
  obtain ⟨hx, hb, hml, hown, hts, hr, hlk, hKn, hSs, hnm, rfl, rfl, hst⟩ := h
  intro H locs ls a1 a2 a3
  exact lv_i2l hx hb dd (xI_i2l hxx) (k H locs ls a1 a2 a3)
theorem xJ_l2i {x : Int} (h : xC X own nm cc n r d G) (dd : decode cc pc = .ok (.l2i, 1)) (k : xJ X cells slots t M (pc + 1) L (vi x :: st)) : xJ X cells slots t M pc L (vl x :: st) := by
  obtain ⟨p, l, e, R, s, m, args, below, meth, c, G9, Po9, Px9, mc9, ms9⟩ := X
  obtain ⟨hx, hb, hml, hown, hts, hr, hlk, hKn, hSs, hnm, rfl, rfl, hst⟩ := h
  intro H locs ls a1 a2 a3
  exact lv_l2i hx hb dd Int64.toInt32_ofInt (k H locs ls a1 a2 a3)
theorem xJ_i2b {x : Int} (h : xC X own nm cc n r d G) (dd : decode cc pc = .ok (.i2b, 1)) (k : xJ X cells slots t M (pc + 1) L (vi (x.bmod 256) :: st)) : xJ X cells slots t M pc L (vi x :: st) := by
  obtain ⟨p, l, e, R, s, m, args, below, meth, c, G9, Po9, Px9, mc9, ms9⟩ := X
  obtain ⟨hx, hb, hml, hown, hts, hr, hlk, hKn, hSs, hnm, rfl, rfl, hst⟩ := h
  intro H locs ls a1 a2 a3
  exact lv_i2b hx hb dd (xI_i2b x) (k H locs ls a1 a2 a3)
theorem xJ_lcmp {x y : Int} (h : xC X own nm cc n r d G) (dd : decode cc pc = .ok (.lcmp, 1)) (hxx : xRl x) (hyy : xRl y) (k : xJ X cells slots t M (pc + 1) L (vi (xcmp x y) :: st)) : xJ X cells slots t M pc L (vl y :: vl x :: st) := by
  obtain ⟨p, l, e, R, s, m, args, below, meth, c, G9, Po9, Px9, mc9, ms9⟩ := X
  obtain ⟨hx, hb, hml, hown, hts, hr, hlk, hKn, hSs, hnm, rfl, rfl, hst⟩ := h
  intro H locs ls a1 a2 a3
  have k' := k H locs ls a1 a2 a3
  rw [show vi (xcmp x y) = _ from congrArg Value.int (xI_lcmp hxx hyy).symm] at k'
  exact W.lcmp hx hb dd k'
theorem xJ_tIn {x dflt lo hi off : Int} {offs : Array Int} {len tgt : Nat} (h : xC X own nm cc n r d G) (dd : decode cc pc = .ok (.tableswitch dflt lo hi offs, len)) (hxx : xR x) (h1 : lo ≤ x) (h2 : x ≤ hi) (ho : offs[(x - lo).toNat]? = some off) (ht : (pc : Int) + off = (tgt : Int)) (k : xJ X cells slots t M tgt L st) : xJ X cells slots t M pc L (vi x :: st) := by
  obtain ⟨p, l, e, R, s, m, args, below, meth, c, G9, Po9, Px9, mc9, ms9⟩ := X
  obtain ⟨hx, hb, hml, hown, hts, hr, hlk, hKn, hSs, hnm, rfl, rfl, hst⟩ := h
  intro H locs ls a1 a2 a3
  exact lv_tableIn hx hb dd (by rw [xR_ti hxx]; omega) (by rw [xR_ti hxx]; omega) (by rw [xR_ti hxx]; exact ho) ht (k H locs ls a1 a2 a3)
theorem xJ_tOut {x dflt lo hi : Int} {offs : Array Int} {len tgt : Nat} (h : xC X own nm cc n r d G) (dd : decode cc pc = .ok (.tableswitch dflt lo hi offs, len)) (hxx : xR x) (h1 : x < lo ∨ hi < x) (ht : (pc : Int) + dflt = (tgt : Int)) (k : xJ X cells slots t M tgt L st) : xJ X cells slots t M pc L (vi x :: st) := by
  obtain ⟨p, l, e, R, s, m, args, below, meth, c, G9, Po9, Px9, mc9, ms9⟩ := X
  obtain ⟨hx, hb, hml, hown, hts, hr, hlk, hKn, hSs, hnm, rfl, rfl, hst⟩ := h
  intro H locs ls a1 a2 a3
  exact lv_tableOut hx hb dd (by rw [xR_ti hxx]; exact h1) ht (k H locs ls a1 a2 a3)
theorem xJ_ldc {idx : Nat} (x : Int) (h : xC X own nm cc n r d G) (dd : decode cc pc = .ok (.ldc idx, 2)) (hw : Cond.constant own idx (Int32.ofInt x) ∈ xT) (k : xJ X cells slots t M (pc + 2) L (vi x :: st)) : xJ X cells slots t M pc L st := by
  obtain ⟨p, l, e, R, s, m, args, below, meth, c, G9, Po9, Px9, mc9, ms9⟩ := X
  obtain ⟨hx, hb, hml, hown, hts, hr, hlk, hKn, hSs, hnm, rfl, rfl, hst⟩ := h
  intro H locs ls a1 a2 a3
  exact lv_ldc hx hb hown (hts _ hw) dd (k H locs ls a1 a2 a3)
theorem xJ_ldcw {idx : Nat} (x : Int) (h : xC X own nm cc n r d G) (dd : decode cc pc = .ok (.ldc_w idx, 3)) (hw : Cond.constant own idx (Int32.ofInt x) ∈ xT) (k : xJ X cells slots t M (pc + 3) L (vi x :: st)) : xJ X cells slots t M pc L st := by
  obtain ⟨p, l, e, R, s, m, args, below, meth, c, G9, Po9, Px9, mc9, ms9⟩ := X
  obtain ⟨hx, hb, hml, hown, hts, hr, hlk, hKn, hSs, hnm, rfl, rfl, hst⟩ := h
  intro H locs ls a1 a2 a3
  exact lv_ldcw hx hb hown (hts _ hw) dd (k H locs ls a1 a2 a3)
theorem xJ_ldc2 {idx : Nat} (x : Int) (h : xC X own nm cc n r d G) (dd : decode cc pc = .ok (.ldc2_w idx, 3)) (hw : Cond.constantLong own idx (Int64.ofInt x) ∈ xT) (k : xJ X cells slots t M (pc + 3) L (vl x :: st)) : xJ X cells slots t M pc L st := by
  obtain ⟨p, l, e, R, s, m, args, below, meth, c, G9, Po9, Px9, mc9, ms9⟩ := X
  obtain ⟨hx, hb, hml, hown, hts, hr, hlk, hKn, hSs, hnm, rfl, rfl, hst⟩ := h
  intro H locs ls a1 a2 a3
  exact lv_ldc2 hx hb hown (hts _ hw) dd (k H locs ls a1 a2 a3)
/-- a String constant by its number in xTx -/
theorem xJ_ldcS {idx : Nat} (i : Nat) (h : xC X own nm cc n r d G) (dd : decode cc pc = .ok (.ldc idx, 2)) (hw : (own, idx, i) ∈ xLt) (k : xJ X cells slots t M (pc + 2) L (vr (G.2.2.2.1 i) :: st)) : xJ X cells slots t M pc L st := by
  obtain ⟨p, l, e, R, s, m, args, below, meth, c, G9, Po9, Px9, mc9, ms9⟩ := X
  obtain ⟨hx, hb, hml, hown, hts, hr, hlk, hKn, hSs, hnm, rfl, rfl, hst⟩ := h
  intro H locs ls a1 a2 a3
  exact va_ldcS hx hb hown (hKn.2.2.2.2.2.2.2.2.2.2 _ hw) dd (k H locs ls a1 a2 a3)
theorem xJ_ifnonnull {a : Nat} {off : Int} {tgt : Nat} (h : xC X own nm cc n r d G) (dd : decode cc pc = .ok (.ifnonnull off, 3)) (ht : (pc : Int) + off = (tgt : Int)) (k : xJ X cells slots t M tgt L st) : xJ X cells slots t M pc L (vr a :: st) := by
  obtain ⟨p, l, e, R, s, m, args, below, meth, c, G9, Po9, Px9, mc9, ms9⟩ := X
  obtain ⟨hx, hb, hml, hown, hts, hr, hlk, hKn, hSs, hnm, rfl, rfl, hst⟩ := h
  intro H locs ls a1 a2 a3
  exact lv_ifnonnull hx hb dd ht (k H locs ls a1 a2 a3)
theorem xJ_ifnonnullN {off : Int} (h : xC X own nm cc n r d G) (dd : decode cc pc = .ok (.ifnonnull off, 3)) (k : xJ X cells slots t M (pc + 3) L st) : xJ X cells slots t M pc L (.null :: st) := by
  obtain ⟨p, l, e, R, s, m, args, below, meth, c, G9, Po9, Px9, mc9, ms9⟩ := X
  obtain ⟨hx, hb, hml, hown, hts, hr, hlk, hKn, hSs, hnm, rfl, rfl, hst⟩ := h
  intro H locs ls a1 a2 a3
  exact lv_ifnonnullN hx hb dd (k H locs ls a1 a2 a3)
theorem xJ_ifnull {a : Nat} {off : Int} (h : xC X own nm cc n r d G) (dd : decode cc pc = .ok (.ifnull off, 3)) (k : xJ X cells slots t M (pc + 3) L st) : xJ X cells slots t M pc L (vr a :: st) := by
  obtain ⟨p, l, e, R, s, m, args, below, meth, c, G9, Po9, Px9, mc9, ms9⟩ := X
  obtain ⟨hx, hb, hml, hown, hts, hr, hlk, hKn, hSs, hnm, rfl, rfl, hst⟩ := h
  intro H locs ls a1 a2 a3
  exact lv_ifnull hx hb dd (k H locs ls a1 a2 a3)
theorem xJ_ifnullN {off : Int} {tgt : Nat} (h : xC X own nm cc n r d G) (dd : decode cc pc = .ok (.ifnull off, 3)) (ht : (pc : Int) + off = (tgt : Int)) (k : xJ X cells slots t M tgt L st) : xJ X cells slots t M pc L (.null :: st) := by
  obtain ⟨p, l, e, R, s, m, args, below, meth, c, G9, Po9, Px9, mc9, ms9⟩ := X
  obtain ⟨hx, hb, hml, hown, hts, hr, hlk, hKn, hSs, hnm, rfl, rfl, hst⟩ := h
  intro H locs ls a1 a2 a3
  exact lv_ifnullN hx hb dd ht (k H locs ls a1 a2 a3)
theorem xJ_astoreN {k9 : Nat} (h : xC X own nm cc n r d G) (dd : decode cc pc = .ok (.astore k9, 2)) (hi : k9 < L.length) (ho : xok L k9 = true) (k : xJ X cells slots t M (pc + 2) (L.set k9 .null) st) : xJ X cells slots t M pc L (.null :: st) := by
  obtain ⟨p, l, e, R, s, m, args, below, meth, c, G9, Po9, Px9, mc9, ms9⟩ := X
  obtain ⟨hx, hb, hml, hown, hts, hr, hlk, hKn, hSs, hnm, rfl, rfl, hst⟩ := h
  intro H locs ls a1 a2 a3
  exact lv_astoreN hx hb dd (xLv_has a3) hi rfl (fun ls' h9 => k H locs ls' a1 a2 (xLv_set1 h9 hi ho))
theorem xJ_astore_nN {k9 : Fin 4} (h : xC X own nm cc n r d G) (dd : decode cc pc = .ok (.astore_n k9, 1)) (hi : (k9 : Nat) < L.length) (ho : xok L (k9 : Nat) = true) (k : xJ X cells slots t M (pc + 1) (L.set (k9 : Nat) .null) st) : xJ X cells slots t M pc L (.null :: st) := by
  obtain ⟨p, l, e, R, s, m, args, below, meth, c, G9, Po9, Px9, mc9, ms9⟩ := X
  obtain ⟨hx, hb, hml, hown, hts, hr, hlk, hKn, hSs, hnm, rfl, rfl, hst⟩ := h
  intro H locs ls a1 a2 a3
  exact lv_astore_nN hx hb dd rfl (xLv_has a3) hi rfl (fun ls' h9 => k H locs ls' a1 a2 (xLv_set1 h9 hi ho))
theorem xJ_aload_nN {k9 : Fin 4} (h : xC X own nm cc n r d G) (dd : decode cc pc = .ok (.aload_n k9, 1)) (hL : L[(k9 : Nat)]? = some .null) (k : xJ X cells slots t M (pc + 1) L (.null :: st)) : xJ X cells slots t M pc L st := by
  obtain ⟨p, l, e, R, s, m, args, below, meth, c, G9, Po9, Px9, mc9, ms9⟩ := X
  obtain ⟨hx, hb, hml, hown, hts, hr, hlk, hKn, hSs, hnm, rfl, rfl, hst⟩ := h
  intro H locs ls a1 a2 a3
  exact lv_aload_nN hx hb dd rfl (xLv_at a3 hL (fun _ q => by cases q)) (k H locs ls a1 a2 a3)
theorem xJ_newI {nn : Int} (h : xC X own nm cc n r d G) (hB : xB X mc ms Po Px) (dd : decode cc pc = .ok (.newarray .int, 2)) (hw : Cond.arrayClass .int ∈ xT) (h0 : 0 ≤ nn) (h1 : nn ≤ 1000000) (hc : cells + 1 ≤ mc) (hs : slots + nn.toNat ≤ ms) (k : xJ X (cells + 1) (slots + nn.toNat) (xnw t 14 nn.toNat) (xw0 M (xz t)) (pc + 2) L (vr (xz t) :: st)) : xJ X cells slots t M pc L (vi nn :: st) := by
  obtain ⟨p, l, e, R, s, m, args, below, meth, c, G9, Po9, Px9, mc9, ms9⟩ := X
  obtain ⟨hx, hb, hml, hown, hts, hr, hlk, hKn, hSs, hnm, rfl, rfl, hst⟩ := h
  obtain ⟨rfl, rfl, rfl, rfl, hnil⟩ := hB
  intro H locs ls a1 a2 a3
  obtain ⟨i1, j1⟩ := xI_ti h0 (by omega)
  refine va_newaK hx hb (atype := .int) (hts _ hw) rfl dd rfl j1 i1 (by show nn.toNat * 4 ≤ _; omega) hc hs a2.2.1 fun H1 cA e1 z1 o1 hAr hNm => ?_
  have hRA : s.vm.findClass ("[" ++ (FieldType.int).toString) = some (G9.2.1 1) := (hKn.1.2 1 _ rfl).2
  have hcA : cA = G9.2.1 1 := Option.some.inj (hNm.symm.trans hRA)
  subst hcA
  have hz := a2.2.1
  refine k H1 locs ls (by omega) (xRp_new a2 (by decide) (by omega) (by omega) (fun q hq => o1 q (by omega)) ?_) a3
  rw [xE_int (ki := 14) (by simp [xk, xnw]) (by decide) (by decide), xn_new, show (fun j => Int32.ofInt (xw0 M (xz t) (xz t) j)) = fun _ => Int32.ofInt 0 from funext fun j => by rw [xw0_self]]
  have e9 : H1[H.size]? = some (arrV (G9.2.1 1) nn.toNat (fun _ => defaultValue .int)) := by rw [hz]; exact e1
  exact e9
theorem xJ_newY {nn : Int} (h : xC X own nm cc n r d G) (hB : xB X mc ms Po Px) (dd : decode cc pc = .ok (.newarray .byte, 2)) (hw : Cond.arrayClass .byte ∈ xT) (h0 : 0 ≤ nn) (h1 : nn ≤ 1000000) (hc : cells + 1 ≤ mc) (hs : slots + nn.toNat ≤ ms) (k : xJ X (cells + 1) (slots + nn.toNat) (xnw t 13 nn.toNat) (xw0 M (xz t)) (pc + 2) L (vr (xz t) :: st)) : xJ X cells slots t M pc L (vi nn :: st) := by
  obtain ⟨p, l, e, R, s, m, args, below, meth, c, G9, Po9, Px9, mc9, ms9⟩ := X
  obtain ⟨hx, hb, hml, hown, hts, hr, hlk, hKn, hSs, hnm, rfl, rfl, hst⟩ := h
  obtain ⟨rfl, rfl, rfl, rfl, hnil⟩ := hB
  intro H locs ls a1 a2 a3
  obtain ⟨i1, j1⟩ := xI_ti h0 (by omega)
  refine va_newaK hx hb (atype := .byte) (hts _ hw) rfl dd rfl j1 i1 (by show nn.toNat * 1 ≤ _; omega) hc hs a2.2.1 fun H1 cA e1 z1 o1 hAr hNm => ?_
  have hRA : s.vm.findClass ("[" ++ (FieldType.byte).toString) = some (G9.2.1 0) := (hKn.1.2 0 _ rfl).2
  have hcA : cA = G9.2.1 0 := Option.some.inj (hNm.symm.trans hRA)
  subst hcA
  have hz := a2.2.1
  refine k H1 locs ls (by omega) (xRp_new a2 (by decide) (by omega) (by omega) (fun q hq => o1 q (by omega)) ?_) a3
  rw [xE_int (ki := 13) (by simp [xk, xnw]) (by decide) (by decide), xn_new, show (fun j => Int32.ofInt (xw0 M (xz t) (xz t) j)) = fun _ => Int32.ofInt 0 from funext fun j => by rw [xw0_self]]
  have e9 : H1[H.size]? = some (arrV (G9.2.1 0) nn.toNat (fun _ => defaultValue .byte)) := by rw [hz]; exact e1
  exact e9
theorem xJ_newJ {nn : Int} (h : xC X own nm cc n r d G) (hB : xB X mc ms Po Px) (dd : decode cc pc = .ok (.newarray .long, 2)) (hw : Cond.arrayClass .long ∈ xT) (h0 : 0 ≤ nn) (h1 : nn ≤ 1000000) (hc : cells + 1 ≤ mc) (hs : slots + nn.toNat ≤ ms) (k : xJ X (cells + 1) (slots + nn.toNat) (xnw t 15 nn.toNat) (xw0 M (xz t)) (pc + 2) L (vr (xz t) :: st)) : xJ X cells slots t M pc L (vi nn :: st) := by
  obtain ⟨p, l, e, R, s, m, args, below, meth, c, G9, Po9, Px9, mc9, ms9⟩ := X
  obtain ⟨hx, hb, hml, hown, hts, hr, hlk, hKn, hSs, hnm, rfl, rfl, hst⟩ := h
  obtain ⟨rfl, rfl, rfl, rfl, hnil⟩ := hB
  intro H locs ls a1 a2 a3
  obtain ⟨i1, j1⟩ := xI_ti h0 (by omega)
  refine va_newaK hx hb (atype := .long) (hts _ hw) rfl dd rfl j1 i1 (by show nn.toNat * 8 ≤ _; omega) hc hs a2.2.1 fun H1 cA e1 z1 o1 hAr hNm => ?_
  have hRA : s.vm.findClass ("[" ++ (FieldType.long).toString) = some (G9.2.1 2) := (hKn.1.2 2 _ rfl).2
  have hcA : cA = G9.2.1 2 := Option.some.inj (hNm.symm.trans hRA)
  subst hcA
  have hz := a2.2.1
  refine k H1 locs ls (by omega) (xRp_new a2 (by decide) (by omega) (by omega) (fun q hq => o1 q (by omega)) ?_) a3
  rw [xE_long (by simp [xk, xnw]), xn_new, show (fun j => Int64.ofInt (xw0 M (xz t) (xz t) j)) = fun _ => Int64.ofInt 0 from funext fun j => by rw [xw0_self]]
  have e9 : H1[H.size]? = some (arrV (G9.2.1 2) nn.toNat (fun _ => defaultValue .long)) := by rw [hz]; exact e1
  exact e9
theorem xJ_newW {idx : Nat} {nn : Int} (h : xC X own nm cc n r d G) (hB : xB X mc ms Po Px) (dd : decode cc pc = .ok (.anewarray idx, 3)) (hw : Cond.classLink own idx "PacketToll$World" ∈ xT) (h0 : 0 ≤ nn) (h1 : nn ≤ 1000000) (hc : cells + 1 ≤ mc) (hs : slots + nn.toNat ≤ ms) (k : xJ X (cells + 1) (slots + nn.toNat) (xnw t 16 nn.toNat) (xw0 M (xz t)) (pc + 3) L (vr (xz t) :: st)) : xJ X cells slots t M pc L (vi nn :: st) := by
  obtain ⟨p, l, e, R, s, m, args, below, meth, c, G9, Po9, Px9, mc9, ms9⟩ := X
  obtain ⟨hx, hb, hml, hown, hts, hr, hlk, hKn, hSs, hnm, rfl, rfl, hst⟩ := h
  obtain ⟨rfl, rfl, rfl, rfl, hnil⟩ := hB
  intro H locs ls a1 a2 a3
  obtain ⟨i1, j1⟩ := xI_ti h0 (by omega)
  refine W.anew hx hb hown (hts _ hw) (va_AO.use hKn.2.2.1) rfl dd rfl j1 (by rw [i1]; omega) hc (by rw [i1]; exact hs) fun cA kA comp f1 f2 f3 f4 => ?_
  rw [i1]
  obtain ⟨kA', comp', g1, g2, g3, g4⟩ := (hKn.1.2 3 _ rfl).2
  have hcA : cA = G9.2.1 3 := Option.some.inj (f1.symm.trans g4)
  subst hcA
  have hz := a2.2.1
  generalize hH1 : H.push ({ cls := G9.2.1 3, slots := Array.replicate nn.toNat .null, vm := .none } : Cell) = H1
  have z1 : H1.size = H.size + 1 := by rw [← hH1, Array.size_push]
  have e1 : H1[H.size]? = some (arrV (G9.2.1 3) nn.toNat (fun _ => .null)) := by rw [← hH1, Array.getElem?_push_size, ← arrV_new]
  have o1 : ∀ q : Nat, q < H.size → H1[q]? = H[q]? := fun q hq => by rw [← hH1, Array.getElem?_push, if_neg (Nat.ne_of_lt hq)]
  rw [hz]
  refine k H1 locs ls (by omega) (xRp_new a2 (by decide) (by omega) z1 o1 ?_) a3
  rw [xE_ref (ki := 16) (by simp [xk, xnw]) (by decide) (by decide), xn_new, show (fun j => xr (xnw t 16 nn.toNat) (xz t) j) = fun _ => none from funext fun j => xr_new]
  exact e1
theorem xJ_new {idx ci N : Nat} {C : String} {T : u_T} {ty : Nat → FieldType} (h : xC X own nm cc n r d G) (hB : xB X mc ms Po Px) (dd : decode cc pc = .ok (.new idx, 3)) (hci : vwCl[ci]? = some (C, T, N)) (hc13 : ci < 13 ∨ (18 < ci ∧ ci < 23)) (hty : xFt C T N ty) (hws : ∀ w ∈ u_ws C T N, w ∈ xT) (hw1 : Cond.classLink own idx C ∈ xT) (hw2 : Cond.instantiable C N ∈ xT) (hw3 : Cond.initialized C ∈ xT) (hN : (xFr.getD ci []).length = N) (hdef : ∀ j, j < N → defaultValue (ty j) = if (xFr.getD ci []).getD j false then .null else .int 0) (hc : cells + 1 ≤ mc) (hs : slots + N ≤ ms)
    (k : xJ X (cells + 1) (slots + N) (xnw t ci 0) (xw0 M (xz t)) (pc + 3) L (vr (xz t) :: st)) : xJ X cells slots t M pc L st := by
  obtain ⟨p, l, e, R, s, m, args, below, meth, c, G9, Po9, Px9, mc9, ms9⟩ := X
  obtain ⟨hx, hb, hml, hown, hts, hr, hlk, hKn, hSs, hnm, rfl, rfl, hst⟩ := h
  obtain ⟨rfl, rfl, rfl, rfl, hnil⟩ := hB
  intro H locs ls a1 a2 a3
  have hKc := hKn.1.1 ci _ hci
  have hz := a2.2.1
  refine W.newcK hx hb hown (hts _ hw1) (hts _ hw2) (hts _ hw3) rfl dd hc hs hKc.2.1 hz fun H1 kC hkC e1 z1 o1 => ?_
  refine k H1 locs ls (by omega) (xRp_new a2 (by omega) (by decide) (by omega) (fun q hq => o1 q (by omega)) ?_) a3
  rw [xE_obj (ci := ci) (by simp [xk, xnw]) hc13]
  refine ⟨_, hci, ?_⟩
  rw [hz]
  refine (u_born ty hts hws hKc hkC e1 hty.1).to fun j hj => ?_
  rw [hdef j hj]
  show _ = (xfl ci (xnw t ci 0) (xw0 M (xz t)) (xz t)).getD j .null
  rw [List.getD_eq_getElem?_getD (l := xfl ci (xnw t ci 0) (xw0 M (xz t)) (xz t)), xfl_get, List.getD_eq_getElem?_getD (l := xFr.getD ci [])]
  have hj2 : j < (xFr.getD ci []).length := by rw [hN]; exact hj
  rw [List.getElem?_eq_getElem hj2]
  cases (xFr.getD ci [])[j] <;> simp [xr, xnw, xw0, va_rf, vi]
/-- what a throw's words are -/
def xTw (own : String) (ic : Nat) (cls : String) (names : List String) : Prop :=
  Bundle.fit cls = true ∧ (∀ q ∈ names, Bundle.fit q = true) ∧ (∀ w ∈ (vx_atS own ic cls names).filter goodWord, w ∈ xT) ∧ (∀ w ∈ (vx_atS own ic cls names).filter (fun w => !goodWord w), w ∈ xOn) ∧ (∀ w ∈ vx_atS own ic cls names, vx_ot w = true) ∧ names.length ≤ 3 ∧ Cond.initialized cls ∈ xT
theorem xJ_throw {ik ic is i : Nat} {cls : String} {names : List String} (h : xC X own nm cc n r d G) (hB : xB X mc ms Po Px) (d0 : decode cc pc = .ok (.new ik, 3)) (d3 : decode cc (pc + 3) = .ok (.dup, 1)) (d4 : decode cc (pc + 4) = .ok (.ldc is, 2)) (d6 : decode cc (pc + 6) = .ok (.invokespecial ic, 3)) (d9 : decode cc (pc + 9) = .ok (.athrow, 1)) (hw : xTw own ic cls names) (hk : Cond.classLink own ik cls ∈ xT) (hkg : vx_ot (Cond.classLink own ik cls) = true) (hli : (own, is, i) ∈ xLt) (hLn : L.length = n) (hd : 7 ≤ d) (hst8 : (st.map fun v => v.category).sum ≤ 8) (hc : cells + 1 ≤ mc) (hs : slots + 6 ≤ ms) (hp : ∀ z, xz t ≤ z → Px cls (z, t.2) M) : xJ X cells slots t M pc L st := by
  obtain ⟨p, l, e, R, s, m, args, below, meth, c, G9, Po9, Px9, mc9, ms9⟩ := X
  obtain ⟨hx, hb, hml, hown, hts, hr, hlk, hKn, hSs, hnm, rfl, rfl, hst⟩ := h
  obtain ⟨rfl, rfl, rfl, rfl, hnil⟩ := hB
  intro H locs ls a1 a2 a3
  have hnil : c.exceptionTable.toList = [] := hnil
  have hp : ∀ z, xz t ≤ z → Px9 cls (z, t.2) M := hp
  obtain ⟨w1, w2, w3, w4, w5, w6, w7⟩ := hw
  have hO := hKn.2.2.2.2.2.2
  have hon := hKn.2.2.2.2.1
  refine vx_throwS (A := xA G9) (names := names) hx hb hst hown w1 w2 (hts _ hk) (hts _ w7) (hO.2.2.2.2 _ hli) (vx_hat (B := xOn) (fun w hw => hts w (w3 w hw)) w4 (fun w hw => va_Nw.use (by
      rcases List.mem_append.mp hw with q | q
      · obtain ⟨z, -, rfl⟩ := List.mem_map.mp q
        rfl
      · obtain ⟨z, -, rfl⟩ := List.mem_map.mp q
        rfl) (hon w hw))) (fun w hw => by
      rcases List.mem_cons.mp hw with q | q
      · rw [q]; exact hkg
      · rcases List.mem_cons.mp q with q | q
        · rw [q]; rfl
        · exact w5 w q) hO.1 hO.2.1 ⟨a1, fun q hq hA => xold hSs a2.1 q hA, a2.1.2.2⟩ (a3.1.trans (hLn.trans hml.symm)) d0 d3 d4 d6 d9 (fun x hx9 => by rw [hnil] at hx9; cases hx9) (by show names.length + 3 < d; omega) (by show _ + (13 * (names.length + 1) + 43) ≤ 64 * d; omega) hc hs hlk ?_ a2.1.2.2 hc hs
  intro t' hal hsz hq
  have hz := a2.2.1
  obtain ⟨b1, b2, b3, Ld, b4, b5, b6⟩ := a2
  refine ⟨(t'.heap.size, t.2), M, hp _ (by omega), ⟨Nat.le_trans b1.1 hsz, fun q h1 h2 => (hq q (Nat.lt_of_lt_of_le h1 b1.1)).trans (b1.2.1 q h1 h2), fun _ q => by cases q⟩, rfl, b3, Ld, b4, ?_, b6⟩
  exact b5.kept fun k x hx9 => hq x.1 (b5 k x hx9).lt
theorem xJ_throwW {ik ic is i : Nat} {cls : String} {names : List String} (h : xC X own nm cc n r d G) (hB : xB X mc ms Po Px) (d0 : decode cc pc = .ok (.new ik, 3)) (d3 : decode cc (pc + 3) = .ok (.dup, 1)) (d4 : decode cc (pc + 4) = .ok (.ldc_w is, 3)) (d6 : decode cc (pc + 7) = .ok (.invokespecial ic, 3)) (d9 : decode cc (pc + 10) = .ok (.athrow, 1)) (hw : xTw own ic cls names) (hk : Cond.classLink own ik cls ∈ xT) (hkg : vx_ot (Cond.classLink own ik cls) = true) (hli : (own, is, i) ∈ xLt) (hLn : L.length = n) (hd : 7 ≤ d) (hst8 : (st.map fun v => v.category).sum ≤ 8) (hc : cells + 1 ≤ mc) (hs : slots + 6 ≤ ms) (hp : ∀ z, xz t ≤ z → Px cls (z, t.2) M) : xJ X cells slots t M pc L st := by
  obtain ⟨p, l, e, R, s, m, args, below, meth, c, G9, Po9, Px9, mc9, ms9⟩ := X
  obtain ⟨hx, hb, hml, hown, hts, hr, hlk, hKn, hSs, hnm, rfl, rfl, hst⟩ := h
  obtain ⟨rfl, rfl, rfl, rfl, hnil⟩ := hB
  intro H locs ls a1 a2 a3
  have hnil : c.exceptionTable.toList = [] := hnil
  have hp : ∀ z, xz t ≤ z → Px9 cls (z, t.2) M := hp
  obtain ⟨w1, w2, w3, w4, w5, w6, w7⟩ := hw
  have hO := hKn.2.2.2.2.2.2
  have hon := hKn.2.2.2.2.1
  refine vx_throwSW (A := xA G9) (names := names) hx hb hst hown w1 w2 (hts _ hk) (hts _ w7) (hO.2.2.2.2 _ hli) (vx_hat (B := xOn) (fun w hw => hts w (w3 w hw)) w4 (fun w hw => va_Nw.use (by
      rcases List.mem_append.mp hw with q | q
      · obtain ⟨z, -, rfl⟩ := List.mem_map.mp q
        rfl
      · obtain ⟨z, -, rfl⟩ := List.mem_map.mp q
        rfl) (hon w hw))) (fun w hw => by
      rcases List.mem_cons.mp hw with q | q
      · rw [q]; exact hkg
      · rcases List.mem_cons.mp q with q | q
        · rw [q]; rfl
        · exact w5 w q) hO.1 hO.2.1 ⟨a1, fun q hq hA => xold hSs a2.1 q hA, a2.1.2.2⟩ (a3.1.trans (hLn.trans hml.symm)) d0 d3 d4 d6 d9 (fun x hx9 => by rw [hnil] at hx9; cases hx9) (by show names.length + 3 < d; omega) (by show _ + (13 * (names.length + 1) + 43) ≤ 64 * d; omega) hc hs hlk ?_ a2.1.2.2 hc hs
  intro t' hal hsz hq
  have hz := a2.2.1
  obtain ⟨b1, b2, b3, Ld, b4, b5, b6⟩ := a2
  refine ⟨(t'.heap.size, t.2), M, hp _ (by omega), ⟨Nat.le_trans b1.1 hsz, fun q h1 h2 => (hq q (Nat.lt_of_lt_of_le h1 b1.1)).trans (b1.2.1 q h1 h2), fun _ q => by cases q⟩, rfl, b3, Ld, b4, ?_, b6⟩
  exact b5.kept fun k x hx9 => hq x.1 (b5 k x hx9).lt
end XM
