/-! RULES FOR THE LAW'S OWN OBJECTS: references that may be null, arrays of arrays, Road[], clone, shifts, products that wrap around -/
theorem va_rf_ret (x : Option Nat) : ∀ n, va_rf x ≠ .retAddr n := by
  intro n e; cases x <;> cases e
theorem xR_bm32 (x : Int) : xR (Int.bmod x 4294967296) := by
  have h1 : x.bmod 4294967296 < 2147483648 := Int.bmod_lt (by decide)
  have h2 : -2147483648 ≤ x.bmod 4294967296 := Int.le_bmod (by decide)
  exact ⟨by omega, by omega⟩
theorem vi_bm (x : Int) : vi (Int.bmod x 4294967296) = vi x := by
  unfold vi
  congr 1
  apply Int32.toInt_inj.mp
  rw [Int32.toInt_ofInt, Int32.toInt_ofInt]
  show (x.bmod 4294967296).bmod 4294967296 = x.bmod 4294967296
  exact Int.bmod_bmod
/-- what is the same of a cell that lives -/
def xke (t t' : xTh) : Prop := ∀ b, xk t b ≤ 22 → xk t' b = xk t b ∧ (13 ≤ xk t b ∧ xk t b ≤ 18 → xn t' b = xn t b)
theorem xke_refl (t : xTh) : xke t t := fun _ _ => ⟨rfl, fun _ => rfl⟩
theorem xke_trans {t t1 t2 : xTh} (h : xke t t1) (g : xke t1 t2) : xke t t2 :=
  fun b hb => ⟨(g b (by rw [(h b hb).1]; exact hb)).1.trans (h b hb).1, fun hq => ((g b (by rw [(h b hb).1]; exact hb)).2 (by rw [(h b hb).1]; exact hq)).trans ((h b hb).2 hq)⟩
theorem xke_k {t t' : xTh} {b k : Nat} (h : xke t t') (g : xk t b = k) (hk : k ≤ 22) : xk t' b = k := (h b (by omega)).1.trans g
theorem xke_wr {t t' : xTh} {a j : Nat} {v : Option Nat} (e : t' = xwr t a j v) : xke t t' := by subst e; exact fun _ _ => ⟨rfl, fun _ => rfl⟩
theorem xke_nw {t t' : xTh} {k n : Nat} (hl : ∀ b, xk t b ≤ 22 → b < xz t) (e : t' = xnw t k n) : xke t t' := by
  subst e
  intro b hb
  have := hl b hb
  exact ⟨by simp [xk, xnw, Nat.ne_of_lt this], fun _ => by simp [xn, xnw, Nat.ne_of_lt this]⟩
theorem xkN_k {t t' : xTh} {k n : Nat} (e : t' = xnw t k n) : xk t' (xz t) = k := by subst e; simp [xk, xnw]
/-- the copy of a row at a new place -/
def xcl (M : xMe) (a z : Nat) : xMe := fun b j => if b = z then M a j else M b j
theorem xMR_cl {M : xMe} {a z : Nat} (h : xMR M) : xMR (xcl M a z) := fun b j => by
  unfold xcl; split
  · exact h _ _
  · exact h b j
theorem xMR_n0 {M : xMe} {z : Nat} (h : xMR M) : xMR (xw0 M z) := fun b j => by
  unfold xw0; split
  · exact ⟨by decide, by decide⟩
  · exact h b j
theorem xRp_newM {G : xGx} {t : xTh} {M M' : xMe} {H H1 : Heap} {locs : List Loc} {ki nn : Nat} (h : xRp G t M H locs) (hki : ki ≤ 22) (hnn : nn < 2147483648) (z : H1.size = H.size + 1) (oq : ∀ q : Nat, q < H.size → H1[q]? = H[q]?) (hM : ∀ b, b ≠ xz t → M' b = M b) (he : va_at G.1 vwCl (H.size, xE G.2.1 (xnw t ki nn) M' (xz t)) H1) : xRp G (xnw t ki nn) M' H1 locs := by
  obtain ⟨b1, b2, b3, Ld, b4, b5, b6⟩ := h
  have hk : ∀ (k : Nat) (x : Nat × va_E), (va_pl Ld (xE G.2.1 t M))[k]? = some x → H1[x.1]? = H[x.1]? := fun k x hx => oq x.1 ((b5 k x hx).lt)
  have hfr : H.size ∉ Ld := fun q => by
    obtain ⟨q0, hq0⟩ := va_pl_get (X := []) (f := xE G.2.1 t M) q
    exact absurd (b5 q0 _ hq0).lt (Nat.lt_irrefl _)
  have hup : va_up (xE G.2.1 t M) H.size (xE G.2.1 (xnw t ki nn) M' (xz t)) = xE G.2.1 (xnw t ki nn) M' := by
    funext b
    by_cases hb : b = H.size
    · subst hb
      rw [va_up_self, b2]
    · rw [va_up_ne _ _ hb]
      rw [b2] at hb
      exact (xE_off (t := t) (t' := xnw t ki nn) (by simp [xk, xnw, hb]) (by simp [xn, xnw, hb]) (fun _ => by simp [xr, xnw, hb]) (fun _ => by rw [hM b hb])).symm
  have hpu := va_pl_push (L := Ld) (f := xE G.2.1 t M) (e := xE G.2.1 (xnw t ki nn) M' (xz t)) hfr
  rw [hup] at hpu
  refine ⟨⟨Nat.le_trans b1.1 (by omega), fun x h1 h2 => (oq x (Nat.lt_of_lt_of_le h1 b1.1)).trans (b1.2.1 x h1 h2), b1.2.2⟩, by rw [z, b2]; rfl, fun a => ?_, Ld ++ [H.size], fun a => ?_, ?_, ?_⟩
  · by_cases ha : a = xz t
    · simp [xn, xnw, ha]; exact hnn
    · simp [xn, xnw, ha]; exact b3 a
  · rw [List.mem_append, List.mem_singleton]
    by_cases ha : a = xz t
    · simp [xk, xnw, ha, b2, hki]
    · simp [xk, xnw, ha, b2]; exact b4 a
  · rw [← hpu]
    refine (b5.kept hk).app fun k x hx => ?_
    have hz : k < 1 := (List.getElem?_eq_some_iff.mp hx).1
    rw [show k = 0 by omega] at hx
    cases hx
    exact he
  · rw [← hpu]
    exact b6.push b5 rfl (show xA G H.size from b1.1)
theorem xas_same (vm : Vm) (x : ClassId) : vm.assignable x x = true := by
  show Vm.assignableAux _ (255 + 1) _ _ = true
  rw [Vm.assignableAux, beq_self_eq_true, Bool.true_or]
section XDY
variable {X : xCx} {own nm : String} {cc : ByteArray} {n d : Nat} {r : Option FieldType} {G : xGx} {cells slots mc ms : Nat} {t : xTh} {M : xMe} {pc : Nat} {L st : List Value} {Po : Option Value → xTh → xMe → Prop} {Px : String → xTh → xMe → Prop}
theorem xJ_aload_nO {x : Option Nat} {k9 : Fin 4} (h : xC X own nm cc n r d G) (dd : decode cc pc = .ok (.aload_n k9, 1)) (hL : L[(k9 : Nat)]? = some (va_rf x)) (k : xJ X cells slots t M (pc + 1) L (va_rf x :: st)) : xJ X cells slots t M pc L st := by
  cases x with
  | none => exact xJ_aload_nN h dd hL k
  | some x => exact xJ_aload_n h dd hL k
theorem xJ_aloadO {x : Option Nat} {k9 : Nat} (h : xC X own nm cc n r d G) (dd : decode cc pc = .ok (.aload k9, 2)) (hL : L[k9]? = some (va_rf x)) (k : xJ X cells slots t M (pc + 2) L (va_rf x :: st)) : xJ X cells slots t M pc L st := by
  cases x with
  | none =>
    obtain ⟨p, l, e, R, s, m, args, below, meth, c, G9, Po9, Px9, mc9, ms9⟩ := X
    obtain ⟨hx, hb, hml, hown, hts, hr, hlk, hKn, hSs, hnm, rfl, rfl, hst⟩ := h
    intro H locs ls a1 a2 a3
    exact lv_aloadN hx hb dd (xLv_at a3 hL (fun _ q => by cases q)) (k H locs ls a1 a2 a3)
  | some x => exact xJ_aload h dd hL k
theorem xJ_astore_nO {x : Option Nat} {k9 : Fin 4} (h : xC X own nm cc n r d G) (dd : decode cc pc = .ok (.astore_n k9, 1)) (hi : (k9 : Nat) < L.length) (ho : xok L (k9 : Nat) = true) (k : xJ X cells slots t M (pc + 1) (L.set (k9 : Nat) (va_rf x)) st) : xJ X cells slots t M pc L (va_rf x :: st) := by
  cases x with
  | none => exact xJ_astore_nN h dd hi ho k
  | some x => exact xJ_astore_n h dd hi ho k
theorem xJ_astoreO {x : Option Nat} {k9 : Nat} (h : xC X own nm cc n r d G) (dd : decode cc pc = .ok (.astore k9, 2)) (hi : k9 < L.length) (ho : xok L k9 = true) (k : xJ X cells slots t M (pc + 2) (L.set k9 (va_rf x)) st) : xJ X cells slots t M pc L (va_rf x :: st) := by
  cases x with
  | none => exact xJ_astoreN h dd hi ho k
  | some x => exact xJ_astore h dd hi ho k
theorem xJ_ifnullO {x : Option Nat} {off : Int} {tgt : Nat} (h : xC X own nm cc n r d G) (dd : decode cc pc = .ok (.ifnull off, 3)) (ht : (pc : Int) + off = (tgt : Int)) (k1 : x = none → xJ X cells slots t M tgt L st) (k2 : ∀ b, x = some b → xJ X cells slots t M (pc + 3) L st) : xJ X cells slots t M pc L (va_rf x :: st) := by
  cases x with
  | none => exact xJ_ifnullN h dd ht (k1 rfl)
  | some x => exact xJ_ifnull h dd (k2 x rfl)
theorem xJ_ifnonnullO {x : Option Nat} {off : Int} {tgt : Nat} (h : xC X own nm cc n r d G) (dd : decode cc pc = .ok (.ifnonnull off, 3)) (ht : (pc : Int) + off = (tgt : Int)) (k1 : x = none → xJ X cells slots t M (pc + 3) L st) (k2 : ∀ b, x = some b → xJ X cells slots t M tgt L st) : xJ X cells slots t M pc L (va_rf x :: st) := by
  cases x with
  | none => exact xJ_ifnonnullN h dd (k1 rfl)
  | some x => exact xJ_ifnonnull h dd ht (k2 x rfl)
theorem xJ_getO {a idx ci j N : Nat} {C : String} {T : u_T} (h : xC X own nm cc n r d G) (dd : decode cc pc = .ok (.getfield idx, 3)) (hf : xFd own idx ci j C T N) (hi : (xFr.getD ci [])[j]? = some true) (hk : xk t a = ci) (k : xJ X cells slots t M (pc + 3) L (va_rf (xr t a j) :: st)) : xJ X cells slots t M pc L (vr a :: st) := by
  obtain ⟨p, l, e, R, s, m, args, below, meth, c, G9, Po, Px, mc, ms⟩ := X
  obtain ⟨hx, hb, hml, hown, hts, hr, hlk, hKn, hSs, hnm, hR, hG, hst⟩ := h
  obtain ⟨f1, f2, f3, f4, f5, f6, f7⟩ := hf
  subst hG
  intro H locs ls a1 a2 a3
  obtain ⟨b1, b2, b3, Ld, b4, b5, b6⟩ := id a2
  obtain ⟨q0, hq0⟩ := va_pl_get (X := []) (f := xE G9.2.1 t M) ((b4 a).mpr (by omega))
  rw [xE_obj hk f2] at hq0
  exact va_get (D := G9.1) (cl := vwCl) (tys := xTys G9) hx hb hts f7 hown hKn.1 b5 q0 hq0 f1 j f3 (hts _ f4) (fun _ h9 => h9) (v := va_rf (xr t a j)) (by rw [xfl_get, hi]; rfl) dd (k H locs ls a1 a2 a3)
theorem xJ_putRM {a idx ci j N : Nat} {C : String} {T : u_T} {ty : Nat → FieldType} {x : Option Nat} (h : xC X own nm cc n r d G) (dd : decode cc pc = .ok (.putfield idx, 3)) (hf : xFd own idx ci j C T N) (hty : xFt C T N ty) (hi : (xFr.getD ci [])[j]? = some true) (hfin : (T j).2.2.2 = false) (hn : narrow (ty j) (va_rf x) = va_rf x) (hfit : fits (ty j) (va_rf x) = true) (hk : xk t a = ci) (k : ∀ t', t' = xwr t a j x → xJ X cells slots t' M (pc + 3) L st) : xJ X cells slots t M pc L (va_rf x :: vr a :: st) :=
  xJ_putR h dd hf hty hi hfin hn hfit hk (k _ rfl)
theorem xJ_imulW {x y : Int} (h : xC X own nm cc n r d G) (dd : decode cc pc = .ok (.imul, 1)) (k : xJ X cells slots t M (pc + 1) L (vi (Int.bmod (x * y) 4294967296) :: st)) : xJ X cells slots t M pc L (vi y :: vi x :: st) :=
  xJ_imul h dd (by rw [vi_bm] at k; exact k)
theorem xJ_iaddW {x y : Int} (h : xC X own nm cc n r d G) (dd : decode cc pc = .ok (.iadd, 1)) (k : xJ X cells slots t M (pc + 1) L (vi (Int.bmod (x + y) 4294967296) :: st)) : xJ X cells slots t M pc L (vi y :: vi x :: st) :=
  xJ_iadd h dd (by rw [vi_bm] at k; exact k)
/-- >>> 16 -/
theorem xJ_iushr16 {x : Int} (h : xC X own nm cc n r d G) (dd : decode cc pc = .ok (.iushr, 1)) (k : xJ X cells slots t M (pc + 1) L (vi (x % 4294967296 / 65536) :: st)) : xJ X cells slots t M pc L (vi 16 :: vi x :: st) := by
  obtain ⟨p, l, e, R, s, m, args, below, meth, c, G9, Po, Px, mc, ms⟩ := X
  obtain ⟨hx, hb, hml, hown, hts, hr, hlk, hKn, hSs, hnm, hR, hG, hst⟩ := h
  intro H locs ls a1 a2 a3
  refine lv_iushr hx hb (x := Int32.ofInt x) (y := Int32.ofInt 16) dd ?_ (k H locs ls a1 a2 a3)
  apply Int32.toBitVec.inj
  apply BitVec.eq_of_toNat_eq
  have e16 : ((Int32.ofInt 16).toUInt32 &&& Int32.toUInt32 31) = 16 := by decide
  rw [e16]
  have h0 : 0 ≤ x % 4294967296 := Int.emod_nonneg x (by decide)
  have h1 : x % 4294967296 < 4294967296 := Int.emod_lt_of_pos x (by decide)
  have hx32 : (Int32.ofInt x).toBitVec.toNat = (x % 4294967296).toNat := by
    show (BitVec.ofInt 32 x).toNat = _
    rw [BitVec.toNat_ofInt]
    rfl
  have e32 : ((2 ^ 32 : Nat) : Int) = 4294967296 := by decide
  have hr32 : (Int32.ofInt (x % 4294967296 / 65536)).toBitVec.toNat = (x % 4294967296 / 65536).toNat := by
    show (BitVec.ofInt 32 (x % 4294967296 / 65536)).toNat = _
    rw [BitVec.toNat_ofInt, Int.emod_eq_of_lt (by omega) (by omega)]
  rw [hr32]
  show ((Int32.ofInt x).toBitVec >>> (16 : Nat)).toNat = _
  rw [BitVec.toNat_ushiftRight, hx32, Nat.shiftRight_eq_div_pow]
  obtain ⟨y, hy⟩ := Int.eq_ofNat_of_zero_le h0
  rw [hy]
  show y / 2 ^ 16 = _
  have e3 : ((y : Int) / 65536) = ((y / 65536 : Nat) : Int) := rfl
  rw [e3, Int.toNat_natCast]
/-- int[] into int[][] -/
theorem xJ_aastI {a b : Nat} {j : Int} (h : xC X own nm cc n r d G) (dd : decode cc pc = .ok (.aastore, 1)) (hk : xk t a = 17) (hkb : xk t b = 14) (h0 : 0 ≤ j) (h1 : j < xn t a) (k : ∀ t', t' = xwr t a j.toNat (some b) → xJ X cells slots t' M (pc + 1) L st) : xJ X cells slots t M pc L (vr b :: vi j :: vr a :: st) := by
  obtain ⟨p, l, e, R, s, m, args, below, meth, c, G9, Po, Px, mc, ms⟩ := X
  obtain ⟨hx, hb, hml, hown, hts, hr, hlk, hKn, hSs, hnm, hR, hG, hst⟩ := h
  subst hG
  intro H locs ls a1 a2 a3
  have h3 := a2.2.2.1 a
  have hat := xRp_at a2 (a := a) (by omega)
  rw [xE_ref hk (by decide) (by decide)] at hat
  have hat : H[a]? = some (vp_cell (G9.2.1 4) (xn t a, .inr (.inr (.inr (.inr (fun j => xr t a j)))))) := hat
  have hin := xI_in h3 h0 h1
  have hlt : j.toNat < xn t a := by omega
  have e1 := (xI_ti h0 (Int.lt_trans h1 (by omega))).1
  have hatb := xRp_at a2 (a := b) (by omega)
  rw [xE_int hkb (by decide) (by decide)] at hatb
  have hatb : H[b]? = some (arrV (G9.2.1 1) (xn t b) (fun i => .int (Int32.ofInt (M b i)))) := hatb
  obtain ⟨comp, c9, k9, g1, -, g3, g4, g5⟩ := arrayOverA_spec (args := #[]) (first := s) (o := none) (s := s) (idx := []) (va_AOA.use (A := #[]) hKn.2.2.2.1.1)
  have f4 : s.vm.findClass ("[" ++ (FieldType.array .int).toString) = some (G9.2.1 4) := (hKn.1.2 4 _ rfl).2
  have f1 : s.vm.findClass ("[" ++ (FieldType.int).toString) = some (G9.2.1 1) := (hKn.1.2 1 _ rfl).2
  have ec : c9 = G9.2.1 4 := Option.some.inj (g5.symm.trans f4)
  have ek : comp = G9.2.1 1 := Option.some.inj (g1.symm.trans f1)
  subst ec; subst ek
  obtain ⟨-, kB, hkB, -⟩ := (hKn.1.2 1 _ rfl).1 0 (fun _ => .null)
  refine W.aast hx hb hat (fun q h => by cases h) (fun h => by cases h) g3 g4 rfl hkB ⟨fun q => hin (Or.inl q), by show _ < (arrV _ _ _).slots.size; rw [arrV_size, e1]; exact hlt⟩ hatb (fun q h => by cases h) hkB (xas_same _ _) rfl rfl dd fun H1 e z oq => ?_
  rw [e1] at e ⊢
  refine k _ rfl H1 _ ls (by rw [z]; exact a1) (xRp_upd (e' := .inl (G9.2.1 4, xn t a, .inr (.inr (.inr (.inr (va_up (fun i => xr t a i) j.toNat (some b))))))) (a := a) a2 (by omega) z oq ?_ (xE_upQ (ki := 17) hk (by decide) (by decide)) rfl (fun _ => rfl) (fun _ => rfl)) a3
  show H1[a]? = some (vp_cell _ _)
  rw [e]
  rw [vp_cell_q, vp_cell_q, arrV_store]
  congr 2
  funext q
  by_cases hq : q = j.toNat
  · subst hq
    simp [updV, va_up, va_rf]
  · simp [updV, va_up, hq]
/-- a Road, or null, into Road[] -/
theorem xJ_aastD {a : Nat} {x : Option Nat} {j : Int} (h : xC X own nm cc n r d G) (dd : decode cc pc = .ok (.aastore, 1)) (hk : xk t a = 18) (hkb : ∀ b, x = some b → xk t b = 20) (h0 : 0 ≤ j) (h1 : j < xn t a) (k : ∀ t', t' = xwr t a j.toNat x → xJ X cells slots t' M (pc + 1) L st) : xJ X cells slots t M pc L (va_rf x :: vi j :: vr a :: st) := by
  obtain ⟨p, l, e, R, s, m, args, below, meth, c, G9, Po, Px, mc, ms⟩ := X
  obtain ⟨hx, hb, hml, hown, hts, hr, hlk, hKn, hSs, hnm, hR, hG, hst⟩ := h
  subst hG
  intro H locs ls a1 a2 a3
  have h3 := a2.2.2.1 a
  have hat := xRp_at a2 (a := a) (by omega)
  rw [xE_ref hk (by decide) (by decide)] at hat
  have hat : H[a]? = some (vp_cell (G9.2.1 5) (xn t a, .inr (.inr (.inr (.inr (fun j => xr t a j)))))) := hat
  have hin := xI_in h3 h0 h1
  have hlt : j.toNat < xn t a := by omega
  have e1 := (xI_ti h0 (Int.lt_trans h1 (by omega))).1
  cases x with
  | none =>
    refine va_WaastN (C := "PacketTollLaw$Road") hx hb hat ((hKn.1.2 5 _ rfl).1 (xn t a) (fun j => va_rf (xr t a j))) (fun h => by cases h) (by show ¬ (_ ∨ (arrV _ _ _).slots.size ≤ _); rw [arrV_size]; exact hin) rfl rfl dd fun H1 e z oq => ?_
    rw [e1] at e ⊢
    refine k _ rfl H1 _ ls (by rw [z]; exact a1) (xRp_upd (e' := .inl (G9.2.1 5, xn t a, .inr (.inr (.inr (.inr (va_up (fun i => xr t a i) j.toNat none)))))) (a := a) a2 (by omega) z oq ?_ (xE_upQ (ki := 18) hk (by decide) (by decide)) rfl (fun _ => rfl) (fun _ => rfl)) a3
    show H1[a]? = some (vp_cell _ _)
    rw [e]
    rw [vp_cell_q, vp_cell_q, arrV_store]
    congr 2
    funext q
    by_cases hq : q = j.toNat
    · subst hq
      simp [updV, va_up, va_rf]
    · simp [updV, va_up, hq]
  | some b =>
    have hkb := hkb b rfl
    have hatb := xRp_at a2 (a := b) (by omega)
    rw [xE_obj hkb (by decide)] at hatb
    obtain ⟨q', hq', cellV, g1, g2, g3, -⟩ := hatb
    have hcls := (hKn.1.1 20 q' hq').2
    have hq9 : q' = (RX14, TX14, 14) := (Option.some.inj hq').symm
    obtain ⟨kA, comp, k1, k2, k3, -⟩ := (hKn.1.2 5 _ rfl).2
    have hcomp : comp = G9.1.1 20 := by
      have := hcls.1
      rw [hq9] at this
      exact Option.some.inj (k3.symm.trans this)
    subst hcomp
    obtain ⟨kC, hkC, -⟩ := hcls.2
    refine W.aast hx hb hat (fun q h => by cases h) (fun h => by cases h) k1 k2 rfl hkC ⟨fun q => hin (Or.inl q), by show _ < (arrV _ _ _).slots.size; rw [arrV_size, e1]; exact hlt⟩ g1 (fun q h => by rw [g3] at h; cases h) (by rw [g2]; exact hkC) (by rw [g2]; exact va_assign hcls) rfl rfl dd fun H1 e z oq => ?_
    rw [e1] at e ⊢
    refine k _ rfl H1 _ ls (by rw [z]; exact a1) (xRp_upd (e' := .inl (G9.2.1 5, xn t a, .inr (.inr (.inr (.inr (va_up (fun i => xr t a i) j.toNat (some b))))))) (a := a) a2 (by omega) z oq ?_ (xE_upQ (ki := 18) hk (by decide) (by decide)) rfl (fun _ => rfl) (fun _ => rfl)) a3
    show H1[a]? = some (vp_cell _ _)
    rw [e]
    rw [vp_cell_q, vp_cell_q, arrV_store]
    congr 2
    funext q
    by_cases hq : q = j.toNat
    · subst hq
      simp [updV, va_up, va_rf]
    · simp [updV, va_up, hq]
theorem xJ_newA {idx : Nat} {nn : Int} (h : xC X own nm cc n r d G) (hB : xB X mc ms Po Px) (dd : decode cc pc = .ok (.anewarray idx, 3)) (hw : Cond.classLink own idx "[I" ∈ xT) (h0 : 0 ≤ nn) (h1 : nn ≤ 1000000) (hc : cells + 1 ≤ mc) (hs : slots + nn.toNat ≤ ms) (k : ∀ t', t' = xnw t 17 nn.toNat → xJ X (cells + 1) (slots + nn.toNat) t' (xw0 M (xz t)) (pc + 3) L (vr (xz t) :: st)) : xJ X cells slots t M pc L (vi nn :: st) := by
  obtain ⟨p, l, e, R, s, m, args, below, meth, c, G9, Po9, Px9, mc9, ms9⟩ := X
  obtain ⟨hx, hb, hml, hown, hts, hr, hlk, hKn, hSs, hnm, rfl, rfl, hst⟩ := h
  obtain ⟨rfl, rfl, rfl, rfl, hnil⟩ := hB
  intro H locs ls a1 a2 a3
  obtain ⟨i1, j1⟩ := xI_ti h0 (by omega)
  refine W.anewA (t := .int) hx hb hown (hts _ hw) (va_AOA.use hKn.2.2.2.1.1) rfl dd rfl j1 (by rw [i1]; omega) hc (by rw [i1]; exact hs) fun cA kA comp f1 f2 f3 f4 => ?_
  rw [i1]
  have g4 : s.vm.findClass ("[" ++ (FieldType.array .int).toString) = some (G9.2.1 4) := (hKn.1.2 4 _ rfl).2
  have hcA : cA = G9.2.1 4 := Option.some.inj (f1.symm.trans g4)
  subst hcA
  have hz := a2.2.1
  generalize hH1 : H.push ({ cls := G9.2.1 4, slots := Array.replicate nn.toNat .null, vm := .none } : Cell) = H1
  have z1 : H1.size = H.size + 1 := by rw [← hH1, Array.size_push]
  have e1 : H1[H.size]? = some (arrV (G9.2.1 4) nn.toNat (fun _ => .null)) := by rw [← hH1, Array.getElem?_push_size, ← arrV_new]
  have o1 : ∀ q : Nat, q < H.size → H1[q]? = H[q]? := fun q hq => by rw [← hH1, Array.getElem?_push, if_neg (Nat.ne_of_lt hq)]
  rw [hz]
  refine k _ rfl H1 locs ls (by omega) (xRp_new a2 (by decide) (by omega) z1 o1 ?_) a3
  rw [xE_ref (ki := 17) (by simp [xk, xnw]) (by decide) (by decide), xn_new, show (fun j => xr (xnw t 17 nn.toNat) (xz t) j) = fun _ => none from funext fun j => xr_new]
  exact e1
theorem xJ_newD {idx : Nat} {nn : Int} (h : xC X own nm cc n r d G) (hB : xB X mc ms Po Px) (dd : decode cc pc = .ok (.anewarray idx, 3)) (hw : Cond.classLink own idx "PacketTollLaw$Road" ∈ xT) (h0 : 0 ≤ nn) (h1 : nn ≤ 1000000) (hc : cells + 1 ≤ mc) (hs : slots + nn.toNat ≤ ms) (k : ∀ t', t' = xnw t 18 nn.toNat → xJ X (cells + 1) (slots + nn.toNat) t' (xw0 M (xz t)) (pc + 3) L (vr (xz t) :: st)) : xJ X cells slots t M pc L (vi nn :: st) := by
  obtain ⟨p, l, e, R, s, m, args, below, meth, c, G9, Po9, Px9, mc9, ms9⟩ := X
  obtain ⟨hx, hb, hml, hown, hts, hr, hlk, hKn, hSs, hnm, rfl, rfl, hst⟩ := h
  obtain ⟨rfl, rfl, rfl, rfl, hnil⟩ := hB
  intro H locs ls a1 a2 a3
  obtain ⟨i1, j1⟩ := xI_ti h0 (by omega)
  refine W.anew hx hb hown (hts _ hw) (va_AO.use hKn.2.2.2.1.2) rfl dd rfl j1 (by rw [i1]; omega) hc (by rw [i1]; exact hs) fun cA kA comp f1 f2 f3 f4 => ?_
  rw [i1]
  obtain ⟨kA', comp', g1, g2, g3, g4⟩ := (hKn.1.2 5 _ rfl).2
  have hcA : cA = G9.2.1 5 := Option.some.inj (f1.symm.trans g4)
  subst hcA
  have hz := a2.2.1
  generalize hH1 : H.push ({ cls := G9.2.1 5, slots := Array.replicate nn.toNat .null, vm := .none } : Cell) = H1
  have z1 : H1.size = H.size + 1 := by rw [← hH1, Array.size_push]
  have e1 : H1[H.size]? = some (arrV (G9.2.1 5) nn.toNat (fun _ => .null)) := by rw [← hH1, Array.getElem?_push_size, ← arrV_new]
  have o1 : ∀ q : Nat, q < H.size → H1[q]? = H[q]? := fun q hq => by rw [← hH1, Array.getElem?_push, if_neg (Nat.ne_of_lt hq)]
  rw [hz]
  refine k _ rfl H1 locs ls (by omega) (xRp_new a2 (by decide) (by omega) z1 o1 ?_) a3
  rw [xE_ref (ki := 18) (by simp [xk, xnw]) (by decide) (by decide), xn_new, show (fun j => xr (xnw t 18 nn.toNat) (xz t) j) = fun _ => none from funext fun j => xr_new]
  exact e1
/-- int[].clone() -/
theorem xJ_clone {idx a : Nat} (h : xC X own nm cc n r d G) (hB : xB X mc ms Po Px) (dd : decode cc pc = .ok (.invokevirtual idx, 3)) (hlink : Cond.methodLink own idx ⟨"[I", "clone", "()Ljava/lang/Object;"⟩ ∈ xT) (hsame : Cond.sameMethod "[I" "java/lang/Object" "clone" "()Ljava/lang/Object;" ∈ xT)
    (hnat : Cond.native ⟨"java/lang/Object", "clone", "()Ljava/lang/Object;"⟩ ∈ xT) (hinst : Cond.instanceMethod ⟨"java/lang/Object", "clone", "()Ljava/lang/Object;"⟩ ∈ xT)
    (hsel : Cond.selects "[I" ⟨"[I", "clone", "()Ljava/lang/Object;"⟩ ⟨"java/lang/Object", "clone", "()Ljava/lang/Object;"⟩ ∈ xT) (hLn : L.length = n) (hd : 1 ≤ d) (hst8 : (st.map fun v => v.category).sum ≤ 8) (hk : xk t a = 14) (hc : cells + 1 ≤ mc) (hs : slots + xn t a ≤ ms)
    (k : ∀ t', t' = xnw t 14 (xn t a) → xJ X (cells + 1) (slots + xn t a) t' (xcl M a (xz t)) (pc + 3) L (vr (xz t) :: st)) : xJ X cells slots t M pc L (vr a :: st) := by
  obtain ⟨p, l, e, R, s, m, args, below, meth, c, G9, Po9, Px9, mc9, ms9⟩ := X
  obtain ⟨hx, hb, hml, hown, hts, hr, hlk, hKn, hSs, hnm, rfl, rfl, hst⟩ := h
  obtain ⟨rfl, rfl, rfl, rfl, hnil⟩ := hB
  intro H locs ls a1 a2 a3
  have h3 := a2.2.2.1 a
  have hat := xRp_at a2 (a := a) (by omega)
  rw [xE_int hk (by decide) (by decide)] at hat
  have hat : H[a]? = some (arrV (G9.2.1 1) (xn t a) (fun i => .int (Int32.ofInt (M a i)))) := hat
  have hnm1 : s.vm.findClass ("[" ++ (FieldType.int).toString) = some (G9.2.1 1) := (hKn.1.2 1 _ rfl).2
  have hnm2 : s.vm.findClass "[I" = some (G9.2.1 1) := hnm1
  obtain ⟨c0, t0', f1, f2, f3⟩ := Cond.castable_spec (va_Nw.use (A := args) rfl (hKn.2.2.2.2.1 _ (show Cond.castable "[I" "java/lang/Cloneable" ∈ xOn from List.mem_append_left _ (List.mem_map.mpr ⟨("[I", "java/lang/Cloneable"), by decide +kernel, rfl⟩))))
  cases hnm2.symm.trans f1
  have hcz : (arrV (G9.2.1 1) (xn t a) (fun i => Value.int (Int32.ofInt (M a i)))).slots.size = xn t a := arrV_size _ _ _
  intro T hT X9
  have hcellT : T.heap[a]? = some (arrV (G9.2.1 1) (xn t a) (fun i => .int (Int32.ofInt (M a i)))) := by rw [hT]; exact hat
  obtain ⟨-, kA, hkA, comp, hkind⟩ := State.isArrayOf_alike X9.warmed.alike ((hKn.1.2 1 _ rfl).1 0 (fun _ => .null))
  obtain ⟨-, kS, hkS, compS, hkindS⟩ := (hKn.1.2 1 _ rfl).1 0 (fun _ => .null)
  obtain ⟨vm', X', stp⟩ := X9.cloneArray hx hown (hts _ hlink) (hts _ hsame) (hts _ hnat) (hts _ hinst) (hts _ hsel) (a := a) (cell := arrV (G9.2.1 1) (xn t a) (fun i => .int (Int32.ofInt (M a i)))) hcellT (fun k h => by cases h) (fun h => by cases h) hnm2 f2 f3
    (fun i v hv => by
      have hk' : T.vm.classes[G9.2.1 1]? = some kA := hkA
      have hfi : fits .int v = true := by
        by_cases hi : i < xn t a
        · rw [arrV_read _ _ hi] at hv
          cases hv; rfl
        · rw [Array.getElem?_eq_none (by rw [arrV_size]; omega)] at hv
          cases hv
      show T.fitsSlot (G9.2.1 1) _ _ _ = true
      simpa [State.fitsSlot, State.slotType?, hk', hkind] using hfi)
    (g := F0 m pc ls (.ref a :: st)) rfl (by rw [hml]; exact a3.1.trans hLn) rfl (by rw [hb]; exact dd) (show 1 ≤ d from hd) (by show 2 * 0 + _ + 14 ≤ 64 * d; omega) hc (by rw [hcz]; exact hs) (hloader := Vm.clonesLoader_of_array hkS hkindS)
  have hcellE : ({ cls := (arrV (G9.2.1 1) (xn t a) (fun i => Value.int (Int32.ofInt (M a i)))).cls, slots := (arrV (G9.2.1 1) (xn t a) (fun i => Value.int (Int32.ofInt (M a i)))).slots } : Cell) = arrV (G9.2.1 1) (xn t a) (fun i => .int (Int32.ofInt (M a i))) := rfl
  rw [hcellE, hcz] at X'
  generalize hH1 : H.push (arrV (G9.2.1 1) (xn t a) (fun i => Value.int (Int32.ofInt (M a i)))) = H1
  have z1 : H1.size = H.size + 1 := by rw [← hH1, Array.size_push]
  have e1 : H1[H.size]? = some (arrV (G9.2.1 1) (xn t a) (fun i => .int (Int32.ofInt (M a i)))) := by rw [← hH1, Array.getElem?_push_size]
  have o1 : ∀ q : Nat, q < H.size → H1[q]? = H[q]? := fun q hq => by rw [← hH1, Array.getElem?_push, if_neg (Nat.ne_of_lt hq)]
  have hz := a2.2.1
  obtain ⟨t2, b1, b2⟩ := k _ rfl H1 locs ls (by omega) (by
    obtain ⟨c1, c2, c3, Ld, c4, c5, c6⟩ := id a2
    have hup : xRp G9 (xnw t 14 (xn t a)) (xcl M a (xz t)) H1 locs := by
      refine xRp_newM a2 (by decide) h3 z1 o1 (M' := xcl M a (xz t)) (fun b hb => by unfold xcl; funext j; rw [if_neg hb]) ?_
      rw [xE_int (ki := 14) (by simp [xk, xnw]) (by decide) (by decide), xn_new, show (fun j => Int32.ofInt (xcl M a (xz t) (xz t) j)) = fun j => Int32.ofInt (M a j) from funext fun j => by simp [xcl]]
      exact e1
    exact hup) a3 _ (by rw [← hH1, ← hT]; rfl) X'
  refine ⟨t2, ?_, b2⟩
  rw [hz.symm] at b1
  refine stp t2 ?_
  rw [hT]
  exact b1
theorem xJ_aretO {x : Option Nat} {ty : FieldType} (h : xC X own nm cc n (some ty) d G) (hB : xB X mc ms Po Px) (dd : decode cc pc = .ok (.areturn, 1)) (hty : (∃ q, ty = .object q) ∨ ∃ q, ty = .array q) (hc : cells ≤ mc) (hs : slots ≤ ms) (hp : Po (some (va_rf x)) t M) : xJ X cells slots t M pc L [va_rf x] :=
  xJ_aret h hB dd hty (by cases x; exact Or.inl rfl; exact Or.inr ⟨_, rfl⟩) hc hs hp
end XDY
/-! the same rules, with names for what is new -/
theorem xke_le {t t' : xTh} (h : xle t t') : xke t t' := fun b hb => ⟨(h.2 b hb).1, fun _ => (h.2 b hb).2.1⟩
theorem xke_qw {t t' : xTh} (h : xqw t t') : xke t t' := by
  obtain ⟨z, u, rfl, hs⟩ := h
  exact fun b hb => ⟨(hs.1.2 b hb).1, fun _ => (hs.1.2 b hb).2.1⟩
theorem xnr_ob (s : String) (x : Option Nat) : narrow (.object s) (va_rf x) = va_rf x := by cases x <;> rfl
theorem xft_ob (s : String) (x : Option Nat) : fits (.object s) (va_rf x) = true := by cases x <;> rfl
section XDZ
variable {X : xCx} {own nm : String} {cc : ByteArray} {n d : Nat} {r : Option FieldType} {G : xGx} {cells slots mc ms : Nat} {t : xTh} {M : xMe} {pc : Nat} {L st : List Value} {Po : Option Value → xTh → xMe → Prop} {Px : String → xTh → xMe → Prop}
theorem xJ_putRE {a idx ci j N : Nat} {C : String} {T : u_T} {ty : Nat → FieldType} {x : Option Nat} (h : xC X own nm cc n r d G) (dd : decode cc pc = .ok (.putfield idx, 3)) (hf : xFd own idx ci j C T N) (hty : xFt C T N ty) (hi : (xFr.getD ci [])[j]? = some true) (hfin : (T j).2.2.2 = false) (hn : narrow (ty j) (va_rf x) = va_rf x) (hfit : fits (ty j) (va_rf x) = true) (hk : xk t a = ci) (k : ∀ t', t' = xwr t a j x → xke t t' → xJ X cells slots t' M (pc + 3) L st) : xJ X cells slots t M pc L (va_rf x :: vr a :: st) :=
  xJ_putR h dd hf hty hi hfin hn hfit hk (k _ rfl (xke_wr rfl))
theorem xJ_aastIE {a b : Nat} {j : Int} (h : xC X own nm cc n r d G) (dd : decode cc pc = .ok (.aastore, 1)) (hk : xk t a = 17) (hkb : xk t b = 14) (h0 : 0 ≤ j) (h1 : j < xn t a) (k : ∀ t', t' = xwr t a j.toNat (some b) → xke t t' → xJ X cells slots t' M (pc + 1) L st) : xJ X cells slots t M pc L (vr b :: vi j :: vr a :: st) :=
  xJ_aastI h dd hk hkb h0 h1 (fun t' e => k t' e (xke_wr e))
theorem xJ_aastDE {a : Nat} {x : Option Nat} {j : Int} (h : xC X own nm cc n r d G) (dd : decode cc pc = .ok (.aastore, 1)) (hk : xk t a = 18) (hkb : ∀ b, x = some b → xk t b = 20) (h0 : 0 ≤ j) (h1 : j < xn t a) (k : ∀ t', t' = xwr t a j.toNat x → xke t t' → xJ X cells slots t' M (pc + 1) L st) : xJ X cells slots t M pc L (va_rf x :: vi j :: vr a :: st) :=
  xJ_aastD h dd hk hkb h0 h1 (fun t' e => k t' e (xke_wr e))
theorem xJ_newE {idx ci N : Nat} {C : String} {T : u_T} {ty : Nat → FieldType} (h : xC X own nm cc n r d G) (hB : xB X mc ms Po Px) (hM : xMR M) (dd : decode cc pc = .ok (.new idx, 3)) (hci : vwCl[ci]? = some (C, T, N)) (hc13 : ci < 13 ∨ (18 < ci ∧ ci < 23)) (hty : xFt C T N ty) (hws : ∀ w ∈ u_ws C T N, w ∈ xT) (hw1 : Cond.classLink own idx C ∈ xT) (hw2 : Cond.instantiable C N ∈ xT) (hw3 : Cond.initialized C ∈ xT) (hN : (xFr.getD ci []).length = N) (hdef : ∀ j, j < N → defaultValue (ty j) = if (xFr.getD ci []).getD j false then .null else vi 0) (hc : cells + 1 ≤ mc) (hs : slots + N ≤ ms)
    (k : ∀ a t' M', a = xz t → t' = xnw t ci 0 → M' = xw0 M a → xMR M' → xke t t' → xk t' a = ci → xJ X (cells + 1) (slots + N) t' M' (pc + 3) L (vr a :: st)) : xJ X cells slots t M pc L st :=
  xJ_live fun hl => xJ_new h hB dd hci hc13 hty hws hw1 hw2 hw3 hN hdef hc hs (k _ _ _ rfl rfl rfl (xMR_n0 hM) (xke_nw hl rfl) (xkN_k rfl))
theorem xJ_newIE {nn : Int} (h : xC X own nm cc n r d G) (hB : xB X mc ms Po Px) (hM : xMR M) (dd : decode cc pc = .ok (.newarray .int, 2)) (hw : Cond.arrayClass .int ∈ xT) (h0 : 0 ≤ nn) (h1 : nn ≤ 1000000) (hc : cells + 1 ≤ mc) (hs : slots + nn.toNat ≤ ms)
    (k : ∀ a t' M', a = xz t → t' = xnw t 14 nn.toNat → M' = xw0 M a → xMR M' → xke t t' → xk t' a = 14 → xJ X (cells + 1) (slots + nn.toNat) t' M' (pc + 2) L (vr a :: st)) : xJ X cells slots t M pc L (vi nn :: st) :=
  xJ_live fun hl => xJ_newI h hB dd hw h0 h1 hc hs (k _ _ _ rfl rfl rfl (xMR_n0 hM) (xke_nw hl rfl) (xkN_k rfl))
theorem xJ_newJE {nn : Int} (h : xC X own nm cc n r d G) (hB : xB X mc ms Po Px) (hM : xMR M) (dd : decode cc pc = .ok (.newarray .long, 2)) (hw : Cond.arrayClass .long ∈ xT) (h0 : 0 ≤ nn) (h1 : nn ≤ 1000000) (hc : cells + 1 ≤ mc) (hs : slots + nn.toNat ≤ ms)
    (k : ∀ a t' M', a = xz t → t' = xnw t 15 nn.toNat → M' = xw0 M a → xMR M' → xke t t' → xk t' a = 15 → xJ X (cells + 1) (slots + nn.toNat) t' M' (pc + 2) L (vr a :: st)) : xJ X cells slots t M pc L (vi nn :: st) :=
  xJ_live fun hl => xJ_newJ h hB dd hw h0 h1 hc hs (k _ _ _ rfl rfl rfl (xMR_n0 hM) (xke_nw hl rfl) (xkN_k rfl))
theorem xJ_newAE {idx : Nat} {nn : Int} (h : xC X own nm cc n r d G) (hB : xB X mc ms Po Px) (hM : xMR M) (dd : decode cc pc = .ok (.anewarray idx, 3)) (hw : Cond.classLink own idx "[I" ∈ xT) (h0 : 0 ≤ nn) (h1 : nn ≤ 1000000) (hc : cells + 1 ≤ mc) (hs : slots + nn.toNat ≤ ms)
    (k : ∀ a t' M', a = xz t → t' = xnw t 17 nn.toNat → M' = xw0 M a → xMR M' → xke t t' → xk t' a = 17 → xJ X (cells + 1) (slots + nn.toNat) t' M' (pc + 3) L (vr a :: st)) : xJ X cells slots t M pc L (vi nn :: st) :=
  xJ_live fun hl => xJ_newA h hB dd hw h0 h1 hc hs (fun t' e => k _ _ _ rfl e rfl (xMR_n0 hM) (xke_nw hl e) (xkN_k e))
theorem xJ_newDE {idx : Nat} {nn : Int} (h : xC X own nm cc n r d G) (hB : xB X mc ms Po Px) (hM : xMR M) (dd : decode cc pc = .ok (.anewarray idx, 3)) (hw : Cond.classLink own idx "PacketTollLaw$Road" ∈ xT) (h0 : 0 ≤ nn) (h1 : nn ≤ 1000000) (hc : cells + 1 ≤ mc) (hs : slots + nn.toNat ≤ ms)
    (k : ∀ a t' M', a = xz t → t' = xnw t 18 nn.toNat → M' = xw0 M a → xMR M' → xke t t' → xk t' a = 18 → xJ X (cells + 1) (slots + nn.toNat) t' M' (pc + 3) L (vr a :: st)) : xJ X cells slots t M pc L (vi nn :: st) :=
  xJ_live fun hl => xJ_newD h hB dd hw h0 h1 hc hs (fun t' e => k _ _ _ rfl e rfl (xMR_n0 hM) (xke_nw hl e) (xkN_k e))
theorem xJ_cloneE {idx a : Nat} (h : xC X own nm cc n r d G) (hB : xB X mc ms Po Px) (hM : xMR M) (dd : decode cc pc = .ok (.invokevirtual idx, 3)) (hlink : Cond.methodLink own idx ⟨"[I", "clone", "()Ljava/lang/Object;"⟩ ∈ xT) (hsame : Cond.sameMethod "[I" "java/lang/Object" "clone" "()Ljava/lang/Object;" ∈ xT)
    (hnat : Cond.native ⟨"java/lang/Object", "clone", "()Ljava/lang/Object;"⟩ ∈ xT) (hinst : Cond.instanceMethod ⟨"java/lang/Object", "clone", "()Ljava/lang/Object;"⟩ ∈ xT)
    (hsel : Cond.selects "[I" ⟨"[I", "clone", "()Ljava/lang/Object;"⟩ ⟨"java/lang/Object", "clone", "()Ljava/lang/Object;"⟩ ∈ xT) (hLn : L.length = n) (hd : 1 ≤ d) (hst8 : (st.map fun v => v.category).sum ≤ 8) (hk : xk t a = 14) (hc : cells + 1 ≤ mc) (hs : slots + xn t a ≤ ms)
    (k : ∀ b t' M', b = xz t → t' = xnw t 14 (xn t a) → M' = xcl M a b → xMR M' → xke t t' → xk t' b = 14 → xJ X (cells + 1) (slots + xn t a) t' M' (pc + 3) L (vr b :: st)) : xJ X cells slots t M pc L (vr a :: st) :=
  xJ_live fun hl => xJ_clone h hB dd hlink hsame hnat hinst hsel hLn hd hst8 hk hc hs (fun t' e => k _ _ _ rfl e rfl (xMR_cl hM) (xke_nw hl e) (xkN_k e))
/-- checkcast of an int[][]'s row: nothing happens -/
theorem xJ_aaldOb {a b : Nat} {j : Int} (h : xC X own nm cc n r d G) (dd : decode cc pc = .ok (.aaload, 1)) (hk : xk t a = 17) (h0 : 0 ≤ j) (h1 : j < xn t a) (hb : xr t a j.toNat = some b) (k : xJ X cells slots t M (pc + 1) L (vr b :: st)) : xJ X cells slots t M pc L (vi j :: vr a :: st) :=
  xJ_aaldI h dd hk h0 h1 (by rw [hb]; exact k)
end XDZ
theorem xR_us (x : Int) : xR (x % 4294967296 / 65536) := by
  have h0 : 0 ≤ x % 4294967296 := Int.emod_nonneg x (by decide)
  have h1 : x % 4294967296 < 4294967296 := Int.emod_lt_of_pos x (by decide)
  exact ⟨by omega, by omega⟩
theorem xJ_ccA {X : xCx} {own nm : String} {cc : ByteArray} {n d : Nat} {r : Option FieldType} {G : xGx} {cells slots : Nat} {t : xTh} {M : xMe} {pc : Nat} {L st : List Value} {idx a : Nat} (h : xC X own nm cc n r d G) (dd : decode cc pc = .ok (.checkcast idx, 3)) (hw : Cond.classLink own idx "[I" ∈ xT) (hk : xk t a = 14) (k : xJ X cells slots t M (pc + 3) L (vr a :: st)) : xJ X cells slots t M pc L (vr a :: st) := by
  obtain ⟨p, l, e, R, s, m, args, below, meth, c, G9, Po9, Px9, mc9, ms9⟩ := X
  obtain ⟨hx, hb, hml, hown, hts, hr, hlk, hKn, hSs, hnm, rfl, rfl, hst⟩ := h
  intro H locs ls a1 a2 a3
  obtain ⟨b1, b2, b3, Ld, b4, b5, b6⟩ := id a2
  obtain ⟨q0, hq0⟩ := va_pl_get (X := []) (f := xE G9.2.1 t M) ((b4 a).mpr (by omega))
  rw [xE_int hk (by decide) (by decide)] at hq0
  have f1 : s.vm.findClass ("[" ++ (FieldType.int).toString) = some (G9.2.1 1) := (hKn.1.2 1 _ rfl).2
  exact va_castA (D := G9.1) (cl := vwCl) hx hb hown (hts _ hw) b5 q0 hq0 f1 dd (k H locs ls a1 a2 a3)
/-- many new cells at once -/
theorem xRp_many {G : xGx} {t t' : xTh} {M M' : xMe} {H H1 : Heap} {locs : List Loc} (h : xRp G t M H locs) (z : H1.size = xz t') (hle : xz t ≤ xz t') (oq : ∀ q : Nat, q < H.size → H1[q]? = H[q]?) (hold : ∀ b, b < xz t → xk t' b = xk t b ∧ xn t' b = xn t b ∧ (∀ j, xr t' b j = xr t b j) ∧ ∀ j, M' b j = M b j) (hnew : ∀ b, xz t ≤ b → b < xz t' → xk t' b ≤ 22 ∧ va_at G.1 vwCl (b, xE G.2.1 t' M' b) H1) (hout : ∀ b, xz t' ≤ b → 22 < xk t' b) (hn : ∀ b, xn t' b < 2147483648) : xRp G t' M' H1 locs := by
  have hlv := xRp_live h
  obtain ⟨b1, b2, b3, Ld, b4, b5, b6⟩ := h
  have hmem : ∀ a, a ∈ Ld → a < xz t := fun a ha => hlv a ((b4 a).mp ha)
  refine ⟨⟨Nat.le_trans b1.1 (by omega), fun x h1 h2 => (oq x (Nat.lt_of_lt_of_le h1 b1.1)).trans (b1.2.1 x h1 h2), b1.2.2⟩, z, hn, Ld ++ (List.range (xz t' - xz t)).map (fun i => xz t + i), fun a => ?_, ?_, ?_⟩
  · rw [List.mem_append, List.mem_map]
    by_cases ha : a < xz t
    · rw [(hold a ha).1, ← b4 a]
      refine ⟨fun q => q.resolve_right ?_, Or.inl⟩
      rintro ⟨i, -, rfl⟩
      omega
    · by_cases ha2 : a < xz t'
      · refine ⟨fun _ => (hnew a (by omega) ha2).1, fun _ => Or.inr ⟨a - xz t, List.mem_range.mpr (by omega), by omega⟩⟩
      · have := hout a (by omega)
        refine ⟨?_, fun q => by omega⟩
        rintro (q | ⟨i, hi, rfl⟩)
        · exact absurd (hmem a q) ha
        · have := List.mem_range.mp hi
          omega
  · intro k q hq
    obtain ⟨a, ha, rfl⟩ := List.mem_map.mp (List.mem_of_getElem? hq)
    rcases List.mem_append.mp ha with ha | ha
    · obtain ⟨k9, hk9⟩ := va_pl_get (X := []) (f := xE G.2.1 t M) ha
      have h9 := b5 k9 _ hk9
      have hlt := hmem a ha
      obtain ⟨e1, e2, e3, e4⟩ := hold a hlt
      rw [xE_off e1 e2 e3 e4]
      exact h9.kept (oq a (by omega))
    · obtain ⟨i, hi, rfl⟩ := List.mem_map.mp ha
      exact (hnew _ (by omega) (by have := List.mem_range.mp hi; omega)).2
  · have hap : ∀ (i : Nat) (p : Nat × va_E), (va_pl (Ld ++ (List.range (xz t' - xz t)).map (fun i => xz t + i)) (xE G.2.1 t' M'))[i]? = some p → (i < Ld.length ∧ (va_pl Ld (xE G.2.1 t M))[i]? = some (p.1, xE G.2.1 t M p.1) ∧ p.1 < xz t) ∨ (Ld.length ≤ i ∧ p.1 = xz t + (i - Ld.length)) := by
      intro i p hp
      unfold va_pl at hp ⊢
      rw [List.getElem?_map] at hp
      by_cases hl : i < Ld.length
      · rw [List.getElem?_append_left hl] at hp
        left
        rw [List.getElem?_map]
        rw [List.getElem?_eq_getElem hl] at hp ⊢
        cases hp
        exact ⟨hl, rfl, hmem _ (List.getElem_mem hl)⟩
      · right
        rw [List.getElem?_append_right (by omega), List.getElem?_map] at hp
        by_cases hr : i - Ld.length < xz t' - xz t
        · rw [List.getElem?_range hr] at hp
          cases hp
          exact ⟨by omega, rfl⟩
        · rw [List.getElem?_eq_none (by rw [List.length_range]; omega)] at hp
          cases hp
    refine ⟨fun i j p q hp hq e => ?_, fun k q hq => ?_⟩
    · rcases hap i p hp with ⟨i1, i2, i3⟩ | ⟨i1, i2⟩ <;> rcases hap j q hq with ⟨j1, j2, j3⟩ | ⟨j1, j2⟩
      · exact b6.1 i j _ _ i2 j2 e
      · omega
      · omega
      · omega
    · rcases hap k q hq with ⟨i1, i2, i3⟩ | ⟨i1, i2⟩
      · have h9 := b6.2 k (q.1, xE G.2.1 t M q.1) i2
        exact h9
      · show G.2.2.1.size ≤ q.1
        have := b1.1
        omega
def xmn (t : xTh) (n k : Nat) : xTh := (xz t + 1 + n, (fun b => if b = xz t then 17 else if xz t < b ∧ b ≤ xz t + n then 14 else xk t b), (fun b => if b = xz t then n else if xz t < b ∧ b ≤ xz t + n then k else xn t b), fun b j => if b = xz t then (if j < n then some (xz t + 1 + j) else none) else if xz t < b ∧ b ≤ xz t + n then none else xr t b j)
def xm0 (M : xMe) (z n : Nat) : xMe := fun b j => if z ≤ b ∧ b ≤ z + n then 0 else M b j
theorem xJ_mna {X : xCx} {own nm : String} {cc : ByteArray} {n d : Nat} {r : Option FieldType} {G : xGx} {cells slots mc ms : Nat} {t : xTh} {M : xMe} {pc : Nat} {L st : List Value} {Po : Option Value → xTh → xMe → Prop} {Px : String → xTh → xMe → Prop} {idx : Nat} {nn kk : Int} (h : xC X own nm cc n r d G) (hB : xB X mc ms Po Px) (dd : decode cc pc = .ok (.multianewarray idx 2, 4)) (hcl : Cond.classLink own idx "[[I" ∈ xT) (h0 : 0 ≤ nn) (h1 : nn ≤ 1000) (h2 : 0 ≤ kk) (h3 : kk ≤ 10000) (hc : cells + (1 + nn.toNat) ≤ mc) (hs : slots + (nn.toNat + nn.toNat * kk.toNat) ≤ ms)
    (k : xJ X (cells + 1 + nn.toNat) (slots + nn.toNat + nn.toNat * kk.toNat) (xmn t nn.toNat kk.toNat) (xm0 M (xz t) nn.toNat) (pc + 4) L (vr (xz t) :: st)) : xJ X cells slots t M pc L (vi kk :: vi nn :: st) := by
  obtain ⟨p, l, e, R, s, m, args, below, meth, c, G9, Po9, Px9, mc9, ms9⟩ := X
  obtain ⟨hx, hb, hml, hown, hts, hr, hlk, hKn, hSs, hnm, rfl, rfl, hst⟩ := h
  obtain ⟨rfl, rfl, rfl, rfl, hnil⟩ := hB
  intro H locs ls a1 a2 a3 T hT Xs
  obtain ⟨i1, j1⟩ := xI_ti h0 (by omega)
  obtain ⟨i2, j2⟩ := xI_ti h2 (by omega)
  obtain ⟨vm₁, cA, comp, -, fA, fC, -, -, X', step⟩ := Xs.multianewarray2F (ty := .int) hx hown (hts _ hcl) (va_AOA.use hKn.2.2.2.1.1) (hts _ ac_int) (g := F0 m pc ls (vi kk :: vi nn :: st)) rfl (by rw [hb]; exact dd) rfl j1 j2 (by rw [i1]; omega) (by rw [i2]; show kk.toNat * 4 ≤ _; omega) (by rw [i2]; omega) rfl rfl (by rw [i1]; exact hc) (by rw [i1, i2]; exact hs)
  have hcA : cA = G9.2.1 4 := Option.some.inj (fA.symm.trans (hKn.1.2 4 _ rfl).2)
  have hcC : comp = G9.2.1 1 := Option.some.inj (fC.symm.trans (hKn.1.2 1 _ rfl).2)
  subst hcA
  subst hcC
  rw [i1, i2] at X' step
  generalize hF : Jvm.Free.Multi.fill (T.setVm vm₁) (G9.2.1 4) (G9.2.1 1) nn.toNat kk.toNat (defaultValue .int) nn.toNat = F at X' step
  have hTh : (T.setVm vm₁).heap = H := hT
  obtain ⟨f1, f2, -, -⟩ := Jvm.Free.Multi.fill_facts (T.setVm vm₁) (G9.2.1 4) (G9.2.1 1) nn.toNat kk.toNat (defaultValue .int) nn.toNat
  rw [hF, hTh] at f1 f2
  have hold : ∀ x : Nat, x < H.size → F.heap[x]? = H[x]? := fun x hx9 => by
    have := Jvm.Free.Multi.fill_old (T.setVm vm₁) (G9.2.1 4) (G9.2.1 1) nn.toNat kk.toNat (defaultValue .int) (a := x) (by rw [hTh]; exact hx9) nn.toNat
    rw [hF, hTh] at this
    exact this
  have hrow : ∀ j : Nat, j < nn.toNat → F.heap[H.size + 1 + j]? = some (Jvm.Free.Multi.innerC (G9.2.1 1) kk.toNat (defaultValue .int)) := fun j hj => by
    have := Jvm.Free.Multi.fill_inner (T.setVm vm₁) (G9.2.1 4) (G9.2.1 1) nn.toNat kk.toNat (defaultValue .int) nn.toNat j hj
    rw [hF, hTh] at this
    exact this
  have hz := a2.2.1
  have hlv := xRp_live a2
  suffices hR : xRp G9 (xmn t nn.toNat kk.toNat) (xm0 M (xz t) nn.toNat) F.heap locs by
    obtain ⟨u, q1, q2⟩ := k F.heap locs ls (by rw [f1]; omega) hR a3 F rfl X'
    exact ⟨u, step u (by rw [hT, hz]; exact q1), q2⟩
  refine xRp_many a2 (by rw [f1, hz]; rfl) (by show xz t ≤ xz t + 1 + _; omega) hold (fun b hb9 => ?_) (fun b g1 g2 => ?_) (fun b g1 => ?_) (fun b => ?_)
  · refine ⟨?_, ?_, fun j => ?_, fun j => ?_⟩
    · show (if b = xz t then 17 else if xz t < b ∧ b ≤ xz t + nn.toNat then 14 else xk t b) = _
      rw [if_neg (by omega), if_neg (by omega)]
    · show (if b = xz t then nn.toNat else if xz t < b ∧ b ≤ xz t + nn.toNat then kk.toNat else xn t b) = _
      rw [if_neg (by omega), if_neg (by omega)]
    · show (if b = xz t then (if j < nn.toNat then some (xz t + 1 + j) else none) else if xz t < b ∧ b ≤ xz t + nn.toNat then none else xr t b j) = _
      rw [if_neg (by omega), if_neg (by omega)]
    · unfold xm0
      rw [if_neg (by omega)]
  · have g2 : b < xz t + 1 + nn.toNat := g2
    by_cases e : b = xz t
    · have ek : xk (xmn t nn.toNat kk.toNat) b = 17 := by show (if b = xz t then 17 else _) = _; rw [if_pos e]
      refine ⟨by omega, ?_⟩
      rw [xE_ref ek (by decide) (by decide)]
      show F.heap[b]? = some (vp_cell _ _)
      have en : xn (xmn t nn.toNat kk.toNat) b = nn.toNat := by show (if b = xz t then nn.toNat else _) = _; rw [if_pos e]
      rw [en, e, ← hz, f2, vp_cell_q]
      rw [vr_outer (G9.2.1 4) nn.toNat H.size nn.toNat]
      congr 2
      funext j
      show _ = va_rf (if H.size = xz t then (if j < nn.toNat then some (xz t + 1 + j) else none) else _)
      rw [if_pos hz, hz]
    · have hb9 : xz t < b ∧ b ≤ xz t + nn.toNat := by omega
      have ek : xk (xmn t nn.toNat kk.toNat) b = 14 := by show (if b = xz t then 17 else if xz t < b ∧ b ≤ xz t + nn.toNat then 14 else xk t b) = _; rw [if_neg e, if_pos hb9]
      have en : xn (xmn t nn.toNat kk.toNat) b = kk.toNat := by show (if b = xz t then nn.toNat else if xz t < b ∧ b ≤ xz t + nn.toNat then kk.toNat else xn t b) = _; rw [if_neg e, if_pos hb9]
      refine ⟨by omega, ?_⟩
      rw [xE_int ek (by decide) (by decide), en]
      have := hrow (b - (xz t + 1)) (by omega)
      rw [hz, show xz t + 1 + (b - (xz t + 1)) = b by omega] at this
      show F.heap[b]? = some (arrV (G9.2.1 1) kk.toNat (fun j => .int (Int32.ofInt (xm0 M (xz t) nn.toNat b j))))
      rw [this, show (fun j => Value.int (Int32.ofInt (xm0 M (xz t) nn.toNat b j))) = fun _ => defaultValue .int from funext fun j => by unfold xm0; rw [if_pos (by omega)]; rfl]
      rw [← arrV_new]
      rfl
  · have g1 : xz t + 1 + nn.toNat ≤ b := g1
    show 22 < (if b = xz t then 17 else if xz t < b ∧ b ≤ xz t + nn.toNat then 14 else xk t b)
    rw [if_neg (by omega), if_neg (by omega)]
    exact Nat.lt_of_not_le fun q => absurd (hlv b q) (by omega)
  · show (if b = xz t then nn.toNat else if xz t < b ∧ b ≤ xz t + nn.toNat then kk.toNat else xn t b) < _
    split
    · omega
    · split
      · omega
      · exact a2.2.2.1 b
set_option maxRecDepth 100000 in
theorem wcl_link : Cond.methodLink RL 110 ⟨"[I", "clone", "()Ljava/lang/Object;"⟩ ∈ xT := List.mem_filter.mpr ⟨List.mem_append_right _ (List.mem_of_getElem? (i := 574) rfl), by rfl⟩
set_option maxRecDepth 100000 in
theorem wcl_same : Cond.sameMethod "[I" "java/lang/Object" "clone" "()Ljava/lang/Object;" ∈ xT := List.mem_filter.mpr ⟨List.mem_append_right _ (List.mem_of_getElem? (i := 575) rfl), by rfl⟩
set_option maxRecDepth 100000 in
theorem wcl_nat : Cond.native ⟨"java/lang/Object", "clone", "()Ljava/lang/Object;"⟩ ∈ xT := List.mem_filter.mpr ⟨List.mem_append_right _ (List.mem_of_getElem? (i := 576) rfl), by rfl⟩
set_option maxRecDepth 100000 in
theorem wcl_inst : Cond.instanceMethod ⟨"java/lang/Object", "clone", "()Ljava/lang/Object;"⟩ ∈ xT := List.mem_filter.mpr ⟨List.mem_append_right _ (List.mem_of_getElem? (i := 577) rfl), by rfl⟩
set_option maxRecDepth 100000 in
theorem wcl_sel : Cond.selects "[I" ⟨"[I", "clone", "()Ljava/lang/Object;"⟩ ⟨"java/lang/Object", "clone", "()Ljava/lang/Object;"⟩ ∈ xT := List.mem_filter.mpr ⟨List.mem_append_right _ (List.mem_of_getElem? (i := 578) rfl), by rfl⟩
theorem xMR_m0 {M : xMe} {z n : Nat} (h : xMR M) : xMR (xm0 M z n) := fun b j => by
  unfold xm0; split
  · exact ⟨by decide, by decide⟩
  · exact h b j
theorem xke_mn {t : xTh} {n k : Nat} (hl : xlive t) : xke t (xmn t n k) := by
  intro b hb
  have := hl b hb
  refine ⟨?_, ?_⟩
  · show (if b = xz t then 17 else if xz t < b ∧ b ≤ xz t + n then 14 else xk t b) = _
    rw [if_neg (by omega), if_neg (by omega)]
  · intro _
    show (if b = xz t then n else if xz t < b ∧ b ≤ xz t + n then k else xn t b) = _
    rw [if_neg (by omega), if_neg (by omega)]
theorem xJ_mnaE {X : xCx} {own nm : String} {cc : ByteArray} {n d : Nat} {r : Option FieldType} {G : xGx} {cells slots mc ms : Nat} {t : xTh} {M : xMe} {pc : Nat} {L st : List Value} {Po : Option Value → xTh → xMe → Prop} {Px : String → xTh → xMe → Prop} {idx : Nat} (h : xC X own nm cc n r d G) (hB : xB X mc ms Po Px) (hM : xMR M) (dd : decode cc pc = .ok (.multianewarray idx 2, 4)) (hcl : Cond.classLink own idx "[[I" ∈ xT) (hc : cells + 7 ≤ mc) (hs : slots + 42 ≤ ms)
    (k : ∀ a t' M', a = xz t → t' = xmn t 6 6 → M' = xm0 M a 6 → xMR M' → xke t t' → xk t' a = 17 → xJ X (cells + 1 + 6) (slots + 6 + 36) t' M' (pc + 4) L (vr a :: st)) : xJ X cells slots t M pc L (vi 6 :: vi 6 :: st) :=
  xJ_live fun hl => xJ_mna (nn := 6) (kk := 6) h hB dd hcl (by decide) (by decide) (by decide) (by decide) hc hs (k _ _ _ rfl rfl rfl (xMR_m0 hM) (xke_mn hl) (by show (if xz t = xz t then 17 else _) = _; rw [if_pos rfl]))
theorem xJ_lcmpE {X : xCx} {own nm : String} {cc : ByteArray} {n d : Nat} {r : Option FieldType} {G : xGx} {cells slots : Nat} {t : xTh} {M : xMe} {pc : Nat} {L st : List Value} {x y : Int} (h : xC X own nm cc n r d G) (dd : decode cc pc = .ok (.lcmp, 1)) (he : x = y) (k : xJ X cells slots t M (pc + 1) L (vi 0 :: st)) : xJ X cells slots t M pc L (vl y :: vl x :: st) := by
  subst he
  obtain ⟨p, l, e, R, s, m, args, below, meth, c, G9, Po9, Px9, mc9, ms9⟩ := X
  obtain ⟨hx, hb, hml, hown, hts, hr, hlk, hKn, hSs, hnm, rfl, rfl, hst⟩ := h
  intro H locs ls a1 a2 a3
  have k' := k H locs ls a1 a2 a3
  rw [show vi 0 = Value.int (lg_cmp (Int64.ofInt x) (Int64.ofInt x)) from congrArg Value.int (by unfold lg_cmp; rw [if_neg (Int64.lt_irrefl), if_pos rfl]; rfl)] at k'
  exact W.lcmp hx hb dd k'
