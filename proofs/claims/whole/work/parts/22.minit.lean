/-- many new cells at once -/
theorem xRp_many {G : xGx} {t t' : xTh} {M M' : xMe} {H H1 : Heap} {locs : List Loc} (h : xRp G t M H locs) (z : H1.size = xz t') (hle : xz t ≤ xz t') (oq : ∀ q : Nat, q < H.size → H1[q]? = H[q]?) (hold : ∀ b, b < xz t → xk t' b = xk t b ∧ xn t' b = xn t b ∧ (∀ j, xr t' b j = xr t b j) ∧ ∀ j, M' b j = M b j) (hnew : ∀ b, xz t ≤ b → b < xz t' → xk t' b ≤ 17 ∧ va_at G.1 vwCl (b, xE G.2.1 t' M' b) H1) (hout : ∀ b, xz t' ≤ b → 17 < xk t' b) (hn : ∀ b, xn t' b < 2147483648) : xRp G t' M' H1 locs := by
  have hlv := xRp_live h
  obtain ⟨b1, b2, b3, Ld, b4, b5, b6⟩ := h
  have hmem : ∀ a, a ∈ Ld → a < xz t := fun a ha => hlv a ((b4 a).mp ha)
  refine ⟨⟨Nat.le_trans b1.1 (by omega), fun x h1 h2 => (oq x (Nat.lt_of_lt_of_le h1 b1.1)).trans (b1.2.1 x h1 h2), b1.2.2⟩, z, hn, Ld ++ (List.range (xz t' - xz t)).map (fun i => xz t + i), fun a => ?_, ?_, ?_⟩
  · rw [List.mem_append, List.mem_map]
    by_cases ha : a < xz t
    · rw [(hold a ha).1, ← b4 a]
      refine ⟨fun q => q.resolve_right ?_, Or.inl⟩
      rintro ⟨i, -, rfl⟩
      omega
    · by_cases ha2 : a < xz t'
      · refine ⟨fun _ => (hnew a (by omega) ha2).1, fun _ => Or.inr ⟨a - xz t, List.mem_range.mpr (by omega), by omega⟩⟩
      · have := hout a (by omega)
        refine ⟨?_, fun q => by omega⟩
        rintro (q | ⟨i, hi, rfl⟩)
        · exact absurd (hmem a q) ha
        · have := List.mem_range.mp hi
          omega
  · intro k q hq
    obtain ⟨a, ha, rfl⟩ := List.mem_map.mp (List.mem_of_getElem? hq)
    rcases List.mem_append.mp ha with ha | ha
    · obtain ⟨k9, hk9⟩ := va_pl_get (X := []) (f := xE G.2.1 t M) ha
      have h9 := b5 k9 _ hk9
      have hlt := hmem a ha
      obtain ⟨e1, e2, e3, e4⟩ := hold a hlt
      rw [xE_off e1 e2 e3 e4]
      exact h9.kept (oq a (by omega))
    · obtain ⟨i, hi, rfl⟩ := List.mem_map.mp ha
      exact (hnew _ (by omega) (by have := List.mem_range.mp hi; omega)).2
  · have hap : ∀ (i : Nat) (p : Nat × va_E), (va_pl (Ld ++ (List.range (xz t' - xz t)).map (fun i => xz t + i)) (xE G.2.1 t' M'))[i]? = some p → (i < Ld.length ∧ (va_pl Ld (xE G.2.1 t M))[i]? = some (p.1, xE G.2.1 t M p.1) ∧ p.1 < xz t) ∨ (Ld.length ≤ i ∧ p.1 = xz t + (i - Ld.length)) := by
      intro i p hp
      unfold va_pl at hp ⊢
      rw [List.getElem?_map] at hp
      by_cases hl : i < Ld.length
      · rw [List.getElem?_append_left hl] at hp
        left
        rw [List.getElem?_map]
        rw [List.getElem?_eq_getElem hl] at hp ⊢
        cases hp
        exact ⟨hl, rfl, hmem _ (List.getElem_mem hl)⟩
      · right
        rw [List.getElem?_append_right (by omega), List.getElem?_map] at hp
        by_cases hr : i - Ld.length < xz t' - xz t
        · rw [List.getElem?_range hr] at hp
          cases hp
          exact ⟨by omega, rfl⟩
        · rw [List.getElem?_eq_none (by rw [List.length_range]; omega)] at hp
          cases hp
    refine ⟨fun i j p q hp hq e => ?_, fun k q hq => ?_⟩
    · rcases hap i p hp with ⟨i1, i2, i3⟩ | ⟨i1, i2⟩ <;> rcases hap j q hq with ⟨j1, j2, j3⟩ | ⟨j1, j2⟩
      · exact b6.1 i j _ _ i2 j2 e
      · omega
      · omega
      · omega
    · rcases hap k q hq with ⟨i1, i2, i3⟩ | ⟨i1, i2⟩
      · have h9 := b6.2 k (q.1, xE G.2.1 t M q.1) i2
        exact h9
      · show G.2.2.1.size ≤ q.1
        have := b1.1
        omega
def xmn (t : xTh) (n k : Nat) : xTh := (xz t + 1 + n, (fun b => if b = xz t then 17 else if xz t < b ∧ b ≤ xz t + n then 14 else xk t b), (fun b => if b = xz t then n else if xz t < b ∧ b ≤ xz t + n then k else xn t b), fun b j => if b = xz t then (if j < n then some (xz t + 1 + j) else none) else if xz t < b ∧ b ≤ xz t + n then none else xr t b j)
def xm0 (M : xMe) (z n : Nat) : xMe := fun b j => if z ≤ b ∧ b ≤ z + n then 0 else M b j
theorem xJ_mna {X : xCx} {own nm : String} {cc : ByteArray} {n d : Nat} {r : Option FieldType} {G : xGx} {cells slots mc ms : Nat} {t : xTh} {M : xMe} {pc : Nat} {L st : List Value} {Po : Option Value → xTh → xMe → Prop} {Px : String → xTh → xMe → Prop} {idx : Nat} {nn kk : Int} (h : xC X own nm cc n r d G) (hB : xB X mc ms Po Px) (dd : decode cc pc = .ok (.multianewarray idx 2, 4)) (hcl : Cond.classLink own idx "[[I" ∈ xT) (h0 : 0 ≤ nn) (h1 : nn ≤ 1000) (h2 : 0 ≤ kk) (h3 : kk ≤ 10000) (hc : cells + (1 + nn.toNat) ≤ mc) (hs : slots + (nn.toNat + nn.toNat * kk.toNat) ≤ ms)
    (k : xJ X (cells + 1 + nn.toNat) (slots + nn.toNat + nn.toNat * kk.toNat) (xmn t nn.toNat kk.toNat) (xm0 M (xz t) nn.toNat) (pc + 4) L (vr (xz t) :: st)) : xJ X cells slots t M pc L (vi kk :: vi nn :: st) := by
  obtain ⟨p, l, e, R, s, m, args, below, meth, c, G9, Po9, Px9, mc9, ms9⟩ := X
  obtain ⟨hx, hb, hml, hown, hts, hr, hlk, hKn, hSs, hnm, rfl, rfl, hst⟩ := h
  obtain ⟨rfl, rfl, rfl, rfl, hnil⟩ := hB
  intro H locs ls a1 a2 a3 T hT Xs
  obtain ⟨i1, j1⟩ := xI_ti h0 (by omega)
  obtain ⟨i2, j2⟩ := xI_ti h2 (by omega)
  obtain ⟨vm₁, cA, comp, -, fA, fC, -, -, X', step⟩ := Xs.multianewarray2F (ty := .int) hx hown (hts _ hcl) (va_AOA.use hKn.2.2.2.1) (hts _ ac_int) (g := F0 m pc ls (vi kk :: vi nn :: st)) rfl (by rw [hb]; exact dd) rfl j1 j2 (by rw [i1]; omega) (by rw [i2]; show kk.toNat * 4 ≤ _; omega) (by rw [i2]; omega) rfl rfl (by rw [i1]; exact hc) (by rw [i1, i2]; exact hs)
  have hcA : cA = G9.2.1 4 := Option.some.inj (fA.symm.trans (hKn.1.2 4 _ rfl).2)
  have hcC : comp = G9.2.1 1 := Option.some.inj (fC.symm.trans (hKn.1.2 1 _ rfl).2)
  subst hcA
  subst hcC
  rw [i1, i2] at X' step
  generalize hF : Jvm.Free.Multi.fill (T.setVm vm₁) (G9.2.1 4) (G9.2.1 1) nn.toNat kk.toNat (defaultValue .int) nn.toNat = F at X' step
  have hTh : (T.setVm vm₁).heap = H := hT
  obtain ⟨f1, f2, -, -⟩ := Jvm.Free.Multi.fill_facts (T.setVm vm₁) (G9.2.1 4) (G9.2.1 1) nn.toNat kk.toNat (defaultValue .int) nn.toNat
  rw [hF, hTh] at f1 f2
  have hold : ∀ x : Nat, x < H.size → F.heap[x]? = H[x]? := fun x hx9 => by
    have := Jvm.Free.Multi.fill_old (T.setVm vm₁) (G9.2.1 4) (G9.2.1 1) nn.toNat kk.toNat (defaultValue .int) (a := x) (by rw [hTh]; exact hx9) nn.toNat
    rw [hF, hTh] at this
    exact this
  have hrow : ∀ j : Nat, j < nn.toNat → F.heap[H.size + 1 + j]? = some (Jvm.Free.Multi.innerC (G9.2.1 1) kk.toNat (defaultValue .int)) := fun j hj => by
    have := Jvm.Free.Multi.fill_inner (T.setVm vm₁) (G9.2.1 4) (G9.2.1 1) nn.toNat kk.toNat (defaultValue .int) nn.toNat j hj
    rw [hF, hTh] at this
    exact this
  have hz := a2.2.1
  have hlv := xRp_live a2
  suffices hR : xRp G9 (xmn t nn.toNat kk.toNat) (xm0 M (xz t) nn.toNat) F.heap locs by
    obtain ⟨u, q1, q2⟩ := k F.heap locs ls (by rw [f1]; omega) hR a3 F rfl X'
    exact ⟨u, step u (by rw [hT, hz]; exact q1), q2⟩
  refine xRp_many a2 (by rw [f1, hz]; rfl) (by show xz t ≤ xz t + 1 + _; omega) hold (fun b hb9 => ?_) (fun b g1 g2 => ?_) (fun b g1 => ?_) (fun b => ?_)
  · refine ⟨?_, ?_, fun j => ?_, fun j => ?_⟩
    · show (if b = xz t then 17 else if xz t < b ∧ b ≤ xz t + nn.toNat then 14 else xk t b) = _
      rw [if_neg (by omega), if_neg (by omega)]
    · show (if b = xz t then nn.toNat else if xz t < b ∧ b ≤ xz t + nn.toNat then kk.toNat else xn t b) = _
      rw [if_neg (by omega), if_neg (by omega)]
    · show (if b = xz t then (if j < nn.toNat then some (xz t + 1 + j) else none) else if xz t < b ∧ b ≤ xz t + nn.toNat then none else xr t b j) = _
      rw [if_neg (by omega), if_neg (by omega)]
    · unfold xm0
      rw [if_neg (by omega)]
  · have g2 : b < xz t + 1 + nn.toNat := g2
    by_cases e : b = xz t
    · have ek : xk (xmn t nn.toNat kk.toNat) b = 17 := by show (if b = xz t then 17 else _) = _; rw [if_pos e]
      refine ⟨by omega, ?_⟩
      rw [xE_ref ek (by decide)]
      show F.heap[b]? = some (vp_cell _ _)
      have en : xn (xmn t nn.toNat kk.toNat) b = nn.toNat := by show (if b = xz t then nn.toNat else _) = _; rw [if_pos e]
      rw [en, e, ← hz, f2, vp_cell_q]
      rw [vr_outer (G9.2.1 4) nn.toNat H.size nn.toNat]
      congr 2
      funext j
      show _ = va_rf (if H.size = xz t then (if j < nn.toNat then some (xz t + 1 + j) else none) else _)
      rw [if_pos hz, hz]
    · have hb9 : xz t < b ∧ b ≤ xz t + nn.toNat := by omega
      have ek : xk (xmn t nn.toNat kk.toNat) b = 14 := by show (if b = xz t then 17 else if xz t < b ∧ b ≤ xz t + nn.toNat then 14 else xk t b) = _; rw [if_neg e, if_pos hb9]
      have en : xn (xmn t nn.toNat kk.toNat) b = kk.toNat := by show (if b = xz t then nn.toNat else if xz t < b ∧ b ≤ xz t + nn.toNat then kk.toNat else xn t b) = _; rw [if_neg e, if_pos hb9]
      refine ⟨by omega, ?_⟩
      rw [xE_int ek (by decide) (by decide), en]
      have := hrow (b - (xz t + 1)) (by omega)
      rw [hz, show xz t + 1 + (b - (xz t + 1)) = b by omega] at this
      show F.heap[b]? = some (arrV (G9.2.1 1) kk.toNat (fun j => .int (Int32.ofInt (xm0 M (xz t) nn.toNat b j))))
      rw [this, show (fun j => Value.int (Int32.ofInt (xm0 M (xz t) nn.toNat b j))) = fun _ => defaultValue .int from funext fun j => by unfold xm0; rw [if_pos (by omega)]; rfl]
      rw [← arrV_new]
      rfl
  · have g1 : xz t + 1 + nn.toNat ≤ b := g1
    show 17 < (if b = xz t then 17 else if xz t < b ∧ b ≤ xz t + nn.toNat then 14 else xk t b)
    rw [if_neg (by omega), if_neg (by omega)]
    exact Nat.lt_of_not_le fun q => absurd (hlv b q) (by omega)
  · show (if b = xz t then nn.toNat else if xz t < b ∧ b ≤ xz t + nn.toNat then kk.toNat else xn t b) < _
    split
    · omega
    · split
      · omega
      · exact a2.2.2.1 b
/-- one array more, in field sl of the object at a -/
def xIS (a sl kd n : Nat) (t t' : xTh) : Prop := xz t' = xz t + 1 ∧ xsm t t' 0 a ∧ xsm t t' (a + 1) (xz t) ∧ xk t' a = xk t a ∧ (∀ i, i ≠ sl → xr t' a i = xr t a i) ∧ xr t' a sl = some (xz t) ∧ xk t' (xz t) = kd ∧ xn t' (xz t) = n
theorem xIS_of {a sl kd n : Nat} {t : xTh} (ha : a < xz t) : xIS a sl kd n t (xwr (xnw t kd n) a sl (some (xz t))) :=
  ⟨rfl, xsm_trans (xsm_new (by omega)) (xsm_wr (Or.inr (Nat.le_refl _))), xsm_trans (xsm_new (Nat.le_refl _)) (xsm_wr (Or.inl (Nat.lt_succ_self _))), xk_newne (n := n) (by omega), fun i hi => by rw [xr_wr, if_neg (fun z => hi z.2), xr_newne (by omega)], by rw [xr_wr, if_pos ⟨rfl, rfl⟩], xkN_new (n := n), xn_new2 (k := kd)⟩
def xUs (k : Nat) : Int := if k = 9 then 1 else if k = 10 then 50 else if k = 11 then 10 else 0
theorem s_layUsual_2 {F b : Nat} {M0 : xMe} {Q : xMe → Prop} (hQ : ∀ M', (∀ b', b' ≠ b → M' b' = M0 b') → (∀ i, i < 2105 → M' b i = xUs i) → Q M') : ∀ (m k x : Nat) (M : xMe), x + m = 2105 → m < k → (∀ b', b' ≠ b → M b' = M0 b') → (∀ i, i < x → M b i = 0) → p_X12_layUsual_2 F b 2105 Q k (x : Int) M := by
  intro m
  induction m with
  | zero =>
    intro k x M hx hk hM h0
    obtain ⟨k, rfl⟩ : ∃ k', k = k' + 1 := ⟨k - 1, by omega⟩
    unfold p_X12_layUsual_2
    refine ⟨fun _ => ⟨by decide, fun M1 e1 => ⟨by decide, fun M2 e2 => ⟨by decide, fun M3 e3 => hQ _ (fun b' hb => ?_) (fun i hi => ?_)⟩⟩⟩, fun q => absurd q (by omega)⟩
    · rw [e3, e2, e1]; funext j; simp only [xw]; rw [if_neg (fun z => hb z.1), if_neg (fun z => hb z.1), if_neg (fun z => hb z.1), hM b' hb]
    · rw [e3, e2, e1]
      unfold xUs
      simp only [xw, true_and]
      by_cases i11 : i = 11
      · subst i11; rfl
      · by_cases i10 : i = 10
        · subst i10; rfl
        · by_cases i9 : i = 9
          · subst i9; rfl
          · rw [if_neg i11, if_neg i10, if_neg i9, if_neg i9, if_neg i10, if_neg i11]
            exact h0 i (by omega)
  | succ m ih =>
    intro k x M hx hk hM h0
    obtain ⟨k, rfl⟩ : ∃ k', k = k' + 1 := ⟨k - 1, by omega⟩
    unfold p_X12_layUsual_2
    refine ⟨fun q => absurd q (by omega), fun _ => ⟨⟨by omega, by omega⟩, fun M1 e1 => ⟨⟨by omega, by omega⟩, ?_⟩⟩⟩
    have := ih k (x + 1) M1 (by omega) (by omega) (fun b' hb => by rw [e1]; funext j; simp only [xw]; rw [if_neg (fun z => hb z.1), hM b' hb]) (fun i hi => by
      rw [e1]
      simp only [xw, true_and]
      by_cases e : i = x
      · rw [if_pos (by omega)]
      · rw [if_neg (by omega)]; exact h0 i (by omega))
    rwa [Int.natCast_add] at this
def xDI (M : xMe) (a : Nat) : Prop := (∀ j, j ≠ 7 → M a j = 0) ∧ M a 7 = -1 ∧ ∀ k, k < 2105 → M (a + 2) k = xUs k
theorem xMR_m0 {M : xMe} {z n : Nat} (h : xMR M) : xMR (xm0 M z n) := fun b j => by
  unfold xm0; split
  · exact ⟨by decide, by decide⟩
  · exact h b j
theorem xIM_of {a sl : Nat} {t : xTh} (ha : a < xz t) : xz (xwr (xmn t (8 : Int).toNat (2105 : Int).toNat) a sl (some (xz t))) = xz t + 9 ∧ xsm t (xwr (xmn t (8 : Int).toNat (2105 : Int).toNat) a sl (some (xz t))) 0 a ∧ xsm t (xwr (xmn t (8 : Int).toNat (2105 : Int).toNat) a sl (some (xz t))) (a + 1) (xz t) ∧ xk (xwr (xmn t (8 : Int).toNat (2105 : Int).toNat) a sl (some (xz t))) a = xk t a ∧ (∀ i, i ≠ sl → xr (xwr (xmn t (8 : Int).toNat (2105 : Int).toNat) a sl (some (xz t))) a i = xr t a i) ∧ xr (xwr (xmn t (8 : Int).toNat (2105 : Int).toNat) a sl (some (xz t))) a sl = some (xz t) ∧ xk (xwr (xmn t (8 : Int).toNat (2105 : Int).toNat) a sl (some (xz t))) (xz t) = 17 ∧ xn (xwr (xmn t (8 : Int).toNat (2105 : Int).toNat) a sl (some (xz t))) (xz t) = 8 ∧ ∀ i, i < 8 → xr (xwr (xmn t (8 : Int).toNat (2105 : Int).toNat) a sl (some (xz t))) (xz t) i = some (xz t + 1 + i) ∧ xk (xwr (xmn t (8 : Int).toNat (2105 : Int).toNat) a sl (some (xz t))) (xz t + 1 + i) = 14 ∧ xn (xwr (xmn t (8 : Int).toNat (2105 : Int).toNat) a sl (some (xz t))) (xz t + 1 + i) = 2105 := by
  have hk : ∀ b, xk (xmn t 8 2105) b = if b = xz t then 17 else if xz t < b ∧ b ≤ xz t + 8 then 14 else xk t b := fun _ => rfl
  have hn : ∀ b, xn (xmn t 8 2105) b = if b = xz t then 8 else if xz t < b ∧ b ≤ xz t + 8 then 2105 else xn t b := fun _ => rfl
  have hr : ∀ b j, xr (xmn t 8 2105) b j = if b = xz t then (if j < 8 then some (xz t + 1 + j) else none) else if xz t < b ∧ b ≤ xz t + 8 then none else xr t b j := fun _ _ => rfl
  have hlo : ∀ hi, hi ≤ xz t → ∀ lo, xsm t (xmn t 8 2105) lo hi := fun hi h lo b _ h2 _ => ⟨by rw [hk, if_neg (by omega), if_neg (by omega)], by rw [hn, if_neg (by omega), if_neg (by omega)], fun j => by rw [hr, if_neg (by omega), if_neg (by omega)]⟩
  refine ⟨rfl, xsm_trans (hlo a (by omega) 0) (xsm_wr (Or.inr (Nat.le_refl _))), xsm_trans (hlo _ (Nat.le_refl _) _) (xsm_wr (Or.inl (Nat.lt_succ_self _))), ?_, fun i hi => ?_, by rw [xr_wr, if_pos ⟨rfl, rfl⟩], ?_, ?_, fun i hi => ⟨?_, ?_, ?_⟩⟩
  · show xk (xmn t 8 2105) a = _
    rw [hk, if_neg (by omega), if_neg (by omega)]
  · rw [xr_wr, if_neg (fun z => hi z.2)]
    show xr (xmn t 8 2105) a i = _
    rw [hr, if_neg (by omega), if_neg (by omega)]
  · show xk (xmn t 8 2105) _ = _
    rw [hk, if_pos rfl]
  · show xn (xmn t 8 2105) _ = _
    rw [hn, if_pos rfl]
  · rw [xr_wr, if_neg (by omega)]
    show xr (xmn t 8 2105) _ i = _
    rw [hr, if_pos rfl, if_pos hi]
  · show xk (xmn t 8 2105) _ = _
    rw [hk, if_neg (by omega), if_pos (by omega)]
  · show xn (xmn t 8 2105) _ = _
    rw [hn, if_neg (by omega), if_pos (by omega)]
set_option maxHeartbeats 4000000 in
theorem c_X12_init {G : xGx} {t : xTh} {M : xMe} {a : Nat} (hk : xk t a = 12) (hz : xz t = a + 1) (hM : xMR M) (h0 : ∀ j, M a j = 0) : xCt G yX12_init cX12_init 1 none 1 15 24768 [vr a] t M (xIn t M a 16 oX12 xDI) (fun _ _ _ => False) := by
  refine xCt_of (L0 := [vr a]) (by decide +kernel) (Nat.le_of_ble_eq_true rfl) rfl ?_
  intro X hX hB
  refine xJ_aload_n hX dX12_init_0 rfl ?_
  refine xJ_objInit hX hB dX12_init_1 lj_X12_3 jw_obj_im jw_obj_co rfl (by decide) (Nat.le_of_ble_eq_true rfl) ?_
  have L0 : xsm t t 0 a := xsm_refl _ _ _
  have B0 : ∀ b, b ≤ a → M b = M b := fun _ _ => rfl
  have z0 : xz t = a + 1 := hz
  have k0 := hk
  have hM0 := hM
  refine xJ_aload_n hX dX12_init_4 rfl ?_
  refine xJ_sipush hX dX12_init_5 rfl ?_
  refine xJ_newI hX hB dX12_init_8 ac_int (by decide) (by decide) (by decide) (by decide) ?_
  refine xJ_putF (x := some (xz t)) hX dX12_init_10 fd_X12_9 ft_X12 rfl rfl rfl rfl rfl rfl ((xk_newne (n := 700) (by omega)).trans k0) ?_
  obtain ⟨s1, s2, s3, s4, s5, s6, s7, s8⟩ := xIS_of (a := a) (sl := 1) (kd := 14) (n := (700 : Int).toNat) (t := t) (by omega)
  have hMn1 : xMR (xw0 M (xz t)) := xMR_0 hM0
  have Bn1 : ∀ b, b < xz t → xw0 M (xz t) b = M b := fun b hb => by funext j; unfold xw0; rw [if_neg (by omega)]
  generalize xwr (xnw t 14 (700 : Int).toNat) a 1 (some (xz t)) = t1 at s1 s2 s3 s4 s5 s6 s7 s8 ⊢
  generalize xw0 M (xz t) = M1 at hMn1 Bn1 ⊢
  rw [z0] at s1 s3 s6 s7 s8 Bn1
  have z1 : xz t1 = a + 2 := by omega
  have hM1 := hMn1
  have k1 := s4.trans k0
  have L1 := xsm_trans L0 s2
  have B1 : ∀ b, b ≤ a → M1 b = M b := fun b hb => Bn1 b (by omega)
  have r1_1 := s6
  have k1_1 := s7
  have n1_1 := s8
  refine xJ_aload_n hX dX12_init_13 rfl ?_
  refine xJ_iconst hX dX12_init_14 ?_
  refine xJ_putIM hX dX12_init_15 fd_X12_13 ft_X12 rfl rfl rfl rfl k1 hM1 ⟨by decide, by decide⟩ (fun M1b eb hM1b => ?_)
  replace hM1 := hM1b
  refine xJ_aload_n hX dX12_init_18 rfl ?_
  refine xJ_sipush hX dX12_init_19 rfl ?_
  refine xJ_newI hX hB dX12_init_22 ac_int (by decide) (by decide) (by decide) (by decide) ?_
  refine xJ_putF (x := some (xz t1)) hX dX12_init_24 fd_X12_17 ft_X12 rfl rfl rfl rfl rfl rfl ((xk_newne (n := 2105) (by omega)).trans k1) ?_
  obtain ⟨s1, s2, s3, s4, s5, s6, s7, s8⟩ := xIS_of (a := a) (sl := 8) (kd := 14) (n := (2105 : Int).toNat) (t := t1) (by omega)
  have hMn2 : xMR (xw0 M1b (xz t1)) := xMR_0 hM1
  have Bn2 : ∀ b, b < xz t1 → xw0 M1b (xz t1) b = M1b b := fun b hb => by funext j; unfold xw0; rw [if_neg (by omega)]
  generalize xwr (xnw t1 14 (2105 : Int).toNat) a 8 (some (xz t1)) = t2 at s1 s2 s3 s4 s5 s6 s7 s8 ⊢
  generalize xw0 M1b (xz t1) = M2 at hMn2 Bn2 ⊢
  rw [z1] at s1 s3 s6 s7 s8 Bn2
  have z2 : xz t2 = a + 3 := by omega
  have hM2 := hMn2
  have k2 := s4.trans k1
  have L2 := xsm_trans L1 s2
  have B2 : ∀ b, b ≤ a → M2 b = M1b b := fun b hb => Bn2 b (by omega)
  have r1_2 := (s5 1 (by decide)).trans r1_1
  have k1_2 := xsm_k s3 (by omega) (by omega) k1_1 (by decide)
  have n1_2 := xsm_n s3 (by omega) (by omega) k1_1 (by decide) n1_1
  have r2_2 := s6
  have k2_2 := s7
  have n2_2 := s8
  refine xJ_aload_n hX dX12_init_27 rfl ?_
  refine xJ_sipush hX dX12_init_28 rfl ?_
  refine xJ_newI hX hB dX12_init_31 ac_int (by decide) (by decide) (by decide) (by decide) ?_
  refine xJ_putF (x := some (xz t2)) hX dX12_init_33 fd_X12_20 ft_X12 rfl rfl rfl rfl rfl rfl ((xk_newne (n := 2105) (by omega)).trans k2) ?_
  obtain ⟨s1, s2, s3, s4, s5, s6, s7, s8⟩ := xIS_of (a := a) (sl := 9) (kd := 14) (n := (2105 : Int).toNat) (t := t2) (by omega)
  have hMn3 : xMR (xw0 M2 (xz t2)) := xMR_0 hM2
  have Bn3 : ∀ b, b < xz t2 → xw0 M2 (xz t2) b = M2 b := fun b hb => by funext j; unfold xw0; rw [if_neg (by omega)]
  generalize xwr (xnw t2 14 (2105 : Int).toNat) a 9 (some (xz t2)) = t3 at s1 s2 s3 s4 s5 s6 s7 s8 ⊢
  generalize xw0 M2 (xz t2) = M3 at hMn3 Bn3 ⊢
  rw [z2] at s1 s3 s6 s7 s8 Bn3
  have z3 : xz t3 = a + 4 := by omega
  have hM3 := hMn3
  have k3 := s4.trans k2
  have L3 := xsm_trans L2 s2
  have B3 : ∀ b, b ≤ a → M3 b = M2 b := fun b hb => Bn3 b (by omega)
  have r1_3 := (s5 1 (by decide)).trans r1_2
  have k1_3 := xsm_k s3 (by omega) (by omega) k1_2 (by decide)
  have n1_3 := xsm_n s3 (by omega) (by omega) k1_2 (by decide) n1_2
  have r2_3 := (s5 8 (by decide)).trans r2_2
  have k2_3 := xsm_k s3 (by omega) (by omega) k2_2 (by decide)
  have n2_3 := xsm_n s3 (by omega) (by omega) k2_2 (by decide) n2_2
  have r3_3 := s6
  have k3_3 := s7
  have n3_3 := s8
  refine xJ_aload_n hX dX12_init_36 rfl ?_
  refine xJ_sipush hX dX12_init_37 rfl ?_
  refine xJ_newI hX hB dX12_init_40 ac_int (by decide) (by decide) (by decide) (by decide) ?_
  refine xJ_putF (x := some (xz t3)) hX dX12_init_42 fd_X12_23 ft_X12 rfl rfl rfl rfl rfl rfl ((xk_newne (n := 905) (by omega)).trans k3) ?_
  obtain ⟨s1, s2, s3, s4, s5, s6, s7, s8⟩ := xIS_of (a := a) (sl := 10) (kd := 14) (n := (905 : Int).toNat) (t := t3) (by omega)
  have hMn4 : xMR (xw0 M3 (xz t3)) := xMR_0 hM3
  have Bn4 : ∀ b, b < xz t3 → xw0 M3 (xz t3) b = M3 b := fun b hb => by funext j; unfold xw0; rw [if_neg (by omega)]
  generalize xwr (xnw t3 14 (905 : Int).toNat) a 10 (some (xz t3)) = t4 at s1 s2 s3 s4 s5 s6 s7 s8 ⊢
  generalize xw0 M3 (xz t3) = M4 at hMn4 Bn4 ⊢
  rw [z3] at s1 s3 s6 s7 s8 Bn4
  have z4 : xz t4 = a + 5 := by omega
  have hM4 := hMn4
  have k4 := s4.trans k3
  have L4 := xsm_trans L3 s2
  have B4 : ∀ b, b ≤ a → M4 b = M3 b := fun b hb => Bn4 b (by omega)
  have r1_4 := (s5 1 (by decide)).trans r1_3
  have k1_4 := xsm_k s3 (by omega) (by omega) k1_3 (by decide)
  have n1_4 := xsm_n s3 (by omega) (by omega) k1_3 (by decide) n1_3
  have r2_4 := (s5 8 (by decide)).trans r2_3
  have k2_4 := xsm_k s3 (by omega) (by omega) k2_3 (by decide)
  have n2_4 := xsm_n s3 (by omega) (by omega) k2_3 (by decide) n2_3
  have r3_4 := (s5 9 (by decide)).trans r3_3
  have k3_4 := xsm_k s3 (by omega) (by omega) k3_3 (by decide)
  have n3_4 := xsm_n s3 (by omega) (by omega) k3_3 (by decide) n3_3
  have r4_4 := s6
  have k4_4 := s7
  have n4_4 := s8
  refine xJ_aload_n hX dX12_init_45 rfl ?_
  refine xJ_sipush hX dX12_init_46 rfl ?_
  refine xJ_newI hX hB dX12_init_49 ac_int (by decide) (by decide) (by decide) (by decide) ?_
  refine xJ_putF (x := some (xz t4)) hX dX12_init_51 fd_X12_26 ft_X12 rfl rfl rfl rfl rfl rfl ((xk_newne (n := 905) (by omega)).trans k4) ?_
  obtain ⟨s1, s2, s3, s4, s5, s6, s7, s8⟩ := xIS_of (a := a) (sl := 11) (kd := 14) (n := (905 : Int).toNat) (t := t4) (by omega)
  have hMn5 : xMR (xw0 M4 (xz t4)) := xMR_0 hM4
  have Bn5 : ∀ b, b < xz t4 → xw0 M4 (xz t4) b = M4 b := fun b hb => by funext j; unfold xw0; rw [if_neg (by omega)]
  generalize xwr (xnw t4 14 (905 : Int).toNat) a 11 (some (xz t4)) = t5 at s1 s2 s3 s4 s5 s6 s7 s8 ⊢
  generalize xw0 M4 (xz t4) = M5 at hMn5 Bn5 ⊢
  rw [z4] at s1 s3 s6 s7 s8 Bn5
  have z5 : xz t5 = a + 6 := by omega
  have hM5 := hMn5
  have k5 := s4.trans k4
  have L5 := xsm_trans L4 s2
  have B5 : ∀ b, b ≤ a → M5 b = M4 b := fun b hb => Bn5 b (by omega)
  have r1_5 := (s5 1 (by decide)).trans r1_4
  have k1_5 := xsm_k s3 (by omega) (by omega) k1_4 (by decide)
  have n1_5 := xsm_n s3 (by omega) (by omega) k1_4 (by decide) n1_4
  have r2_5 := (s5 8 (by decide)).trans r2_4
  have k2_5 := xsm_k s3 (by omega) (by omega) k2_4 (by decide)
  have n2_5 := xsm_n s3 (by omega) (by omega) k2_4 (by decide) n2_4
  have r3_5 := (s5 9 (by decide)).trans r3_4
  have k3_5 := xsm_k s3 (by omega) (by omega) k3_4 (by decide)
  have n3_5 := xsm_n s3 (by omega) (by omega) k3_4 (by decide) n3_4
  have r4_5 := (s5 10 (by decide)).trans r4_4
  have k4_5 := xsm_k s3 (by omega) (by omega) k4_4 (by decide)
  have n4_5 := xsm_n s3 (by omega) (by omega) k4_4 (by decide) n4_4
  have r5_5 := s6
  have k5_5 := s7
  have n5_5 := s8
  refine xJ_aload_n hX dX12_init_54 rfl ?_
  refine xJ_bipush hX dX12_init_55 rfl ?_
  refine xJ_sipush hX dX12_init_57 rfl ?_
  refine xJ_mna hX hB dX12_init_60 kl_X12_29 (by decide) (by decide) (by decide) (by decide) (by decide) (by decide) ?_
  have hk6x : xk (xmn t5 (8 : Int).toNat (2105 : Int).toNat) a = 12 := by show (if a = xz t5 then 17 else if xz t5 < a ∧ a ≤ xz t5 + 8 then 14 else xk t5 a) = 12; rw [if_neg (by omega), if_neg (by omega)]; exact k5
  refine xJ_putF (x := some (xz t5)) hX dX12_init_64 fd_X12_31 ft_X12 rfl rfl rfl rfl rfl rfl hk6x ?_
  obtain ⟨s1, s2, s3, s4, s5, s6, s7, s8, s9⟩ := xIM_of (a := a) (sl := 12) (t := t5) (by omega)
  have hMn6 : xMR (xm0 M5 (xz t5) (8 : Int).toNat) := xMR_m0 hM5
  have Bn6 : ∀ b, b < xz t5 → xm0 M5 (xz t5) (8 : Int).toNat b = M5 b := fun b hb => by funext j; unfold xm0; rw [if_neg (by omega)]
  generalize xwr (xmn t5 (8 : Int).toNat (2105 : Int).toNat) a 12 (some (xz t5)) = t6 at s1 s2 s3 s4 s5 s6 s7 s8 s9 ⊢
  generalize xm0 M5 (xz t5) (8 : Int).toNat = M6 at hMn6 Bn6 ⊢
  rw [z5] at s1 s3 s6 s7 s8 s9 Bn6
  have z6 : xz t6 = a + 15 := by omega
  have hM6 := hMn6
  have k6 := s4.trans k5
  have L6 := xsm_trans L5 s2
  have B6 : ∀ b, b ≤ a → M6 b = M5 b := fun b hb => Bn6 b (by omega)
  have r1_6 := (s5 1 (by decide)).trans r1_5
  have k1_6 := xsm_k s3 (by omega) (by omega) k1_5 (by decide)
  have n1_6 := xsm_n s3 (by omega) (by omega) k1_5 (by decide) n1_5
  have r2_6 := (s5 8 (by decide)).trans r2_5
  have k2_6 := xsm_k s3 (by omega) (by omega) k2_5 (by decide)
  have n2_6 := xsm_n s3 (by omega) (by omega) k2_5 (by decide) n2_5
  have r3_6 := (s5 9 (by decide)).trans r3_5
  have k3_6 := xsm_k s3 (by omega) (by omega) k3_5 (by decide)
  have n3_6 := xsm_n s3 (by omega) (by omega) k3_5 (by decide) n3_5
  have r4_6 := (s5 10 (by decide)).trans r4_5
  have k4_6 := xsm_k s3 (by omega) (by omega) k4_5 (by decide)
  have n4_6 := xsm_n s3 (by omega) (by omega) k4_5 (by decide) n4_5
  have r5_6 := (s5 11 (by decide)).trans r5_5
  have k5_6 := xsm_k s3 (by omega) (by omega) k5_5 (by decide)
  have n5_6 := xsm_n s3 (by omega) (by omega) k5_5 (by decide) n5_5
  have r6_6 := s6
  have k6_6 := s7
  have n6_6 := s8
  have w6_6 := s9
  refine xJ_aload_n hX dX12_init_67 rfl ?_
  refine xJ_sipush hX dX12_init_68 rfl ?_
  refine xJ_newJ hX hB dX12_init_71 ac_long (by decide) (by decide) (by decide) (by decide) ?_
  refine xJ_putF (x := some (xz t6)) hX dX12_init_73 fd_X12_34 ft_X12 rfl rfl rfl rfl rfl rfl ((xk_newne (n := 1200) (by omega)).trans k6) ?_
  obtain ⟨s1, s2, s3, s4, s5, s6, s7, s8⟩ := xIS_of (a := a) (sl := 17) (kd := 15) (n := (1200 : Int).toNat) (t := t6) (by omega)
  have hMn7 : xMR (xw0 M6 (xz t6)) := xMR_0 hM6
  have Bn7 : ∀ b, b < xz t6 → xw0 M6 (xz t6) b = M6 b := fun b hb => by funext j; unfold xw0; rw [if_neg (by omega)]
  generalize xwr (xnw t6 15 (1200 : Int).toNat) a 17 (some (xz t6)) = t7 at s1 s2 s3 s4 s5 s6 s7 s8 ⊢
  generalize xw0 M6 (xz t6) = M7 at hMn7 Bn7 ⊢
  rw [z6] at s1 s3 s6 s7 s8 Bn7
  have z7 : xz t7 = a + 16 := by omega
  have hM7 := hMn7
  have k7 := s4.trans k6
  have L7 := xsm_trans L6 s2
  have B7 : ∀ b, b ≤ a → M7 b = M6 b := fun b hb => Bn7 b (by omega)
  have r1_7 := (s5 1 (by decide)).trans r1_6
  have k1_7 := xsm_k s3 (by omega) (by omega) k1_6 (by decide)
  have n1_7 := xsm_n s3 (by omega) (by omega) k1_6 (by decide) n1_6
  have r2_7 := (s5 8 (by decide)).trans r2_6
  have k2_7 := xsm_k s3 (by omega) (by omega) k2_6 (by decide)
  have n2_7 := xsm_n s3 (by omega) (by omega) k2_6 (by decide) n2_6
  have r3_7 := (s5 9 (by decide)).trans r3_6
  have k3_7 := xsm_k s3 (by omega) (by omega) k3_6 (by decide)
  have n3_7 := xsm_n s3 (by omega) (by omega) k3_6 (by decide) n3_6
  have r4_7 := (s5 10 (by decide)).trans r4_6
  have k4_7 := xsm_k s3 (by omega) (by omega) k4_6 (by decide)
  have n4_7 := xsm_n s3 (by omega) (by omega) k4_6 (by decide) n4_6
  have r5_7 := (s5 11 (by decide)).trans r5_6
  have k5_7 := xsm_k s3 (by omega) (by omega) k5_6 (by decide)
  have n5_7 := xsm_n s3 (by omega) (by omega) k5_6 (by decide) n5_6
  have r6_7 := (s5 12 (by decide)).trans r6_6
  have k6_7 := xsm_k s3 (by omega) (by omega) k6_6 (by decide)
  have n6_7 := xsm_n s3 (by omega) (by omega) k6_6 (by decide) n6_6
  have w6_7 : ∀ i, i < 8 → xr t7 (a + 6) i = some (a + 7 + i) ∧ xk t7 (a + 7 + i) = 14 ∧ xn t7 (a + 7 + i) = 2105 := fun i hi => ⟨xsm_r s3 (by omega) (by omega) k6_6 (by decide) (w6_6 i hi).1, xsm_k s3 (by omega) (by omega) (w6_6 i hi).2.1 (by decide), xsm_n s3 (by omega) (by omega) (w6_6 i hi).2.1 (by decide) (w6_6 i hi).2.2⟩
  have r7_7 := s6
  have k7_7 := s7
  have n7_7 := s8
  refine xJ_aload_n hX dX12_init_76 rfl ?_
  refine xJ_getR (b := a + 2) hX dX12_init_77 fd_X12_17 rfl k7 r2_7 ?_
  refine xJ_callS (As := [vr (a + 2)]) hX hB dX12_init_80 lk_X12_38 sm_X12_layUsual (c_X12_layUsual (F := 3000) (Q := fun M' => (∀ b, b ≠ a + 2 → M' b = M7 b) ∧ ∀ k, k < 2105 → M' (a + 2) k = xUs k) k2_7 n2_7 ⟨by decide, by decide⟩ hM7 (s_layUsual_2 (fun M' h1 h2 => ⟨h1, h2⟩) 2105 3000 0 M7 rfl (by decide) (fun _ _ => rfl) (fun i hi => absurd hi (Nat.not_lt_zero _)))) (by decide) rfl rfl rfl (Nat.le_of_ble_eq_true rfl) (by decide) (by decide) ?_ (fun _ _ _ q => q.elim)
  rintro v t8 M8 ⟨rfl, hM8, rfl, hb8, hu8⟩
  have e8 : ∀ b, b ≤ a → M8 b = M1b b := fun b hb => (hb8 b (by omega)).trans ((B7 b hb).trans ((B6 b hb).trans ((B5 b hb).trans ((B4 b hb).trans ((B3 b hb).trans (B2 b hb))))))
  have e1b : ∀ b, b < a → M1b b = M b := fun b hb => by rw [eb, ← B1 b (Nat.le_of_lt hb)]; funext j; simp only [xw]; rw [if_neg (by omega)]
  have eow : ∀ j, j ≠ 7 → M1b a j = 0 := fun j hj => by rw [eb]; simp only [xw]; rw [if_neg (fun z => hj z.2), B1 a (Nat.le_refl _)]; exact h0 j
  have e7 : M1b a 7 = -1 := by rw [eb]; simp only [xw, and_self, if_true]
  exact xJ_vret hX hB dX12_init_83 (by decide) (by decide) ⟨rfl, hM8, z7, L7, ⟨k7, r1_7, k1_7, n1_7, r2_7, k2_7, n2_7, r3_7, k3_7, n3_7, r4_7, k4_7, n4_7, r5_7, k5_7, n5_7, r6_7, k6_7, n6_7, r7_7, k7_7, n7_7, w6_7⟩, fun b hb => (e8 b (Nat.le_of_lt hb)).trans (e1b b hb), fun j hj => by rw [e8 a (Nat.le_refl _)]; exact eow j hj, by rw [e8 a (Nat.le_refl _)]; exact e7, hu8⟩
