/-! STRINGS THAT ARE MADE: StringBuilder, against lists of characters -/
def rCh (L : List Int) : Prop := ∀ c ∈ L, 32 ≤ c ∧ c < 127
/-- a String with the characters L, its bytes none of N's -/
def rIs (G : xGx) (t : xTh) (M : xMe) (a : Nat) (L : List Int) (N : Nat → Prop) : Prop := rCh L ∧ L.length ≤ 1000 ∧
  ((∃ s, s < 31 ∧ a = G.2.2.2.1 s ∧ L = rLt s) ∨ (xk t a = 21 ∧ M a 1 = 0 ∧ ∃ b, xr t a 0 = some b ∧ xk t b = 13 ∧ xn t b = L.length ∧ (∀ j, j < L.length → M b j = L.getD j 0) ∧ ¬ N b))
/-- a StringBuilder at sb, its bytes at b -/
def rSb (t : xTh) (M : xMe) (sb b : Nat) (L : List Int) : Prop := rCh L ∧ xk t sb = 22 ∧ M sb 1 = 0 ∧ M sb 3 = (L.length : Int) ∧ xr t sb 0 = some b ∧ xk t b = 13 ∧ (xn t b = 16 ∨ xn t b = 34) ∧ L.length ≤ xn t b ∧ ∀ j, M b j = L.getD j 0
/-- all but sb and b stays -/
def rFs (sb b : Nat) (t : xTh) (M : xMe) (t' : xTh) (M' : xMe) : Prop := xlive t' ∧ ∀ a, xk t a ≤ 22 → xk t' a = xk t a ∧ xn t' a = xn t a ∧ (a ≠ sb → a ≠ b → M' a = M a ∧ xr t' a = xr t a)
section RSB
variable {F n sb b : Nat} {G : xGx} {t t' t'' t0 : xTh} {M M' M'' M0 : xMe} {L L' : List Int} {N N' : Nat → Prop} {a : Nat} {v : Int}
theorem getD_all (h : rCh L) (j : Nat) : 0 ≤ L.getD j 0 ∧ L.getD j 0 < 127 := getD_r h j
theorem rLt_ch {s : Nat} (hs : s < 31) : rCh (rLt s) := fun c hc => by
  unfold rLt at hc
  obtain ⟨j, hj, rfl⟩ := List.mem_map.mp hc
  rw [List.mem_range] at hj
  exact xSb hs (by omega)
theorem rIs_lit {s : Nat} (hs : s < 31) : rIs G t M (G.2.2.2.1 s) (rLt s) N := ⟨rLt_ch hs, by have := rLt_len s; have h9 : xLe.getD s 0 < 100 := (xS_all ⟨s, hs⟩).1; unfold xSl at this; omega, Or.inl ⟨s, hs, rfl, rfl⟩⟩
theorem rIs_T (h : rIs G t M a L N) : xIsT G t M a L.length (fun j => L.getD j 0) := by
  obtain ⟨h1, h2, h3⟩ := h
  refine ⟨⟨fun j hj => ?_, h2⟩, ?_⟩
  · have : L.getD j 0 = L[j] := by rw [List.getD_eq_getElem?_getD, List.getElem?_eq_getElem hj]; rfl
    show 32 ≤ L.getD j 0 ∧ L.getD j 0 < 127
    rw [this]; exact h1 _ (List.getElem_mem hj)
  · rcases h3 with ⟨s, s1, s2, rfl⟩ | ⟨k1, k2, b, b1, b2, b3, b4, -⟩
    · refine Or.inl ⟨s, s1, s2, rLt_len s, fun j hj => ?_⟩
      have l := rLt_len s
      show (rLt s).getD j 0 = _
      rw [List.getD_eq_getElem?_getD, rLt_get (by omega)]; rfl
    · exact Or.inr ⟨k1, k2, b, b1, b2, b3, b4⟩
theorem rIs_N (h : rIs G t M a L N) (hN : ∀ b, xk t b = 13 → N' b → N b) : rIs G t M a L N' := by
  obtain ⟨h1, h2, h3⟩ := h
  refine ⟨h1, h2, ?_⟩
  rcases h3 with h | ⟨k1, k2, b, b1, b2, b3, b4, b5⟩
  · exact Or.inl h
  · exact Or.inr ⟨k1, k2, b, b1, b2, b3, b4, fun q => b5 (hN b b2 q)⟩
theorem rIs_fs (h : rIs G t M a L N) (f : rFs sb b t M t' M') (ks : xk t sb ≠ 21) (ks2 : xk t sb ≠ 13) (kb : xk t b ≠ 21) (hb : N b) : rIs G t' M' a L (fun c => N c ∨ 22 < xk t c) := by
  obtain ⟨h1, h2, h3⟩ := h
  refine ⟨h1, h2, ?_⟩
  rcases h3 with h | ⟨k1, k2, c, b1, b2, b3, b4, b5⟩
  · exact Or.inl h
  · obtain ⟨f1, f2, f3⟩ := f.2 a (by omega)
    obtain ⟨g1, g2, g3⟩ := f.2 c (by omega)
    obtain ⟨e1, e2⟩ := f3 (fun e => ks (by rw [← e]; exact k1)) (fun e => kb (by rw [← e]; exact k1))
    obtain ⟨e3, e4⟩ := g3 (fun e => ks2 (by rw [← e]; exact b2)) (fun e => b5 (by rw [e]; exact hb))
    exact Or.inr ⟨f1.trans k1, by rw [e1]; exact k2, c, by rw [e2]; exact b1, g1.trans b2, g2.trans b3, fun j hj => by rw [e3]; exact b4 j hj, fun q => q.elim b5 (fun q => by omega)⟩
theorem rIs_fr (h : rIs G t M a L N) (f : rFr rNo t M t' M') : rIs G t' M' a L N := by
  obtain ⟨h1, h2, h3⟩ := h
  refine ⟨h1, h2, ?_⟩
  rcases h3 with h | ⟨k1, k2, c, b1, b2, b3, b4, b5⟩
  · exact Or.inl h
  · obtain ⟨f1, f2, f3, -⟩ := f.2 a (by omega)
    obtain ⟨g1, g2, g3, -⟩ := f.2 c (by omega)
    exact Or.inr ⟨f1.trans k1, by rw [(f3 id).1]; exact k2, c, by rw [(f3 id).2]; exact b1, g1.trans b2, g2.trans b3, fun j hj => by rw [(g3 id).1]; exact b4 j hj, b5⟩
theorem rSb_fr (h : rSb t M sb b L) (f : rFr rNo t M t' M') : rSb t' M' sb b L := by
  obtain ⟨h0, h1, h2, h3, h4, h5, h6, h7, h8⟩ := h
  obtain ⟨f1, f2, f3, -⟩ := f.2 sb (by omega)
  obtain ⟨g1, g2, g3, -⟩ := f.2 b (by omega)
  exact ⟨h0, f1.trans h1, by rw [(f3 id).1]; exact h2, by rw [(f3 id).1]; exact h3, by rw [(f3 id).2]; exact h4, g1.trans h5, by rw [g2]; exact h6, by rw [g2]; exact h7, fun j => by rw [(g3 id).1]; exact h8 j⟩
theorem rFs_tr {b' : Nat} (f : rFs sb b t M t' M') (g : rFs sb b' t' M' t'' M'') (hb : b' = b ∨ 22 < xk t b') : rFs sb b t M t'' M'' := ⟨g.1, fun a ha => by
  obtain ⟨f1, f2, f3⟩ := f.2 a ha
  obtain ⟨g1, g2, g3⟩ := g.2 a (by omega)
  refine ⟨g1.trans f1, g2.trans f2, fun n1 n2 => ?_⟩
  obtain ⟨e1, e2⟩ := f3 n1 n2
  obtain ⟨e3, e4⟩ := g3 n1 (fun e => by
    rcases hb with z | z
    · exact n2 (e.trans z)
    · rw [e] at ha; omega)
  exact ⟨e3.trans e1, e4.trans e2⟩⟩
theorem rFr_fs (f : rFr rNo t0 M0 t M) (g : rFs sb b t M t' M') (hs : 22 < xk t0 sb) (hb : 22 < xk t0 b) : rFr rNo t0 M0 t' M' := ⟨g.1, fun a ha => by
  obtain ⟨f1, f2, f3, f4⟩ := f.2 a ha
  obtain ⟨g1, g2, g3⟩ := g.2 a (by omega)
  obtain ⟨e1, e2⟩ := g3 (fun e => by rw [e] at ha; omega) (fun e => by rw [e] at ha; omega)
  exact ⟨g1.trans f1, g2.trans f2, fun _ => ⟨e1.trans (f3 id).1, e2.trans (f3 id).2⟩, fun _ _ _ => e2.trans (f3 id).2⟩⟩
/-- a new StringBuilder -/
theorem s_sbnew {Q : xTh → xMe → Prop} {k : Nat} (hl : xlive t) (hn : 1 ≤ n) (hq : ∀ t' M', rSb t' M' (xz t) (xz t + 1) [] → rFr rNo t M t' M' → Q t' M') : p_J4_init_da8c8 F n (xnw t 22 0) (xz t) (xw0 M (xz t)) Q := by
  have dz := xlive_z hl
  have f0 : rFr rNo t M (xnw t 22 0) (xw0 M (xz t)) := rFr_n (rFr_refl hl)
  have d1 := rFr_dead f0 (xlive_z f0.1)
  unfold p_J4_init_da8c8
  refine ⟨n, Nat.le_refl _, ?_⟩
  unfold p_J5_init_d00df
  refine ⟨⟨by decide, by decide⟩, hn, fun a t1 M1 ea et eM t2 et2 M2 eM2 => ?_⟩
  subst ea et eM et2 eM2
  have z1 : xz (xnw t 22 0) = xz t + 1 := rfl
  rw [z1]
  have f1 : rFr rNo t M (xnw (xnw t 22 0) 13 (16 : Int).toNat) (xw0 (xw0 M (xz t)) (xz t + 1)) := rFr_n f0
  have f2 : rFr rNo t M (xwr (xnw (xnw t 22 0) 13 (16 : Int).toNat) (xz t) 0 (some (xz t + 1))) (xw (xw0 (xw0 M (xz t)) (xz t + 1)) (xz t) 1 0) := rFr_w (rFr_r f1 (Or.inl dz)) (Or.inl dz)
  have e : xz t ≠ xz t + 1 := by omega
  refine hq _ _ ⟨fun c hc => (by cases hc), ?_, xw_s, ?_, by rw [xr_wra, if_pos rfl], ?_, ?_, Nat.zero_le _, fun j => ?_⟩ f2
  · show xk (xnw (xnw t 22 0) 13 16) (xz t) = 22
    rw [xk_nw, if_neg (by rw [z1]; omega), xk_nw, if_pos rfl]
  · rw [xw_j (by decide), xw0_B e]; exact xw0_self
  · show xk (xnw (xnw t 22 0) 13 16) (xz t + 1) = 13
    rw [xk_nw, if_pos z1.symm]
  · refine Or.inl ?_
    show xn (xnw (xnw t 22 0) 13 16) (xz t + 1) = 16
    rw [xn_nw, if_pos z1.symm]
  · rw [xw_b (by omega)]; exact xw0_self
/-- room for x1 characters -/
theorem s_ensure {Q : xTh → xMe → Prop} {x1 : Int} (hl : xlive t) (h : rSb t M sb b L) (h0 : (L.length : Int) ≤ x1) (h34 : x1 ≤ 34) (hn : 1 ≤ n) (hq : ∀ t' M' b', rSb t' M' sb b' L → x1 ≤ xn t' b' → rFs sb b t M t' M' → (b' = b ∨ 22 < xk t b') → Q t' M') : p_J5_ensureCapacityInternal_d00df F n t sb x1 M Q := by
  have hh := h
  obtain ⟨g0, g1, g2, g3, g4, g5, g6, g7, g8⟩ := h
  have dz := xlive_z hl
  unfold p_J5_ensureCapacityInternal_d00df
  refine ⟨b, g4, g5, ⟨by omega, by omega⟩, g2, fun z ez => ?_⟩
  subst ez
  refine ⟨⟨by omega, by omega⟩, fun q => hq t M b hh (by omega) ⟨hl, fun a _ => ⟨rfl, rfl, fun _ _ => ⟨rfl, rfl⟩⟩⟩ (Or.inl rfl), fun q => ⟨0, Nat.zero_le _, ?_⟩⟩
  have b16 : xn t b = 16 := by omega
  unfold p_J5_newCapacity_0f7a4
  refine ⟨b, g4, g5, ⟨by omega, by omega⟩, fun z5 e5 => ⟨g2, ⟨by omega, by omega⟩, fun z16 e16 => ⟨g2, ⟨by omega, by omega⟩, 0, Nat.zero_le _, ?_⟩⟩⟩
  have hmax : z5 + max z16 (z5 + 2) = 34 := by omega
  unfold p_J8_newLength_cabcc
  rw [hmax]
  refine ⟨⟨by decide, by decide⟩, fun z7 e7 => ?_⟩
  subst e7
  refine ⟨fun q => absurd q (by decide), fun _ => ⟨fun q => absurd q (by decide), fun _ => ⟨fun _ => ⟨g2, g2, n, by omega, ?_⟩, fun q => absurd q (by decide)⟩⟩⟩
  unfold p_J7_copyOf_9075b
  have f0 : rFr rNo t M (xnw t 13 34) (xw0 M (xz t)) := rFr_n (rFr_refl hl)
  have bz : b ≠ xz t := fun e => by rw [e] at g5; omega
  have sz : sb ≠ xz t := fun e => by rw [e] at g1; omega
  have sbb : sb ≠ b := fun e => by rw [e] at g1; omega
  refine ⟨⟨by omega, by omega⟩, fun _ => ⟨⟨by decide, by decide⟩, hn, fun a t1 M1 ea et eM => ?_⟩, fun q => by omega⟩
  subst ea et eM
  have nb : xn (xnw t 13 (34 : Int).toNat) b = 16 := by rw [xn_nw, if_neg bz]; exact b16
  have nz : xn (xnw t 13 (34 : Int).toNat) (xz t) = 34 := by rw [xn_nw, if_pos rfl]; rfl
  rw [nb, nz, show min ((16 : Nat) : Int) 34 = 16 by decide]
  refine ⟨⟨by decide, by decide⟩, ⟨⟨by decide, by decide, by decide⟩, by decide, by decide, fun i hi => ?_⟩, fun M2 e2 t2 et2 => ?_⟩
  · rw [xw0_B bz, Nat.zero_add, g8]
    have := getD_all g0 i
    omega
  subst et2
  have eB : ∀ c, c ≠ xz t → M2 c = M c := fun c hc => by
    rw [e2]
    funext j
    show (if c = xz t then _ else xw0 M (xz t) c j) = _
    rw [if_neg hc, xw0_B hc]
  have eZ : ∀ j, M2 (xz t) j = L.getD j 0 := fun j => by
    rw [e2]
    show (if xz t = xz t then (if 0 ≤ j ∧ j < 0 + (16 : Int).toNat then xw0 M (xz t) b (0 + (j - 0)) else xw0 M (xz t) (xz t) j) else _) = _
    rw [if_pos rfl]
    by_cases c : j < 16
    · rw [if_pos ⟨Nat.zero_le _, by show j < 0 + 16; omega⟩, xw0_B bz, show 0 + (j - 0) = j by omega]; exact g8 j
    · rw [if_neg (fun q => c (by have : j < 0 + 16 := q.2; omega)), getD_hi (by omega)]; exact xw0_self
  have nz' : xn (xwr (xnw t 13 (34 : Int).toNat) sb 0 (some (xz t))) (xz t) = 34 := nz
  refine hq _ M2 (xz t) ⟨g0, ?_, by rw [eB sb sz]; exact g2, by rw [eB sb sz]; exact g3, by rw [xr_wra, if_pos rfl], ?_, Or.inr nz', by omega, eZ⟩ (by omega) ⟨?_, fun a ha => ?_⟩ (Or.inr dz)
  · show xk (xnw t 13 34) sb = 22
    rw [xk_nw, if_neg sz]; exact g1
  · show xk (xnw t 13 34) (xz t) = 13
    rw [xk_nw, if_pos rfl]
  · exact xlive_wr f0.1
  · have az : a ≠ xz t := fun e => by rw [e] at ha; omega
    refine ⟨?_, ?_, fun n1 n2 => ⟨eB a az, by rw [xr_wrn n1, xr_nw az]⟩⟩
    · show xk (xnw t 13 34) a = _
      rw [xk_nw, if_neg az]
    · show xn (xnw t 13 34) a = _
      rw [xn_nw, if_neg az]
/-- a String is put behind -/
theorem s_sbapp {Q : Nat → xTh → xMe → Prop} {s : Nat} (hl : xlive t) (h : rSb t M sb b L) (hs : rIs G t M s L' (fun c => c = b)) (h34 : L.length + L'.length ≤ 34) (hn : 1 ≤ n) (hq : ∀ t' M' b', rSb t' M' sb b' (L ++ L') → rFs sb b t M t' M' → (b' = b ∨ 22 < xk t b') → Q sb t' M') : p_J4_append_15ec4 F G n t sb s M Q := by
  have hh := h
  obtain ⟨g0, g1, g2, g3, g4, g5, g6, g7, g8⟩ := h
  unfold p_J4_append_15ec4
  refine ⟨n, Nat.le_refl _, ?_⟩
  unfold p_J5_append_cf1ce p_J5_append_cf1ce_9
  rw [g3]
  refine ⟨L'.length, _, rIs_T hs, ⟨by omega, by omega⟩, n, Nat.le_refl _, ?_⟩
  refine s_ensure hl hh (by omega) (by omega) hn (fun t1 M1 b1 q1 q2 q3 q4 => ⟨0, Nat.zero_le _, ?_⟩)
  obtain ⟨k0, k1, k2, k3, k4, k5, k6, k7, k8⟩ := id q1
  have hs1 : rIs G t1 M1 s L' (fun c => c = b1) := by
    refine rIs_N (rIs_fs hs q3 (by omega) (by omega) (by omega) rfl) (fun c _ e => ?_)
    subst e
    rcases q4 with z | z
    · exact Or.inl z
    · exact Or.inr z
  unfold p_J5_putStringAt_47b60
  refine ⟨0, Nat.zero_le _, ?_⟩
  unfold p_J5_inflateIfNeededFor_a7421
  refine ⟨L'.length, _, rIs_T hs1, fun _ => ⟨b1, k4, k5, L'.length, _, rIs_T hs1, ⟨by omega, by omega⟩, k2, fun M2 e2 => ?_⟩, fun q => absurd k2 q⟩
  rw [k3, Int.toNat_natCast] at e2
  have sbb : sb ≠ b1 := fun e => by rw [e] at k1; omega
  have eB : ∀ c, c ≠ b1 → M2 c = M1 c := fun c hc => by
    rw [e2]; funext j
    show (if c = b1 ∧ _ then _ else M1 c j) = _
    rw [if_neg (fun q => hc q.1)]
  rw [eB sb sbb, k3]
  refine ⟨⟨by omega, by omega⟩, fun M3 e3 => ?_⟩
  refine hq t1 M3 b1 ⟨fun c hc => ?_, k1, ?_, ?_, k4, k5, k6, by rw [List.length_append]; omega, fun j => ?_⟩ ⟨q3.1, fun a ha => ?_⟩ q4
  · rcases List.mem_append.mp hc with z | z
    · exact g0 c z
    · exact hs.1 c z
  · rw [e3, xw_j (by decide), eB sb sbb]; exact k2
  · rw [e3, xw_s, List.length_append]; omega
  · rw [e3, xw_b (fun e => sbb e.symm), e2]
    show (if b1 = b1 ∧ L.length ≤ j ∧ j < L.length + L'.length then L'.getD (j - L.length) 0 else M1 b1 j) = _
    by_cases c : L.length ≤ j ∧ j < L.length + L'.length
    · rw [if_pos ⟨rfl, c⟩, List.getD_eq_getElem?_getD, List.getD_eq_getElem?_getD, List.getElem?_append_right c.1]
    · rw [if_neg (fun q => c q.2), k8]
      by_cases c2 : j < L.length
      · exact (getD_l c2).symm
      · rw [getD_hi (by omega), getD_hi (by rw [List.length_append]; omega)]
  · obtain ⟨f1, f2, f3⟩ := q3.2 a ha
    refine ⟨f1, f2, fun n1 n2 => ?_⟩
    obtain ⟨e4, e5⟩ := f3 n1 n2
    have nb1 : a ≠ b1 := fun e => by
      rcases q4 with z | z
      · exact n2 (e.trans z)
      · rw [e] at ha; omega
    exact ⟨by rw [e3, xw_B n1, eB a nb1]; exact e4, e5⟩
/-- the String of a StringBuilder -/
theorem s_sbstr {Q : Nat → xTh → xMe → Prop} (hl : xlive t) (h : rSb t M sb b L) (hn : 2 ≤ n) (hq : ∀ a t' M', rIs G t' M' a L (fun c => xk t c ≤ 22) → rFr rNo t M t' M' → Q a t' M') : p_J4_toString_0e30d F n t sb M Q := by
  have hh := h
  obtain ⟨g0, g1, g2, g3, g4, g5, g6, g7, g8⟩ := h
  have dz := xlive_z hl
  unfold p_J4_toString_0e30d
  refine ⟨by omega, fun a t1 M1 ea et eM => ⟨n - 1, Nat.le_refl _, ?_⟩⟩
  subst ea et eM
  unfold p_J0_init_81219
  refine ⟨n - 1, Nat.le_refl _, ?_⟩
  have f0 : rFr rNo t M (xnw t 21 0) (xw0 M (xz t)) := rFr_n (rFr_refl hl)
  obtain ⟨k0, k1, k2, k3, k4, k5, k6, k7, k8⟩ := id (rSb_fr hh f0)
  have z1 : xz (xnw t 21 0) = xz t + 1 := rfl
  have bz : b ≠ xz t + 1 := fun e => by
    have := f0.1 b (by omega)
    rw [z1] at this; omega
  have bz0 : b ≠ xz t := fun e => by rw [e] at g5; omega
  have kz : xk (xnw t 21 0) (xz t) = 21 := if_pos rfl
  unfold p_J0_init_db425
  refine ⟨0, Nat.zero_le _, ?_⟩
  unfold p_J5_getValue_6d5f1
  refine ⟨b, k4, k5, 0, Nat.zero_le _, ?_⟩
  unfold p_J4_length_8abf5
  refine ⟨0, Nat.zero_le _, ?_⟩
  unfold p_J5_length_8abf5
  refine ⟨0, Nat.zero_le _, ?_⟩
  unfold p_J5_isLatin1_aae02
  refine ⟨fun q => absurd k2 q, fun _ => ⟨fun q => absurd q (by decide), fun _ M2 e2 => ⟨n - 1, by omega, ?_⟩⟩⟩
  rw [k3]
  have f2 : rFr rNo t M (xnw t 21 0) M2 := by rw [e2]; exact rFr_w f0 (Or.inl dz)
  have e8 : ∀ j, M2 b j = L.getD j 0 := fun j => by rw [e2, xw_b bz0]; exact k8 j
  have fin : ∀ (w : Nat) (M3 : xMe), w = L.length → (∀ c, c ≠ xz t + 1 → M3 c = M2 c) → (∀ j, j < L.length → M3 (xz t + 1) j = L.getD j 0) → rFr rNo t M (xnw (xnw t 21 0) 13 w) M3 → Q (xz t) (xwr (xnw (xnw t 21 0) 13 w) (xz t) 0 (some (xz t + 1))) M3 := fun w M3 ew eB eZ f3 => by
    refine hq _ _ M3 ⟨g0, by omega, Or.inr ⟨?_, ?_, xz t + 1, by rw [xr_wra, if_pos rfl], ?_, ?_, eZ, ?_⟩⟩ (rFr_r f3 (Or.inl dz))
    · show xk (xnw (xnw t 21 0) 13 w) (xz t) = 21
      rw [xk_nw, if_neg (by rw [z1]; omega)]; exact kz
    · rw [eB _ (by omega), e2]; exact xw_s
    · show xk (xnw (xnw t 21 0) 13 w) (xz t + 1) = 13
      rw [xk_nw, if_pos z1.symm]
    · show xn (xnw (xnw t 21 0) 13 w) (xz t + 1) = _
      rw [xn_nw, if_pos z1.symm]; exact ew
    · intro q
      have := hl _ q
      omega
  unfold p_J7_copyOfRange_39247
  refine ⟨fun q => absurd rfl q, fun _ => ⟨⟨by omega, by omega⟩, fun q => ⟨⟨by omega, by omega, fun i hi => ?_⟩, fun a1 t3 M3 ea et eM t4 et4 => ?_⟩, fun q => ⟨n - 1, by omega, ?_⟩⟩⟩
  · rw [e8]
    have := getD_all g0 i
    omega
  · subst ea et eM et4
    refine fin _ _ (by omega) (fun c hc => by rw [xcl_B (by rw [z1]; exact hc)]) (fun j hj => ?_) (rFr_c f2)
    show xcl M2 b (xz t + 1) (xz t + 1) j = _
    rw [xcl_z]; exact e8 j
  · unfold p_J7_copyOfRangeByte_39247
    refine ⟨0, Nat.zero_le _, ?_⟩
    unfold p_J7_checkLength_df160
    refine ⟨fun _ => ⟨⟨by omega, by omega⟩, fun z ez => ?_⟩, fun q => absurd q (by omega)⟩
    have ez' : z = (L.length : Int) := by omega
    subst ez'
    refine ⟨⟨by omega, by omega⟩, by omega, fun a1 t3 M3 ea et eM => ?_⟩
    subst ea et eM
    rw [z1, Int.toNat_natCast]
    have nb : xn (xnw (xnw t 21 0) 13 L.length) b = xn (xnw t 21 0) b := by rw [xn_nw, if_neg (by rw [z1]; exact bz)]
    have nz : xn (xnw (xnw t 21 0) 13 L.length) (xz t + 1) = L.length := by rw [xn_nw, if_pos z1.symm]
    rw [nb, nz]
    have hmin : min (((xn (xnw t 21 0) b : Nat) : Int) - 0) ((L.length : Nat) : Int) = (L.length : Int) := by omega
    rw [hmin]
    refine ⟨⟨by omega, by omega⟩, ⟨by omega, by omega⟩, ⟨⟨by decide, by decide, by omega⟩, by omega, by omega, fun i hi => ?_⟩, fun M4 e4 t4 et4 => ?_⟩
    · rw [xw0_B bz, e8]
      have := getD_all g0 ((0 : Int).toNat + i)
      omega
    · subst et4
      rw [Int.toNat_natCast] at e4
      have eB : ∀ c, c ≠ xz t + 1 → M4 c = M2 c := fun c hc => by
        rw [e4]; funext j
        show (if c = xz t + 1 then _ else xw0 M2 (xz t + 1) c j) = _
        rw [if_neg hc, xw0_B hc]
      refine fin _ M4 rfl eB (fun j hj => ?_) ⟨xlive_new f2.1, fun a ha => ?_⟩
      · rw [e4]
        show (if xz t + 1 = xz t + 1 then (if 0 ≤ j ∧ j < 0 + L.length then xw0 M2 (xz t + 1) b ((0 : Int).toNat + (j - 0)) else _) else _) = _
        rw [if_pos rfl, if_pos ⟨Nat.zero_le _, by omega⟩, xw0_B bz, e8]
        congr 1; show 0 + (j - 0) = j; omega
      · have az : a ≠ xz t + 1 := fun e => by
          have := hl a ha; omega
        obtain ⟨h1, h2, h3, h4⟩ := f2.2 a ha
        refine ⟨?_, ?_, fun q => ⟨by rw [eB a az]; exact (h3 q).1, by rw [xr_nw (by rw [z1]; exact az)]; exact (h3 q).2⟩, fun q q' q'' => by rw [xr_nw (by rw [z1]; exact az)]; exact h4 q q' q''⟩
        · rw [xk_nw, if_neg (by rw [z1]; exact az)]; exact h1
        · rw [xn_nw, if_neg (by rw [z1]; exact az)]; exact h2
end RSB
