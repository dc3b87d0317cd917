section RCY
variable {P P' S : Nat → Prop} {σ σ' : Nat → Int} {RA RA' : Int → Nat} {cl : List Nat} {t t' t1 t2 : xTh} {M M' M1 M2 : xMe} {r F n : Nat} {A : yA}
theorem rFr_dd {c : Nat} (f : rFr rNo t M t1 M1) (g : rFr (fun a => a = c) t1 M1 t2 M2) (hc : 22 < xk t c) : rFr rNo t M t2 M2 := ⟨g.1, fun a ha => by
  obtain ⟨f1, f2, f3, f4⟩ := f.2 a ha
  obtain ⟨g1, g2, g3, g4⟩ := g.2 a (by omega)
  have hne : ¬ (a = c) := fun e => by rw [e] at ha; omega
  obtain ⟨x1, x2⟩ := f3 id
  obtain ⟨y1, y2⟩ := g3 hne
  exact ⟨g1.trans f1, g2.trans f2, fun _ => ⟨y1.trans x1, y2.trans x2⟩, fun _ _ _ => y2.trans x2⟩⟩
/-- at z lies a copy of the array of rows at b, its rows behind it -/
def rCy (t : xTh) (M : xMe) (b : Nat) (t' : xTh) (M' : xMe) (z m : Nat) : Prop := xk t' z = 17 ∧ xn t' z = m ∧ (∀ i, i < m → xr t' z i = some (z + 1 + i)) ∧ ∀ i d, i < m → xr t b i = some d → xk t' (z + 1 + i) = 14 ∧ xn t' (z + 1 + i) = xn t d ∧ M' (z + 1 + i) = M d
theorem rCy_fr {b z m : Nat} (rb : ∀ i, i < m → ∃ d, xr t b i = some d) (h : rCy t M b t1 M1 z m) (f : rFr rNo t1 M1 t2 M2) : rCy t M b t2 M2 z m := by
  obtain ⟨h1, h2, h3, h4⟩ := h
  obtain ⟨f1, f2, f3, f4⟩ := f.2 z (by omega)
  refine ⟨f1.trans h1, f2.trans h2, fun i hi => by rw [rFr_17 f h1]; exact h3 i hi, fun i d hi hd => ?_⟩
  obtain ⟨q1, q2, q3⟩ := h4 i d hi hd
  obtain ⟨f1, f2, f3, f4⟩ := f.2 (z + 1 + i) (by omega)
  exact ⟨f1.trans q1, f2.trans q2, (f3 id).1.trans q3⟩
theorem rBl_mv {Sf : Int → Int} {a k : Nat} {n s0 d : Int} {len : Int → Int} (h : rBl P σ RA t M Sf r k n s0 d len) (f : rFr rNo t M t' M') (er : xr t' a k = xr t r k) (hR : ∀ i, 0 ≤ i → i < n → RA' (s0 + d * i) = RA (s0 + d * i)) (hσ : ∀ c, xk t c ≤ 22 → σ' c = σ c) : rBl P σ' RA' t' M' Sf a k n s0 d len := by
  obtain ⟨⟨b, h1, h2, h3, h3', h3''⟩, h4⟩ := h
  obtain ⟨f1, f2, f3, f4⟩ := f.2 b (by omega)
  refine ⟨⟨b, by rw [er]; exact h1, h2, f1.trans h3, by rw [f2]; exact h3', fun i a c => by rw [rFr_17 f h3, hR i a c]; exact h3'' i a c⟩, fun i a c => ?_⟩
  obtain ⟨g1, g2, g3, g4, g5⟩ := h4 i a c
  obtain ⟨f1, f2, f3, f4⟩ := f.2 (RA (s0 + d * i)) (by rw [g3]; decide)
  rw [hR i a c]
  exact ⟨(hσ _ (by rw [g3]; decide)).trans g1, g2, f1.trans g3, by rw [f2]; exact g4, fun j ja jb => by rw [(f3 id).1]; exact g5 j ja jb⟩
theorem rBl_cp {Sf : Int → Int} {a k z m : Nat} {n s0 d : Int} {len : Int → Int} (h : rBl P σ RA t M Sf r k n s0 d len) {b : Nat} (hb : xr t r k = some b) (hm : (m : Int) = n) (hcy : rCy t M b t' M' z m) (er : xr t' a k = some z) (hPz : P' z) (hP : ∀ i, i < m → P' (z + 1 + i)) (hR : ∀ i, 0 ≤ i → i < n → RA' (s0 + d * i) = z + 1 + i.toNat) (hσ : ∀ i : Int, 0 ≤ i → i < n → σ' (z + 1 + i.toNat) = s0 + d * i) : rBl P' σ' RA' t' M' Sf a k n s0 d len := by
  obtain ⟨⟨b', h1, h2, h3, h3', h3''⟩, h4⟩ := h
  rw [hb] at h1
  cases h1
  obtain ⟨c1, c2, c3, c4⟩ := hcy
  refine ⟨⟨z, er, hPz, c1, by omega, fun i x y => by rw [hR i x y]; exact c3 i.toNat (by omega)⟩, fun i x y => ?_⟩
  obtain ⟨g1, g2, g3, g4, g5⟩ := h4 i x y
  obtain ⟨q1, q2, q3⟩ := c4 i.toNat _ (by omega) (h3'' i x y)
  rw [hR i x y]
  exact ⟨hσ i x y, hP _ (by omega), q1, by rw [q2]; exact g4, fun j ja jb => by rw [q3]; exact g5 j ja jb⟩
theorem rTk_cp {Sf : Int → Int} {a z : Nat} {ng nf : Int} (h : rTk P σ RA t M Sf r ng nf) {b : Nat} (hb : xr t r 7 = some b) (hcy : rCy t M b t' M' z 6) (er : xr t' a 7 = some z) (hPz : P' z) (hP : ∀ i, i < 6 → P' (z + 1 + i)) (hR : ∀ i, 0 ≤ i → i < 6 → RA' (561 + 24 * i) = z + 1 + i.toNat) (hσ : ∀ i : Int, 0 ≤ i → i < 6 → σ' (z + 1 + i.toNat) = 561 + 24 * i) : rTk P' σ' RA' t' M' Sf a ng nf := by
  obtain ⟨⟨b', h1, h2, h3, h3', h3''⟩, h4⟩ := h
  rw [hb] at h1
  cases h1
  obtain ⟨c1, c2, c3, c4⟩ := hcy
  refine ⟨⟨z, er, hPz, c1, by omega, fun i x y => by rw [hR i x y]; exact c3 i.toNat (by omega)⟩, fun i x y => ?_⟩
  obtain ⟨g1, g2, g3, g4, g5⟩ := h4 i x y
  obtain ⟨q1, q2, q3⟩ := c4 i.toNat _ (by omega) (h3'' i x y)
  rw [hR i x y]
  exact ⟨hσ i x y, hP _ (by omega), q1, by rw [q2]; exact g4, fun w j ja jb => by rw [q3]; exact g5 w j ja jb⟩
theorem rCp_cp {a z m : Nat} {C : List yCo} (h : rCp P σ t M r cl C) {b : Nat} (hb : xr t r 5 = some b) (hm : m = cl.length) (hcy : rCy t M b t' M' z m) (er : xr t' a 5 = some z) (hPz : P' z) (hP : ∀ i, i < m → P' (z + 1 + i)) (hσ : ∀ i, i < m → σ' (z + 1 + i) = 0) : rCp P' σ' t' M' a ((List.range m).map fun i => z + 1 + i) C := by
  obtain ⟨⟨b', h1, h2, h3, h4, h5⟩, h6, h7, h8⟩ := h
  rw [hb] at h1
  cases h1
  obtain ⟨c1, c2, c3, c4⟩ := hcy
  have hl : ((List.range m).map fun i => z + 1 + i).length = m := by simp
  have hat : ∀ i, i < m → ((List.range m).map fun i => z + 1 + i)[i]? = some (z + 1 + i) := fun i hi => by
    rw [List.getElem?_map, List.getElem?_range hi]; rfl
  refine ⟨⟨z, er, hPz, c1, by rw [hl]; exact c2, fun i hi => ?_⟩, by rw [hl, hm]; exact h6, ?_, fun i c v hc hv => ?_⟩
  · rw [hl] at hi
    rw [c3 i hi, hat i hi]
  · refine List.Pairwise.map _ (fun x y hxy => ?_) List.nodup_range
    omega
  · have hi : i < m := by have := (List.getElem?_eq_some_iff.mp hc).1; omega
    rw [hat i hi] at hc
    cases hc
    have hcl : cl[i]? = some cl[i] := List.getElem?_eq_getElem (by omega)
    obtain ⟨q1, q2, q3, q4, q5⟩ := h8 i _ v hcl hv
    obtain ⟨w1, w2, w3⟩ := c4 i cl[i] hi (by rw [h5 i (by omega)]; exact hcl)
    exact ⟨hσ i hi, hP i hi, w1, w2.trans q4, by rw [w3]; exact q5⟩
/-- the tags of a copy -/
def rCσ (σ : Nat → Int) (zF zP zC zT nf np nc : Nat) : Nat → Int := fun a => if zF < a ∧ a ≤ zF + nf then 34 + 8 * ((a : Int) - zF - 1) else if zP < a ∧ a ≤ zP + np then 81 + 9 * ((a : Int) - zP - 1) else if zC < a ∧ a ≤ zC + nc then 0 else if zT < a ∧ a ≤ zT + 6 then 561 + 24 * ((a : Int) - zT - 1) else σ a
def rCR (RA : Int → Nat) (zF zP zT : Nat) : Int → Nat := fun s => if s < 33 then RA s else if s < 81 then (if (s - 34) % 8 = 0 then zF + 1 + ((s - 34) / 8).toNat else RA s) else if s < 441 then zP + 1 + ((s - 81) / 9).toNat else zT + 1 + ((s - 561) / 24).toNat
end RCY
section RCZ
variable {P S : Nat → Prop} {σ : Nat → Int} {RA : Int → Nat} {cl : List Nat} {t : xTh} {M : xMe} {r F n : Nat} {A : yA}
theorem xr_wra {u : xTh} {a j k : Nat} {o : Option Nat} : xr (xwr u a j o) a k = if k = j then o else xr u a k := by
  rw [xr_wr]
  by_cases e : k = j
  · rw [if_pos ⟨rfl, e⟩, if_pos e]
  · rw [if_neg (fun q => e q.2), if_neg e]
theorem rb_cp {t1 : xTh} {M1 : xMe} {b m : Nat} (rb : ∀ i, i < m → ∃ d, xr t b i = some d ∧ xk t d = 14 ∧ xn t d ≤ 64) (hb : xk t b = 17) (f : rFr rNo t M t1 M1) : xk t1 b = 17 ∧ xn t1 b = xn t b ∧ ∀ i, i < m → ∃ d, xr t1 b i = some d ∧ xk t1 d = 14 ∧ xn t1 d ≤ 64 := by
  obtain ⟨f1, f2, f3, f4⟩ := f.2 b (by omega)
  refine ⟨f1.trans hb, f2, fun i hi => ?_⟩
  obtain ⟨d, d1, d2, d3⟩ := rb i hi
  obtain ⟨g1, g2, -, -⟩ := f.2 d (by omega)
  exact ⟨d, by rw [rFr_17 f hb]; exact d1, g1.trans d2, by rw [g2]; exact d3⟩
/-- an array of rows is copied, in the midst of a copy -/
theorem s_cp {Q : Nat → xTh → xMe → Prop} {t1 : xTh} {M1 : xMe} {b m : Nat} (rb : ∀ i, i < m → ∃ d, xr t b i = some d ∧ xk t d = 14 ∧ xn t d ≤ 64) (hb : xk t b = 17) (nb : xn t b = m) (hm : m ≤ 62) (f : rFr rNo t M t1 M1) (hF : m < F) (hn : 1 + m ≤ n) (hq : ∀ t' M', rFr rNo t1 M1 t' M' → xz t' = xz t1 + 1 + m → rCy t M b t' M' (xz t1) m → Q (xz t1) t' M') : p_L_copied F n t1 b M1 Q := by
  obtain ⟨k1, k2, k3⟩ := rb_cp rb hb f
  refine s_copied f.1 k1 (k2.trans nb) hm k3 hF hn (fun t' M' g z q1 q2 q3 q4 => hq t' M' g z ⟨q1, q2, q3, fun i d hi hd => ?_⟩)
  have e : xr t1 b = xr t b := rFr_17 f hb
  obtain ⟨w1, w2, w3⟩ := q4 i d hi (by rw [e]; exact hd)
  obtain ⟨d', d1, d2, d3⟩ := rb i hi
  rw [hd] at d1
  cases d1
  obtain ⟨g1, g2, g3, -⟩ := f.2 d (by omega)
  exact ⟨w1, w2.trans g2, w3.trans (g3 id).1⟩
set_option maxHeartbeats 8000000 in
theorem s_copy {Q : Nat → xTh → xMe → Prop} (h : rRi P S σ RA cl t M r A) (ok : rOk A) (hC : (yC A).length ≤ 30) (hl : xlive t) (hps : ∃ b, xr t r 6 = some b ∧ xk t b = 17) (hF : 70 ≤ F) (hn : 100 ≤ n) (hq : ∀ t' M', rFr rNo t M t' M' → rRd (fun a => xz t ≤ a ∧ xk t' a ≤ 22) S t' M' (xz t) A → Q (xz t) t' M') : p_X14_copy F n t r M Q := by
  obtain ⟨⟨n1, n2, n3, n4, n5, n6⟩, hro⟩ := id ok
  obtain ⟨⟨hk, hPr⟩, hsc, hga, hfl, hrt, hpk, htk, hcp, htm⟩ := id h
  obtain ⟨⟨bg, bg1, -, bg2, -, -⟩, -⟩ := id hga
  obtain ⟨⟨bf, bf1, -, bf2, bf3, bf4⟩, hflr⟩ := id hfl
  obtain ⟨⟨bo, bo1, -, bo2, -, -⟩, -⟩ := id hrt
  obtain ⟨⟨bp, bp1, -, bp2, bp3, bp4⟩, hpkr⟩ := id hpk
  obtain ⟨⟨bt, bt1, -, bt2, bt3, bt4⟩, htkr⟩ := id htk
  obtain ⟨bc, bc1, -, bc2, bc3, bc4, bc5, -⟩ := rCp_b hcp
  obtain ⟨bs, bs1, bs2⟩ := hps
  have hz := xlive_z hl
  have hrne : r ≠ xz t := fun e => by rw [e] at hk; omega
  -- the rows
  have rbF : ∀ i, i < (yS A 2).toNat → ∃ d, xr t bf i = some d ∧ xk t d = 14 ∧ xn t d ≤ 64 := fun i hi => by
    have := bf4 i (by omega) (by omega)
    rw [Int.toNat_natCast] at this
    obtain ⟨-, -, q3, q4, -⟩ := hflr i (by omega) (by omega)
    dsimp only at q4
    exact ⟨_, this, q3, by omega⟩
  have rbP : ∀ i, i < (yS A 3).toNat → ∃ d, xr t bp i = some d ∧ xk t d = 14 ∧ xn t d ≤ 64 := fun i hi => by
    have := bp4 i (by omega) (by omega)
    rw [Int.toNat_natCast] at this
    obtain ⟨-, -, q3, q4, -⟩ := hpkr i (by omega) (by omega)
    dsimp only at q4
    exact ⟨_, this, q3, by omega⟩
  have rbT : ∀ i, i < 6 → ∃ d, xr t bt i = some d ∧ xk t d = 14 ∧ xn t d ≤ 64 := fun i hi => by
    have := bt4 i (by omega) (by omega)
    rw [Int.toNat_natCast] at this
    obtain ⟨-, -, q3, q4, -⟩ := htkr i (by omega) (by omega)
    exact ⟨_, this, q3, by omega⟩
  have rbC : ∀ i, i < cl.length → ∃ d, xr t bc i = some d ∧ xk t d = 14 ∧ xn t d ≤ 64 := fun i hi => by
    obtain ⟨-, -, q3, q4, -⟩ := hcp.2.2.2 i _ _ (List.getElem?_eq_getElem hi) (List.getElem?_eq_getElem (by omega))
    exact ⟨cl[i], by rw [bc5 i hi]; exact List.getElem?_eq_getElem hi, q3, by omega⟩
  unfold p_X14_copy
  refine ⟨by omega, fun a0 t0 M0 ea et eM => ⟨13, by omega, ?_⟩⟩
  subst ea et eM
  have f0 : rFr rNo t M (xnw t 20 0) (xw0 M (xz t)) := rFr_n (rFr_refl hl)
  refine s_init f0.1 (by rw [xk_nw, if_pos rfl]) (by omega) (fun t4 M4 g4 z4 _ _ _ _ _ r13 m10 m11 m12 mj => ?_)
  have f4 : rFr rNo t M t4 M4 := rFr_dd f0 g4 hz
  have ka : ∀ {t' M'}, rFr (fun a => a = xz t) (xnw t 20 0) (xw0 M (xz t)) t' M' → xk t' (xz t) = 20 := fun {t' M'} f => (f.2 (xz t) (by rw [xk_nw, if_pos rfl]; decide)).1.trans (by rw [xk_nw, if_pos rfl])
  have ka4 := ka g4
  have keep : ∀ {t' M'}, rFr rNo t M t' M' → (∀ k, xr t' r k = xr t r k) ∧ (∀ j, M' r j = M r j) := fun {t' M'} f => by
    obtain ⟨-, -, f3, -⟩ := f.2 r (by omega)
    exact ⟨fun k => by rw [(f3 id).2], fun j => by rw [(f3 id).1]⟩
  have kk : ∀ {t' M'} {b : Nat}, rFr rNo t M t' M' → xk t b = 17 → xk t' b = 17 := fun {t' M' b} f hb => (f.2 b (by omega)).1.trans hb
  intro M13 e13
  have f13 : rFr rNo t M t4 M13 := by rw [e13]; exact rFr_w f4 (Or.inl hz)
  rw [(keep f4).2 0] at e13
  refine ⟨bg, by rw [(keep f13).1]; exact bg1, kk f13 bg2, fun t21 e21 => ?_⟩
  have f21 : rFr rNo t M t21 M13 := by rw [e21]; exact rFr_r f13 (Or.inl hz)
  refine ⟨bo, by rw [(keep f21).1]; exact bo1, kk f21 bo2, fun t29 e29 => ?_⟩
  have f29 : rFr rNo t M t29 M13 := by rw [e29]; exact rFr_r f21 (Or.inl hz)
  have z29 : xz t29 = xz t + 14 := by rw [e29, e21]; show xz t4 = _; rw [z4]; rfl
  refine ⟨bf, by rw [(keep f29).1]; exact bf1, kk f29 bf2, 1 + (yS A 2).toNat, by omega, s_cp rbF bf2 (by omega) (by omega) f29 (by omega) (Nat.le_refl _) (fun t37 M37 g37 z37 cy37 => fun t40 e40 => ?_)⟩
  have f37 := rFr_trans f29 g37
  have f40 : rFr rNo t M t40 M37 := by rw [e40]; exact rFr_r f37 (Or.inl hz)
  have z40 : xz t40 = xz t29 + 1 + (yS A 2).toNat := by rw [e40]; exact z37
  have ka29 : xk t29 (xz t) = 20 := by rw [e29, e21]; exact ka4
  have ka37 : xk t37 (xz t) = 20 := (g37.2 (xz t) (by omega)).1.trans ka29
  have f37_40 : rFr rNo t29 M13 t40 M37 → True := fun _ => trivial
  refine ⟨bp, by rw [(keep f40).1]; exact bp1, kk f40 bp2, 1 + (yS A 3).toNat, by omega, s_cp rbP bp2 (by omega) (by omega) f40 (by omega) (Nat.le_refl _) (fun t48 M48 g48 z48 cy48 => fun t51 e51 => ?_)⟩
  have f48 := rFr_trans f40 g48
  have f51 : rFr rNo t M t51 M48 := by rw [e51]; exact rFr_r f48 (Or.inl hz)
  have z51 : xz t51 = xz t40 + 1 + (yS A 3).toNat := by rw [e51]; exact z48
  have ka40 : xk t40 (xz t) = 20 := by rw [e40]; exact ka37
  have ka48 : xk t48 (xz t) = 20 := (g48.2 (xz t) (by omega)).1.trans ka40
  refine ⟨bc, by rw [(keep f51).1]; exact bc1, kk f51 bc2, 1 + cl.length, by omega, s_cp rbC bc2 bc3 (by omega) f51 (by omega) (Nat.le_refl _) (fun t59 M59 g59 z59 cy59 => fun t62 e62 => ?_)⟩
  have f59 := rFr_trans f51 g59
  have f62 : rFr rNo t M t62 M59 := by rw [e62]; exact rFr_r f59 (Or.inl hz)
  have z62 : xz t62 = xz t51 + 1 + cl.length := by rw [e62]; exact z59
  have ka51 : xk t51 (xz t) = 20 := by rw [e51]; exact ka48
  have ka59 : xk t59 (xz t) = 20 := (g59.2 (xz t) (by omega)).1.trans ka51
  refine ⟨bs, by rw [(keep f62).1]; exact bs1, kk f62 bs2, fun t70 e70 => ?_⟩
  have f70 : rFr rNo t M t70 M59 := by rw [e70]; exact rFr_r f62 (Or.inl hz)
  have z70 : xz t70 = xz t62 := by rw [e70]; rfl
  have ka70 : xk t70 (xz t) = 20 := by rw [e70, e62]; exact ka59
  refine ⟨bt, by rw [(keep f70).1]; exact bt1, kk f70 bt2, 1 + 6, by omega, s_cp rbT bt2 (by omega) (by omega) f70 (by omega) (Nat.le_refl _) (fun t78 M78 g78 z78 cy78 => ?_)⟩
  intro t81 e81
  have f78 := rFr_trans f70 g78
  have f81 : rFr rNo t M t81 M78 := by rw [e81]; exact rFr_r f78 (Or.inl hz)
  have ka78 : xk t78 (xz t) = 20 := (g78.2 (xz t) (by omega)).1.trans ka70
  intro M89 e89 M97 e97 M105 e105 M113 e113 M121 e121
  have ka81 : xk t81 (xz t) = 20 := by rw [e81]; exact ka78
  have f121 : rFr rNo t M t81 M121 := by
    rw [e121, e113, e105, e97, e89]
    exact rFr_w (rFr_w (rFr_w (rFr_w (rFr_w f81 (Or.inl hz)) (Or.inl hz)) (Or.inl hz)) (Or.inl hz)) (Or.inl hz)
  rw [(keep f81).1 13]
  have htm' := htm
  refine ⟨fun b hb => ?_, fun t129 e129 => ?_⟩
  · rw [hb] at htm
    exact (f121.2 b (by rw [htm.2.1]; decide)).1.trans htm.2.1
  have fE : rFr rNo t M t129 M121 := by rw [e129]; exact rFr_r f121 (Or.inl hz)
  -- frames from the copies to the end: only the new Road's own fields are set in between
  have own : ∀ {t1 M1 t2 M2 b z m}, (∀ i, i < m → ∃ d, xr t b i = some d) → rCy t M b t1 M1 z m → (∀ c, xk t1 c ≤ 22 → c ≠ xz t → xk t2 c = xk t1 c ∧ xn t2 c = xn t1 c ∧ M2 c = M1 c ∧ xr t2 c = xr t1 c) → xk t1 (xz t) = 20 → rCy t M b t2 M2 z m := fun {t1 M1 t2 M2 b z m} rb hcy hf hka => by
    obtain ⟨h1, h2, h3, h4⟩ := hcy
    have hzz : z ≠ xz t := fun e => by rw [e] at h1; omega
    obtain ⟨f1, f2, -, f4⟩ := hf z (by omega) hzz
    refine ⟨f1.trans h1, f2.trans h2, fun i hi => by rw [f4]; exact h3 i hi, fun i d hi hd => ?_⟩
    obtain ⟨q1, q2, q3⟩ := h4 i d hi hd
    have hzi : z + 1 + i ≠ xz t := fun e => by rw [e] at q1; omega
    obtain ⟨f1, f2, f3, -⟩ := hf (z + 1 + i) (by omega) hzi
    exact ⟨f1.trans q1, f2.trans q2, f3.trans q3⟩
  have st1 : ∀ c, c ≠ xz t → xr t129 c = xr t78 c ∧ M121 c = M78 c := fun c hc => ⟨by rw [e129, xr_wrn hc, e81, xr_wrn hc], by rw [e121, xw_B hc, e113, xw_B hc, e105, xw_B hc, e97, xw_B hc, e89, xw_B hc]⟩
  have kn : (∀ c, xk t129 c = xk t78 c) ∧ (∀ c, xn t129 c = xn t78 c) := ⟨fun c => by rw [e129, e81]; rfl, fun c => by rw [e129, e81]; rfl⟩
  have s78 : ∀ c, xk t78 c ≤ 22 → c ≠ xz t → xk t129 c = xk t78 c ∧ xn t129 c = xn t78 c ∧ M121 c = M78 c ∧ xr t129 c = xr t78 c := fun c _ hc => ⟨kn.1 c, kn.2 c, (st1 c hc).2, (st1 c hc).1⟩
  have s59 : ∀ c, xk t59 c ≤ 22 → c ≠ xz t → xk t129 c = xk t59 c ∧ xn t129 c = xn t59 c ∧ M121 c = M59 c ∧ xr t129 c = xr t59 c := fun c hc hne => by
    obtain ⟨g1, g2, g3, -⟩ := g78.2 c (by rw [e70, e62]; exact hc)
    obtain ⟨x1, x2, x3, x4⟩ := s78 c (by rw [g1, e70, e62]; exact hc) hne
    refine ⟨x1.trans (g1.trans (by rw [e70, e62]; rfl)), x2.trans (g2.trans (by rw [e70, e62]; rfl)), x3.trans (g3 id).1, x4.trans ((g3 id).2.trans ?_)⟩
    rw [e70, xr_wrn hne, e62, xr_wrn hne]
  have s48 : ∀ c, xk t48 c ≤ 22 → c ≠ xz t → xk t129 c = xk t48 c ∧ xn t129 c = xn t48 c ∧ M121 c = M48 c ∧ xr t129 c = xr t48 c := fun c hc hne => by
    obtain ⟨g1, g2, g3, -⟩ := g59.2 c (by rw [e51]; exact hc)
    obtain ⟨x1, x2, x3, x4⟩ := s59 c (by rw [g1, e51]; exact hc) hne
    refine ⟨x1.trans (g1.trans (by rw [e51]; rfl)), x2.trans (g2.trans (by rw [e51]; rfl)), x3.trans (g3 id).1, x4.trans ((g3 id).2.trans ?_)⟩
    rw [e51, xr_wrn hne]
  have s37 : ∀ c, xk t37 c ≤ 22 → c ≠ xz t → xk t129 c = xk t37 c ∧ xn t129 c = xn t37 c ∧ M121 c = M37 c ∧ xr t129 c = xr t37 c := fun c hc hne => by
    obtain ⟨g1, g2, g3, -⟩ := g48.2 c (by rw [e40]; exact hc)
    obtain ⟨x1, x2, x3, x4⟩ := s48 c (by rw [g1, e40]; exact hc) hne
    refine ⟨x1.trans (g1.trans (by rw [e40]; rfl)), x2.trans (g2.trans (by rw [e40]; rfl)), x3.trans (g3 id).1, x4.trans ((g3 id).2.trans ?_)⟩
    rw [e40, xr_wrn hne]
  have cyF := own (fun i hi => (rbF i hi).imp fun _ q => q.1) cy37 s37 ka37
  have cyP := own (fun i hi => (rbP i hi).imp fun _ q => q.1) cy48 s48 ka48
  have cyC := own (fun i hi => (rbC i hi).imp fun _ q => q.1) cy59 s59 ka59
  have cyT := own (fun i hi => (rbT i hi).imp fun _ q => q.1) cy78 s78 ka78
  -- the fields
  have g37r : xr t37 (xz t) = xr t29 (xz t) := ((g37.2 (xz t) (by omega)).2.2.1 id).2
  have g48r : xr t48 (xz t) = xr t40 (xz t) := ((g48.2 (xz t) (by omega)).2.2.1 id).2
  have g59r : xr t59 (xz t) = xr t51 (xz t) := ((g59.2 (xz t) (by omega)).2.2.1 id).2
  have g78r : xr t78 (xz t) = xr t70 (xz t) := ((g78.2 (xz t) (by omega)).2.2.1 id).2
  have er : ∀ k, xr t129 (xz t) k = if k = 13 then xr t r 13 else if k = 7 then some (xz t70) else if k = 6 then some bs else if k = 5 then some (xz t51) else if k = 4 then some (xz t40) else if k = 2 then some (xz t29) else if k = 3 then some bo else if k = 1 then some bg else xr t4 (xz t) k := fun k => by
    rw [e129, xr_wra, e81, xr_wra, g78r, e70, xr_wra, e62, xr_wra, g59r, e51, xr_wra, g48r, e40, xr_wra, g37r, e29, xr_wra, e21, xr_wra]
  have g37m : M37 (xz t) = M13 (xz t) := ((g37.2 (xz t) (by omega)).2.2.1 id).1
  have g48m : M48 (xz t) = M37 (xz t) := ((g48.2 (xz t) (by omega)).2.2.1 id).1
  have g59m : M59 (xz t) = M48 (xz t) := ((g59.2 (xz t) (by omega)).2.2.1 id).1
  have g78m : M78 (xz t) = M59 (xz t) := ((g78.2 (xz t) (by omega)).2.2.1 id).1
  have k81 := (keep f81).2
  have w0 : ∀ (N : xMe) (j : Nat) (v : Int) (k : Nat), xw N (xz t) j v (xz t) k = if k = j then v else N (xz t) k := fun N j v k => by
    by_cases e : k = j
    · rw [if_pos e, e]; exact xw_s
    · rw [if_neg e]; exact xw_j e
  have hr97 : M89 r 9 = M r 9 := by rw [e89, xw_b hrne]; exact k81 9
  have hr105 : M97 r 10 = M r 10 := by rw [e97, xw_b hrne, e89, xw_b hrne]; exact k81 10
  have hr113 : M105 r 11 = M r 11 := by rw [e105, xw_b hrne, e97, xw_b hrne, e89, xw_b hrne]; exact k81 11
  have hr121 : M113 r 12 = M r 12 := by rw [e113, xw_b hrne, e105, xw_b hrne, e97, xw_b hrne, e89, xw_b hrne]; exact k81 12
  have eMm : ∀ j, M121 (xz t) j = if j = 12 then M r 12 else if j = 11 then M r 11 else if j = 10 then M r 10 else if j = 9 then M r 9 else if j = 8 then M r 8 else if j = 0 then M r 0 else M4 (xz t) j := fun j => by
    rw [e121, w0, hr121, e113, w0, hr113, e105, w0, hr105, e97, w0, hr97, e89, w0, k81 8, g78m, g59m, g48m, g37m, e13, w0]
  -- old cells lie below
  have hlow : ∀ c, xk t c ≤ 22 → c < xz t := hl
  have hPf : ∀ {z m : Nat} {b : Nat}, rCy t M b t129 M121 z m → xz t ≤ z → (∀ i, i < m → ∃ d, xr t b i = some d) → (xz t ≤ z ∧ xk t129 z ≤ 22) ∧ ∀ i, i < m → xz t ≤ z + 1 + i ∧ xk t129 (z + 1 + i) ≤ 22 := fun {z m b} hcy hzz rb => by
    refine ⟨⟨hzz, by rw [hcy.1]; decide⟩, fun i hi => ⟨by omega, ?_⟩⟩
    obtain ⟨d, hd⟩ := rb i hi
    rw [(hcy.2.2.2 i d hi hd).1]; decide
  obtain ⟨pF0, pF1⟩ := hPf cyF (by omega) (fun i hi => (rbF i hi).imp fun _ q => q.1)
  obtain ⟨pP0, pP1⟩ := hPf cyP (by omega) (fun i hi => (rbP i hi).imp fun _ q => q.1)
  obtain ⟨pC0, pC1⟩ := hPf cyC (by omega) (fun i hi => (rbC i hi).imp fun _ q => q.1)
  obtain ⟨pT0, pT1⟩ := hPf cyT (by omega) (fun i hi => (rbT i hi).imp fun _ q => q.1)
  have hσ : ∀ c, xk t c ≤ 22 → rCσ σ (xz t29) (xz t40) (xz t51) (xz t70) (yS A 2).toNat (yS A 3).toNat cl.length c = σ c := fun c hc => by
    have := hlow c hc
    unfold rCσ
    rw [if_neg (by omega), if_neg (by omega), if_neg (by omega), if_neg (by omega)]
  refine hq t129 M121 fE ⟨rCσ σ (xz t29) (xz t40) (xz t51) (xz t70) (yS A 2).toNat (yS A 3).toNat cl.length, rCR RA (xz t29) (xz t40) (xz t70), _, ⟨by rw [kn.1]; exact ka78, Nat.le_refl _, by rw [kn.1, ka78]; decide⟩, ?_, rBl_mv hga fE (by rw [er, bg1]; rfl) (fun i a b => by unfold rCR; rw [if_pos (by omega)]) hσ, rBl_cp hfl bf1 (by omega) cyF (by rw [er]; rfl) pF0 pF1 (fun i a b => ?_) (fun i a b => ?_), rBl_mv hrt fE (by rw [er, bo1]; rfl) (fun i a b => by unfold rCR; rw [if_neg (by omega), if_pos (by omega), if_neg (by omega)]) hσ, rBl_cp hpk bp1 (by omega) cyP (by rw [er]; rfl) pP0 pP1 (fun i a b => ?_) (fun i a b => ?_), rTk_cp htk bt1 cyT (by rw [er]; rfl) pT0 pT1 (fun i a b => ?_) (fun i a b => ?_), rCp_cp hcp bc1 rfl cyC (by rw [er]; rfl) pC0 pC1 (fun i a => ?_), ?_⟩
  · unfold rSc
    rw [eMm, eMm, eMm, eMm, eMm, eMm]
    exact hsc
  · unfold rCR; rw [if_neg (by omega), if_pos (by omega), if_pos (by omega)]; omega
  · unfold rCσ; rw [if_pos (by omega)]; omega
  · unfold rCR; rw [if_neg (by omega), if_neg (by omega), if_pos (by omega)]; omega
  · unfold rCσ; rw [if_neg (by omega), if_pos (by omega)]; omega
  · unfold rCR; rw [if_neg (by omega), if_neg (by omega), if_neg (by omega)]; omega
  · unfold rCσ; rw [if_neg (by omega), if_neg (by omega), if_neg (by omega), if_pos (by omega)]; omega
  · unfold rCσ; rw [if_neg (by omega), if_neg (by omega), if_pos (by omega)]
  · rw [er]
    exact rTm_fr htm' fE (fun _ _ z => z)
end RCZ
