/-! PRICES of the Road; its coupons are spent -/
theorem yEv_n {s g e w c : Int} {K st : List Int} (h : ¬ (-4 ≤ c ∧ c ≤ -1)) : yEv s g e w (c :: K) st = yEv s g e w K (yVr s g e w c :: st) := by
  conv => lhs; unfold yEv
  exact if_neg h
theorem yEv_o {s g e w c l r : Int} {K st : List Int} (h : -4 ≤ c ∧ c ≤ -1) : yEv s g e w (c :: K) (r :: l :: st) = yEv s g e w K (yOp c l r :: st) := by
  rw [yEv, if_pos h]
section RVA
variable {S : Nat → Prop} {t : xTh} {M : xMe} {F : Nat} {s g e w : Int}
theorem yB6_l {x : Int} (h : yB6 x) : -1000000 ≤ x ∧ x ≤ 1000000 := h
theorem s_value {a : Nat} (na : xn t a = 4) (v0 : M a 0 = s) (v1 : M a 1 = g) (v2 : M a 2 = e) (v3 : M a 3 = w) (hs : yB6 s) (hg : yB6 g) (he : yB6 e) (hw : yB6 w) : ∀ (d q n : Nat) (K : List Int) (Q : Int → xTh → xMe → Prop), rNd S t M d q K → (∀ v, yB6 v → (∀ K' st, yEv s g e w (K ++ K') st = yEv s g e w K' (v :: st)) → Q v t M) → p_X12_valueR F d n t q a M Q
  | 0, _, _, _, _, h, _ => h.elim
  | d + 1, q, n, K, Q, h, hq => by
    obtain ⟨h1, h2, h3⟩ := h
    unfold p_X12_valueR p_X12_value
    rcases h3 with ⟨k0, i0, i1, rfl⟩ | ⟨k0, i0, i1, rfl⟩ | ⟨k0, k1, l, r, Kl, Kr, e1, e2, hl, hr, rfl⟩
    · refine ⟨fun z => absurd z (by omega), fun _ => ⟨fun z => absurd k0 z, fun _ => hq _ ⟨by omega, by omega⟩ (fun K' st => ?_)⟩⟩
      show yEv s g e w (M q 1 :: K') st = _
      rw [yEv_n (by omega)]
      unfold yVr
      rw [if_neg (by omega), if_neg (by omega), if_neg (by omega), if_neg (by omega)]
    · refine ⟨fun z => absurd z (by omega), fun _ => ⟨fun _ => ⟨⟨i0, by omega⟩, ?_⟩, fun z => absurd z (by omega)⟩⟩
      have hv : M a (M q 1).toNat = yVr s g e w (-5 - M q 1) := by
        have : M q 1 = 0 ∨ M q 1 = 1 ∨ M q 1 = 2 ∨ M q 1 = 3 := by omega
        unfold yVr
        rcases this with z | z | z | z <;> rw [z]
        · exact v0
        · exact v1
        · exact v2
        · exact v3
      rw [hv]
      refine hq _ ?_ (fun K' st => ?_)
      · unfold yVr
        split
        · exact hs
        · split
          · exact hg
          · split
            · exact he
            · split
              · exact hw
              · omega
      · show yEv s g e w ((-5 - M q 1) :: K') st = _
        rw [yEv_n (by omega)]
    · have kl : xk t l = 12 := by
        cases d with
        | zero => exact hl.elim
        | succ d => exact hl.2.1
      have kr : xk t r = 12 := by
        cases d with
        | zero => exact hr.elim
        | succ d => exact hr.2.1
      refine ⟨fun _ => ⟨l, e1, kl, 0, by omega, s_value na v0 v1 v2 v3 hs hg he hw d l 0 Kl _ hl (fun x bx hx => ⟨r, e2, kr, 0, by omega, s_value na v0 v1 v2 v3 hs hg he hw d r 0 Kr _ hr (fun y by_ hy => ?_)⟩)⟩, fun z => absurd z (by omega)⟩
      have fin : ∀ z, yCl z = yOp (1 - M q 0) x y → Q (max (-1000000) (min 1000000 z)) t M := fun z hz => by
        have e : max (-1000000) (min 1000000 z) = yOp (1 - M q 0) x y := hz
        rw [e]
        refine hq _ yOp_b (fun K' st => ?_)
        rw [show Kl ++ (Kr ++ [1 - M q 0]) ++ K' = Kl ++ (Kr ++ ((1 - M q 0) :: K')) by simp, hx, hy, yEv_o ⟨by omega, by omega⟩]
      have bx' := yB6_l bx
      have by' := yB6_l by_
      unfold p_X12_value_109
      refine ⟨fun n2 => ⟨fun n3 => ⟨fun n4 => ⟨fun c => ?_, fun c => ?_⟩, fun c => ⟨yB6_mul bx by_, fin _ ?_⟩⟩, fun c => ⟨⟨by omega, by omega⟩, fin _ ?_⟩⟩, fun c => ⟨⟨by omega, by omega⟩, fin _ ?_⟩⟩
      · have hy0 : y ≠ 0 := fun z => c (xcmp_0.mpr z)
        have b6 := yB6_l (yB6_div (y := y) bx)
        refine ⟨⟨hy0, ⟨by omega, by omega⟩⟩, fin _ ?_⟩
        unfold yOp
        rw [if_neg (by omega), if_neg (by omega), if_neg (by omega), if_neg hy0]
      · have hy0 : y = 0 := xcmp_0.mp c
        refine fin _ ?_
        unfold yOp
        rw [if_neg (by omega), if_neg (by omega), if_neg (by omega), if_pos hy0]
        decide
      · unfold yOp; rw [if_neg (by omega), if_neg (by omega), if_pos (by omega)]
      · unfold yOp; rw [if_neg (by omega), if_pos (by omega)]
      · unfold yOp; rw [if_pos (by omega)]
end RVA
section RSP
variable {P S : Nat → Prop} {σ : Nat → Int} {RA : Int → Nat} {cl : List Nat} {t : xTh} {M : xMe} {r : Nat} {A : yA} {F n : Nat} {f g p w v : Int}
theorem rBl_o {Sf : Int → Int} {k c j : Nat} {n s0 d x : Int} {len : Int → Int} (h : rBl P σ RA t M Sf r k n s0 d len) (hσ : σ c = 0) (hs : 0 < s0) (hd : 0 ≤ d) : rBl P σ RA t (xw M c j x) Sf r k n s0 d len := ⟨h.1, fun i a b => by
  obtain ⟨q1, q2, q3, q4, q5⟩ := h.2 i a b
  refine ⟨q1, q2, q3, q4, fun j ja jb => ?_⟩
  rw [xw_B (fun e => by rw [e, hσ] at q1; have := Int.mul_nonneg hd a; omega)]
  exact q5 j ja jb⟩
theorem rTk_o {Sf : Int → Int} {c j : Nat} {ng nf x : Int} (h : rTk P σ RA t M Sf r ng nf) (hσ : σ c = 0) : rTk P σ RA t (xw M c j x) Sf r ng nf := ⟨h.1, fun i a b => by
  obtain ⟨q1, q2, q3, q4, q5⟩ := h.2 i a b
  refine ⟨q1, q2, q3, q4, fun q j ja jb => ?_⟩
  rw [xw_B (fun e => by rw [e, hσ] at q1; omega)]
  exact q5 q j ja jb⟩
theorem rCp_set {C : List yCo} {i c : Nat} {u : yCo} {x : Int} (h : rCp P σ t M r cl C) (hc : cl[i]? = some c) (hv : C[i]? = some u) : rCp P σ t (xw M c 1 x) r cl (C.set i (u.1, x, u.2.2)) := by
  obtain ⟨h1, h2, h3, h4⟩ := h
  refine ⟨h1, by rw [List.length_set]; exact h2, h3, fun j a b ha hb => ?_⟩
  by_cases e : j = i
  · subst e
    rw [hc] at ha; cases ha
    rw [List.getElem?_set_self (List.getElem?_eq_some_iff.mp hv).1] at hb
    cases hb
    obtain ⟨q1, q2, q3, q4, q5, q6, q7, q8⟩ := h4 j c u hc hv
    exact ⟨q1, q2, q3, q4, by rw [xw_j (by decide)]; exact q5, xw_s, by rw [xw_j (by decide)]; exact q7, by rw [xw_j (by decide)]; exact q8⟩
  · rw [List.getElem?_set_ne (fun q => e q.symm)] at hb
    obtain ⟨q1, q2, q3, q4, q5⟩ := h4 j a b ha hb
    have hne : a ≠ c := fun z => by
      subst z
      have h1' := List.getElem?_eq_some_iff.mp ha
      have h2' := List.getElem?_eq_some_iff.mp hc
      obtain ⟨l1, g1⟩ := h1'
      obtain ⟨l2, g2⟩ := h2'
      exact e ((List.getElem_inj h3).mp (g1.trans g2.symm))
    rw [xw_B hne]
    exact ⟨q1, q2, q3, q4, q5⟩
theorem rRi_cv {i c : Nat} {u : yCo} {x : Int} (h : rRi P S σ RA cl t M r A) (hc : cl[i]? = some c) (hv : (yC A)[i]? = some u) : rRi P S σ RA cl t (xw M c 1 x) r (yCw A ((yC A).set i (u.1, x, u.2.2))) := by
  obtain ⟨h1, h2, h3, h4, h5, h6, h7, h8, h9⟩ := id h
  obtain ⟨q1, q2, q3, q4, q5⟩ := h8.2.2.2 i c u hc hv
  have hr := rSc_ne h q3
  refine ⟨h1, ?_, rBl_o h3 q1 (by decide) (by decide), rBl_o h4 q1 (by decide) (by decide), rBl_o h5 q1 (by decide) (by decide), rBl_o h6 q1 (by decide) (by decide), rTk_o h7 q1, rCp_set h8 hc hv, rTm_w h9 (by omega)⟩
  unfold rSc; rw [xw_B hr]; exact h2
theorem rCp_del {C : List yCo} {i b' : Nat} (h : rCp P σ t M r cl C) (hr : xk t r = 20) (hi : i < cl.length) (hb : P b') (kb : xk t b' = 17) (nb : xn t b' + 1 = cl.length) (rb : ∀ j, j < xn t b' → xr t b' j = cl[if j < i then j else j + 1]?) : rCp P σ (xwr t r 5 (some b')) M r (cl.eraseIdx i) (C.eraseIdx i) := by
  obtain ⟨h1, h2, h3, h4⟩ := h
  have e : b' ≠ r := fun e => by rw [e] at kb; omega
  have hl : (cl.eraseIdx i).length = cl.length - 1 := List.length_eraseIdx_of_lt hi
  refine ⟨⟨b', if_pos ⟨rfl, rfl⟩, hb, kb, by rw [hl]; show xn t b' = _; omega, fun j hj => ?_⟩, ?_, (List.eraseIdx_sublist cl i).nodup h3, fun j a u ha hu => ?_⟩
  · rw [xr_wrn e, rb j (by omega), List.getElem?_eraseIdx]
    split <;> rfl
  · rw [hl, List.length_eraseIdx_of_lt (by omega)]; omega
  · rw [List.getElem?_eraseIdx] at ha hu
    by_cases q : j < i
    · rw [if_pos q] at ha hu; exact h4 _ a u ha hu
    · rw [if_neg q] at ha hu; exact h4 _ a u ha hu
/-- the coupon at i is taken out -/
theorem s_delCoupon {Q : Nat → xTh → xMe → Prop} {i : Nat} {x : Int} (hxi : x = (i : Int)) (h : rRi P S σ RA cl t M r A) (hl : xlive t) (hD : rDd P t) (hps : rPs t r 40) (hC : (yC A).length ≤ 30) (hi : i < (yC A).length) (hF : 50 ≤ F) {b : Nat} (hb : xr t r 5 = some b) (hn : 1 ≤ n) (hq : ∀ a cl' t' M', rRi P S σ RA cl' (xwr t' r 5 (some a)) M' r (yCw A ((yC A).eraseIdx i)) → rFr P t M (xwr t' r 5 (some a)) M' → rPs (xwr t' r 5 (some a)) r 40 → Q a t' M') : p_L_without F n t b x M Q := by
  obtain ⟨b9, b1, b2, b3, b4, b5, b6, b7⟩ := rCp_b h.2.2.2.2.2.2.2.1
  rw [hb] at b1
  cases b1
  refine s_without (m := xn t b - 1) hl b3 hxi (by omega) (by omega) (by omega) (fun j hj => b7 j (by omega)) (by omega) hn (fun t' f1 k1 n1 r1 z1 => ?_)
  have g1 := rRi_ex h f1
  have hap := rCp_del (i := i) (b' := xz t) g1.2.2.2.2.2.2.2.1 g1.1.1 (by omega) (rDd_z hD hl) k1 (by omega) (fun j hj => by
    rw [r1 j (by omega)]
    exact b6 _ (by split <;> omega))
  exact hq _ _ _ _ (rRi_c5 g1 hap) (rFr_20 (rFr_of f1) h.1.2 h.1.1) (rPs_wr (rPs_fr hps f1 (by have := h.1.1; omega)) g1.1.1 (by decide))
theorem s_286 {Q : Int → xTh → xMe → Prop} {K275 : Nat → Nat → Int → Nat → Int → xTh → xMe → Prop} {K345 : Nat → Nat → Int → Nat → Int → Int → xTh → xMe → Prop} {K410 : Nat → Nat → Int → Nat → xTh → xMe → Prop} {rp : Nat} {left : Int} (h : rRi P S σ RA cl t M r A) (hC : (yC A).length ≤ 30) (hq : K345 n r f rp left (yBi (yBest f (yC A))) t M) : ∀ (L2 L1 : List yCo) (k : Nat) (b : Option (Nat × Int)), yC A = L1 ++ L2 → L2.length < k → yBok f (yC A) L1.length b → yBs f L2 L1.length b = yBest f (yC A) → p_X14_passes_286 F Q K275 K345 K410 k n r f rp left (yBi b) (L1.length : Int) t M := by
  obtain ⟨ca, c1, c2, c3, c4⟩ := rRi_co h
  intro L2
  induction L2 with
  | nil =>
    intro L1 k b hL hk hb hs
    obtain ⟨k, rfl⟩ : ∃ k', k = k' + 1 := ⟨k - 1, by omega⟩
    have e : (yC A).length = L1.length := by rw [hL]; simp
    unfold p_X14_passes_286
    refine ⟨ca, c1, c2, ⟨by omega, by omega⟩, fun _ => ?_, fun q => absurd q (by omega)⟩
    rw [← hs] at hq; exact hq
  | cons c L2 ih =>
    intro L1 k b hL hk hb hs
    obtain ⟨k, rfl⟩ : ∃ k', k = k' + 1 := ⟨k - 1, by omega⟩
    have hi : (yC A)[L1.length]? = some c := by rw [hL]; exact yat
    have hlen : (yC A).length = L1.length + (L2.length + 1) := by rw [hL]; simp
    obtain ⟨a, a1, -, a2, a3, a4, a5, a6, -⟩ := c4 _ c hi
    have e1 : ((L1 ++ [c]).length : Int) = (L1.length : Int) + 1 := by simp
    have e2 : (L1 ++ [c]).length = L1.length + 1 := by simp
    simp only [List.length_cons] at hk
    have go : ∀ b', yBok f (yC A) (L1.length + 1) b' → yBs f L2 (L1.length + 1) b' = yBest f (yC A) → xR ((L1.length : Int) + 1) ∧ p_X14_passes_286 F Q K275 K345 K410 k n r f rp left (yBi b') ((L1.length : Int) + 1) t M := fun b' h1 h2 => by
      have := ih (L1 ++ [c]) k b' (by rw [hL]; simp) (by omega) (by rw [e2]; exact h1) (by rw [e2]; exact h2)
      rw [e1] at this
      exact ⟨⟨by omega, by omega⟩, this⟩
    have keep : yBok f (yC A) (L1.length + 1) b := fun q hq' => ⟨by have := (hb q hq').1; omega, (hb q hq').2⟩
    have new : c.1 = f → yBok f (yC A) (L1.length + 1) (some (L1.length, c.2.2.1)) := fun hc q hq' => by
      cases hq'
      exact ⟨by show L1.length < _; omega, c, hi, hc, rfl⟩
    unfold p_X14_passes_286
    refine ⟨ca, c1, c2, ⟨by omega, by omega⟩, fun q => absurd q (by omega), fun _ => ⟨⟨by omega, by omega⟩, a, by rw [Int.toNat_natCast]; exact a1, a2, ⟨by omega, by omega⟩, ?_⟩⟩
    rw [a4]
    refine ⟨fun q => go b keep ?_, fun q => ⟨fun q2 => ?_, fun q2 => ⟨⟨by omega, by omega⟩, a, by rw [Int.toNat_natCast]; exact a1, a2, ⟨by omega, by omega⟩, ?_⟩⟩⟩
    · rw [← hs]
      cases b with
      | none => rw [yBs, if_neg q]
      | some z => rw [yBs, if_neg (fun z => q z.1)]
    · cases b with
      | some z => exact absurd q2 (by show ¬ ((z.1 : Int) < 0); omega)
      | none =>
        refine go (some (L1.length, c.2.2.1)) (new q) ?_
        rw [← hs, yBs, if_pos q]
    · cases b with
      | none => exact absurd q2 (by show ¬ ((0 : Int) ≤ -1); omega)
      | some z =>
        obtain ⟨z1, cz, z2, z3, z4⟩ := hb z rfl
        obtain ⟨a', a1', -, a2', a3', a4', a5', a6', -⟩ := c4 _ cz z2
        refine ⟨⟨q2, by show (z.1 : Int) < _; omega⟩, a', by show xr t ca ((z.1 : Int)).toNat = _; rw [Int.toNat_natCast]; exact a1', a2', ⟨by omega, by omega⟩, ?_⟩
        rw [a6, a6', z4]
        refine ⟨fun q3 => go (some z) keep ?_, fun q3 => go (some (L1.length, c.2.2.1)) (new q) ?_⟩
        · rw [← hs, yBs, if_neg (by omega)]
        · rw [← hs, yBs, if_pos ⟨q, q3⟩]
theorem ySp_len {f : Int} : ∀ (n : Nat) (amt : Int) (C : List yCo), (ySp f n amt C).length ≤ C.length
  | 0, _, C => Nat.le_refl _
  | n + 1, amt, C => by
    unfold ySp
    split
    · exact Nat.le_refl _
    · split
      · exact Nat.le_refl _
      · split
        · exact Nat.le_refl _
        · split
          · exact Nat.le_trans (ySp_len n _ _) (List.length_eraseIdx_le _ _)
          · rw [List.length_set]; exact Nat.le_refl _
set_option maxHeartbeats 4000000 in
theorem s_275 {Q : Int → xTh → xMe → Prop} {K : Nat → Nat → Int → Nat → xTh → xMe → Prop} {rp : Nat} (hF : 50 ≤ F) (f1 : f < yS A 2) : ∀ (m k n : Nat) (left : Int) (cl : List Nat) (t : xTh) (M : xMe) (C : List yCo), rRi P S σ RA cl t M r (yCw A C) → xlive t → rDd P t → rPs t r 40 → C.length ≤ m → m ≤ 30 → m < k → (∀ c ∈ C, 1 ≤ c.2.1 ∧ c.2.1 ≤ 10000) → left ≤ ySum f C → 0 ≤ left → left ≤ 400000 → C.length - (ySp f m left C).length ≤ n → (∀ cl' t' M' n', rRi P S σ RA cl' t' M' r (yCw A (ySp f m left C)) → rFr P t M t' M' → rPs t' r 40 → K n' r f rp t' M') → p_X14_passes_275 F Q K k n r f rp left t M := by
  intro m
  induction m with
  | zero =>
    intro k n left cl t M C h hl hD hps hm h30 hk hC hs h0 h1 hn hq
    obtain ⟨k, rfl⟩ : ∃ k', k = k' + 1 := ⟨k - 1, by omega⟩
    have : C = [] := List.length_eq_zero_iff.mp (by omega)
    subst this
    unfold p_X14_passes_275
    have hle : left ≤ 0 := hs
    exact ⟨fun _ => hq cl t M n h (rFr_refl hl) hps, fun q => absurd q (by omega)⟩
  | succ m ih =>
    intro k n left cl t M C h hl hD hps hm h30 hk hC hs h0 h1 hn hq
    obtain ⟨k, rfl⟩ : ∃ k', k = k' + 1 := ⟨k - 1, by omega⟩
    unfold p_X14_passes_275
    refine ⟨fun q => ?_, fun q => ?_⟩
    · rw [ySp_le q] at hq
      exact hq cl t M n h (rFr_refl hl) hps
    · rcases yMn_ex (f := f) C with hno | ⟨X, c, Y, hCe, hmn⟩
      · exact absurd hs (by rw [ySum_0 hno]; omega)
      · subst hCe
        refine s_286 h (by show (X ++ c :: Y).length ≤ 30; omega) ?_ (X ++ c :: Y) [] F none rfl (by omega) (fun q hq => by cases hq) rfl
        have eb : yBest f (yC (yCw A (X ++ c :: Y))) = some (X.length, c.2.2.1) := yBest_mn hmn
        rw [eb]
        have hv : (yC (yCw A (X ++ c :: Y)))[X.length]? = some c := yat
        have hcm := hC c (by simp)
        have hlX : (X ++ c :: Y).length = X.length + Y.length + 1 := by simp; omega
        obtain ⟨ca, c1, c2, c3, c4⟩ := rRi_co h
        obtain ⟨a, a1, ac, a2, a3, a4, a5, a6, -⟩ := c4 _ c hv
        have c3' : xn t ca = X.length + Y.length + 1 := by rw [c3]; exact hlX
        have eX : (yBi (some (X.length, c.2.2.1))).toNat = X.length := by show ((X.length : Int)).toNat = _; rw [Int.toNat_natCast]
        have eXi : yBi (some (X.length, c.2.2.1)) = (X.length : Int) := rfl
        have hsp := ySp_mn (n := m) hmn q
        unfold p_X14_passes_345
        refine ⟨ca, c1, c2, ⟨by rw [eXi]; omega, by rw [eXi]; omega⟩, a, by rw [eX]; exact a1, a2, ⟨by omega, by omega⟩, fun z359 ez => ⟨⟨by rw [a5] at ez; omega, by rw [a5] at ez; omega⟩, fun z366 ez2 => ⟨⟨by rw [eXi]; omega, by rw [eXi]; omega⟩, a, by rw [eX]; exact a1, a2, ⟨by omega, by omega⟩, ?_⟩⟩⟩
        rw [a5] at ez ⊢
        refine ⟨⟨by omega, by omega⟩, ⟨by omega, by omega⟩, fun M381 e381 => ⟨⟨by rw [eXi]; omega, by rw [eXi]; omega⟩, a, by rw [eX]; exact a1, a2, ⟨by omega, by omega⟩, ?_⟩⟩
        have g := rRi_cv (x := c.2.1 - z359) h ac hv
        have hPa : P a := (h.2.2.2.2.2.2.2.1.2.2.2 _ a c ac hv).2.1
        have fr1 : rFr P t M t M381 := by rw [e381]; exact rFr_w (rFr_refl hl) (Or.inr hPa)
        rw [← e381] at g
        have em : M381 a 1 = c.2.1 - z359 := by rw [e381, xw_s]
        have eset : ∀ x : Int, yCw (yCw A (X ++ c :: Y)) ((yC (yCw A (X ++ c :: Y))).set X.length (c.1, x, c.2.2)) = yCw A (X ++ (c.1, x, c.2.2) :: Y) := fun x => by
          show yCw A ((X ++ c :: Y).set X.length (c.1, x, c.2.2)) = _
          rw [yset]
        rw [eset] at g
        rw [em]
        refine ⟨fun hne => ?_, fun he => ?_⟩
        · -- all is paid
          have hgt : ¬ c.2.1 ≤ left := by omega
          rw [if_neg hgt] at hsp
          have ez3 : z359 = left := by omega
          have ez4 : z366 = 0 := by omega
          subst ez4
          obtain ⟨k, rfl⟩ : ∃ k', k = k' + 1 := ⟨k - 1, by omega⟩
          unfold p_X14_passes_275
          refine ⟨fun _ => hq cl t M381 n ?_ fr1 hps, fun q => absurd q (by decide)⟩
          rw [hsp, ← ez3]; exact g
        · have hle : c.2.1 ≤ left := by omega
          rw [if_pos hle] at hsp
          have ez3 : z359 = c.2.1 := by omega
          have hle2 := ySp_len (f := f) m (left - c.2.1) (X ++ Y)
          have hlXY : (X ++ Y).length = X.length + Y.length := by simp
          have hn1 : 1 ≤ n := by rw [hsp] at hn; omega
          have hsum : ySum f (X ++ Y) = ySum f (X ++ c :: Y) - c.2.1 := by
            rw [ySum_app, ySum_app]
            show _ = ySum f X + ((if c.1 = f then c.2.1 else 0) + ySum f Y) - _
            rw [if_pos hmn.1]; omega
          refine ⟨1, hn1, s_delCoupon (i := X.length) eXi g hl hD hps (by show (X ++ _ :: Y).length ≤ 30; simp at hm ⊢; omega) (by show X.length < (X ++ _ :: Y).length; simp) hF c1 (by omega) (fun a' cl' t' M' w1 w2 w3 => fun t404 e404 => ?_)⟩
          subst e404
          have eer : yCw (yCw A (X ++ (c.1, c.2.1 - z359, c.2.2) :: Y)) ((yC (yCw A (X ++ (c.1, c.2.1 - z359, c.2.2) :: Y))).eraseIdx X.length) = yCw A (X ++ Y) := by
            show yCw A ((X ++ (c.1, c.2.1 - z359, c.2.2) :: Y).eraseIdx X.length) = _
            rw [yer]
          rw [eer] at w1
          have fr2 := rFr_trans fr1 w2
          refine ih k (n - 1) z366 cl' _ M' (X ++ Y) w1 w2.1 (rDd_fr hD w2) w3 (by omega) (by omega) (by omega) (fun x hx => hC x (by
            rcases List.mem_append.mp hx with q | q
            · exact List.mem_append_left _ q
            · exact List.mem_append_right _ (List.mem_cons_of_mem _ q))) (by omega) (by omega) (by omega) (by rw [show z366 = left - c.2.1 by omega]; rw [hsp] at hn; omega) (fun cl2 t2 M2 n2 u1 u2 u3 => hq cl2 t2 M2 n2 (by rw [hsp, ← show z366 = left - c.2.1 by omega]; exact u1) (rFr_trans fr2 u2) u3)
end RSP
