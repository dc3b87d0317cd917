/-! THE ROAD IS MADE: fee, refund, price -/
section RLX
variable {x bu rn r n F m N j : Nat} {G : xGx} {A0 A : yA} {H : List yA} {t t' : xTh} {M M' : xMe} {T L : List Int} {u : Int × Int × Int} {σ : Nat → Int} {RA : Int → Nat} {cl : List Nat} {K V : List Int} {S : Nat → Prop} {q : Nat}
theorem rTx_l1 {lv : Int} {K : List Int} (h : rNd S t M 1 q K) : (rTx t M 1 q lv).length ≤ 5 := by
  obtain ⟨-, -, h3⟩ := h
  rcases h3 with ⟨k0, n0, n1, -⟩ | ⟨k1, n0, n1, -⟩ | ⟨k2, k5, l, r, Kl, Kr, h6, h7, h8, h9, -⟩
  · unfold rTx; rw [if_pos k0]; have := rNu_len (M q 1); omega
  · unfold rTx; rw [if_neg (by omega), if_pos k1]
    have : M q 1 = 0 ∨ M q 1 = 1 ∨ M q 1 = 2 ∨ M q 1 = 3 := by omega
    rcases this with e | e | e | e <;> rw [e] <;> decide
  · exact h8.elim
theorem rOt_len (k : Int) : (rOt k).length ≤ 3 ∧ (4 ≤ k → (rOt k).length ≤ 2) := by
  unfold rOt
  refine ⟨?_, fun h => ?_⟩
  · split
    · decide
    · split
      · decide
      · split <;> decide
  · rw [if_neg (by omega), if_neg (by omega)]; split <;> decide
theorem rTx_l2 {K : List Int} (h : rNd S t M 2 q K) : (rTx t M 2 q 1).length ≤ 13 ∧ (rTx t M 2 q 2).length ≤ 15 ∧ (rTx t M 2 q 3).length ≤ 15 := by
  obtain ⟨hS, kq, h3⟩ := h
  rcases h3 with h | h | ⟨k2, k5, l, r, Kl, Kr, h6, h7, h8, h9, -⟩
  · have e : ∀ lv, rTx t M 2 q lv = rTx t M 1 q lv := fun lv => by unfold rTx; rw [if_pos h.1, if_pos h.1]
    have g := fun lv => rTx_l1 (lv := lv) (S := S) (K := K) (q := q) (t := t) (M := M) ⟨hS, kq, Or.inl h⟩
    rw [e, e, e]
    have := g 1; have := g 2; have := g 3; omega
  · have e : ∀ lv, rTx t M 2 q lv = rTx t M 1 q lv := fun lv => by
      unfold rTx; rw [if_neg (by omega), if_pos h.1, if_neg (by omega), if_pos h.1]
    have g := fun lv => rTx_l1 (lv := lv) (S := S) (K := K) (q := q) (t := t) (M := M) ⟨hS, kq, Or.inr (Or.inl h)⟩
    rw [e, e, e]
    have := g 1; have := g 2; have := g 3; omega
  · have e0 : ∀ lv : Int, rTx t M 2 q lv = if rOw (M q 0) < lv then 40 :: (rTx t M 1 l (rOw (M q 0)) ++ (rOt (M q 0) ++ rTx t M 1 r (rOw (M q 0) + 1))) ++ [41] else rTx t M 1 l (rOw (M q 0)) ++ (rOt (M q 0) ++ rTx t M 1 r (rOw (M q 0) + 1)) := fun lv => by
      show (if _ then _ else if _ then _ else _) = _
      rw [if_neg (by omega), if_neg (by omega), h6, h7]
      rfl
    have a := rTx_l1 (lv := rOw (M q 0)) h8
    have c := rTx_l1 (lv := rOw (M q 0) + 1) h9
    have o := rOt_len (M q 0)
    rw [e0, e0, e0]
    by_cases k4 : M q 0 < 4
    · have ow : rOw (M q 0) = 1 := if_pos k4
      rw [ow] at a c ⊢
      rw [if_neg (by decide), if_pos (by decide), if_pos (by decide)]
      simp only [List.length_append, List.length_cons, List.length_nil]
      omega
    · have ow : rOw (M q 0) = 2 := if_neg k4
      have o2 := o.2 (by omega)
      rw [ow] at a c ⊢
      rw [if_neg (by decide), if_neg (by decide), if_pos (by decide)]
      simp only [List.length_append, List.length_cons, List.length_nil]
      omega
theorem rTx_l3 {K : List Int} (h : rNd S t M 3 q K) : (rTx t M 3 q 0).length ≤ 32 := by
  obtain ⟨hS, kq, h3⟩ := h
  rcases h3 with h | h | ⟨k2, k5, l, r, Kl, Kr, h6, h7, h8, h9, -⟩
  · have e : rTx t M 3 q 0 = rTx t M 1 q 0 := by unfold rTx; rw [if_pos h.1, if_pos h.1]
    have g := rTx_l1 (lv := 0) (S := S) (K := K) (q := q) (t := t) (M := M) ⟨hS, kq, Or.inl h⟩
    rw [e]; omega
  · have e : rTx t M 3 q 0 = rTx t M 1 q 0 := by
      unfold rTx; rw [if_neg (by omega), if_pos h.1, if_neg (by omega), if_pos h.1]
    have g := rTx_l1 (lv := 0) (S := S) (K := K) (q := q) (t := t) (M := M) ⟨hS, kq, Or.inr (Or.inl h)⟩
    rw [e]; omega
  · have e0 : rTx t M 3 q 0 = if rOw (M q 0) < 0 then 40 :: (rTx t M 2 l (rOw (M q 0)) ++ (rOt (M q 0) ++ rTx t M 2 r (rOw (M q 0) + 1))) ++ [41] else rTx t M 2 l (rOw (M q 0)) ++ (rOt (M q 0) ++ rTx t M 2 r (rOw (M q 0) + 1)) := by
      show (if _ then _ else if _ then _ else _) = _
      rw [if_neg (by omega), if_neg (by omega), h6, h7]
      rfl
    have a := rTx_l2 h8
    have c := rTx_l2 h9
    have o := rOt_len (M q 0)
    rw [e0]
    by_cases k4 : M q 0 < 4
    · have ow : rOw (M q 0) = 1 := if_pos k4
      rw [ow, if_neg (by decide), List.length_append, List.length_append]
      show (rTx t M 2 l 1).length + ((rOt (M q 0)).length + (rTx t M 2 r 2).length) ≤ 32
      omega
    · have ow : rOw (M q 0) = 2 := if_neg k4
      have o2 := o.2 (by omega)
      rw [ow, if_neg (by decide), List.length_append, List.length_append]
      show (rTx t M 2 l 2).length + ((rOt (M q 0)).length + (rTx t M 2 r 3).length) ≤ 32
      omega
theorem rNd_zKd : ∀ (d q : Nat) (K K0 : List Int) (d0 : Nat), rNd S t M d q K → zKd K0 d0 → d0 + d ≤ 11 → zKd (K0 ++ K) (d0 + 1)
  | 0, _, _, _, _, h, _, _ => h.elim
  | d + 1, q, K, K0, d0, h, g, hd => by
    obtain ⟨-, -, h3⟩ := h
    rcases h3 with ⟨k0, n0, n1, rfl⟩ | ⟨k1, n0, n1, rfl⟩ | ⟨k2, k5, l, r, Kl, Kr, h6, h7, h8, h9, rfl⟩
    · exact zKd_opd g (by omega) (by omega) (by omega)
    · exact zKd_opd g (by omega) (by omega) (by omega)
    · have a := rNd_zKd d l Kl K0 d0 h8 g (by omega)
      cases d with
      | zero => exact h8.elim
      | succ d =>
        have c := rNd_zKd (d + 1) r Kr (K0 ++ Kl) (d0 + 1) h9 a (by omega)
        have e : K0 ++ (Kl ++ (Kr ++ [1 - M q 0])) = K0 ++ Kl ++ Kr ++ [1 - M q 0] := by simp
        rw [e]
        exact zKd_opr c (by omega)
theorem zI_ems : ∀ (K : List Int) (A : yA), zI A → zI (zEms A K)
  | [], _, h => h
  | c :: K, A, h => zI_ems K (zEm A c) (zI_em h)
theorem zEms_S {k : Int} (hk : k ≠ 13) : ∀ (K : List Int) (A : yA), yS (zEms A K) k = yS A k ∧ yC (zEms A K) = yC A
  | [], _ => ⟨rfl, rfl⟩
  | c :: K, A => by
    obtain ⟨a, b⟩ := zEms_S hk K (zEm A c)
    exact ⟨a.trans (zEm_S hk), b⟩
theorem rTx0_u {A' : yA} {u' : Int × Int × Int} (h : rTx0 T m A u) (hm : m ≤ 100) (g : rSt L A u A' u') (hI : zI A') (hK : yK A' = yK A) (hu : (u'.1 = 0 ∨ u'.1 = 1) ∧ (u'.2.1 = 0 ∨ u'.2.1 = 1) ∧ u'.2.2 = u.2.2) : rTx0 (T ++ L) (m + 1) A' u' := by
  obtain ⟨h1, h2, h3, h4, h5⟩ := h
  exact ⟨rTt_s h1 hm g, hI, by rw [hK, hu.2.2]; exact h3, by rw [hK, List.length_append]; omega, hu.1, hu.2.1⟩
theorem v1get {a : Int} {M : xMe} {ar i : Nat} {v : Int} (h0 : M ar 0 = a ∧ 0 ≤ a ∧ a < 10000) (hv : [a][i]? = some v) : M ar i = v ∧ 0 ≤ v ∧ v < 10000 := by
  rcases i with _ | i
  · cases hv; exact h0
  · cases hv
theorem v2get {a b : Int} {M : xMe} {ar i : Nat} {v : Int} (h0 : M ar 0 = a ∧ 0 ≤ a ∧ a < 10000) (h1 : M ar 1 = b ∧ 0 ≤ b ∧ b < 10000) (hv : [a, b][i]? = some v) : M ar i = v ∧ 0 ≤ v ∧ v < 10000 := by
  rcases i with _ | _ | i
  · cases hv; exact h0
  · cases hv; exact h1
  · cases hv
theorem map_getD (L : List Int) : (List.range L.length).map (fun j => L.getD j 0) = L := by
  refine List.ext_getElem (by simp) (fun i h1 h2 => ?_)
  rw [List.getElem_map, List.getElem_range, List.getD_eq_getElem?_getD, List.getElem?_eq_getElem h2]; rfl
theorem rIs_be {N : Nat → Prop} {a : Nat} (h : rIs G t M a L N) (e : rBe x bu M M') (k1 : xk t bu = 14) (k2 : xk t (x + 2) = 9) (k3 : xk t (x + 3) = 13) (hN : N (x + 3)) : rIs G t M' a L N := by
  obtain ⟨h1, h2, h3⟩ := h
  refine ⟨h1, h2, ?_⟩
  rcases h3 with h | ⟨q1, q2, c, b1, b2, b3, b4, b5⟩
  · exact Or.inl h
  · have ea : M' a = M a := e a (fun z => by rw [z] at q1; omega) (fun z => by rw [z] at q1; omega) (fun z => by rw [z] at q1; omega)
    have ec : M' c = M c := e c (fun z => by rw [z] at b2; omega) (fun z => by rw [z] at b2; omega) (fun z => b5 (by rw [z]; exact hN))
    exact Or.inr ⟨q1, by rw [ea]; exact q2, c, b1, b2, b3, fun j hj => by rw [ec]; exact b4 j hj, b5⟩
set_option maxHeartbeats 8000000 in
/-- price -/
theorem g_762 {Q : Option Nat → xTh → xMe → Prop} {N0 : Nat} {gg ff : Int} (hF : 1001 ≤ F) (hq : ∀ (n : Nat) t M T (m : Nat) A u K, N0 ≤ n → rMk x bu rn r A0 H K t M T m A u → K = yK (zFin A) → m ≤ 40 → yS A 1 = gg → yS A 2 = ff → T.length ≤ 640 → p_L_randomRoad_810 F G Q n x bu r gg ff t M) (hn : N0 + 200 ≤ n) (hMk : rMk x bu rn r A0 H [-5] t M T m A u) (hm : m ≤ 34) (h1 : yS A 1 = gg) (h2 : yS A 2 = ff) (hK : yK A = []) (hu : u.2.2 = 0) (hl : T.length ≤ 580) : p_L_randomRoad_762 F G Q n x bu rn r gg ff t M := by
  obtain ⟨hE, ⟨σ, RA, cl, hR⟩, hT⟩ := hMk
  obtain ⟨s1, s2, s3, s4, s5, s6⟩ := id hE.2.2.2.2.1
  have hlv := hE.2.2.1
  have kr := hR.1.1.1
  unfold p_L_randomRoad_762
  refine s_bel (by decide) (by decide) hlv (fun w Ma _ _ fa _ => ?_)
  have hEa := rEv_fr hE (rFr_mono fa (fun c hc => Or.inl hc))
  have hRa := rRc_fr hR fa (fun c pc e => by have : r ≤ c := pc; omega)
  refine ⟨fun _ => hq _ t Ma T m A u [-5] (by omega) ⟨hEa, ⟨σ, RA, cl, hRa⟩, hT⟩ (by show [-5] = (if yK A = [] then [-5] else yK A); rw [if_pos hK]) (by omega) h1 h2 (by omega), fun _ => ?_⟩
  refine s_bel (by decide) (by decide) hlv (fun dp Mb d0 d1 fb _ => ⟨7, by omega, ?_⟩)
  have hEb := rEv_fr hEa (rFr_mono fb (fun c hc => Or.inl hc))
  have hRb := rRc_fr hRa fb (fun c pc e => by have : r ≤ c := pc; omega)
  have hrz : r < xz t := hlv r (by omega)
  obtain ⟨d, rfl⟩ : ∃ d : Nat, dp = (d : Int) := ⟨dp.toNat, by omega⟩
  have c7 : rCn d ≤ 7 := by
    have : d = 0 ∨ d = 1 ∨ d = 2 := by omega
    rcases this with rfl | rfl | rfl <;> decide
  refine s_nrandom d 3 7 t Mb _ (by omega) (by omega) c7 hlv (by omega) (fun t2 M2 K hN f2 lK t3 et => ?_)
  subst et
  have hE2 : rEv x bu rn r A0 H (xwr t2 r 13 (some (xz t))) M2 T := rEv_fr hEb (rFr_20 (rFr_mono f2 (fun c hc => Or.inl hc)) (Or.inr (Nat.le_refl r)) kr)
  have hN3 : rNd (rUp r) t2 M2 3 (xz t) K := by
    have a : rNd (rUp r) t2 M2 (d + 1) (xz t) K := rNd_P (fun c hc _ => by have hc' : xz t ≤ c := hc; show r ≤ c; omega) _ _ _ hN
    have : d = 0 ∨ d = 1 ∨ d = 2 := by omega
    rcases this with rfl | rfl | rfl
    · exact rNd_up _ _ _ (rNd_up _ _ _ a)
    · exact rNd_up _ _ _ a
    · exact a
  have hR2 := rRc_tm (rRc_fr hRb f2 (fun c pc e => by have : r ≤ c := pc; omega)) hN3
  have hkn : rNd (fun c => xz t ≤ c) (xwr t2 r 13 (some (xz t))) M2 3 (xz t) K := by
    have a : rNd (fun c => xz t ≤ c) t2 M2 3 (xz t) K := by
      have : d = 0 ∨ d = 1 ∨ d = 2 := by omega
      rcases this with rfl | rfl | rfl
      · exact rNd_up _ _ _ (rNd_up _ _ _ hN)
      · exact rNd_up _ _ _ hN
      · exact hN
    exact rNd_wn (fun b hb => by have hb' : xz t ≤ b := hb; omega) _ _ _ a
  have l22 : (xSl 22).toNat = 6 := by decide
  have l22' : (rLt 22).length = 6 := by decide
  have l30 : (xSl 30).toNat = 2 := by decide
  have l30' : (rLt 30).length = 2 := by decide
  refine ⟨0, Nat.zero_le _, s_writeL hF hE2.2.1 hE2.1.2.2 (rEv_b hE2) (s := 22) (by decide) (by omega) (fun M3 h3 e3 => ?_)⟩
  have hE3 := rEv_wr hE2 h3 e3
  have hR3 := rRc_wr hR2 hE2.2.2.2.2.1 hE2.2.2.1 e3
  have kz : xk (xwr t2 r 13 (some (xz t))) (xz t) = 12 := hkn.2.1
  have x13 : xr (xwr t2 r 13 (some (xz t))) r 13 = some (xz t) := by rw [xr_wra, if_pos rfl]
  have hkn3 : rNd (fun c => xz t ≤ c) (xwr t2 r 13 (some (xz t))) M3 3 (xz t) K := rNd_fr (rBe_f hE2.2.2.1 e3) (fun b hb o => by have hb' : xz t ≤ b := hb; omega) _ _ _ hkn
  have hlen := rTx_l3 hkn3
  refine ⟨fun b hb => by rw [x13] at hb; cases hb; exact kz, xz t, x13, 150, by omega, ?_⟩
  have kx2 : xk (xwr t2 r 13 (some (xz t))) (x + 2) = 9 := hE3.1.2.2.1.2.2.1.2.2.1.1
  have kx3 : xk (xwr t2 r 13 (some (xz t))) (x + 3) = 13 := hE3.1.2.2.1.2.2.1.2.2.1.2.2.1
  refine s_text (by omega) 3 3 150 _ M3 (xz t) 0 K _ hkn3 (Nat.le_refl 3) (by decide) hE3.2.2.1 (by omega) (by decide) (fun sr t4 M4 i4 f4 => ?_)
  have hE4 := rEv_fr hE3 (rFr_of f4)
  have hR4 := rRc_fr hR3 f4 (fun _ _ z => z)
  have i4' := rIs_N i4 (N' := fun c => c = x + 3) (fun c _ e => by rw [e, kx3]; decide)
  have kb4 : xk t4 bu = 14 := hE4.2.1.2.2.1.1
  have kx24 : xk t4 (x + 2) = 9 := hE4.1.2.2.1.2.2.1.2.2.1.1
  have kx34 : xk t4 (x + 3) = 13 := hE4.1.2.2.1.2.2.1.2.2.1.2.2.1
  generalize hE' : rTx (xwr t2 r 13 (some (xz t))) M3 3 (xz t) 0 = E at *
  refine ⟨0, Nat.zero_le _, s_write hF hE4.2.1 hE4.1.2.2 (rEv_b hE4) (fun M' e' => rIs_T (rIs_be i4' e' kb4 kx24 kx34 rfl)) (by rw [List.length_append]; omega) (fun M5 h5 e5 => ⟨0, Nat.zero_le _, ?_⟩)⟩
  rw [map_getD] at h5
  have hE5 := rEv_wr hE4 h5 e5
  have hR5 := rRc_wr hR4 hE4.2.2.2.2.1 hE4.2.2.1 e5
  refine s_writeL hF hE5.2.1 hE5.1.2.2 (rEv_b hE5) (s := 30) (by decide) (by rw [List.length_append, List.length_append]; omega) (fun M6 h6 e6 => ?_)
  have hE6 := rEv_wr hE5 h6 e6
  have hR6 := rRc_wr hR5 hE5.2.2.2.2.1 hE5.2.2.1 e6
  have eT : T ++ rLt 22 ++ E ++ rLt 30 = T ++ (rLt 22 ++ E ++ rLt 30) := by simp
  rw [eT] at hE6
  have st := rSt_price (A := A) (u := u) hT.2.1 hkn3 hu hK (by omega)
  rw [hE'] at st
  have eK := yK_ems K A
  rw [hK, List.nil_append] at eK
  have zk : zKd K 1 := by
    have z0 : zKd [] 0 := ⟨fun K' h => h, rfl⟩
    have := rNd_zKd 3 (xz t) K [] 0 hkn3 z0 (by decide)
    rw [List.nil_append] at this; exact this
  have KN : K ≠ [] := fun e => by
    have l := zk.2
    rw [e] at l; exact absurd l (by decide)
  have hS : ∀ k, k ≠ 13 → yS (zEms A K) k = yS A k := fun k hk => (zEms_S hk K A).1
  have hC := (zEms_S (k := 0) (by decide) K A).2
  obtain ⟨g1, g2, g3, g4, g5⟩ := hT
  refine hq _ t4 M6 _ (m + 1) (zEms A K) (u.1, u.2.1, 1) K (by omega) ⟨hE6, ⟨σ, RA, cl, ?_⟩, rTt_s g1 (by omega) st, zI_ems K A g2, Or.inr ⟨rfl, by rw [eK]; exact zk⟩, by rw [eK]; simp only [List.length_append]; omega, g5⟩ (by show K = (if yK (zEms A K) = [] then [-5] else yK (zEms A K)); rw [eK, if_neg KN]) (by omega) (by rw [hS 1 (by decide)]; exact h1) (by rw [hS 2 (by decide)]; exact h2) (by simp only [List.length_append]; omega)
  rw [hS 1 (by decide), hS 2 (by decide), hS 3 (by decide), hC]
  exact rRc_S hR6 (fun k hk => hS k (by omega))
end RLX
