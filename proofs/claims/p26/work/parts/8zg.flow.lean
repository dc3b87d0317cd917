/-! A FLOW THAT IS READ -/
def rWr (N : Nat) : Nat → List Int → yA → yA
  | _, [], A => A
  | j, v :: l, A => rWr N (j + 1) l (yw A (37 + 8 * (N : Int) + (j : Int)) v)
section RSF
variable {b : Nat → Int} {n x e F N many : Nat} {B M M' : xMe} {A A' : yA} {u u' : Int × Int × Int} {Q : xMe → Prop} {R : Int → xMe → Prop} {L L' : List Int} {c v g th : Int}
theorem rNs_hd (V : List Int) (hc : ¬ (48 ≤ c ∧ c ≤ 57)) : ∃ c' L', rNs V ++ c :: L = c' :: L' ∧ ¬ (48 ≤ c' ∧ c' ≤ 57) := by
  cases V with
  | nil => exact ⟨c, L, rfl, hc⟩
  | cons v V => exact ⟨32, rNu v ++ rNs V ++ c :: L, rfl, by decide⟩
theorem n_numst (hn : n ≤ 700) (h : zAt b e (32 :: rNu v ++ c :: L)) (v0 : 0 ≤ v) (v1 : v < 10000) (hc : ¬ (48 ≤ c ∧ c ≤ 57)) (he : e + 1 + (rNu v).length + 1 ≤ n) : (zst b n e A u).p = e + 1 ∧ zkd b n (e + 1) = 257 ∧ znu b n (e + 1) = v ∧ zG b n (zst b n e A u) = zst b n (e + 1 + (rNu v).length) A u := by
  obtain ⟨h1, h2⟩ := zAt_cons h
  obtain ⟨k1, k2, k3⟩ := tk_num h2 v0 v1 hc he
  have d0 : b (e + 1) ≠ 32 := fun q => by
    unfold zkd at k1
    rw [if_neg (by omega), if_neg (by omega), if_neg (by omega)] at k1; omega
  have hp : (zst b n e A u).p = e + 1 := by
    show zps b n e = _
    rw [zps_sp h1 (by omega), zps_no d0 (by omega)]
  refine ⟨hp, k1, k3, ?_⟩
  unfold zG zst
  rw [show (zmk 0 (-1) (zps b n e) A u).p = e + 1 from hp, k2]; rfl
set_option maxHeartbeats 4000000 in
theorem n_place (hn : n ≤ 700) (hF : 702 ≤ F) (hI : zI A) (hR : zRp N many A) (hm : many < 4) (g0 : 0 ≤ g ∧ g < yS A 1) (hnew : ∀ j : Nat, j < many → yS A (37 + 8 * (N : Int) + j) ≠ g) (h : zAt b e (32 :: rNu g ++ c :: L)) (hc : ¬ (48 ≤ c ∧ c ≤ 57)) (he : e + 1 + (rNu g).length + 1 ≤ n) (hC : zC b n x B (zst b n e A u) M) (hro : zRo x N many A M) (hq : ∀ M', zC b n x B (zst b n (e + 1 + (rNu g).length) (yw A (37 + 8 * (N : Int) + (many : Int)) g) u) M' → zRo x N (many + 1) (yw A (37 + 8 * (N : Int) + (many : Int)) g) M' → Q M') : p_X8_readPlace F (x + 1) (many : Int) M Q := by
  obtain ⟨hN, h6, hm', hr⟩ := hR
  obtain ⟨n1, n2, n3, n4, n5, n6⟩ := id hI.1
  obtain ⟨p1, p2, p3, p4⟩ := n_numst (A := A) (u := u) hn h g0.1 (by omega) hc he
  have k1 : M (x + 1 + 4) 3 = yS A 1 := (zC_cnt rfl hC).1
  unfold p_X8_readPlace
  rw [k1]
  refine ⟨⟨by omega, by omega⟩, zC_stands (by decide) (by omega) hC (fun q => absurd rfl q) (fun _ q => absurd (by rw [p1]; exact p2) q) (fun _ _ q => absurd (by rw [p1, p3]; omega) q) (fun _ _ _ k6 => ⟨fun _ => ?_, fun q => absurd q (by decide)⟩)⟩
  rw [p1, p3] at k6
  rw [show M (x + 1 + 1) 6 = g from k6]
  have h4 : M (x + 9) 4 = (N : Int) := by rw [← hN]; exact (zC_cnt rfl hC).2.1
  refine z_orh (x := x) (by omega) h4 h6 hm' hro g0.1 (fun q => by obtain ⟨j, j1, j2⟩ := q; exact absurd j2 (hnew j j1)) (fun _ => ⟨fun _ => ⟨fun _ => ?_, fun q => by omega⟩, fun q => absurd rfl q⟩)
  rw [show M (x + 1 + 1) 6 = g from k6]
  show p_X1_addPlace (x + 9) g M (fun M78 => p_X9_moveOn F (x + 2) M78 (fun M85 => Q M85))
  unfold p_X1_addPlace
  have k11 : M (x + 9 + 2) N = (many : Int) := hro.1
  rw [h4, Int.toNat_natCast, k11]
  refine ⟨fun q => by omega, fun _ => ⟨fun q => by omega, fun _ => ⟨⟨by omega, by omega⟩, fun q => by omega, fun _ => ⟨⟨by omega, by omega⟩, fun _ => ⟨⟨by omega, by omega⟩, ⟨by omega, by omega⟩, ⟨by omega, by omega⟩, ⟨by omega, by omega⟩, fun M1 e1 => ?_⟩, fun q => by omega⟩⟩⟩⟩
  have h41 : M1 (x + 9) 4 = (N : Int) := by rw [e1, xw_b (by omega)]; exact h4
  have k111 : M1 (x + 9 + 2) N = (many : Int) := by rw [e1, xw_b (by omega)]; exact k11
  rw [h41, Int.toNat_natCast, k111]
  refine ⟨⟨by omega, by omega⟩, ⟨by omega, by omega⟩, ⟨by omega, by omega⟩, fun M2 e2 => ?_⟩
  have eo : ∀ c, c ≠ x + 10 → c ≠ x + 11 → M2 c = M c := fun c c1 c2 => by rw [e2, xw_B (by omega), e1, xw_B (by omega)]
  have e10 : ∀ j, M2 (x + 10) j = xw M (x + 10) (4 * N + many) g (x + 10) j := fun j => by
    rw [e2, xw_b (by omega), e1, show ((N : Int) * 4 + (many : Int)).toNat = 4 * N + many by omega]
  have e11 : ∀ j, j ≠ N → M2 (x + 11) j = M (x + 11) j := fun j hj => by rw [e2, xw_j hj, e1, xw_b (by omega)]
  obtain ⟨o1, o2, o3⟩ := hC.2.2.2.2.2 rfl
  have h2 : zC b n x B (zst b n e (yw A (37 + 8 * (N : Int) + (many : Int)) g) u) M2 := zC_dr (A' := yw A (37 + 8 * (N : Int) + (many : Int)) g) (u := u) hC ⟨by rw [eo _ (by omega) (by omega)], by rw [eo _ (by omega) (by omega)]⟩ (eo _ (by omega) (by omega)) (fun c hc => eo c (by omega) (by omega)) (zI_rt hI hN h6 (by omega)).1 (zCd_dr o3 (zR_rt (w := x + 4) hI hN o3.1 (fun o i k ho hl => yL_rt hN h6 (by omega) hI hl ho) (fun c c1 c2 => eo c c1 c2) (fun j hj => by
    have a := e10 j
    rw [xw_j (by omega)] at a
    exact a) (fun j hj => e11 j (by omega))) (yU_row o3.2.1 (fun b b1 b2 => eo b (by omega) (by omega))) rfl (eo _ (by omega) (by omega)) (eo _ (by omega) (by omega)) (eo _ (by omega) (by omega)))
  obtain ⟨-, -, -, p4'⟩ := n_numst (A := yw A (37 + 8 * (N : Int) + (many : Int)) g) (u := u) hn h g0.1 (by omega) hc he
  refine zC_mv2 hn hF rfl h2 (fun M3 h3 f3 => ?_)
  rw [p4'] at h3
  refine hq M3 h3 ⟨?_, fun j hj => ?_⟩
  · rw [f3 _ (by omega), e2, show x + 11 = x + 9 + 2 by omega, xw_s]; omega
  · rw [f3 _ (by omega), e10]
    by_cases q : j = many
    · subst q; rw [xw_s, show yS (yw A (37 + 8 * (N : Int) + (j : Int)) g) (37 + 8 * (N : Int) + (j : Int)) = g from yup_s]
    · rw [xw_j (by omega), show yS (yw A (37 + 8 * (N : Int) + (many : Int)) g) (37 + 8 * (N : Int) + (j : Int)) = yS A (37 + 8 * (N : Int) + (j : Int)) from yup_n (by omega)]
      exact hro.2 j (by omega)
theorem zRp_w (h : zRp N many A) (hm : many < 4) (g0 : 0 ≤ g ∧ g < yS A 1) : zRp N (many + 1) (yw A (37 + 8 * (N : Int) + (many : Int)) g) := by
  obtain ⟨h1, h2, h3, h4⟩ := h
  refine ⟨(yup_n (by omega)).trans h1, h2, by omega, fun j hj => ?_⟩
  rw [show yS (yw A (37 + 8 * (N : Int) + (many : Int)) g) 1 = yS A 1 from yup_n (by omega)]
  by_cases q : j = many
  · subst q; rw [show yS (yw A (37 + 8 * (N : Int) + (j : Int)) g) (37 + 8 * (N : Int) + (j : Int)) = g from yup_s]; exact g0
  · rw [show yS (yw A (37 + 8 * (N : Int) + (many : Int)) g) (37 + 8 * (N : Int) + (j : Int)) = yS A (37 + 8 * (N : Int) + (j : Int)) from yup_n (by omega)]
    exact h4 j (by omega)
/-- the rest of a route -/
theorem n_route {K : xMe → Prop} (hn : n ≤ 700) (hF : 702 ≤ F) (hc : ¬ (48 ≤ c ∧ c ≤ 57)) : ∀ (V : List Int) (many k e : Nat) (A : yA) (M : xMe), zI A → zRp N many A → zRo x N many A M → many + V.length ≤ 4 → V.length < k → V.Nodup → (∀ v ∈ V, 0 ≤ v ∧ v < yS A 1) → (∀ v ∈ V, ∀ j : Nat, j < many → yS A (37 + 8 * (N : Int) + j) ≠ v) → zAt b e (rNs V ++ c :: L) → e + (rNs V).length + 1 ≤ n → zkd b n (zps b n (e + (rNs V).length)) ≠ 257 → zC b n x B (zst b n e A u) M → (∀ M', zC b n x B (zst b n (e + (rNs V).length) (rWr N many V A) u) M' → zI (rWr N many V A) → zRp N (many + V.length) (rWr N many V A) → zRo x N (many + V.length) (rWr N many V A) M' → K M') → p_X8_readFlow_33 F (x + 1) Q K k (many : Int) M
  | [], many, k, e, A, M, hI, hR, hro, hm, hk, _, _, _, h, he, hend, hC, hq => by
    obtain ⟨k, rfl⟩ : ∃ k', k = k' + 1 := ⟨k - 1, by simp at hk; omega⟩
    have e4 : M (x + 1 + 1) 4 = zkd b n (zps b n e) := (hC.2.2.2.2.2 rfl).2.1.2.2.1
    have g := hq M hC hI hR hro
    unfold p_X8_readFlow_33
    exact ⟨fun _ => g, fun _ => ⟨fun _ => g, fun _ => ⟨fun _ => g, fun q => absurd (e4.symm.trans q) hend⟩⟩⟩
  | v :: V, many, k, e, A, M, hI, hR, hro, hm, hk, hnd, hv, hnew, h, he, hend, hC, hq => by
    obtain ⟨k, rfl⟩ : ∃ k', k = k' + 1 := ⟨k - 1, by simp at hk; omega⟩
    have lV : (v :: V).length = V.length + 1 := rfl
    have lN : (rNs (v :: V)).length = 1 + (rNu v).length + (rNs V).length := by simp [rNs]; omega
    rw [lV] at hm hk
    rw [lN] at he hend hq
    obtain ⟨v0, v1⟩ := hv v List.mem_cons_self
    obtain ⟨c', L', eL, hc'⟩ := rNs_hd (L := L) V hc
    have h' : zAt b e (32 :: rNu v ++ (rNs V ++ c :: L)) := by
      have : rNs (v :: V) ++ c :: L = 32 :: rNu v ++ (rNs V ++ c :: L) := by simp [rNs]
      rw [this] at h; exact h
    have h2 := zAt_num h'
    rw [eL] at h'
    obtain ⟨n1, n2, n3, n4, n5, n6⟩ := id hI.1
    obtain ⟨p1, p2, p3, p4⟩ := n_numst (A := A) (u := u) hn h' v0 (by omega) hc' (by omega)
    have e4 : M (x + 1 + 1) 4 = zkd b n (zst b n e A u).p := (hC.2.2.2.2.2 rfl).2.1.2.2.1
    rw [p1, p2] at e4
    have nd := List.nodup_cons.mp hnd
    unfold p_X8_readFlow_33
    refine ⟨fun q => by omega, fun _ => ⟨fun q => absurd hC.1.1 q, fun _ => ⟨fun q => absurd e4 q, fun _ => ?_⟩⟩⟩
    refine n_place hn hF hI hR (by omega) ⟨v0, v1⟩ (hnew v List.mem_cons_self) h' hc' (by omega) hC hro (fun M1 h1 o1 => ⟨⟨by omega, by omega⟩, ?_⟩)
    have e1 : yS (yw A (37 + 8 * (N : Int) + (many : Int)) v) 1 = yS A 1 := yup_n (by omega)
    rw [show (many : Int) + 1 = ((many + 1 : Nat) : Int) by omega]
    refine n_route hn hF hc V (many + 1) k (e + 1 + (rNu v).length) _ M1 (zI_rt hI hR.1 hR.2.1 (by omega)) (zRp_w hR (by omega) ⟨v0, v1⟩) o1 (by omega) (by omega) nd.2 (fun w hw => by rw [e1]; exact hv w (List.mem_cons_of_mem _ hw)) (fun w hw j hj => ?_) h2 (by omega) ?_ h1 (fun M' g1 g2 g3 g4 => ?_)
    · by_cases q : j = many
      · subst q
        rw [show yS (yw A (37 + 8 * (N : Int) + (j : Int)) v) (37 + 8 * (N : Int) + (j : Int)) = v from yup_s]
        intro z; subst z; exact nd.1 hw
      · rw [show yS (yw A (37 + 8 * (N : Int) + (many : Int)) v) (37 + 8 * (N : Int) + (j : Int)) = yS A (37 + 8 * (N : Int) + (j : Int)) from yup_n (by omega)]
        exact hnew w (List.mem_cons_of_mem _ hw) j (by omega)
    · rw [show e + 1 + (rNu v).length + (rNs V).length = e + (1 + (rNu v).length + (rNs V).length) by omega]; exact hend
    · rw [show e + 1 + (rNu v).length + (rNs V).length = e + (1 + (rNu v).length + (rNs V).length) by omega] at g1
      rw [show many + 1 + V.length = many + (v :: V).length by rw [lV]; omega] at g3 g4
      exact hq M' g1 g2 g3 g4
/-- the thrift of a flow, written or not -/
def rTh (w th : Int) : List Int := if w = 0 then [] else rLt 21 ++ rNs [th]
set_option maxHeartbeats 8000000 in
theorem rSt_flow {V : List Int} {w : Int} (hI : zI A) (h6 : yS A 2 = (N : Int)) (hN : N < 6) (hV : 1 ≤ V.length ∧ V.length ≤ 4) (hnd : V.Nodup) (hv : ∀ v ∈ V, 0 ≤ v ∧ v < yS A 1) (t0 : 0 ≤ th ∧ th ≤ 99) (hw0 : w = 0 → th = 0) : rSt (rLt 2 ++ rNs V ++ rTh w th ++ [59]) A u (zFl (rWr N 0 V A) N V.length th) u := by
  intro F b n x e B M Q hn hF h he hC hq
  obtain ⟨v, V, rfl⟩ : ∃ v V', V = v :: V' := by
    cases V with
    | nil => exact absurd hV.1 (by decide)
    | cons v V => exact ⟨v, V, rfl⟩
  have lV : (v :: V).length = V.length + 1 := rfl
  rw [lV] at hV
  have e21 : rLt 21 = 32 :: rLt 8 := by decide
  obtain ⟨n1, n2, n3, n4, n5, n6⟩ := id hI.1
  obtain ⟨v0, v1⟩ := hv v List.mem_cons_self
  have nd := List.nodup_cons.mp hnd
  -- what stands behind the route
  obtain ⟨c, L, eT, hcT⟩ : ∃ c L, rTh w th ++ [59] = c :: L ∧ ¬ (48 ≤ c ∧ c ≤ 57) := by
    unfold rTh
    split
    · exact ⟨59, [], rfl, by decide⟩
    · exact ⟨32, rLt 8 ++ rNs [th] ++ [59], by rw [e21]; rfl, by decide⟩
  have en : rLt 2 ++ rNs (v :: V) ++ rTh w th ++ [59] = rLt 2 ++ (32 :: rNu v ++ (rNs V ++ (c :: L))) := by rw [← eT]; simp [rNs]
  have len : e + (rLt 2 ++ rNs (v :: V) ++ rTh w th ++ [59]).length = e + (rLt 2).length + 1 + (rNu v).length + (rNs V).length + (rTh w th).length + 1 := by simp [rNs]; omega
  rw [len] at hq he
  rw [en] at h
  have a1 := zAt_w h
  have a2 := zAt_num a1
  have a3 := (zAt_app a2).2
  obtain ⟨c', L', eL, hc'⟩ := rNs_hd (L := L) V hcT
  have a1' := a1
  rw [eL] at a1'
  have h' : zAt b e (rLt 2 ++ (32 :: (rNu v ++ (rNs V ++ (c :: L))))) := h
  obtain ⟨hp, hw⟩ := n_p (n := n) (s := 2) (A := A) (u := u) (zWd_17 (by decide)) h' (by decide) (by omega)
  have hend : zkd b n (zps b n (e + (rLt 2).length + 1 + (rNu v).length + (rNs V).length)) ≠ 257 := by
    rw [← eT] at a3
    unfold rTh at a3
    by_cases q : w = 0
    · rw [if_pos q] at a3
      have c59 := (zAt_cons a3).1
      have tk := tk_sign (n := n) (c := 59) (by decide) c59 (by omega)
      rw [zps_no (by rw [c59]; decide) (by omega), tk.1]; decide
    · rw [if_neg q, e21] at a3
      have a3' : zAt b (e + (rLt 2).length + 1 + (rNu v).length + (rNs V).length) (32 :: (rLt 8 ++ (32 :: (rNu th ++ [59])))) := by simpa [rNs] using a3
      obtain ⟨s1, s2⟩ := zAt_cons a3'
      have lT : (rTh w th).length = 1 + (rLt 8).length + 1 + (rNu th).length := by unfold rTh; rw [if_neg q, e21]; simp [rNs]; omega
      obtain ⟨z1, z2, z3⟩ := tk_word (n := n) (s := 8) (zWd_17 (by decide)) s2 (by decide) (by omega)
      have z0 : b (e + (rLt 2).length + 1 + (rNu v).length + (rNs V).length + 1) ≠ 32 := fun q2 => by
        unfold zkd at z3
        rw [if_neg (by omega), if_neg (by omega), if_neg (by omega)] at z3; omega
      rw [zps_sp s1 (by omega), zps_no z0 (by omega), z3]; decide
  refine ⟨by have := hw.1; omega, n_disp hn hF (s := 2) (by decide) hw hC (fun q => absurd q (by decide)) (fun _ => ?_) (fun q => absurd q (by decide)) (fun q => absurd q (by decide)) (fun q => absurd q (by decide)) (fun q => absurd q (by decide)) (fun q => absurd q (by decide))⟩
  unfold p_X8_readFlow p_X8_takeCounted
  have k1 : M (x + 1 + 8) 4 = yS A 2 := (zC_cnt rfl hC).2.1
  rw [k1]
  refine ⟨fun _ => n_mv (s := 2) hn hF (zWd_17 (by decide)) h' (by decide) (by omega) hC (fun M1 h1 _ => ?_), fun q => by omega⟩
  dsimp only
  have k2 : M1 (x + 1 + 8) 4 = (N : Int) := by rw [← h6]; exact (zC_cnt rfl h1).2.1
  unfold p_X1_open
  rw [k2, Int.toNat_natCast]
  refine ⟨fun q => by omega, fun _ => ⟨fun q => by omega, fun _ => ⟨⟨by omega, by omega⟩, fun M2 e2 => ?_⟩⟩⟩
  have eo : ∀ c, c ≠ x + 11 → M2 c = M1 c := fun c c1 => by rw [e2, xw_B (by omega)]
  have e11 : ∀ j, j ≠ N → M2 (x + 11) j = M1 (x + 11) j := fun j hj => by rw [e2]; exact xw_j hj
  obtain ⟨o1, o2, o3⟩ := h1.2.2.2.2.2 rfl
  have h2 : zC b n x B (zst b n (e + (rLt 2).length) A u) M2 := zC_dr (A' := A) (u := u) h1 ⟨by rw [eo _ (by omega)], by rw [eo _ (by omega)]⟩ (eo _ (by omega)) (fun c hc => eo c (by omega)) hI.1 (zCd_dr o3 (zR_rt (w := x + 4) hI h6 o3.1 (fun o i k ho hl => ⟨hl, rfl⟩) (fun c c1 c2 => eo c c2) (fun j hj => by rw [eo _ (by omega)]) (fun j hj => e11 j (by omega))) (yU_row o3.2.1 (fun b b1 b2 => eo b (by omega))) rfl (eo _ (by omega)) (eo _ (by omega)) (eo _ (by omega)))
  have ro : zRo x N 0 A M2 := ⟨by rw [e2]; exact xw_s, fun j hj => absurd hj (by omega)⟩
  have hR0 : zRp N 0 A := ⟨h6, hN, by omega, fun j hj => absurd hj (by omega)⟩
  refine n_place (many := 0) hn hF hI hR0 (by decide) ⟨v0, v1⟩ (fun j hj => absurd hj (Nat.not_lt_zero j)) a1' hc' (by omega) h2 ro (fun M3 h3 o3' => ?_)
  have e1 : yS (yw A (37 + 8 * (N : Int) + ((0 : Nat) : Int)) v) 1 = yS A 1 := yup_n (by omega)
  refine n_route hn hF hcT V 1 F (e + (rLt 2).length + 1 + (rNu v).length) _ M3 (zI_rt hI h6 hN (by decide)) (zRp_w hR0 (by decide) ⟨v0, v1⟩) o3' (by omega) (by omega) nd.2 (fun w hw => by rw [e1]; exact hv w (List.mem_cons_of_mem _ hw)) (fun w hw j hj => ?_) a2 (by omega) hend h3 (fun M4 g1 g2 g3 g4 => ?_)
  · have q : j = 0 := by omega
    subst q
    rw [show yS (yw A (37 + 8 * (N : Int) + ((0 : Nat) : Int)) v) (37 + 8 * (N : Int) + ((0 : Nat) : Int)) = v from yup_s]
    intro z; subst z; exact nd.1 hw
  have eW : rWr N 1 V (yw A (37 + 8 * (N : Int) + ((0 : Nat) : Int)) v) = rWr N 0 (v :: V) A := rfl
  rw [eW] at g1 g2 g3 g4
  rw [lV, show V.length + 1 = 1 + V.length by omega] at hq
  have lR : 1 ≤ 1 + V.length := by omega
  refine ⟨fun q => absurd g1.1.1 q, fun _ => ?_⟩
  rw [← eT] at a3
  by_cases q : w = 0
  · have eth := hw0 q
    subst eth
    unfold rTh at a3 hq he
    rw [if_pos q] at a3 hq he
    have c59 := (zAt_cons a3).1
    have tk := tk_sign (n := n) (c := 59) (by decide) c59 (by omega)
    have pp : (zst b n (e + (rLt 2).length + 1 + (rNu v).length + (rNs V).length) (rWr N 0 (v :: V) A) u).p = e + (rLt 2).length + 1 + (rNu v).length + (rNs V).length := zps_no (by rw [c59]; decide) (by omega)
    refine zC_isw hn hF (zWd_17 (s := 8) (by decide)) rfl g1 (fun q2 => absurd q2.1 (by rw [pp, tk.1]; decide)) (fun _ => ⟨fun _ => ⟨fun q2 => absurd g1.1.1 q2, fun _ => ?_⟩, fun q2 => absurd rfl q2⟩)
    refine zC_fl2 (s := zst b n (e + (rLt 2).length + 1 + (rNu v).length + (rNs V).length) (rWr N 0 (v :: V) A) u) (x := x) (th := 0) rfl g2 g3 lR (by decide) g1 g4 (fun M5 h5 => ?_)
    exact n_sign hn hF (by decide) (by decide) a3 (by omega) h5 hq
  · unfold rTh at a3 hq he
    rw [if_neg q, e21] at a3 hq he
    have a3' : zAt b (e + (rLt 2).length + 1 + (rNu v).length + (rNs V).length) (32 :: (rLt 8 ++ (32 :: (rNu th ++ [59])))) := by simpa [rNs] using a3
    obtain ⟨s1, s2⟩ := zAt_cons a3'
    have s3 := zAt_w s2
    have s3' : zAt b (e + (rLt 2).length + 1 + (rNu v).length + (rNs V).length + 1 + (rLt 8).length) (32 :: rNu th ++ [59]) := s3
    have s4 := zAt_num s3'
    have lT : (32 :: rLt 8 ++ rNs [th]).length = 1 + (rLt 8).length + 1 + (rNu th).length := by simp [rNs]; omega
    rw [lT] at hq he
    rw [zst_sp s1 (by omega)] at g1
    obtain ⟨hp8, hw8⟩ := n_p (n := n) (s := 8) (A := rWr N 0 (v :: V) A) (u := u) (zWd_17 (by decide)) s2 (by decide) (by omega)
    refine zC_isw hn hF (zWd_17 (s := 8) (by decide)) rfl g1 (fun _ => ⟨fun q2 => absurd q2 (by decide), fun _ => ?_⟩) (fun q2 => absurd hw8 q2)
    refine n_mv (s := 8) hn hF (zWd_17 (by decide)) s2 (by decide) (by omega) g1 (fun M5 h5 f5 => ?_)
    refine zC_num2 hn hF (by decide) (by decide) rfl h5 (fun M' k _ _ hh => ?_) (fun _ _ M6 h6' f6 => ⟨fun q2 => absurd h6'.1.1 q2, fun _ => ?_⟩)
    · obtain ⟨p1, p2, p3, p4⟩ := n_numst (A := rWr N 0 (v :: V) A) (u := u) hn s3' t0.1 (by omega) (by decide) (by omega)
      rcases hh with ⟨z, -⟩ | ⟨-, z, -⟩
      · exact absurd (by rw [p1]; exact p2) z
      · exact absurd (by rw [p1, p3]; exact t0) z
    · obtain ⟨p1, p2, p3, p4⟩ := n_numst (A := rWr N 0 (v :: V) A) (u := u) hn s3' t0.1 (by omega) (by decide) (by omega)
      rw [p4] at h6'
      rw [p1, p3]
      refine zC_fl2 (s := zst b n (e + (rLt 2).length + 1 + (rNu v).length + (rNs V).length + 1 + (rLt 8).length + 1 + (rNu th).length) (rWr N 0 (v :: V) A) u) (x := x) (th := th) rfl g2 g3 lR t0 h6' (zRo_f (zRo_f g4 f5) f6) (fun M7 h7 => ?_)
      refine n_sign hn hF (by decide) (by decide) s4 (by omega) h7 (fun M8 h8 => hq M8 ?_)
      rw [show e + (rLt 2).length + 1 + (rNu v).length + (rNs V).length + (1 + (rLt 8).length + 1 + (rNu th).length) + 1 = e + (rLt 2).length + 1 + (rNu v).length + (rNs V).length + 1 + (rLt 8).length + 1 + (rNu th).length + 1 by omega]
      exact h8
end RSF
