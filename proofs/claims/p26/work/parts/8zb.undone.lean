section RLU
variable {F N : Nat} {G : xGx} {xs : Nat → Int32} {Q : Int → xTh → xMe → Prop} {K4 : Nat → Int → Int → xTh → xMe → Prop} {K1161 : Nat → Int → Int → Nat → xTh → xMe → Prop} {x2 : Int} {x rn r bf : Nat} {D P S : Nat → Prop} {A B : yA} {H H' H0 HB : List yA} {t t' : xTh} {M M' : xMe}
theorem yHg_app {B : yA} (h : yHg (H ++ [B])) : yHg H := ⟨by have := h.1; rw [List.length_append] at this; simp at this; omega, fun i C hC => h.2 i C (by
  rw [List.getElem?_append_left (List.getElem?_eq_some_iff.mp hC).1]; exact hC)⟩
/-- the changes are undone: the class at B, the Road as it was at A -/
def rUv (x rn bf : Nat) (D S : Nat → Prop) (t : xTh) (M : xMe) (r : Nat) (B : yA) (H : List yA) (A : yA) (HB : List yA) : Prop :=
  ∃ P, rLC x D t M B H ∧ rLR x rn bf D P S t M r A ∧ rLB x rn bf D P S t M HB ∧ xk t rn = 19 ∧ xlive t ∧ rSp x rn bf D
theorem rUv_cls (h : rUv x rn bf D S t M r A H B HB) {A' : yA} (hs : xqw t t') (hl : xlive t') (f : yFc x D M M') (hc : yCs x t' M' D A' H') (hg : yHg H') : rUv x rn bf D S t' M' r A' H' B HB := by
  obtain ⟨P, h1, h2, h3, h5, h6, h7⟩ := h
  have hS := h2.2.2.2.2
  have g := rFr_cls hs hl f
  exact ⟨P, rLC_cls h1 hs f hc hg, rLR_cls h2 hs hl f, rLB_cls h3 hS ⟨h7.2.1, fun q hq => (h7.2.2 q hq).2.2⟩ hs hl f, (g.2 rn (by omega)).1.trans h5, hl, h7⟩
theorem rUv_z (h : rUv x rn bf D S t M r A H B HB) (hl : xlive t') (e : t'.2 = t.2) : rUv x rn bf D S t' M r A H B HB := by
  obtain ⟨P, h1, h2, h3, h5, h6, h7⟩ := h
  have hS := h2.2.2.2.2
  have f : rFr (fun a => a = rn) t M t' M := rFr_z hl e
  exact ⟨P, rLC_z h1 e, rLR_rn h2 f, rLB_fr h3 f (fun a e => Or.inr e) h2.2.2.2.1 h5 hS, (f.2 rn (by omega)).1.trans h5, hl, h7⟩
set_option maxHeartbeats 4000000 in
theorem k_1112 (hF : 60 ≤ F) (hHB : ∀ B ∈ HB, rGo B) {n0 : Nat} (hq : ∀ (n : Nat) (t : xTh) (M : xMe) (B : yA) (H : List yA), n0 ≤ n → rLC x D t M B H → yG0 B → xlive t → K1161 n 1 x2 x t M) : ∀ (d k n i : Nat) (t : xTh) (M : xMe) (B : yA), i + d = 8 → d < k → (n0 : Int) + 1035 * (d : Int) ≤ n → yG0 B → rUv x rn bf D S t M r B ((((HB ++ H0).take 8).drop i).reverse) A HB → p_L_law_1112 F G N xs Q K4 K1161 k n 1 x2 x bf (HB.length : Int) (i : Int) t M := by
  intro d
  induction d with
  | zero =>
    intro k n i t M B hi hk hn hB h
    obtain ⟨k, rfl⟩ : ∃ k', k = k' + 1 := ⟨k - 1, by omega⟩
    obtain ⟨P, h1, h2, h3, h5, h6, h7⟩ := h
    unfold p_L_law_1112
    exact ⟨fun _ => hq n t M B _ (by omega) h1 hB h6, fun z => absurd z (by omega)⟩
  | succ d ih =>
    intro k n i t M B hi hk hn hB h
    obtain ⟨k, rfl⟩ : ∃ k', k = k' + 1 := ⟨k - 1, by omega⟩
    obtain ⟨P, h1, h2, h3, h5, h6, h7⟩ := id h
    unfold p_L_law_1112
    refine ⟨fun z => absurd z (by omega), fun _ => ⟨fun _ => hq n t M B _ (by omega) h1 hB h6, fun hlt => ⟨fun z => absurd z (by decide), fun _ => ⟨h1.2.2.1, ?_⟩⟩⟩⟩
    have hlt' : i < HB.length := by omega
    have e1 : ((HB ++ H0).take 8).drop i = HB[i] :: ((HB ++ H0).take 8).drop (i + 1) := by
      have hl8 : i < ((HB ++ H0).take 8).length := by rw [List.length_take, List.length_append]; omega
      rw [List.drop_eq_getElem_cons hl8]
      congr 1
      rw [List.getElem_take, List.getElem_append_left hlt']
    rw [e1, List.reverse_cons] at h h1
    have hgo := hHB _ (List.getElem_mem hlt')
    have hHg := yHg_app h1.2.1
    refine w_undo h1.1 h1.2.1 hB (fun t' M' hc hfc hw hl => ⟨fun z => absurd z (by omega), fun _ => ?_⟩)
    have h2' := rUv_cls h hw hl hfc hc hHg
    obtain ⟨P', u1, u2, u3, u5, u6, u7⟩ := id h2'
    obtain ⟨q, Pq, v1, ⟨σ, RA, cl, v2⟩, v3⟩ := u3.2.2.2 i HB[i] (by omega) (List.getElem?_eq_getElem hlt')
    have hk35 : 1035 ≤ n := by omega
    refine ⟨⟨by omega, by rw [u3.2.1]; omega⟩, fun b hb => u3.2.2.1 _ b (by omega) hb, q, by rw [Int.toNat_natCast]; exact v1, 1035, hk35, ?_⟩
    refine s_agrees hF u1.1.1.1 v2 hgo.1.1.1 hgo.2.1 u1.2.2.1 (Nat.le_refl _) (fun t2 et hl2 => ⟨fun z => absurd z (by decide), fun _ => ⟨⟨by omega, by omega⟩, ?_⟩⟩)
    rw [show (i : Int) + 1 = ((i + 1 : Nat) : Int) by omega]
    exact ih k _ (i + 1) t2 M' HB[i] (by omega) (by omega) (by omega) hgo.1 (rUv_z h2' hl2 et)
set_option maxHeartbeats 4000000 in
theorem k_1161 {n : Nat} (hF : 1300 ≤ F) (h1 : rLC x D t M B H) (hB : yG0 B) (hl : xlive t) (hx2 : 0 ≤ x2 ∧ x2 ≤ 10) (hn : 40 ≤ n) (hq : ∀ (n' : Nat) (t' : xTh) (M' : xMe), n ≤ n' + 40 → xlive t' → K4 n' 1 (x2 + 1) t' M') : p_L_law_1161 F G N xs Q K4 n 1 x2 x t M := by
  have hI := hB.1.1.1
  obtain ⟨n1, n2, n3, n4, n5, n6⟩ := id hI.1
  unfold p_L_law_1161
  refine ⟨fun z => absurd z (by decide), fun _ => ⟨⟨by omega, h1.2.2.1⟩, ?_⟩⟩
  have e0 := h1.2.2.2
  refine ⟨fun z => absurd z (by decide), fun _ => ⟨fun z => absurd z (by rw [e0]; decide), fun _ z1 => ⟨fun _ hw1 hl1 => ⟨fun z => absurd rfl z, fun _ => ?_⟩, rfl⟩⟩⟩
  have h2 : rLC x D (z1, t.2) M B H := rLC_z h1 rfl
  refine ⟨⟨by omega, h2.2.2.1⟩, w_route h2.1 hI (fun z => by omega) (fun z2 hw2 hl2 => ⟨fun z => absurd rfl z, fun _ => ?_⟩)⟩
  have h3 : rLC x D (z2, ((z1, t.2) : xTh).2) M B H := rLC_z h1 rfl
  refine ⟨⟨by omega, h3.2.2.1⟩, w_curve h3.1 hI (fun z => by omega) (fun z3 hw3 hl3 => ⟨fun z => absurd rfl z, fun _ => ?_⟩)⟩
  have h4 : rLC x D (z3, ((z2, ((z1, t.2) : xTh).2) : xTh).2) M B H := rLC_z h1 rfl
  refine ⟨⟨by omega, h4.2.2.1⟩, w_endsAt hF h4.1 h4.2.1 hB (fun z => by omega) (fun z4 hw4 hl4 => ⟨fun z => absurd rfl z, fun _ => ?_⟩)⟩
  have h5 : rLC x D (z4, ((z3, ((z2, ((z1, t.2) : xTh).2) : xTh).2) : xTh).2) M B H := rLC_z h1 rfl
  refine ⟨⟨by omega, h5.2.2.1⟩, w_help hF h5.1 h5.2.1 hB (fun z => by omega) (fun z5 hw5 hl5 => ⟨fun z => absurd rfl z, fun _ => ⟨⟨by omega, by omega⟩, hq _ _ _ (by omega) hl5⟩⟩)⟩
/-- from the Road that was read to the next seed -/
theorem k_1109 {n : Nat} (hF : 1300 ≤ F) (hx2 : 0 ≤ x2 ∧ x2 ≤ 10) {i : Int} (h : rJv x rn bf D S t M r A H0 HB i) (hn : 8400 ≤ n) (hq : ∀ (n' : Nat) (t' : xTh) (M' : xMe), n ≤ n' + 8400 → xlive t' → K4 n' 1 (x2 + 1) t' M') : p_L_law_1109 F G N xs Q K4 n 1 x2 x bf (HB.length : Int) t M := by
  obtain ⟨⟨P, h1, h2, h3, h4, h5, h6⟩, hg, hHB, ht⟩ := h
  unfold p_L_law_1109
  exact k_1112 (H0 := H0) (A := A) (n0 := n - 8280) (r := r) (rn := rn) (D := D) (S := S) (by omega) hHB (fun n' t' M' B H' hn' g1 g2 g3 => k_1161 hF g1 g2 g3 hx2 (by omega) (fun n2 t2 M2 hn2 hl2 => hq n2 t2 M2 (by omega) hl2)) 8 F n 0 t M A (by omega) (by omega) (by omega) hg.1 ⟨P, h1, h2, h3, h4, h5, h6⟩
/-- 35 changes, from the Road that was read -/
theorem k_road {n : Nat} (hF : 1300 ≤ F) (hx2 : 0 ≤ x2 ∧ x2 ≤ 10) (h : rJv x rn bf D S t M r A H0 [] 0) (hn : 50000 ≤ n) (hq : ∀ (n' : Nat) (t' : xTh) (M' : xMe), n ≤ n' + 50000 → xlive t' → K4 n' 1 (x2 + 1) t' M') : p_L_law_181 F G N xs Q K4 (p_L_law_1109 F G N xs Q K4) F n 1 x2 x rn r bf 0 0 t M := by
  obtain ⟨ph1, ph2⟩ := yPh_max h.2.1.1.1.1
  exact k_181 (H0 := H0) (D := D) (S := S) hF (n0 := n - 41600) (fun n' t' M' A' HB' hn' h' => k_1109 hF hx2 h' (by omega) (fun n2 t2 M2 hn2 hl2 => hq n2 t2 M2 (by omega) hl2)) 35 F n 0 t M A [] (by omega) (by omega) (by omega) (by unfold rBd; omega) (by simp) h
end RLU
