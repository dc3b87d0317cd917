/-! STATEMENTS THAT ARE READ: gate, packet, coupon, fee, refund -/
/-- the reader goes over the text L, from the draft A to the draft A' -/
def rSt (L : List Int) (A : yA) (u : Int × Int × Int) (A' : yA) (u' : Int × Int × Int) : Prop :=
  ∀ (F : Nat) (b : Nat → Int) (n x e : Nat) (B M : xMe) (Q : xMe → Prop), n ≤ 700 → 702 ≤ F → zAt b e L → e + L.length ≤ n → zC b n x B (zst b n e A u) M → (∀ M', zC b n x B (zst b n (e + L.length) A' u') M' → Q M') → zkd b n (zst b n e A u).p ≠ -1 ∧ p_X8_readStatement F (x + 1) M (fun M1 => p_X8_takeSign F (x + 1) 59 M1 Q)
section RSD
variable {b : Nat → Int} {n x e F : Nat} {B M M' : xMe} {A A' : yA} {u u' : Int × Int × Int} {Q : xMe → Prop} {R : Int → xMe → Prop} {L L' : List Int} {c v : Int}
theorem zWd_17 {s : Nat} (h : s < 12) : zWd s := by
  obtain ⟨w0, w1, w2, w3, w4, w5, w6, w7, w8, w9, w10, w11⟩ := zw0
  have : s = 0 ∨ s = 1 ∨ s = 2 ∨ s = 3 ∨ s = 4 ∨ s = 5 ∨ s = 6 ∨ s = 7 ∨ s = 8 ∨ s = 9 ∨ s = 10 ∨ s = 11 := by omega
  rcases this with rfl | rfl | rfl | rfl | rfl | rfl | rfl | rfl | rfl | rfl | rfl | rfl <;> assumption
theorem zIw_1 {i j p : Nat} (hi : i < 12) (hj : j < 12) (h1 : zIw b n i p) (h2 : zIw b n j p) : i = j := by
  have hl : xSl i = xSl j := by have := h1.2.1; have := h2.2.1; omega
  have w := (zWd_17 hi).2.1
  have hc : xSc i 0 = xSc j 0 := (h1.2.2 0 (by omega)).symm.trans (h2.2.2 0 (by omega))
  have hc1 : xSl i ≤ 1 ∨ xSc i 1 = xSc j 1 := by
    by_cases q : xSl i ≤ 1
    · exact Or.inl q
    · exact Or.inr ((h1.2.2 1 (by omega)).symm.trans (h2.2.2 1 (by omega)))
  have all : ∀ i j : Fin 12, xSl i.1 = xSl j.1 → xSc i.1 0 = xSc j.1 0 → (xSl i.1 ≤ 1 ∨ xSc i.1 1 = xSc j.1 1) → i.1 = j.1 := by decide
  exact all ⟨i, hi⟩ ⟨j, hj⟩ hl hc hc1
theorem zAt_num (h : zAt b e (32 :: rNu v ++ L)) : zAt b (e + 1 + (rNu v).length) L := by
  have := (zAt_app h).2
  rw [List.length_cons] at this
  rwa [show e + ((rNu v).length + 1) = e + 1 + (rNu v).length by omega] at this
theorem zAt_w {s : Nat} (h : zAt b e (rLt s ++ L)) : zAt b (e + (rLt s).length) L := (zAt_app h).2
/-- which statement it is -/
theorem n_disp {s : Nat} (hn : n ≤ 700) (hF : 702 ≤ F) (hs : 1 ≤ s ∧ s ≤ 7) (hw : zIw b n s (zst b n e A u).p) (h : zC b n x B (zst b n e A u) M) (h1 : s = 1 → p_X8_readGate F (x + 1) M Q) (h2 : s = 2 → p_X8_readFlow F (x + 1) M Q) (h3 : s = 3 → p_X8_readPacket F (x + 1) M Q) (h4 : s = 4 → p_X8_readCoupon F (x + 1) M Q) (h5 : s = 5 → u.1 = 0 ∧ zCfe F (x + 1) M Q) (h6 : s = 6 → u.2.1 = 0 ∧ zCre F (x + 1) M Q) (h7 : s = 7 → u.2.2 = 0 ∧ zCpr F (x + 1) M Q) : p_X8_readStatement F (x + 1) M Q := by
  have one : ∀ j, j < 12 → zIw b n j (zst b n e A u).p → s = j := fun j hj q => zIw_1 (by omega) hj hw q
  have e1 : (zst b n e A u).u = u := rfl
  refine zS_c hn hF rfl h (fun q => h1 (one 1 (by decide) q)) (fun _ q => h2 (one 2 (by decide) q)) (fun _ _ q => h3 (one 3 (by decide) q)) (fun _ _ _ q => h4 (one 4 (by decide) q)) (fun _ _ _ _ q => ?_) (fun _ _ _ _ _ q => ?_) (fun _ _ _ _ _ _ q => ?_) (fun q1 q2 q3 q4 q5 q6 q7 => ?_)
  · obtain ⟨a, c⟩ := h5 (one 5 (by decide) q)
    exact ⟨fun r => absurd a r, fun _ => c⟩
  · obtain ⟨a, c⟩ := h6 (one 6 (by decide) q)
    exact ⟨fun r => absurd a r, fun _ => c⟩
  · obtain ⟨a, c⟩ := h7 (one 7 (by decide) q)
    exact ⟨fun r => absurd a r, fun _ => c⟩
  · exfalso
    have : s = 1 ∨ s = 2 ∨ s = 3 ∨ s = 4 ∨ s = 5 ∨ s = 6 ∨ s = 7 := by omega
    rcases this with rfl | rfl | rfl | rfl | rfl | rfl | rfl
    · exact q1 hw
    · exact q2 hw
    · exact q3 hw
    · exact q4 hw
    · exact q5 hw
    · exact q6 hw
    · exact q7 hw
set_option maxHeartbeats 4000000 in
theorem rSt_gate {r d q : Int} (hI : zI A) (h6 : yS A 1 < 6) (r0 : 0 ≤ r ∧ r ≤ 99) (d0 : 1 ≤ d ∧ d ≤ 999) (q0 : 1 ≤ q ∧ q ≤ 20) : rSt (rLt 1 ++ rNs [r, d, q] ++ [59]) A u (zGa A r d q) u := by
  intro F b n x e B M Q hn hF h he hC hq
  have en : rLt 1 ++ rNs [r, d, q] ++ [59] = rLt 1 ++ (32 :: rNu r ++ (32 :: rNu d ++ (32 :: rNu q ++ [59]))) := by simp [rNs]
  have len : e + (rLt 1 ++ rNs [r, d, q] ++ [59]).length = e + (rLt 1).length + 1 + (rNu r).length + 1 + (rNu d).length + 1 + (rNu q).length + 1 := by rw [en]; simp; omega
  rw [len] at hq he
  rw [en] at h
  have a1 := zAt_w h
  have a2 := zAt_num a1
  have a3 := zAt_num a2
  have a4 := zAt_num a3
  obtain ⟨hp, hw⟩ := n_p (n := n) (s := 1) (A := A) (u := u) (zWd_17 (by decide)) h (by decide) (by omega)
  obtain ⟨n1, n2, n3, n4, n5, n6⟩ := id hI.1
  obtain ⟨N, hN⟩ : ∃ N : Nat, yS A 1 = (N : Int) := ⟨(yS A 1).toNat, by omega⟩
  have hI' := zI_ga hI h6 r0 d0 q0
  refine ⟨by have := hw.1; omega, n_disp hn hF (s := 1) (by decide) hw hC (fun _ => ?_) (fun q => absurd q (by decide)) (fun q => absurd q (by decide)) (fun q => absurd q (by decide)) (fun q => absurd q (by decide)) (fun q => absurd q (by decide)) (fun q => absurd q (by decide))⟩
  unfold p_X8_readGate p_X8_takeCounted
  have k1 : M (x + 1 + 4) 3 = yS A 1 := (zC_cnt rfl hC).1
  rw [k1]
  refine ⟨fun _ => n_mv (s := 1) hn hF (zWd_17 (by decide)) h (by decide) (by omega) hC (fun M1 h1 _ => ?_), fun q => by omega⟩
  refine n_num hn hF a1 r0.1 (by omega) (by decide) (by omega) (by decide) (by decide) r0 h1 (fun M2 h2 => ?_)
  refine n_num hn hF a2 (by omega) (by omega) (by decide) (by omega) (by decide) (by decide) d0 h2 (fun M3 h3 => ?_)
  refine n_num hn hF a3 (by omega) (by omega) (by decide) (by omega) (by decide) (by decide) q0 h3 (fun M4 h4 => ⟨fun q => absurd h4.1.1 q, fun _ => ?_⟩)
  obtain ⟨o1, o2, o3⟩ := h4.2.2.2.2.2 rfl
  have k5 : M4 (x + 5) 3 = (N : Int) := by rw [← hN]; exact (zC_cnt rfl h4).1
  refine zC_ga (x := x) hI hN (by omega) o3.1 k5 (fun M5 hR fB => ?_)
  have h5 := zC_dr (A' := zGa A r d q) h4 ⟨by rw [fB _ (by omega)], by rw [fB _ (by omega)]⟩ (fB _ (by omega)) (fun c hc => fB c (by omega)) hI'.1 (zCd_dr o3 hR (yU_row o3.2.1 (fun b b1 b2 => fB b (by omega))) rfl (fB _ (by omega)) (fB _ (by omega)) (fB _ (by omega)))
  exact n_sign hn hF (by decide) (by decide) a4 (by omega) h5 hq
set_option maxHeartbeats 4000000 in
theorem rSt_packet {f T z : Int} (hI : zI A) (h6 : yS A 3 < 40) (r0 : 0 ≤ f ∧ f < yS A 2) (d0 : 0 ≤ T ∧ T ≤ 999) (q0 : 1 ≤ z ∧ z ≤ 999) : rSt (rLt 3 ++ rNs [f, T, z] ++ [59]) A u (ySnd A f T z) u := by
  intro F b n x e B M Q hn hF h he hC hq
  have en : rLt 3 ++ rNs [f, T, z] ++ [59] = rLt 3 ++ (32 :: rNu f ++ (32 :: rNu T ++ (32 :: rNu z ++ [59]))) := by simp [rNs]
  have len : e + (rLt 3 ++ rNs [f, T, z] ++ [59]).length = e + (rLt 3).length + 1 + (rNu f).length + 1 + (rNu T).length + 1 + (rNu z).length + 1 := by rw [en]; simp; omega
  rw [len] at hq he
  rw [en] at h
  have a1 := zAt_w h
  have a2 := zAt_num a1
  have a3 := zAt_num a2
  have a4 := zAt_num a3
  obtain ⟨hp, hw⟩ := n_p (n := n) (s := 3) (A := A) (u := u) (zWd_17 (by decide)) h (by decide) (by omega)
  obtain ⟨n1, n2, n3, n4, n5, n6⟩ := id hI.1
  obtain ⟨N, hN⟩ : ∃ N : Nat, yS A 3 = (N : Int) := ⟨(yS A 3).toNat, by omega⟩
  have hI' := zI_sn hI h6 r0 d0 q0
  refine ⟨by have := hw.1; omega, n_disp hn hF (s := 3) (by decide) hw hC (fun q => absurd q (by decide)) (fun q => absurd q (by decide)) (fun _ => ?_) (fun q => absurd q (by decide)) (fun q => absurd q (by decide)) (fun q => absurd q (by decide)) (fun q => absurd q (by decide))⟩
  unfold p_X8_readPacket p_X8_takeCounted
  have k1 : M (x + 1 + 19) 8 = yS A 3 := (zC_cnt rfl hC).2.2.1
  rw [k1]
  refine ⟨fun _ => n_mv (s := 3) hn hF (zWd_17 (by decide)) h (by decide) (by omega) hC (fun M1 h1 _ => ?_), fun q => by omega⟩
  have k2 : M1 (x + 1 + 8) 4 = yS A 2 := (zC_cnt rfl h1).2.1
  dsimp only
  rw [k2]
  refine ⟨⟨by omega, by omega⟩, ?_⟩
  refine n_num hn hF a1 r0.1 (by omega) (by decide) (by omega) (by decide) (by omega) ⟨r0.1, by omega⟩ h1 (fun M2 h2 => ?_)
  refine n_num hn hF a2 (by omega) (by omega) (by decide) (by omega) (by decide) (by decide) d0 h2 (fun M3 h3 => ?_)
  refine n_num hn hF a3 (by omega) (by omega) (by decide) (by omega) (by decide) (by decide) q0 h3 (fun M4 h4 => ⟨fun q => absurd h4.1.1 q, fun _ => ?_⟩)
  obtain ⟨o1, o2, o3⟩ := h4.2.2.2.2.2 rfl
  refine zC_pk (x := x) hI hN (by omega) o3.1 (fun M5 hR fB => ?_)
  have h5 := zC_dr (A' := ySnd A f T z) h4 ⟨by rw [fB _ (by omega)], by rw [fB _ (by omega)]⟩ (fB _ (by omega)) (fun c hc => fB c (by omega)) hI'.1 (zCd_dr o3 hR (yU_row o3.2.1 (fun b b1 b2 => fB b (by omega))) rfl (fB _ (by omega)) (fB _ (by omega)) (fB _ (by omega)))
  exact n_sign hn hF (by decide) (by decide) a4 (by omega) h5 hq
set_option maxHeartbeats 4000000 in
theorem rSt_coupon {f T z : Int} (hI : zI A) (h6 : (yC A).length < 30) (r0 : 0 ≤ f ∧ f < yS A 2) (d0 : 1 ≤ T ∧ T ≤ 9999) (q0 : 1 ≤ z ∧ z ≤ 9999) : rSt (rLt 4 ++ rNs [f, T, z] ++ [59]) A u (zCo A f T z) u := by
  intro F b n x e B M Q hn hF h he hC hq
  have en : rLt 4 ++ rNs [f, T, z] ++ [59] = rLt 4 ++ (32 :: rNu f ++ (32 :: rNu T ++ (32 :: rNu z ++ [59]))) := by simp [rNs]
  have len : e + (rLt 4 ++ rNs [f, T, z] ++ [59]).length = e + (rLt 4).length + 1 + (rNu f).length + 1 + (rNu T).length + 1 + (rNu z).length + 1 := by rw [en]; simp; omega
  rw [len] at hq he
  rw [en] at h
  have a1 := zAt_w h
  have a2 := zAt_num a1
  have a3 := zAt_num a2
  have a4 := zAt_num a3
  obtain ⟨hp, hw⟩ := n_p (n := n) (s := 4) (A := A) (u := u) (zWd_17 (by decide)) h (by decide) (by omega)
  obtain ⟨n1, n2, n3, n4, n5, n6⟩ := id hI.1
  have hI' := zI_co hI h6 r0 d0 q0
  refine ⟨by have := hw.1; omega, n_disp hn hF (s := 4) (by decide) hw hC (fun q => absurd q (by decide)) (fun q => absurd q (by decide)) (fun q => absurd q (by decide)) (fun _ => ?_) (fun q => absurd q (by decide)) (fun q => absurd q (by decide)) (fun q => absurd q (by decide))⟩
  unfold p_X8_readCoupon p_X8_takeCounted
  have k1 : M (x + 1 + 28) 4 = ((yC A).length : Int) := (zC_cnt rfl hC).2.2.2
  rw [k1]
  refine ⟨fun _ => n_mv (s := 4) hn hF (zWd_17 (by decide)) h (by decide) (by omega) hC (fun M1 h1 _ => ?_), fun q => by omega⟩
  have k2 : M1 (x + 1 + 8) 4 = yS A 2 := (zC_cnt rfl h1).2.1
  dsimp only
  rw [k2]
  refine ⟨⟨by omega, by omega⟩, ?_⟩
  refine n_num hn hF a1 r0.1 (by omega) (by decide) (by omega) (by decide) (by omega) ⟨r0.1, by omega⟩ h1 (fun M2 h2 => ?_)
  refine n_num hn hF a2 (by omega) (by omega) (by decide) (by omega) (by decide) (by decide) d0 h2 (fun M3 h3 => ?_)
  refine n_num hn hF a3 (by omega) (by omega) (by decide) (by omega) (by decide) (by decide) q0 h3 (fun M4 h4 => ⟨fun q => absurd h4.1.1 q, fun _ => ?_⟩)
  obtain ⟨o1, o2, o3⟩ := h4.2.2.2.2.2 rfl
  refine s_X0_add o3.2.1 h6 (fun M5 hU fB => ?_)
  have h5 := zC_dr (A' := zCo A f T z) h4 ⟨by rw [fB _ (by omega)], by rw [fB _ (by omega)]⟩ (fB _ (by omega)) (fun c hc => fB c (by omega)) hI'.1 (zCd_dr o3 (zR_s o3.1 (fun o i k _ hl => ⟨yL_S (A := A) rfl rfl rfl (fun _ _ _ => rfl) hl, rfl⟩) (fun b b1 b2 => fB b (by omega)) hI.1) hU rfl (fB _ (by omega)) (fB _ (by omega)) (fB _ (by omega)))
  exact n_sign hn hF (by decide) (by decide) a4 (by omega) h5 hq
set_option maxHeartbeats 4000000 in
theorem rSt_fee {f : Int} (hI : zI A) (u0 : u.1 = 0) (r0 : 0 ≤ f ∧ f ≤ 99) : rSt (rLt 5 ++ rNs [f] ++ [59]) A u (yw A 9 f) (1, u.2) := by
  intro F b n x e B M Q hn hF h he hC hq
  have en : rLt 5 ++ rNs [f] ++ [59] = rLt 5 ++ (32 :: rNu f ++ [59]) := by simp [rNs]
  have len : e + (rLt 5 ++ rNs [f] ++ [59]).length = e + (rLt 5).length + 1 + (rNu f).length + 1 := by rw [en]; simp; omega
  rw [len] at hq he
  rw [en] at h
  have a1 := zAt_w h
  have a2 := zAt_num a1
  obtain ⟨hp, hw⟩ := n_p (n := n) (s := 5) (A := A) (u := u) (zWd_17 (by decide)) h (by decide) (by omega)
  refine ⟨by have := hw.1; omega, n_disp hn hF (s := 5) (by decide) hw hC (fun q => absurd q (by decide)) (fun q => absurd q (by decide)) (fun q => absurd q (by decide)) (fun q => absurd q (by decide)) (fun _ => ⟨u0, ?_⟩) (fun q => absurd q (by decide)) (fun q => absurd q (by decide))⟩
  unfold zCfe
  intro M0 e0
  have h0 : zC b n x B (zst b n e A (1, u.2)) M0 := by
    rw [e0]; exact zC_u (s := zst b n e A u) (j := 6) (v := 1) (u' := (1, u.2)) rfl hI.1 hC (Or.inl ⟨rfl, rfl⟩)
  refine n_mv (s := 5) hn hF (zWd_17 (by decide)) h (by decide) (by omega) h0 (fun M1 h1 _ => ?_)
  refine n_num hn hF a1 r0.1 (by omega) (by decide) (by omega) (by decide) (by decide) r0 h1 (fun M2 h2 M3 e3 => ?_)
  have h3 := zC_pr (s := zst b n (e + (rLt 5).length + 1 + (rNu f).length) A (1, u.2)) (k := 9) (i := 8) (v := f) rfl hI h2 (Or.inl ⟨rfl, rfl⟩)
  rw [e3]
  exact n_sign hn hF (by decide) (by decide) a2 (by omega) h3 hq
set_option maxHeartbeats 4000000 in
theorem rSt_refund {f g : Int} (hI : zI A) (u0 : u.2.1 = 0) (r0 : 0 ≤ f ∧ f ≤ 100) (d0 : 1 ≤ g ∧ g ≤ 999) : rSt (rLt 6 ++ rNs [f, g] ++ [59]) A u (yw (yw A 10 f) 11 g) (u.1, 1, u.2.2) := by
  intro F b n x e B M Q hn hF h he hC hq
  have en : rLt 6 ++ rNs [f, g] ++ [59] = rLt 6 ++ (32 :: rNu f ++ (32 :: rNu g ++ [59])) := by simp [rNs]
  have len : e + (rLt 6 ++ rNs [f, g] ++ [59]).length = e + (rLt 6).length + 1 + (rNu f).length + 1 + (rNu g).length + 1 := by rw [en]; simp; omega
  rw [len] at hq he
  rw [en] at h
  have a1 := zAt_w h
  have a2 := zAt_num a1
  have a3 := zAt_num a2
  obtain ⟨hp, hw⟩ := n_p (n := n) (s := 6) (A := A) (u := u) (zWd_17 (by decide)) h (by decide) (by omega)
  refine ⟨by have := hw.1; omega, n_disp hn hF (s := 6) (by decide) hw hC (fun q => absurd q (by decide)) (fun q => absurd q (by decide)) (fun q => absurd q (by decide)) (fun q => absurd q (by decide)) (fun q => absurd q (by decide)) (fun _ => ⟨u0, ?_⟩) (fun q => absurd q (by decide))⟩
  unfold zCre
  intro M0 e0
  have h0 : zC b n x B (zst b n e A (u.1, 1, u.2.2)) M0 := by
    rw [e0]; exact zC_u (s := zst b n e A u) (j := 7) (v := 1) (u' := (u.1, 1, u.2.2)) rfl hI.1 hC (Or.inr ⟨rfl, rfl⟩)
  refine n_mv (s := 6) hn hF (zWd_17 (by decide)) h (by decide) (by omega) h0 (fun M1 h1 _ => ?_)
  refine n_num hn hF a1 r0.1 (by omega) (by decide) (by omega) (by decide) (by decide) r0 h1 (fun M2 h2 M3 e3 => ?_)
  have h3 := zC_pr (s := zst b n (e + (rLt 6).length + 1 + (rNu f).length) A (u.1, 1, u.2.2)) (k := 10) (i := 9) (v := f) rfl hI h2 (Or.inr (Or.inl ⟨rfl, rfl⟩))
  have hI2 : zI (yw A 10 f) := zI_pr hI (Or.inr (Or.inl ⟨rfl, r0⟩))
  have h3' : zC b n x B (zst b n (e + (rLt 6).length + 1 + (rNu f).length) (yw A 10 f) (u.1, 1, u.2.2)) M3 := by rw [e3]; exact h3
  refine n_num hn hF a2 (by omega) (by omega) (by decide) (by omega) (by decide) (by decide) d0 h3' (fun M4 h4 M5 e5 => ?_)
  have h5 := zC_pr (s := zst b n (e + (rLt 6).length + 1 + (rNu f).length + 1 + (rNu g).length) (yw A 10 f) (u.1, 1, u.2.2)) (k := 11) (i := 10) (v := g) rfl hI2 h4 (Or.inr (Or.inr ⟨rfl, rfl⟩))
  rw [e5]
  exact n_sign hn hF (by decide) (by decide) a3 (by omega) h5 hq
end RSD
