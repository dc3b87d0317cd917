section RCK
variable {P S : Nat → Prop} {σ : Nat → Int} {RA : Int → Nat} {cl : List Nat} {t : xTh} {M : xMe} {r : Nat} {A : yA} {F n : Nat} {Q : Int → xTh → xMe → Prop} {K1 : Nat → Nat → Int → xTh → xMe → Prop} {K2 : Nat → Nat → Int → Int → xTh → xMe → Prop} {f g p w : Int}
theorem r_told (h : rRi P S σ RA cl t M r A) (hI : yI A) (hF : 50 ≤ F) : ∀ (d k : Nat) (i s : Int), i + d = 10 → 0 ≤ i → d < k → K1 n r (yFo (yK1 A) d i s) t M → p_X14_checksum_4 F Q K1 k n r s i t M := by
  intro d
  induction d with
  | zero =>
    intro k i s hi h0 hk hq
    obtain ⟨k, rfl⟩ : ∃ k', k = k' + 1 := ⟨k - 1, by omega⟩
    unfold p_X14_checksum_4
    exact ⟨fun _ => hq, fun q => by omega⟩
  | succ d ih =>
    intro k i s hi h0 hk hq
    obtain ⟨k, rfl⟩ : ∃ k', k = k' + 1 := ⟨k - 1, by omega⟩
    unfold p_X14_checksum_4
    refine ⟨fun q => by omega, fun _ => ⟨0, by omega, ?_⟩⟩
    exact s_told h hI hF h0 (by omega) ⟨⟨by omega, by omega⟩, ih k (i + 1) _ (by omega) (by omega) (by omega) hq⟩
theorem r_flow {Ka : Nat → Nat → Int → Int → xTh → xMe → Prop} (h : rRi P S σ RA cl t M r A) (hI : yI A) (hF : 50 ≤ F) (f0 : 0 ≤ f) (f1 : f < yS A 2) : ∀ (d k : Nat) (i s : Int), i + d = 6 → 0 ≤ i → d < k → K2 n r (yFo (fun s w => 31 * s + yAf A f w) d i s) f t M → p_X14_checksum_43 F Q Ka K2 K1 k n r s f i t M := by
  intro d
  induction d with
  | zero =>
    intro k i s hi h0 hk hq
    obtain ⟨k, rfl⟩ : ∃ k', k = k' + 1 := ⟨k - 1, by omega⟩
    unfold p_X14_checksum_43
    exact ⟨fun _ => hq, fun q => by omega⟩
  | succ d ih =>
    intro k i s hi h0 hk hq
    obtain ⟨k, rfl⟩ : ∃ k', k = k' + 1 := ⟨k - 1, by omega⟩
    unfold p_X14_checksum_43
    refine ⟨fun q => by omega, fun _ => ⟨0, by omega, ?_⟩⟩
    exact s_flow h hI hF f0 f1 h0 (by omega) ⟨⟨by omega, by omega⟩, ih k (i + 1) _ (by omega) (by omega) (by omega) hq⟩
theorem r_flows (h : rRi P S σ RA cl t M r A) (hI : yI A) (hF : 50 ≤ F) : ∀ (d k : Nat) (i s : Int), i + d = yS A 2 → 0 ≤ i → d < k → K1 n r (yFo (yK2 A) d i s) t M → p_X14_checksum_31 F Q K1 k n r s i t M := by
  obtain ⟨n1, n2, n3, n4, n5, n6⟩ := id hI.1.1
  obtain ⟨a, a1, a2, a3, a4⟩ := rRi_fl h
  intro d
  induction d with
  | zero =>
    intro k i s hi h0 hk hq
    obtain ⟨k, rfl⟩ : ∃ k', k = k' + 1 := ⟨k - 1, by omega⟩
    unfold p_X14_checksum_31
    exact ⟨a, a1, a2, ⟨by omega, by omega⟩, fun _ => hq, fun q => by omega⟩
  | succ d ih =>
    intro k i s hi h0 hk hq
    obtain ⟨k, rfl⟩ : ∃ k', k = k' + 1 := ⟨k - 1, by omega⟩
    unfold p_X14_checksum_31
    refine ⟨a, a1, a2, ⟨by omega, by omega⟩, fun q => by omega, fun _ => ?_⟩
    exact r_flow h hI hF h0 (by omega) 6 F 0 s rfl (by decide) (by omega) ⟨⟨by omega, by omega⟩, ih k (i + 1) _ (by omega) (by omega) (by omega) hq⟩
theorem r_packet {Ka : Nat → Nat → Int → Int → xTh → xMe → Prop} (h : rRi P S σ RA cl t M r A) (hI : yI A) (f0 : 0 ≤ f) (f1 : f < yS A 3) : ∀ (d k : Nat) (i s : Int), i + d = 7 → 0 ≤ i → d < k → K2 n r (yFo (fun s w => 31 * s + yAp A f w) d i s) f t M → p_X14_checksum_91 F Q Ka K2 K1 k n r s f i t M := by
  intro d
  induction d with
  | zero =>
    intro k i s hi h0 hk hq
    obtain ⟨k, rfl⟩ : ∃ k', k = k' + 1 := ⟨k - 1, by omega⟩
    unfold p_X14_checksum_91
    exact ⟨fun _ => hq, fun q => by omega⟩
  | succ d ih =>
    intro k i s hi h0 hk hq
    obtain ⟨k, rfl⟩ : ∃ k', k = k' + 1 := ⟨k - 1, by omega⟩
    unfold p_X14_checksum_91
    refine ⟨fun q => by omega, fun _ => ⟨0, by omega, ?_⟩⟩
    exact s_packet h hI f0 f1 h0 (by omega) ⟨⟨by omega, by omega⟩, ih k (i + 1) _ (by omega) (by omega) (by omega) hq⟩
theorem r_packets (h : rRi P S σ RA cl t M r A) (hI : yI A) (hF : 50 ≤ F) : ∀ (d k : Nat) (i s : Int), i + d = yS A 3 → 0 ≤ i → d < k → K1 n r (yFo (yK3 A) d i s) t M → p_X14_checksum_79 F Q K1 k n r s i t M := by
  obtain ⟨n1, n2, n3, n4, n5, n6⟩ := id hI.1.1
  obtain ⟨a, a1, a2, a3, a4⟩ := rRi_pk h
  intro d
  induction d with
  | zero =>
    intro k i s hi h0 hk hq
    obtain ⟨k, rfl⟩ : ∃ k', k = k' + 1 := ⟨k - 1, by omega⟩
    unfold p_X14_checksum_79
    exact ⟨a, a1, a2, ⟨by omega, by omega⟩, fun _ => hq, fun q => by omega⟩
  | succ d ih =>
    intro k i s hi h0 hk hq
    obtain ⟨k, rfl⟩ : ∃ k', k = k' + 1 := ⟨k - 1, by omega⟩
    unfold p_X14_checksum_79
    refine ⟨a, a1, a2, ⟨by omega, by omega⟩, fun q => by omega, fun _ => ?_⟩
    exact r_packet h hI h0 (by omega) 7 F 0 s rfl (by decide) (by omega) ⟨⟨by omega, by omega⟩, ih k (i + 1) _ (by omega) (by omega) (by omega) hq⟩
theorem r_coupon {Ka Kc : Nat → Nat → Int → Nat → Int → Int → xTh → xMe → Prop} {b c : Nat} {z w : Int} {v : yCo} (nc : xn t c = 4) (e0 : M c 0 = v.1) (e1 : M c 1 = v.2.1) (e2 : M c 2 = v.2.2.1) (e3 : M c 3 = v.2.2.2) {i : Int} (hv : ∀ j, yAc A i j = if j = 0 then v.1 else if j = 1 then v.2.1 else if j = 2 then v.2.2.1 else v.2.2.2) : ∀ (d k : Nat) (j s : Int), j + d = 4 → 0 ≤ j → d < k → Kc n r (yFo (fun s w => 31 * s + yAc A i w) d j s) b z w t M → p_X14_checksum_162 F Q Ka Kc K1 k n r s b z w c 4 j t M := by
  intro d
  induction d with
  | zero =>
    intro k j s hi h0 hk hq
    obtain ⟨k, rfl⟩ : ∃ k', k = k' + 1 := ⟨k - 1, by omega⟩
    unfold p_X14_checksum_162
    exact ⟨fun _ => hq, fun q => by omega⟩
  | succ d ih =>
    intro k j s hi h0 hk hq
    obtain ⟨k, rfl⟩ : ∃ k', k = k' + 1 := ⟨k - 1, by omega⟩
    unfold p_X14_checksum_162
    refine ⟨fun q => by omega, fun _ => ⟨⟨by omega, by omega⟩, fun z174 hz => ⟨⟨by omega, by omega⟩, ?_⟩⟩⟩
    have ez : z174 = yAc A i j := by
      rw [hz, hv]
      have : j = 0 ∨ j = 1 ∨ j = 2 ∨ j = 3 := by omega
      rcases this with rfl | rfl | rfl | rfl
      · exact e0
      · exact e1
      · exact e2
      · exact e3
    rw [ez]
    exact ih k (j + 1) _ (by omega) (by omega) (by omega) hq
theorem yAc_at {i : Nat} {v : yCo} (h : (yC A)[i]? = some v) (j : Int) : yAc A i j = if j = 0 then v.1 else if j = 1 then v.2.1 else if j = 2 then v.2.2.1 else v.2.2.2 := by
  unfold yAc
  rw [Int.toNat_natCast, h]
theorem r_coupons (h : rRi P S σ RA cl t M r A) (hI : yI A) (hF : 50 ≤ F) {b : Nat} (b3 : xn t b = (yC A).length) (b4 : ∀ (i : Nat) (v : yCo), (yC A)[i]? = some v → ∃ c, xr t b i = some c ∧ cl[i]? = some c ∧ xk t c = 14 ∧ xn t c = 4 ∧ M c 0 = v.1 ∧ M c 1 = v.2.1 ∧ M c 2 = v.2.2.1 ∧ M c 3 = v.2.2.2) : ∀ (d k i : Nat) (s : Int), i + d = (yC A).length → d < k → K1 n r (yFo (yK4 A) d i s) t M → p_X14_checksum_137 F Q K1 k n r s b ((yC A).length : Int) (i : Int) t M := by
  have i5 := hI.2.2.2.2.1.1
  intro d
  induction d with
  | zero =>
    intro k i s hi hk hq
    obtain ⟨k, rfl⟩ : ∃ k', k = k' + 1 := ⟨k - 1, by omega⟩
    unfold p_X14_checksum_137
    exact ⟨fun _ => hq, fun q => by omega⟩
  | succ d ih =>
    intro k i s hi hk hq
    obtain ⟨k, rfl⟩ : ∃ k', k = k' + 1 := ⟨k - 1, by omega⟩
    have hv : (yC A)[i]? = some (yC A)[i] := List.getElem?_eq_getElem (by omega)
    obtain ⟨c, c1, -, c2, c3, c4, c5, c6, c7⟩ := b4 i _ hv
    unfold p_X14_checksum_137
    refine ⟨fun q => by omega, fun _ => ⟨⟨by omega, by omega⟩, c, by rw [Int.toNat_natCast]; exact c1, c2, ⟨by omega, by omega⟩, fun z hz => ?_⟩⟩
    rw [c3] at hz
    subst hz
    refine r_coupon (i := (i : Int)) c3 c4 c5 c6 c7 (yAc_at hv) 4 F 0 s rfl (by decide) (by omega) ?_
    exact ⟨⟨by omega, by omega⟩, ih k (i + 1) _ (by omega) (by omega) hq⟩
theorem r_queue {Ka : Nat → Nat → Int → Int → xTh → xMe → Prop} (h : rRi P S σ RA cl t M r A) (hI : yI A) (hx : yQx A) (hF : 50 ≤ F) (g0 : 0 ≤ g) (g1 : g < yS A 1) : ∀ (d k : Nat) (i s : Int), i + d = yS A 2 → 0 ≤ i → d < k → K2 n r (yFo (fun s f => 31 * (31 * s + yS A (561 + 4 * (6 * g + f))) + ((yQ A (6 * g + f)).length : Int)) d i s) g t M → p_X14_checksum_212 F Q Ka K2 k n r s g i t M := by
  obtain ⟨n1, n2, n3, n4, n5, n6⟩ := id hI.1.1
  obtain ⟨a, a1, a2, a3, a4⟩ := rRi_fl h
  obtain ⟨b, b1, b2, b3, b4⟩ := rRi_tk h
  obtain ⟨c1, c2, c3, c4⟩ := b4 g g0 (by omega)
  intro d
  induction d with
  | zero =>
    intro k i s hi h0 hk hq
    obtain ⟨k, rfl⟩ : ∃ k', k = k' + 1 := ⟨k - 1, by omega⟩
    unfold p_X14_checksum_212
    exact ⟨a, a1, a2, ⟨by omega, by omega⟩, fun _ => hq, fun q => by omega⟩
  | succ d ih =>
    intro k i s hi h0 hk hq
    obtain ⟨k, rfl⟩ : ∃ k', k = k' + 1 := ⟨k - 1, by omega⟩
    unfold p_X14_checksum_212
    refine ⟨a, a1, a2, ⟨by omega, by omega⟩, fun q => by omega, fun _ => ⟨b, b1, b2, ⟨g0, by omega⟩, _, c1, c2, ⟨h0, by omega⟩, 0, by omega, ?_⟩⟩
    rw [c4 g1 i h0 (by omega)]
    exact s_queue h hI hx hF h0 (by omega) ⟨⟨by omega, by omega⟩, ih k (i + 1) _ (by omega) (by omega) (by omega) hq⟩
theorem r_queues (h : rRi P S σ RA cl t M r A) (hI : yI A) (hx : yQx A) (hF : 50 ≤ F) : ∀ (d k : Nat) (i s : Int), i + d = yS A 1 → 0 ≤ i → d < k → Q (yFo (yK5 A) d i s) t M → p_X14_checksum_200 F Q k n r s i t M := by
  obtain ⟨n1, n2, n3, n4, n5, n6⟩ := id hI.1.1
  obtain ⟨a, a1, a2, a3, a4⟩ := rRi_ga h
  intro d
  induction d with
  | zero =>
    intro k i s hi h0 hk hq
    obtain ⟨k, rfl⟩ : ∃ k', k = k' + 1 := ⟨k - 1, by omega⟩
    unfold p_X14_checksum_200
    exact ⟨a, a1, a2, ⟨by omega, by omega⟩, fun _ => hq, fun q => by omega⟩
  | succ d ih =>
    intro k i s hi h0 hk hq
    obtain ⟨k, rfl⟩ : ∃ k', k = k' + 1 := ⟨k - 1, by omega⟩
    unfold p_X14_checksum_200
    refine ⟨a, a1, a2, ⟨by omega, by omega⟩, fun q => by omega, fun _ => ?_⟩
    exact r_queue h hI hx hF h0 (by omega) (yS A 2).toNat F 0 s (by omega) (by decide) (by omega) ⟨⟨by omega, by omega⟩, ih k (i + 1) _ (by omega) (by omega) (by omega) hq⟩
theorem s_checksum (h : rRi P S σ RA cl t M r A) (hI : yI A) (hx : yQx A) (hF : 50 ≤ F) (hq : Q (yChk A) t M) : p_X14_checksum F n t r M Q := by
  obtain ⟨n1, n2, n3, n4, n5, n6⟩ := id hI.1.1
  obtain ⟨b, b1, b2, b3, b4⟩ := rRi_co h
  have i5 := hI.2.2.2.2.1.1
  unfold p_X14_checksum
  refine r_told h hI hF 10 F 0 0 rfl (by decide) (by omega) ?_
  refine r_flows h hI hF (yS A 2).toNat F 0 _ (by omega) (by decide) (by omega) ?_
  refine r_packets h hI hF (yS A 3).toNat F 0 _ (by omega) (by decide) (by omega) ?_
  refine ⟨b, b1, b2, ⟨by omega, by omega⟩, fun z hz => ?_⟩
  rw [b3] at hz; subst hz
  refine r_coupons h hI hF b3 b4 (yC A).length F 0 _ (by omega) (by omega) ?_
  exact r_queues h hI hx hF (yS A 1).toNat F 0 _ (by omega) (by decide) (by omega) hq
end RCK
