/-! THE CHECKSUM -/
def yFo (g : Int → Int → Int) : Nat → Int → Int → Int
  | 0, _, x => x
  | d + 1, i, x => yFo g d (i + 1) (g x i)
def yK1 (A : yA) (s i : Int) : Int := 31 * s + yAs A i
def yK2 (A : yA) (s f : Int) : Int := yFo (fun s w => 31 * s + yAf A f w) 6 0 s
def yK3 (A : yA) (s p : Int) : Int := yFo (fun s w => 31 * s + yAp A p w) 7 0 s
def yK4 (A : yA) (s c : Int) : Int := yFo (fun s w => 31 * s + yAc A c w) 4 0 s
def yK5 (A : yA) (s g : Int) : Int := yFo (fun s f => 31 * (31 * s + yS A (561 + 4 * (6 * g + f))) + ((yQ A (6 * g + f)).length : Int)) (yS A 2).toNat 0 s
def yChk (A : yA) : Int := yFo (yK5 A) (yS A 1).toNat 0 (yFo (yK4 A) (yC A).length 0 (yFo (yK3 A) (yS A 3).toNat 0 (yFo (yK2 A) (yS A 2).toNat 0 (yFo (yK1 A) 10 0 0))))
section YCK
variable {F x m : Nat} {M : xMe} {A : yA} {Q : Int → xMe → Prop} {K1 : Int → xMe → Prop} {K2 : Int → Int → xMe → Prop}
theorem k_state (hF : 50 ≤ F) (h : yCR (x + 44) M A) (hI : yI A) : ∀ (d k : Nat) (i s : Int), i + d = 10 → 0 ≤ i → d < k → K1 (yFo (yK1 A) d i s) M → p_X11_checksum_4 F x Q K1 k s i M := by
  intro d
  induction d with
  | zero =>
    intro k i s hi h0 hk hq
    obtain ⟨k, rfl⟩ : ∃ k', k = k' + 1 := ⟨k - 1, by omega⟩
    unfold p_X11_checksum_4
    exact ⟨fun _ => hq, fun q => by omega⟩
  | succ d ih =>
    intro k i s hi h0 hk hq
    obtain ⟨k, rfl⟩ : ∃ k', k = k' + 1 := ⟨k - 1, by omega⟩
    unfold p_X11_checksum_4
    refine ⟨fun q => by omega, fun _ => ?_⟩
    exact s_X11_state hF h hI (fun a b => ⟨⟨by omega, by omega⟩, ih k (i + 1) _ (by omega) (by omega) (by omega) hq⟩) (fun q => absurd ⟨h0, by omega⟩ q)
theorem k_flow (hF : 50 ≤ F) (h : yCR (x + 44) M A) (hI : yI A) {f : Int} (f0 : 0 ≤ f) (f1 : f < yS A 2) : ∀ (d k : Nat) (i s : Int), i + d = 6 → 0 ≤ i → d < k → K2 (yFo (fun s w => 31 * s + yAf A f w) d i s) f M → p_X11_checksum_48 F x Q K2 k s f i M := by
  intro d
  induction d with
  | zero =>
    intro k i s hi h0 hk hq
    obtain ⟨k, rfl⟩ : ∃ k', k = k' + 1 := ⟨k - 1, by omega⟩
    unfold p_X11_checksum_48
    exact ⟨fun _ => hq, fun q => by omega⟩
  | succ d ih =>
    intro k i s hi h0 hk hq
    obtain ⟨k, rfl⟩ : ∃ k', k = k' + 1 := ⟨k - 1, by omega⟩
    unfold p_X11_checksum_48
    refine ⟨fun q => by omega, fun _ => ?_⟩
    exact s_X11_flow hF h hI (fun _ _ a b => ⟨⟨by omega, by omega⟩, ih k (i + 1) _ (by omega) (by omega) (by omega) hq⟩) (fun q => absurd ⟨f0, f1⟩ q) (fun _ _ q => absurd ⟨h0, by omega⟩ q)
theorem k_flows (hF : 50 ≤ F) (h : yCR (x + 44) M A) (hI : yI A) : ∀ (d k : Nat) (i s : Int), i + d = yS A 2 → 0 ≤ i → d < k → K1 (yFo (yK2 A) d i s) M → p_X11_checksum_31 F x Q K1 k s i M := by
  obtain ⟨n1, n2, n3, n4, n5, n6⟩ := id hI.1.1
  have e : M (x + 49) 4 = yS A 2 := yr5 h.1
  intro d
  induction d with
  | zero =>
    intro k i s hi h0 hk hq
    obtain ⟨k, rfl⟩ : ∃ k', k = k' + 1 := ⟨k - 1, by omega⟩
    unfold p_X11_checksum_31
    rw [e]
    exact ⟨fun _ => hq, fun q => by omega⟩
  | succ d ih =>
    intro k i s hi h0 hk hq
    obtain ⟨k, rfl⟩ : ∃ k', k = k' + 1 := ⟨k - 1, by omega⟩
    unfold p_X11_checksum_31
    rw [e]
    refine ⟨fun q => by omega, fun _ => ?_⟩
    exact k_flow hF h hI h0 (by omega) 6 F 0 s rfl (by decide) (by omega) ⟨⟨by omega, by omega⟩, ih k (i + 1) _ (by omega) (by omega) (by omega) hq⟩
theorem k_packet (hF : 50 ≤ F) (h : yCR (x + 44) M A) (hI : yI A) {f : Int} (f0 : 0 ≤ f) (f1 : f < yS A 3) : ∀ (d k : Nat) (i s : Int), i + d = 7 → 0 ≤ i → d < k → K2 (yFo (fun s w => 31 * s + yAp A f w) d i s) f M → p_X11_checksum_100 F x Q K2 k s f i M := by
  intro d
  induction d with
  | zero =>
    intro k i s hi h0 hk hq
    obtain ⟨k, rfl⟩ : ∃ k', k = k' + 1 := ⟨k - 1, by omega⟩
    unfold p_X11_checksum_100
    exact ⟨fun _ => hq, fun q => by omega⟩
  | succ d ih =>
    intro k i s hi h0 hk hq
    obtain ⟨k, rfl⟩ : ∃ k', k = k' + 1 := ⟨k - 1, by omega⟩
    unfold p_X11_checksum_100
    refine ⟨fun q => by omega, fun _ => ?_⟩
    exact s_X11_packet h hI (fun _ _ a b => ⟨⟨by omega, by omega⟩, ih k (i + 1) _ (by omega) (by omega) (by omega) hq⟩) (fun q => absurd ⟨f0, f1⟩ q) (fun _ _ q => absurd ⟨h0, by omega⟩ q)
theorem k_packets (hF : 50 ≤ F) (h : yCR (x + 44) M A) (hI : yI A) : ∀ (d k : Nat) (i s : Int), i + d = yS A 3 → 0 ≤ i → d < k → K1 (yFo (yK3 A) d i s) M → p_X11_checksum_83 F x Q K1 k s i M := by
  obtain ⟨n1, n2, n3, n4, n5, n6⟩ := id hI.1.1
  have e : M (x + 60) 8 = yS A 3 := yr16 h.1
  intro d
  induction d with
  | zero =>
    intro k i s hi h0 hk hq
    obtain ⟨k, rfl⟩ : ∃ k', k = k' + 1 := ⟨k - 1, by omega⟩
    unfold p_X11_checksum_83
    rw [e]
    exact ⟨fun _ => hq, fun q => by omega⟩
  | succ d ih =>
    intro k i s hi h0 hk hq
    obtain ⟨k, rfl⟩ : ∃ k', k = k' + 1 := ⟨k - 1, by omega⟩
    unfold p_X11_checksum_83
    rw [e]
    refine ⟨fun q => by omega, fun _ => ?_⟩
    exact k_packet hF h hI h0 (by omega) 7 F 0 s rfl (by decide) (by omega) ⟨⟨by omega, by omega⟩, ih k (i + 1) _ (by omega) (by omega) (by omega) hq⟩
theorem k_coupon (hF : 50 ≤ F) (h : yCR (x + 44) M A) (hI : yI A) {f : Int} (f0 : 0 ≤ f) (f1 : f < ((yC A).length : Int)) : ∀ (d k : Nat) (i s : Int), i + d = 4 → 0 ≤ i → d < k → K2 (yFo (fun s w => 31 * s + yAc A f w) d i s) f M → p_X11_checksum_153 F x Q K2 k s f i M := by
  intro d
  induction d with
  | zero =>
    intro k i s hi h0 hk hq
    obtain ⟨k, rfl⟩ : ∃ k', k = k' + 1 := ⟨k - 1, by omega⟩
    unfold p_X11_checksum_153
    exact ⟨fun _ => hq, fun q => by omega⟩
  | succ d ih =>
    intro k i s hi h0 hk hq
    obtain ⟨k, rfl⟩ : ∃ k', k = k' + 1 := ⟨k - 1, by omega⟩
    unfold p_X11_checksum_153
    refine ⟨fun q => by omega, fun _ => ?_⟩
    exact s_X11_coupon h hI (fun _ _ a b => ⟨⟨by omega, by omega⟩, ih k (i + 1) _ (by omega) (by omega) (by omega) hq⟩) (fun q => absurd ⟨f0, f1⟩ q) (fun _ _ q => absurd ⟨h0, by omega⟩ q)
theorem k_coupons (hF : 50 ≤ F) (h : yCR (x + 44) M A) (hI : yI A) : ∀ (d k : Nat) (i s : Int), i + d = ((yC A).length : Int) → 0 ≤ i → d < k → K1 (yFo (yK4 A) d i s) M → p_X11_checksum_136 F x Q K1 k s i M := by
  have hC := hI.2.2.2.2.1.1
  have e : M (x + 69) 4 = ((yC A).length : Int) := h.2.1.1
  intro d
  induction d with
  | zero =>
    intro k i s hi h0 hk hq
    obtain ⟨k, rfl⟩ : ∃ k', k = k' + 1 := ⟨k - 1, by omega⟩
    unfold p_X11_checksum_136
    rw [e]
    exact ⟨fun _ => hq, fun q => by omega⟩
  | succ d ih =>
    intro k i s hi h0 hk hq
    obtain ⟨k, rfl⟩ : ∃ k', k = k' + 1 := ⟨k - 1, by omega⟩
    unfold p_X11_checksum_136
    rw [e]
    refine ⟨fun q => by omega, fun _ => ?_⟩
    exact k_coupon hF h hI h0 (by omega) 4 F 0 s rfl (by decide) (by omega) ⟨⟨by omega, by omega⟩, ih k (i + 1) _ (by omega) (by omega) (by omega) hq⟩
theorem k_pair (h : yCR (x + 44) M A) (hI : yI A) {f : Int} (f0 : 0 ≤ f) (f1 : f < yS A 1) : ∀ (d k : Nat) (i s : Int), i + d = yS A 2 → 0 ≤ i → d < k → K2 (yFo (fun s i => 31 * (31 * s + yS A (561 + 4 * (6 * f + i))) + ((yQ A (6 * f + i)).length : Int)) d i s) f M → p_X11_checksum_205 F x Q K2 k s f i M := by
  obtain ⟨n1, n2, n3, n4, n5, n6⟩ := id hI.1.1
  have e : M (x + 49) 4 = yS A 2 := yr5 h.1
  intro d
  induction d with
  | zero =>
    intro k i s hi h0 hk hq
    obtain ⟨k, rfl⟩ : ∃ k', k = k' + 1 := ⟨k - 1, by omega⟩
    unfold p_X11_checksum_205
    rw [e]
    exact ⟨fun _ => hq, fun q => by omega⟩
  | succ d ih =>
    intro k i s hi h0 hk hq
    obtain ⟨k, rfl⟩ : ∃ k', k = k' + 1 := ⟨k - 1, by omega⟩
    unfold p_X11_checksum_205
    rw [e]
    refine ⟨fun q => by omega, fun _ => ?_⟩
    refine s_X11_tokens h hI.1.1 (fun _ _ a b => ?_) (fun q => absurd ⟨f0, f1⟩ q) (fun _ _ q => absurd ⟨h0, by omega⟩ q)
    exact s_X11_queue h hI.1.1 (fun _ _ a b => ⟨⟨by omega, by omega⟩, ih k (i + 1) _ (by omega) (by omega) (by omega) hq⟩) (fun q => absurd ⟨f0, f1⟩ q) (fun _ _ q => absurd ⟨h0, by omega⟩ q)
theorem k_pairs (hF : 50 ≤ F) (h : yCR (x + 44) M A) (hI : yI A) : ∀ (d k : Nat) (i s : Int), i + d = yS A 1 → 0 ≤ i → d < k → Q (yFo (yK5 A) d i s) M → p_X11_checksum_188 F x Q k s i M := by
  obtain ⟨n1, n2, n3, n4, n5, n6⟩ := id hI.1.1
  have e : M (x + 45) 3 = yS A 1 := yr1 h.1
  intro d
  induction d with
  | zero =>
    intro k i s hi h0 hk hq
    obtain ⟨k, rfl⟩ : ∃ k', k = k' + 1 := ⟨k - 1, by omega⟩
    unfold p_X11_checksum_188
    rw [e]
    exact ⟨fun _ => hq, fun q => by omega⟩
  | succ d ih =>
    intro k i s hi h0 hk hq
    obtain ⟨k, rfl⟩ : ∃ k', k = k' + 1 := ⟨k - 1, by omega⟩
    unfold p_X11_checksum_188
    rw [e]
    refine ⟨fun q => by omega, fun _ => ?_⟩
    exact k_pair h hI h0 (by omega) (yS A 2).toNat F 0 s (by omega) (by decide) (by omega) ⟨⟨by omega, by omega⟩, ih k (i + 1) _ (by omega) (by omega) (by omega) hq⟩
theorem s_X11_checksum (hF : 50 ≤ F) (h : yCR (x + 44) M A) (hI : yI A) (hq : Q (yChk A) M) : p_X11_checksum F x M Q := by
  obtain ⟨n1, n2, n3, n4, n5, n6⟩ := id hI.1.1
  have hC := hI.2.2.2.2.1.1
  unfold p_X11_checksum
  refine k_state hF h hI 10 F 0 0 rfl (by decide) (by omega) ?_
  refine k_flows hF h hI (yS A 2).toNat F 0 _ (by omega) (by decide) (by omega) ?_
  refine k_packets hF h hI (yS A 3).toNat F 0 _ (by omega) (by decide) (by omega) ?_
  refine k_coupons hF h hI (yC A).length F 0 _ (by omega) (by decide) (by omega) ?_
  exact k_pairs hF h hI (yS A 1).toNat F 0 _ (by omega) (by decide) (by omega) hq
/-! the model's -/
end YCK
