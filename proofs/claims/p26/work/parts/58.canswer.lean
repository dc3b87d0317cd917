/-! THE ANSWERS: the class's -/
theorem s_X5_countIn_4 {F w : Nat} {st : Int} {M : xMe} {A : yA} {Q : Int → xMe → Prop} (hN : yN A) (hR : yR w M A) : ∀ (d k : Nat) (x3 : Nat), (x3 : Int) + d = yS A 3 → d < k → Q (ySp2 (fun p => if yS A (84 + 9 * p) = st then 1 else 0) (yS A 3).toNat) M → p_X5_countIn_4 F (w + 16) Q k st (ySp2 (fun p => if yS A (84 + 9 * p) = st then 1 else 0) x3) (x3 : Int) M := by
  obtain ⟨n1, n2, n3, n4, n5, n6⟩ := hN
  intro d
  induction d with
  | zero =>
    intro k x3 he hk hq
    obtain ⟨k, rfl⟩ : ∃ k', k = k' + 1 := ⟨k - 1, by omega⟩
    unfold p_X5_countIn_4
    rw [yr16 hR]
    refine ⟨fun _ => ?_, fun q => by omega⟩
    rw [show x3 = (yS A 3).toNat by omega]; exact hq
  | succ d ih =>
    intro k x3 he hk hq
    obtain ⟨k, rfl⟩ : ∃ k', k = k' + 1 := ⟨k - 1, by omega⟩
    have hb := ySp2_ge (h := fun p => if yS A (84 + 9 * p) = st then 1 else 0) (b := 1) (n := x3) (fun p _ _ => by split <;> omega)
    unfold p_X5_countIn_4
    rw [yr16 hR, show w + 16 + 4 = w + 20 from rfl, yr20 hR (by omega) (by omega)]
    have hn := ih k (x3 + 1) (by omega) (by omega) hq
    unfold ySp2 at hn
    refine ⟨fun _ => by omega, fun _ => ⟨⟨by omega, by omega⟩, fun q => ⟨⟨by omega, by omega⟩, ?_⟩, fun q => ⟨⟨by omega, by omega⟩, ⟨by omega, by omega⟩, ?_⟩⟩⟩
    · rw [if_neg q, Int.add_zero] at hn; exact hn
    · rw [if_pos q] at hn; exact hn
theorem s_X5_countIn {F w : Nat} {st : Int} {M : xMe} {A : yA} {Q : Int → xMe → Prop} (hF : 50 ≤ F) (hN : yN A) (hR : yR w M A) (hq : Q (ySp2 (fun p => if yS A (84 + 9 * p) = st then 1 else 0) (yS A 3).toNat) M) : p_X5_countIn F (w + 16) st M Q := by
  obtain ⟨n1, n2, n3, n4, n5, n6⟩ := id hN
  exact s_X5_countIn_4 hN hR (yS A 3).toNat F 0 (by omega) (by omega) hq
theorem s_X5_deliveredSizeOf_4 {F w : Nat} {f : Int} {M : xMe} {A : yA} {Q : Int → xMe → Prop} (hI : yI1 A) (hR : yR w M A) : ∀ (d k : Nat) (x3 : Nat), (x3 : Int) + d = yS A 3 → d < k → Q (ySp2 (fun p => if yS A (81 + 9 * p) = f ∧ yS A (84 + 9 * p) = 3 then yS A (83 + 9 * p) else 0) (yS A 3).toNat) M → p_X5_deliveredSizeOf_4 F (w + 16) Q k f (ySp2 (fun p => if yS A (81 + 9 * p) = f ∧ yS A (84 + 9 * p) = 3 then yS A (83 + 9 * p) else 0) x3) (x3 : Int) M := by
  obtain ⟨n1, n2, n3, n4, n5, n6⟩ := id hI.1
  have h4 := hI.2.2.2.1
  intro d
  induction d with
  | zero =>
    intro k x3 he hk hq
    obtain ⟨k, rfl⟩ : ∃ k', k = k' + 1 := ⟨k - 1, by omega⟩
    unfold p_X5_deliveredSizeOf_4
    rw [yr16 hR]
    refine ⟨fun _ => ?_, fun q => by omega⟩
    rw [show x3 = (yS A 3).toNat by omega]; exact hq
  | succ d ih =>
    intro k x3 he hk hq
    obtain ⟨k, rfl⟩ : ∃ k', k = k' + 1 := ⟨k - 1, by omega⟩
    have hb := ySp2_ge (h := fun p => if yS A (81 + 9 * p) = f ∧ yS A (84 + 9 * p) = 3 then yS A (83 + 9 * p) else 0) (b := 999) (n := x3) (fun p a b => by
      have := h4 p a (by omega)
      split <;> omega)
    have hx := h4 x3 (by omega) (by omega)
    unfold p_X5_deliveredSizeOf_4
    rw [yr16 hR, show w + 16 + 4 = w + 20 from rfl, show w + 16 + 1 = w + 17 from rfl, show w + 16 + 3 = w + 19 from rfl, yr20 hR (by omega) (by omega), yr17 hR (by omega) (by omega), yr19 hR (by omega) (by omega)]
    have hn := ih k (x3 + 1) (by omega) (by omega) hq
    unfold ySp2 at hn
    refine ⟨fun _ => by omega, fun _ => ⟨⟨by omega, by omega⟩, fun q => ⟨⟨by omega, by omega⟩, ?_⟩, fun q => ⟨⟨by omega, by omega⟩, fun r => ⟨⟨by omega, by omega⟩, ?_⟩, fun r => ⟨⟨by omega, by omega⟩, ⟨by omega, by omega⟩, fun z ez => ⟨⟨by omega, by omega⟩, ?_⟩⟩⟩⟩⟩
    · rw [if_neg (fun e => q e.1), Int.add_zero] at hn; exact hn
    · rw [if_neg (fun e => r e.2), Int.add_zero] at hn; exact hn
    · rw [if_pos ⟨q, r⟩] at hn; rw [ez]; exact hn
theorem s_X5_deliveredSizeOf {F w : Nat} {f : Int} {M : xMe} {A : yA} {Q : Int → xMe → Prop} (hF : 50 ≤ F) (hI : yI1 A) (hR : yR w M A) (hq : Q (ySp2 (fun p => if yS A (81 + 9 * p) = f ∧ yS A (84 + 9 * p) = 3 then yS A (83 + 9 * p) else 0) (yS A 3).toNat) M) : p_X5_deliveredSizeOf F (w + 16) f M Q := by
  obtain ⟨n1, n2, n3, n4, n5, n6⟩ := id hI.1
  exact s_X5_deliveredSizeOf_4 hI hR (yS A 3).toNat F 0 (by omega) (by omega) hq
/-! what the calls answer -/
def yAs (A : yA) (p : Int) : Int := if p = 4 then ((yC A).length : Int) else yS A p
def yAf (A : yA) (f w : Int) : Int := if w = 3 then yCnt f (yC A) else if w = 4 then ySum f (yC A) else if w = 5 then yS A (36 + 8 * f) else yS A (33 + 8 * f + w)
def yAp (A : yA) (p w : Int) : Int := if w = 4 then (if yS A (84 + 9 * p) = 1 ∨ yS A (84 + 9 * p) = 2 then yGt A p else -1) else yS A (81 + 9 * p + w)
def yAc (A : yA) (c w : Int) : Int := match (yC A)[c.toNat]? with
  | none => 0
  | some v => if w = 0 then v.1 else if w = 1 then v.2.1 else if w = 2 then v.2.2.1 else v.2.2.2
abbrev xIOe : String := "java/lang/IndexOutOfBoundsException"
abbrev xIAe : String := "java/lang/IllegalArgumentException"
section YCA
variable {F x : Nat} {p w g f : Int} {M : xMe} {A : yA} {Q : Int → xMe → Prop} {Q1 : xMe → Prop} {E : String → xMe → Prop}
theorem s_checkGate (h : yCR (x + 44) M A) (h1 : 0 ≤ g → g < yS A 1 → Q1 M) (h2 : ¬ (0 ≤ g ∧ g < yS A 1) → E xIOe M) : p_X11_checkGate x g M Q1 E := by
  have e : M (x + 45) 3 = yS A 1 := yr1 h.1
  unfold p_X11_checkGate
  rw [e]
  exact ⟨fun q => h2 (by omega), fun q => ⟨fun r => h1 q r, fun r => h2 (by omega)⟩⟩
theorem s_checkFlow (h : yCR (x + 44) M A) (h1 : 0 ≤ f → f < yS A 2 → Q1 M) (h2 : ¬ (0 ≤ f ∧ f < yS A 2) → E xIOe M) : p_X11_checkFlow x f M Q1 E := by
  have e : M (x + 49) 4 = yS A 2 := yr5 h.1
  unfold p_X11_checkFlow
  rw [e]
  exact ⟨fun q => h2 (by omega), fun q => ⟨fun r => h1 q r, fun r => h2 (by omega)⟩⟩
theorem s_checkPacket (h : yCR (x + 44) M A) (h1 : 0 ≤ p → p < yS A 3 → Q1 M) (h2 : ¬ (0 ≤ p ∧ p < yS A 3) → E xIOe M) : p_X11_checkPacket x p M Q1 E := by
  have e : M (x + 60) 8 = yS A 3 := yr16 h.1
  unfold p_X11_checkPacket
  rw [e]
  exact ⟨fun q => h2 (by omega), fun q => ⟨fun r => h1 q r, fun r => h2 (by omega)⟩⟩
theorem s_checkCoupon (h : yCR (x + 44) M A) (h1 : 0 ≤ p → p < ((yC A).length : Int) → Q1 M) (h2 : ¬ (0 ≤ p ∧ p < ((yC A).length : Int)) → E xIOe M) : p_X11_checkCoupon x p M Q1 E := by
  have e : M (x + 69) 4 = ((yC A).length : Int) := h.2.1.1
  unfold p_X11_checkCoupon
  rw [e]
  exact ⟨fun q => h2 (by omega), fun q => ⟨fun r => h1 q r, fun r => h2 (by omega)⟩⟩
theorem s_checkRange {a b : Int} (h1 : a ≤ p → p ≤ b → Q1 M) (h2 : ¬ (a ≤ p ∧ p ≤ b) → E xIAe M) : p_X11_checkRange x p a b M Q1 E := by
  unfold p_X11_checkRange
  exact ⟨fun q => h2 (by omega), fun q => ⟨fun r => h1 q r, fun r => h2 (by omega)⟩⟩
theorem s_X11_state (hF : 50 ≤ F) (h : yCR (x + 44) M A) (hI : yI A) (h1 : 0 ≤ p → p ≤ 9 → Q (yAs A p) M) (h2 : ¬ (0 ≤ p ∧ p ≤ 9) → E xIAe M) : p_X11_state F x p M Q E := by
  have hR := h.1
  have e0 : M (x + 44) 7 = yS A 0 := yr0_7 hR
  have e1 : M (x + 45) 3 = yS A 1 := yr1 hR
  have e2 : M (x + 49) 4 = yS A 2 := yr5 hR
  have e3 : M (x + 60) 8 = yS A 3 := yr16 hR
  have e4 : M (x + 69) 4 = ((yC A).length : Int) := h.2.1.1
  have e7 : M (x + 44) 11 = yS A 7 := yr0_11 hR
  have e8 : M (x + 44) 12 = yS A 8 := yr0_12 hR
  have e9 : M (x + 44) 8 = yS A 9 := yr0_8 hR
  obtain ⟨h5, h6, -⟩ := hI.2.2.2.2.2.2.2
  unfold p_X11_state
  rw [e0, e1, e2, e3, e4, e7, e8, e9]
  refine ⟨fun q => h2 (by omega), fun q => ?_, fun q => ?_, fun q => ?_, fun q => ?_, fun q => ?_, fun q => ?_, fun q => ?_, fun q => ?_, fun q => ?_, fun q => ?_⟩
  all_goals subst q
  · exact h1 (by decide) (by decide)
  · exact h1 (by decide) (by decide)
  · exact h1 (by decide) (by decide)
  · exact h1 (by decide) (by decide)
  · exact h1 (by decide) (by decide)
  · exact s_X5_countIn (w := x + 44) hF hI.1.1 hR (h5 ▸ h1 (by decide) (by decide))
  · exact s_X5_countIn (w := x + 44) hF hI.1.1 hR (h6 ▸ h1 (by decide) (by decide))
  · exact h1 (by decide) (by decide)
  · exact h1 (by decide) (by decide)
  · exact h1 (by decide) (by decide)
theorem s_X11_gate (h : yCR (x + 44) M A) (hN : yN A) (h1 : 0 ≤ g → g < yS A 1 → 0 ≤ w → w ≤ 2 → Q (yS A (15 + 3 * g + w)) M) (h2 : ¬ (0 ≤ g ∧ g < yS A 1) → E xIOe M) (h3 : 0 ≤ g → g < yS A 1 → ¬ (0 ≤ w ∧ w ≤ 2) → E xIAe M) : p_X11_gate x g w M Q E := by
  have hR := h.1
  obtain ⟨n1, n2, n3, n4, n5, n6⟩ := hN
  unfold p_X11_gate
  refine s_checkGate h (fun g0 g1 => ?_) h2
  have e0 : M (x + 46) g.toNat = yS A (15 + 3 * g) := yr2 hR g0 g1
  have e1 : M (x + 47) g.toNat = yS A (16 + 3 * g) := yr3 hR g0 g1
  have e2 : M (x + 48) g.toNat = yS A (17 + 3 * g) := yr4 hR g0 g1
  rw [e0, e1, e2]
  refine ⟨fun q => h3 g0 g1 (by omega), fun q => ⟨⟨by omega, by omega⟩, ?_⟩, fun q => ⟨⟨by omega, by omega⟩, ?_⟩, fun q => ⟨⟨by omega, by omega⟩, ?_⟩⟩
  · rw [show 15 + 3 * g = 15 + 3 * g + w by omega]; exact h1 g0 g1 (by omega) (by omega)
  · rw [show 16 + 3 * g = 15 + 3 * g + w by omega]; exact h1 g0 g1 (by omega) (by omega)
  · rw [show 17 + 3 * g = 15 + 3 * g + w by omega]; exact h1 g0 g1 (by omega) (by omega)
theorem s_X11_flow (hF : 50 ≤ F) (h : yCR (x + 44) M A) (hI : yI A) (h1 : 0 ≤ f → f < yS A 2 → 0 ≤ w → w ≤ 5 → Q (yAf A f w) M) (h2 : ¬ (0 ≤ f ∧ f < yS A 2) → E xIOe M) (h3 : 0 ≤ f → f < yS A 2 → ¬ (0 ≤ w ∧ w ≤ 5) → E xIAe M) : p_X11_flow F x f w M Q E := by
  have hR := h.1
  obtain ⟨n1, n2, n3, n4, n5, n6⟩ := id hI.1.1
  unfold p_X11_flow
  refine s_checkFlow h (fun g0 g1 => ?_) h2
  have e0 : M (x + 51) f.toNat = yS A (33 + 8 * f) := yr7 hR g0 g1
  have e1 : M (x + 52) f.toNat = yS A (34 + 8 * f) := yr8 hR g0 g1
  have e2 : M (x + 53) f.toNat = yS A (35 + 8 * f) := yr9 hR g0 g1
  have h8 := hI.2.2.2.2.2.2.2.2.2 f g0 g1
  have hC := yI5_v hI.2.2.2.2.1
  rw [e0, e1, e2]
  refine ⟨fun q => h3 g0 g1 (by omega), fun q => ⟨⟨by omega, by omega⟩, ?_⟩, fun q => ⟨⟨by omega, by omega⟩, ?_⟩, fun q => ⟨⟨by omega, by omega⟩, ?_⟩, fun q => ?_, fun q => ?_, fun q => ?_⟩
  all_goals subst q
  all_goals have h1 := h1 g0 g1 (by decide) (by decide)
  · unfold yAf at h1; simp only [show ¬ (0 : Int) = 3 by decide, show ¬ (0 : Int) = 4 by decide, show ¬ (0 : Int) = 5 by decide, if_false] at h1; rw [show 33 + 8 * f = 33 + 8 * f + 0 by omega]; exact h1
  · unfold yAf at h1; simp only [show ¬ (1 : Int) = 3 by decide, show ¬ (1 : Int) = 4 by decide, show ¬ (1 : Int) = 5 by decide, if_false] at h1; rw [show 34 + 8 * f = 33 + 8 * f + 1 by omega]; exact h1
  · unfold yAf at h1; simp only [show ¬ (2 : Int) = 3 by decide, show ¬ (2 : Int) = 4 by decide, show ¬ (2 : Int) = 5 by decide, if_false] at h1; rw [show 35 + 8 * f = 33 + 8 * f + 2 by omega]; exact h1
  · exact s_X0_countOf (a := x + 69) h.2.1 hC (by omega) h1
  · exact s_X0_sumOf (a := x + 69) h.2.1 hC (by omega) h1
  · refine s_X5_deliveredSizeOf (w := x + 44) hF hI.1 hR ?_
    rw [← h8]; exact h1
theorem s_X1_gateAtN {w : Nat} {f j : Int} (hN : yN A) (h : yR w M A) (h0 : 0 ≤ f) (h1 : f < yS A 2) (h2 : ¬ (0 ≤ j ∧ j < yS A (33 + 8 * f))) (hq : Q (-1) M) : p_X1_gateAt (w + 5) f j M Q := by
  obtain ⟨n1, n2, n3, n4, n5, n6⟩ := hN
  have e7 : M (w + 5 + 2) f.toNat = yS A (33 + 8 * f) := yr7 h h0 h1
  unfold p_X1_gateAt
  rw [e7]
  refine ⟨fun q => hq, fun q => ⟨fun r => hq, fun r => ⟨fun r2 => hq, fun r2 => ⟨fun r3 => hq, fun r3 => ⟨⟨by omega, by omega⟩, fun r4 => by omega, fun r4 => hq⟩⟩⟩⟩⟩
theorem s_X11_route (h : yCR (x + 44) M A) (hI : yI1 A) (h1 : 0 ≤ f → f < yS A 2 → 0 ≤ w → w < yS A (33 + 8 * f) → Q (yS A (37 + 8 * f + w)) M) (h2 : ¬ (0 ≤ f ∧ f < yS A 2) → E xIOe M) (h3 : 0 ≤ f → f < yS A 2 → ¬ (0 ≤ w ∧ w < yS A (33 + 8 * f)) → E "java/util/NoSuchElementException" M) : p_X11_route x f w M Q E := by
  unfold p_X11_route
  refine s_checkFlow h (fun g0 g1 => ?_) h2
  obtain ⟨q1, q2, q3, q4, q5⟩ := hI.2.2.1 f g0 g1
  by_cases hw : 0 ≤ w ∧ w < yS A (33 + 8 * f)
  · refine s_X1_gateAt (w := x + 44) hI.1 h.1 g0 g1 hw.1 hw.2 (by omega) ⟨fun _ => h1 g0 g1 hw.1 hw.2, fun q => ?_⟩
    have := q5 w hw.1 hw.2; omega
  · exact s_X1_gateAtN (w := x + 44) hI.1 h.1 g0 g1 hw ⟨fun q => absurd q (by decide), fun _ => h3 g0 g1 hw⟩
theorem s_X11_tokens (h : yCR (x + 44) M A) (hN : yN A) (h1 : 0 ≤ g → g < yS A 1 → 0 ≤ f → f < yS A 2 → Q (yS A (561 + 4 * (6 * g + f))) M) (h2 : ¬ (0 ≤ g ∧ g < yS A 1) → E xIOe M) (h3 : 0 ≤ g → g < yS A 1 → ¬ (0 ≤ f ∧ f < yS A 2) → E xIOe M) : p_X11_tokens x g f M Q E := by
  obtain ⟨n1, n2, n3, n4, n5, n6⟩ := hN
  unfold p_X11_tokens
  refine s_checkGate h (fun g0 g1 => ?_) h2
  refine s_checkFlow h (fun f0 f1 => ?_) (h3 g0 g1)
  have e : M (x + 55) (g * 6 + f).toNat = yS A (561 + 4 * (6 * g + f)) := yr11 h.1 g0 g1 f0 f1
  rw [e]
  exact ⟨⟨by omega, by omega⟩, ⟨by omega, by omega⟩, ⟨by omega, by omega⟩, h1 g0 g1 f0 f1⟩
theorem s_X11_queue (h : yCR (x + 44) M A) (hN : yN A) (h1 : 0 ≤ g → g < yS A 1 → 0 ≤ f → f < yS A 2 → Q ((yQ A (6 * g + f)).length : Int) M) (h2 : ¬ (0 ≤ g ∧ g < yS A 1) → E xIOe M) (h3 : 0 ≤ g → g < yS A 1 → ¬ (0 ≤ f ∧ f < yS A 2) → E xIOe M) : p_X11_queue x g f M Q E := by
  obtain ⟨n1, n2, n3, n4, n5, n6⟩ := hN
  unfold p_X11_queue
  refine s_checkGate h (fun g0 g1 => ?_) h2
  refine s_checkFlow h (fun f0 f1 => ?_) (h3 g0 g1)
  have e : M (x + 56) (6 * g + f).toNat = ((yQ A (6 * g + f)).length : Int) := (h.2.2.2 (6 * g + f) (by omega) (by omega)).1
  rw [show g * 6 + f = 6 * g + f by omega, e]
  rw [show g * 6 = 6 * g by omega]
  exact ⟨⟨by omega, by omega⟩, ⟨by omega, by omega⟩, ⟨by omega, by omega⟩, h1 g0 g1 f0 f1⟩
theorem s_X10_gateOf (h : yCR (x + 44) M A) (hI : yI A) (p0 : 0 ≤ p) (p1 : p < yS A 3) (h1 : Q (if yS A (84 + 9 * p) = 1 ∨ yS A (84 + 9 * p) = 2 then yGt A p else -1) M) : p_X10_gateOf (x + 44) p M Q := by
  have hR := h.1
  obtain ⟨n1, n2, n3, n4, n5, n6⟩ := id hI.1.1
  have e16 : M (x + 44 + 16) 8 = yS A 3 := yr16 hR
  have e20 : M (x + 44 + 20) p.toNat = yS A (84 + 9 * p) := yr20 hR p0 p1
  have e17 : M (x + 44 + 17) p.toNat = yS A (81 + 9 * p) := yr17 hR p0 p1
  have e21 : M (x + 44 + 21) p.toNat = yS A (85 + 9 * p) := yr21 hR p0 p1
  have h4 := hI.1.2.2.2.1 p p0 p1
  have h3 := hI.2.2.1 p p0 p1
  have hg : (yS A (84 + 9 * p) = 1 ∨ yS A (84 + 9 * p) = 2) → p_X1_gateAt (x + 44 + 5) (yS A (81 + 9 * p)) (yS A (85 + 9 * p)) M (fun r69 M69 => Q r69 M69) := fun hs => by
    rw [if_pos hs] at h1
    have h5 := hI.1.2.2.1 _ h4.1 h4.2.1
    exact s_X1_gateAt hI.1.1 hR h4.1 h4.2.1 h3.2.2.1 (h3.2.2.2.2.1 (by omega)) (by have := h3.2.2.2.2.1 (by omega); omega) h1
  unfold p_X10_gateOf
  rw [e16, e20, e17, e21]
  refine ⟨fun q => by omega, fun _ => ⟨fun _ => ⟨⟨by omega, by omega⟩, fun z ez => ?_⟩, fun q => by omega⟩⟩
  subst ez
  refine ⟨fun q => ⟨⟨by omega, by omega⟩, ⟨by omega, by omega⟩, hg (Or.inl q)⟩, fun q => ⟨fun r => ?_, fun r => ⟨⟨by omega, by omega⟩, ⟨by omega, by omega⟩, hg (Or.inr r)⟩⟩⟩
  rw [if_neg (by omega)] at h1; exact h1
theorem s_X11_packet (h : yCR (x + 44) M A) (hI : yI A) (h1 : 0 ≤ p → p < yS A 3 → 0 ≤ w → w ≤ 6 → Q (yAp A p w) M) (h2 : ¬ (0 ≤ p ∧ p < yS A 3) → E xIOe M) (h3 : 0 ≤ p → p < yS A 3 → ¬ (0 ≤ w ∧ w ≤ 6) → E xIAe M) : p_X11_packet x p w M Q E := by
  have hR := h.1
  obtain ⟨n1, n2, n3, n4, n5, n6⟩ := id hI.1.1
  unfold p_X11_packet
  refine s_checkPacket h (fun g0 g1 => ?_) h2
  have e0 : M (x + 61) p.toNat = yS A (81 + 9 * p) := yr17 hR g0 g1
  have e1 : M (x + 62) p.toNat = yS A (82 + 9 * p) := yr18 hR g0 g1
  have e2 : M (x + 63) p.toNat = yS A (83 + 9 * p) := yr19 hR g0 g1
  have e3 : M (x + 64) p.toNat = yS A (84 + 9 * p) := yr20 hR g0 g1
  have e5 : M (x + 67) p.toNat = yS A (86 + 9 * p) := yr23 hR g0 g1
  have e6 : M (x + 68) p.toNat = yS A (87 + 9 * p) := yr24 hR g0 g1
  rw [e0, e1, e2, e3, e5, e6]
  have hw : ∀ v k : Int, 0 ≤ v → v ≤ 6 → v ≠ 4 → k = 81 + 9 * p + v → w = v → Q (yS A k) M := fun v k a b c e e' => by
    have h1 := h1 g0 g1 (by omega) (by omega)
    unfold yAp at h1
    rw [if_neg (by omega), e', ← e] at h1
    exact h1
  refine ⟨fun q => h3 g0 g1 (by omega), fun q => ⟨⟨by omega, by omega⟩, hw 0 _ (by decide) (by decide) (by decide) (by omega) q⟩, fun q => ⟨⟨by omega, by omega⟩, hw 1 _ (by decide) (by decide) (by decide) (by omega) q⟩, fun q => ⟨⟨by omega, by omega⟩, hw 2 _ (by decide) (by decide) (by decide) (by omega) q⟩, fun q => ⟨⟨by omega, by omega⟩, hw 3 _ (by decide) (by decide) (by decide) (by omega) q⟩, fun q => ?_, fun q => ⟨⟨by omega, by omega⟩, hw 5 _ (by decide) (by decide) (by decide) (by omega) q⟩, fun q => ⟨⟨by omega, by omega⟩, hw 6 _ (by decide) (by decide) (by decide) (by omega) q⟩⟩
  refine s_X10_gateOf h hI g0 g1 ?_
  have h1 := h1 g0 g1 (by omega) (by omega)
  unfold yAp at h1
  rw [if_pos q] at h1
  exact h1
theorem s_X11_coupon (h : yCR (x + 44) M A) (hI : yI A) (h1 : 0 ≤ p → p < ((yC A).length : Int) → 0 ≤ w → w ≤ 3 → Q (yAc A p w) M) (h2 : ¬ (0 ≤ p ∧ p < ((yC A).length : Int)) → E xIOe M) (h3 : 0 ≤ p → p < ((yC A).length : Int) → ¬ (0 ≤ w ∧ w ≤ 3) → E xIAe M) : p_X11_coupon x p w M Q E := by
  have hC := hI.2.2.2.2.1.1
  unfold p_X11_coupon
  refine s_checkCoupon h (fun g0 g1 => ?_) h2
  obtain ⟨v, hv⟩ : ∃ v, (yC A)[p.toNat]? = some v := ⟨_, List.getElem?_eq_getElem (by omega)⟩
  obtain ⟨e0, e1, e2, e3⟩ : M (x + 70) p.toNat = v.1 ∧ M (x + 71) p.toNat = v.2.1 ∧ M (x + 72) p.toNat = v.2.2.1 ∧ M (x + 73) p.toNat = v.2.2.2 := h.2.1.2 p.toNat v hv
  rw [e0, e1, e2, e3]
  have h1 := h1 g0 g1
  unfold yAc at h1
  rw [hv] at h1
  dsimp only at h1
  refine ⟨fun q => h3 g0 g1 (by omega), fun q => ⟨⟨by omega, by omega⟩, ?_⟩, fun q => ⟨⟨by omega, by omega⟩, ?_⟩, fun q => ⟨⟨by omega, by omega⟩, ?_⟩, fun q => ⟨⟨by omega, by omega⟩, ?_⟩⟩
  all_goals subst q
  all_goals exact h1 (by decide) (by decide)
theorem s_X11_curve {T : Int} (h : yCR (x + 44) M A) (hI : yI1 A) (h1 : 0 ≤ g → g < yS A 1 → 1 ≤ T → T ≤ 999 → xR (yS A (15 + 3 * g) * T) → xR (yS A (16 + 3 * g) + yS A (15 + 3 * g) * T) → Q (yS A (16 + 3 * g) + yS A (15 + 3 * g) * T) M) (h2 : ¬ (0 ≤ g ∧ g < yS A 1) → E xIOe M) (h4 : 0 ≤ g → g < yS A 1 → ¬ (1 ≤ T ∧ T ≤ 999) → E xIAe M) : p_X11_curve x g T M Q E := by
  obtain ⟨n1, n2, n3, n4, n5, n6⟩ := id hI.1
  unfold p_X11_curve
  refine s_checkGate h (fun g0 g1 => ?_) h2
  refine s_checkRange (fun t0 t1 => ?_) (h4 g0 g1)
  have hg := hI.2.1 g g0 g1
  have b1 : yS A (15 + 3 * g) * T ≤ 99 * 999 := Int.mul_le_mul hg.2.1 t1 (by omega) (by decide)
  have b0 : 0 ≤ yS A (15 + 3 * g) * T := Int.mul_nonneg hg.1 (by omega)
  have e0 : M (x + 46) g.toNat = yS A (15 + 3 * g) := yr2 h.1 g0 g1
  have e1 : M (x + 47) g.toNat = yS A (16 + 3 * g) := yr3 h.1 g0 g1
  rw [e0, e1]
  have r1 : xR (yS A (15 + 3 * g) * T) := ⟨by omega, by omega⟩
  have r2 : xR (yS A (16 + 3 * g) + yS A (15 + 3 * g) * T) := ⟨by omega, by omega⟩
  exact ⟨⟨by omega, by omega⟩, ⟨by omega, by omega⟩, r1, r2, h1 g0 g1 t0 t1 r1 r2⟩
end YCA
