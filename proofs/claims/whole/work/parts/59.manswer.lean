/-! THE ANSWERS: the model's -/
section YMA
variable {F m : Nat} {p w g f T : Int} {M : xMe} {A : yA} {Q : Int → xMe → Prop}
theorem s_X12_state (h : yDR (m + 2) M A) (h1 : 0 ≤ p → p ≤ 9 → Q (yAs A p) (xw M m 0 0)) (h2 : ¬ (0 ≤ p ∧ p ≤ 9) → Q 0 (xw (xw M m 0 0) m 0 1)) : p_X12_state m p M Q := by
  unfold p_X12_state
  intro M2 e2; subst e2
  have h' : yDR (m + 2) (xw M m 0 0) A := yDR_o h (by omega)
  refine s_in (fun q1 q2 => ?_) (fun q => ?_)
  · refine ⟨fun _ => s_fails0 xw_s ?_, fun q => absurd q (by decide)⟩
    refine ⟨fun _ => ⟨⟨by omega, by omega⟩, ?_⟩, fun q => absurd rfl q⟩
    have h1 := h1 q1 q2
    unfold yAs at h1
    by_cases e : p = 4
    · subst e
      rw [if_pos rfl, ← h'.2.1.1] at h1
      exact h1
    · rw [if_neg e] at h1
      rw [h'.1 p (by unfold yG; omega)]; exact h1
  · refine ⟨fun q => absurd rfl q, fun _ => s_fails1 xw_s (by decide) ?_⟩
    exact ⟨fun q => absurd q (by decide), fun _ => h2 q⟩
theorem s_X12_ofGate (h : yDR (m + 2) M A) (g0 : 0 ≤ g) (g1 : g < 6) (w0 : 0 ≤ w) (w1 : w ≤ 2) (hq : Q (yS A (15 + 3 * g + w)) M) : p_X12_ofGate m g w M Q := by
  unfold p_X12_ofGate
  rw [h.1 (15 + 3 * g + w) (by unfold yG; omega)]
  exact ⟨⟨by omega, by omega⟩, ⟨by omega, by omega⟩, ⟨by omega, by omega⟩, ⟨by omega, by omega⟩, hq⟩
theorem s_X12_ofFlow (h : yDR (m + 2) M A) (f0 : 0 ≤ f) (f1 : f < 6) (w0 : 0 ≤ w) (w1 : w < 8) (hq : Q (yS A (33 + 8 * f + w)) M) : p_X12_ofFlow m f w M Q := by
  unfold p_X12_ofFlow
  rw [h.1 (33 + 8 * f + w) (by unfold yG; omega)]
  exact ⟨⟨by omega, by omega⟩, ⟨by omega, by omega⟩, ⟨by omega, by omega⟩, ⟨by omega, by omega⟩, hq⟩
theorem s_X12_gate (h : yDR (m + 2) M A) (hN : yN A) (h1 : 0 ≤ g → g < yS A 1 → 0 ≤ w → w ≤ 2 → Q (yS A (15 + 3 * g + w)) (xw M m 0 0)) (h2 : ¬ (0 ≤ g ∧ g < yS A 1) → Q 0 (xw (xw M m 0 0) m 0 1)) (h3 : 0 ≤ g → g < yS A 1 → ¬ (0 ≤ w ∧ w ≤ 2) → Q 0 (xw (xw M m 0 0) m 0 2)) : p_X12_gate m g w M Q := by
  obtain ⟨n1, n2, n3, n4, n5, n6⟩ := id hN
  unfold p_X12_gate
  intro M2 e2; subst e2
  have h' : yDR (m + 2) (xw M m 0 0) A := yDR_o h (by omega)
  refine s_noG hN h' xw_s (fun g0 g1 => ⟨fun q => absurd rfl q, fun _ => ?_⟩) (fun q => ⟨fun _ => h2 q, fun q => absurd q (by decide)⟩)
  refine s_noN xw_s (fun w0 w1 => ⟨fun _ => ?_, fun q => absurd rfl q⟩) (fun q => ⟨fun q => absurd q (by decide), fun _ => h3 g0 g1 q⟩)
  exact s_X12_ofGate h' g0 (by omega) w0 w1 (h1 g0 g1 w0 w1)
theorem s_X12_toldFlow (hF : 50 ≤ F) (h : yDR (m + 2) M A) (hI : yI A) (f0 : 0 ≤ f) (f1 : f < yS A 2) (w0 : 0 ≤ w) (w1 : w ≤ 5) (hq : Q (yAf A f w) M) : p_X12_toldFlow F m f w M Q := by
  obtain ⟨n1, n2, n3, n4, n5, n6⟩ := id hI.1.1
  have hC := yI5_v hI.2.2.2.2.1
  unfold yAf at hq
  unfold p_X12_toldFlow
  refine ⟨fun q => ⟨fun r => ⟨fun s => ?_, fun s => ?_⟩, fun r => ?_⟩, fun q => ?_⟩
  · rw [if_neg r, if_neg s, if_pos (by omega)] at hq
    refine s_X12_ofFlow h f0 (by omega) (by decide) (by decide) ?_
    rw [show 33 + 8 * f + 3 = 36 + 8 * f by omega]; exact hq
  · rw [if_neg r, if_pos s] at hq
    exact s_X12_valuesOf h.2.1 hC (by omega) hq
  · rw [if_pos r] at hq
    exact s_X12_couponsOf h.2.1 hC (by omega) hq
  · rw [if_neg (by omega), if_neg (by omega), if_neg (by omega)] at hq
    exact s_X12_ofFlow h f0 (by omega) w0 (by omega) hq
theorem s_X12_flow (hF : 50 ≤ F) (h : yDR (m + 2) M A) (hI : yI A) (h1 : 0 ≤ f → f < yS A 2 → 0 ≤ w → w ≤ 5 → Q (yAf A f w) (xw M m 0 0)) (h2 : ¬ (0 ≤ f ∧ f < yS A 2) → Q 0 (xw (xw M m 0 0) m 0 1)) (h3 : 0 ≤ f → f < yS A 2 → ¬ (0 ≤ w ∧ w ≤ 5) → Q 0 (xw (xw M m 0 0) m 0 2)) : p_X12_flow F m f w M Q := by
  unfold p_X12_flow
  intro M2 e2; subst e2
  have h' : yDR (m + 2) (xw M m 0 0) A := yDR_o h (by omega)
  refine s_noF hI.1.1 h' xw_s (fun g0 g1 => ⟨fun q => absurd rfl q, fun _ => ?_⟩) (fun q => ⟨fun _ => h2 q, fun q => absurd q (by decide)⟩)
  refine s_noN xw_s (fun w0 w1 => ⟨fun _ => ?_, fun q => absurd rfl q⟩) (fun q => ⟨fun q => absurd q (by decide), fun _ => h3 g0 g1 q⟩)
  exact s_X12_toldFlow hF h' hI g0 g1 w0 w1 (h1 g0 g1 w0 w1)
theorem s_X12_route (h : yDR (m + 2) M A) (hI : yI1 A) (hw : xR w) (h1 : 0 ≤ f → f < yS A 2 → 0 ≤ w → w < yS A (33 + 8 * f) → Q (yS A (37 + 8 * f + w)) (xw M m 0 0)) (h2 : ¬ (0 ≤ f ∧ f < yS A 2) → Q 0 (xw (xw M m 0 0) m 0 1)) (h3 : 0 ≤ f → f < yS A 2 → ¬ (0 ≤ w ∧ w < yS A (33 + 8 * f)) → Q 0 (xw (xw M m 0 0) m 0 2)) : p_X12_route m f w M Q := by
  obtain ⟨n1, n2, n3, n4, n5, n6⟩ := id hI.1
  unfold p_X12_route
  intro M2 e2; subst e2
  have h' : yDR (m + 2) (xw M m 0 0) A := yDR_o h (by omega)
  refine s_noF hI.1 h' xw_s (fun g0 g1 => ⟨fun q => absurd rfl q, fun _ => ?_⟩) (fun q => ⟨fun _ => h2 q, fun q => absurd q (by decide)⟩)
  obtain ⟨q1, q2, q3, q4, q5⟩ := hI.2.2.1 f g0 g1
  refine s_X12_ofFlow h' g0 (by omega) (by decide) (by decide) ?_
  rw [Int.add_zero]
  refine ⟨⟨by omega, by omega⟩, ?_⟩
  refine s_noN xw_s (fun w0 w1 => ⟨fun _ => ⟨⟨by omega, by omega⟩, ?_⟩, fun q => absurd rfl q⟩) (fun q => ⟨fun q => absurd q (by decide), fun _ => h3 g0 g1 (by omega)⟩)
  refine s_X12_ofFlow h' g0 (by omega) (by omega) (by omega) ?_
  rw [show 33 + 8 * f + (4 + w) = 37 + 8 * f + w by omega]
  exact h1 g0 g1 w0 (by omega)
theorem s_X12_tokens (h : yDR (m + 2) M A) (hN : yN A) (h1 : 0 ≤ g → g < yS A 1 → 0 ≤ f → f < yS A 2 → Q (yS A (561 + 4 * (6 * g + f))) (xw M m 0 0)) (h2 : ¬ (0 ≤ g ∧ g < yS A 1) → Q 0 (xw (xw M m 0 0) m 0 1)) (h3 : 0 ≤ g → g < yS A 1 → ¬ (0 ≤ f ∧ f < yS A 2) → Q 0 (xw (xw M m 0 0) m 0 1)) : p_X12_tokens m g f M Q := by
  obtain ⟨n1, n2, n3, n4, n5, n6⟩ := id hN
  unfold p_X12_tokens p_X12_pairAt
  intro M2 e2; subst e2
  have h' : yDR (m + 2) (xw M m 0 0) A := yDR_o h (by omega)
  refine s_noG hN h' xw_s (fun g0 g1 => ⟨fun q => absurd rfl q, fun _ => ?_⟩) (fun q => ⟨fun _ => h2 q, fun q => absurd q (by decide)⟩)
  refine s_noF hN h' xw_s (fun f0 f1 => ⟨fun _ => ?_, fun q => absurd rfl q⟩) (fun q => ⟨fun q => absurd q (by decide), fun _ => h3 g0 g1 q⟩)
  dsimp only
  rw [yDa h' (show 561 + 4 * (6 * g + f) + 0 = 561 + 4 * (6 * g + f) by omega) (by unfold yG; omega)]
  exact ⟨⟨by omega, by omega⟩, ⟨by omega, by omega⟩, ⟨by omega, by omega⟩, ⟨by omega, by omega⟩, ⟨by omega, by omega⟩, ⟨by omega, by omega⟩, h1 g0 g1 f0 f1⟩
theorem yQd_n {b : Nat} (h : yDR b M A) (g0 : 0 ≤ 6 * g + f) (g1 : 6 * g + f < 36) : M b (561 + 4 * (6 * g + f) + 1).toNat = ((yQ A (6 * g + f)).length : Int) := by
  have := (h.2.2.2.1 (6 * g + f) g0 g1).1
  dsimp only at this
  rw [show 561 + 4 * (6 * g + f) + 1 = 562 + 4 * (6 * g + f) by omega]; exact this
theorem s_X12_queue (h : yDR (m + 2) M A) (hN : yN A) (h1 : 0 ≤ g → g < yS A 1 → 0 ≤ f → f < yS A 2 → Q ((yQ A (6 * g + f)).length : Int) (xw M m 0 0)) (h2 : ¬ (0 ≤ g ∧ g < yS A 1) → Q 0 (xw (xw M m 0 0) m 0 1)) (h3 : 0 ≤ g → g < yS A 1 → ¬ (0 ≤ f ∧ f < yS A 2) → Q 0 (xw (xw M m 0 0) m 0 1)) : p_X12_queue m g f M Q := by
  obtain ⟨n1, n2, n3, n4, n5, n6⟩ := id hN
  unfold p_X12_queue p_X12_pairAt
  intro M2 e2; subst e2
  have h' : yDR (m + 2) (xw M m 0 0) A := yDR_o h (by omega)
  refine s_noG hN h' xw_s (fun g0 g1 => ⟨fun q => absurd rfl q, fun _ => ?_⟩) (fun q => ⟨fun _ => h2 q, fun q => absurd q (by decide)⟩)
  refine s_noF hN h' xw_s (fun f0 f1 => ⟨fun _ => ?_, fun q => absurd rfl q⟩) (fun q => ⟨fun q => absurd q (by decide), fun _ => h3 g0 g1 q⟩)
  dsimp only
  rw [yQd_n h' (by omega) (by omega)]
  exact ⟨⟨by omega, by omega⟩, ⟨by omega, by omega⟩, ⟨by omega, by omega⟩, ⟨by omega, by omega⟩, ⟨by omega, by omega⟩, ⟨by omega, by omega⟩, h1 g0 g1 f0 f1⟩
theorem s_X12_gateOf (h : yDR (m + 2) M A) (hI : yI A) (p0 : 0 ≤ p) (p1 : p < yS A 3) (hs : yS A (84 + 9 * p) ≤ 2) (hq : Q (yGt A p) M) : p_X12_gateOf m p M Q := by
  obtain ⟨n1, n2, n3, n4, n5, n6⟩ := id hI.1.1
  have h4 := hI.1.2.2.2.1 p p0 p1
  have h3 := hI.2.2.1 p p0 p1
  have h5 := hI.1.2.2.1 _ h4.1 h4.2.1
  have h6 := h3.2.2.2.2.1 hs
  unfold p_X12_gateOf p_X12_packetAt
  dsimp only
  rw [yDa h (show 81 + 9 * p + 0 = 81 + 9 * p by omega) (by unfold yG; omega), yDa h (show 81 + 9 * p + 4 = 85 + 9 * p by omega) (by unfold yG; omega)]
  refine ⟨⟨by omega, by omega⟩, ⟨by omega, by omega⟩, ⟨by omega, by omega⟩, ⟨by omega, by omega⟩, ⟨by omega, by omega⟩, ⟨by omega, by omega⟩, ⟨by omega, by omega⟩, ⟨by omega, by omega⟩, ⟨by omega, by omega⟩, ?_⟩
  refine s_X12_ofFlow h h4.1 (by omega) (by omega) (by omega) ?_
  unfold yGt at hq
  rw [show 33 + 8 * yS A (81 + 9 * p) + (4 + yS A (85 + 9 * p)) = 37 + 8 * yS A (81 + 9 * p) + yS A (85 + 9 * p) by omega]; exact hq
theorem s_X12_toldPacket (h : yDR (m + 2) M A) (hI : yI A) (p0 : 0 ≤ p) (p1 : p < yS A 3) (w0 : 0 ≤ w) (w1 : w ≤ 6) (hq : Q (yAp A p w) M) : p_X12_toldPacket m p w M Q := by
  obtain ⟨n1, n2, n3, n4, n5, n6⟩ := id hI.1.1
  unfold yAp at hq
  unfold p_X12_toldPacket p_X12_packetAt
  dsimp only
  rw [yDa h (show 81 + 9 * p + 3 = 84 + 9 * p by omega) (by unfold yG; omega)]
  refine ⟨⟨by omega, by omega⟩, ⟨by omega, by omega⟩, ⟨by omega, by omega⟩, ⟨by omega, by omega⟩, fun z ez => ?_⟩
  subst ez
  refine ⟨fun q => ?_, fun q => ?_⟩
  · rw [if_pos q] at hq
    refine ⟨fun r => ?_, fun r => ⟨fun s => ?_, fun s => ?_⟩⟩
    · rw [if_pos (Or.inl r)] at hq; exact s_X12_gateOf h hI p0 p1 (by omega) hq
    · rw [if_neg (by omega)] at hq; exact hq
    · rw [if_pos (Or.inr s)] at hq; exact s_X12_gateOf h hI p0 p1 (by omega) hq
  · rw [if_neg q] at hq
    rw [h.1 (81 + 9 * p + w) (by unfold yG; omega)]
    exact ⟨⟨by omega, by omega⟩, ⟨by omega, by omega⟩, ⟨by omega, by omega⟩, ⟨by omega, by omega⟩, hq⟩
theorem s_X12_packet (h : yDR (m + 2) M A) (hI : yI A) (h1 : 0 ≤ p → p < yS A 3 → 0 ≤ w → w ≤ 6 → Q (yAp A p w) (xw M m 0 0)) (h2 : ¬ (0 ≤ p ∧ p < yS A 3) → Q 0 (xw (xw M m 0 0) m 0 1)) (h3 : 0 ≤ p → p < yS A 3 → ¬ (0 ≤ w ∧ w ≤ 6) → Q 0 (xw (xw M m 0 0) m 0 2)) : p_X12_packet m p w M Q := by
  unfold p_X12_packet
  intro M2 e2; subst e2
  have h' : yDR (m + 2) (xw M m 0 0) A := yDR_o h (by omega)
  refine s_noP hI.1.1 h' xw_s (fun g0 g1 => ⟨fun q => absurd rfl q, fun _ => ?_⟩) (fun q => ⟨fun _ => h2 q, fun q => absurd q (by decide)⟩)
  refine s_noN xw_s (fun w0 w1 => ⟨fun _ => ?_, fun q => absurd rfl q⟩) (fun q => ⟨fun q => absurd q (by decide), fun _ => h3 g0 g1 q⟩)
  exact s_X12_toldPacket h' hI g0 g1 w0 w1 (h1 g0 g1 w0 w1)
theorem yDR_cp {b : Nat} (h : yDR b M A) (p0 : 0 ≤ p) (p1 : p < ((yC A).length : Int)) (w0 : 0 ≤ w) (w1 : w ≤ 3) : M b (441 + 4 * p + w).toNat = yAc A p w := by
  obtain ⟨v, hv⟩ : ∃ v, (yC A)[p.toNat]? = some v := ⟨_, List.getElem?_eq_getElem (by omega)⟩
  obtain ⟨e0, e1, e2, e3⟩ := h.2.1.2 p.toNat v hv
  unfold yAc
  rw [hv]
  dsimp only
  have : w = 0 ∨ w = 1 ∨ w = 2 ∨ w = 3 := by omega
  rcases this with rfl | rfl | rfl | rfl
  · rw [show (441 + 4 * p + 0).toNat = 441 + 4 * p.toNat by omega]; exact e0
  · rw [show (441 + 4 * p + 1).toNat = 442 + 4 * p.toNat by omega]; exact e1
  · rw [show (441 + 4 * p + 2).toNat = 443 + 4 * p.toNat by omega]; exact e2
  · rw [show (441 + 4 * p + 3).toNat = 444 + 4 * p.toNat by omega]; exact e3
theorem s_X12_coupon (h : yDR (m + 2) M A) (hC : (yC A).length ≤ 30) (h1 : 0 ≤ p → p < ((yC A).length : Int) → 0 ≤ w → w ≤ 3 → Q (yAc A p w) (xw M m 0 0)) (h2 : ¬ (0 ≤ p ∧ p < ((yC A).length : Int)) → Q 0 (xw (xw M m 0 0) m 0 1)) (h3 : 0 ≤ p → p < ((yC A).length : Int) → ¬ (0 ≤ w ∧ w ≤ 3) → Q 0 (xw (xw M m 0 0) m 0 2)) : p_X12_coupon m p w M Q := by
  unfold p_X12_coupon p_X12_couponAt
  intro M2 e2; subst e2
  have h' : yDR (m + 2) (xw M m 0 0) A := yDR_o h (by omega)
  refine s_noC hC h' xw_s (fun g0 g1 => ⟨fun q => absurd rfl q, fun _ => ?_⟩) (fun q => ⟨fun _ => h2 q, fun q => absurd q (by decide)⟩)
  refine s_noN xw_s (fun w0 w1 => ⟨fun _ => ?_, fun q => absurd rfl q⟩) (fun q => ⟨fun q => absurd q (by decide), fun _ => h3 g0 g1 q⟩)
  dsimp only
  rw [yDR_cp h' g0 g1 w0 w1]
  exact ⟨⟨by omega, by omega⟩, ⟨by omega, by omega⟩, ⟨by omega, by omega⟩, ⟨by omega, by omega⟩, h1 g0 g1 w0 w1⟩
theorem s_X12_loadOver (hF : 50 ≤ F) (h : yDR (m + 2) M A) (hI : yI A) (h1 : 0 ≤ g → g < yS A 1 → 0 ≤ f → f < yS A 2 → 1 ≤ T → T ≤ 999 → Q (yGb g f T (yP A) (yP A) 0) (xw M m 0 0)) (h2 : ¬ (0 ≤ g ∧ g < yS A 1) → Q 0 (xw (xw M m 0 0) m 0 1)) (h3 : 0 ≤ g → g < yS A 1 → ¬ (0 ≤ f ∧ f < yS A 2) → Q 0 (xw (xw M m 0 0) m 0 1)) (h4 : 0 ≤ g → g < yS A 1 → 0 ≤ f → f < yS A 2 → ¬ (1 ≤ T ∧ T ≤ 999) → Q 0 (xw (xw M m 0 0) m 0 2)) : p_X12_loadOver F m g f T M Q := by
  unfold p_X12_loadOver
  intro M2 e2; subst e2
  have h' : yDR (m + 2) (xw M m 0 0) A := yDR_o h (by omega)
  refine s_noG hI.1.1 h' xw_s (fun g0 g1 => ⟨fun q => absurd rfl q, fun _ => ?_⟩) (fun q => ⟨fun _ => h2 q, fun q => absurd q (by decide)⟩)
  refine s_noF hI.1.1 h' xw_s (fun f0 f1 => ⟨fun q => absurd rfl q, fun _ => ?_⟩) (fun q => ⟨fun _ => h3 g0 g1 q, fun q => absurd q (by decide)⟩)
  refine s_noN xw_s (fun w0 w1 => ⟨fun _ => ?_, fun q => absurd rfl q⟩) (fun q => ⟨fun q => absurd q (by decide), fun _ => h4 g0 g1 f0 f1 q⟩)
  exact s_X12_loadOver_41 hF h'.2.2.1 hI.2.2.2.2.2.1.2 hI.2.2.2.2.2.1.1 ⟨by omega, by omega⟩ (yP A) [] F 0 rfl (by have := hI.2.2.2.2.2.1.1; omega) (h1 g0 g1 f0 f1 w0 w1)
theorem s_X12_curve (h : yDR (m + 2) M A) (hN : yN A) (hr : 0 ≤ g → g < yS A 1 → 1 ≤ T → T ≤ 999 → xR (yS A (15 + 3 * g) * T) ∧ xR (yS A (16 + 3 * g) + yS A (15 + 3 * g) * T)) (h1 : 0 ≤ g → g < yS A 1 → 1 ≤ T → T ≤ 999 → Q (yS A (16 + 3 * g) + yS A (15 + 3 * g) * T) (xw M m 0 0)) (h2 : ¬ (0 ≤ g ∧ g < yS A 1) → Q 0 (xw (xw M m 0 0) m 0 1)) (h3 : 0 ≤ g → g < yS A 1 → ¬ (1 ≤ T ∧ T ≤ 999) → Q 0 (xw (xw M m 0 0) m 0 2)) : p_X12_curve m g T M Q := by
  obtain ⟨n1, n2, n3, n4, n5, n6⟩ := id hN
  unfold p_X12_curve
  intro M2 e2; subst e2
  have h' : yDR (m + 2) (xw M m 0 0) A := yDR_o h (by omega)
  refine s_noG hN h' xw_s (fun g0 g1 => ⟨fun q => absurd rfl q, fun _ => ?_⟩) (fun q => ⟨fun _ => h2 q, fun q => absurd q (by decide)⟩)
  refine s_noN xw_s (fun w0 w1 => ⟨fun _ => ?_, fun q => absurd rfl q⟩) (fun q => ⟨fun q => absurd q (by decide), fun _ => h3 g0 g1 q⟩)
  refine s_X12_ofGate h' g0 (by omega) (by decide) (by decide) ?_
  refine s_X12_ofGate h' g0 (by omega) (by decide) (by decide) ?_
  rw [show 15 + 3 * g + 1 = 16 + 3 * g by omega, show 15 + 3 * g + 0 = 15 + 3 * g by omega]
  have := hr g0 g1 w0 w1
  exact ⟨this.1, this.2, h1 g0 g1 w0 w1⟩
end YMA
