/-! LAYER 2, load: a statement, all statements -/
section ZSS
variable {b : Nat → Int} {n x m F N many : Nat} {B M M' : xMe} {s s' : zS} {Q : xMe → Prop} {R : Int → xMe → Prop} {d g k v th z9 : Int} {A A' : yA}
theorem zw567 (p : Nat) : (zIw b n 5 p → ¬ zIw b n 6 p) ∧ (zIw b n 5 p → ¬ zIw b n 7 p) ∧ (zIw b n 6 p → ¬ zIw b n 7 p) := by
  have l5 : xSl 5 = 3 := by decide
  have l6 : xSl 6 = 6 := by decide
  have l7 : xSl 7 = 5 := by decide
  refine ⟨fun a c => ?_, fun a c => ?_, fun a c => ?_⟩
  · have := a.2.1; have := c.2.1; omega
  · have := a.2.1; have := c.2.1; omega
  · have := a.2.1; have := c.2.1; omega
theorem zS_c (hn : n ≤ 700) (hF : 702 ≤ F) (h0 : s.e = 0) (h : zC b n x B s M) (c1 : zIw b n 1 s.p → p_X8_readGate F (x + 1) M Q) (c2 : ¬ zIw b n 1 s.p → zIw b n 2 s.p → p_X8_readFlow F (x + 1) M Q) (c3 : ¬ zIw b n 1 s.p → ¬ zIw b n 2 s.p → zIw b n 3 s.p → p_X8_readPacket F (x + 1) M Q) (c4 : ¬ zIw b n 1 s.p → ¬ zIw b n 2 s.p → ¬ zIw b n 3 s.p → zIw b n 4 s.p → p_X8_readCoupon F (x + 1) M Q) (c5 : ¬ zIw b n 1 s.p → ¬ zIw b n 2 s.p → ¬ zIw b n 3 s.p → ¬ zIw b n 4 s.p → zIw b n 5 s.p → (s.u.1 ≠ 0 → p_X8_fail (x + 1) (-2) M Q) ∧ (s.u.1 = 0 → zCfe F (x + 1) M Q)) (c6 : ¬ zIw b n 1 s.p → ¬ zIw b n 2 s.p → ¬ zIw b n 3 s.p → ¬ zIw b n 4 s.p → ¬ zIw b n 5 s.p → zIw b n 6 s.p → (s.u.2.1 ≠ 0 → p_X8_fail (x + 1) (-2) M Q) ∧ (s.u.2.1 = 0 → zCre F (x + 1) M Q)) (c7 : ¬ zIw b n 1 s.p → ¬ zIw b n 2 s.p → ¬ zIw b n 3 s.p → ¬ zIw b n 4 s.p → ¬ zIw b n 5 s.p → ¬ zIw b n 6 s.p → zIw b n 7 s.p → (s.u.2.2 ≠ 0 → p_X8_fail (x + 1) (-2) M Q) ∧ (s.u.2.2 = 0 → zCpr F (x + 1) M Q)) (c8 : ¬ zIw b n 1 s.p → ¬ zIw b n 2 s.p → ¬ zIw b n 3 s.p → ¬ zIw b n 4 s.p → ¬ zIw b n 5 s.p → ¬ zIw b n 6 s.p → ¬ zIw b n 7 s.p → p_X8_fail (x + 1) (-2) M Q) : p_X8_readStatement F (x + 1) M Q := by
  obtain ⟨w0, w1, w2, w3, w4, w5, w6, w7, w8, w9, w10, w11⟩ := zw0
  obtain ⟨d1, d2, d3⟩ := zw567 (b := b) (n := n) s.p
  obtain ⟨o6, o7, o8⟩ := (h.2.2.2.2.2 h0).2.2.2.2.2.1
  unfold p_X8_readStatement
  refine zC_isw hn hF w1 h0 h (fun q1 => ⟨fun q => absurd q (by decide), fun _ => c1 q1⟩) (fun q1 => ⟨fun _ => ?_, fun q => absurd rfl q⟩)
  refine zC_isw hn hF w2 h0 h (fun q2 => ⟨fun q => absurd q (by decide), fun _ => c2 q1 q2⟩) (fun q2 => ⟨fun _ => ?_, fun q => absurd rfl q⟩)
  refine zC_isw hn hF w3 h0 h (fun q3 => ⟨fun q => absurd q (by decide), fun _ => c3 q1 q2 q3⟩) (fun q3 => ⟨fun _ => ?_, fun q => absurd rfl q⟩)
  refine zC_isw hn hF w4 h0 h (fun q4 => ⟨fun q => absurd q (by decide), fun _ => c4 q1 q2 q3 q4⟩) (fun q4 => ⟨fun _ => ?_, fun q => absurd rfl q⟩)
  refine zC_isw hn hF w5 h0 h (fun q5 => ⟨fun q => absurd q (by decide), fun _ => ⟨fun r => ?_, fun r => (c5 q1 q2 q3 q4 q5).2 (o6.symm.trans r)⟩⟩) (fun q5 => ⟨fun _ => ?_, fun q => absurd rfl q⟩)
  · have ff := (c5 q1 q2 q3 q4 q5).1 (fun t => r (o6.trans t))
    refine zC_isw hn hF w6 h0 h (fun q => absurd q (d1 q5)) (fun _ => ⟨fun _ => ?_, fun q => absurd rfl q⟩)
    exact zC_isw hn hF w7 h0 h (fun q => absurd q (d2 q5)) (fun _ => ⟨fun _ => ff, fun q => absurd rfl q⟩)
  refine zC_isw hn hF w6 h0 h (fun q6 => ⟨fun q => absurd q (by decide), fun _ => ⟨fun r => ?_, fun r => (c6 q1 q2 q3 q4 q5 q6).2 (o7.symm.trans r)⟩⟩) (fun q6 => ⟨fun _ => ?_, fun q => absurd rfl q⟩)
  · have ff := (c6 q1 q2 q3 q4 q5 q6).1 (fun t => r (o7.trans t))
    exact zC_isw hn hF w7 h0 h (fun q => absurd q (d3 q6)) (fun _ => ⟨fun _ => ff, fun q => absurd rfl q⟩)
  refine zC_isw hn hF w7 h0 h (fun q7 => ⟨fun q => absurd q (by decide), fun _ => ⟨fun r => (c7 q1 q2 q3 q4 q5 q6 q7).1 (fun t => r (o8.trans t)), fun r => (c7 q1 q2 q3 q4 q5 q6 q7).2 (o8.symm.trans r)⟩⟩) (fun q7 => ⟨fun _ => c8 q1 q2 q3 q4 q5 q6 q7, fun q => absurd rfl q⟩)
theorem zS_m (hn : n ≤ 700) (hF : 702 ≤ F) (h0 : s.e = 0) (h : zM b n m B d s M) (c1 : zIw b n 1 s.p → ∀ M', zM b n m B d (zG b n s) M' → p_X12_readGate F m (s.p : Int) M' (fun M21 => p_X12_expect F m 59 M21 (fun M197 => Q M197))) (c2 : ¬ zIw b n 1 s.p → zIw b n 2 s.p → ∀ M', zM b n m B d (zG b n s) M' → p_X12_readFlow F m (s.p : Int) M' (fun M21 => p_X12_expect F m 59 M21 (fun M197 => Q M197))) (c3 : ¬ zIw b n 1 s.p → ¬ zIw b n 2 s.p → zIw b n 3 s.p → ∀ M', zM b n m B d (zG b n s) M' → p_X12_readPacket F m (s.p : Int) M' (fun M21 => p_X12_expect F m 59 M21 (fun M197 => Q M197))) (c4 : ¬ zIw b n 1 s.p → ¬ zIw b n 2 s.p → ¬ zIw b n 3 s.p → zIw b n 4 s.p → ∀ M', zM b n m B d (zG b n s) M' → p_X12_readCoupon F m (s.p : Int) M' (fun M21 => p_X12_expect F m 59 M21 (fun M197 => Q M197))) (c5 : ¬ zIw b n 1 s.p → ¬ zIw b n 2 s.p → ¬ zIw b n 3 s.p → ¬ zIw b n 4 s.p → zIw b n 5 s.p → ∀ M', zM b n m B d (zG b n s) M' → zMfe F m (s.p : Int) M' Q) (c6 : ¬ zIw b n 1 s.p → ¬ zIw b n 2 s.p → ¬ zIw b n 3 s.p → ¬ zIw b n 4 s.p → ¬ zIw b n 5 s.p → zIw b n 6 s.p → ∀ M', zM b n m B d (zG b n s) M' → zMre F m (s.p : Int) M' Q) (c7 : ¬ zIw b n 1 s.p → ¬ zIw b n 2 s.p → ¬ zIw b n 3 s.p → ¬ zIw b n 4 s.p → ¬ zIw b n 5 s.p → ¬ zIw b n 6 s.p → zIw b n 7 s.p → ∀ M', zM b n m B d (zG b n s) M' → zMpr F m (s.p : Int) M' Q) (c8 : ¬ zIw b n 1 s.p → ¬ zIw b n 2 s.p → ¬ zIw b n 3 s.p → ¬ zIw b n 4 s.p → ¬ zIw b n 5 s.p → ¬ zIw b n 6 s.p → ¬ zIw b n 7 s.p → ∀ M', zM b n m B d s M' → p_X12_report m (-2) (s.p : Int) M' (fun M191 => p_X12_expect F m 59 M191 (fun M197 => Q M197))) : p_X12_statement F m M Q := by
  obtain ⟨w0, w1, w2, w3, w4, w5, w6, w7, w8, w9, w10, w11⟩ := zw0
  unfold p_X12_statement
  refine zM_next hn hF h0 h (fun M1 h1 k1 z ez => ?_)
  rw [ez.trans k1]
  refine zM_tw hn hF w1 h1 (fun q => absurd h0 q) (fun _ q1 M2 h2 => ⟨fun q => absurd q (by decide), fun _ => c1 q1 M2 h2⟩) (fun _ q1 M2 h2 => ⟨fun _ => ?_, fun q => absurd rfl q⟩)
  refine zM_tw hn hF w2 h2 (fun q => absurd h0 q) (fun _ q2 M3 h3 => ⟨fun q => absurd q (by decide), fun _ => c2 q1 q2 M3 h3⟩) (fun _ q2 M3 h3 => ⟨fun _ => ?_, fun q => absurd rfl q⟩)
  refine zM_tw hn hF w3 h3 (fun q => absurd h0 q) (fun _ q3 M4 h4 => ⟨fun q => absurd q (by decide), fun _ => c3 q1 q2 q3 M4 h4⟩) (fun _ q3 M4 h4 => ⟨fun _ => ?_, fun q => absurd rfl q⟩)
  refine zM_tw hn hF w4 h4 (fun q => absurd h0 q) (fun _ q4 M5 h5 => ⟨fun q => absurd q (by decide), fun _ => c4 q1 q2 q3 q4 M5 h5⟩) (fun _ q4 M5 h5 => ⟨fun _ => ?_, fun q => absurd rfl q⟩)
  refine zM_tw hn hF w5 h5 (fun q => absurd h0 q) (fun _ q5 M6 h6 => ⟨fun q => absurd q (by decide), fun _ => c5 q1 q2 q3 q4 q5 M6 h6⟩) (fun _ q5 M6 h6 => ⟨fun _ => ?_, fun q => absurd rfl q⟩)
  refine zM_tw hn hF w6 h6 (fun q => absurd h0 q) (fun _ q6 M7 h7 => ⟨fun q => absurd q (by decide), fun _ => c6 q1 q2 q3 q4 q5 q6 M7 h7⟩) (fun _ q6 M7 h7 => ⟨fun _ => ?_, fun q => absurd rfl q⟩)
  refine zM_tw hn hF w7 h7 (fun q => absurd h0 q) (fun _ q7 M8 h8 => ⟨fun q => absurd q (by decide), fun _ => c7 q1 q2 q3 q4 q5 q6 q7 M8 h8⟩) (fun _ q7 M8 h8 => ⟨fun _ => c8 q1 q2 q3 q4 q5 q6 q7 M8 h8, fun q => absurd rfl q⟩)
theorem z_st1 (hn : n ≤ 700) (hF : 702 ≤ F) (hb : ∀ j, j < n → 0 ≤ b j ∧ b j ≤ 255) (h0 : s.e = 0) (hT : zT n s) (hp : s.p < n) : ∃ s', zTo n s s' ∧ (∀ (B M : xMe) (Q : xMe → Prop), zC b n x B s M → (∀ M', zC b n x B s' M' → Q M') → p_X8_readStatement F (x + 1) M Q) ∧ (∀ (B M : xMe) (Q : xMe → Prop), zM b n m B 0 s M → (∀ M', zM b n m B 0 s' M' → p_X12_expect F m 59 M' (fun M197 => Q M197)) → p_X12_statement F m M Q) := by
  by_cases q1 : zIw b n 1 s.p
  · obtain ⟨s1, f1, f2, f3⟩ := z_gate (x := x) (m := m) hn hF hb h0 hT hp
    exact ⟨s1, f1, fun B M Q h hq => zS_c hn hF h0 h (fun _ => f2 B M Q h hq) (fun q => absurd q1 q) (fun q => absurd q1 q) (fun q => absurd q1 q) (fun q => absurd q1 q) (fun q => absurd q1 q) (fun q => absurd q1 q) (fun q => absurd q1 q), fun B M Q h hq => zS_m hn hF h0 h (fun _ M' h' => f3 B 0 M' _ h' hq) (fun q => absurd q1 q) (fun q => absurd q1 q) (fun q => absurd q1 q) (fun q => absurd q1 q) (fun q => absurd q1 q) (fun q => absurd q1 q) (fun q => absurd q1 q)⟩
  by_cases q2 : zIw b n 2 s.p
  · obtain ⟨s1, f1, f2, f3⟩ := z_flow (x := x) (m := m) hn hF hb h0 hT hp
    exact ⟨s1, f1, fun B M Q h hq => zS_c hn hF h0 h (fun q => absurd q q1) (fun _ _ => f2 B M Q h hq) (fun _ q => absurd q2 q) (fun _ q => absurd q2 q) (fun _ q => absurd q2 q) (fun _ q => absurd q2 q) (fun _ q => absurd q2 q) (fun _ q => absurd q2 q), fun B M Q h hq => zS_m hn hF h0 h (fun q => absurd q q1) (fun _ _ M' h' => f3 B 0 M' _ h' hq) (fun _ q => absurd q2 q) (fun _ q => absurd q2 q) (fun _ q => absurd q2 q) (fun _ q => absurd q2 q) (fun _ q => absurd q2 q) (fun _ q => absurd q2 q)⟩
  by_cases q3 : zIw b n 3 s.p
  · obtain ⟨s1, f1, f2, f3⟩ := z_packet (x := x) (m := m) hn hF hb h0 hT hp
    exact ⟨s1, f1, fun B M Q h hq => zS_c hn hF h0 h (fun q => absurd q q1) (fun _ q => absurd q q2) (fun _ _ _ => f2 B M Q h hq) (fun _ _ q => absurd q3 q) (fun _ _ q => absurd q3 q) (fun _ _ q => absurd q3 q) (fun _ _ q => absurd q3 q) (fun _ _ q => absurd q3 q), fun B M Q h hq => zS_m hn hF h0 h (fun q => absurd q q1) (fun _ q => absurd q q2) (fun _ _ _ M' h' => f3 B 0 M' _ h' hq) (fun _ _ q => absurd q3 q) (fun _ _ q => absurd q3 q) (fun _ _ q => absurd q3 q) (fun _ _ q => absurd q3 q) (fun _ _ q => absurd q3 q)⟩
  by_cases q4 : zIw b n 4 s.p
  · obtain ⟨s1, f1, f2, f3⟩ := z_coupon (x := x) (m := m) hn hF hb h0 hT hp
    exact ⟨s1, f1, fun B M Q h hq => zS_c hn hF h0 h (fun q => absurd q q1) (fun _ q => absurd q q2) (fun _ _ q => absurd q q3) (fun _ _ _ _ => f2 B M Q h hq) (fun _ _ _ q => absurd q4 q) (fun _ _ _ q => absurd q4 q) (fun _ _ _ q => absurd q4 q) (fun _ _ _ q => absurd q4 q), fun B M Q h hq => zS_m hn hF h0 h (fun q => absurd q q1) (fun _ q => absurd q q2) (fun _ _ q => absurd q q3) (fun _ _ _ _ M' h' => f3 B 0 M' _ h' hq) (fun _ _ _ q => absurd q4 q) (fun _ _ _ q => absurd q4 q) (fun _ _ _ q => absurd q4 q) (fun _ _ _ q => absurd q4 q)⟩
  by_cases q5 : zIw b n 5 s.p
  · obtain ⟨s1, f1, f2, f3⟩ := z_fee (x := x) (m := m) hn hF hb h0 hT hp
    exact ⟨s1, f1, fun B M Q h hq => zS_c hn hF h0 h (fun q => absurd q q1) (fun _ q => absurd q q2) (fun _ _ q => absurd q q3) (fun _ _ _ q => absurd q q4) (fun _ _ _ _ _ => f2 B M Q h hq) (fun _ _ _ _ q => absurd q5 q) (fun _ _ _ _ q => absurd q5 q) (fun _ _ _ _ q => absurd q5 q), fun B M Q h hq => zS_m hn hF h0 h (fun q => absurd q q1) (fun _ q => absurd q q2) (fun _ _ q => absurd q q3) (fun _ _ _ q => absurd q q4) (fun _ _ _ _ _ M' h' => f3 B 0 M' _ h' hq) (fun _ _ _ _ q => absurd q5 q) (fun _ _ _ _ q => absurd q5 q) (fun _ _ _ _ q => absurd q5 q)⟩
  by_cases q6 : zIw b n 6 s.p
  · obtain ⟨s1, f1, f2, f3⟩ := z_refund (x := x) (m := m) hn hF hb h0 hT hp
    exact ⟨s1, f1, fun B M Q h hq => zS_c hn hF h0 h (fun q => absurd q q1) (fun _ q => absurd q q2) (fun _ _ q => absurd q q3) (fun _ _ _ q => absurd q q4) (fun _ _ _ _ q => absurd q q5) (fun _ _ _ _ _ _ => f2 B M Q h hq) (fun _ _ _ _ _ q => absurd q6 q) (fun _ _ _ _ _ q => absurd q6 q), fun B M Q h hq => zS_m hn hF h0 h (fun q => absurd q q1) (fun _ q => absurd q q2) (fun _ _ q => absurd q q3) (fun _ _ _ q => absurd q q4) (fun _ _ _ _ q => absurd q q5) (fun _ _ _ _ _ _ M' h' => f3 B 0 M' _ h' hq) (fun _ _ _ _ _ q => absurd q6 q) (fun _ _ _ _ _ q => absurd q6 q)⟩
  by_cases q7 : zIw b n 7 s.p
  · obtain ⟨s1, f1, f2, f3⟩ := z_price (x := x) (m := m) hn hF hb h0 hT hp
    exact ⟨s1, f1, fun B M Q h hq => zS_c hn hF h0 h (fun q => absurd q q1) (fun _ q => absurd q q2) (fun _ _ q => absurd q q3) (fun _ _ _ q => absurd q q4) (fun _ _ _ _ q => absurd q q5) (fun _ _ _ _ _ q => absurd q q6) (fun _ _ _ _ _ _ _ => f2 B M Q h hq) (fun _ _ _ _ _ _ q => absurd q7 q), fun B M Q h hq => zS_m hn hF h0 h (fun q => absurd q q1) (fun _ q => absurd q q2) (fun _ _ q => absurd q q3) (fun _ _ _ q => absurd q q4) (fun _ _ _ _ q => absurd q q5) (fun _ _ _ _ _ q => absurd q q6) (fun _ _ _ _ _ _ _ M' h' => f3 B M' _ h' hq) (fun _ _ _ _ _ _ q => absurd q7 q)⟩
  have z2 : (zE s (-2)).e ≠ 0 := show ¬ ((-2 : Int)) = 0 by decide
  exact ⟨zE s (-2), fun q => absurd q z2, fun B M Q h hq => zS_c hn hF h0 h (fun q => absurd q q1) (fun _ q => absurd q q2) (fun _ _ q => absurd q q3) (fun _ _ _ q => absurd q q4) (fun _ _ _ _ q => absurd q q5) (fun _ _ _ _ _ q => absurd q q6) (fun _ _ _ _ _ _ q => absurd q q7) (fun _ _ _ _ _ _ _ => zC_fail (by decide) h0 h hq), fun B M Q h hq => zS_m hn hF h0 h (fun q => absurd q q1) (fun _ q => absurd q q2) (fun _ _ q => absurd q q3) (fun _ _ _ q => absurd q q4) (fun _ _ _ _ q => absurd q q5) (fun _ _ _ _ _ q => absurd q q6) (fun _ _ _ _ _ _ q => absurd q q7) (fun _ _ _ _ _ _ _ M' h' => zM_rep (by decide) h0 rfl h' (fun M2 h2 _ => hq M2 h2))⟩
/-- a sign, both -/
theorem z_sg {c : Int} (hn : n ≤ 700) (hF : 702 ≤ F) (hc : 0 ≤ c ∧ c < 48 ∨ 58 ≤ c ∧ c < 97) (s : zS) : ∃ s', (s'.e = 0 → s.e = 0 ∧ s' = zG b n s) ∧ (∀ (B M : xMe) (Q : xMe → Prop), zC b n x B s M → (∀ M', zC b n x B s' M' → Q M') → p_X8_takeSign F (x + 1) c M Q) ∧ (∀ (B : xMe) (d : Int) (M : xMe) (Q : xMe → Prop), zM b n m B d s M → (∀ M', zM b n m B d s' M' → Q M') → p_X12_expect F m c M Q) := by
  by_cases e : s.e = 0
  · by_cases k : zkd b n s.p = c
    · exact ⟨zG b n s, fun _ => ⟨e, rfl⟩, fun B M Q h hq => zC_sign hn hF h (fun q => absurd e q) (fun _ _ => hq) (fun _ q => absurd k q), fun B d M Q h hq => zM_sign hn hF hc h (fun q => absurd e q) (fun _ _ => hq) (fun _ q => absurd k q)⟩
    · exact ⟨zE s (-2), fun q => absurd q (show ¬ ((-2 : Int)) = 0 by decide), fun B M Q h hq => zC_sign hn hF h (fun q => absurd e q) (fun _ q => absurd q k) (fun _ _ => hq), fun B d M Q h hq => zM_sign hn hF hc h (fun q => absurd e q) (fun _ q => absurd q k) (fun _ _ => hq)⟩
  · exact ⟨s, fun q => absurd q e, fun B M Q h hq => zC_sign hn hF h (fun _ => hq M h) (fun q => absurd q e) (fun q => absurd q e), fun B d M Q h hq => zM_sign hn hF hc h (fun _ => hq M h) (fun q => absurd q e) (fun q => absurd q e)⟩
theorem zT_G (h : zT n s) : zT n (zG b n s) := ⟨znx_le h.1, h.2.1, h.2.2.1, Nat.le_trans h.2.2.2.1 znx_ge, h.2.2.2.2⟩
theorem z_st (hn : n ≤ 700) (hF : 702 ≤ F) (hb : ∀ j, j < n → 0 ≤ b j ∧ b j ≤ 255) (h0 : s.e = 0) (hT : zT n s) (hp : s.p < n) : ∃ s', zTo n s s' ∧ (∀ (B M : xMe) (Q : xMe → Prop), zC b n x B s M → (∀ M', zC b n x B s' M' → Q M') → p_X8_readStatement F (x + 1) M (fun M102 => p_X8_takeSign F (x + 1) 59 M102 Q)) ∧ (∀ (B M : xMe) (Q : xMe → Prop), zM b n m B 0 s M → (∀ M', zM b n m B 0 s' M' → Q M') → p_X12_statement F m M Q) := by
  obtain ⟨s1, f1, f2, f3⟩ := z_st1 (x := x) (m := m) hn hF hb h0 hT hp
  obtain ⟨s2, g1, g2, g3⟩ := z_sg (b := b) (x := x) (m := m) (c := 59) hn hF (by decide) s1
  refine ⟨s2, fun q => ?_, fun B M Q h hq => f2 B M _ h (fun M1 h1 => g2 B M1 Q h1 hq), fun B M Q h hq => f3 B M _ h (fun M1 h1 => g3 B 0 M1 _ h1 hq)⟩
  obtain ⟨a1, a2⟩ := g1 q
  obtain ⟨c1, c2⟩ := f1 a1
  rw [a2]
  exact ⟨zT_G c1, Nat.lt_of_lt_of_le c2 znx_ge⟩
theorem z_loop (hn : n ≤ 700) (hF : 702 ≤ F) (hb : ∀ j, j < n → 0 ≤ b j ∧ b j ≤ 255) : ∀ (r : Nat) (s : zS), n ≤ r + s.p → (s.e = 0 → zT n s) → ∃ s', (s'.e = 0 → zT n s') ∧ (∀ (B M : xMe) (t : xTh) (Q : xTh → xMe → Prop) (K : xMe → Prop) (k : Nat) (c : Int), zC b n x B s M → n < k + s.p → 0 < k → 0 ≤ c → c < s.p → (∀ M', zC b n x B s' M' → K M') → p_X8_read_76 F (x + 1) t Q K k c M) ∧ (∀ (B M : xMe) (Q : Int → xMe → Prop) (K : xMe → Prop) (k : Nat), zM b n m B 0 s M → n < k + s.p → 0 < k → (∀ M', zM b n m B 0 s' M' → K M') → p_X12_load_99 F m Q K k M) := by
  have er : ∀ s : zS, s.e ≠ 0 → ∃ s', (s'.e = 0 → zT n s') ∧ (∀ (B M : xMe) (t : xTh) (Q : xTh → xMe → Prop) (K : xMe → Prop) (k : Nat) (c : Int), zC b n x B s M → n < k + s.p → 0 < k → 0 ≤ c → c < s.p → (∀ M', zC b n x B s' M' → K M') → p_X8_read_76 F (x + 1) t Q K k c M) ∧ (∀ (B M : xMe) (Q : Int → xMe → Prop) (K : xMe → Prop) (k : Nat), zM b n m B 0 s M → n < k + s.p → 0 < k → (∀ M', zM b n m B 0 s' M' → K M') → p_X12_load_99 F m Q K k M) := fun s e => by
    refine ⟨s, fun q => absurd q e, fun B M t Q K k c h hk k0 c0 c1 hq => ?_, fun B M Q K k h hk k0 hq => ?_⟩
    · obtain ⟨k, rfl⟩ : ∃ k', k = k' + 1 := ⟨k - 1, by omega⟩
      unfold p_X8_read_76
      exact ⟨fun _ => hq M h, fun _ => ⟨fun _ => hq M h, fun q => absurd (h.1.1.symm.trans q) e⟩⟩
    · obtain ⟨k, rfl⟩ : ∃ k', k = k' + 1 := ⟨k - 1, by omega⟩
      unfold p_X12_load_99
      exact zM_good h (fun q => absurd q e) (fun _ => ⟨fun _ => hq M h, fun q => absurd rfl q⟩)
  have fi : ∀ s : zS, s.e = 0 → zT n s → n ≤ s.p → ∃ s', (s'.e = 0 → zT n s') ∧ (∀ (B M : xMe) (t : xTh) (Q : xTh → xMe → Prop) (K : xMe → Prop) (k : Nat) (c : Int), zC b n x B s M → n < k + s.p → 0 < k → 0 ≤ c → c < s.p → (∀ M', zC b n x B s' M' → K M') → p_X8_read_76 F (x + 1) t Q K k c M) ∧ (∀ (B M : xMe) (Q : Int → xMe → Prop) (K : xMe → Prop) (k : Nat), zM b n m B 0 s M → n < k + s.p → 0 < k → (∀ M', zM b n m B 0 s' M' → K M') → p_X12_load_99 F m Q K k M) := fun s e hT' hr => by
    have hp := hT'.1
    have kd : zkd b n s.p = -1 := by unfold zkd; rw [if_pos (by omega)]
    have bd : zBy b n s.p = -1 := by unfold zBy; rw [if_neg (by omega)]
    refine ⟨s, fun _ => hT', fun B M t Q K k c h hk k0 c0 c1 hq => ?_, fun B M Q K k h hk k0 hq => ?_⟩
    · obtain ⟨k, rfl⟩ : ∃ k', k = k' + 1 := ⟨k - 1, by omega⟩
      have e4 : M (x + 1 + 1) 4 = zkd b n s.p := (h.2.2.2.2.2 e).2.1.2.2.1
      unfold p_X8_read_76
      rw [e4]
      exact ⟨fun _ => hq M h, fun _ => ⟨fun _ => hq M h, fun _ => ⟨fun _ => hq M h, fun q => absurd kd q⟩⟩⟩
    · obtain ⟨k, rfl⟩ : ∃ k', k = k' + 1 := ⟨k - 1, by omega⟩
      unfold p_X12_load_99
      exact zM_good h (fun _ => ⟨fun q => absurd q (by decide), fun _ => zM_next hn hF e h (fun M1 h1 _ => ⟨fun _ => hq M1 h1, fun q => absurd bd q⟩)⟩) (fun q => absurd e q)
  intro r
  induction r with
  | zero =>
    intro s hr hT
    by_cases e : s.e = 0
    · exact fi s e (hT e) (by omega)
    · exact er s e
  | succ r ih =>
    intro s hr hT
    by_cases e : s.e = 0
    · have hT' := hT e
      by_cases hp : s.p < n
      · obtain ⟨s1, f1, f2, f3⟩ := z_st (x := x) (m := m) hn hF hb e hT' hp
        have kd : zkd b n s.p ≠ -1 := by
          have := hb s.p hp
          unfold zkd
          rw [if_neg (by omega)]
          split
          · omega
          · split <;> omega
        have bd : zBy b n s.p ≠ -1 := by
          have := hb s.p hp
          unfold zBy; rw [if_pos hp]; omega
        obtain ⟨s', i1, i2, i3⟩ : ∃ s', (s'.e = 0 → zT n s') ∧ (∀ (B M : xMe) (t : xTh) (Q : xTh → xMe → Prop) (K : xMe → Prop) (k : Nat) (c : Int), zC b n x B s1 M → n ≤ k + s.p → 0 < k → 0 ≤ c → c ≤ s.p → (∀ M', zC b n x B s' M' → K M') → p_X8_read_76 F (x + 1) t Q K k c M) ∧ (∀ (B M : xMe) (Q : Int → xMe → Prop) (K : xMe → Prop) (k : Nat), zM b n m B 0 s1 M → n ≤ k + s.p → 0 < k → (∀ M', zM b n m B 0 s' M' → K M') → p_X12_load_99 F m Q K k M) := by
          by_cases e1 : s1.e = 0
          · obtain ⟨a1, a2⟩ := f1 e1
            obtain ⟨s', i1, i2, i3⟩ := ih s1 (by omega) (fun _ => a1)
            exact ⟨s', i1, fun B M t Q K k c h hk k0 c0 c1 hq => i2 B M t Q K k c h (by omega) k0 c0 (by omega) hq, fun B M Q K k h hk k0 hq => i3 B M Q K k h (by omega) k0 hq⟩
          · refine ⟨s1, fun q => absurd q e1, fun B M t Q K k c h hk k0 c0 c1 hq => ?_, fun B M Q K k h hk k0 hq => ?_⟩
            · obtain ⟨k, rfl⟩ : ∃ k', k = k' + 1 := ⟨k - 1, by omega⟩
              unfold p_X8_read_76
              exact ⟨fun _ => hq M h, fun _ => ⟨fun _ => hq M h, fun q => absurd (h.1.1.symm.trans q) e1⟩⟩
            · obtain ⟨k, rfl⟩ : ∃ k', k = k' + 1 := ⟨k - 1, by omega⟩
              unfold p_X12_load_99
              exact zM_good h (fun q => absurd q e1) (fun _ => ⟨fun _ => hq M h, fun q => absurd rfl q⟩)
        refine ⟨s', i1, fun B M t Q K k c h hk k0 c0 c1 hq => ?_, fun B M Q K k h hk k0 hq => ?_⟩
        · obtain ⟨k, rfl⟩ : ∃ k', k = k' + 1 := ⟨k - 1, by omega⟩
          have e4 : M (x + 1 + 1) 4 = zkd b n s.p := (h.2.2.2.2.2 e).2.1.2.2.1
          unfold p_X8_read_76
          rw [e4]
          refine ⟨fun q => by omega, fun _ => ⟨fun q => absurd (h.1.1.trans e) q, fun _ => ⟨fun q => absurd q kd, fun _ => ?_⟩⟩⟩
          exact f2 B M _ h (fun M1 h1 => ⟨⟨by omega, by omega⟩, i2 B M1 t Q K k (c + 1) h1 (by omega) (by omega) (by omega) (by omega) hq⟩)
        · obtain ⟨k, rfl⟩ : ∃ k', k = k' + 1 := ⟨k - 1, by omega⟩
          unfold p_X12_load_99
          refine zM_good h (fun _ => ⟨fun q => absurd q (by decide), fun _ => zM_next hn hF e h (fun M1 h1 _ => ⟨fun q => absurd q bd, fun _ => ?_⟩)⟩) (fun q => absurd e q)
          exact f3 B M1 _ h1 (fun M2 h2 => i3 B M2 Q K k h2 (by omega) (by omega) hq)
      · exact fi s e hT' (by omega)
    · exact er s e
end ZSS
