/-! LAYER 2, load: a statement, all statements -/
section ZSS
variable {b : Nat → Int} {n x m F N many : Nat} {B M M' : xMe} {s s' : zS} {Q : xMe → Prop} {R : Int → xMe → Prop} {d g k v th z9 : Int} {A A' : yA}
theorem zw567 (p : Nat) : (zIw b n 5 p → ¬ zIw b n 6 p) ∧ (zIw b n 5 p → ¬ zIw b n 7 p) ∧ (zIw b n 6 p → ¬ zIw b n 7 p) := by
  have l5 : xSl 5 = 3 := by decide
  have l6 : xSl 6 = 6 := by decide
  have l7 : xSl 7 = 5 := by decide
  refine ⟨fun a c => ?_, fun a c => ?_, fun a c => ?_⟩
  · have := a.2.1; have := c.2.1; omega
  · have := a.2.1; have := c.2.1; omega
  · have := a.2.1; have := c.2.1; omega
theorem zS_c (hn : n ≤ 700) (hF : 702 ≤ F) (h0 : s.e = 0) (h : zC b n x B s M) (c1 : zIw b n 1 s.p → p_X8_readGate F (x + 1) M Q) (c2 : ¬ zIw b n 1 s.p → zIw b n 2 s.p → p_X8_readFlow F (x + 1) M Q) (c3 : ¬ zIw b n 1 s.p → ¬ zIw b n 2 s.p → zIw b n 3 s.p → p_X8_readPacket F (x + 1) M Q) (c4 : ¬ zIw b n 1 s.p → ¬ zIw b n 2 s.p → ¬ zIw b n 3 s.p → zIw b n 4 s.p → p_X8_readCoupon F (x + 1) M Q) (c5 : ¬ zIw b n 1 s.p → ¬ zIw b n 2 s.p → ¬ zIw b n 3 s.p → ¬ zIw b n 4 s.p → zIw b n 5 s.p → (s.u.1 ≠ 0 → p_X8_fail (x + 1) (-2) M Q) ∧ (s.u.1 = 0 → zCfe F (x + 1) M Q)) (c6 : ¬ zIw b n 1 s.p → ¬ zIw b n 2 s.p → ¬ zIw b n 3 s.p → ¬ zIw b n 4 s.p → ¬ zIw b n 5 s.p → zIw b n 6 s.p → (s.u.2.1 ≠ 0 → p_X8_fail (x + 1) (-2) M Q) ∧ (s.u.2.1 = 0 → zCre F (x + 1) M Q)) (c7 : ¬ zIw b n 1 s.p → ¬ zIw b n 2 s.p → ¬ zIw b n 3 s.p → ¬ zIw b n 4 s.p → ¬ zIw b n 5 s.p → ¬ zIw b n 6 s.p → zIw b n 7 s.p → (s.u.2.2 ≠ 0 → p_X8_fail (x + 1) (-2) M Q) ∧ (s.u.2.2 = 0 → zCpr F (x + 1) M Q)) (c8 : ¬ zIw b n 1 s.p → ¬ zIw b n 2 s.p → ¬ zIw b n 3 s.p → ¬ zIw b n 4 s.p → ¬ zIw b n 5 s.p → ¬ zIw b n 6 s.p → ¬ zIw b n 7 s.p → p_X8_fail (x + 1) (-2) M Q) : p_X8_readStatement F (x + 1) M Q := by
  obtain ⟨w0, w1, w2, w3, w4, w5, w6, w7, w8, w9, w10, w11⟩ := zw0
  obtain ⟨d1, d2, d3⟩ := zw567 (b := b) (n := n) s.p
  obtain ⟨o6, o7, o8⟩ := (h.2.2.2.2.2 h0).2.2.2.2.2.1
  unfold p_X8_readStatement
  refine zC_isw hn hF w1 h0 h (fun q1 => ⟨fun q => absurd q (by decide), fun _ => c1 q1⟩) (fun q1 => ⟨fun _ => ?_, fun q => absurd rfl q⟩)
  refine zC_isw hn hF w2 h0 h (fun q2 => ⟨fun q => absurd q (by decide), fun _ => c2 q1 q2⟩) (fun q2 => ⟨fun _ => ?_, fun q => absurd rfl q⟩)
  refine zC_isw hn hF w3 h0 h (fun q3 => ⟨fun q => absurd q (by decide), fun _ => c3 q1 q2 q3⟩) (fun q3 => ⟨fun _ => ?_, fun q => absurd rfl q⟩)
  refine zC_isw hn hF w4 h0 h (fun q4 => ⟨fun q => absurd q (by decide), fun _ => c4 q1 q2 q3 q4⟩) (fun q4 => ⟨fun _ => ?_, fun q => absurd rfl q⟩)
  refine zC_isw hn hF w5 h0 h (fun q5 => ⟨fun q => absurd q (by decide), fun _ => ⟨fun r => ?_, fun r => (c5 q1 q2 q3 q4 q5).2 (o6.symm.trans r)⟩⟩) (fun q5 => ⟨fun _ => ?_, fun q => absurd rfl q⟩)
  · have ff := (c5 q1 q2 q3 q4 q5).1 (fun t => r (o6.trans t))
    refine zC_isw hn hF w6 h0 h (fun q => absurd q (d1 q5)) (fun _ => ⟨fun _ => ?_, fun q => absurd rfl q⟩)
    exact zC_isw hn hF w7 h0 h (fun q => absurd q (d2 q5)) (fun _ => ⟨fun _ => ff, fun q => absurd rfl q⟩)
  refine zC_isw hn hF w6 h0 h (fun q6 => ⟨fun q => absurd q (by decide), fun _ => ⟨fun r => ?_, fun r => (c6 q1 q2 q3 q4 q5 q6).2 (o7.symm.trans r)⟩⟩) (fun q6 => ⟨fun _ => ?_, fun q => absurd rfl q⟩)
  · have ff := (c6 q1 q2 q3 q4 q5 q6).1 (fun t => r (o7.trans t))
    exact zC_isw hn hF w7 h0 h (fun q => absurd q (d3 q6)) (fun _ => ⟨fun _ => ff, fun q => absurd rfl q⟩)
  refine zC_isw hn hF w7 h0 h (fun q7 => ⟨fun q => absurd q (by decide), fun _ => ⟨fun r => (c7 q1 q2 q3 q4 q5 q6 q7).1 (fun t => r (o8.trans t)), fun r => (c7 q1 q2 q3 q4 q5 q6 q7).2 (o8.symm.trans r)⟩⟩) (fun q7 => ⟨fun _ => c8 q1 q2 q3 q4 q5 q6 q7, fun q => absurd rfl q⟩)
theorem zT_G (h : zT n s) : zT n (zG b n s) := ⟨znx_le h.1, h.2.1, h.2.2.1, Nat.le_trans h.2.2.2.1 znx_ge, h.2.2.2.2⟩
end ZSS
