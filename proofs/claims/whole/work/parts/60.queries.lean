/-! THE CALLS THAT ONLY ANSWER -/
section YQ
variable {x : Nat} {t : xTh} {M : xMe} {p1 p2 p3 : Int}
theorem yJn_get (h : xJn x t M) : ∃ A, yCR (x + 44) M A ∧ yDR (x + 436 + 2) M A ∧ yI A := by
  obtain ⟨D, A, H, h1, -⟩ := h
  exact ⟨A, h1.1.1, h1.2.1, h1.2.2.1.1.1⟩
theorem yOk {v : Int} (h : xJn x t M) : p_X12_thrown (x + 436) (xw (xw M (x + 452) 0 v) (x + 436) 0 0) (fun h M3 => h = 0 ∧ ((0 : Int) = 0 → M3 (x + 452) 0 = v) ∧ xJn x t M3) :=
  ⟨xw_s, fun _ => by rw [xw_b (by omega)]; exact xw_s, xJn_q h rfl (yQf_m (yQf_o yQf_refl))⟩
theorem yTh {k b : Int} {z : Nat} (h : xJn x t M) (hk : k ≠ 0) : p_X12_thrown (x + 436) (xw (xw M (x + 436) 0 0) (x + 436) 0 k) (fun h M3 => h = k ∧ (k = 0 → M3 (x + 452) 0 = b) ∧ xJn x (z, t.2) M3) :=
  ⟨xw_s, fun q => absurd q hk, xJn_q h rfl (yQf_m (yQf_m yQf_refl))⟩
theorem yDo1 {A : yA} {r : Int} (h : yDR (x + 436 + 2) M A) : yDR (x + 436 + 2) (xw M (x + 452) 0 r) A := yDR_o h (by omega)
theorem q1_state {F : Nat} (hF : 50 ≤ F) (hj : xJn x t M) : q_state F t x (x + 436) (x + 452) p1 M (xJn x) := by
  obtain ⟨A, hC, hD, hI⟩ := yJn_get hj
  unfold q_state p_L_state
  refine s_X11_state hF hC hI (fun a b M2 e2 => ?_) (fun q z => ⟨fun _ => ?_, rfl⟩)
  · subst e2; exact s_X12_state (yDo1 hD) (fun _ _ => yOk hj) (fun q => absurd ⟨a, b⟩ q)
  · exact s_X12_state hD (fun a b => absurd ⟨a, b⟩ q) (fun _ => yTh hj (by decide))
theorem q1_gate (hj : xJn x t M) : q_gate t x (x + 436) (x + 452) p1 p2 M (xJn x) := by
  obtain ⟨A, hC, hD, hI⟩ := yJn_get hj
  unfold q_gate p_L_gate
  refine s_X11_gate hC hI.1.1 (fun a b c d M2 e2 => ?_) (fun q z => ⟨fun _ => ?_, fun r => absurd r (by decide), Or.inl rfl⟩) (fun a b q z => ⟨fun r => absurd r (by decide), fun _ => ?_, Or.inr rfl⟩)
  · subst e2; exact s_X12_gate (yDo1 hD) hI.1.1 (fun _ _ _ _ => yOk hj) (fun q => absurd ⟨a, b⟩ q) (fun _ _ q => absurd ⟨c, d⟩ q)
  · exact s_X12_gate hD hI.1.1 (fun a b => absurd ⟨a, b⟩ q) (fun _ => yTh hj (by decide)) (fun a b _ => absurd ⟨a, b⟩ q)
  · exact s_X12_gate hD hI.1.1 (fun _ _ a b => absurd ⟨a, b⟩ q) (fun r => absurd ⟨a, b⟩ r) (fun _ _ _ => yTh hj (by decide))
theorem q1_flow {F K : Nat} (hF : 50 ≤ F) (hK : 50 ≤ K) (hj : xJn x t M) : q_flow F K t x (x + 436) (x + 452) p1 p2 M (xJn x) := by
  obtain ⟨A, hC, hD, hI⟩ := yJn_get hj
  unfold q_flow p_L_flow
  refine s_X11_flow hF hC hI (fun a b c d M2 e2 => ?_) (fun q z => ⟨fun _ => ?_, fun r => absurd r (by decide), Or.inl rfl⟩) (fun a b q z => ⟨fun r => absurd r (by decide), fun _ => ?_, Or.inr rfl⟩)
  · subst e2; exact s_X12_flow hK (yDo1 hD) hI (fun _ _ _ _ => yOk hj) (fun q => absurd ⟨a, b⟩ q) (fun _ _ q => absurd ⟨c, d⟩ q)
  · exact s_X12_flow hK hD hI (fun a b => absurd ⟨a, b⟩ q) (fun _ => yTh hj (by decide)) (fun a b _ => absurd ⟨a, b⟩ q)
  · exact s_X12_flow hK hD hI (fun _ _ a b => absurd ⟨a, b⟩ q) (fun r => absurd ⟨a, b⟩ r) (fun _ _ _ => yTh hj (by decide))
theorem q1_route (hp : xR p2) (hj : xJn x t M) : q_route t x (x + 436) (x + 452) p1 p2 M (xJn x) := by
  obtain ⟨A, hC, hD, hI⟩ := yJn_get hj
  unfold q_route p_L_route
  refine s_X11_route hC hI.1 (fun a b c d M2 e2 => ?_) (fun q z => ⟨fun _ => ?_, fun r => absurd r (by decide), Or.inl rfl⟩) (fun a b q z => ⟨fun r => absurd r (by decide), fun _ => ?_, Or.inr rfl⟩)
  · subst e2; exact s_X12_route (yDo1 hD) hI.1 hp (fun _ _ _ _ => yOk hj) (fun q => absurd ⟨a, b⟩ q) (fun _ _ q => absurd ⟨c, d⟩ q)
  · exact s_X12_route hD hI.1 hp (fun a b => absurd ⟨a, b⟩ q) (fun _ => yTh hj (by decide)) (fun a b _ => absurd ⟨a, b⟩ q)
  · exact s_X12_route hD hI.1 hp (fun _ _ a b => absurd ⟨a, b⟩ q) (fun r => absurd ⟨a, b⟩ r) (fun _ _ _ => yTh hj (by decide))
theorem q1_tokens (hj : xJn x t M) : q_tokens t x (x + 436) (x + 452) p1 p2 M (xJn x) := by
  obtain ⟨A, hC, hD, hI⟩ := yJn_get hj
  unfold q_tokens p_L_tokens
  refine s_X11_tokens hC hI.1.1 (fun a b c d M2 e2 => ?_) (fun q z => ⟨fun _ => ?_, rfl⟩) (fun a b q z => ⟨fun _ => ?_, rfl⟩)
  · subst e2; exact s_X12_tokens (yDo1 hD) hI.1.1 (fun _ _ _ _ => yOk hj) (fun q => absurd ⟨a, b⟩ q) (fun _ _ q => absurd ⟨c, d⟩ q)
  · exact s_X12_tokens hD hI.1.1 (fun a b => absurd ⟨a, b⟩ q) (fun _ => yTh hj (by decide)) (fun a b _ => absurd ⟨a, b⟩ q)
  · exact s_X12_tokens hD hI.1.1 (fun _ _ a b => absurd ⟨a, b⟩ q) (fun r => absurd ⟨a, b⟩ r) (fun _ _ _ => yTh hj (by decide))
theorem q1_queue (hj : xJn x t M) : q_queue t x (x + 436) (x + 452) p1 p2 M (xJn x) := by
  obtain ⟨A, hC, hD, hI⟩ := yJn_get hj
  unfold q_queue p_L_queue
  refine s_X11_queue hC hI.1.1 (fun a b c d M2 e2 => ?_) (fun q z => ⟨fun _ => ?_, rfl⟩) (fun a b q z => ⟨fun _ => ?_, rfl⟩)
  · subst e2; exact s_X12_queue (yDo1 hD) hI.1.1 (fun _ _ _ _ => yOk hj) (fun q => absurd ⟨a, b⟩ q) (fun _ _ q => absurd ⟨c, d⟩ q)
  · exact s_X12_queue hD hI.1.1 (fun a b => absurd ⟨a, b⟩ q) (fun _ => yTh hj (by decide)) (fun a b _ => absurd ⟨a, b⟩ q)
  · exact s_X12_queue hD hI.1.1 (fun _ _ a b => absurd ⟨a, b⟩ q) (fun r => absurd ⟨a, b⟩ r) (fun _ _ _ => yTh hj (by decide))
theorem q1_packet (hj : xJn x t M) : q_packet t x (x + 436) (x + 452) p1 p2 M (xJn x) := by
  obtain ⟨A, hC, hD, hI⟩ := yJn_get hj
  unfold q_packet p_L_packet
  refine s_X11_packet hC hI (fun a b c d M2 e2 => ?_) (fun q z => ⟨fun _ => ?_, fun r => absurd r (by decide), Or.inl rfl⟩) (fun a b q z => ⟨fun r => absurd r (by decide), fun _ => ?_, Or.inr rfl⟩)
  · subst e2; exact s_X12_packet (yDo1 hD) hI (fun _ _ _ _ => yOk hj) (fun q => absurd ⟨a, b⟩ q) (fun _ _ q => absurd ⟨c, d⟩ q)
  · exact s_X12_packet hD hI (fun a b => absurd ⟨a, b⟩ q) (fun _ => yTh hj (by decide)) (fun a b _ => absurd ⟨a, b⟩ q)
  · exact s_X12_packet hD hI (fun _ _ a b => absurd ⟨a, b⟩ q) (fun r => absurd ⟨a, b⟩ r) (fun _ _ _ => yTh hj (by decide))
theorem q1_coupon (hj : xJn x t M) : q_coupon t x (x + 436) (x + 452) p1 p2 M (xJn x) := by
  obtain ⟨A, hC, hD, hI⟩ := yJn_get hj
  unfold q_coupon p_L_coupon
  refine s_X11_coupon hC hI (fun a b c d M2 e2 => ?_) (fun q z => ⟨fun _ => ?_, fun r => absurd r (by decide), Or.inl rfl⟩) (fun a b q z => ⟨fun r => absurd r (by decide), fun _ => ?_, Or.inr rfl⟩)
  · subst e2; exact s_X12_coupon (yDo1 hD) hI.2.2.2.2.1.1 (fun _ _ _ _ => yOk hj) (fun q => absurd ⟨a, b⟩ q) (fun _ _ q => absurd ⟨c, d⟩ q)
  · exact s_X12_coupon hD hI.2.2.2.2.1.1 (fun a b => absurd ⟨a, b⟩ q) (fun _ => yTh hj (by decide)) (fun a b _ => absurd ⟨a, b⟩ q)
  · exact s_X12_coupon hD hI.2.2.2.2.1.1 (fun _ _ a b => absurd ⟨a, b⟩ q) (fun r => absurd ⟨a, b⟩ r) (fun _ _ _ => yTh hj (by decide))
theorem q1_loadOver {F K : Nat} (hF : 50 ≤ F) (hK : 50 ≤ K) (hj : xJn x t M) : q_loadOver F K t x (x + 436) (x + 452) p1 p2 p3 M (xJn x) := by
  obtain ⟨A, hC, hD, hI⟩ := yJn_get hj
  unfold q_loadOver p_L_loadOver
  refine s_X11_loadOver hF hC hI (fun a b c d e f M2 e2 => ?_) (fun q z => ⟨fun _ => ?_, fun r => absurd r (by decide), Or.inl rfl⟩) (fun a b q z => ⟨fun _ => ?_, fun r => absurd r (by decide), Or.inl rfl⟩) (fun a b c d q z => ⟨fun r => absurd r (by decide), fun _ => ?_, Or.inr rfl⟩)
  · subst e2; exact s_X12_loadOver hK (yDo1 hD) hI (fun _ _ _ _ _ _ => yOk hj) (fun q => absurd ⟨a, b⟩ q) (fun _ _ q => absurd ⟨c, d⟩ q) (fun _ _ _ _ q => absurd ⟨e, f⟩ q)
  · exact s_X12_loadOver hK hD hI (fun a b => absurd ⟨a, b⟩ q) (fun _ => yTh hj (by decide)) (fun a b _ => absurd ⟨a, b⟩ q) (fun a b _ => absurd ⟨a, b⟩ q)
  · exact s_X12_loadOver hK hD hI (fun _ _ a b => absurd ⟨a, b⟩ q) (fun r => absurd ⟨a, b⟩ r) (fun _ _ _ => yTh hj (by decide)) (fun _ _ a b _ => absurd ⟨a, b⟩ q)
  · exact s_X12_loadOver hK hD hI (fun _ _ _ _ a b => absurd ⟨a, b⟩ q) (fun r => absurd ⟨a, b⟩ r) (fun _ _ r => absurd ⟨c, d⟩ r) (fun _ _ _ _ _ => yTh hj (by decide))
theorem q1_curve (hj : xJn x t M) : q_curve t x (x + 436) (x + 452) p1 p2 M (xJn x) := by
  obtain ⟨A, hC, hD, hI⟩ := yJn_get hj
  unfold q_curve p_L_curve
  refine s_X11_curve hC hI.1 (fun a b c d r1 r2 M2 e2 => ?_) (fun q z => ⟨fun _ => ?_, fun r => absurd r (by decide), Or.inl rfl⟩) (fun a b q z => ⟨fun r => absurd r (by decide), fun _ => ?_, Or.inr rfl⟩)
  · subst e2; exact s_X12_curve (yDo1 hD) hI.1.1 (fun _ _ _ _ => ⟨r1, r2⟩) (fun _ _ _ _ => yOk hj) (fun q => absurd ⟨a, b⟩ q) (fun _ _ q => absurd ⟨c, d⟩ q)
  · exact s_X12_curve hD hI.1.1 (fun a b => absurd ⟨a, b⟩ q) (fun a b => absurd ⟨a, b⟩ q) (fun _ => yTh hj (by decide)) (fun a b _ => absurd ⟨a, b⟩ q)
  · exact s_X12_curve hD hI.1.1 (fun _ _ a b => absurd ⟨a, b⟩ q) (fun _ _ a b => absurd ⟨a, b⟩ q) (fun r => absurd ⟨a, b⟩ r) (fun _ _ _ => yTh hj (by decide))
theorem q1_errorOffset (hj : xJn x t M) : q_errorOffset t x (x + 436) (x + 452) M (xJn x) := by
  unfold q_errorOffset p_X11_errorOffset p_X12_errorOffset
  intro M2 e2; subst e2
  refine ⟨?_, xJn_q hj rfl (yQf_m yQf_refl)⟩
  obtain ⟨D, A, H, -, h⟩ := hj
  rw [xw_j (by decide)]
  exact h.2.2.2
end YQ
