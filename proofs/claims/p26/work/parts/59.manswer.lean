/-! THE ANSWERS: the model's -/
section YMA
variable {F m : Nat} {p w g f T : Int} {M : xMe} {A : yA} {Q : Int → xMe → Prop}
theorem yQd_n {b : Nat} (h : yDR b M A) (g0 : 0 ≤ 6 * g + f) (g1 : 6 * g + f < 36) : M b (561 + 4 * (6 * g + f) + 1).toNat = ((yQ A (6 * g + f)).length : Int) := by
  have := (h.2.2.2.1 (6 * g + f) g0 g1).1
  dsimp only at this
  rw [show 561 + 4 * (6 * g + f) + 1 = 562 + 4 * (6 * g + f) by omega]; exact this
theorem yDR_cp {b : Nat} (h : yDR b M A) (p0 : 0 ≤ p) (p1 : p < ((yC A).length : Int)) (w0 : 0 ≤ w) (w1 : w ≤ 3) : M b (441 + 4 * p + w).toNat = yAc A p w := by
  obtain ⟨v, hv⟩ : ∃ v, (yC A)[p.toNat]? = some v := ⟨_, List.getElem?_eq_getElem (by omega)⟩
  obtain ⟨e0, e1, e2, e3⟩ := h.2.1.2 p.toNat v hv
  unfold yAc
  rw [hv]
  dsimp only
  have : w = 0 ∨ w = 1 ∨ w = 2 ∨ w = 3 := by omega
  rcases this with rfl | rfl | rfl | rfl
  · rw [show (441 + 4 * p + 0).toNat = 441 + 4 * p.toNat by omega]; exact e0
  · rw [show (441 + 4 * p + 1).toNat = 442 + 4 * p.toNat by omega]; exact e1
  · rw [show (441 + 4 * p + 2).toNat = 443 + 4 * p.toNat by omega]; exact e2
  · rw [show (441 + 4 * p + 3).toNat = 444 + 4 * p.toNat by omega]; exact e3
end YMA
