/-! THE CALLS THAT ONLY ANSWER -/
section YQ
variable {x : Nat} {t : xTh} {M : xMe} {p1 p2 p3 : Int}
theorem yJn_get (h : xJn x t M) : ∃ A, yCR (x + 44) M A ∧ yDR (x + 436 + 2) M A ∧ yI A := by
  obtain ⟨D, A, H, h1, -⟩ := h
  exact ⟨A, h1.1.1, h1.2.1, h1.2.2.1.1.1⟩
theorem yDo1 {A : yA} {r : Int} (h : yDR (x + 436 + 2) M A) : yDR (x + 436 + 2) (xw M (x + 452) 0 r) A := yDR_o h (by omega)
end YQ
