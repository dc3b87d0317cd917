/-! THE MODEL'S LOOPS OF TICKS; copies -/
theorem yAdv_I {pk : Int} : ∀ (n : Nat) (A : yA), yJ A → yS A 0 + n ≤ 11000 → yJ (yAdv pk n A) ∧ ySt A (yAdv pk n A) ∧ yS A 0 ≤ yS (yAdv pk n A) 0 ∧ yS (yAdv pk n A) 0 ≤ yS A 0 + n := by
  intro n
  induction n with
  | zero => intro A hJ _; exact ⟨hJ, ySt_refl A, Int.le_refl _, by show yS A 0 ≤ _; omega⟩
  | succ n ih =>
    intro A hJ ht
    rw [yAdv]
    split
    · exact ⟨hJ, ySt_refl A, Int.le_refl _, by omega⟩
    · obtain ⟨t1, t2, t3⟩ := yTick_I hJ (by omega)
      obtain ⟨i1, i2, i3, i4⟩ := ih _ t1 (by rw [t3]; omega)
      exact ⟨i1, ySt_trans t2 i2, by omega, by omega⟩
theorem yEnd_m {A : yA} : yEnd (-1) A = false := by unfold yEnd; simp
