/-! LAYER 2, load: fee, refund, price, the statement: both sides -/
section ZST
variable {b : Nat → Int} {n x m F N many : Nat} {B M M' : xMe} {s s' : zS} {Q : xMe → Prop} {R : Int → xMe → Prop} {d g k v th z9 : Int} {A A' : yA}
theorem zu3 (hT : zT n s) : s.u.2.2 = 0 ∨ s.u.2.2 = 1 := by
  rcases hT.2.2.1 with a | a
  · exact Or.inl a.1
  · exact Or.inr a.1
theorem zM_12 (h : zM b n m B d s M) : zM b n m B d s (xw M (m + 3) 12 1) := by
  have fB : ∀ c, c ≠ m + 3 → xw M (m + 3) 12 1 c = M c := fun c hc => xw_B hc
  refine zM_f h (by rw [fB _ (by omega)]; exact h.1.1) (by rw [fB _ (by omega)]; exact h.1.2) (by rw [fB _ (by omega)]; exact h.2.2.2.1) (by rw [xw_j (by decide)]; exact h.2.2.2.2.1) (fun c _ c2 => fB c c2) (fun j _ _ => by rw [fB _ (by omega)]) (fun q => ⟨by rw [fB _ (by omega)]; exact (h.2.2.2.2.2.2.2 q).1, ?_, by rw [fB _ (by omega)]; exact (h.2.2.2.2.2.2.2 q).2.2⟩) d (by rw [fB _ (by omega)]; exact h.2.2.1)
  obtain ⟨d1, d2, d3, d4, d5⟩ := (h.2.2.2.2.2.2.2 q).2.1
  refine ⟨fun k hk => ?_, ⟨by rw [xw_j (by omega)]; exact d2.1, fun i w hw => ?_⟩, by rw [xw_j (by omega)]; exact d3, fun g g0 g1 => by rw [xw_j (by omega)]; exact d4 g g0 g1, by rw [xw_j (by omega)]; exact d5.1, fun j w hw => by rw [xw_j (by omega)]; exact d5.2 j w hw⟩
  · have hk' := hk
    unfold yG at hk'
    rw [xw_j (by omega)]; exact d1 k hk
  · have a := d2.2 i w hw
    rw [xw_j (by omega), xw_j (by omega), xw_j (by omega), xw_j (by omega)]; exact a
end ZST
