/-! LAYER 2, load: the statement coupon -/
def zCo (A : yA) (f v e : Int) : yA := yCw A (yC A ++ [(f, v, e, 0)])
section ZCO
variable {b : Nat → Int} {n x m F : Nat} {B M M' : xMe} {s s' : zS} {Q : xMe → Prop} {R : Int → xMe → Prop} {d f T z k v e : Int} {A A' : yA}
theorem zI_co (h : zI A) (hl : (yC A).length < 30) (f0 : 0 ≤ f ∧ f < yS A 2) (v0 : 1 ≤ v ∧ v ≤ 9999) (e0 : 1 ≤ e ∧ e ≤ 9999) : zI (zCo A f v e) := by
  obtain ⟨h1, h2, h3, h4, h5, h6', h7, h8, h9, h10, h11⟩ := h
  refine ⟨h1, h2, h3, h4, h5, h6', h7, h8, ⟨?_, fun c hc => ?_⟩, h10, h11⟩
  · show (yC A ++ [(f, v, e, 0)]).length ≤ 30
    rw [List.length_append]
    simp only [List.length_singleton]
    omega
  · have hc' : c ∈ yC A ++ [(f, v, e, 0)] := hc
    rcases List.mem_append.mp hc' with q | q
    · exact h9.2 c q
    · rw [List.mem_singleton.mp q]
      exact ⟨f0.1, f0.2, v0.1, v0.2, e0.1, e0.2, rfl⟩
theorem zD_co {c : Nat} (h : zD c M A) (hV : yV c M' (yC A ++ [(f, v, e, 0)])) (f4 : yF4 c M M') : zD c M' (zCo A f v e) := by
  obtain ⟨d1, d2, d3, d4, d5⟩ := h
  refine ⟨fun k hk => ?_, hV, by rw [f4 _ (by omega) (by omega)]; exact d3, fun g g0 g1 => by rw [f4 _ (by omega) (by omega)]; exact d4 g g0 g1, by rw [f4 _ (by omega) (by omega)]; exact d5.1, fun j w hw => by rw [f4 _ (by omega) (by omega)]; exact d5.2 j w hw⟩
  have hk' := hk
  unfold yG at hk'
  rw [f4 _ (by omega) (by omega)]; exact d1 k hk
end ZCO
