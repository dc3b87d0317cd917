/-! help, the model's -/
section YHM
variable {x m : Nat} {t t' : xTh} {M M' M1 M2 M3 : xMe} {D : Nat → Prop} {A A' B : yA} {H H' : List yA} {p f v T z : Int} {Q : Int → xMe → Prop} {E : String → xMe → Prop}
theorem yHok_e {n : Nat} (hA : yG0 A) (hl : (yC A).length < 30) (f0 : 0 ≤ f) (f1 : f < yS A 2) (v0 : 1 ≤ v) (v1 : v ≤ 9999) (p0 : 0 ≤ p) (p1 : p < yS A 3) (hn : n ≤ 500) : yHok A p f n v = true ↔ yS (yAdv p n (yPlus A f v)) (87 + 9 * p) ≠ -1 := by
  have hP := yPlus_G hA hl f0 f1 v0 v1
  have ht := hA.2.1
  have hb : yS (yPlus A f v) 0 + n ≤ 11000 := by show yS A 0 + (n : Int) ≤ 11000; omega
  have hs := (yAdv_I (pk := p) n _ hP.1 hb).2.1.1 3 (by unfold yStat; omega)
  have h3 : yS (yAdv p n (yPlus A f v)) 3 = yS A 3 := hs
  have he := yEd_adv (pk := p) n _ hP.1 hb hP.2.2.1 p p0 (by rw [h3]; exact p1)
  unfold yHok yEnd
  simp only [decide_eq_true_eq, Bool.and_eq_true]
  rw [h3]
  exact ⟨fun h => he.mp h.2.2, fun h => ⟨p0, p1, he.mpr h⟩⟩
end YHM
