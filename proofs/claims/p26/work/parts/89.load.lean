/-! LAYER 2, load: the model's load; load, both -/
section ZLD
variable {b : Nat → Int} {n x m F N w L : Nat} {B M M' : xMe} {s s' : zS} {Q : xMe → Prop} {R : Int → xMe → Prop} {d g f k v th z9 : Int} {A A' : yA} {H : List yA} {D : Nat → Prop} {t t' t1 : xTh}
theorem zD_0 {c : Nat} (h : ∀ j : Nat, j < 2105 → M c j = if j = 9 then 1 else if j = 10 then 50 else if j = 11 then 10 else 0) : zD c M zA0 := by
  have z : ∀ j : Nat, j < 2105 → j ≠ 9 → j ≠ 10 → j ≠ 11 → M c j = 0 := fun j hj h9 h10 h11 => by rw [h j hj, if_neg h9, if_neg h10, if_neg h11]
  refine ⟨fun k hk => ?_, ⟨z 4 (by omega) (by omega) (by omega) (by omega), fun i v hv => by cases hv⟩, z 14 (by omega) (by omega) (by omega) (by omega), fun g g0 g1 => z _ (by omega) (by omega) (by omega) (by omega), z 13 (by omega) (by omega) (by omega) (by omega), fun j v hv => by cases hv⟩
  unfold yG at hk
  rw [h _ (by omega)]
  show _ = (if k = 9 then _ else if k = 10 then _ else if k = 11 then _ else _)
  by_cases c9 : k = 9
  · rw [if_pos c9, if_pos (by omega)]
  · by_cases c10 : k = 10
    · rw [if_neg c9, if_pos c10, if_neg (by omega), if_pos (by omega)]
    · by_cases c11 : k = 11
      · rw [if_neg c9, if_neg c10, if_pos c11, if_neg (by omega), if_neg (by omega), if_pos (by omega)]
      · rw [if_neg c9, if_neg c10, if_neg c11, if_neg (by omega), if_neg (by omega), if_neg (by omega)]
theorem yCs_x (hc : yCs x t M D A H) (hN : yN A) (hg : yHg H) (hw : zNw t t1 (x + 4) L) (hk : xk t (x + 44) ≤ 22 ∧ ∀ i, i < 8 → xk t (x + 124 + 39 * i) ≤ 22) (e : ∀ c, x + 44 ≤ c → c < x + 436 → M' c = M c) (eq : ∀ q, D q → M' (q + 1) = M (q + 1)) : yCs x t1 M' D A H := by
  obtain ⟨h1, h2, h3, h4, n, h5, h6, h7, h8⟩ := id hc
  have hx : ∀ q, D q → xn t1 (q + 1) = xn t (q + 1) ∧ xk t1 (q + 1) = xk t (q + 1) ∧ xk t1 (q + 2) = xk t (q + 2) := fun q hq => by
    have a := (h4 q hq).1
    exact ⟨(hw.1.1.2 _ a.1).2.1, (hw.1.1.2 _ a.1).1, (hw.1.1.2 _ a.2).1⟩
  refine ⟨yWd_fr hN h1 (hw.2.1 _ (by omega) hk.1) (hx _ h1.2.1).1 (fun _ h => h) (fun b b1 b2 => e b (by omega) (by omega)) (eq _ h1.2.1), by rw [e _ (by omega) (by omega)]; exact h2, by rw [e _ (by omega) (by omega)]; exact h3, fun q hq => ⟨?_, (h4 q hq).2⟩, ?_⟩
  · rw [(hx q hq).2.1, (hx q hq).2.2]; exact (h4 q hq).1
  · refine ⟨by rw [e _ (by omega) (by omega)]; exact n, h5, h6, by rw [e _ (by omega) (by omega)]; exact h7, fun i B hB => ?_⟩
    have hs : ySlt h5 H.length i < 8 := Nat.mod_lt _ (by decide)
    have hw' := h8 i B hB
    exact yWd_fr (hg.2 i B hB).1.1.1.1 hw' (hw.2.1 _ (by omega) (hk.2 _ hs)) (hx _ hw'.2.1).1 (fun _ h => h) (fun b b1 b2 => e b (by omega) (by omega)) (eq _ hw'.2.1)
end ZLD
