/-! forward -/
section YCF
variable {x m : Nat} {t t' : xTh} {M M' M1 M2 : xMe} {D : Nat → Prop} {A A' : yA} {H H' : List yA} {p f v : Int} {Q : Int → xMe → Prop} {E : String → xMe → Prop}
theorem yGet_upd {L1 L2 : List yCo} {c c' : yCo} {i : Nat} {u : yCo} (h : (L1 ++ c' :: L2)[i]? = some u) : (i = L1.length ∧ u = c') ∨ (i ≠ L1.length ∧ (L1 ++ c :: L2)[i]? = some u) := by
  by_cases e : i = L1.length
  · subst e
    rw [List.getElem?_append_right (Nat.le_refl _), Nat.sub_self] at h
    exact Or.inl ⟨rfl, (Option.some.inj h).symm⟩
  · refine Or.inr ⟨e, ?_⟩
    rw [List.getElem?_append] at h ⊢
    split at h
    · rename_i q; rw [if_pos q]; exact h
    · rename_i q; rw [if_neg q]
      obtain ⟨k, hk⟩ : ∃ k, i - L1.length = k + 1 := ⟨i - L1.length - 1, by omega⟩
      rw [hk] at h ⊢; exact h
theorem yU_upd {a : Nat} {L1 L2 : List yCo} {c c' : yCo} (h : yU a M (L1 ++ c :: L2)) (h4 : M' a 4 = M a 4) (g : ∀ i, i ≠ L1.length → M' (a + 1) i = M (a + 1) i ∧ M' (a + 2) i = M (a + 2) i ∧ M' (a + 3) i = M (a + 3) i ∧ M' (a + 4) i = M (a + 4) i) (k : M' (a + 1) L1.length = c'.1 ∧ M' (a + 2) L1.length = c'.2.1 ∧ M' (a + 3) L1.length = c'.2.2.1 ∧ M' (a + 4) L1.length = c'.2.2.2) : yU a M' (L1 ++ c' :: L2) := by
  refine ⟨by rw [h4, h.1]; simp, fun i u hu => ?_⟩
  rcases yGet_upd (c := c) hu with ⟨rfl, rfl⟩ | ⟨e, hu'⟩
  · exact k
  · obtain ⟨g1, g2, g3, g4⟩ := g i e
    rw [g1, g2, g3, g4]; exact h.2 i u hu'
theorem yV_upd {b : Nat} {L1 L2 : List yCo} {c c' : yCo} (h : yV b M (L1 ++ c :: L2)) (h4 : M' b 4 = M b 4) (g : ∀ j, ¬ (441 + 4 * L1.length ≤ j ∧ j < 445 + 4 * L1.length) → M' b j = M b j) (k : M' b (441 + 4 * L1.length) = c'.1 ∧ M' b (442 + 4 * L1.length) = c'.2.1 ∧ M' b (443 + 4 * L1.length) = c'.2.2.1 ∧ M' b (444 + 4 * L1.length) = c'.2.2.2) : yV b M' (L1 ++ c' :: L2) := by
  refine ⟨by rw [h4, h.1]; simp, fun i u hu => ?_⟩
  rcases yGet_upd (c := c) hu with ⟨rfl, rfl⟩ | ⟨e, hu'⟩
  · exact k
  · rw [g _ (by omega), g _ (by omega), g _ (by omega), g _ (by omega)]; exact h.2 i u hu'
/-- what forward makes of the coupons; its answer -/
def yFwd (A : yA) (p f : Int) : List yCo × Int := match (yC A)[p.toNat]? with
  | none => (yC A, -1)
  | some c => if c.1 = f ∨ 2 ≤ c.2.2.2 ∨ c.2.1 ≤ yS A 9 then (yC A, -1) else ((yC A).take p.toNat ++ (f, c.2.1 - yS A 9, c.2.2.1, c.2.2.2 + 1) :: (yC A).drop (p.toNat + 1), c.2.1 - yS A 9)
theorem ySpl {C : List yCo} {i : Nat} {c : yCo} (h : C[i]? = some c) : C = C.take i ++ c :: C.drop (i + 1) ∧ (C.take i).length = i := by
  obtain ⟨hi, hc⟩ := List.getElem?_eq_some_iff.mp h
  constructor
  · rw [← hc, List.getElem_cons_drop, List.take_append_drop]
  · rw [List.length_take]; omega
set_option maxHeartbeats 1000000 in
theorem s_X11_forward {Q : Int → xTh → xMe → Prop} (hc : yCs x t M D A H) (hg : yHg H) (hA : yG0 A) (h1 : 0 ≤ p → p < ((yC A).length : Int) → 0 ≤ f → f < yS A 2 → ∀ t' M', yCs x t' M' D (yCw A (yFwd A p f).1) (yPush H A) → yFc x D M M' → Q (yFwd A p f).2 t' M') (h2 : ¬ (0 ≤ p ∧ p < ((yC A).length : Int)) → E xIOe M) (h3 : 0 ≤ p → p < ((yC A).length : Int) → ¬ (0 ≤ f ∧ f < yS A 2) → E xIOe M) : p_X11_forward t x p f M Q E := by
  have hl := hA.1.1.2.2.2.2.1.1
  unfold p_X11_forward
  refine s_checkCoupon hc.1.1 (fun p0 p1 => s_checkFlow hc.1.1 (fun f0 f1 => ?_) (h3 p0 p1)) h2
  have h1 := h1 p0 p1 f0 f1
  obtain ⟨c, hv⟩ : ∃ v, (yC A)[p.toNat]? = some v := ⟨_, List.getElem?_eq_getElem (by omega)⟩
  have hci := hA.1.1.2.2.2.2.1.2 c (List.mem_of_getElem? hv)
  have hfee := hA.1.1.1.2.2.2.2.1
  obtain ⟨sp, sl⟩ := ySpl hv
  unfold yFwd at h1
  rw [hv] at h1
  dsimp only at h1
  refine s_X3_keep hc hg hA (fun t1 M1 _ c1 f1' => ?_)
  obtain ⟨e0, e1, e2, e3⟩ : M1 (x + 70) p.toNat = c.1 ∧ M1 (x + 71) p.toNat = c.2.1 ∧ M1 (x + 72) p.toNat = c.2.2.1 ∧ M1 (x + 73) p.toNat = c.2.2.2 := c1.1.1.2.1.2 p.toNat c hv
  have e8 : M1 (x + 44) 8 = yS A 9 := yr0_8 c1.1.1.1
  have same : (c.1 = f ∨ 2 ≤ c.2.2.2 ∨ c.2.1 ≤ yS A 9) → Q (-1) t1 M1 := fun q => by
    have h1 := h1 t1 M1
    rw [if_pos q] at h1
    exact h1 c1 f1'
  rw [e0, e1, e3, e8]
  refine ⟨⟨by omega, by omega⟩, fun q => same (Or.inl q), fun q => ⟨⟨by omega, by omega⟩, fun q2 => same (Or.inr (Or.inl q2)), fun q2 => ⟨⟨by omega, by omega⟩, fun q3 => ⟨⟨by omega, by omega⟩, fun M2 x2 => ?_⟩, fun q3 => same (Or.inr (Or.inr q3))⟩⟩⟩
  have g1 : M2 (x + 71) p.toNat = c.2.1 := by rw [x2, xw_b (by omega)]; exact e1
  have g2 : M2 (x + 44) 8 = yS A 9 := by rw [x2, xw_b (by omega)]; exact e8
  rw [g1, g2]
  refine ⟨⟨by omega, by omega⟩, ⟨by omega, by omega⟩, ⟨by omega, by omega⟩, fun M3 x3 => ?_⟩
  have g3 : M3 (x + 73) p.toNat = c.2.2.2 := by rw [x3, xw_b (by omega), x2, xw_b (by omega)]; exact e3
  rw [g3]
  refine ⟨⟨by omega, by omega⟩, ⟨by omega, by omega⟩, ⟨by omega, by omega⟩, fun M4 x4 => ?_⟩
  have g4 : M4 (x + 71) p.toNat = c.2.1 - yS A 9 := by rw [x4, xw_b (by omega), x3]; exact xw_s
  have fr : ∀ b, b ≠ x + 70 → b ≠ x + 71 → b ≠ x + 73 → M4 b = M1 b := fun b b1 b2 b3 => by rw [x4, xw_B b3, x3, xw_B b2, x2, xw_B b1]
  have fj : ∀ b j, j ≠ p.toNat → M4 b j = M1 b j := fun b j hj => by rw [x4, xw_j hj, x3, xw_j hj, x2, xw_j hj]
  rw [g4]
  refine ⟨⟨by omega, by omega⟩, ?_⟩
  have hne : ¬ (c.1 = f ∨ 2 ≤ c.2.2.2 ∨ c.2.1 ≤ yS A 9) := by omega
  rw [if_neg hne] at h1
  have hC : yCR (x + 44) M4 (yCw A ((yC A).take p.toNat ++ (f, c.2.1 - yS A 9, c.2.2.1, c.2.2.2 + 1) :: (yC A).drop (p.toNat + 1))) := by
    obtain ⟨a1, a2, a3, a4⟩ := c1.1.1
    refine ⟨yR_f a1 (fun b b1 b2 _ => fr b (by omega) (by omega) (by omega)), ?_, yX_f a3 (fun b b1 b2 => fr b (by omega) (by omega) (by omega)), yQc_o a4 (fun b b1 b2 => fr b (by omega) (by omega) (by omega))⟩
    show yU (x + 44 + 25) M4 ((yC A).take p.toNat ++ (f, c.2.1 - yS A 9, c.2.2.1, c.2.2.2 + 1) :: (yC A).drop (p.toNat + 1))
    rw [sp] at a2
    refine yU_upd a2 (by rw [fr _ (by omega) (by omega) (by omega)]) (fun i hi => ?_) ?_
    · rw [sl] at hi
      exact ⟨fj _ i hi, fj _ i hi, fj _ i hi, fj _ i hi⟩
    · rw [sl]
      refine ⟨?_, g4, ?_, ?_⟩
      · show M4 (x + 70) p.toNat = f
        rw [x4, xw_b (by omega), x3, xw_b (by omega), x2]; exact xw_s
      · show M4 (x + 72) p.toNat = c.2.2.1
        rw [fr _ (by omega) (by omega) (by omega)]; exact e2
      · show M4 (x + 73) p.toNat = c.2.2.2 + 1
        rw [x4]; exact xw_s
  obtain ⟨c2, f2⟩ := yCs_w c1 (yPush_g hg hA) hC rfl (by rw [fr _ (by omega) (by omega) (by omega)]; exact c1.2.1) (by rw [fr _ (by omega) (by omega) (by omega)]; exact c1.2.2.1) (fun b b1 b2 => fr b (by omega) (by omega) (by omega))
  exact h1 t1 M4 c2 (yFc_trans f1' f2)
theorem yFwd_G (hA : yG0 A) (f0 : 0 ≤ f) (f1 : f < yS A 2) : yG0 (yCw A (yFwd A p f).1) := by
  have hl := hA.1.1.2.2.2.2.1.1
  have hC := hA.1.1.2.2.2.2.1.2
  have hfee := hA.1.1.1.2.2.2.2.1
  unfold yFwd
  split
  · exact yG0_C hA hl hC hA.2.2.2
  · rename_i c hv
    obtain ⟨sp, sl⟩ := ySpl hv
    have hci := hC c (List.mem_of_getElem? hv)
    split
    · exact yG0_C hA hl hC hA.2.2.2
    · refine yG0_C hA ?_ (fun u hu => ?_) (fun u hu => ?_)
      · have : (yC A).length = ((yC A).take p.toNat ++ c :: (yC A).drop (p.toNat + 1)).length := by rw [← sp]
        rw [List.length_append, List.length_cons] at this
        rw [List.length_append, List.length_cons]; omega
      · rcases List.mem_append.mp hu with hu | hu
        · exact hC u (List.mem_of_mem_take hu)
        · rcases List.mem_cons.mp hu with rfl | hu
          · dsimp only; omega
          · exact hC u (List.mem_of_mem_drop hu)
      · rcases List.mem_append.mp hu with hu | hu
        · exact hA.2.2.2 u (List.mem_of_mem_take hu)
        · rcases List.mem_cons.mp hu with rfl | hu
          · exact hA.2.2.2 c (List.mem_of_getElem? hv)
          · exact hA.2.2.2 u (List.mem_of_mem_drop hu)
end YCF
