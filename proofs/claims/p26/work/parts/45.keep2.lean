theorem yPas_S (p g f : Int) (A : yA) : yS (yPas p g f A) = if yS A (85 + 9 * p) + 1 < yS A (33 + 8 * f) then yup (yPs p g f A) (84 + 9 * p) 2 else yup (yup (yup (yup (yPs p g f A) (84 + 9 * p) 3) (87 + 9 * p) (yS A 0)) 5 (yS A 5 + 1)) (36 + 8 * f) (yS A (36 + 8 * f) + yS A (83 + 9 * p)) := rfl
/-- the head of a queue -/
theorem yHead {A : yA} (h1 : yI1 A) (h3 : yI3 A) (h4 : yI4 A) {g f p : Int} {l : List Int} (g0 : 0 ≤ g) (g1 : g < yS A 1) (f0 : 0 ≤ f) (f1 : f < yS A 2) (hl : yQ A (6 * g + f) = p :: l) : 0 ≤ p ∧ p < yS A 3 ∧ yS A (84 + 9 * p) = 1 ∧ yS A (81 + 9 * p) = f ∧ yGt A p = g := by
  obtain ⟨a, b, c, d, -⟩ := h4.2 (6 * g + f) p (by rw [hl]; simp)
  obtain ⟨k1, k2, k3, k4, k5, k6, k7, k8, k9⟩ := yGt_ok h1 h3 a b (by omega)
  obtain ⟨n1, n2, n3, n4, n5, n6⟩ := h1.1
  unfold ySl at d
  exact ⟨a, b, c, by omega, by omega⟩
theorem yI_pas {A : yA} {p g f : Int} {l : List Int} (hI : yI A) (g0 : 0 ≤ g) (g1 : g < yS A 1) (f0 : 0 ≤ f) (f1 : f < yS A 2) (hl : yQ A (6 * g + f) = p :: l) : yI (yPas p g f A) := by
  obtain ⟨h1, h2, h3, h4, h5, h6, h7, h8⟩ := hI
  obtain ⟨a, b, hs, hfl, hgt⟩ := yHead h1 h3 h4 g0 g1 f0 f1 hl
  obtain ⟨n1, n2, n3, n4, n5, n6⟩ := id h1.1
  have hp3 := h3 p a b
  have hpk := h1.2.2.2.1 p a b
  have hfw := h1.2.2.1 f f0 f1
  have htk := h2 g f g0 g1 f0 f1
  have ht := h7.2.2.2.2.2
  have he : yPe p g f A = max 0 (yS A (83 + 9 * p) - yS A (561 + 4 * (6 * g + f))) := rfl
  have hval := yVal_b (s := yS A (83 + 9 * p)) (g := g) (e := yPe p g f A) (w := yS A 0 - yS A (88 + 9 * p)) (K := yK A)
  have hst := hp3.2.2.2.2.1 (by omega)
  rw [hfl] at hst
  -- the numbers of the result
  have hS : ∀ k, k ≠ 561 + 4 * (6 * g + f) → k ≠ 86 + 9 * p → k ≠ 8 → k ≠ 35 + 8 * f → k ≠ 85 + 9 * p → k ≠ 84 + 9 * p → k ≠ 87 + 9 * p → k ≠ 5 → k ≠ 36 + 8 * f → yS (yPas p g f A) k = yS A k := fun k q1 q2 q3 q4 q5 q6 q7 q8 q9 => by
    rw [yPas_S]; split
    · rw [yup_n q6]; unfold yPs; rw [yup_n q5, yup_n q4, yup_n q3, yup_n q2, yup_n q1]
    · rw [yup_n q9, yup_n q8, yup_n q7, yup_n q6]; unfold yPs; rw [yup_n q5, yup_n q4, yup_n q3, yup_n q2, yup_n q1]
  have hPs : ∀ k, k ≠ 84 + 9 * p → k ≠ 87 + 9 * p → k ≠ 5 → k ≠ 36 + 8 * f → yS (yPas p g f A) k = yPs p g f A k := fun k q6 q7 q8 q9 => by
    rw [yPas_S]; split
    · rw [yup_n q6]
    · rw [yup_n q9, yup_n q8, yup_n q7, yup_n q6]
  have e561 : yS (yPas p g f A) (561 + 4 * (6 * g + f)) = yS A (561 + 4 * (6 * g + f)) - (yS A (83 + 9 * p) - yPe p g f A) := by
    rw [hPs _ (by omega) (by omega) (by omega) (by omega)]; unfold yPs; simp (disch := omega) only [yup_n, yup_s]
  have e86 : yS (yPas p g f A) (86 + 9 * p) = yS A (86 + 9 * p) + yPe p g f A := by
    rw [hPs _ (by omega) (by omega) (by omega) (by omega)]; unfold yPs; simp (disch := omega) only [yup_n, yup_s]
  have e8 : yS (yPas p g f A) 8 = yS A 8 + yPe p g f A := by
    rw [hPs _ (by omega) (by omega) (by omega) (by omega)]; unfold yPs; simp (disch := omega) only [yup_n, yup_s]
  have e35 : yS (yPas p g f A) (35 + 8 * f) = yS A (35 + 8 * f) + yVal (yS A (83 + 9 * p)) g (yPe p g f A) (yS A 0 - yS A (88 + 9 * p)) (yK A) := by
    rw [hPs _ (by omega) (by omega) (by omega) (by omega)]; unfold yPs; simp (disch := omega) only [yup_n, yup_s]
  have e85 : yS (yPas p g f A) (85 + 9 * p) = yS A (85 + 9 * p) + 1 := by
    rw [hPs _ (by omega) (by omega) (by omega) (by omega)]; unfold yPs; rw [yup_s]
  have e84 : yS (yPas p g f A) (84 + 9 * p) = if yS A (85 + 9 * p) + 1 < yS A (33 + 8 * f) then 2 else 3 := by
    rw [yPas_S]; split
    · rw [yup_s]
    · rw [yup_n (by omega), yup_n (by omega), yup_n (by omega), yup_s]
  have e87 : yS (yPas p g f A) (87 + 9 * p) = if yS A (85 + 9 * p) + 1 < yS A (33 + 8 * f) then yS A (87 + 9 * p) else yS A 0 := by
    rw [yPas_S]; split
    · rw [yup_n (by omega)]; unfold yPs; simp (disch := omega) only [yup_n]
    · rw [yup_n (by omega), yup_n (by omega), yup_s]
  have e5 : yS (yPas p g f A) 5 = if yS A (85 + 9 * p) + 1 < yS A (33 + 8 * f) then yS A 5 else yS A 5 + 1 := by
    rw [yPas_S]; split
    · rw [yup_n (by omega)]; unfold yPs; simp (disch := omega) only [yup_n]
    · rw [yup_n (by omega), yup_s]
  have e36 : yS (yPas p g f A) (36 + 8 * f) = if yS A (85 + 9 * p) + 1 < yS A (33 + 8 * f) then yS A (36 + 8 * f) else yS A (36 + 8 * f) + yS A (83 + 9 * p) := by
    rw [yPas_S]; split
    · rw [yup_n (by omega)]; unfold yPs; simp (disch := omega) only [yup_n]
    · rw [yup_s]
  have e88 := hS (88 + 9 * p) (by omega) (by omega) (by omega) (by omega) (by omega) (by omega) (by omega) (by omega) (by omega)
  have e0 := hS 0 (by omega) (by omega) (by omega) (by omega) (by omega) (by omega) (by omega) (by omega) (by omega)
  have e7 := hS 7 (by omega) (by omega) (by omega) (by omega) (by omega) (by omega) (by omega) (by omega) (by omega)
  have hSt : ySt A (yPas p g f A) := ⟨fun k hk => hS k (by unfold yStat at hk; omega) (by unfold yStat at hk; omega) (by unfold yStat at hk; omega) (by unfold yStat at hk; omega) (by unfold yStat at hk; omega) (by unfold yStat at hk; omega) (by unfold yStat at hk; omega) (by unfold yStat at hk; omega) (by unfold yStat at hk; omega), rfl⟩
  have hk : yPk p A (yPas p g f A) := fun k k1 k2 k3 => hS k (by omega) (by omega) (by omega) (by omega) (by omega) (by omega) (by omega) (by omega) (by omega)
  have hQ : yQ (yPas p g f A) = yqu (yQ A) (6 * g + f) l := by
    unfold yPas yQ yqu; dsimp only
    rw [show A.2.1 (6 * g + f) = p :: l from hl]; rfl
  have hC : yC (yPas p g f A) = ySp f 30 (yPe p g f A) (yC A) := rfl
  have hP : yP (yPas p g f A) = yNote (yS A 0, g, f, yS A (83 + 9 * p), yPe p g f A) (yP A) := rfl
  generalize yPas p g f A = B at *
  have hpn := (h4.1.1 (6 * g + f)).1
  rw [hl] at hpn
  have hT : yTot B = yTot A + 1 := by
    unfold yTot
    rw [hSt.1 3 (by unfold yStat; omega)]
    have := ySp2_up (h := fun r => yS A (85 + 9 * r)) (h' := fun r => if r = p then yS A (85 + 9 * p) + 1 else yS A (85 + 9 * r)) (p := p) (n := (yS A 3).toNat) a (by omega) (fun r hr => if_neg hr)
    rw [if_pos rfl] at this
    rw [show ySp2 (fun r => yS A (85 + 9 * r)) (yS A 3).toNat + 1 = ySp2 (fun r => yS A (85 + 9 * r)) (yS A 3).toNat + (yS A (85 + 9 * p) + 1 - yS A (85 + 9 * p)) by omega, ← this]
    refine ySp2_eq (fun r ra rb => ?_)
    split
    · rename_i q; rw [q, e85]
    · exact hk _ (by omega) (by omega) (by omega)
  have hTb := yTot_b h1.1 h3
  obtain ⟨hbl, hs8, hs8', hs7, hs7', -⟩ := id h7
  refine ⟨yI1_st hSt h1, ?_, yI3_pk h3 h1 hSt e0 hk (fun _ _ => ?_), ⟨?_, fun s r hr => ?_⟩, ?_, ?_, ?_, yI8_pk h8 h1 a b hSt hk ?_ ?_ (fun f' fa fb => ?_)⟩
  · intro g' f' ga gb fa fb
    rw [hSt.1 1 (by unfold yStat; omega)] at gb
    rw [hSt.1 2 (by unfold yStat; omega)] at fb
    by_cases q : 561 + 4 * (6 * g' + f') = 561 + 4 * (6 * g + f)
    · rw [q, e561]; omega
    · rw [hS _ q (by omega) (by omega) (by omega) (by omega) (by omega) (by omega) (by omega) (by omega)]
      exact h2 g' f' ga gb fa fb
  · rw [e84, e85, e86, e87, e88, hfl]
    split <;> omega
  · rw [hQ]; exact yQok_tl h4.1 hl
  · rw [hQ] at hr ⊢
    have hm : r ∈ yQ A s ∧ r ≠ p ∧ (yqu (yQ A) (6 * g + f) l s).length ≤ (yQ A s).length := by
      unfold yqu at hr ⊢
      split at hr
      · rename_i e
        rw [if_pos e, e, hl]
        exact ⟨List.mem_cons_of_mem _ hr, fun q => (List.nodup_cons.mp hpn).1 (q ▸ hr), by simp⟩
      · rename_i e
        rw [if_neg e]
        refine ⟨hr, fun q => e ?_, Nat.le_refl _⟩
        exact h4.1.2 s (6 * g + f) p (q ▸ hr) (by rw [hl]; simp)
    obtain ⟨hm, hne, hlen⟩ := hm
    obtain ⟨ra, rb, rs, rl, rm⟩ := h4.2 s r hm
    have r85 := hk (85 + 9 * r) (by omega) (by omega) (by omega)
    have es := ySl_eq h1 h3 hSt ra rb r85 (by omega)
    obtain ⟨k1, k2, k3, k4, k5, k6, k7, -⟩ := yGt_ok h1 h3 ra rb (by omega)
    rw [hSt.1 3 (by unfold yStat; omega), hk (84 + 9 * r) (by omega) (by omega) (by omega), es.1, es.2, hSt.1 (17 + 3 * yGt A r) (by unfold yStat; omega)]
    exact ⟨ra, rb, rs, rl, by omega⟩
  · obtain ⟨q1, q2⟩ := ySp_mem (f := f) 30 (yPe p g f A) (yC A) (fun c hc => (h5.2 c hc).2.2.1)
    unfold yI5
    rw [hC, e0, hSt.1 2 (by unfold yStat; omega)]
    refine ⟨by have := h5.1; omega, fun c hc => ?_⟩
    obtain ⟨c0, m0, m1, m2, m3, m4⟩ := q2 c hc
    have := h5.2 c0 m0
    rw [m1, m2]
    omega
  · unfold yI6
    rw [hP]
    refine ⟨?_, fun v hv => ?_⟩
    · have := h6.1
      unfold yNote
      split
      · simp; omega
      · simp; omega
    · unfold yNote at hv
      rcases List.mem_append.mp hv with hv | hv
      · refine h6.2 v ?_
        split at hv
        · exact List.mem_of_mem_tail hv
        · exact hv
      · simp at hv
        subst hv
        dsimp only
        exact ⟨by omega, by omega, by omega, by omega, ⟨by omega, by omega⟩, ⟨by omega, by omega⟩⟩
  · unfold yI7
    rw [hT, e0, e7, e8]
    refine ⟨fun f' fa fb => ?_, by omega, by omega, hs7, hs7', ht⟩
    rw [hSt.1 2 (by unfold yStat; omega)] at fb
    have hb' := hbl f' fa fb
    by_cases q : f' = f
    · subst q; rw [e35]; omega
    · rw [hS (35 + 8 * f') (by omega) (by omega) (by omega) (by omega) (by omega) (by omega) (by omega) (by omega) (by omega)]; omega
  · rw [e5, e84]; split <;> (split <;> omega)
  · rw [hS 6 (by omega) (by omega) (by omega) (by omega) (by omega) (by omega) (by omega) (by omega) (by omega), e84]
    split <;> (split <;> omega)
  · rw [e84, hfl]
    by_cases q : f' = f
    · subst q
      rw [e36]
      split
      · rw [if_neg (by omega), if_neg (by omega)]; omega
      · rw [if_pos ⟨rfl, rfl⟩, if_neg (by omega)]; omega
    · rw [hS (36 + 8 * f') (by omega) (by omega) (by omega) (by omega) (by omega) (by omega) (by omega) (by omega) (by omega), if_neg (fun e => q e.1.symm), if_neg (fun e => q e.1.symm)]; omega
