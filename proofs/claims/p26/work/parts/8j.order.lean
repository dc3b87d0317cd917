/-! THE ORDER OF THE QUEUES is kept; what the Road's arrays cost -/
/-- who waits joined before now, or now and stands before i -/
def yQj (i : Int) (A : yA) : Prop := ∀ q, 0 ≤ q → q < yS A 3 → yS A (84 + 9 * q) = 1 → yS A (88 + 9 * q) < yS A 0 ∨ (yS A (88 + 9 * q) = yS A 0 ∧ q < i)
section YQX
variable {A B : yA} {p g f : Int} {l : List Int}
theorem yGt_eq (h1 : yI1 A) (h3 : yI3 A) (hS : ∀ k, 33 ≤ k → k < 81 → (k - 33) % 8 ≠ 2 → (k - 33) % 8 ≠ 3 → yS B k = yS A k) {q : Int} (a : 0 ≤ q) (b : q < yS A 3) (hs : yS A (84 + 9 * q) ≤ 2) (e81 : yS B (81 + 9 * q) = yS A (81 + 9 * q)) (e85 : yS B (85 + 9 * q) = yS A (85 + 9 * q)) : yGt B q = yGt A q ∧ ySl B q = ySl A q := by
  obtain ⟨f0, f1, s0, s1, s4, -⟩ := yGt_ok h1 h3 a b hs
  obtain ⟨n1, n2, n3, n4, -⟩ := id h1.1
  have e : yGt B q = yGt A q := by
    unfold yGt
    rw [e81, e85]
    exact hS _ (by omega) (by omega) (by omega) (by omega)
  exact ⟨e, by unfold ySl; rw [e, e81]⟩
theorem yPw_eq {s : Int} (hI4 : yI4 A) (h : (yQ A s).Pairwise (fun p q => yS A (88 + 9 * p) < yS A (88 + 9 * q) ∨ (yS A (88 + 9 * p) = yS A (88 + 9 * q) ∧ p < q))) (e : ∀ q ∈ yQ A s, yS B (88 + 9 * q) = yS A (88 + 9 * q)) : (yQ A s).Pairwise (fun p q => yS B (88 + 9 * p) < yS B (88 + 9 * q) ∨ (yS B (88 + 9 * p) = yS B (88 + 9 * q) ∧ p < q)) :=
  h.imp_of_mem (fun {a b} ha hb r => by rw [e a ha, e b hb]; exact r)
/-- nothing of the packets changes -/
theorem yQx_eq (hI : yI A) (hQ : yQ B = yQ A) (hS : ∀ k, k = 3 ∨ (33 ≤ k ∧ k < 81 ∧ (k - 33) % 8 ≠ 2 ∧ (k - 33) % 8 ≠ 3) ∨ (81 ≤ k ∧ k < 441) → yS B k = yS A k) (hx : yQx A) : yQx B := by
  obtain ⟨n1, n2, n3, n4, n5, n6⟩ := id hI.1.1
  refine ⟨fun q a b hs => ?_, fun s => ?_⟩
  · rw [hS 3 (by omega)] at b
    rw [hS _ (by omega)] at hs
    have e := yGt_eq (B := B) hI.1 hI.2.2.1 (fun k a b c d => hS k (by omega)) a b (by omega) (hS _ (by omega)) (hS _ (by omega))
    rw [hQ, e.2]
    exact hx.1 q a b hs
  · rw [hQ]
    exact yPw_eq hI.2.2.2.1 (hx.2 s) (fun q hq => hS _ (by have := yQok_in hI.2.2.2.1.1 hq; omega))
theorem yQj_eq {i : Int} (hN : yN A) (hS : ∀ k, k = 0 ∨ k = 3 ∨ (81 ≤ k ∧ k < 441) → yS B k = yS A k) (h : yQj i A) : yQj i B := fun q a b hs => by
  have n6 := hN.2.2.2.2.2
  rw [hS 3 (by omega)] at b
  rw [hS _ (by omega)] at hs
  rw [hS _ (by omega), hS 0 (by omega)]
  exact h q a b hs
theorem yS_ref {paid : Int} : yS (yRef f paid A) = yS A ∧ yQ (yRef f paid A) = yQ A ∧ yK (yRef f paid A) = yK A := by
  unfold yRef; split <;> exact ⟨rfl, rfl, rfl⟩
theorem yRef_len {paid : Int} : (yC A).length ≤ (yC (yRef f paid A)).length ∧ (yC (yRef f paid A)).length ≤ (yC A).length + 1 := by
  unfold yRef
  split
  · show _ ≤ (yC A ++ [_]).length ∧ (yC A ++ [_]).length ≤ _
    simp
  · exact ⟨Nat.le_refl _, Nat.le_succ _⟩
theorem yArr_full (h : yS A (17 + 3 * yGt A p) ≤ ((yQ A (ySl A p)).length : Int)) : yArr p A = yRef (yS A (81 + 9 * p)) (yS A (86 + 9 * p)) (yw (yw (yw A (84 + 9 * p) 4) (87 + 9 * p) (yS A 0)) 6 (yS A 6 + 1)) := by unfold yArr; rw [if_pos h]
theorem yArr_room (h : ¬ yS A (17 + 3 * yGt A p) ≤ ((yQ A (ySl A p)).length : Int)) : yArr p A = yqw (yw (yw A (84 + 9 * p) 1) (88 + 9 * p) (yS A 0)) (ySl A p) (yQ A (ySl A p) ++ [p]) := by unfold yArr; rw [if_neg h]
theorem yQx_arr (hI : yI A) (hx : yQx A) (hj : yQj p A) (p0 : 0 ≤ p) (p1 : p < yS A 3) (hs : yS A (84 + 9 * p) ≤ 2) (hs1 : yS A (84 + 9 * p) ≠ 1) : yQx (yArr p A) ∧ yQj (p + 1) (yArr p A) := by
  obtain ⟨n1, n2, n3, n4, n5, n6⟩ := id hI.1.1
  by_cases hf : yS A (17 + 3 * yGt A p) ≤ ((yQ A (ySl A p)).length : Int)
  · have hS : ∀ k, k ≠ 84 + 9 * p → k ≠ 87 + 9 * p → k ≠ 6 → yS (yArr p A) k = yS A k := fun k a b c => by
      rw [yArr_full hf, yS_ref.1, yS_w, yup_n c, yS_w, yup_n b, yS_w, yup_n a]
    have hSp : yS (yArr p A) (84 + 9 * p) = 4 := by
      rw [yArr_full hf, yS_ref.1, yS_w, yup_n (by omega), yS_w, yup_n (by omega), yS_w, yup_s]
    have hQ : yQ (yArr p A) = yQ A := by rw [yArr_full hf, yS_ref.2.1]; rfl
    have key : ∀ q, 0 ≤ q → q < yS (yArr p A) 3 → yS (yArr p A) (84 + 9 * q) = 1 → q ≠ p ∧ q < yS A 3 ∧ yS A (84 + 9 * q) = 1 := fun q a b c => by
      have e : q ≠ p := fun e => by rw [e, hSp] at c; omega
      rw [hS 3 (by omega) (by omega) (by omega)] at b
      rw [hS _ (by omega) (by omega) (by omega)] at c
      exact ⟨e, b, c⟩
    refine ⟨⟨fun q a b c => ?_, fun s => ?_⟩, fun q a b c => ?_⟩
    · obtain ⟨e, b, c⟩ := key q a b c
      have e2 := yGt_eq (B := yArr p A) hI.1 hI.2.2.1 (fun k a b _ _ => hS k (by omega) (by omega) (by omega)) a b (by omega) (hS _ (by omega) (by omega) (by omega)) (hS _ (by omega) (by omega) (by omega))
      rw [hQ, e2.2]; exact hx.1 q a b c
    · rw [hQ]
      exact yPw_eq hI.2.2.2.1 (hx.2 s) (fun q hq => hS _ (by omega) (by omega) (by have := yQok_in hI.2.2.2.1.1 hq; omega))
    · obtain ⟨e, b, c⟩ := key q a b c
      rw [hS _ (by omega) (by omega) (by omega), hS 0 (by omega) (by omega) (by omega)]
      rcases hj q a b c with z | z
      · exact Or.inl z
      · exact Or.inr ⟨z.1, by omega⟩
  · have hS : ∀ k, k ≠ 84 + 9 * p → k ≠ 88 + 9 * p → yS (yArr p A) k = yS A k := fun k a b => by
      rw [yArr_room hf, yS_q, yS_w, yup_n b, yS_w, yup_n a]
    have hS8 : yS (yArr p A) (88 + 9 * p) = yS A 0 := by rw [yArr_room hf, yS_q, yS_w, yup_s]
    have hQ : ∀ s, yQ (yArr p A) s = if s = ySl A p then yQ A (ySl A p) ++ [p] else yQ A s := fun s => by rw [yArr_room hf]; rfl
    have hno : ∀ s, p ∉ yQ A s := fun s hm => hs1 (hI.2.2.2.1.2 s p hm).2.2.1
    refine ⟨⟨fun q a b c => ?_, fun s => ?_⟩, fun q a b c => ?_⟩
    · rw [hS 3 (by omega) (by omega)] at b
      by_cases e : q = p
      · subst e
        have e2 := yGt_eq (B := yArr q A) hI.1 hI.2.2.1 (fun k a b _ _ => hS k (by omega) (by omega)) a b hs (hS _ (by omega) (by omega)) (hS _ (by omega) (by omega))
        rw [e2.2, hQ, if_pos rfl]
        simp
      · rw [hS _ (by omega) (by omega)] at c
        have e2 := yGt_eq (B := yArr p A) hI.1 hI.2.2.1 (fun k a b _ _ => hS k (by omega) (by omega)) a b (by omega) (hS _ (by omega) (by omega)) (hS _ (by omega) (by omega))
        rw [e2.2, hQ]
        have := hx.1 q a b c
        split
        · rename_i e3; rw [e3] at this; exact List.mem_append_left _ this
        · exact this
    · rw [hQ]
      split
      · rw [List.pairwise_append]
        refine ⟨yPw_eq hI.2.2.2.1 (hx.2 _) (fun q hq => ?_), List.pairwise_singleton _ _, fun q hq r hr => ?_⟩
        · have hne : q ≠ p := fun e => hno _ (e ▸ hq)
          exact hS _ (by omega) (by omega)
        · rw [List.mem_singleton] at hr
          subst hr
          have hne : q ≠ r := fun e => hno _ (e ▸ hq)
          obtain ⟨q0, q1, q2, -⟩ := hI.2.2.2.1.2 _ q hq
          rw [hS8, hS _ (by omega) (by omega)]
          exact hj q q0 q1 q2
      · exact yPw_eq hI.2.2.2.1 (hx.2 s) (fun q hq => by
          have hne : q ≠ p := fun e => hno _ (e ▸ hq)
          exact hS _ (by omega) (by omega))
    · rw [hS 3 (by omega) (by omega)] at b
      rw [hS 0 (by omega) (by omega)]
      by_cases e : q = p
      · subst e; rw [hS8]; exact Or.inr ⟨rfl, by omega⟩
      · rw [hS _ (by omega) (by omega)] at c
        rw [hS _ (by omega) (by omega)]
        rcases hj q a b c with z | z
        · exact Or.inl z
        · exact Or.inr ⟨z.1, by omega⟩
theorem yPas_o {k : Int} (h1 : k ≠ 561 + 4 * (6 * g + f)) (h2 : k ≠ 86 + 9 * p) (h3 : k ≠ 8) (h4 : k ≠ 35 + 8 * f) (h5 : k ≠ 85 + 9 * p) (h6 : k ≠ 84 + 9 * p) (h7 : k ≠ 87 + 9 * p) (h8 : k ≠ 5) (h9 : k ≠ 36 + 8 * f) : yS (yPas p g f A) k = yS A k := by
  rw [yPas_S]
  unfold yPs
  split
  · rw [yup_n h6, yup_n h5, yup_n h4, yup_n h3, yup_n h2, yup_n h1]
  · rw [yup_n h9, yup_n h8, yup_n h7, yup_n h6, yup_n h5, yup_n h4, yup_n h3, yup_n h2, yup_n h1]
theorem yPas_84 (p0 : 0 ≤ p) (f1 : f < 6) : yS (yPas p g f A) (84 + 9 * p) = 2 ∨ yS (yPas p g f A) (84 + 9 * p) = 3 := by
  rw [yPas_S]
  split
  · exact Or.inl yup_s
  · right; rw [yup_n (by omega), yup_n (by omega), yup_n (by omega), yup_s]
theorem yPas_85 (p0 : 0 ≤ p) (f1 : f < 6) : yS (yPas p g f A) (85 + 9 * p) = yS A (85 + 9 * p) + 1 := by
  rw [yPas_S]
  unfold yPs
  split
  · rw [yup_n (by omega), yup_s]
  · rw [yup_n (by omega), yup_n (by omega), yup_n (by omega), yup_n (by omega), yup_s]
theorem yQx_pas (hI : yI A) (hx : yQx A) (g0 : 0 ≤ g) (g1 : g < yS A 1) (f0 : 0 ≤ f) (f1 : f < yS A 2) (hl : yQ A (6 * g + f) = p :: l) : yQx (yPas p g f A) ∧ ∀ i, yQj i A → yQj i (yPas p g f A) := by
  obtain ⟨n1, n2, n3, n4, n5, n6⟩ := id hI.1.1
  obtain ⟨p0, p1, hst, hfl, hgt⟩ := yHead hI.1 hI.2.2.1 hI.2.2.2.1 g0 g1 f0 f1 hl
  have hS := fun k h1 h2 h3 h4 h5 h6 h7 h8 h9 => yPas_o (A := A) (p := p) (g := g) (f := f) (k := k) h1 h2 h3 h4 h5 h6 h7 h8 h9
  have h84 := yPas_84 (A := A) (g := g) (f := f) p0 (by omega)
  have hQ : ∀ s, yQ (yPas p g f A) s = if s = 6 * g + f then l else yQ A s := fun s => by
    show (if s = 6 * g + f then (yQ A (6 * g + f)).tail else yQ A s) = _
    rw [hl]; rfl
  have key : ∀ q, 0 ≤ q → q < yS (yPas p g f A) 3 → yS (yPas p g f A) (84 + 9 * q) = 1 → q ≠ p ∧ q < yS A 3 ∧ yS A (84 + 9 * q) = 1 := fun q a b c => by
    have e : q ≠ p := fun e => by rw [e] at c; omega
    rw [hS 3 (by omega) (by omega) (by omega) (by omega) (by omega) (by omega) (by omega) (by omega) (by omega)] at b
    rw [hS _ (by omega) (by omega) (by omega) (by omega) (by omega) (by omega) (by omega) (by omega) (by omega)] at c
    exact ⟨e, b, c⟩
  have e88 : ∀ q, 0 ≤ q → q < 40 → yS (yPas p g f A) (88 + 9 * q) = yS A (88 + 9 * q) := fun q a b => hS _ (by omega) (by omega) (by omega) (by omega) (by omega) (by omega) (by omega) (by omega) (by omega)
  refine ⟨⟨fun q a b c => ?_, fun s => ?_⟩, fun i hj q a b c => ?_⟩
  · obtain ⟨e, b, c⟩ := key q a b c
    have e2 := yGt_eq (B := yPas p g f A) hI.1 hI.2.2.1 (fun k a b c d => hS k (by omega) (by omega) (by omega) (by omega) (by omega) (by omega) (by omega) (by omega) (by omega)) a b (by omega) (hS _ (by omega) (by omega) (by omega) (by omega) (by omega) (by omega) (by omega) (by omega) (by omega)) (hS _ (by omega) (by omega) (by omega) (by omega) (by omega) (by omega) (by omega) (by omega) (by omega))
    rw [e2.2, hQ]
    have := hx.1 q a b c
    split
    · rename_i e3
      rw [e3, hl] at this
      rcases List.mem_cons.mp this with z | z
      · exact absurd z e
      · exact z
    · exact this
  · rw [hQ]
    split
    · have h := yPw_eq (B := yPas p g f A) hI.2.2.2.1 (hx.2 (6 * g + f)) (fun q hq => e88 q (yQok_in hI.2.2.2.1.1 hq).1 (yQok_in hI.2.2.2.1.1 hq).2)
      rw [hl, List.pairwise_cons] at h
      exact h.2
    · exact yPw_eq hI.2.2.2.1 (hx.2 s) (fun q hq => e88 q (yQok_in hI.2.2.2.1.1 hq).1 (yQok_in hI.2.2.2.1.1 hq).2)
  · obtain ⟨e, b, c⟩ := key q a b c
    rw [e88 q a (by omega), hS 0 (by omega) (by omega) (by omega) (by omega) (by omega) (by omega) (by omega) (by omega) (by omega)]
    exact hj q a b c
theorem yPh_pas (hI : yI A) (g0 : 0 ≤ g) (g1 : g < yS A 1) (f0 : 0 ≤ f) (f1 : f < yS A 2) (hl : yQ A (6 * g + f) = p :: l) : yPh (yPas p g f A) = yPh A + 4 + (yC A).length - (ySp f 30 (yPe p g f A) (yC A)).length := by
  obtain ⟨n1, n2, n3, n4, n5, n6⟩ := id hI.1.1
  obtain ⟨p0, p1, hst, hfl, hgt⟩ := yHead hI.1 hI.2.2.1 hI.2.2.2.1 g0 g1 f0 f1 hl
  have hS := fun k h1 h2 h3 h4 h5 h6 h7 h8 h9 => yPas_o (A := A) (p := p) (g := g) (f := f) (k := k) h1 h2 h3 h4 h5 h6 h7 h8 h9
  have h85 := yPas_85 (A := A) (g := g) (f := f) p0 (by omega)
  have h3 : yS (yPas p g f A) 3 = yS A 3 := hS 3 (by omega) (by omega) (by omega) (by omega) (by omega) (by omega) (by omega) (by omega) (by omega)
  have h6 : yS (yPas p g f A) 6 = yS A 6 := hS 6 (by omega) (by omega) (by omega) (by omega) (by omega) (by omega) (by omega) (by omega) (by omega)
  have hT : yTot (yPas p g f A) = yTot A + 1 := by
    unfold yTot
    rw [h3]
    have e0 : ySp2 (fun q => yS (yPas p g f A) (85 + 9 * q)) (yS A 3).toNat = ySp2 (fun q => if q = p then yS A (85 + 9 * q) + 1 else yS A (85 + 9 * q)) (yS A 3).toNat := ySp2_eq (fun q a b => by
      by_cases e : q = p
      · subst e; rw [if_pos rfl]; exact h85
      · rw [if_neg e]; exact hS _ (by omega) (by omega) (by omega) (by omega) (by omega) (by omega) (by omega) (by omega) (by omega))
    rw [e0, ySp2_up (h := fun q => yS A (85 + 9 * q)) (p := p) p0 (by omega) (fun r hr => by rw [if_neg hr])]
    rw [if_pos rfl]
    omega
  unfold yPh
  rw [hT, h6]
  have : (yC (yPas p g f A)).length = (ySp f 30 (yPe p g f A) (yC A)).length := rfl
  omega
theorem yPh_pas_ge (hI : yI A) (g0 : 0 ≤ g) (g1 : g < yS A 1) (f0 : 0 ≤ f) (f1 : f < yS A 2) (hl : yQ A (6 * g + f) = p :: l) : yPh A ≤ yPh (yPas p g f A) := by
  have := yPh_pas hI g0 g1 f0 f1 hl
  have := ySp_len (f := f) 30 (yPe p g f A) (yC A)
  omega
theorem yPh_arr (hN : yN A) (p0 : 0 ≤ p) : yPh A ≤ yPh (yArr p A) := by
  by_cases hf : yS A (17 + 3 * yGt A p) ≤ ((yQ A (ySl A p)).length : Int)
  · have hS : ∀ k, k ≠ 84 + 9 * p → k ≠ 87 + 9 * p → k ≠ 6 → yS (yArr p A) k = yS A k := fun k a b c => by
      rw [yArr_full hf, yS_ref.1, yS_w, yup_n c, yS_w, yup_n b, yS_w, yup_n a]
    have e6 : yS (yArr p A) 6 = yS A 6 + 1 := by rw [yArr_full hf, yS_ref.1, yS_w, yup_s]
    have hT : yTot (yArr p A) = yTot A := yTot_of (hS 3 (by omega) (by omega) (by omega)) (fun q a b => hS _ (by omega) (by omega) (by omega)) hN
    have hL := yRef_len (A := yw (yw (yw A (84 + 9 * p) 4) (87 + 9 * p) (yS A 0)) 6 (yS A 6 + 1)) (f := yS A (81 + 9 * p)) (paid := yS A (86 + 9 * p))
    rw [← yArr_full hf] at hL
    have eC : yC (yw (yw (yw A (84 + 9 * p) 4) (87 + 9 * p) (yS A 0)) 6 (yS A 6 + 1)) = yC A := rfl
    rw [eC] at hL
    unfold yPh
    rw [hT, e6]
    omega
  · have hS : ∀ k, k ≠ 84 + 9 * p → k ≠ 88 + 9 * p → yS (yArr p A) k = yS A k := fun k a b => by
      rw [yArr_room hf, yS_q, yS_w, yup_n b, yS_w, yup_n a]
    have hT : yTot (yArr p A) = yTot A := yTot_of (hS 3 (by omega) (by omega)) (fun q a b => hS _ (by omega) (by omega)) hN
    have eC : yC (yArr p A) = yC A := by rw [yArr_room hf]; rfl
    unfold yPh
    rw [hT, hS 6 (by omega) (by omega), eC]
    exact Int.le_refl _
theorem yPh_S (h : ∀ k, k ≠ 0 → k ≠ 7 → k < 561 → yS B k = yS A k) (hC : (yC B).length ≤ (yC A).length) (hN : yN A) : yPh A + (yC A).length - (yC B).length = yPh B := by
  unfold yPh
  rw [yTot_of (h 3 (by omega) (by omega) (by omega)) (fun q a b => h _ (by omega) (by omega) (by omega)) hN, h 6 (by omega) (by omega) (by omega)]
  omega
end YQX
