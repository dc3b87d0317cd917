/-! WHAT ALWAYS HOLDS, kept -/
/-- outside packet p's five numbers the packets are as they were -/
def yPk (p : Int) (A B : yA) : Prop := ∀ k, 81 ≤ k → k < 441 → ¬ (84 + 9 * p ≤ k ∧ k < 89 + 9 * p) → yS B k = yS A k
theorem yI3_pk {A B : yA} {p : Int} (h : yI3 A) (h1 : yI1 A) (hSt : ySt A B) (h0 : yS B 0 = yS A 0) (hk : yPk p A B) (hp : 0 ≤ p → p < yS A 3 → 0 ≤ yS B (84 + 9 * p) ∧ yS B (84 + 9 * p) ≤ 4 ∧ 0 ≤ yS B (85 + 9 * p) ∧ yS B (85 + 9 * p) ≤ 4 ∧ (yS B (84 + 9 * p) ≤ 2 → yS B (85 + 9 * p) < yS A (33 + 8 * yS A (81 + 9 * p))) ∧ 0 ≤ yS B (86 + 9 * p) ∧ yS B (86 + 9 * p) ≤ 999 * yS B (85 + 9 * p) ∧ -1 ≤ yS B (87 + 9 * p) ∧ yS B (87 + 9 * p) ≤ 20000 ∧ 0 ≤ yS B (88 + 9 * p) ∧ yS B (88 + 9 * p) ≤ yS A 0) : yI3 B := by
  intro r ra rb
  have e3 : yS B 3 = yS A 3 := hSt.1 3 (by unfold yStat; omega)
  rw [e3] at rb
  obtain ⟨⟨n1, n2, n3, n4, n5, n6⟩, -, hf, hpk, -⟩ := h1
  obtain ⟨q1, q2, -⟩ := hpk r ra rb
  have e81 : yS B (81 + 9 * r) = yS A (81 + 9 * r) := hSt.1 _ (by unfold yStat; omega)
  rw [e81, hSt.1 (33 + 8 * yS A (81 + 9 * r)) (by unfold yStat; omega), h0]
  by_cases e : r = p
  · subst e; exact hp ra rb
  · rw [hk (84 + 9 * r) (by omega) (by omega) (by omega), hk (85 + 9 * r) (by omega) (by omega) (by omega), hk (86 + 9 * r) (by omega) (by omega) (by omega), hk (87 + 9 * r) (by omega) (by omega) (by omega), hk (88 + 9 * r) (by omega) (by omega) (by omega)]
    exact h r ra rb
theorem yI2_eq {A B : yA} (h : yI2 A) (hN : yN A) (hSt : ySt A B) (hk : ∀ k, 561 ≤ k → k < 705 → yS B k = yS A k) : yI2 B := by
  obtain ⟨n1, n2, n3, n4, n5, n6⟩ := hN
  intro g f a b c d
  rw [hSt.1 1 (by unfold yStat; omega)] at b
  rw [hSt.1 2 (by unfold yStat; omega)] at d
  rw [hk _ (by omega) (by omega)]
  exact h g f a b c d
theorem ySl_eq {A B : yA} (h1 : yI1 A) (h3 : yI3 A) (hSt : ySt A B) {r : Int} (ra : 0 ≤ r) (rb : r < yS A 3) (h85 : yS B (85 + 9 * r) = yS A (85 + 9 * r)) (hs : yS A (84 + 9 * r) ≤ 2) : yGt B r = yGt A r ∧ ySl B r = ySl A r := by
  obtain ⟨g1, g2, g3, g4, g5, g6, g7, g8, g9⟩ := yGt_ok h1 h3 ra rb hs
  obtain ⟨⟨n1, n2, n3, n4, n5, n6⟩, -⟩ := h1
  have e81 : yS B (81 + 9 * r) = yS A (81 + 9 * r) := hSt.1 _ (by unfold yStat; omega)
  have eg : yGt B r = yGt A r := by
    unfold yGt; rw [e81, h85]; exact hSt.1 _ (by unfold yStat; omega)
  exact ⟨eg, by unfold ySl; rw [eg, e81]⟩
/-- queues that have no member of p's, as they were -/
theorem yI4_pk {A B : yA} {p : Int} (h : yI4 A) (h1 : yI1 A) (h3 : yI3 A) (hSt : ySt A B) (hk : yPk p A B) (hp : ∀ s, p ∉ yQ A s) (hQ : yQ B = yQ A) : yI4 B := by
  obtain ⟨g1, g2⟩ := h
  refine ⟨by rw [hQ]; exact g1, fun s r hr => ?_⟩
  rw [hQ] at hr ⊢
  obtain ⟨ra, rb, rs, rl, rm⟩ := g2 s r hr
  have hne : r ≠ p := fun e => hp s (e ▸ hr)
  have e85 := hk (85 + 9 * r) (by omega) (by have := h1.1; unfold yN at this; omega) (by omega)
  have e84 := hk (84 + 9 * r) (by omega) (by have := h1.1; unfold yN at this; omega) (by omega)
  have es := ySl_eq h1 h3 hSt ra rb e85 (by omega)
  obtain ⟨k1, k2, k3, k4, k5, k6, k7, -⟩ := yGt_ok h1 h3 ra rb (by omega)
  rw [hSt.1 3 (by unfold yStat; omega), e84, es.1, es.2, hSt.1 (17 + 3 * yGt A r) (by have := h1.1; unfold yN at this; unfold yStat; omega)]
  exact ⟨ra, rb, rs, rl, rm⟩
theorem yI5_st {A B : yA} (h : yI5 A) (hSt : ySt A B) (h0 : yS B 0 = yS A 0) (hC : yC B = yC A) : yI5 B := by
  unfold yI5
  rw [hC, h0, hSt.1 2 (by unfold yStat; omega)]
  exact h
theorem yTot_eq {A B : yA} {p : Int} (hN : yN A) (hSt : ySt A B) (hk : yPk p A B) (e : yS B (85 + 9 * p) = yS A (85 + 9 * p)) : yTot B = yTot A := by
  unfold yTot
  rw [hSt.1 3 (by unfold yStat; omega)]
  refine ySp2_eq (fun r a b => ?_)
  obtain ⟨n1, n2, n3, n4, n5, n6⟩ := hN
  by_cases q : r = p
  · rw [q]; exact e
  · exact hk _ (by omega) (by omega) (by omega)
theorem yI7_eq {A B : yA} (h : yI7 A) (hN : yN A) (hSt : ySt A B) (hT : yTot B = yTot A) (h0 : yS B 0 = yS A 0) (h7 : yS B 7 = yS A 7) (h8 : yS B 8 = yS A 8) (hb : ∀ f, 0 ≤ f → f < yS A 2 → yS B (35 + 8 * f) = yS A (35 + 8 * f)) : yI7 B := by
  obtain ⟨g1, g2⟩ := h
  unfold yI7
  rw [hT, h0, h7, h8]
  refine ⟨fun f a b => ?_, g2⟩
  rw [hSt.1 2 (by unfold yStat; omega)] at b
  rw [hb f a b]
  exact g1 f a b
/-- counts: packet p changes -/
theorem yI8_pk {A B : yA} {p : Int} (h : yI8 A) (h1 : yI1 A) (a : 0 ≤ p) (b : p < yS A 3) (hSt : ySt A B) (hk : yPk p A B)
    (h5 : yS B 5 = yS A 5 + ((if yS B (84 + 9 * p) = 3 then 1 else 0) - (if yS A (84 + 9 * p) = 3 then 1 else 0))) (h6 : yS B 6 = yS A 6 + ((if yS B (84 + 9 * p) = 4 then 1 else 0) - (if yS A (84 + 9 * p) = 4 then 1 else 0)))
    (h36 : ∀ f, 0 ≤ f → f < yS A 2 → yS B (36 + 8 * f) = yS A (36 + 8 * f) + ((if yS A (81 + 9 * p) = f ∧ yS B (84 + 9 * p) = 3 then yS A (83 + 9 * p) else 0) - (if yS A (81 + 9 * p) = f ∧ yS A (84 + 9 * p) = 3 then yS A (83 + 9 * p) else 0))) : yI8 B := by
  obtain ⟨g5, g6, g36⟩ := h
  obtain ⟨⟨n1, n2, n3, n4, n5, n6⟩, -⟩ := h1
  have e3 : yS B 3 = yS A 3 := hSt.1 3 (by unfold yStat; omega)
  have e2 : yS B 2 = yS A 2 := hSt.1 2 (by unfold yStat; omega)
  have hup : ∀ (hB hA : Int → Int), (∀ r, 0 ≤ r → r < yS A 3 → r ≠ p → hB r = hA r) → ySp2 hB (yS A 3).toNat = ySp2 hA (yS A 3).toNat + (hB p - hA p) := fun hB hA e => by
    have := ySp2_up (h := hA) (h' := fun r => if r = p then hB p else hA r) (p := p) (n := (yS A 3).toNat) a (by omega) (fun r hr => if_neg hr)
    rw [if_pos rfl] at this
    rw [← this]
    refine ySp2_eq (fun r ra rb => ?_)
    split
    · rename_i q; rw [q]
    · rename_i q; exact e r ra (by omega) q
  have hs : ∀ r, 0 ≤ r → r < yS A 3 → r ≠ p → yS B (84 + 9 * r) = yS A (84 + 9 * r) := fun r ra rb rn => hk _ (by omega) (by omega) (by omega)
  refine ⟨?_, ?_, fun f fa fb => ?_⟩
  · rw [e3, hup _ (fun r => if yS A (84 + 9 * r) = 3 then 1 else 0) (fun r ra rb rn => by simp only [hs r ra rb rn]), h5, g5]
  · rw [e3, hup _ (fun r => if yS A (84 + 9 * r) = 4 then 1 else 0) (fun r ra rb rn => by simp only [hs r ra rb rn]), h6, g6]
  · rw [e2] at fb
    rw [e3, hup _ (fun r => if yS A (81 + 9 * r) = f ∧ yS A (84 + 9 * r) = 3 then yS A (83 + 9 * r) else 0) (fun r ra rb rn => by
      simp only [hs r ra rb rn, hSt.1 (81 + 9 * r) (by unfold yStat; omega), hSt.1 (83 + 9 * r) (by unfold yStat; omega)]), h36 f fa fb, g36 f fa fb, hSt.1 (81 + 9 * p) (by unfold yStat; omega), hSt.1 (83 + 9 * p) (by unfold yStat; omega)]
theorem yI8_b {A : yA} (h : yI8 A) (h1 : yI1 A) : (0 ≤ yS A 5 ∧ yS A 5 ≤ 1000) ∧ (0 ≤ yS A 6 ∧ yS A 6 ≤ 1000) ∧ ∀ f, 0 ≤ f → f < yS A 2 → 0 ≤ yS A (36 + 8 * f) ∧ yS A (36 + 8 * f) ≤ 1000000 := by
  obtain ⟨g5, g6, g36⟩ := h
  obtain ⟨⟨n1, n2, n3, n4, n5, n6⟩, -, -, hp, -⟩ := h1
  have q5 := ySp2_ge (h := fun p => if yS A (84 + 9 * p) = 3 then (1 : Int) else 0) (b := 1) (n := (yS A 3).toNat) (fun p a b => by split <;> omega)
  have q6 := ySp2_ge (h := fun p => if yS A (84 + 9 * p) = 4 then (1 : Int) else 0) (b := 1) (n := (yS A 3).toNat) (fun p a b => by split <;> omega)
  refine ⟨by omega, by omega, fun f fa fb => ?_⟩
  have q := ySp2_ge (h := fun p => if yS A (81 + 9 * p) = f ∧ yS A (84 + 9 * p) = 3 then yS A (83 + 9 * p) else 0) (b := 999) (n := (yS A 3).toNat) (fun p a b => by
    have := hp p a (by omega)
    split <;> omega)
  have := g36 f fa fb
  omega
/-- a coupon more -/
theorem yI_C {A : yA} {C : List yCo} (hI : yI A) (hl : C.length ≤ 30) (hC : ∀ c ∈ C, 0 ≤ c.1 ∧ c.1 < yS A 2 ∧ 1 ≤ c.2.1 ∧ c.2.1 ≤ 9999 ∧ yS A 0 ≤ c.2.2.1 ∧ c.2.2.1 ≤ 40000 ∧ 0 ≤ c.2.2.2 ∧ c.2.2.2 ≤ 2) : yI (yCw A C) := by
  obtain ⟨h1, h2, h3, h4, h5, h6, h7, h8⟩ := hI
  exact ⟨h1, h2, h3, h4, ⟨hl, hC⟩, h6, h7, h8⟩
theorem yI_ref {A : yA} {f paid : Int} (hI : yI A) (hf : 0 ≤ f ∧ f < yS A 2) : yI (yRef f paid A) := by
  unfold yRef
  split
  · rename_i e
    have h5 := hI.2.2.2.2.1
    have h11 := hI.1.2.2.2.2.1
    have ht := hI.2.2.2.2.2.2.1.2.2.2.2.2
    refine yI_C hI (by simp; omega) (fun c hc => ?_)
    rcases List.mem_append.mp hc with hc | hc
    · exact h5.2 c hc
    · simp at hc
      subst hc
      dsimp only
      refine ⟨hf.1, hf.2, by omega, by unfold yRv; omega, by omega, by omega, by omega, by omega⟩
  · exact hI
theorem yI_arr {A : yA} {p : Int} (hI : yI A) (a : 0 ≤ p) (b : p < yS A 3) (hs : yS A (84 + 9 * p) ≤ 2) (hs1 : yS A (84 + 9 * p) ≠ 1) : yI (yArr p A) := by
  have hI0 := hI
  obtain ⟨h1, h2, h3, h4, h5, h6, h7, h8⟩ := hI
  obtain ⟨g1, g2, g3, g4, g5, g6, g7, g8, g9⟩ := yGt_ok h1 h3 a b hs
  obtain ⟨n1, n2, n3, n4, n5, n6⟩ := id h1.1
  have hnot : ∀ s, p ∉ yQ A s := fun s hm => hs1 (h4.2 s p hm).2.2.1
  have hp3 := h3 p a b
  have ht := h7.2.2.2.2.2
  unfold yArr
  split
  · rename_i hfull
    refine yI_ref ?_ (by rw [yS_w, yup_n (by omega), yS_w, yup_n (by omega), yS_w, yup_n (by omega)]; exact ⟨g1, g2⟩)
    have hSt : ySt A (yw (yw (yw A (84 + 9 * p) 4) (87 + 9 * p) (yS A 0)) 6 (yS A 6 + 1)) := ySt_trans (ySt_trans (ySt_w (by unfold yStat; omega)) (ySt_w (by unfold yStat; omega))) (ySt_w (by unfold yStat; omega))
    have hS : ∀ k, k ≠ 84 + 9 * p → k ≠ 87 + 9 * p → k ≠ 6 → yS (yw (yw (yw A (84 + 9 * p) 4) (87 + 9 * p) (yS A 0)) 6 (yS A 6 + 1)) k = yS A k := fun k q1 q2 q3 => by rw [yS_w, yup_n q3, yS_w, yup_n q2, yS_w, yup_n q1]
    have e84 : yS (yw (yw (yw A (84 + 9 * p) 4) (87 + 9 * p) (yS A 0)) 6 (yS A 6 + 1)) (84 + 9 * p) = 4 := by rw [yS_w, yup_n (by omega), yS_w, yup_n (by omega), yS_w, yup_s]
    have e87 : yS (yw (yw (yw A (84 + 9 * p) 4) (87 + 9 * p) (yS A 0)) 6 (yS A 6 + 1)) (87 + 9 * p) = yS A 0 := by rw [yS_w, yup_n (by omega), yS_w, yup_s]
    have e6 : yS (yw (yw (yw A (84 + 9 * p) 4) (87 + 9 * p) (yS A 0)) 6 (yS A 6 + 1)) 6 = yS A 6 + 1 := by rw [yS_w, yup_s]
    have hQ : yQ (yw (yw (yw A (84 + 9 * p) 4) (87 + 9 * p) (yS A 0)) 6 (yS A 6 + 1)) = yQ A := rfl
    have hC : yC (yw (yw (yw A (84 + 9 * p) 4) (87 + 9 * p) (yS A 0)) 6 (yS A 6 + 1)) = yC A := rfl
    have hP : yP (yw (yw (yw A (84 + 9 * p) 4) (87 + 9 * p) (yS A 0)) 6 (yS A 6 + 1)) = yP A := rfl
    generalize yw (yw (yw A (84 + 9 * p) 4) (87 + 9 * p) (yS A 0)) 6 (yS A 6 + 1) = B at *
    have hk : yPk p A B := fun k k1 k2 k3 => hS k (by omega) (by omega) (by omega)
    refine ⟨yI1_st hSt h1, yI2_eq h2 h1.1 hSt (fun k k1 k2 => hS k (by omega) (by omega) (by omega)), yI3_pk h3 h1 hSt (hS 0 (by omega) (by omega) (by omega)) hk (fun _ _ => ?_), yI4_pk h4 h1 h3 hSt hk hnot hQ, yI5_st h5 hSt (hS 0 (by omega) (by omega) (by omega)) hC, by unfold yI6; rw [hP]; exact h6, yI7_eq h7 h1.1 hSt (yTot_eq h1.1 hSt hk (hS _ (by omega) (by omega) (by omega))) (hS 0 (by omega) (by omega) (by omega)) (hS 7 (by omega) (by omega) (by omega)) (hS 8 (by omega) (by omega) (by omega)) (fun f f0 f1 => hS _ (by omega) (by omega) (by omega)), yI8_pk h8 h1 a b hSt hk ?_ ?_ (fun f f0 f1 => ?_)⟩
    · rw [e84, e87, hS (85 + 9 * p) (by omega) (by omega) (by omega), hS (86 + 9 * p) (by omega) (by omega) (by omega), hS (88 + 9 * p) (by omega) (by omega) (by omega)]
      omega
    · rw [hS 5 (by omega) (by omega) (by omega), e84, if_neg (by omega), if_neg (by omega)]; omega
    · rw [e6, e84, if_pos rfl, if_neg (by omega)]; omega
    · rw [hS (36 + 8 * f) (by omega) (by omega) (by omega), e84, if_neg (by omega), if_neg (by omega)]; omega
  · rename_i hroom
    have hSt : ySt A (yqw (yw (yw A (84 + 9 * p) 1) (88 + 9 * p) (yS A 0)) (ySl A p) (yQ A (ySl A p) ++ [p])) := ySt_trans (ySt_w (k := 84 + 9 * p) (v := 1) (by unfold yStat; omega)) (ySt_w (k := 88 + 9 * p) (v := yS A 0) (by unfold yStat; omega))
    have hS : ∀ k, k ≠ 84 + 9 * p → k ≠ 88 + 9 * p → yS (yqw (yw (yw A (84 + 9 * p) 1) (88 + 9 * p) (yS A 0)) (ySl A p) (yQ A (ySl A p) ++ [p])) k = yS A k := fun k q1 q2 => by rw [yS_q, yS_w, yup_n q2, yS_w, yup_n q1]
    have e84 : yS (yqw (yw (yw A (84 + 9 * p) 1) (88 + 9 * p) (yS A 0)) (ySl A p) (yQ A (ySl A p) ++ [p])) (84 + 9 * p) = 1 := by rw [yS_q, yS_w, yup_n (by omega), yS_w, yup_s]
    have e88 : yS (yqw (yw (yw A (84 + 9 * p) 1) (88 + 9 * p) (yS A 0)) (ySl A p) (yQ A (ySl A p) ++ [p])) (88 + 9 * p) = yS A 0 := by rw [yS_q, yS_w, yup_s]
    have hQ : yQ (yqw (yw (yw A (84 + 9 * p) 1) (88 + 9 * p) (yS A 0)) (ySl A p) (yQ A (ySl A p) ++ [p])) = yqu (yQ A) (ySl A p) (yQ A (ySl A p) ++ [p]) := rfl
    have hC : yC (yqw (yw (yw A (84 + 9 * p) 1) (88 + 9 * p) (yS A 0)) (ySl A p) (yQ A (ySl A p) ++ [p])) = yC A := rfl
    have hP : yP (yqw (yw (yw A (84 + 9 * p) 1) (88 + 9 * p) (yS A 0)) (ySl A p) (yQ A (ySl A p) ++ [p])) = yP A := rfl
    generalize yqw (yw (yw A (84 + 9 * p) 1) (88 + 9 * p) (yS A 0)) (ySl A p) (yQ A (ySl A p) ++ [p]) = B at *
    have hk : yPk p A B := fun k k1 k2 k3 => hS k (by omega) (by omega)
    have hpg := h1.2.1 _ g6 g7
    refine ⟨yI1_st hSt h1, yI2_eq h2 h1.1 hSt (fun k k1 k2 => hS k (by omega) (by omega)), yI3_pk h3 h1 hSt (hS 0 (by omega) (by omega)) hk (fun _ _ => ?_), ⟨?_, fun s r hr => ?_⟩, yI5_st h5 hSt (hS 0 (by omega) (by omega)) hC, by unfold yI6; rw [hP]; exact h6, yI7_eq h7 h1.1 hSt (yTot_eq h1.1 hSt hk (hS _ (by omega) (by omega))) (hS 0 (by omega) (by omega)) (hS 7 (by omega) (by omega)) (hS 8 (by omega) (by omega)) (fun f f0 f1 => hS _ (by omega) (by omega)), yI8_pk h8 h1 a b hSt hk ?_ ?_ (fun f f0 f1 => ?_)⟩
    · rw [e84, e88, hS (85 + 9 * p) (by omega) (by omega), hS (86 + 9 * p) (by omega) (by omega), hS (87 + 9 * p) (by omega) (by omega)]
      omega
    · rw [hQ]
      obtain ⟨q1, q2⟩ := h4.1
      have hmem : ∀ s r, r ∈ yqu (yQ A) (ySl A p) (yQ A (ySl A p) ++ [p]) s → r ∈ yQ A s ∨ (r = p ∧ s = ySl A p) := fun s r hr => by
        unfold yqu at hr
        split at hr
        · rename_i e
          rcases List.mem_append.mp hr with hr | hr
          · left; rw [e]; exact hr
          · simp at hr; exact Or.inr ⟨hr, e⟩
        · exact Or.inl hr
      refine ⟨fun s => ⟨?_, ?_, fun r hr => ?_⟩, fun s s' r hr hr' => ?_⟩
      · unfold yqu
        split
        · rw [List.nodup_append]
          exact ⟨(q1 _).1, by simp, fun x hx y hy => by simp at hy; subst hy; exact fun e => hnot _ (e ▸ hx)⟩
        · exact (q1 s).1
      · unfold yqu
        split
        · simp; omega
        · exact (q1 s).2.1
      · rcases hmem s r hr with hr | ⟨rfl, -⟩
        · exact (q1 s).2.2 r hr
        · exact ⟨a, by omega⟩
      · rcases hmem s r hr with hr | ⟨rfl, rfl⟩ <;> rcases hmem s' r hr' with hr' | ⟨e, e'⟩
        · exact q2 s s' r hr hr'
        · exact absurd (e ▸ hr) (hnot s)
        · exact absurd hr' (hnot s')
        · exact e'.symm
    · rw [hQ] at hr ⊢
      have hc : r ∈ yQ A s ∨ (r = p ∧ s = ySl A p) := by
        unfold yqu at hr
        split at hr
        · rename_i e
          rcases List.mem_append.mp hr with hr | hr
          · left; rw [e]; exact hr
          · simp at hr; exact Or.inr ⟨hr, e⟩
        · exact Or.inl hr
      have e3 : yS B 3 = yS A 3 := hS 3 (by omega) (by omega)
      have e85 : ∀ r, yS B (85 + 9 * r) = yS A (85 + 9 * r) := fun r => hS _ (by omega) (by omega)
      rcases hc with hm | ⟨rfl, rfl⟩
      · obtain ⟨ra, rb, rs, rl, rm⟩ := h4.2 s r hm
        have hne : r ≠ p := fun e => hnot s (e ▸ hm)
        have es := ySl_eq h1 h3 hSt ra rb (e85 r) (by omega)
        obtain ⟨k1, k2, k3, k4, k5, k6, k7, -⟩ := yGt_ok h1 h3 ra rb (by omega)
        rw [e3, hS (84 + 9 * r) (by omega) (by omega), es.1, es.2, hS (17 + 3 * yGt A r) (by omega) (by omega)]
        refine ⟨ra, rb, rs, rl, ?_⟩
        unfold yqu
        split
        · rename_i e
          have : yGt A p = yGt A r := by rw [e] at rl; unfold ySl at rl; omega
          rw [← this]; simp; omega
        · exact rm
      · have es := ySl_eq h1 h3 hSt a b (e85 r) hs
        rw [e3, e84, es.1, es.2, hS (17 + 3 * yGt A r) (by omega) (by omega)]
        refine ⟨a, b, rfl, rfl, ?_⟩
        unfold yqu
        rw [if_pos rfl]
        simp; omega
    · rw [hS 5 (by omega) (by omega), e84, if_neg (by omega), if_neg (by omega)]; omega
    · rw [hS 6 (by omega) (by omega), e84, if_neg (by omega), if_neg (by omega)]; omega
    · rw [hS (36 + 8 * f) (by omega) (by omega), e84, if_neg (by omega), if_neg (by omega)]; omega
