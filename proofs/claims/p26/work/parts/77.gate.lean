/-! LAYER 2, load: the statement gate -/
def zGa (A : yA) (r d q : Int) : yA := (fun k => if k = 1 then yS A 1 + 1 else if k = 15 + 3 * yS A 1 then r else if k = 16 + 3 * yS A 1 then d else if k = 17 + 3 * yS A 1 then q else yS A k, A.2)
/-! what the model does behind the first word -/
section ZGA
variable {b : Nat → Int} {n x m F : Nat} {B M M' : xMe} {s s' : zS} {Q : xMe → Prop} {R : Int → xMe → Prop} {d q r k v : Int} {A A' : yA}
theorem zGa_1 : yS (zGa A r d q) 1 = yS A 1 + 1 := by
  unfold zGa
  rfl
theorem zGa_r (hN : 0 ≤ yS A 1) : yS (zGa A r d q) (15 + 3 * yS A 1) = r := by
  show (if _ then _ else if _ then _ else _) = _
  rw [if_neg (by omega), if_pos rfl]
theorem zGa_d (hN : 0 ≤ yS A 1) : yS (zGa A r d q) (16 + 3 * yS A 1) = d := by
  show (if _ then _ else if _ then _ else if _ then _ else _) = _
  rw [if_neg (by omega), if_neg (by omega), if_pos rfl]
theorem zGa_q (hN : 0 ≤ yS A 1) : yS (zGa A r d q) (17 + 3 * yS A 1) = q := by
  show (if _ then _ else if _ then _ else if _ then _ else if _ then _ else _) = _
  rw [if_neg (by omega), if_neg (by omega), if_neg (by omega), if_pos rfl]
theorem zGa_n (h1 : k ≠ 1) (h2 : ¬ (15 + 3 * yS A 1 ≤ k ∧ k ≤ 17 + 3 * yS A 1)) : yS (zGa A r d q) k = yS A k := by
  show (if _ then _ else if _ then _ else if _ then _ else if _ then _ else _) = _
  rw [if_neg h1, if_neg (by omega), if_neg (by omega), if_neg (by omega)]
theorem zI_ga (h : zI A) (h6 : yS A 1 < 6) (r0 : 0 ≤ r ∧ r ≤ 99) (d0 : 1 ≤ d ∧ d ≤ 999) (q0 : 1 ≤ q ∧ q ≤ 20) : zI (zGa A r d q) := by
  obtain ⟨h1, h2, h3, h4, h5, h6', h7, h8, h9, h10, h11⟩ := h
  obtain ⟨n1, n2, n3, n4, n5, n6⟩ := id h1
  have e1 : yS (zGa A r d q) 1 = yS A 1 + 1 := zGa_1
  have er := zGa_r (r := r) (d := d) (q := q) n1
  have ed := zGa_d (r := r) (d := d) (q := q) n1
  have eq := zGa_q (r := r) (d := d) (q := q) n1
  have e : ∀ k, k ≠ 1 → ¬ (15 + 3 * yS A 1 ≤ k ∧ k ≤ 17 + 3 * yS A 1) → yS (zGa A r d q) k = yS A k := fun k c1 c2 => zGa_n c1 c2
  have eC : yC (zGa A r d q) = yC A := rfl
  have eP : yP (zGa A r d q) = yP A := rfl
  have eQ : yQ (zGa A r d q) = yQ A := rfl
  generalize zGa A r d q = A' at *
  refine ⟨?_, fun g g0 g1 => ?_, fun g g0 g1 => ?_, fun p p0 p1 => ?_, ?_, ?_, fun f f0 f1 => ?_, fun k hk => ?_, ?_, eP.trans h10, eQ.trans h11⟩
  · unfold yN; rw [e1, e 2 (by decide) (by omega), e 3 (by decide) (by omega)]; omega
  · rw [e1] at g1
    by_cases c : g = yS A 1
    · rw [c, er, ed, eq]; omega
    · rw [e _ (by omega) (by omega), e _ (by omega) (by omega), e _ (by omega) (by omega)]; exact h2 g g0 (by omega)
  · rw [e 2 (by decide) (by omega)] at g1
    rw [e (33 + 8 * g) (by omega) (by omega), e (34 + 8 * g) (by omega) (by omega), e1]
    obtain ⟨a1, a2, a3, a4, a5⟩ := h3 g g0 g1
    exact ⟨a1, a2, a3, a4, fun j j0 j1 => by rw [e _ (by omega) (by omega)]; have := a5 j j0 j1; omega⟩
  · rw [e 3 (by decide) (by omega)] at p1
    rw [e (81 + 9 * p) (by omega) (by omega), e (82 + 9 * p) (by omega) (by omega), e (83 + 9 * p) (by omega) (by omega), e (84 + 9 * p) (by omega) (by omega), e (85 + 9 * p) (by omega) (by omega), e (86 + 9 * p) (by omega) (by omega), e (87 + 9 * p) (by omega) (by omega), e (88 + 9 * p) (by omega) (by omega), e 2 (by decide) (by omega)]; exact h4 p p0 p1
  · rw [e 9 (by decide) (by omega), e 10 (by decide) (by omega), e 11 (by decide) (by omega)]; exact h5
  · rw [e 0 (by decide) (by omega), e 5 (by decide) (by omega), e 6 (by decide) (by omega), e 7 (by decide) (by omega), e 8 (by decide) (by omega)]; exact h6'
  · rw [e (35 + 8 * f) (by omega) (by omega), e (36 + 8 * f) (by omega) (by omega), e (34 + 8 * f) (by omega) (by omega), e 2 (by decide) (by omega)]; exact h7 f f0 f1
  · rw [e _ (by omega) (by omega)]; exact h8 k hk
  · rw [eC, e 2 (by decide) (by omega)]; exact h9
theorem zC_ga {N : Nat} (hI : zI A) (hN : yS A 1 = (N : Int)) (h6 : N < 6) (h : zR (x + 4) M A) (h3 : M (x + 5) 3 = (N : Int)) (hq : ∀ M', zR (x + 4) M' (zGa A r d q) → (∀ c, ¬ (x + 5 ≤ c ∧ c ≤ x + 8) → M' c = M c) → Q M') : p_X2_add (x + 5) r d q M Q := by
  unfold p_X2_add
  rw [h3, Int.toNat_natCast]
  refine ⟨fun c => by omega, fun _ => ⟨fun _ => ⟨⟨by omega, by omega⟩, fun M1 e1 => ?_⟩, fun c => by omega⟩⟩
  have k1 : M1 (x + 5) 3 = (N : Int) := by rw [e1, xw_b (by omega)]; exact h3
  rw [k1, Int.toNat_natCast]
  refine ⟨⟨by omega, by omega⟩, fun M2 e2 => ?_⟩
  have k2 : M2 (x + 5) 3 = (N : Int) := by rw [e2, xw_b (by omega)]; exact k1
  rw [k2, Int.toNat_natCast]
  refine ⟨⟨by omega, by omega⟩, fun M3 e3 => ?_⟩
  have k3 : M3 (x + 5) 3 = (N : Int) := by rw [e3, xw_b (by omega)]; exact k2
  rw [k3]
  refine ⟨⟨by omega, by omega⟩, fun M4 e4 => hq M4 ?_ (fun c hc => by rw [e4, xw_B (by omega), e3, xw_B (by omega), e2, xw_B (by omega), e1, xw_B (by omega)])⟩
  have n1 : 0 ≤ yS A 1 := by omega
  have eo : ∀ c, ¬ (x + 5 ≤ c ∧ c ≤ x + 8) → M4 c = M c := fun c hc => by rw [e4, xw_B (by omega), e3, xw_B (by omega), e2, xw_B (by omega), e1, xw_B (by omega)]
  have hN' := hI.1
  obtain ⟨n1', n2, n3, n4, n5, n6⟩ := hN'
  intro o i k ho hl
  have old : yL A o i k → k ≠ 1 → ¬ (15 + 3 * yS A 1 ≤ k ∧ k ≤ 17 + 3 * yS A 1) → M4 (x + 4 + o) i.toNat = M (x + 4 + o) i.toNat → M4 (x + 4 + o) i.toNat = yS (zGa A r d q) k := fun l c1 c2 c3 => by
    rw [c3, zGa_n c1 c2]; exact h o i k ho l
  have e2' : yS (zGa A r d q) 2 = yS A 2 := zGa_n (by decide) (by omega)
  have e3' : yS (zGa A r d q) 3 = yS A 3 := zGa_n (by decide) (by omega)
  have row : ∀ o' : Nat, o' < 25 → ¬ (1 ≤ o' ∧ o' ≤ 4) → M4 (x + 4 + o') = M (x + 4 + o') := fun o' _ c => eo _ (by omega)
  have hl0 := hl
  unfold yL at hl
  split at hl
  · exact old (by unfold yL; exact hl) (by omega) (by omega) (by rw [row _ (by omega) (by omega)])
  · obtain ⟨rfl, rfl⟩ := hl
    rw [zGa_1, e4, show x + 4 + 1 = x + 5 by omega, show (3 : Int).toNat = 3 from rfl, xw_s]; omega
  · obtain ⟨i0, i1, rfl⟩ := hl
    rw [zGa_1] at i1
    have er : M4 (x + 4 + 2) i.toNat = xw M (x + 5 + 1) N r (x + 4 + 2) i.toNat := by rw [e4, xw_b (by omega), e3, xw_b (by omega), e2, xw_b (by omega), e1]
    by_cases c : i = yS A 1
    · rw [er, c, hN, Int.toNat_natCast, show x + 4 + 2 = x + 5 + 1 by omega, xw_s, ← hN, zGa_r n1]
    · exact old ⟨i0, by omega, rfl⟩ (by omega) (by omega) (by rw [er, xw_j (by omega)])
  · obtain ⟨i0, i1, rfl⟩ := hl
    rw [zGa_1] at i1
    have er : M4 (x + 4 + 3) i.toNat = xw M1 (x + 5 + 2) N d (x + 4 + 3) i.toNat := by rw [e4, xw_b (by omega), e3, xw_b (by omega), e2]
    by_cases c : i = yS A 1
    · rw [er, c, hN, Int.toNat_natCast, show x + 4 + 3 = x + 5 + 2 by omega, xw_s, ← hN, zGa_d n1]
    · exact old ⟨i0, by omega, rfl⟩ (by omega) (by omega) (by rw [er, xw_j (by omega), e1, xw_b (by omega)])
  · obtain ⟨i0, i1, rfl⟩ := hl
    rw [zGa_1] at i1
    have er : M4 (x + 4 + 4) i.toNat = xw M2 (x + 5 + 3) N q (x + 4 + 4) i.toNat := by rw [e4, xw_b (by omega), e3]
    by_cases c : i = yS A 1
    · rw [er, c, hN, Int.toNat_natCast, show x + 4 + 4 = x + 5 + 3 by omega, xw_s, ← hN, zGa_q n1]
    · exact old ⟨i0, by omega, rfl⟩ (by omega) (by omega) (by rw [er, xw_j (by omega), e2, xw_b (by omega), e1, xw_b (by omega)])
  · exact old (by unfold yL; exact hl) (by omega) (by omega) (by rw [row _ (by omega) (by omega)])
  · obtain ⟨f, j, a1, a2, a3, a4, a5, a6, a7⟩ := hl
    rw [e2'] at a2
    rw [zGa_n (by omega) (by omega)] at a4
    exact old ⟨f, j, a1, a2, a3, a4, a5, a6, a7⟩ (by omega) (by omega) (by rw [row _ (by omega) (by omega)])
  · rw [e2'] at hl; exact old hl (by omega) (by omega) (by rw [row _ (by omega) (by omega)])
  · rw [e2'] at hl; exact old hl (by omega) (by omega) (by rw [row _ (by omega) (by omega)])
  · rw [e2'] at hl; exact old hl (by omega) (by omega) (by rw [row _ (by omega) (by omega)])
  · exact absurd rfl ho
  · exact old (by unfold yL; exact hl) (by omega) (by omega) (by rw [row _ (by omega) (by omega)])
  all_goals first
    | (rw [e3'] at hl; exact old hl (by omega) (by omega) (by rw [row _ (by omega) (by omega)]))
    | exact hl.elim
theorem zD_ga {c N : Nat} (hI : zI A) (hN : yS A 1 = (N : Int)) (h6 : N < 6) (h : zD c M A) (g1 : M' c 1 = (N : Int) + 1) (g2 : M' c (15 + 3 * N) = r) (g3 : M' c (16 + 3 * N) = d) (g4 : M' c (17 + 3 * N) = q) (g5 : ∀ j, j ≠ 1 → ¬ (15 + 3 * N ≤ j ∧ j ≤ 17 + 3 * N) → M' c j = M c j) : zD c M' (zGa A r d q) := by
  have n1 := hI.1.1
  obtain ⟨d1, d2, d3, d4, d5⟩ := h
  refine ⟨fun k hk => ?_, ⟨by rw [g5 _ (by omega) (by omega)]; exact d2.1, fun i w hw => ?_⟩, by rw [g5 _ (by omega) (by omega)]; exact d3, fun g g0 g1 => by rw [g5 _ (by omega) (by omega)]; exact d4 g g0 g1, by rw [g5 _ (by omega) (by omega)]; exact d5.1, fun j w hw => by rw [g5 _ (by omega) (by omega)]; exact d5.2 j w hw⟩
  · have hk' := hk
    unfold yG at hk'
    by_cases c1 : k = 1
    · subst c1; rw [zGa_1, hN]; exact g1
    · by_cases c2 : k = 15 + 3 * yS A 1
      · rw [c2, zGa_r n1, hN, show (15 + 3 * (N : Int)).toNat = 15 + 3 * N by omega]; exact g2
      · by_cases c3 : k = 16 + 3 * yS A 1
        · rw [c3, zGa_d n1, hN, show (16 + 3 * (N : Int)).toNat = 16 + 3 * N by omega]; exact g3
        · by_cases c4 : k = 17 + 3 * yS A 1
          · rw [c4, zGa_q n1, hN, show (17 + 3 * (N : Int)).toNat = 17 + 3 * N by omega]; exact g4
          · rw [zGa_n c1 (by omega), g5 _ (by omega) (by omega)]; exact d1 k hk
  · have a := d2.2 i w hw
    rw [g5 _ (by omega) (by omega), g5 _ (by omega) (by omega), g5 _ (by omega) (by omega), g5 _ (by omega) (by omega)]; exact a
/-- the model's state behind a change of the draft -/
theorem zM_dr (h0 : s.e = 0) (h : zM b n m B d s M) (fB : ∀ c, c ≠ m + 3 → M' c = M c) (hN : yN A') (hd : zD (m + 3) M' A') : zM b n m B d (zX s A' s.u) M' := by
  obtain ⟨a1, a2, a3⟩ := h.2.2.2.2.2.2.2 h0
  obtain ⟨n1, n2, n3, n4, n5, n6⟩ := hN
  have e2 : M' (m + 3) 2 = yS A' 2 := hd.1 2 (by unfold yG; omega)
  exact zM_f (s' := zX s A' s.u) h (by rw [fB _ (by omega)]; exact h.1.1) (by rw [fB _ (by omega)]; exact h.1.2) (by rw [fB _ (by omega)]; exact h.2.2.2.1) (by omega) (fun c _ c2 => fB c c2) (fun j _ _ => by rw [fB _ (by omega)]) (fun _ => ⟨by rw [fB _ (by omega)]; exact a1, hd, by rw [fB _ (by omega)]; exact a3⟩) d (by rw [fB _ (by omega)]; exact h.2.2.1)
theorem zCd_dr {u : Int × Int × Int} (h : zCd x A u M) (hR : zR (x + 4) M' A') (hU : yU (x + 29) M' (yC A')) (eK : yK A' = yK A) (e1 : M' (x + 1) = M (x + 1)) (e34 : M' (x + 34) = M (x + 34)) (e43 : M' (x + 43) = M (x + 43)) : zCd x A' u M' := by
  obtain ⟨h1, h2, h3, h4, h5⟩ := h
  refine ⟨hR, hU, by rw [e34]; exact h3, by rw [e1]; exact h4, ?_⟩
  rw [e1, e43, eK]; exact h5
theorem yU_row {C : List yCo} {c : Nat} (h : yU c M C) (e : ∀ b, c ≤ b → b ≤ c + 4 → M' b = M b) : yU c M' C := by
  unfold yU at *
  rw [e c (by omega) (by omega), e (c + 1) (by omega) (by omega), e (c + 2) (by omega) (by omega), e (c + 3) (by omega) (by omega), e (c + 4) (by omega) (by omega)]; exact h
end ZGA
