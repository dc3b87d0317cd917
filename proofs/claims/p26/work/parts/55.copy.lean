/-! COPIES of a World -/
theorem s_copyRow {b0 n0 b1 n1 : Nat} {x : Int} {M : xMe} {Q : xMe → Prop} (h0 : x ≤ n0) (h1 : x ≤ n1) (hq : ∀ M', (∀ b, b ≠ b1 → M' b = M b) → (∀ j : Nat, (j : Int) < x → M' b1 j = M b0 j) → Q M') : p_X11_copyRow b0 n0 b1 n1 x M Q := by
  unfold p_X11_copyRow
  refine ⟨fun h => hq M (fun _ _ => rfl) (fun j hj => by omega), fun h => ⟨fun q => absurd q (by omega), fun _ => ⟨fun q => absurd q (by omega), fun _ => ⟨⟨⟨by decide, by decide, by omega⟩, by omega, by omega⟩, fun M1 e1 => hq M1 (fun b hb => ?_) (fun j hj => ?_)⟩⟩⟩⟩
  · subst e1; funext j; unfold xcp; rw [if_neg hb]
  · subst e1; unfold xcp; rw [if_pos rfl, if_pos ⟨Nat.zero_le _, by omega⟩]; simp
theorem s_X2_copyFrom {a b : Nat} {M : xMe} {Q : xMe → Prop} (hab : a + 4 ≤ b ∨ b + 4 ≤ a) (hc : 0 ≤ M b 3 ∧ M b 3 ≤ 6) (hq : ∀ M', M' a 3 = M b 3 → (∀ j : Nat, (j : Int) < M b 3 → M' (a + 1) j = M (b + 1) j) → (∀ j : Nat, (j : Int) < M b 3 → M' (a + 2) j = M (b + 2) j) → (∀ j : Nat, (j : Int) < M b 3 → M' (a + 3) j = M (b + 3) j) → (∀ c, c < a ∨ a + 4 ≤ c → M' c = M c) → Q M') : p_X2_copyFrom a b M Q := by
  unfold p_X2_copyFrom
  intro M1 e1
  have g2 : M1 a 3 = M b 3 := by
    rw [e1, xw_s]
  rw [g2]
  refine s_copyRow (by omega) (by omega) (fun M2 f2 r2 => ?_)
  have g3 : M2 a 3 = M b 3 := by
    rw [show M2 a = M1 a from f2 a (by omega)]
    rw [e1, xw_s]
  rw [g3]
  refine s_copyRow (by omega) (by omega) (fun M3 f3 r3 => ?_)
  have g4 : M3 a 3 = M b 3 := by
    rw [show M3 a = M2 a from f3 a (by omega)]
    rw [show M2 a = M1 a from f2 a (by omega)]
    rw [e1, xw_s]
  rw [g4]
  refine s_copyRow (by omega) (by omega) (fun M4 f4 r4 => ?_)
  have fr : ∀ c, c < a ∨ a + 4 ≤ c → M4 c = M c := fun c hc => by
    rw [f4 c (by omega)]
    rw [f3 c (by omega)]
    rw [f2 c (by omega)]
    rw [e1, xw_B (by omega)]
  have p0 : M4 a 3 = M b 3 := by
    rw [f4 a (by omega)]
    rw [f3 a (by omega)]
    rw [f2 a (by omega)]
    rw [e1, xw_s]
  have p1 : ∀ j : Nat, (j : Int) < M b 3 → M4 (a + 1) j = M (b + 1) j := fun j hj => by
    rw [f4 (a + 1) (by omega)]
    rw [f3 (a + 1) (by omega)]
    rw [r2 j hj]
    rw [e1, xw_b (by omega)]
  have p2 : ∀ j : Nat, (j : Int) < M b 3 → M4 (a + 2) j = M (b + 2) j := fun j hj => by
    rw [f4 (a + 2) (by omega)]
    rw [r3 j hj]
    rw [f2 (b + 2) (by omega)]
    rw [e1, xw_b (by omega)]
  have p3 : ∀ j : Nat, (j : Int) < M b 3 → M4 (a + 3) j = M (b + 3) j := fun j hj => by
    rw [r4 j hj]
    rw [f3 (b + 3) (by omega)]
    rw [f2 (b + 3) (by omega)]
    rw [e1, xw_b (by omega)]
  exact hq M4 p0 p1 p2 p3 fr
theorem s_X1_copyFrom {a b : Nat} {M : xMe} {Q : xMe → Prop} (hab : a + 5 ≤ b ∨ b + 5 ≤ a) (hc : 0 ≤ M b 4 ∧ M b 4 ≤ 6) (hq : ∀ M', M' a 4 = M b 4 → (∀ j : Nat, (j : Int) < M b 4 * 4 → M' (a + 1) j = M (b + 1) j) → (∀ j : Nat, (j : Int) < M b 4 → M' (a + 2) j = M (b + 2) j) → (∀ j : Nat, (j : Int) < M b 4 → M' (a + 3) j = M (b + 3) j) → (∀ j : Nat, (j : Int) < M b 4 → M' (a + 4) j = M (b + 4) j) → (∀ c, c < a ∨ a + 5 ≤ c → M' c = M c) → Q M') : p_X1_copyFrom a b M Q := by
  unfold p_X1_copyFrom
  intro M1 e1
  rw [show M1 a 4 = M b 4 by rw [e1, xw_s]]
  refine ⟨⟨by omega, by omega⟩, ?_⟩
  refine s_copyRow (by omega) (by omega) (fun M2 f2 r2 => ?_)
  have g3 : M2 a 4 = M b 4 := by
    rw [show M2 a = M1 a from f2 a (by omega)]
    rw [e1, xw_s]
  rw [g3]
  refine s_copyRow (by omega) (by omega) (fun M3 f3 r3 => ?_)
  have g4 : M3 a 4 = M b 4 := by
    rw [show M3 a = M2 a from f3 a (by omega)]
    rw [show M2 a = M1 a from f2 a (by omega)]
    rw [e1, xw_s]
  rw [g4]
  refine s_copyRow (by omega) (by omega) (fun M4 f4 r4 => ?_)
  have g5 : M4 a 4 = M b 4 := by
    rw [show M4 a = M3 a from f4 a (by omega)]
    rw [show M3 a = M2 a from f3 a (by omega)]
    rw [show M2 a = M1 a from f2 a (by omega)]
    rw [e1, xw_s]
  rw [g5]
  refine s_copyRow (by omega) (by omega) (fun M5 f5 r5 => ?_)
  have fr : ∀ c, c < a ∨ a + 5 ≤ c → M5 c = M c := fun c hc => by
    rw [f5 c (by omega)]
    rw [f4 c (by omega)]
    rw [f3 c (by omega)]
    rw [f2 c (by omega)]
    rw [e1, xw_B (by omega)]
  have p0 : M5 a 4 = M b 4 := by
    rw [f5 a (by omega)]
    rw [f4 a (by omega)]
    rw [f3 a (by omega)]
    rw [f2 a (by omega)]
    rw [e1, xw_s]
  have p1 : ∀ j : Nat, (j : Int) < M b 4 * 4 → M5 (a + 1) j = M (b + 1) j := fun j hj => by
    rw [f5 (a + 1) (by omega)]
    rw [f4 (a + 1) (by omega)]
    rw [f3 (a + 1) (by omega)]
    rw [r2 j hj]
    rw [e1, xw_b (by omega)]
  have p2 : ∀ j : Nat, (j : Int) < M b 4 → M5 (a + 2) j = M (b + 2) j := fun j hj => by
    rw [f5 (a + 2) (by omega)]
    rw [f4 (a + 2) (by omega)]
    rw [r3 j hj]
    rw [f2 (b + 2) (by omega)]
    rw [e1, xw_b (by omega)]
  have p3 : ∀ j : Nat, (j : Int) < M b 4 → M5 (a + 3) j = M (b + 3) j := fun j hj => by
    rw [f5 (a + 3) (by omega)]
    rw [r4 j hj]
    rw [f3 (b + 3) (by omega)]
    rw [f2 (b + 3) (by omega)]
    rw [e1, xw_b (by omega)]
  have p4 : ∀ j : Nat, (j : Int) < M b 4 → M5 (a + 4) j = M (b + 4) j := fun j hj => by
    rw [r5 j hj]
    rw [f4 (b + 4) (by omega)]
    rw [f3 (b + 4) (by omega)]
    rw [f2 (b + 4) (by omega)]
    rw [e1, xw_b (by omega)]
  exact hq M5 p0 p1 p2 p3 p4 fr
theorem s_X4_copyFrom {a b : Nat} {M : xMe} {Q : xMe → Prop} (hab : a + 6 ≤ b ∨ b + 6 ≤ a) (hq : ∀ M', (∀ j : Nat, (j : Int) < 36 → M' (a + 1) j = M (b + 1) j) → (∀ j : Nat, (j : Int) < 36 → M' (a + 2) j = M (b + 2) j) → (∀ j : Nat, (j : Int) < 36 → M' (a + 3) j = M (b + 3) j) → (∀ j : Nat, (j : Int) < 36 → M' (a + 4) j = M (b + 4) j) → (∀ j : Nat, (j : Int) < 40 → M' (a + 5) j = M (b + 5) j) → (∀ c, c < a ∨ a + 6 ≤ c → M' c = M c) → Q M') : p_X4_copyFrom a b M Q := by
  unfold p_X4_copyFrom
  refine s_copyRow (by omega) (by omega) (fun M1 f1 r1 => ?_)
  refine s_copyRow (by omega) (by omega) (fun M2 f2 r2 => ?_)
  refine s_copyRow (by omega) (by omega) (fun M3 f3 r3 => ?_)
  refine s_copyRow (by omega) (by omega) (fun M4 f4 r4 => ?_)
  refine s_copyRow (by omega) (by omega) (fun M5 f5 r5 => ?_)
  have fr : ∀ c, c < a ∨ a + 6 ≤ c → M5 c = M c := fun c hc => by
    rw [f5 c (by omega)]
    rw [f4 c (by omega)]
    rw [f3 c (by omega)]
    rw [f2 c (by omega)]
    rw [f1 c (by omega)]
  have p0 : ∀ j : Nat, (j : Int) < 36 → M5 (a + 1) j = M (b + 1) j := fun j hj => by
    rw [f5 (a + 1) (by omega)]
    rw [f4 (a + 1) (by omega)]
    rw [f3 (a + 1) (by omega)]
    rw [f2 (a + 1) (by omega)]
    rw [r1 j hj]
  have p1 : ∀ j : Nat, (j : Int) < 36 → M5 (a + 2) j = M (b + 2) j := fun j hj => by
    rw [f5 (a + 2) (by omega)]
    rw [f4 (a + 2) (by omega)]
    rw [f3 (a + 2) (by omega)]
    rw [r2 j hj]
    rw [f1 (b + 2) (by omega)]
  have p2 : ∀ j : Nat, (j : Int) < 36 → M5 (a + 3) j = M (b + 3) j := fun j hj => by
    rw [f5 (a + 3) (by omega)]
    rw [f4 (a + 3) (by omega)]
    rw [r3 j hj]
    rw [f2 (b + 3) (by omega)]
    rw [f1 (b + 3) (by omega)]
  have p3 : ∀ j : Nat, (j : Int) < 36 → M5 (a + 4) j = M (b + 4) j := fun j hj => by
    rw [f5 (a + 4) (by omega)]
    rw [r4 j hj]
    rw [f3 (b + 4) (by omega)]
    rw [f2 (b + 4) (by omega)]
    rw [f1 (b + 4) (by omega)]
  have p4 : ∀ j : Nat, (j : Int) < 40 → M5 (a + 5) j = M (b + 5) j := fun j hj => by
    rw [r5 j hj]
    rw [f4 (b + 5) (by omega)]
    rw [f3 (b + 5) (by omega)]
    rw [f2 (b + 5) (by omega)]
    rw [f1 (b + 5) (by omega)]
  exact hq M5 p0 p1 p2 p3 p4 fr
theorem s_X5_copyFrom {a b : Nat} {M : xMe} {Q : xMe → Prop} (hab : a + 9 ≤ b ∨ b + 9 ≤ a) (hc : 0 ≤ M b 8 ∧ M b 8 ≤ 40) (hq : ∀ M', M' a 8 = M b 8 → (∀ j : Nat, (j : Int) < M b 8 → M' (a + 1) j = M (b + 1) j) → (∀ j : Nat, (j : Int) < M b 8 → M' (a + 2) j = M (b + 2) j) → (∀ j : Nat, (j : Int) < M b 8 → M' (a + 3) j = M (b + 3) j) → (∀ j : Nat, (j : Int) < M b 8 → M' (a + 4) j = M (b + 4) j) → (∀ j : Nat, (j : Int) < M b 8 → M' (a + 5) j = M (b + 5) j) → (∀ j : Nat, (j : Int) < M b 8 → M' (a + 6) j = M (b + 6) j) → (∀ j : Nat, (j : Int) < M b 8 → M' (a + 7) j = M (b + 7) j) → (∀ j : Nat, (j : Int) < M b 8 → M' (a + 8) j = M (b + 8) j) → (∀ c, c < a ∨ a + 9 ≤ c → M' c = M c) → Q M') : p_X5_copyFrom a b M Q := by
  unfold p_X5_copyFrom
  intro M1 e1
  have g2 : M1 a 8 = M b 8 := by
    rw [e1, xw_s]
  rw [g2]
  refine s_copyRow (by omega) (by omega) (fun M2 f2 r2 => ?_)
  have g3 : M2 a 8 = M b 8 := by
    rw [show M2 a = M1 a from f2 a (by omega)]
    rw [e1, xw_s]
  rw [g3]
  refine s_copyRow (by omega) (by omega) (fun M3 f3 r3 => ?_)
  have g4 : M3 a 8 = M b 8 := by
    rw [show M3 a = M2 a from f3 a (by omega)]
    rw [show M2 a = M1 a from f2 a (by omega)]
    rw [e1, xw_s]
  rw [g4]
  refine s_copyRow (by omega) (by omega) (fun M4 f4 r4 => ?_)
  have g5 : M4 a 8 = M b 8 := by
    rw [show M4 a = M3 a from f4 a (by omega)]
    rw [show M3 a = M2 a from f3 a (by omega)]
    rw [show M2 a = M1 a from f2 a (by omega)]
    rw [e1, xw_s]
  rw [g5]
  refine s_copyRow (by omega) (by omega) (fun M5 f5 r5 => ?_)
  have g6 : M5 a 8 = M b 8 := by
    rw [show M5 a = M4 a from f5 a (by omega)]
    rw [show M4 a = M3 a from f4 a (by omega)]
    rw [show M3 a = M2 a from f3 a (by omega)]
    rw [show M2 a = M1 a from f2 a (by omega)]
    rw [e1, xw_s]
  rw [g6]
  refine s_copyRow (by omega) (by omega) (fun M6 f6 r6 => ?_)
  have g7 : M6 a 8 = M b 8 := by
    rw [show M6 a = M5 a from f6 a (by omega)]
    rw [show M5 a = M4 a from f5 a (by omega)]
    rw [show M4 a = M3 a from f4 a (by omega)]
    rw [show M3 a = M2 a from f3 a (by omega)]
    rw [show M2 a = M1 a from f2 a (by omega)]
    rw [e1, xw_s]
  rw [g7]
  refine s_copyRow (by omega) (by omega) (fun M7 f7 r7 => ?_)
  have g8 : M7 a 8 = M b 8 := by
    rw [show M7 a = M6 a from f7 a (by omega)]
    rw [show M6 a = M5 a from f6 a (by omega)]
    rw [show M5 a = M4 a from f5 a (by omega)]
    rw [show M4 a = M3 a from f4 a (by omega)]
    rw [show M3 a = M2 a from f3 a (by omega)]
    rw [show M2 a = M1 a from f2 a (by omega)]
    rw [e1, xw_s]
  rw [g8]
  refine s_copyRow (by omega) (by omega) (fun M8 f8 r8 => ?_)
  have g9 : M8 a 8 = M b 8 := by
    rw [show M8 a = M7 a from f8 a (by omega)]
    rw [show M7 a = M6 a from f7 a (by omega)]
    rw [show M6 a = M5 a from f6 a (by omega)]
    rw [show M5 a = M4 a from f5 a (by omega)]
    rw [show M4 a = M3 a from f4 a (by omega)]
    rw [show M3 a = M2 a from f3 a (by omega)]
    rw [show M2 a = M1 a from f2 a (by omega)]
    rw [e1, xw_s]
  rw [g9]
  refine s_copyRow (by omega) (by omega) (fun M9 f9 r9 => ?_)
  have fr : ∀ c, c < a ∨ a + 9 ≤ c → M9 c = M c := fun c hc => by
    rw [f9 c (by omega)]
    rw [f8 c (by omega)]
    rw [f7 c (by omega)]
    rw [f6 c (by omega)]
    rw [f5 c (by omega)]
    rw [f4 c (by omega)]
    rw [f3 c (by omega)]
    rw [f2 c (by omega)]
    rw [e1, xw_B (by omega)]
  have p0 : M9 a 8 = M b 8 := by
    rw [f9 a (by omega)]
    rw [f8 a (by omega)]
    rw [f7 a (by omega)]
    rw [f6 a (by omega)]
    rw [f5 a (by omega)]
    rw [f4 a (by omega)]
    rw [f3 a (by omega)]
    rw [f2 a (by omega)]
    rw [e1, xw_s]
  have p1 : ∀ j : Nat, (j : Int) < M b 8 → M9 (a + 1) j = M (b + 1) j := fun j hj => by
    rw [f9 (a + 1) (by omega)]
    rw [f8 (a + 1) (by omega)]
    rw [f7 (a + 1) (by omega)]
    rw [f6 (a + 1) (by omega)]
    rw [f5 (a + 1) (by omega)]
    rw [f4 (a + 1) (by omega)]
    rw [f3 (a + 1) (by omega)]
    rw [r2 j hj]
    rw [e1, xw_b (by omega)]
  have p2 : ∀ j : Nat, (j : Int) < M b 8 → M9 (a + 2) j = M (b + 2) j := fun j hj => by
    rw [f9 (a + 2) (by omega)]
    rw [f8 (a + 2) (by omega)]
    rw [f7 (a + 2) (by omega)]
    rw [f6 (a + 2) (by omega)]
    rw [f5 (a + 2) (by omega)]
    rw [f4 (a + 2) (by omega)]
    rw [r3 j hj]
    rw [f2 (b + 2) (by omega)]
    rw [e1, xw_b (by omega)]
  have p3 : ∀ j : Nat, (j : Int) < M b 8 → M9 (a + 3) j = M (b + 3) j := fun j hj => by
    rw [f9 (a + 3) (by omega)]
    rw [f8 (a + 3) (by omega)]
    rw [f7 (a + 3) (by omega)]
    rw [f6 (a + 3) (by omega)]
    rw [f5 (a + 3) (by omega)]
    rw [r4 j hj]
    rw [f3 (b + 3) (by omega)]
    rw [f2 (b + 3) (by omega)]
    rw [e1, xw_b (by omega)]
  have p4 : ∀ j : Nat, (j : Int) < M b 8 → M9 (a + 4) j = M (b + 4) j := fun j hj => by
    rw [f9 (a + 4) (by omega)]
    rw [f8 (a + 4) (by omega)]
    rw [f7 (a + 4) (by omega)]
    rw [f6 (a + 4) (by omega)]
    rw [r5 j hj]
    rw [f4 (b + 4) (by omega)]
    rw [f3 (b + 4) (by omega)]
    rw [f2 (b + 4) (by omega)]
    rw [e1, xw_b (by omega)]
  have p5 : ∀ j : Nat, (j : Int) < M b 8 → M9 (a + 5) j = M (b + 5) j := fun j hj => by
    rw [f9 (a + 5) (by omega)]
    rw [f8 (a + 5) (by omega)]
    rw [f7 (a + 5) (by omega)]
    rw [r6 j hj]
    rw [f5 (b + 5) (by omega)]
    rw [f4 (b + 5) (by omega)]
    rw [f3 (b + 5) (by omega)]
    rw [f2 (b + 5) (by omega)]
    rw [e1, xw_b (by omega)]
  have p6 : ∀ j : Nat, (j : Int) < M b 8 → M9 (a + 6) j = M (b + 6) j := fun j hj => by
    rw [f9 (a + 6) (by omega)]
    rw [f8 (a + 6) (by omega)]
    rw [r7 j hj]
    rw [f6 (b + 6) (by omega)]
    rw [f5 (b + 6) (by omega)]
    rw [f4 (b + 6) (by omega)]
    rw [f3 (b + 6) (by omega)]
    rw [f2 (b + 6) (by omega)]
    rw [e1, xw_b (by omega)]
  have p7 : ∀ j : Nat, (j : Int) < M b 8 → M9 (a + 7) j = M (b + 7) j := fun j hj => by
    rw [f9 (a + 7) (by omega)]
    rw [r8 j hj]
    rw [f7 (b + 7) (by omega)]
    rw [f6 (b + 7) (by omega)]
    rw [f5 (b + 7) (by omega)]
    rw [f4 (b + 7) (by omega)]
    rw [f3 (b + 7) (by omega)]
    rw [f2 (b + 7) (by omega)]
    rw [e1, xw_b (by omega)]
  have p8 : ∀ j : Nat, (j : Int) < M b 8 → M9 (a + 8) j = M (b + 8) j := fun j hj => by
    rw [r9 j hj]
    rw [f8 (b + 8) (by omega)]
    rw [f7 (b + 8) (by omega)]
    rw [f6 (b + 8) (by omega)]
    rw [f5 (b + 8) (by omega)]
    rw [f4 (b + 8) (by omega)]
    rw [f3 (b + 8) (by omega)]
    rw [f2 (b + 8) (by omega)]
    rw [e1, xw_b (by omega)]
  exact hq M9 p0 p1 p2 p3 p4 p5 p6 p7 p8 fr
theorem s_X0_copyFrom {a b : Nat} {M : xMe} {Q : xMe → Prop} (hab : a + 5 ≤ b ∨ b + 5 ≤ a) (hc : 0 ≤ M b 4 ∧ M b 4 ≤ 30) (hq : ∀ M', M' a 4 = M b 4 → (∀ j : Nat, (j : Int) < M b 4 → M' (a + 1) j = M (b + 1) j) → (∀ j : Nat, (j : Int) < M b 4 → M' (a + 2) j = M (b + 2) j) → (∀ j : Nat, (j : Int) < M b 4 → M' (a + 3) j = M (b + 3) j) → (∀ j : Nat, (j : Int) < M b 4 → M' (a + 4) j = M (b + 4) j) → (∀ c, c < a ∨ a + 5 ≤ c → M' c = M c) → Q M') : p_X0_copyFrom a b M Q := by
  unfold p_X0_copyFrom
  intro M1 e1
  have g2 : M1 a 4 = M b 4 := by
    rw [e1, xw_s]
  rw [g2]
  refine s_copyRow (by omega) (by omega) (fun M2 f2 r2 => ?_)
  have g3 : M2 a 4 = M b 4 := by
    rw [show M2 a = M1 a from f2 a (by omega)]
    rw [e1, xw_s]
  rw [g3]
  refine s_copyRow (by omega) (by omega) (fun M3 f3 r3 => ?_)
  have g4 : M3 a 4 = M b 4 := by
    rw [show M3 a = M2 a from f3 a (by omega)]
    rw [show M2 a = M1 a from f2 a (by omega)]
    rw [e1, xw_s]
  rw [g4]
  refine s_copyRow (by omega) (by omega) (fun M4 f4 r4 => ?_)
  have g5 : M4 a 4 = M b 4 := by
    rw [show M4 a = M3 a from f4 a (by omega)]
    rw [show M3 a = M2 a from f3 a (by omega)]
    rw [show M2 a = M1 a from f2 a (by omega)]
    rw [e1, xw_s]
  rw [g5]
  refine s_copyRow (by omega) (by omega) (fun M5 f5 r5 => ?_)
  have fr : ∀ c, c < a ∨ a + 5 ≤ c → M5 c = M c := fun c hc => by
    rw [f5 c (by omega)]
    rw [f4 c (by omega)]
    rw [f3 c (by omega)]
    rw [f2 c (by omega)]
    rw [e1, xw_B (by omega)]
  have p0 : M5 a 4 = M b 4 := by
    rw [f5 a (by omega)]
    rw [f4 a (by omega)]
    rw [f3 a (by omega)]
    rw [f2 a (by omega)]
    rw [e1, xw_s]
  have p1 : ∀ j : Nat, (j : Int) < M b 4 → M5 (a + 1) j = M (b + 1) j := fun j hj => by
    rw [f5 (a + 1) (by omega)]
    rw [f4 (a + 1) (by omega)]
    rw [f3 (a + 1) (by omega)]
    rw [r2 j hj]
    rw [e1, xw_b (by omega)]
  have p2 : ∀ j : Nat, (j : Int) < M b 4 → M5 (a + 2) j = M (b + 2) j := fun j hj => by
    rw [f5 (a + 2) (by omega)]
    rw [f4 (a + 2) (by omega)]
    rw [r3 j hj]
    rw [f2 (b + 2) (by omega)]
    rw [e1, xw_b (by omega)]
  have p3 : ∀ j : Nat, (j : Int) < M b 4 → M5 (a + 3) j = M (b + 3) j := fun j hj => by
    rw [f5 (a + 3) (by omega)]
    rw [r4 j hj]
    rw [f3 (b + 3) (by omega)]
    rw [f2 (b + 3) (by omega)]
    rw [e1, xw_b (by omega)]
  have p4 : ∀ j : Nat, (j : Int) < M b 4 → M5 (a + 4) j = M (b + 4) j := fun j hj => by
    rw [r5 j hj]
    rw [f4 (b + 4) (by omega)]
    rw [f3 (b + 4) (by omega)]
    rw [f2 (b + 4) (by omega)]
    rw [e1, xw_b (by omega)]
  exact hq M5 p0 p1 p2 p3 p4 fr
theorem s_X6_copyFrom {a b : Nat} {M : xMe} {Q : xMe → Prop} (hab : a + 6 ≤ b ∨ b + 6 ≤ a) (hc : 0 ≤ M b 5 ∧ M b 5 ≤ 40) (hq : ∀ M', M' a 5 = M b 5 → M' a 6 = M b 6 → (∀ j : Nat, (j : Int) < M b 5 → M' (a + 1) j = M (b + 1) j) → (∀ j : Nat, (j : Int) < M b 5 → M' (a + 2) j = M (b + 2) j) → (∀ j : Nat, (j : Int) < M b 5 → M' (a + 3) j = M (b + 3) j) → (∀ j : Nat, (j : Int) < M b 5 → M' (a + 4) j = M (b + 4) j) → (∀ j : Nat, (j : Int) < M b 5 → M' (a + 5) j = M (b + 5) j) → (∀ c, c < a ∨ a + 6 ≤ c → M' c = M c) → Q M') : p_X6_copyFrom a b M Q := by
  unfold p_X6_copyFrom
  intro M1 e1
  intro M2 e2
  have g3 : M2 a 5 = M b 5 := by
    rw [e2, xw_j (by decide)]
    rw [e1, xw_s]
  rw [g3]
  refine s_copyRow (by omega) (by omega) (fun M3 f3 r3 => ?_)
  have g4 : M3 a 5 = M b 5 := by
    rw [show M3 a = M2 a from f3 a (by omega)]
    rw [e2, xw_j (by decide)]
    rw [e1, xw_s]
  rw [g4]
  refine s_copyRow (by omega) (by omega) (fun M4 f4 r4 => ?_)
  have g5 : M4 a 5 = M b 5 := by
    rw [show M4 a = M3 a from f4 a (by omega)]
    rw [show M3 a = M2 a from f3 a (by omega)]
    rw [e2, xw_j (by decide)]
    rw [e1, xw_s]
  rw [g5]
  refine s_copyRow (by omega) (by omega) (fun M5 f5 r5 => ?_)
  have g6 : M5 a 5 = M b 5 := by
    rw [show M5 a = M4 a from f5 a (by omega)]
    rw [show M4 a = M3 a from f4 a (by omega)]
    rw [show M3 a = M2 a from f3 a (by omega)]
    rw [e2, xw_j (by decide)]
    rw [e1, xw_s]
  rw [g6]
  refine s_copyRow (by omega) (by omega) (fun M6 f6 r6 => ?_)
  have g7 : M6 a 5 = M b 5 := by
    rw [show M6 a = M5 a from f6 a (by omega)]
    rw [show M5 a = M4 a from f5 a (by omega)]
    rw [show M4 a = M3 a from f4 a (by omega)]
    rw [show M3 a = M2 a from f3 a (by omega)]
    rw [e2, xw_j (by decide)]
    rw [e1, xw_s]
  rw [g7]
  refine s_copyRow (by omega) (by omega) (fun M7 f7 r7 => ?_)
  have fr : ∀ c, c < a ∨ a + 6 ≤ c → M7 c = M c := fun c hc => by
    rw [f7 c (by omega)]
    rw [f6 c (by omega)]
    rw [f5 c (by omega)]
    rw [f4 c (by omega)]
    rw [f3 c (by omega)]
    rw [e2, xw_B (by omega)]
    rw [e1, xw_B (by omega)]
  have p0 : M7 a 5 = M b 5 := by
    rw [f7 a (by omega)]
    rw [f6 a (by omega)]
    rw [f5 a (by omega)]
    rw [f4 a (by omega)]
    rw [f3 a (by omega)]
    rw [e2, xw_j (by decide)]
    rw [e1, xw_s]
  have p1 : M7 a 6 = M b 6 := by
    rw [f7 a (by omega)]
    rw [f6 a (by omega)]
    rw [f5 a (by omega)]
    rw [f4 a (by omega)]
    rw [f3 a (by omega)]
    rw [e2, xw_s]
    rw [e1, xw_b (by omega)]
  have p2 : ∀ j : Nat, (j : Int) < M b 5 → M7 (a + 1) j = M (b + 1) j := fun j hj => by
    rw [f7 (a + 1) (by omega)]
    rw [f6 (a + 1) (by omega)]
    rw [f5 (a + 1) (by omega)]
    rw [f4 (a + 1) (by omega)]
    rw [r3 j hj]
    rw [e2, xw_b (by omega)]
    rw [e1, xw_b (by omega)]
  have p3 : ∀ j : Nat, (j : Int) < M b 5 → M7 (a + 2) j = M (b + 2) j := fun j hj => by
    rw [f7 (a + 2) (by omega)]
    rw [f6 (a + 2) (by omega)]
    rw [f5 (a + 2) (by omega)]
    rw [r4 j hj]
    rw [f3 (b + 2) (by omega)]
    rw [e2, xw_b (by omega)]
    rw [e1, xw_b (by omega)]
  have p4 : ∀ j : Nat, (j : Int) < M b 5 → M7 (a + 3) j = M (b + 3) j := fun j hj => by
    rw [f7 (a + 3) (by omega)]
    rw [f6 (a + 3) (by omega)]
    rw [r5 j hj]
    rw [f4 (b + 3) (by omega)]
    rw [f3 (b + 3) (by omega)]
    rw [e2, xw_b (by omega)]
    rw [e1, xw_b (by omega)]
  have p5 : ∀ j : Nat, (j : Int) < M b 5 → M7 (a + 4) j = M (b + 4) j := fun j hj => by
    rw [f7 (a + 4) (by omega)]
    rw [r6 j hj]
    rw [f5 (b + 4) (by omega)]
    rw [f4 (b + 4) (by omega)]
    rw [f3 (b + 4) (by omega)]
    rw [e2, xw_b (by omega)]
    rw [e1, xw_b (by omega)]
  have p6 : ∀ j : Nat, (j : Int) < M b 5 → M7 (a + 5) j = M (b + 5) j := fun j hj => by
    rw [r7 j hj]
    rw [f6 (b + 5) (by omega)]
    rw [f5 (b + 5) (by omega)]
    rw [f4 (b + 5) (by omega)]
    rw [f3 (b + 5) (by omega)]
    rw [e2, xw_b (by omega)]
    rw [e1, xw_b (by omega)]
  exact hq M7 p0 p1 p2 p3 p4 p5 p6 fr
