set_option maxHeartbeats 4000000 in
theorem s_X10_copyFrom {t : xTh} {a b : Nat} {M : xMe} {A : yA} {Q : xTh → xMe → Prop} (hab : a + 36 ≤ b ∨ b + 36 ≤ a) (hN : yN A) (hC : (yC A).length ≤ 30) (hk : yQok (yQ A)) (h : yCR b M A) (hq : ∀ M', yCR a M' A → M' a 13 = -1 → M' a 14 = 1000000 → (∀ c, c < a ∨ a + 36 ≤ c → M' c = M c) → Q (xwr t a 6 (some (xq t b))) M') : p_X10_copyFrom t a b M Q := by
  obtain ⟨n1, n2, n3, n4, n5, n6⟩ := id hN
  obtain ⟨hR, hU, hX, hQ⟩ := id h
  obtain ⟨R, o6, hx5, hx6, hRl, ho, ho0, hr, hP⟩ := id hX
  have i1 := yr1 hR
  have i5 := yr5 hR
  have i16 := yr16 hR
  have i25 := hU.1
  unfold p_X10_copyFrom
  refine s_X2_copyFrom (by omega) (by rw [i1]; exact ⟨n1, n2⟩) (fun M1 a11 a12 a13 a14 fa => ?_)
  have e1 : ∀ c, c < a ∨ a + 36 ≤ c → M1 c = M c := fun c hc => fa c (by omega)
  have u5 : ∀ o, o < 36 → M1 (b + o) = M (b + o) := fun o ho => e1 _ (by omega)
  refine s_X1_copyFrom (by omega) (by rw [u5 5 (by omega), i5]; exact ⟨n3, n4⟩) (fun M2 b11 b12 b13 b14 b15 fb => ?_)
  have e2 : ∀ c, c < a ∨ a + 36 ≤ c → M2 c = M c := fun c hc => (fb c (by omega)).trans (e1 c hc)
  have v5 : ∀ o, o < 36 → M2 (b + o) = M (b + o) := fun o ho => e2 _ (by omega)
  refine s_X4_copyFrom (by omega) (fun M3 c11 c12 c13 c14 c15 fc => ?_)
  have e3 : ∀ c, c < a ∨ a + 36 ≤ c → M3 c = M c := fun c hc => (fc c (by omega)).trans (e2 c hc)
  have w5 : ∀ o, o < 36 → M3 (b + o) = M (b + o) := fun o ho => e3 _ (by omega)
  refine s_X5_copyFrom (by omega) (by rw [w5 16 (by omega), i16]; exact ⟨n5, n6⟩) (fun M4 d11 d12 d13 d14 d15 d16 d17 d18 d19 fd => ?_)
  have e4 : ∀ c, c < a ∨ a + 36 ≤ c → M4 c = M c := fun c hc => (fd c (by omega)).trans (e3 c hc)
  have x5 : ∀ o, o < 36 → M4 (b + o) = M (b + o) := fun o ho => e4 _ (by omega)
  refine s_X0_copyFrom (by omega) (by rw [x5 25 (by omega), i25]; exact ⟨by omega, by omega⟩) (fun M5 g11 g12 g13 g14 g15 fg => ?_)
  have e5 : ∀ c, c < a ∨ a + 36 ≤ c → M5 c = M c := fun c hc => (fg c (by omega)).trans (e4 c hc)
  have y5 : ∀ o, o < 36 → M5 (b + o) = M (b + o) := fun o ho => e5 _ (by omega)
  refine s_X6_copyFrom (by omega) (by rw [y5 30 (by omega), hx5]; exact ⟨by omega, by omega⟩) (fun M6 k11 k12 k13 k14 k15 k16 k17 fk => ?_)
  have e6 : ∀ c, c < a ∨ a + 36 ≤ c → M6 c = M c := fun c hc => (fk c (by omega)).trans (e5 c hc)
  have hb6 : M6 b = M b := e6 b (by omega)
  simp only [forall_eq]
  have rb : ∀ {N : xMe} {j : Nat} {v : Int}, xw N a j v b = N b := fun {N j v} => xw_B (by omega)
  simp only [rb, hb6]
  generalize hM7 : xw (xw (xw (xw (xw (xw (xw (xw M6 a 7 (M b 7)) a 8 (M b 8)) a 9 (M b 9)) a 10 (M b 10)) a 11 (M b 11)) a 12 (M b 12)) a 13 (-1)) a 14 1000000 = M7
  have f7 : ∀ c, c ≠ a → M7 c = M6 c := fun c hc => by rw [← hM7]; simp only [xw_B hc]
  have s7 : M7 a 7 = M b 7 ∧ M7 a 8 = M b 8 ∧ M7 a 9 = M b 9 ∧ M7 a 10 = M b 10 ∧ M7 a 11 = M b 11 ∧ M7 a 12 = M b 12 ∧ M7 a 13 = -1 ∧ M7 a 14 = 1000000 := by
    rw [← hM7]
    refine ⟨?_, ?_, ?_, ?_, ?_, ?_, ?_, ?_⟩ <;> simp (disch := decide) only [xw_j, xw_s]
  -- each part of the new World, by the old one
  have q1 : M7 (a + 1) = M1 (a + 1) ∧ M7 (a + 2) = M1 (a + 2) ∧ M7 (a + 3) = M1 (a + 3) ∧ M7 (a + 4) = M1 (a + 4) := by
    refine ⟨?_, ?_, ?_, ?_⟩ <;> (rw [f7 _ (by omega), fk _ (by omega), fg _ (by omega), fd _ (by omega), fc _ (by omega), fb _ (by omega)])
  have q2 : ∀ o, 5 ≤ o → o ≤ 9 → M7 (a + o) = M2 (a + o) := fun o h1 h2 => by rw [f7 _ (by omega), fk _ (by omega), fg _ (by omega), fd _ (by omega), fc _ (by omega)]
  have q3 : ∀ o, 11 ≤ o → o ≤ 15 → M7 (a + o) = M3 (a + o) := fun o h1 h2 => by rw [f7 _ (by omega), fk _ (by omega), fg _ (by omega), fd _ (by omega)]
  have q4 : ∀ o, 16 ≤ o → o ≤ 24 → M7 (a + o) = M4 (a + o) := fun o h1 h2 => by rw [f7 _ (by omega), fk _ (by omega), fg _ (by omega)]
  have q5 : ∀ o, 25 ≤ o → o ≤ 29 → M7 (a + o) = M5 (a + o) := fun o h1 h2 => by rw [f7 _ (by omega), fk _ (by omega)]
  have q6 : ∀ o, 30 ≤ o → o ≤ 35 → M7 (a + o) = M6 (a + o) := fun o h1 h2 => f7 _ (by omega)
  rw [u5 5 (by omega)] at b11 b12 b13 b14 b15
  rw [i5] at b12 b13 b14 b15
  rw [i1] at a12 a13 a14
  rw [w5 16 (by omega)] at d11 d12 d13 d14 d15 d16 d17 d18 d19
  rw [i16] at d12 d13 d14 d15 d16 d17 d18 d19
  rw [x5 25 (by omega)] at g11 g12 g13 g14 g15
  rw [i25] at g12 g13 g14 g15
  rw [y5 30 (by omega)] at k11 k12 k13 k14 k15 k16 k17
  rw [hx5] at k13 k14 k15 k16 k17
  refine hq M7 ⟨?_, ⟨?_, fun i v hv => ?_⟩, ⟨R, o6, ?_, ?_, hRl, ho, ho0, fun i v hv => ?_, hP⟩, ?_⟩ s7.2.2.2.2.2.2.1 s7.2.2.2.2.2.2.2 (fun c hc => by rw [f7 c (by omega)]; exact e6 c hc)
  · intro o i k hl
    refine Eq.trans ?_ (hR o i k hl)
    have hin := yL_in hN hl
    unfold yL at hl
    split at hl
    · obtain ⟨z1, z2, z3, z4, z5, z6, -⟩ := s7
      rcases hl with hl | hl | hl | hl | hl | hl <;> obtain ⟨rfl, -⟩ := hl
      · exact z1
      · exact z2
      · exact z3
      · exact z4
      · exact z5
      · exact z6
    · obtain ⟨rfl, -⟩ := hl; rw [q1.1]; exact a11
    · rw [q1.2.1]; exact a12 _ (by omega)
    · rw [q1.2.2.1]; exact a13 _ (by omega)
    · rw [q1.2.2.2]; exact a14 _ (by omega)
    · obtain ⟨rfl, -⟩ := hl; rw [q2 5 (by omega) (by omega)]; exact b11
    · obtain ⟨f, j, f0, f1, j0, j1, j4, rfl, -⟩ := hl
      rw [q2 6 (by omega) (by omega), show a + 6 = a + 5 + 1 from rfl, b12 _ (by omega), ← u5 6 (by omega)]
    · rw [q2 7 (by omega) (by omega), show a + 7 = a + 5 + 2 from rfl, b13 _ (by omega), ← u5 7 (by omega)]
    · rw [q2 8 (by omega) (by omega), show a + 8 = a + 5 + 3 from rfl, b14 _ (by omega), ← u5 8 (by omega)]
    · rw [q2 9 (by omega) (by omega), show a + 9 = a + 5 + 4 from rfl, b15 _ (by omega), ← u5 9 (by omega)]
    · obtain ⟨g, f, g0, g1, f0, f1, rfl, -⟩ := hl
      rw [q3 11 (by omega) (by omega), show a + 11 = a + 10 + 1 from rfl, c11 _ (by omega), ← v5 11 (by omega)]
    · obtain ⟨rfl, -⟩ := hl; rw [q4 16 (by omega) (by omega)]; exact d11
    · rw [q4 17 (by omega) (by omega), show a + 17 = a + 16 + 1 from rfl, d12 _ (by omega), ← w5 17 (by omega)]
    · rw [q4 18 (by omega) (by omega), show a + 18 = a + 16 + 2 from rfl, d13 _ (by omega), ← w5 18 (by omega)]
    · rw [q4 19 (by omega) (by omega), show a + 19 = a + 16 + 3 from rfl, d14 _ (by omega), ← w5 19 (by omega)]
    · rw [q4 20 (by omega) (by omega), show a + 20 = a + 16 + 4 from rfl, d15 _ (by omega), ← w5 20 (by omega)]
    · rw [q4 21 (by omega) (by omega), show a + 21 = a + 16 + 5 from rfl, d16 _ (by omega), ← w5 21 (by omega)]
    · rw [q4 22 (by omega) (by omega), show a + 22 = a + 16 + 6 from rfl, d17 _ (by omega), ← w5 22 (by omega)]
    · rw [q4 23 (by omega) (by omega), show a + 23 = a + 16 + 7 from rfl, d18 _ (by omega), ← w5 23 (by omega)]
    · rw [q4 24 (by omega) (by omega), show a + 24 = a + 16 + 8 from rfl, d19 _ (by omega), ← w5 24 (by omega)]
    · exact hl.elim
  · rw [q5 25 (by omega) (by omega), g11, i25]
  · have hi := (List.getElem?_eq_some_iff.mp hv).1
    have := hU.2 i v hv
    rw [show a + 25 + 1 = a + 26 from rfl, show a + 25 + 2 = a + 27 from rfl, show a + 25 + 3 = a + 28 from rfl, show a + 25 + 4 = a + 29 from rfl, q5 26 (by omega) (by omega), q5 27 (by omega) (by omega), q5 28 (by omega) (by omega), q5 29 (by omega) (by omega), show a + 26 = a + 25 + 1 from rfl, show a + 27 = a + 25 + 2 from rfl, show a + 28 = a + 25 + 3 from rfl, show a + 29 = a + 25 + 4 from rfl, g12 i (by omega), g13 i (by omega), g14 i (by omega), g15 i (by omega), show b + 25 + 1 = b + 26 from rfl, show b + 25 + 2 = b + 27 from rfl, show b + 25 + 3 = b + 28 from rfl, show b + 25 + 4 = b + 29 from rfl, x5 26 (by omega), x5 27 (by omega), x5 28 (by omega), x5 29 (by omega)]
    exact this
  · rw [q6 30 (by omega) (by omega), k11, hx5]
  · rw [q6 30 (by omega) (by omega), k12, hx6]
  · have hi := (List.getElem?_eq_some_iff.mp hv).1
    have := hr i v hv
    rw [Nat.zero_add] at this ⊢
    rw [show a + 30 + 1 = a + 31 from rfl, show a + 30 + 2 = a + 32 from rfl, show a + 30 + 3 = a + 33 from rfl, show a + 30 + 4 = a + 34 from rfl, show a + 30 + 5 = a + 35 from rfl, q6 31 (by omega) (by omega), q6 32 (by omega) (by omega), q6 33 (by omega) (by omega), q6 34 (by omega) (by omega), q6 35 (by omega) (by omega), show a + 31 = a + 30 + 1 from rfl, show a + 32 = a + 30 + 2 from rfl, show a + 33 = a + 30 + 3 from rfl, show a + 34 = a + 30 + 4 from rfl, show a + 35 = a + 30 + 5 from rfl, k13 i (by omega), k14 i (by omega), k15 i (by omega), k16 i (by omega), k17 i (by omega), show b + 30 + 1 = b + 31 from rfl, show b + 30 + 2 = b + 32 from rfl, show b + 30 + 3 = b + 33 from rfl, show b + 30 + 4 = b + 34 from rfl, show b + 30 + 5 = b + 35 from rfl, y5 31 (by omega), y5 32 (by omega), y5 33 (by omega), y5 34 (by omega), y5 35 (by omega)]
    exact this
  · intro s s0 s1
    obtain ⟨z1, z2, z3, z4⟩ := hQ s s0 s1
    dsimp only at z1 z2 z3 z4 ⊢
    rw [q3 12 (by omega) (by omega), q3 13 (by omega) (by omega), q3 14 (by omega) (by omega), q3 15 (by omega) (by omega), show a + 12 = a + 10 + 2 from rfl, show a + 13 = a + 10 + 3 from rfl, show a + 14 = a + 10 + 4 from rfl, show a + 15 = a + 10 + 5 from rfl, c12 s.toNat (by omega), c13 s.toNat (by omega), c14 s.toNat (by omega), show b + 10 + 2 = b + 12 from rfl, show b + 10 + 3 = b + 13 from rfl, show b + 10 + 4 = b + 14 from rfl, v5 12 (by omega), v5 13 (by omega), v5 14 (by omega)]
    refine ⟨z1, z2, z3, yCh_o z4 (fun p hp => ?_)⟩
    have := yQok_in hk hp
    rw [c15 p.toNat (by omega), show b + 10 + 5 = b + 15 from rfl, v5 15 (by omega)]
