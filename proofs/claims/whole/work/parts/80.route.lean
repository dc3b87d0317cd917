/-! LAYER 2, load: the statement flow -/
def zFb (F : Nat) (a : Nat) (Q : xMe → Prop) (K149 : Int → Int → xMe → Prop) (k : Nat) (x2 x3 : Int) (M28 : xMe) : Prop := ((0 : Int) ≤ 1 ∧ (1 : Int) < 2105) ∧ (xR ((M28 (a + 3) 1) - 1)) ∧ p_X12_number F a 0 ((M28 (a + 3) 1) - 1) M28 (fun r58 M58 => p_X12_isGood a M58 (fun r64 M64 => ((r64 = 0 → p_X12_isGood a M64 (fun r96 M96 => ((r96 = 0 → p_X12_isGood a M96 (fun r118 M118 => ((r118 ≠ 0 → (xR (8 * x2)) ∧ (xR (33 + (8 * x2))) ∧ (xR ((33 + (8 * x2)) + 4)) ∧ (xR (((33 + (8 * x2)) + 4) + x3)) ∧ ((0 : Int) ≤ (((33 + (8 * x2)) + 4) + x3) ∧ ((((33 + (8 * x2)) + 4) + x3) : Int) < 2105) ∧ (∀ M142 : xMe, M142 = xw M118 (a + 3) (((33 + (8 * x2)) + 4) + x3).toNat r58 → (xR (x3 + 1)) ∧ p_X12_readFlow_27 F a Q K149 k x2 (x3 + 1) M142)) ∧ (r118 = 0 → Q M118)))) ∧ (r96 ≠ 0 → ((x3 ≠ 4 → p_X12_isGood a M96 (fun r118 M118 => ((r118 ≠ 0 → (xR (8 * x2)) ∧ (xR (33 + (8 * x2))) ∧ (xR ((33 + (8 * x2)) + 4)) ∧ (xR (((33 + (8 * x2)) + 4) + x3)) ∧ ((0 : Int) ≤ (((33 + (8 * x2)) + 4) + x3) ∧ ((((33 + (8 * x2)) + 4) + x3) : Int) < 2105) ∧ (∀ M142 : xMe, M142 = xw M118 (a + 3) (((33 + (8 * x2)) + 4) + x3).toNat r58 → (xR (x3 + 1)) ∧ p_X12_readFlow_27 F a Q K149 k x2 (x3 + 1) M142)) ∧ (r118 = 0 → Q M118)))) ∧ (x3 = 4 → p_X12_report a ((-5)) (M96 a 14) M96 (fun M114 => p_X12_isGood a M114 (fun r118 M118 => ((r118 ≠ 0 → (xR (8 * x2)) ∧ (xR (33 + (8 * x2))) ∧ (xR ((33 + (8 * x2)) + 4)) ∧ (xR (((33 + (8 * x2)) + 4) + x3)) ∧ ((0 : Int) ≤ (((33 + (8 * x2)) + 4) + x3) ∧ ((((33 + (8 * x2)) + 4) + x3) : Int) < 2105) ∧ (∀ M142 : xMe, M142 = xw M118 (a + 3) (((33 + (8 * x2)) + 4) + x3).toNat r58 → (xR (x3 + 1)) ∧ p_X12_readFlow_27 F a Q K149 k x2 (x3 + 1) M142)) ∧ (r118 = 0 → Q M118)))))))))) ∧ (r64 ≠ 0 → p_X12_isOnWay F a (a + 3) 2105 x2 x3 r58 M64 (fun r79 M79 => ((r79 = 0 → p_X12_isGood a M79 (fun r96 M96 => ((r96 = 0 → p_X12_isGood a M96 (fun r118 M118 => ((r118 ≠ 0 → (xR (8 * x2)) ∧ (xR (33 + (8 * x2))) ∧ (xR ((33 + (8 * x2)) + 4)) ∧ (xR (((33 + (8 * x2)) + 4) + x3)) ∧ ((0 : Int) ≤ (((33 + (8 * x2)) + 4) + x3) ∧ ((((33 + (8 * x2)) + 4) + x3) : Int) < 2105) ∧ (∀ M142 : xMe, M142 = xw M118 (a + 3) (((33 + (8 * x2)) + 4) + x3).toNat r58 → (xR (x3 + 1)) ∧ p_X12_readFlow_27 F a Q K149 k x2 (x3 + 1) M142)) ∧ (r118 = 0 → Q M118)))) ∧ (r96 ≠ 0 → ((x3 ≠ 4 → p_X12_isGood a M96 (fun r118 M118 => ((r118 ≠ 0 → (xR (8 * x2)) ∧ (xR (33 + (8 * x2))) ∧ (xR ((33 + (8 * x2)) + 4)) ∧ (xR (((33 + (8 * x2)) + 4) + x3)) ∧ ((0 : Int) ≤ (((33 + (8 * x2)) + 4) + x3) ∧ ((((33 + (8 * x2)) + 4) + x3) : Int) < 2105) ∧ (∀ M142 : xMe, M142 = xw M118 (a + 3) (((33 + (8 * x2)) + 4) + x3).toNat r58 → (xR (x3 + 1)) ∧ p_X12_readFlow_27 F a Q K149 k x2 (x3 + 1) M142)) ∧ (r118 = 0 → Q M118)))) ∧ (x3 = 4 → p_X12_report a ((-5)) (M96 a 14) M96 (fun M114 => p_X12_isGood a M114 (fun r118 M118 => ((r118 ≠ 0 → (xR (8 * x2)) ∧ (xR (33 + (8 * x2))) ∧ (xR ((33 + (8 * x2)) + 4)) ∧ (xR (((33 + (8 * x2)) + 4) + x3)) ∧ ((0 : Int) ≤ (((33 + (8 * x2)) + 4) + x3) ∧ ((((33 + (8 * x2)) + 4) + x3) : Int) < 2105) ∧ (∀ M142 : xMe, M142 = xw M118 (a + 3) (((33 + (8 * x2)) + 4) + x3).toNat r58 → (xR (x3 + 1)) ∧ p_X12_readFlow_27 F a Q K149 k x2 (x3 + 1) M142)) ∧ (r118 = 0 → Q M118)))))))))) ∧ (r79 ≠ 0 → p_X12_report a ((-4)) (M79 a 14) M79 (fun M92 => p_X12_isGood a M92 (fun r96 M96 => ((r96 = 0 → p_X12_isGood a M96 (fun r118 M118 => ((r118 ≠ 0 → (xR (8 * x2)) ∧ (xR (33 + (8 * x2))) ∧ (xR ((33 + (8 * x2)) + 4)) ∧ (xR (((33 + (8 * x2)) + 4) + x3)) ∧ ((0 : Int) ≤ (((33 + (8 * x2)) + 4) + x3) ∧ ((((33 + (8 * x2)) + 4) + x3) : Int) < 2105) ∧ (∀ M142 : xMe, M142 = xw M118 (a + 3) (((33 + (8 * x2)) + 4) + x3).toNat r58 → (xR (x3 + 1)) ∧ p_X12_readFlow_27 F a Q K149 k x2 (x3 + 1) M142)) ∧ (r118 = 0 → Q M118)))) ∧ (r96 ≠ 0 → ((x3 ≠ 4 → p_X12_isGood a M96 (fun r118 M118 => ((r118 ≠ 0 → (xR (8 * x2)) ∧ (xR (33 + (8 * x2))) ∧ (xR ((33 + (8 * x2)) + 4)) ∧ (xR (((33 + (8 * x2)) + 4) + x3)) ∧ ((0 : Int) ≤ (((33 + (8 * x2)) + 4) + x3) ∧ ((((33 + (8 * x2)) + 4) + x3) : Int) < 2105) ∧ (∀ M142 : xMe, M142 = xw M118 (a + 3) (((33 + (8 * x2)) + 4) + x3).toNat r58 → (xR (x3 + 1)) ∧ p_X12_readFlow_27 F a Q K149 k x2 (x3 + 1) M142)) ∧ (r118 = 0 → Q M118)))) ∧ (x3 = 4 → p_X12_report a ((-5)) (M96 a 14) M96 (fun M114 => p_X12_isGood a M114 (fun r118 M118 => ((r118 ≠ 0 → (xR (8 * x2)) ∧ (xR (33 + (8 * x2))) ∧ (xR ((33 + (8 * x2)) + 4)) ∧ (xR (((33 + (8 * x2)) + 4) + x3)) ∧ ((0 : Int) ≤ (((33 + (8 * x2)) + 4) + x3) ∧ ((((33 + (8 * x2)) + 4) + x3) : Int) < 2105) ∧ (∀ M142 : xMe, M142 = xw M118 (a + 3) (((33 + (8 * x2)) + 4) + x3).toNat r58 → (xR (x3 + 1)) ∧ p_X12_readFlow_27 F a Q K149 k x2 (x3 + 1) M142)) ∧ (r118 = 0 → Q M118)))))))))))))))))
def zFk (F : Nat) (a : Nat) (Q : xMe → Prop) : Int → Int → xMe → Prop := (fun y2 y3 M => p_X12_isGood a M (fun r150 M150 => ((r150 ≠ 0 → (xR (8 * y2)) ∧ (xR (33 + (8 * y2))) ∧ (xR ((33 + (8 * y2)) + 0)) ∧ ((0 : Int) ≤ ((33 + (8 * y2)) + 0) ∧ (((33 + (8 * y2)) + 0) : Int) < 2105) ∧ (∀ M171 : xMe, M171 = xw M150 (a + 3) ((33 + (8 * y2)) + 0).toNat y3 → p_X12_takeWord F a 8 M171 (fun r175 M175 => ((r175 = 0 → ((0 : Int) ≤ 2 ∧ (2 : Int) < 2105) ∧ (xR ((M175 (a + 3) 2) + 1)) ∧ ((0 : Int) ≤ 2 ∧ (2 : Int) < 2105) ∧ (∀ M211 : xMe, M211 = xw M175 (a + 3) 2 ((M175 (a + 3) 2) + 1) → Q M211)) ∧ (r175 ≠ 0 → (xR (8 * y2)) ∧ (xR (33 + (8 * y2))) ∧ (xR ((33 + (8 * y2)) + 1)) ∧ p_X12_number F a 0 99 M175 (fun r198 M198 => ((0 : Int) ≤ ((33 + (8 * y2)) + 1) ∧ (((33 + (8 * y2)) + 1) : Int) < 2105) ∧ (∀ M201 : xMe, M201 = xw M198 (a + 3) ((33 + (8 * y2)) + 1).toNat r198 → ((0 : Int) ≤ 2 ∧ (2 : Int) < 2105) ∧ (xR ((M201 (a + 3) 2) + 1)) ∧ ((0 : Int) ≤ 2 ∧ (2 : Int) < 2105) ∧ (∀ M211 : xMe, M211 = xw M201 (a + 3) 2 ((M201 (a + 3) 2) + 1) → Q M211)))))))) ∧ (r150 = 0 → Q M150))))
def zFt (F : Nat) (a : Nat) (M : xMe) (Q : xMe → Prop) : Prop := ((0 : Int) ≤ 2 ∧ (2 : Int) < 2105) ∧ (∀ z24 : Int, z24 = M (a + 3) 2 → p_X12_readFlow_27 F a Q (fun y2 y3 M => p_X12_isGood a M (fun r150 M150 => ((r150 ≠ 0 → (xR (8 * y2)) ∧ (xR (33 + (8 * y2))) ∧ (xR ((33 + (8 * y2)) + 0)) ∧ ((0 : Int) ≤ ((33 + (8 * y2)) + 0) ∧ (((33 + (8 * y2)) + 0) : Int) < 2105) ∧ (∀ M171 : xMe, M171 = xw M150 (a + 3) ((33 + (8 * y2)) + 0).toNat y3 → p_X12_takeWord F a 8 M171 (fun r175 M175 => ((r175 = 0 → ((0 : Int) ≤ 2 ∧ (2 : Int) < 2105) ∧ (xR ((M175 (a + 3) 2) + 1)) ∧ ((0 : Int) ≤ 2 ∧ (2 : Int) < 2105) ∧ (∀ M211 : xMe, M211 = xw M175 (a + 3) 2 ((M175 (a + 3) 2) + 1) → Q M211)) ∧ (r175 ≠ 0 → (xR (8 * y2)) ∧ (xR (33 + (8 * y2))) ∧ (xR ((33 + (8 * y2)) + 1)) ∧ p_X12_number F a 0 99 M175 (fun r198 M198 => ((0 : Int) ≤ ((33 + (8 * y2)) + 1) ∧ (((33 + (8 * y2)) + 1) : Int) < 2105) ∧ (∀ M201 : xMe, M201 = xw M198 (a + 3) ((33 + (8 * y2)) + 1).toNat r198 → ((0 : Int) ≤ 2 ∧ (2 : Int) < 2105) ∧ (xR ((M201 (a + 3) 2) + 1)) ∧ ((0 : Int) ≤ 2 ∧ (2 : Int) < 2105) ∧ (∀ M211 : xMe, M211 = xw M201 (a + 3) 2 ((M201 (a + 3) 2) + 1) → Q M211)))))))) ∧ (r150 = 0 → Q M150)))) F z24 0 M)
def zFc (F : Nat) (a : Nat) (Q : xMe → Prop) : xMe → Prop := (fun M => (((M a 2) ≠ 0 → (((M a 2) ≠ 0 → Q M) ∧ ((M a 2) = 0 → p_X1_close (a + 8) 0 M (fun M120 => Q M120)))) ∧ ((M a 2) = 0 → p_X9_isWord F (a + 1) 8 M (fun r84 M84 => ((r84 = 0 → (((M84 a 2) ≠ 0 → Q M84) ∧ ((M84 a 2) = 0 → p_X1_close (a + 8) 0 M84 (fun M120 => Q M120)))) ∧ (r84 ≠ 0 → p_X9_moveOn F (a + 1) M84 (fun M94 => p_X8_takeNumber F a 0 99 M94 (fun r101 M101 => (((M101 a 2) ≠ 0 → Q M101) ∧ ((M101 a 2) = 0 → p_X1_close (a + 8) r101 M101 (fun M120 => Q M120)))))))))))
def zRo (x N many : Nat) (A : yA) (M : xMe) : Prop := M (x + 11) N = (many : Int) ∧ ∀ j : Nat, j < many → M (x + 10) (4 * N + j) = yS A (37 + 8 * (N : Int) + j)
def zRp (N many : Nat) (A : yA) : Prop := yS A 2 = (N : Int) ∧ N < 6 ∧ many ≤ 4 ∧ ∀ j : Nat, j < many → 0 ≤ yS A (37 + 8 * (N : Int) + j) ∧ yS A (37 + 8 * (N : Int) + j) < yS A 1
section ZF
variable {b : Nat → Int} {n x m F N many : Nat} {B M M' : xMe} {s s' : zS} {Q : xMe → Prop} {R : Int → xMe → Prop} {d g k v th : Int} {A A' : yA}
theorem zR_rt {w : Nat} (hI : zI A) (hN : yS A 2 = (N : Int)) (h : zR w M A) (hL : ∀ o i k, o ≠ 11 → yL A' o i k → yL A o i k ∧ yS A' k = yS A k) (eo : ∀ c, c ≠ w + 6 → c ≠ w + 7 → M' c = M c) (e6 : ∀ j, j < 4 * N → M' (w + 6) j = M (w + 6) j) (e7 : ∀ j, j < N → M' (w + 7) j = M (w + 7) j) : zR w M' A' := fun o i k ho hl => by
  obtain ⟨a1, a2⟩ := hL o i k ho hl
  rw [a2, ← h o i k ho a1]
  by_cases c6 : o = 6
  · subst c6
    obtain ⟨f, j, b1, b2, b3, b4, b5, b6, b7⟩ := a1
    exact e6 _ (by omega)
  · by_cases c7 : o = 7
    · subst c7
      obtain ⟨b1, b2, b3⟩ := a1
      exact e7 _ (by omega)
    · rw [eo _ (by omega) (by omega)]
theorem yL_rt {o : Nat} {i : Int} {j : Nat} (hN : yS A 2 = (N : Int)) (h6 : N < 6) (hj : j < 4) (hI : zI A) (hl : yL (yw A (37 + 8 * (N : Int) + j) v) o i k) (ho : o ≠ 11) : yL A o i k ∧ yS (yw A (37 + 8 * (N : Int) + j) v) k = yS A k := by
  have e : ∀ k', k' ≠ 37 + 8 * (N : Int) + j → yS (yw A (37 + 8 * (N : Int) + j) v) k' = yS A k' := fun k' h => yup_n h
  have hl' : yL A o i k := yL_S (A := A) (e 1 (by omega)) (e 2 (by omega)) (e 3 (by omega)) (fun f f0 f1 => e _ (by omega)) hl
  refine ⟨hl', e k (fun q => ?_)⟩
  subst q
  have n5 := hI.1.2.2.2.2.1
  unfold yL at hl'
  split at hl'
  · omega
  · omega
  · have := hI.1; obtain ⟨-, n2, -, -, -, -⟩ := this; omega
  · have := hI.1; obtain ⟨-, n2, -, -, -, -⟩ := this; omega
  · have := hI.1; obtain ⟨-, n2, -, -, -, -⟩ := this; omega
  · omega
  · obtain ⟨f, j', b1, b2, b3, b4, b5, b6, b7⟩ := hl'; omega
  · omega
  · omega
  · omega
  · exact absurd rfl ho
  · omega
  all_goals first
    | exact hl'.elim
    | (have n4 := hI.1.2.2.2.1; omega)
theorem zI_rt {j : Nat} (h : zI A) (hN : yS A 2 = (N : Int)) (h6 : N < 6) (hj : j < 4) : zI (yw A (37 + 8 * (N : Int) + j) v) := by
  have e : ∀ k', k' ≠ 37 + 8 * (N : Int) + j → yS (yw A (37 + 8 * (N : Int) + j) v) k' = yS A k' := fun k' h => yup_n h
  have eC : yC (yw A (37 + 8 * (N : Int) + j) v) = yC A := rfl
  have eP : yP (yw A (37 + 8 * (N : Int) + j) v) = yP A := rfl
  have eQ : yQ (yw A (37 + 8 * (N : Int) + j) v) = yQ A := rfl
  generalize yw A (37 + 8 * (N : Int) + j) v = A' at *
  obtain ⟨h1, h2, h3, h4, h5, h6', h7, h8, h9, h10, h11⟩ := h
  obtain ⟨n1, n2, n3, n4, n5, n6⟩ := id h1
  refine ⟨?_, fun g g0 g1 => ?_, fun g g0 g1 => ?_, fun p p0 p1 => ?_, ?_, ?_, fun f f0 f1 => ?_, fun k hk => ?_, ?_, eP.trans h10, eQ.trans h11⟩
  · unfold yN; rw [e 1 (by omega), e 2 (by omega), e 3 (by omega)]; exact h1
  · rw [e 1 (by omega)] at g1; rw [e _ (by omega), e _ (by omega), e _ (by omega)]; exact h2 g g0 g1
  · rw [e 2 (by omega)] at g1
    rw [e (33 + 8 * g) (by omega), e (34 + 8 * g) (by omega), e 1 (by omega)]
    obtain ⟨a1, a2, a3, a4, a5⟩ := h3 g g0 g1
    exact ⟨a1, a2, a3, a4, fun j j0 j1 => by rw [e _ (by omega)]; exact a5 j j0 j1⟩
  · rw [e 3 (by omega)] at p1
    rw [e (81 + 9 * p) (by omega), e (82 + 9 * p) (by omega), e (83 + 9 * p) (by omega), e (84 + 9 * p) (by omega), e (85 + 9 * p) (by omega), e (86 + 9 * p) (by omega), e (87 + 9 * p) (by omega), e (88 + 9 * p) (by omega), e 2 (by omega)]; exact h4 p p0 p1
  · rw [e 9 (by omega), e 10 (by omega), e 11 (by omega)]; exact h5
  · rw [e 0 (by omega), e 5 (by omega), e 6 (by omega), e 7 (by omega), e 8 (by omega)]; exact h6'
  · rw [e (35 + 8 * f) (by omega), e (36 + 8 * f) (by omega), e (34 + 8 * f) (by omega), e 2 (by omega)]; exact h7 f f0 f1
  · rw [e _ (by omega)]; exact h8 k hk
  · rw [eC, e 2 (by omega)]; exact h9
/-! the gate told already -/
theorem z_orh (hF : 6 ≤ F) (h4 : M (x + 9) 4 = (N : Int)) (h6 : N < 6) (hm : many ≤ 4) (hR : zRo x N many A M) (g0 : 0 ≤ g) (h1 : (∃ j : Nat, j < many ∧ yS A (37 + 8 * (N : Int) + j) = g) → R 1 M) (h0 : ¬ (∃ j : Nat, j < many ∧ yS A (37 + 8 * (N : Int) + j) = g) → R 0 M) : p_X1_openRouteHas F (x + 9) g M R := by
  unfold p_X1_openRouteHas
  have lp : ∀ (k i : Nat), 5 ≤ k + i → i ≤ 4 → (∀ j : Nat, j < i → j < many → yS A (37 + 8 * (N : Int) + j) ≠ g) → p_X1_openRouteHas_2 F (x + 9) R k g (i : Int) M := by
    intro k
    induction k with
    | zero => intro i h5 hi _; omega
    | succ k ih =>
      intro i h5 hi hj
      unfold p_X1_openRouteHas_2
      refine ⟨fun q => h0 (fun ⟨j, j1, j2⟩ => hj j (by omega) j1 j2), fun q => ?_⟩
      unfold p_X1_gateAt
      rw [h4, Int.toNat_natCast]
      have nx : ∀ r : Int, r ≠ g → (i < many → yS A (37 + 8 * (N : Int) + i) ≠ g) → (r ≠ g → (xR ((i : Int) + 1)) ∧ p_X1_openRouteHas_2 F (x + 9) R k g ((i : Int) + 1) M) ∧ (r = g → R 1 M) := fun r hr hi' => ⟨fun _ => ⟨⟨by omega, by omega⟩, ih (i + 1) (by omega) (by omega) (fun j j1 j2 => by
        by_cases c : j = i
        · rw [c]; exact hi' (by omega)
        · exact hj j (by omega) j2)⟩, fun c => absurd c hr⟩
      refine ⟨fun c => by omega, fun _ => ⟨fun c => by omega, fun _ => ⟨fun c => by omega, fun _ => ⟨fun c => by omega, fun _ => ⟨⟨by omega, by omega⟩, ?_, ?_⟩⟩⟩⟩⟩
      · intro c
        have c' : (i : Int) < M (x + 11) N := c
        rw [hR.1] at c'
        have a : M (x + 9 + 1) (4 * N + i) = yS A (37 + 8 * (N : Int) + i) := hR.2 i (by omega)
        rw [show ((N : Int) * 4 + (i : Int)).toNat = 4 * N + i by omega, a]
        refine ⟨⟨by omega, by omega⟩, ⟨by omega, by omega⟩, ⟨by omega, by omega⟩, ?_⟩
        by_cases c2 : yS A (37 + 8 * (N : Int) + i) = g
        · exact ⟨fun r => absurd c2 r, fun _ => h1 ⟨i, by omega, c2⟩⟩
        · exact nx _ c2 (fun _ => c2)
      · intro c
        have c' : M (x + 11) N ≤ (i : Int) := c
        rw [hR.1] at c'
        exact nx _ (by omega) (fun q2 => by omega)
  exact lp F 0 (by omega) (by omega) (fun j hj => by omega)
theorem z_onw (hF : 6 ≤ F) (h6 : N < 6) (hm : many ≤ 4) (hd : zD (m + 3) M A) (h1 : (∃ j : Nat, j < many ∧ yS A (37 + 8 * (N : Int) + j) = g) → R 1 M) (h0 : ¬ (∃ j : Nat, j < many ∧ yS A (37 + 8 * (N : Int) + j) = g) → R 0 M) : p_X12_isOnWay F m (m + 3) 2105 (N : Int) (many : Int) g M R := by
  unfold p_X12_isOnWay
  have lp : ∀ (k i : Nat), 5 ≤ k + i → i ≤ many → (∀ j : Nat, j < i → yS A (37 + 8 * (N : Int) + j) ≠ g) → p_X12_isOnWay_3 F m (m + 3) 2105 R k (N : Int) (many : Int) g (i : Int) M := by
    intro k
    induction k with
    | zero => intro i h5 hi _; omega
    | succ k ih =>
      intro i h5 hi hj
      unfold p_X12_isOnWay_3
      refine ⟨fun q => h0 (fun ⟨j, j1, j2⟩ => hj j (by omega) j2), fun q => ⟨⟨by omega, by omega⟩, ⟨by omega, by omega⟩, ⟨by omega, by omega⟩, ⟨by omega, by omega⟩, ⟨by omega, by omega⟩, ?_⟩⟩
      have a : M (m + 3) (33 + 8 * (N : Int) + 4 + (i : Int)).toNat = yS A (37 + 8 * (N : Int) + i) := by
        rw [show 33 + 8 * (N : Int) + 4 + (i : Int) = 37 + 8 * (N : Int) + i by omega]
        exact hd.1 _ (by unfold yG; omega)
      rw [a]
      refine ⟨fun c => ⟨⟨by omega, by omega⟩, ih (i + 1) (by omega) (by omega) (fun j j1 => ?_)⟩, fun c => h1 ⟨i, by omega, c⟩⟩
      by_cases c2 : j = i
      · rw [c2]; exact c
      · exact hj j (by omega)
  exact lp F 0 (by omega) (by omega) (fun j hj => by omega)
/-- one gate of a route -/
theorem z_place (hn : n ≤ 700) (hF : 702 ≤ F) (hb : ∀ j, j < n → 0 ≤ b j ∧ b j ≤ 255) (h0 : s.e = 0) (hI : zI s.A) (hR : zRp N many s.A) : ∃ s1, (s1.e = 0 → many < 4 ∧ (s.p ≤ n → s.p < n) ∧ ∃ g, 0 ≤ g ∧ g < yS s.A 1 ∧ s1 = zX (zG b n s) (yw s.A (37 + 8 * (N : Int) + many) g) s.u) ∧ (∀ (B M : xMe) (Q : xMe → Prop), zC b n x B s M → zRo x N many s.A M → (∀ M', zC b n x B s1 M' → (s1.e = 0 → zRo x N (many + 1) s1.A M') → Q M') → p_X8_readPlace F (x + 1) (many : Int) M Q) ∧ (∀ (B : xMe) (d : Int) (M : xMe) (Q : xMe → Prop) (K : Int → Int → xMe → Prop) (k : Nat), zM b n m B d s M → (s1.e ≠ 0 → ∀ M', zM b n m B d s1 M' → Q M') → (s1.e = 0 → ∀ M', zM b n m B d s1 M' → p_X12_readFlow_27 F m Q K k (N : Int) ((many : Int) + 1) M') → zFb F m Q K k (N : Int) (many : Int) M) := by
  obtain ⟨hN, h6, hm, hr⟩ := hR
  obtain ⟨n1, n2, n3, n4, n5, n6⟩ := id hI.1
  have z2 : (zE s (-2)).e ≠ 0 := show ¬ ((-2 : Int)) = 0 by decide
  have z3 : (zE s (-3)).e ≠ 0 := show ¬ ((-3 : Int)) = 0 by decide
  have z4 : (zE s (-4)).e ≠ 0 := show ¬ ((-4 : Int)) = 0 by decide
  have z5 : (zE s (-5)).e ≠ 0 := show ¬ ((-5 : Int)) = 0 by decide
  -- the model's way out behind an error
  have cb : ∀ (B M : xMe) (Q : xMe → Prop), zC b n x B s M → (p_X8_numberStands (x + 1) 0 (yS s.A 1 - 1) M (fun r14 M14 => ((r14 ≠ 0 → p_X1_openRouteHas F (x + 9) (M14 (x + 2) 6) M14 (fun r35 M35 => ((r35 = 0 → (((many : Int) < 4 → p_X1_addPlace (x + 9) (M35 (x + 2) 6) M35 (fun M78 => p_X9_moveOn F (x + 2) M78 (fun M85 => Q M85))) ∧ (4 ≤ (many : Int) → p_X8_fail (x + 1) ((-5)) M35 (fun M58 => Q M58)))) ∧ (r35 ≠ 0 → p_X8_fail (x + 1) ((-4)) M35 (fun M44 => Q M44))))) ∧ (r14 = 0 → Q M14)))) → p_X8_readPlace F (x + 1) (many : Int) M Q := fun B M Q h hh => by
    unfold p_X8_readPlace
    have k1 : M (x + 1 + 4) 3 = yS s.A 1 := (zC_cnt h0 h).1
    rw [k1]
    exact ⟨⟨by omega, by omega⟩, hh⟩
  by_cases k257 : zkd b n s.p = 257
  · by_cases hr' : 0 ≤ znu b n s.p ∧ znu b n s.p ≤ yS s.A 1 - 1
    · by_cases hw : ∃ j : Nat, j < many ∧ yS s.A (37 + 8 * (N : Int) + j) = znu b n s.p
      · -- told already
        refine ⟨zE s (-4), fun q => absurd q z4, fun B M Q h hro hq => cb B M Q h ?_, fun B d M Q K k h hq1 hq2 => ?_⟩
        · refine zC_stands (by decide) (by omega) h (fun q => absurd h0 q) (fun _ q => absurd k257 q) (fun _ _ q => absurd hr' q) (fun _ _ _ k6 => ⟨fun _ => ?_, fun q => absurd q (by decide)⟩)
          rw [k6]
          have h4 : M (x + 9) 4 = (N : Int) := by rw [← hN]; exact (zC_cnt h0 h).2.1
          exact z_orh (by omega) h4 h6 hm hro hr'.1 (fun _ => ⟨fun q => absurd q (by decide), fun _ => zC_fail (by decide) h0 h (fun M1 h1 => hq M1 h1 (fun q => absurd q z4))⟩) (fun q => absurd hw q)
        · have k1 := (zM_cnt h0 h).1
          unfold zFb
          rw [k1]
          refine ⟨⟨by decide, by decide⟩, ⟨by omega, by omega⟩, zM_num hn hF (by decide) (by omega) hb h (fun q => absurd h0 q) (fun _ q => absurd k257 q) (fun _ _ q => absurd hr' q) (fun _ _ _ M1 h1 k14 => ?_)⟩
          refine zM_good h1 (fun _ => ⟨fun q => absurd q (by decide), fun _ => ?_⟩) (fun q => absurd h0 q)
          refine z_onw (A := s.A) (by omega) h6 hm (h1.2.2.2.2.2.2.2 h0).2.1 (fun _ => ⟨fun q => absurd q (by decide), fun _ => ?_⟩) (fun q => absurd hw q)
          rw [k14]
          refine zM_repG (by decide) h0 rfl h1 (fun M2 h2 => ?_)
          exact zM_good h2 (fun q => absurd q z4) (fun _ => ⟨fun _ => zM_good h2 (fun q => absurd q z4) (fun _ => ⟨fun q => absurd rfl q, fun _ => hq1 z4 M2 h2⟩), fun q => absurd rfl q⟩)
      · by_cases m4 : many = 4
        · refine ⟨zE s (-5), fun q => absurd q z5, fun B M Q h hro hq => cb B M Q h ?_, fun B d M Q K k h hq1 hq2 => ?_⟩
          · refine zC_stands (by decide) (by omega) h (fun q => absurd h0 q) (fun _ q => absurd k257 q) (fun _ _ q => absurd hr' q) (fun _ _ _ k6 => ⟨fun _ => ?_, fun q => absurd q (by decide)⟩)
            rw [k6]
            have h4 : M (x + 9) 4 = (N : Int) := by rw [← hN]; exact (zC_cnt h0 h).2.1
            exact z_orh (by omega) h4 h6 hm hro hr'.1 (fun q => absurd q hw) (fun _ => ⟨fun _ => ⟨fun q => by omega, fun _ => zC_fail (by decide) h0 h (fun M1 h1 => hq M1 h1 (fun q => absurd q z5))⟩, fun q => absurd rfl q⟩)
          · have k1 := (zM_cnt h0 h).1
            unfold zFb
            rw [k1]
            refine ⟨⟨by decide, by decide⟩, ⟨by omega, by omega⟩, zM_num hn hF (by decide) (by omega) hb h (fun q => absurd h0 q) (fun _ q => absurd k257 q) (fun _ _ q => absurd hr' q) (fun _ _ _ M1 h1 k14 => ?_)⟩
            refine zM_good h1 (fun _ => ⟨fun q => absurd q (by decide), fun _ => ?_⟩) (fun q => absurd h0 q)
            refine z_onw (A := s.A) (by omega) h6 hm (h1.2.2.2.2.2.2.2 h0).2.1 (fun q => absurd q hw) (fun _ => ⟨fun _ => ?_, fun q => absurd rfl q⟩)
            refine zM_good h1 (fun _ => ⟨fun q => absurd q (by decide), fun _ => ⟨fun q => by omega, fun _ => ?_⟩⟩) (fun q => absurd h0 q)
            rw [k14]
            refine zM_repG (by decide) h0 rfl h1 (fun M2 h2 => ?_)
            exact zM_good h2 (fun q => absurd q z5) (fun _ => ⟨fun q => absurd rfl q, fun _ => hq1 z5 M2 h2⟩)
        · -- a new gate
          have hp := (zkd_dg2 hb k257).1
          refine ⟨zX (zG b n s) (yw s.A (37 + 8 * (N : Int) + many) (znu b n s.p)) s.u, fun _ => ⟨by omega, fun _ => hp, znu b n s.p, hr'.1, by omega, rfl⟩, fun B M Q h hro hq => cb B M Q h ?_, fun B d M Q K k h hq1 hq2 => ?_⟩
          · refine zC_stands (by decide) (by omega) h (fun q => absurd h0 q) (fun _ q => absurd k257 q) (fun _ _ q => absurd hr' q) (fun _ _ _ k6 => ⟨fun _ => ?_, fun q => absurd q (by decide)⟩)
            rw [k6]
            have h4 : M (x + 9) 4 = (N : Int) := by rw [← hN]; exact (zC_cnt h0 h).2.1
            refine z_orh (by omega) h4 h6 hm hro hr'.1 (fun q => absurd q hw) (fun _ => ⟨fun _ => ⟨fun _ => ?_, fun q => by omega⟩, fun q => absurd rfl q⟩)
            rw [k6]
            unfold p_X1_addPlace
            have k11 : M (x + 9 + 2) N = (many : Int) := hro.1
            rw [h4, Int.toNat_natCast, k11]
            refine ⟨fun q => by omega, fun _ => ⟨fun q => by omega, fun _ => ⟨⟨by omega, by omega⟩, fun q => by omega, fun _ => ⟨⟨by omega, by omega⟩, fun _ => ⟨⟨by omega, by omega⟩, ⟨by omega, by omega⟩, ⟨by omega, by omega⟩, ⟨by omega, by omega⟩, fun M1 e1 => ?_⟩, fun q => by omega⟩⟩⟩⟩
            have h41 : M1 (x + 9) 4 = (N : Int) := by rw [e1, xw_b (by omega)]; exact h4
            have k111 : M1 (x + 9 + 2) N = (many : Int) := by rw [e1, xw_b (by omega)]; exact k11
            rw [h41, Int.toNat_natCast, k111]
            refine ⟨⟨by omega, by omega⟩, ⟨by omega, by omega⟩, ⟨by omega, by omega⟩, fun M2 e2 => ?_⟩
            have eo : ∀ c, c ≠ x + 10 → c ≠ x + 11 → M2 c = M c := fun c c1 c2 => by rw [e2, xw_B (by omega), e1, xw_B (by omega)]
            have e10 : ∀ j, M2 (x + 10) j = xw M (x + 10) (4 * N + many) (znu b n s.p) (x + 10) j := fun j => by
              rw [e2, xw_b (by omega), e1, show ((N : Int) * 4 + (many : Int)).toNat = 4 * N + many by omega]
            have e11 : ∀ j, j ≠ N → M2 (x + 11) j = M (x + 11) j := fun j hj => by rw [e2, xw_j hj, e1, xw_b (by omega)]
            obtain ⟨o1, o2, o3⟩ := h.2.2.2.2.2 h0
            have h2 : zC b n x B (zX s (yw s.A (37 + 8 * (N : Int) + many) (znu b n s.p)) s.u) M2 := zC_dr h ⟨by rw [eo _ (by omega) (by omega)], by rw [eo _ (by omega) (by omega)]⟩ (eo _ (by omega) (by omega)) (fun c hc => eo c (by omega) (by omega)) (zI_rt hI hN h6 (by omega)).1 (zCd_dr o3 (zR_rt (w := x + 4) hI hN o3.1 (fun o i k ho hl => yL_rt hN h6 (by omega) hI hl ho) (fun c c1 c2 => eo c c1 c2) (fun j hj => by
              have a := e10 j
              rw [xw_j (by omega)] at a
              exact a) (fun j hj => e11 j (by omega))) (yU_row o3.2.1 (fun b b1 b2 => eo b (by omega) (by omega))) rfl (eo _ (by omega) (by omega)) (eo _ (by omega) (by omega)) (eo _ (by omega) (by omega)))
            refine zC_mv2 (s := zX s (yw s.A (37 + 8 * (N : Int) + many) (znu b n s.p)) s.u) hn hF h0 h2 (fun M3 h3 f3 => ?_)
            refine hq M3 h3 (fun _ => ⟨?_, fun j hj => ?_⟩)
            · rw [f3 _ (by omega), e2, show x + 11 = x + 9 + 2 by omega, xw_s]; omega
            · rw [f3 _ (by omega), e10]
              by_cases c : j = many
              · rw [c, xw_s]; exact yup_s.symm
              · rw [xw_j (by omega)]
                exact (hro.2 j (by omega)).trans (yup_n (by omega)).symm
          · have k1 := (zM_cnt h0 h).1
            unfold zFb
            rw [k1]
            refine ⟨⟨by decide, by decide⟩, ⟨by omega, by omega⟩, zM_num hn hF (by decide) (by omega) hb h (fun q => absurd h0 q) (fun _ q => absurd k257 q) (fun _ _ q => absurd hr' q) (fun _ _ _ M1 h1 k14 => ?_)⟩
            refine zM_good h1 (fun _ => ⟨fun q => absurd q (by decide), fun _ => ?_⟩) (fun q => absurd h0 q)
            refine z_onw (A := s.A) (by omega) h6 hm (h1.2.2.2.2.2.2.2 h0).2.1 (fun q => absurd q hw) (fun _ => ⟨fun _ => ?_, fun q => absurd rfl q⟩)
            refine zM_good h1 (fun _ => ⟨fun q => absurd q (by decide), fun _ => ⟨fun _ => ?_, fun q => by omega⟩⟩) (fun q => absurd h0 q)
            refine zM_good h1 (fun _ => ⟨fun _ => ?_, fun q => absurd q (by decide)⟩) (fun q => absurd h0 q)
            refine ⟨⟨by omega, by omega⟩, ⟨by omega, by omega⟩, ⟨by omega, by omega⟩, ⟨by omega, by omega⟩, ⟨by omega, by omega⟩, fun M2 e2 => ⟨⟨by omega, by omega⟩, hq2 h0 M2 ?_⟩⟩
            rw [e2, show 33 + 8 * (N : Int) + 4 + (many : Int) = 37 + 8 * (N : Int) + many by omega]
            exact zM_w (s := zG b n s) h0 h1 (by omega)
    · refine ⟨zE s (-3), fun q => absurd q z3, fun B M Q h hro hq => cb B M Q h ?_, fun B d M Q K k h hq1 hq2 => ?_⟩
      · exact zC_stands (by decide) (by omega) h (fun q => absurd h0 q) (fun _ q => absurd k257 q) (fun _ _ _ M1 h1 => ⟨fun q => absurd rfl q, fun _ => hq M1 h1 (fun q => absurd q z3)⟩) (fun _ _ q => absurd q hr')
      · have k1 := (zM_cnt h0 h).1
        unfold zFb
        rw [k1]
        refine ⟨⟨by decide, by decide⟩, ⟨by omega, by omega⟩, zM_num hn hF (by decide) (by omega) hb h (fun q => absurd h0 q) (fun _ q => absurd k257 q) (fun _ _ _ M1 r h1 _ _ => ?_) (fun _ _ q => absurd q hr')⟩
        exact zM_good h1 (fun q => absurd q z3) (fun _ => ⟨fun _ => zM_good h1 (fun q => absurd q z3) (fun _ => ⟨fun _ => zM_good h1 (fun q => absurd q z3) (fun _ => ⟨fun q => absurd rfl q, fun _ => hq1 z3 M1 h1⟩), fun q => absurd rfl q⟩), fun q => absurd rfl q⟩)
  · refine ⟨zE s (-2), fun q => absurd q z2, fun B M Q h hro hq => cb B M Q h ?_, fun B d M Q K k h hq1 hq2 => ?_⟩
    · exact zC_stands (by decide) (by omega) h (fun q => absurd h0 q) (fun _ _ M1 h1 => ⟨fun q => absurd rfl q, fun _ => hq M1 h1 (fun q => absurd q z2)⟩) (fun _ q => absurd q k257) (fun _ q => absurd q k257)
    · have k1 := (zM_cnt h0 h).1
      unfold zFb
      rw [k1]
      refine ⟨⟨by decide, by decide⟩, ⟨by omega, by omega⟩, zM_num hn hF (by decide) (by omega) hb h (fun q => absurd h0 q) (fun _ _ M1 h1 => ?_) (fun _ q => absurd q k257) (fun _ q => absurd q k257)⟩
      exact zM_good h1 (fun q => absurd q z2) (fun _ => ⟨fun _ => zM_good h1 (fun q => absurd q z2) (fun _ => ⟨fun _ => zM_good h1 (fun q => absurd q z2) (fun _ => ⟨fun q => absurd rfl q, fun _ => hq1 z2 M1 h1⟩), fun q => absurd rfl q⟩), fun q => absurd rfl q⟩)
end ZF
def zFl (A : yA) (N many : Nat) (th : Int) : yA := yw (yw (yw A (33 + 8 * (N : Int)) many) (34 + 8 * (N : Int)) th) 2 ((N : Int) + 1)
section ZFL
variable {b : Nat → Int} {n x m F N many : Nat} {B M M' : xMe} {s s' : zS} {Q : xMe → Prop} {R : Int → xMe → Prop} {d g k v th : Int} {A A' : yA}
theorem zFl_2 : yS (zFl A N many th) 2 = (N : Int) + 1 := by
  unfold zFl
  rw [yS_w]; exact yup_s
theorem zFl_33 : yS (zFl A N many th) (33 + 8 * (N : Int)) = (many : Int) := (yup_n (by omega)).trans ((yup_n (by omega)).trans yup_s)
theorem zFl_34 : yS (zFl A N many th) (34 + 8 * (N : Int)) = th := (yup_n (by omega)).trans yup_s
theorem zFl_n (h1 : k ≠ 2) (h2 : k ≠ 33 + 8 * (N : Int)) (h3 : k ≠ 34 + 8 * (N : Int)) : yS (zFl A N many th) k = yS A k := (yup_n h1).trans ((yup_n h3).trans (yup_n h2))
theorem zI_fl (h : zI A) (hr : zRp N many A) (hm : 1 ≤ many) (t0 : 0 ≤ th ∧ th ≤ 99) : zI (zFl A N many th) := by
  obtain ⟨hN, h6, hm4, hrr⟩ := hr
  have e : ∀ k, k ≠ 2 → k ≠ 33 + 8 * (N : Int) → k ≠ 34 + 8 * (N : Int) → yS (zFl A N many th) k = yS A k := fun k c1 c2 c3 => zFl_n c1 c2 c3
  have e2 : yS (zFl A N many th) 2 = (N : Int) + 1 := zFl_2
  have e33 : yS (zFl A N many th) (33 + 8 * (N : Int)) = (many : Int) := zFl_33
  have e34 : yS (zFl A N many th) (34 + 8 * (N : Int)) = th := zFl_34
  have eC : yC (zFl A N many th) = yC A := rfl
  have eP : yP (zFl A N many th) = yP A := rfl
  have eQ : yQ (zFl A N many th) = yQ A := rfl
  generalize zFl A N many th = A' at *
  obtain ⟨h1, h2, h3, h4, h5, h6', h7, h8, h9, h10, h11⟩ := h
  obtain ⟨n1, n2, n3, n4, n5, n6⟩ := id h1
  refine ⟨?_, fun g g0 g1 => ?_, fun g g0 g1 => ?_, fun p p0 p1 => ?_, ?_, ?_, fun f f0 f1 => ?_, fun k hk => ?_, ?_, eP.trans h10, eQ.trans h11⟩
  · unfold yN; rw [e 1 (by omega) (by omega) (by omega), e2, e 3 (by omega) (by omega) (by omega)]; omega
  · rw [e 1 (by omega) (by omega) (by omega)] at g1; rw [e _ (by omega) (by omega) (by omega), e _ (by omega) (by omega) (by omega), e _ (by omega) (by omega) (by omega)]; exact h2 g g0 g1
  · rw [e2] at g1
    rw [e 1 (by omega) (by omega) (by omega)]
    by_cases c : g = (N : Int)
    · subst c
      rw [e33, e34]
      refine ⟨by omega, by omega, t0.1, t0.2, fun j j0 j1 => ?_⟩
      rw [e _ (by omega) (by omega) (by omega)]
      have a := hrr j.toNat (by omega)
      rw [show ((j.toNat : Nat) : Int) = j by omega] at a
      exact a
    · rw [e (33 + 8 * g) (by omega) (by omega) (by omega), e (34 + 8 * g) (by omega) (by omega) (by omega)]
      obtain ⟨a1, a2, a3, a4, a5⟩ := h3 g g0 (by omega)
      exact ⟨a1, a2, a3, a4, fun j j0 j1 => by rw [e _ (by omega) (by omega) (by omega)]; exact a5 j j0 j1⟩
  · rw [e 3 (by omega) (by omega) (by omega)] at p1
    rw [e (81 + 9 * p) (by omega) (by omega) (by omega), e (82 + 9 * p) (by omega) (by omega) (by omega), e (83 + 9 * p) (by omega) (by omega) (by omega), e (84 + 9 * p) (by omega) (by omega) (by omega), e (85 + 9 * p) (by omega) (by omega) (by omega), e (86 + 9 * p) (by omega) (by omega) (by omega), e (87 + 9 * p) (by omega) (by omega) (by omega), e (88 + 9 * p) (by omega) (by omega) (by omega), e2]
    obtain ⟨a1, a2, a3⟩ := h4 p p0 p1
    exact ⟨a1, by omega, a3⟩
  · rw [e 9 (by omega) (by omega) (by omega), e 10 (by omega) (by omega) (by omega), e 11 (by omega) (by omega) (by omega)]; exact h5
  · rw [e 0 (by omega) (by omega) (by omega), e 5 (by omega) (by omega) (by omega), e 6 (by omega) (by omega) (by omega), e 7 (by omega) (by omega) (by omega), e 8 (by omega) (by omega) (by omega)]; exact h6'
  · obtain ⟨a1, a2, a3⟩ := h7 f f0 f1
    rw [e (35 + 8 * f) (by omega) (by omega) (by omega), e (36 + 8 * f) (by omega) (by omega) (by omega), e2]
    exact ⟨a1, a2, fun c => by rw [e _ (by omega) (by omega) (by omega)]; exact a3 (by omega)⟩
  · rw [e _ (by omega) (by omega) (by omega)]; exact h8 k hk
  · rw [eC, e2]
    exact ⟨h9.1, fun c hc => by
      obtain ⟨a1, a2, a3⟩ := h9.2 c hc
      exact ⟨a1, by omega, a3⟩⟩
theorem zC_fl (hI : zI A) (hr : zRp N many A) (hro : zRo x N many A M) (h : zR (x + 4) M A) (hq : ∀ M', zR (x + 4) M' (zFl A N many th) → (∀ c, ¬ (x + 9 ≤ c ∧ c ≤ x + 13) → M' c = M c) → Q M') : p_X1_close (x + 9) th M Q := by
  obtain ⟨hN, h6, hm4, hrr⟩ := hr
  have h4 : M (x + 9) 4 = (N : Int) := by rw [← hN]; exact h 5 4 2 (by decide) yl5
  unfold p_X1_close
  rw [h4, Int.toNat_natCast]
  refine ⟨fun q => by omega, fun _ => ⟨fun q => by omega, fun _ => ⟨⟨by omega, by omega⟩, fun M1 e1 => ?_⟩⟩⟩
  have k1 : M1 (x + 9) 4 = (N : Int) := by rw [e1, xw_b (by omega)]; exact h4
  rw [k1, Int.toNat_natCast]
  refine ⟨⟨by omega, by omega⟩, fun M2 e2 => ?_⟩
  have k2 : M2 (x + 9) 4 = (N : Int) := by rw [e2, xw_b (by omega)]; exact k1
  rw [k2]
  have eo : ∀ M3, M3 = xw M2 (x + 9) 4 ((N : Int) + 1) → ∀ c, c ≠ x + 9 → c ≠ x + 12 → c ≠ x + 13 → M3 c = M c := fun M3 e3 c c1 c2 c3 => by rw [e3, xw_B (by omega), e2, xw_B (by omega), e1, xw_B (by omega)]
  refine ⟨⟨by omega, by omega⟩, fun M3 e3 => hq M3 ?_ (fun c hc => eo M3 e3 c (by omega) (by omega) (by omega))⟩
  obtain ⟨n1, n2, n3, n4, n5, n6⟩ := id hI.1
  intro o i k ho hl
  have old : yL A o i k → k ≠ 2 → k ≠ 33 + 8 * (N : Int) → k ≠ 34 + 8 * (N : Int) → M3 (x + 4 + o) i.toNat = M (x + 4 + o) i.toNat → M3 (x + 4 + o) i.toNat = yS (zFl A N many th) k := fun l c1 c2 c3 c4 => by
    rw [c4, zFl_n c1 c2 c3]; exact h o i k ho l
  have e1' : yS (zFl A N many th) 1 = yS A 1 := zFl_n (by decide) (by omega) (by omega)
  have e3' : yS (zFl A N many th) 3 = yS A 3 := zFl_n (by decide) (by omega) (by omega)
  have row : ∀ o' : Nat, o' ≠ 5 → o' ≠ 8 → o' ≠ 9 → M3 (x + 4 + o') = M (x + 4 + o') := fun o' c1 c2 c3 => eo M3 e3 _ (by omega) (by omega) (by omega)
  unfold yL at hl
  split at hl
  · exact old (by unfold yL; exact hl) (by omega) (by omega) (by omega) (by rw [row _ (by omega) (by omega) (by omega)])
  · exact old (by unfold yL; exact hl) (by omega) (by omega) (by omega) (by rw [row _ (by omega) (by omega) (by omega)])
  · rw [e1'] at hl; exact old hl (by omega) (by omega) (by omega) (by rw [row _ (by omega) (by omega) (by omega)])
  · rw [e1'] at hl; exact old hl (by omega) (by omega) (by omega) (by rw [row _ (by omega) (by omega) (by omega)])
  · rw [e1'] at hl; exact old hl (by omega) (by omega) (by omega) (by rw [row _ (by omega) (by omega) (by omega)])
  · obtain ⟨rfl, rfl⟩ := hl
    rw [zFl_2, e3, show x + 4 + 5 = x + 9 by omega, show (4 : Int).toNat = 4 from rfl, xw_s]
  · obtain ⟨f, j, a1, a2, a3, a4, a5, a6, a7⟩ := hl
    rw [zFl_2] at a2
    by_cases c : f = (N : Int)
    · subst c
      rw [zFl_33] at a4
      rw [row _ (by omega) (by omega) (by omega), a7, zFl_n (by omega) (by omega) (by omega), a6]
      have a := hro.2 j.toNat (by omega)
      rw [show ((j.toNat : Nat) : Int) = j by omega] at a
      rw [← a, show ((N : Int) * 4 + j).toNat = 4 * N + j.toNat by omega]
    · rw [zFl_n (by omega) (by omega) (by omega)] at a4
      exact old ⟨f, j, a1, by omega, a3, a4, a5, a6, a7⟩ (by omega) (by omega) (by omega) (by rw [row _ (by omega) (by omega) (by omega)])
  · obtain ⟨a1, a2, a3⟩ := hl
    rw [zFl_2] at a2
    by_cases c : i = (N : Int)
    · subst c
      rw [row _ (by omega) (by omega) (by omega), a3, zFl_33, Int.toNat_natCast]; exact hro.1
    · exact old ⟨a1, by omega, a3⟩ (by omega) (by omega) (by omega) (by rw [row _ (by omega) (by omega) (by omega)])
  · obtain ⟨a1, a2, a3⟩ := hl
    rw [zFl_2] at a2
    have er : M3 (x + 4 + 8) i.toNat = xw M (x + 9 + 3) N th (x + 4 + 8) i.toNat := by rw [e3, xw_b (by omega), e2, xw_b (by omega), e1]
    by_cases c : i = (N : Int)
    · subst c
      rw [er, a3, zFl_34, Int.toNat_natCast, show x + 4 + 8 = x + 9 + 3 by omega, xw_s]
    · exact old ⟨a1, by omega, a3⟩ (by omega) (by omega) (by omega) (by rw [er, xw_j (by omega)])
  · obtain ⟨a1, a2, a3⟩ := hl
    rw [zFl_2] at a2
    have er : M3 (x + 4 + 9) i.toNat = xw M1 (x + 9 + 4) N 0 (x + 4 + 9) i.toNat := by rw [e3, xw_b (by omega), e2]
    by_cases c : i = (N : Int)
    · subst c
      rw [er, a3, zFl_n (by omega) (by omega) (by omega), Int.toNat_natCast, show x + 4 + 9 = x + 9 + 4 by omega, xw_s]
      exact (hI.2.2.2.2.2.2.1 (N : Int) (by omega) (by omega)).1.symm
    · exact old ⟨a1, by omega, a3⟩ (by omega) (by omega) (by omega) (by rw [er, xw_j (by omega), e1, xw_b (by omega)])
  · exact absurd rfl ho
  · exact old (by unfold yL; exact hl) (by omega) (by omega) (by omega) (by rw [row _ (by omega) (by omega) (by omega)])
  all_goals first
    | (rw [e3'] at hl; exact old hl (by omega) (by omega) (by omega) (by rw [row _ (by omega) (by omega) (by omega)]))
    | exact hl.elim
end ZFL
section ZFN
variable {b : Nat → Int} {n x m F N many : Nat} {B M M' : xMe} {s s' : zS} {Q : xMe → Prop} {R : Int → xMe → Prop} {d g k v th : Int} {A A' : yA}
/-- a number, the draft's row as it was -/
theorem zM_num2 {lo hi : Int} (hn : n ≤ 700) (hF : 702 ≤ F) (hlo : lo ≤ 1) (hhi : hi ≤ 9999) (hb : ∀ j, j < n → 0 ≤ b j ∧ b j ≤ 255) (h0 : s.e = 0) (h : zM b n m B d s M) (h2 : ∀ M' r k, k ≠ 0 → zM b n m B d (zE s k) M' → ((zkd b n s.p ≠ 257 ∧ k = -2) ∨ (zkd b n s.p = 257 ∧ ¬ (lo ≤ znu b n s.p ∧ znu b n s.p ≤ hi) ∧ k = -3)) → M' (m + 3) = M (m + 3) → R r M') (h4 : zkd b n s.p = 257 → (lo ≤ znu b n s.p ∧ znu b n s.p ≤ hi) → ∀ M', zM b n m B d (zG b n s) M' → R (znu b n s.p) M') : p_X12_number F m lo hi M R := by
  obtain ⟨⟨P, P1, P2, P3⟩, a2, a3⟩ := h.2.2.2.2.2.2.2 h0
  have hp : s.p ≤ n := by rw [← P3]; exact zru_le P1
  refine z_nu hn hF hlo hhi hb P1 h.2.1 (h.1.1.trans h0) P2 P3 (fun k M' c1 c2 c3 => h2 M' 0 (-2) (by decide) (zM_m h h0 c3 c1 c2 rfl rfl (fun q => absurd q (show ¬ ((-2 : Int)) = 0 by decide))) (Or.inl ⟨k, rfl⟩) (by funext j; exact c3 _ _ (by omega))) (fun k c M' r c1 c2 c3 r0 r1 => h2 M' r (-3) (by decide) (zM_m h h0 c3 c1 c2 rfl rfl (fun q => absurd q (show ¬ ((-3 : Int)) = 0 by decide))) (Or.inr ⟨k, c, rfl⟩) (by funext j; exact c3 _ _ (by omega))) (fun k c M' c1 c2 c3 => h4 k c M' (zM_m h h0 (fun c j cj => c3 c j (by omega)) (by rw [c3 _ _ (by omega)]; exact h.1.1) (by rw [c3 _ _ (by omega)]; exact h.1.2) rfl rfl (fun _ => ⟨_, zte_le hp, c1, rfl⟩)))
/-- the route's other gates -/
theorem z_route (hn : n ≤ 700) (hF : 702 ≤ F) (hb : ∀ j, j < n → 0 ≤ b j ∧ b j ≤ 255) : ∀ (r many : Nat) (s : zS), many + r = 4 → 1 ≤ many → s.e = 0 → s.p ≤ n → zI s.A → zRp N many s.A → ∃ s' many', (s'.e = 0 → 1 ≤ many' ∧ zI s'.A ∧ zRp N many' s'.A ∧ s.p ≤ s'.p ∧ s'.p ≤ n ∧ s'.u = s.u ∧ yK s'.A = yK s.A ∧ zkd b n s'.p ≠ 257) ∧ (∀ (B M : xMe) (Q K : xMe → Prop) (k : Nat), zC b n x B s M → zRo x N many s.A M → 5 < k + many → (∀ M', zC b n x B s' M' → (s'.e = 0 → zRo x N many' s'.A M') → K M') → p_X8_readFlow_33 F (x + 1) Q K k (many : Int) M) ∧ (∀ (B : xMe) (d : Int) (M : xMe) (Q : xMe → Prop) (K : Int → Int → xMe → Prop) (k : Nat), zM b n m B d s M → 5 < k + many → (s'.e ≠ 0 → ∀ M', zM b n m B d s' M' → Q M') → (s'.e ≠ 0 → ∀ M', zM b n m B d s' M' → K (N : Int) (many' : Int) M') → (s'.e = 0 → ∀ M', zM b n m B d s' M' → K (N : Int) (many' : Int) M') → p_X12_readFlow_27 F m Q K k (N : Int) (many : Int) M) := by
  intro r
  induction r with
  | zero =>
    intro many s hm4 hm h0 hp hI hR
    by_cases k257 : zkd b n s.p = 257
    · obtain ⟨s1, f1, f2, f3⟩ := z_place (x := x) (m := m) hn hF hb h0 hI hR
      have e1 : s1.e ≠ 0 := fun q => by have := (f1 q).1; omega
      refine ⟨s1, many, fun q => absurd q e1, fun B M Q K k h hro hk hq => ?_, fun B d M Q K k h hk hq hk0 hq2 => ?_⟩
      · obtain ⟨k, rfl⟩ : ∃ k', k = k' + 1 := ⟨k - 1, by omega⟩
        have e4 : M (x + 1 + 1) 4 = zkd b n s.p := (h.2.2.2.2.2 h0).2.1.2.2.1
        unfold p_X8_readFlow_33
        rw [e4]
        refine ⟨fun q => by omega, fun _ => ⟨fun q => absurd (h.1.1.trans h0) q, fun _ => ⟨fun q => absurd k257 q, fun _ => f2 B M _ h hro (fun M1 h1 _ => ⟨⟨by omega, by omega⟩, ?_⟩)⟩⟩⟩
        obtain ⟨k, rfl⟩ : ∃ k', k = k' + 1 := ⟨k - 1, by omega⟩
        unfold p_X8_readFlow_33
        exact ⟨fun _ => hq M1 h1 (fun q => absurd q e1), fun _ => ⟨fun _ => hq M1 h1 (fun q => absurd q e1), fun q => absurd (h1.1.1.symm.trans q) e1⟩⟩
      · obtain ⟨k, rfl⟩ : ∃ k', k = k' + 1 := ⟨k - 1, by omega⟩
        unfold p_X12_readFlow_27
        refine zM_good h (fun _ => ⟨fun q => absurd q (by decide), fun _ => ⟨fun q => by omega, fun _ => ?_⟩⟩) (fun q => absurd h0 q)
        refine zM_next hn hF h0 h (fun M1 h1 _ => z_dig (fun _ => ⟨fun q => absurd q (by decide), fun _ => ?_⟩) (fun q => absurd (zkd_dg.mp ⟨k257, zkd_dg2 hb k257⟩) q))
        exact f3 B d M1 Q K k h1 hq (fun q => absurd q e1)
    · refine ⟨s, many, fun _ => ⟨hm, hI, hR, Nat.le_refl _, hp, rfl, rfl, k257⟩, fun B M Q K k h hro hk hq => ?_, fun B d M Q K k h hk hq hk0 hq2 => ?_⟩
      · obtain ⟨k, rfl⟩ : ∃ k', k = k' + 1 := ⟨k - 1, by omega⟩
        have e4 : M (x + 1 + 1) 4 = zkd b n s.p := (h.2.2.2.2.2 h0).2.1.2.2.1
        unfold p_X8_readFlow_33
        rw [e4]
        exact ⟨fun q => by omega, fun _ => ⟨fun q => absurd (h.1.1.trans h0) q, fun _ => ⟨fun _ => hq M h (fun _ => hro), fun q => absurd q k257⟩⟩⟩
      · obtain ⟨k, rfl⟩ : ∃ k', k = k' + 1 := ⟨k - 1, by omega⟩
        unfold p_X12_readFlow_27
        refine zM_good h (fun _ => ⟨fun q => absurd q (by decide), fun _ => ⟨fun q => by omega, fun _ => ?_⟩⟩) (fun q => absurd h0 q)
        exact zM_next hn hF h0 h (fun M1 h1 _ => z_dig (fun q => absurd (zkd_dg.mpr q).1 k257) (fun _ => ⟨fun _ => hq2 h0 M1 h1, fun q => absurd rfl q⟩))
  | succ r ih =>
    intro many s hm4 hm h0 hp hI hR
    by_cases k257 : zkd b n s.p = 257
    · obtain ⟨s1, f1, f2, f3⟩ := z_place (x := x) (m := m) hn hF hb h0 hI hR
      by_cases e1 : s1.e = 0
      · obtain ⟨g1, g2, g, g3, g4, g5⟩ := f1 e1
        obtain ⟨r1, r2, r3, r4⟩ := hR
        have A1 : s1.A = yw s.A (37 + 8 * (N : Int) + many) g := by rw [g5]; rfl
        have p1 : s1.p = znx b n s.p := by rw [g5]; rfl
        have u1 : s1.u = s.u := by rw [g5]; rfl
        have I1 : zI s1.A := by rw [A1]; exact zI_rt hI r1 r2 g1
        have R1 : zRp N (many + 1) s1.A := by
          rw [A1]
          refine ⟨(yup_n (by omega)).trans r1, r2, by omega, fun j hj => ?_⟩
          by_cases c : j = many
          · subst c
            rw [show yS (yw s.A (37 + 8 * (N : Int) + j) g) (37 + 8 * (N : Int) + j) = g from yup_s, show yS (yw s.A (37 + 8 * (N : Int) + j) g) 1 = yS s.A 1 from yup_n (by omega)]; exact ⟨g3, g4⟩
          · rw [show yS (yw s.A (37 + 8 * (N : Int) + many) g) (37 + 8 * (N : Int) + j) = _ from yup_n (by omega), show yS (yw s.A (37 + 8 * (N : Int) + many) g) 1 = yS s.A 1 from yup_n (by omega)]; exact r4 j (by omega)
        obtain ⟨s', many', i1, i2, i3⟩ := ih (many + 1) s1 (by omega) (by omega) e1 (by rw [p1]; exact znx_le hp) I1 R1
        refine ⟨s', many', fun q => ?_, fun B M Q K k h hro hk hq => ?_, fun B d M Q K k h hk hq hk0 hq2 => ?_⟩
        · obtain ⟨j1, j2, j3, j4, j5, j6, j7, j8⟩ := i1 q
          have := znx_ge (b := b) (n := n) (p := s.p)
          exact ⟨j1, j2, j3, by omega, j5, j6.trans u1, j7.trans (by rw [A1]; rfl), j8⟩
        · obtain ⟨k, rfl⟩ : ∃ k', k = k' + 1 := ⟨k - 1, by omega⟩
          have e4 : M (x + 1 + 1) 4 = zkd b n s.p := (h.2.2.2.2.2 h0).2.1.2.2.1
          unfold p_X8_readFlow_33
          rw [e4]
          exact ⟨fun q => by omega, fun _ => ⟨fun q => absurd (h.1.1.trans h0) q, fun _ => ⟨fun q => absurd k257 q, fun _ => f2 B M _ h hro (fun M1 h1 ho1 => ⟨⟨by omega, by omega⟩, i2 B M1 Q K k h1 (ho1 e1) (by omega) hq⟩)⟩⟩⟩
        · obtain ⟨k, rfl⟩ : ∃ k', k = k' + 1 := ⟨k - 1, by omega⟩
          unfold p_X12_readFlow_27
          refine zM_good h (fun _ => ⟨fun q => absurd q (by decide), fun _ => ⟨fun q => by omega, fun _ => ?_⟩⟩) (fun q => absurd h0 q)
          refine zM_next hn hF h0 h (fun M1 h1 _ => z_dig (fun _ => ⟨fun q => absurd q (by decide), fun _ => ?_⟩) (fun q => absurd (zkd_dg.mp ⟨k257, zkd_dg2 hb k257⟩) q))
          exact f3 B d M1 Q K k h1 (fun q => absurd e1 q) (fun _ M2 h2 => i3 B d M2 Q K k h2 (by omega) hq hk0 hq2)
      · refine ⟨s1, many, fun q => absurd q e1, fun B M Q K k h hro hk hq => ?_, fun B d M Q K k h hk hq hk0 hq2 => ?_⟩
        · obtain ⟨k, rfl⟩ : ∃ k', k = k' + 1 := ⟨k - 1, by omega⟩
          have e4 : M (x + 1 + 1) 4 = zkd b n s.p := (h.2.2.2.2.2 h0).2.1.2.2.1
          unfold p_X8_readFlow_33
          rw [e4]
          refine ⟨fun q => by omega, fun _ => ⟨fun q => absurd (h.1.1.trans h0) q, fun _ => ⟨fun q => absurd k257 q, fun _ => f2 B M _ h hro (fun M1 h1 _ => ⟨⟨by omega, by omega⟩, ?_⟩)⟩⟩⟩
          obtain ⟨k, rfl⟩ : ∃ k', k = k' + 1 := ⟨k - 1, by omega⟩
          unfold p_X8_readFlow_33
          exact ⟨fun _ => hq M1 h1 (fun q => absurd q e1), fun _ => ⟨fun _ => hq M1 h1 (fun q => absurd q e1), fun q => absurd (h1.1.1.symm.trans q) e1⟩⟩
        · obtain ⟨k, rfl⟩ : ∃ k', k = k' + 1 := ⟨k - 1, by omega⟩
          unfold p_X12_readFlow_27
          refine zM_good h (fun _ => ⟨fun q => absurd q (by decide), fun _ => ⟨fun q => by omega, fun _ => ?_⟩⟩) (fun q => absurd h0 q)
          refine zM_next hn hF h0 h (fun M1 h1 _ => z_dig (fun _ => ⟨fun q => absurd q (by decide), fun _ => ?_⟩) (fun q => absurd (zkd_dg.mp ⟨k257, zkd_dg2 hb k257⟩) q))
          exact f3 B d M1 Q K k h1 hq (fun q => absurd q e1)
    · refine ⟨s, many, fun _ => ⟨hm, hI, hR, Nat.le_refl _, hp, rfl, rfl, k257⟩, fun B M Q K k h hro hk hq => ?_, fun B d M Q K k h hk hq hk0 hq2 => ?_⟩
      · obtain ⟨k, rfl⟩ : ∃ k', k = k' + 1 := ⟨k - 1, by omega⟩
        have e4 : M (x + 1 + 1) 4 = zkd b n s.p := (h.2.2.2.2.2 h0).2.1.2.2.1
        unfold p_X8_readFlow_33
        rw [e4]
        exact ⟨fun q => by omega, fun _ => ⟨fun q => absurd (h.1.1.trans h0) q, fun _ => ⟨fun _ => hq M h (fun _ => hro), fun q => absurd q k257⟩⟩⟩
      · obtain ⟨k, rfl⟩ : ∃ k', k = k' + 1 := ⟨k - 1, by omega⟩
        unfold p_X12_readFlow_27
        refine zM_good h (fun _ => ⟨fun q => absurd q (by decide), fun _ => ⟨fun q => by omega, fun _ => ?_⟩⟩) (fun q => absurd h0 q)
        exact zM_next hn hF h0 h (fun M1 h1 _ => z_dig (fun q => absurd (zkd_dg.mpr q).1 k257) (fun _ => ⟨fun _ => hq2 h0 M1 h1, fun q => absurd rfl q⟩))
end ZFN
