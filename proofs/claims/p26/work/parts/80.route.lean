/-! LAYER 2, load: the statement flow -/
def zFc (F : Nat) (a : Nat) (Q : xMe → Prop) : xMe → Prop := (fun M => (((M a 2) ≠ 0 → (((M a 2) ≠ 0 → Q M) ∧ ((M a 2) = 0 → p_X1_close (a + 8) 0 M (fun M120 => Q M120)))) ∧ ((M a 2) = 0 → p_X9_isWord F (a + 1) 8 M (fun r84 M84 => ((r84 = 0 → (((M84 a 2) ≠ 0 → Q M84) ∧ ((M84 a 2) = 0 → p_X1_close (a + 8) 0 M84 (fun M120 => Q M120)))) ∧ (r84 ≠ 0 → p_X9_moveOn F (a + 1) M84 (fun M94 => p_X8_takeNumber F a 0 99 M94 (fun r101 M101 => (((M101 a 2) ≠ 0 → Q M101) ∧ ((M101 a 2) = 0 → p_X1_close (a + 8) r101 M101 (fun M120 => Q M120)))))))))))
def zRo (x N many : Nat) (A : yA) (M : xMe) : Prop := M (x + 11) N = (many : Int) ∧ ∀ j : Nat, j < many → M (x + 10) (4 * N + j) = yS A (37 + 8 * (N : Int) + j)
def zRp (N many : Nat) (A : yA) : Prop := yS A 2 = (N : Int) ∧ N < 6 ∧ many ≤ 4 ∧ ∀ j : Nat, j < many → 0 ≤ yS A (37 + 8 * (N : Int) + j) ∧ yS A (37 + 8 * (N : Int) + j) < yS A 1
section ZF
variable {b : Nat → Int} {n x m F N many : Nat} {B M M' : xMe} {s s' : zS} {Q : xMe → Prop} {R : Int → xMe → Prop} {d g k v th : Int} {A A' : yA}
theorem zR_rt {w : Nat} (hI : zI A) (hN : yS A 2 = (N : Int)) (h : zR w M A) (hL : ∀ o i k, o ≠ 11 → yL A' o i k → yL A o i k ∧ yS A' k = yS A k) (eo : ∀ c, c ≠ w + 6 → c ≠ w + 7 → M' c = M c) (e6 : ∀ j, j < 4 * N → M' (w + 6) j = M (w + 6) j) (e7 : ∀ j, j < N → M' (w + 7) j = M (w + 7) j) : zR w M' A' := fun o i k ho hl => by
  obtain ⟨a1, a2⟩ := hL o i k ho hl
  rw [a2, ← h o i k ho a1]
  by_cases c6 : o = 6
  · subst c6
    obtain ⟨f, j, b1, b2, b3, b4, b5, b6, b7⟩ := a1
    exact e6 _ (by omega)
  · by_cases c7 : o = 7
    · subst c7
      obtain ⟨b1, b2, b3⟩ := a1
      exact e7 _ (by omega)
    · rw [eo _ (by omega) (by omega)]
theorem yL_rt {o : Nat} {i : Int} {j : Nat} (hN : yS A 2 = (N : Int)) (h6 : N < 6) (hj : j < 4) (hI : zI A) (hl : yL (yw A (37 + 8 * (N : Int) + j) v) o i k) (ho : o ≠ 11) : yL A o i k ∧ yS (yw A (37 + 8 * (N : Int) + j) v) k = yS A k := by
  have e : ∀ k', k' ≠ 37 + 8 * (N : Int) + j → yS (yw A (37 + 8 * (N : Int) + j) v) k' = yS A k' := fun k' h => yup_n h
  have hl' : yL A o i k := yL_S (A := A) (e 1 (by omega)) (e 2 (by omega)) (e 3 (by omega)) (fun f f0 f1 => e _ (by omega)) hl
  refine ⟨hl', e k (fun q => ?_)⟩
  subst q
  have n5 := hI.1.2.2.2.2.1
  unfold yL at hl'
  split at hl'
  · omega
  · omega
  · have := hI.1; obtain ⟨-, n2, -, -, -, -⟩ := this; omega
  · have := hI.1; obtain ⟨-, n2, -, -, -, -⟩ := this; omega
  · have := hI.1; obtain ⟨-, n2, -, -, -, -⟩ := this; omega
  · omega
  · obtain ⟨f, j', b1, b2, b3, b4, b5, b6, b7⟩ := hl'; omega
  · omega
  · omega
  · omega
  · exact absurd rfl ho
  · omega
  all_goals first
    | exact hl'.elim
    | (have n4 := hI.1.2.2.2.1; omega)
theorem zI_rt {j : Nat} (h : zI A) (hN : yS A 2 = (N : Int)) (h6 : N < 6) (hj : j < 4) : zI (yw A (37 + 8 * (N : Int) + j) v) := by
  have e : ∀ k', k' ≠ 37 + 8 * (N : Int) + j → yS (yw A (37 + 8 * (N : Int) + j) v) k' = yS A k' := fun k' h => yup_n h
  have eC : yC (yw A (37 + 8 * (N : Int) + j) v) = yC A := rfl
  have eP : yP (yw A (37 + 8 * (N : Int) + j) v) = yP A := rfl
  have eQ : yQ (yw A (37 + 8 * (N : Int) + j) v) = yQ A := rfl
  generalize yw A (37 + 8 * (N : Int) + j) v = A' at *
  obtain ⟨h1, h2, h3, h4, h5, h6', h7, h8, h9, h10, h11⟩ := h
  obtain ⟨n1, n2, n3, n4, n5, n6⟩ := id h1
  refine ⟨?_, fun g g0 g1 => ?_, fun g g0 g1 => ?_, fun p p0 p1 => ?_, ?_, ?_, fun f f0 f1 => ?_, fun k hk => ?_, ?_, eP.trans h10, eQ.trans h11⟩
  · unfold yN; rw [e 1 (by omega), e 2 (by omega), e 3 (by omega)]; exact h1
  · rw [e 1 (by omega)] at g1; rw [e _ (by omega), e _ (by omega), e _ (by omega)]; exact h2 g g0 g1
  · rw [e 2 (by omega)] at g1
    rw [e (33 + 8 * g) (by omega), e (34 + 8 * g) (by omega), e 1 (by omega)]
    obtain ⟨a1, a2, a3, a4, a5⟩ := h3 g g0 g1
    exact ⟨a1, a2, a3, a4, fun j j0 j1 => by rw [e _ (by omega)]; exact a5 j j0 j1⟩
  · rw [e 3 (by omega)] at p1
    rw [e (81 + 9 * p) (by omega), e (82 + 9 * p) (by omega), e (83 + 9 * p) (by omega), e (84 + 9 * p) (by omega), e (85 + 9 * p) (by omega), e (86 + 9 * p) (by omega), e (87 + 9 * p) (by omega), e (88 + 9 * p) (by omega), e 2 (by omega)]; exact h4 p p0 p1
  · rw [e 9 (by omega), e 10 (by omega), e 11 (by omega)]; exact h5
  · rw [e 0 (by omega), e 5 (by omega), e 6 (by omega), e 7 (by omega), e 8 (by omega)]; exact h6'
  · rw [e (35 + 8 * f) (by omega), e (36 + 8 * f) (by omega), e (34 + 8 * f) (by omega), e 2 (by omega)]; exact h7 f f0 f1
  · rw [e _ (by omega)]; exact h8 k hk
  · rw [eC, e 2 (by omega)]; exact h9
/-! the gate told already -/
theorem z_orh (hF : 6 ≤ F) (h4 : M (x + 9) 4 = (N : Int)) (h6 : N < 6) (hm : many ≤ 4) (hR : zRo x N many A M) (g0 : 0 ≤ g) (h1 : (∃ j : Nat, j < many ∧ yS A (37 + 8 * (N : Int) + j) = g) → R 1 M) (h0 : ¬ (∃ j : Nat, j < many ∧ yS A (37 + 8 * (N : Int) + j) = g) → R 0 M) : p_X1_openRouteHas F (x + 9) g M R := by
  unfold p_X1_openRouteHas
  have lp : ∀ (k i : Nat), 5 ≤ k + i → i ≤ 4 → (∀ j : Nat, j < i → j < many → yS A (37 + 8 * (N : Int) + j) ≠ g) → p_X1_openRouteHas_2 F (x + 9) R k g (i : Int) M := by
    intro k
    induction k with
    | zero => intro i h5 hi _; omega
    | succ k ih =>
      intro i h5 hi hj
      unfold p_X1_openRouteHas_2
      refine ⟨fun q => h0 (fun ⟨j, j1, j2⟩ => hj j (by omega) j1 j2), fun q => ?_⟩
      unfold p_X1_gateAt
      rw [h4, Int.toNat_natCast]
      have nx : ∀ r : Int, r ≠ g → (i < many → yS A (37 + 8 * (N : Int) + i) ≠ g) → (r ≠ g → (xR ((i : Int) + 1)) ∧ p_X1_openRouteHas_2 F (x + 9) R k g ((i : Int) + 1) M) ∧ (r = g → R 1 M) := fun r hr hi' => ⟨fun _ => ⟨⟨by omega, by omega⟩, ih (i + 1) (by omega) (by omega) (fun j j1 j2 => by
        by_cases c : j = i
        · rw [c]; exact hi' (by omega)
        · exact hj j (by omega) j2)⟩, fun c => absurd c hr⟩
      refine ⟨fun c => by omega, fun _ => ⟨fun c => by omega, fun _ => ⟨fun c => by omega, fun _ => ⟨fun c => by omega, fun _ => ⟨⟨by omega, by omega⟩, ?_, ?_⟩⟩⟩⟩⟩
      · intro c
        have c' : (i : Int) < M (x + 11) N := c
        rw [hR.1] at c'
        have a : M (x + 9 + 1) (4 * N + i) = yS A (37 + 8 * (N : Int) + i) := hR.2 i (by omega)
        rw [show ((N : Int) * 4 + (i : Int)).toNat = 4 * N + i by omega, a]
        refine ⟨⟨by omega, by omega⟩, ⟨by omega, by omega⟩, ⟨by omega, by omega⟩, ?_⟩
        by_cases c2 : yS A (37 + 8 * (N : Int) + i) = g
        · exact ⟨fun r => absurd c2 r, fun _ => h1 ⟨i, by omega, c2⟩⟩
        · exact nx _ c2 (fun _ => c2)
      · intro c
        have c' : M (x + 11) N ≤ (i : Int) := c
        rw [hR.1] at c'
        exact nx _ (by omega) (fun q2 => by omega)
  exact lp F 0 (by omega) (by omega) (fun j hj => by omega)
end ZF
def zFl (A : yA) (N many : Nat) (th : Int) : yA := yw (yw (yw A (33 + 8 * (N : Int)) many) (34 + 8 * (N : Int)) th) 2 ((N : Int) + 1)
section ZFL
variable {b : Nat → Int} {n x m F N many : Nat} {B M M' : xMe} {s s' : zS} {Q : xMe → Prop} {R : Int → xMe → Prop} {d g k v th : Int} {A A' : yA}
theorem zFl_2 : yS (zFl A N many th) 2 = (N : Int) + 1 := by
  unfold zFl
  rw [yS_w]; exact yup_s
theorem zFl_33 : yS (zFl A N many th) (33 + 8 * (N : Int)) = (many : Int) := (yup_n (by omega)).trans ((yup_n (by omega)).trans yup_s)
theorem zFl_34 : yS (zFl A N many th) (34 + 8 * (N : Int)) = th := (yup_n (by omega)).trans yup_s
theorem zFl_n (h1 : k ≠ 2) (h2 : k ≠ 33 + 8 * (N : Int)) (h3 : k ≠ 34 + 8 * (N : Int)) : yS (zFl A N many th) k = yS A k := (yup_n h1).trans ((yup_n h3).trans (yup_n h2))
theorem zI_fl (h : zI A) (hr : zRp N many A) (hm : 1 ≤ many) (t0 : 0 ≤ th ∧ th ≤ 99) : zI (zFl A N many th) := by
  obtain ⟨hN, h6, hm4, hrr⟩ := hr
  have e : ∀ k, k ≠ 2 → k ≠ 33 + 8 * (N : Int) → k ≠ 34 + 8 * (N : Int) → yS (zFl A N many th) k = yS A k := fun k c1 c2 c3 => zFl_n c1 c2 c3
  have e2 : yS (zFl A N many th) 2 = (N : Int) + 1 := zFl_2
  have e33 : yS (zFl A N many th) (33 + 8 * (N : Int)) = (many : Int) := zFl_33
  have e34 : yS (zFl A N many th) (34 + 8 * (N : Int)) = th := zFl_34
  have eC : yC (zFl A N many th) = yC A := rfl
  have eP : yP (zFl A N many th) = yP A := rfl
  have eQ : yQ (zFl A N many th) = yQ A := rfl
  generalize zFl A N many th = A' at *
  obtain ⟨h1, h2, h3, h4, h5, h6', h7, h8, h9, h10, h11⟩ := h
  obtain ⟨n1, n2, n3, n4, n5, n6⟩ := id h1
  refine ⟨?_, fun g g0 g1 => ?_, fun g g0 g1 => ?_, fun p p0 p1 => ?_, ?_, ?_, fun f f0 f1 => ?_, fun k hk => ?_, ?_, eP.trans h10, eQ.trans h11⟩
  · unfold yN; rw [e 1 (by omega) (by omega) (by omega), e2, e 3 (by omega) (by omega) (by omega)]; omega
  · rw [e 1 (by omega) (by omega) (by omega)] at g1; rw [e _ (by omega) (by omega) (by omega), e _ (by omega) (by omega) (by omega), e _ (by omega) (by omega) (by omega)]; exact h2 g g0 g1
  · rw [e2] at g1
    rw [e 1 (by omega) (by omega) (by omega)]
    by_cases c : g = (N : Int)
    · subst c
      rw [e33, e34]
      refine ⟨by omega, by omega, t0.1, t0.2, fun j j0 j1 => ?_⟩
      rw [e _ (by omega) (by omega) (by omega)]
      have a := hrr j.toNat (by omega)
      rw [show ((j.toNat : Nat) : Int) = j by omega] at a
      exact a
    · rw [e (33 + 8 * g) (by omega) (by omega) (by omega), e (34 + 8 * g) (by omega) (by omega) (by omega)]
      obtain ⟨a1, a2, a3, a4, a5⟩ := h3 g g0 (by omega)
      exact ⟨a1, a2, a3, a4, fun j j0 j1 => by rw [e _ (by omega) (by omega) (by omega)]; exact a5 j j0 j1⟩
  · rw [e 3 (by omega) (by omega) (by omega)] at p1
    rw [e (81 + 9 * p) (by omega) (by omega) (by omega), e (82 + 9 * p) (by omega) (by omega) (by omega), e (83 + 9 * p) (by omega) (by omega) (by omega), e (84 + 9 * p) (by omega) (by omega) (by omega), e (85 + 9 * p) (by omega) (by omega) (by omega), e (86 + 9 * p) (by omega) (by omega) (by omega), e (87 + 9 * p) (by omega) (by omega) (by omega), e (88 + 9 * p) (by omega) (by omega) (by omega), e2]
    obtain ⟨a1, a2, a3⟩ := h4 p p0 p1
    exact ⟨a1, by omega, a3⟩
  · rw [e 9 (by omega) (by omega) (by omega), e 10 (by omega) (by omega) (by omega), e 11 (by omega) (by omega) (by omega)]; exact h5
  · rw [e 0 (by omega) (by omega) (by omega), e 5 (by omega) (by omega) (by omega), e 6 (by omega) (by omega) (by omega), e 7 (by omega) (by omega) (by omega), e 8 (by omega) (by omega) (by omega)]; exact h6'
  · obtain ⟨a1, a2, a3⟩ := h7 f f0 f1
    rw [e (35 + 8 * f) (by omega) (by omega) (by omega), e (36 + 8 * f) (by omega) (by omega) (by omega), e2]
    exact ⟨a1, a2, fun c => by rw [e _ (by omega) (by omega) (by omega)]; exact a3 (by omega)⟩
  · rw [e _ (by omega) (by omega) (by omega)]; exact h8 k hk
  · rw [eC, e2]
    exact ⟨h9.1, fun c hc => by
      obtain ⟨a1, a2, a3⟩ := h9.2 c hc
      exact ⟨a1, by omega, a3⟩⟩
theorem zC_fl (hI : zI A) (hr : zRp N many A) (hro : zRo x N many A M) (h : zR (x + 4) M A) (hq : ∀ M', zR (x + 4) M' (zFl A N many th) → (∀ c, ¬ (x + 9 ≤ c ∧ c ≤ x + 13) → M' c = M c) → Q M') : p_X1_close (x + 9) th M Q := by
  obtain ⟨hN, h6, hm4, hrr⟩ := hr
  have h4 : M (x + 9) 4 = (N : Int) := by rw [← hN]; exact h 5 4 2 (by decide) yl5
  unfold p_X1_close
  rw [h4, Int.toNat_natCast]
  refine ⟨fun q => by omega, fun _ => ⟨fun q => by omega, fun _ => ⟨⟨by omega, by omega⟩, fun M1 e1 => ?_⟩⟩⟩
  have k1 : M1 (x + 9) 4 = (N : Int) := by rw [e1, xw_b (by omega)]; exact h4
  rw [k1, Int.toNat_natCast]
  refine ⟨⟨by omega, by omega⟩, fun M2 e2 => ?_⟩
  have k2 : M2 (x + 9) 4 = (N : Int) := by rw [e2, xw_b (by omega)]; exact k1
  rw [k2]
  have eo : ∀ M3, M3 = xw M2 (x + 9) 4 ((N : Int) + 1) → ∀ c, c ≠ x + 9 → c ≠ x + 12 → c ≠ x + 13 → M3 c = M c := fun M3 e3 c c1 c2 c3 => by rw [e3, xw_B (by omega), e2, xw_B (by omega), e1, xw_B (by omega)]
  refine ⟨⟨by omega, by omega⟩, fun M3 e3 => hq M3 ?_ (fun c hc => eo M3 e3 c (by omega) (by omega) (by omega))⟩
  obtain ⟨n1, n2, n3, n4, n5, n6⟩ := id hI.1
  intro o i k ho hl
  have old : yL A o i k → k ≠ 2 → k ≠ 33 + 8 * (N : Int) → k ≠ 34 + 8 * (N : Int) → M3 (x + 4 + o) i.toNat = M (x + 4 + o) i.toNat → M3 (x + 4 + o) i.toNat = yS (zFl A N many th) k := fun l c1 c2 c3 c4 => by
    rw [c4, zFl_n c1 c2 c3]; exact h o i k ho l
  have e1' : yS (zFl A N many th) 1 = yS A 1 := zFl_n (by decide) (by omega) (by omega)
  have e3' : yS (zFl A N many th) 3 = yS A 3 := zFl_n (by decide) (by omega) (by omega)
  have row : ∀ o' : Nat, o' ≠ 5 → o' ≠ 8 → o' ≠ 9 → M3 (x + 4 + o') = M (x + 4 + o') := fun o' c1 c2 c3 => eo M3 e3 _ (by omega) (by omega) (by omega)
  unfold yL at hl
  split at hl
  · exact old (by unfold yL; exact hl) (by omega) (by omega) (by omega) (by rw [row _ (by omega) (by omega) (by omega)])
  · exact old (by unfold yL; exact hl) (by omega) (by omega) (by omega) (by rw [row _ (by omega) (by omega) (by omega)])
  · rw [e1'] at hl; exact old hl (by omega) (by omega) (by omega) (by rw [row _ (by omega) (by omega) (by omega)])
  · rw [e1'] at hl; exact old hl (by omega) (by omega) (by omega) (by rw [row _ (by omega) (by omega) (by omega)])
  · rw [e1'] at hl; exact old hl (by omega) (by omega) (by omega) (by rw [row _ (by omega) (by omega) (by omega)])
  · obtain ⟨rfl, rfl⟩ := hl
    rw [zFl_2, e3, show x + 4 + 5 = x + 9 by omega, show (4 : Int).toNat = 4 from rfl, xw_s]
  · obtain ⟨f, j, a1, a2, a3, a4, a5, a6, a7⟩ := hl
    rw [zFl_2] at a2
    by_cases c : f = (N : Int)
    · subst c
      rw [zFl_33] at a4
      rw [row _ (by omega) (by omega) (by omega), a7, zFl_n (by omega) (by omega) (by omega), a6]
      have a := hro.2 j.toNat (by omega)
      rw [show ((j.toNat : Nat) : Int) = j by omega] at a
      rw [← a, show ((N : Int) * 4 + j).toNat = 4 * N + j.toNat by omega]
    · rw [zFl_n (by omega) (by omega) (by omega)] at a4
      exact old ⟨f, j, a1, by omega, a3, a4, a5, a6, a7⟩ (by omega) (by omega) (by omega) (by rw [row _ (by omega) (by omega) (by omega)])
  · obtain ⟨a1, a2, a3⟩ := hl
    rw [zFl_2] at a2
    by_cases c : i = (N : Int)
    · subst c
      rw [row _ (by omega) (by omega) (by omega), a3, zFl_33, Int.toNat_natCast]; exact hro.1
    · exact old ⟨a1, by omega, a3⟩ (by omega) (by omega) (by omega) (by rw [row _ (by omega) (by omega) (by omega)])
  · obtain ⟨a1, a2, a3⟩ := hl
    rw [zFl_2] at a2
    have er : M3 (x + 4 + 8) i.toNat = xw M (x + 9 + 3) N th (x + 4 + 8) i.toNat := by rw [e3, xw_b (by omega), e2, xw_b (by omega), e1]
    by_cases c : i = (N : Int)
    · subst c
      rw [er, a3, zFl_34, Int.toNat_natCast, show x + 4 + 8 = x + 9 + 3 by omega, xw_s]
    · exact old ⟨a1, by omega, a3⟩ (by omega) (by omega) (by omega) (by rw [er, xw_j (by omega)])
  · obtain ⟨a1, a2, a3⟩ := hl
    rw [zFl_2] at a2
    have er : M3 (x + 4 + 9) i.toNat = xw M1 (x + 9 + 4) N 0 (x + 4 + 9) i.toNat := by rw [e3, xw_b (by omega), e2]
    by_cases c : i = (N : Int)
    · subst c
      rw [er, a3, zFl_n (by omega) (by omega) (by omega), Int.toNat_natCast, show x + 4 + 9 = x + 9 + 4 by omega, xw_s]
      exact (hI.2.2.2.2.2.2.1 (N : Int) (by omega) (by omega)).1.symm
    · exact old ⟨a1, by omega, a3⟩ (by omega) (by omega) (by omega) (by rw [er, xw_j (by omega), e1, xw_b (by omega)])
  · exact absurd rfl ho
  · exact old (by unfold yL; exact hl) (by omega) (by omega) (by omega) (by rw [row _ (by omega) (by omega) (by omega)])
  all_goals first
    | (rw [e3'] at hl; exact old hl (by omega) (by omega) (by omega) (by rw [row _ (by omega) (by omega) (by omega)]))
    | exact hl.elim
end ZFL
section ZFN
variable {b : Nat → Int} {n x m F N many : Nat} {B M M' : xMe} {s s' : zS} {Q : xMe → Prop} {R : Int → xMe → Prop} {d g k v th : Int} {A A' : yA}
end ZFN
