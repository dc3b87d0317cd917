/-! frames of the class's parts -/
theorem yU_f {c : Nat} {M M' : xMe} {C : List yCo} (h : yU c M C) (e : ∀ b, c ≤ b → b < c + 5 → M' b = M b) : yU c M' C := by
  unfold yU
  rw [e c (by omega) (by omega), e (c + 1) (by omega) (by omega), e (c + 2) (by omega) (by omega), e (c + 3) (by omega) (by omega), e (c + 4) (by omega) (by omega)]
  exact h
theorem yX_f {p : Nat} {M M' : xMe} {P : List yPa} (h : yX p M P) (e : ∀ b, p ≤ b → b < p + 6 → M' b = M b) : yX p M' P := by
  unfold yX yXr
  rw [e p (by omega) (by omega), e (p + 1) (by omega) (by omega), e (p + 2) (by omega) (by omega), e (p + 3) (by omega) (by omega), e (p + 4) (by omega) (by omega), e (p + 5) (by omega) (by omega)]
  exact h
theorem yL_le {A : yA} {o : Nat} {i k : Int} (h : yL A o i k) : o < 25 ∧ ¬ (12 ≤ o ∧ o ≤ 15) ∧ o ≠ 10 := by
  unfold yL at h
  split at h <;> first | exact ⟨by decide, by decide, by decide⟩ | exact h.elim
theorem yR_f {w : Nat} {M M' : xMe} {A : yA} (h : yR w M A) (e : ∀ b, w ≤ b → b < w + 25 → ¬ (w + 12 ≤ b ∧ b ≤ w + 15) → M' b = M b) : yR w M' A := fun o i k hl => by
  have := yL_le hl
  rw [e _ (by omega) (by omega) (by omega)]; exact h o i k hl
theorem yL_0 {A : yA} {i k : Int} (h : yL A 0 i k) : 7 ≤ i ∧ i ≤ 12 := by
  unfold yL at h
  rcases h with h | h | h | h | h | h <;> omega
theorem yR_13 {w j : Nat} {M : xMe} {A : yA} {v : Int} (h : yR w M A) (hj : 13 ≤ j) : yR w (xw M w j v) A := yR_o h fun o i k hl => by
  by_cases q : o = 0
  · subst q
    have := yL_0 hl
    exact xw_j (by omega)
  · exact xw_b (by omega)
theorem yCR_13 {w j : Nat} {M : xMe} {A : yA} {v : Int} (h : yCR w M A) (hj : 13 ≤ j) : yCR w (xw M w j v) A :=
  ⟨yR_13 h.1 hj, yU_f h.2.1 (fun b _ _ => xw_B (by omega)), yX_f h.2.2.1 (fun b _ _ => xw_B (by omega)), yQc_o h.2.2.2 (fun b _ _ => xw_B (by omega))⟩
theorem yCR_w {w : Nat} {M : xMe} {A : yA} (hN : yN A) (h : yCR w M A) {o : Nat} {i k v : Int} (hl : yL A o i k) (hk : yFx k) : yCR w (xw M (w + o) i.toNat v) (yw A k v) := by
  have := yL_le hl
  exact ⟨yR_w hN h.1 hl hk, yU_f h.2.1 (fun b _ _ => xw_B (by omega)), yX_f h.2.2.1 (fun b _ _ => xw_B (by omega)), yQc_o h.2.2.2 (fun b _ _ => xw_B (by omega))⟩
theorem yCR_x {w : Nat} {M : xMe} {A : yA} (hN : yN A) (h : yCR w M A) {k v : Int} (hk : yFx k) (hx : ∀ o i, ¬ yL A o i k) : yCR w M (yw A k v) := ⟨yR_x hN h.1 hk hx, h.2⟩
theorem yL_56 {A : yA} (hN : yN A) {k : Int} (hk : k = 5 ∨ k = 6 ∨ (36 ≤ k ∧ k < 81 ∧ (k - 33) % 8 = 3)) : ∀ o i, ¬ yL A o i k := fun o i h => by
  obtain ⟨n1, n2, n3, n4, n5, n6⟩ := hN
  unfold yL at h
  split at h
  · rcases h with h | h | h | h | h | h <;> omega
  all_goals (first | exact h.elim | omega | (obtain ⟨f, j, h1, h2, h3, h4, h5, h6, h7⟩ := h; omega) | (obtain ⟨f, j, h1, h2, h3, h4, h6, h7⟩ := h; omega))
/-- with one coupon that is greater by d, of the watched flow, ending last -/
def yDl (fw e d : Int) (A B : yA) : Prop := (d = 0 ∧ B = A) ∨ ∃ (L1 L2 : List yCo) (v : Int), 0 < d ∧ 0 ≤ v ∧ B = yCw A (L1 ++ (fw, v + d, e, 0) :: L2) ∧ yC A = L1 ++ (if v = 0 then L2 else (fw, v, e, 0) :: L2) ∧ (∀ c ∈ L1, c.1 = fw → c.2.2.1 ≤ e) ∧ (∀ c ∈ L2, c.1 = fw → c.2.2.1 < e)
/-- op does with the greater coupon what it does without, if less than L is more -/
def yPar (fw e L : Int) (A : yA) (op : yA → yA) : Prop := ∀ d B, 0 ≤ d → d < L → yDl fw e d A B → yDl fw e d (op A) (op B)
theorem yDl_0 {fw e : Int} {A : yA} : yDl fw e 0 A A := Or.inl ⟨rfl, rfl⟩
def yKp (w : Nat) (M M' : xMe) : Prop := M' w 13 = M w 13 ∧ (1 ≤ M w 14 → 1 ≤ M' w 14 ∧ M' w 14 ≤ M w 14)
theorem yKp_refl (w : Nat) (M : xMe) : yKp w M M := ⟨rfl, fun h => ⟨h, Int.le_refl _⟩⟩
theorem yKp_trans {w : Nat} {M M' N : xMe} (h : yKp w M M') (g : yKp w M' N) : yKp w M N := ⟨g.1.trans h.1, fun q => ⟨(g.2 (h.2 q).1).1, Int.le_trans (g.2 (h.2 q).1).2 (h.2 q).2⟩⟩
theorem yPar_mono {fw e L L' : Int} {A : yA} {op : yA → yA} (h : yPar fw e L A op) (hl : L' ≤ L) : yPar fw e L' A op := fun d B h0 h1 h2 => h d B h0 (by omega) h2
theorem yPar_comp {fw e L : Int} {A : yA} {op op2 : yA → yA} (h : yPar fw e L A op) (g : yPar fw e L (op A) op2) : yPar fw e L A (fun A => op2 (op A)) := fun d B h0 h1 h2 => g d (op B) h0 h1 (h d B h0 h1 h2)
theorem yPar_id {fw e L : Int} {A : yA} : yPar fw e L A (fun A => A) := fun _ _ _ _ h => h
/-! REFUNDS, ARRIVALS -/
theorem s_X0_addF {a : Nat} {f v e : Int} {M : xMe} {C : List yCo} {Q : xMe → Prop} (hU : yU a M C) (hl : 30 ≤ C.length) (hq : Q M) : p_X0_add a f v e M Q := by
  unfold p_X0_add
  rw [hU.1]
  exact ⟨fun h => absurd h (by omega), fun _ => ⟨fun h => absurd h (by omega), fun _ => hq⟩⟩
def yRv (paid : Int) (A : yA) : Int := min 9999 (Int.tdiv (paid * yS A 10) 100)
def yRef (f paid : Int) (A : yA) : yA := if 0 < yRv paid A ∧ (yC A).length < 30 then yCw A (yC A ++ [(f, yRv paid A, yS A 0 + yS A 11, 0)]) else A
theorem yRef_par {fw e L f paid : Int} {A : yA} (h11 : yS A 11 ≤ 999) (he : yS A 0 + 1000 < e) (hL : 0 < yRv paid A → 29 ≤ (yC A).length → L ≤ 1) : yPar fw e L A (yRef f paid) := by
  intro d B h0 h1 h2
  rcases h2 with ⟨rfl, rfl⟩ | ⟨L1, L2, v, hd, hv, rfl, hC, hl1, hl2⟩
  · exact yDl_0
  · right
    unfold yRef
    have e1 : yRv paid (yCw A (L1 ++ (fw, v + d, e, 0) :: L2)) = yRv paid A := rfl
    have e2 : yC (yCw A (L1 ++ (fw, v + d, e, 0) :: L2)) = L1 ++ (fw, v + d, e, 0) :: L2 := rfl
    rw [e1, e2]
    by_cases hv0 : 0 < yRv paid A
    · have hlen : (yC A).length < 29 := by
        by_cases q : (yC A).length < 29
        · exact q
        · have := hL hv0 (by omega); omega
      have hlen2 : (L1 ++ (fw, v + d, e, 0) :: L2).length < 30 := by
        rw [hC] at hlen
        simp only [List.length_append, List.length_cons] at hlen ⊢
        split at hlen <;> (try simp only [List.length_cons] at hlen) <;> omega
      rw [if_pos ⟨hv0, hlen2⟩, if_pos ⟨hv0, by omega⟩]
      refine ⟨L1, L2 ++ [(f, yRv paid A, yS A 0 + yS A 11, 0)], v, hd, hv, ?_, ?_, hl1, fun c hc hf => ?_⟩
      · show yCw A _ = yCw A _
        rw [List.append_assoc]; rfl
      · show yC A ++ _ = _
        rw [hC]
        split
        · simp
        · simp
      · rcases List.mem_append.mp hc with hc | hc
        · exact hl2 c hc hf
        · simp at hc; subst hc; simp only; omega
    · rw [if_neg (fun q => hv0 q.1), if_neg (fun q => hv0 q.1)]
      exact ⟨L1, L2, v, hd, hv, rfl, hC, hl1, hl2⟩
theorem ymul_b {x y a b : Int} (hx : 0 ≤ x ∧ x ≤ a) (hy : 0 ≤ y ∧ y ≤ b) : 0 ≤ x * y ∧ x * y ≤ a * b := ⟨Int.mul_nonneg hx.1 hy.1, Int.mul_le_mul hx.2 hy.2 hy.1 (by omega)⟩
theorem s_X10_refund {w : Nat} {f paid : Int} {M : xMe} {A : yA} {Q : xMe → Prop} (h : yCR w M A) (hI1 : yI1 A) (hI5 : (yC A).length ≤ 30) (ht : 0 ≤ yS A 0 ∧ yS A 0 ≤ 11000) (hp : 0 ≤ paid ∧ paid ≤ 4000) (hq : ∀ M', yCR w M' (yRef f paid A) → yKp w M M' → (∀ fw e, yS A 0 + 1000 < e → yPar fw e (M' w 14) A (yRef f paid)) → (∀ b, b < w ∨ w + 36 ≤ b → M' b = M b) → Q M') : p_X10_refund w f paid M Q := by
  obtain ⟨hR, hU, hX, hQ⟩ := id h
  obtain ⟨-, -, -, -, ⟨-, -, r1, r2, r3, r4⟩, -, -⟩ := hI1
  have hm := ymul_b hp ⟨r1, r2⟩
  have ed : Int.tdiv (paid * yS A 10) 100 = (paid * yS A 10) / 100 := Int.tdiv_eq_ediv_of_nonneg hm.1
  unfold p_X10_refund
  rw [yr0_9 hR, yr0_7 hR, yr0_10 hR, hU.1]
  refine ⟨⟨by omega, by omega⟩, ⟨by decide, by rw [ed]; exact ⟨by omega, by omega⟩⟩, fun z ez => ⟨fun h0 => ⟨fun hl => ⟨⟨by omega, by omega⟩, ?_⟩, fun hl M1 e1 => ?_⟩, fun h0 => ?_⟩⟩
  · have hz : yRv paid A = z := ez.symm
    refine s_X0_add hU (by omega) (fun M' g1 g2 => ?_)
    have hnew : yRef f paid A = yCw A (yC A ++ [(f, z, yS A 0 + yS A 11, 0)]) := by unfold yRef; rw [hz, if_pos ⟨h0, by omega⟩]
    refine hq M' ?_ ?_ (fun fw e he => yRef_par r4 he (fun _ _ => by omega)) (fun b hb => g2 b (by omega))
    · rw [hnew]
      exact ⟨yR_f hR (fun b _ _ _ => g2 b (by omega)), g1, yX_f hX (fun b _ _ => g2 b (by omega)), yQc_o hQ (fun b _ _ => g2 b (by omega))⟩
    · unfold yKp
      rw [g2 w (by omega)]
      exact ⟨rfl, fun h => ⟨h, Int.le_refl _⟩⟩
  · subst e1
    have hz : yRv paid A = z := ez.symm
    obtain ⟨hR1, hU1, hX1, hQ1⟩ := yCR_13 (v := 1) (j := 14) h (by omega)
    rw [yr0_7 hR1, yr0_10 hR1]
    refine ⟨⟨by omega, by omega⟩, ?_⟩
    have hkp : ∀ M' : xMe, M' w = xw M w 14 1 w → yKp w M M' ∧ M' w 14 = 1 := fun M' e => by
      unfold yKp
      rw [e, xw_s]
      exact ⟨⟨xw_j (by decide), fun h => ⟨by decide, h⟩⟩, rfl⟩
    by_cases hl2 : (yC A).length < 30
    · refine s_X0_add hU1 hl2 (fun M' g1 g2 => ?_)
      have hnew : yRef f paid A = yCw A (yC A ++ [(f, z, yS A 0 + yS A 11, 0)]) := by unfold yRef; rw [hz, if_pos ⟨h0, by omega⟩]
      have hk := hkp M' (g2 w (by omega))
      refine hq M' ?_ hk.1 (fun fw e he => yRef_par r4 he (fun _ _ => by rw [hk.2]; decide)) (fun b hb => by rw [g2 b (by omega), xw_B (by omega)])
      rw [hnew]
      exact ⟨yR_f hR1 (fun b _ _ _ => g2 b (by omega)), g1, yX_f hX1 (fun b _ _ => g2 b (by omega)), yQc_o hQ1 (fun b _ _ => g2 b (by omega))⟩
    · have hnew : yRef f paid A = A := by unfold yRef; rw [if_neg (fun q => hl2 q.2)]
      have hk := hkp (xw M w 14 1) rfl
      refine s_X0_addF hU1 (by omega) (hq _ (by rw [hnew]; exact yCR_13 h (by omega)) hk.1 (fun fw e he => yRef_par r4 he (fun _ _ => by rw [hk.2]; decide)) (fun b hb => xw_B (by omega)))
  · have hz : yRv paid A = z := ez.symm
    have hnew : yRef f paid A = A := by unfold yRef; rw [hz, if_neg (fun q => by omega)]
    exact hq M (by rw [hnew]; exact h) (yKp_refl _ _) (fun fw e he => yRef_par r4 he (fun q => by omega)) (fun _ _ => rfl)
