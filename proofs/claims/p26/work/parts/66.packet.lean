/-! A PACKET MORE -/
section YSN
variable {x m w : Nat} {t t' : xTh} {M M' M1 M2 : xMe} {D : Nat → Prop} {A A' : yA} {H H' : List yA} {p f v T z : Int} {Q : Int → xMe → Prop} {E : String → xMe → Prop}
/-- the value of one of its nine cells -/
def yPq (f T z c : Int) : Int := if c = 0 then f else if c = 1 then T else if c = 2 then z else if c = 6 then -1 else 0
def ySnd (A : yA) (f T z : Int) : yA := (fun k => if k = 3 then yS A 3 + 1 else if 81 + 9 * yS A 3 ≤ k ∧ k < 90 + 9 * yS A 3 then yPq f T z (k - (81 + 9 * yS A 3)) else yS A k, A.2)
theorem ySnd_3 : yS (ySnd A f T z) 3 = yS A 3 + 1 := by
  unfold ySnd yS
  dsimp only
  exact if_pos rfl
theorem ySnd_n {k : Int} (h3 : k ≠ 3) (h : ¬ (81 + 9 * yS A 3 ≤ k ∧ k < 90 + 9 * yS A 3)) : yS (ySnd A f T z) k = yS A k := by
  show (if k = 3 then _ else _) = _
  rw [if_neg h3, if_neg h]
theorem ySnd_c {k c : Int} (n0 : 0 ≤ yS A 3) (hk : k = 81 + 9 * yS A 3 + c) (c0 : 0 ≤ c) (c1 : c < 9) : yS (ySnd A f T z) k = yPq f T z c := by
  show (if k = 3 then _ else _) = _
  rw [if_neg (by omega), if_pos (by omega), hk, show 81 + 9 * yS A 3 + c - (81 + 9 * yS A 3) = c by omega]
/-- the class's add -/
theorem s_X5_add {a n : Nat} {Q : xMe → Prop} (h8 : M a 8 = (n : Int)) (hn : n < 40) (hq : ∀ M', M' a 8 = (n : Int) + 1 → M' (a + 1) n = f → M' (a + 2) n = T → M' (a + 3) n = z → M' (a + 4) n = 0 → M' (a + 5) n = 0 → M' (a + 6) n = 0 → M' (a + 7) n = 0 → M' (a + 8) n = -1 → (∀ b j, j ≠ n → (b = a → j ≠ 8) → M' b j = M b j) → (∀ b, b < a ∨ a + 9 ≤ b → M' b = M b) → (∀ j, j ≠ 8 → M' a j = M a j) → Q M') : p_X5_add a f T z M Q := by
  have r : ∀ {N : xMe} {k j : Nat} {u : Int}, xw N (a + (k + 1)) j u a 8 = N a 8 := fun {N k j u} => xw_b (by omega)
  unfold p_X5_add
  simp only [forall_eq, h8, r, Int.toNat_natCast, xR]
  refine ⟨fun q => by omega, fun _ => ⟨fun _ => ?_, fun q => by omega⟩⟩
  repeat ((with_reducible refine And.intro ?_ ?_); exact ⟨by omega, by omega⟩)
  refine hq _ xw_s ?_ ?_ ?_ ?_ ?_ ?_ ?_ ?_ (fun b j hj hb => ?_) (fun b hb => ?_) (fun j hj => ?_)
  · simp (disch := omega) only [xw_s, xw_b]
  · simp (disch := omega) only [xw_s, xw_b]
  · simp (disch := omega) only [xw_s, xw_b]
  · simp (disch := omega) only [xw_s, xw_b]
  · simp (disch := omega) only [xw_s, xw_b]
  · simp (disch := omega) only [xw_s, xw_b]
  · simp (disch := omega) only [xw_s, xw_b]
  · simp (disch := omega) only [xw_s, xw_b]
  · have : ∀ {N : xMe} {v : Int}, xw N a 8 v b j = N b j := fun {N v} => by
      by_cases hba : b = a
      · exact xw_j (hb hba)
      · exact xw_b hba
    rw [this]
    simp only [xw_j hj]
  · simp (disch := omega) only [xw_B]
  · simp (disch := omega) only [xw_j, xw_b]
/-- the row with it -/
theorem yDR_snd {b n : Nat} (hI : yIr A) (hq : ∀ s p, p ∈ yQ A s → p < (n : Int)) (h : yDR b M A) (hn : yS A 3 = (n : Int)) (hn40 : n < 40) (h3 : M' b 3 = (n : Int) + 1) (ho : ∀ j, j ≠ 3 → ¬ (81 + 9 * n ≤ j ∧ j < 90 + 9 * n) → M' b j = M b j) (hc : ∀ c : Nat, c < 9 → M' b (81 + 9 * n + c) = yPq f T z c) : yDR b M' (ySnd A f T z) := by
  obtain ⟨h1, h2, h3', h4, h5⟩ := h
  refine ⟨fun k hk => ?_, yV_f h2 hI.2.1 (fun k hk => ho k (by omega) (by omega)), yY_f h3' hI.2.2 (fun k hk => ho k (by omega) (by omega)), fun s s0 s1 => ?_, yPr_f h5 (fun k hk => ho k (by omega) (by omega))⟩
  · by_cases e3 : k = 3
    · subst e3; rw [ySnd_3, hn]; exact h3
    · by_cases ec : 81 + 9 * (n : Int) ≤ k ∧ k < 90 + 9 * (n : Int)
      · rw [ySnd_c (c := k - (81 + 9 * (n : Int))) (by omega) (by omega) (by omega) (by omega)]
        have := hc (k - (81 + 9 * (n : Int))).toNat (by omega)
        rw [show k.toNat = 81 + 9 * n + (k - (81 + 9 * (n : Int))).toNat by omega, this, Int.toNat_of_nonneg (by omega)]
      · rw [ySnd_n e3 (by rw [hn]; exact ec)]
        have k0 := hk.1
        rw [ho _ (by omega) (by omega)]; exact h1 k hk
  · obtain ⟨g1, g2, g3, g4⟩ := h4 s s0 s1
    dsimp only at g1 g2 g3
    show M' b (562 + 4 * s).toNat = _ ∧ _
    refine ⟨by rw [ho _ (by omega) (by omega)]; exact g1, fun p hp => ?_, fun p hp => ?_, yCh_o g4 (fun p hp => ?_)⟩
    · show M' b (563 + 4 * s).toNat = p
      rw [ho _ (by omega) (by omega)]; exact g2 p hp
    · show M' b (564 + 4 * s).toNat = p
      rw [ho _ (by omega) (by omega)]; exact g3 p hp
    · show M' b (89 + 9 * p).toNat = M b (89 + 9 * p).toNat
      have a1 := yQok_in hI.1 hp
      have a2 := hq s p hp
      exact ho _ (by omega) (by omega)
/-- the World with it -/
theorem yR_snd {n : Nat} (hN : yN A) (h : yR w M A) (hn : yS A 3 = (n : Int)) (k8 : M' (w + 16) 8 = (n : Int) + 1) (k1 : M' (w + 17) n = f) (k2 : M' (w + 18) n = T) (k3 : M' (w + 19) n = z) (k4 : M' (w + 20) n = 0) (k5 : M' (w + 21) n = 0) (k6 : M' (w + 22) n = 0) (k7 : M' (w + 23) n = 0) (k9 : M' (w + 24) n = -1) (g : ∀ b j, j ≠ n → (b = w + 16 → j ≠ 8) → M' b j = M b j) (gb : ∀ b, b < w + 16 ∨ w + 25 ≤ b → M' b = M b) (g16 : ∀ j, j ≠ 8 → M' (w + 16) j = M (w + 16) j) : yR w M' (ySnd A f T z) := by
  obtain ⟨n1, n2, n3, n4, n5, n6⟩ := id hN
  have e1 : yS (ySnd A f T z) 1 = yS A 1 := ySnd_n (by omega) (by omega)
  have e2 : yS (ySnd A f T z) 2 = yS A 2 := ySnd_n (by omega) (by omega)
  have pk : ∀ o c : Nat, 17 ≤ o → o ≤ 24 → c < 9 → (∀ i, 0 ≤ i → i < yS A 3 → M (w + o) i.toNat = yS A (81 + 9 * i + c)) → M' (w + o) n = yPq f T z c → ∀ i k : Int, 0 ≤ i → i < yS (ySnd A f T z) 3 → k = 81 + 9 * i + c → M' (w + o) i.toNat = yS (ySnd A f T z) k := fun o c o1 o2 hc hh hv i k i0 i1 hk => by
    rw [ySnd_3, hn] at i1
    by_cases e : i = n
    · rw [ySnd_c (c := c) (by omega) (by rw [hk, hn, e]) (by omega) (by omega), e, show ((n : Nat) : Int).toNat = n by omega]; exact hv
    · rw [ySnd_n (by omega) (by omega), g _ _ (by omega) (by omega), hh i i0 (by omega), hk]
  intro o i k hl
  unfold yL at hl
  split at hl
  · have : yS (ySnd A f T z) k = yS A k := ySnd_n (by omega) (by omega)
    rw [this, gb _ (by omega)]
    exact h 0 i k (by unfold yL; exact hl)
  · rw [ySnd_n (by omega) (by omega), gb _ (by omega)]; exact h 1 i k (by unfold yL; exact hl)
  · rw [e1] at hl; rw [ySnd_n (by omega) (by omega), gb _ (by omega)]; exact h 2 i k (by unfold yL; exact hl)
  · rw [e1] at hl; rw [ySnd_n (by omega) (by omega), gb _ (by omega)]; exact h 3 i k (by unfold yL; exact hl)
  · rw [e1] at hl; rw [ySnd_n (by omega) (by omega), gb _ (by omega)]; exact h 4 i k (by unfold yL; exact hl)
  · rw [ySnd_n (by omega) (by omega), gb _ (by omega)]; exact h 5 i k (by unfold yL; exact hl)
  · obtain ⟨f', j, f0, f1, j0, j1, j4, hi, hk⟩ := hl
    rw [e2] at f1
    rw [ySnd_n (by omega) (by omega)] at j1
    rw [ySnd_n (by omega) (by omega), gb _ (by omega)]; exact h 6 i k (by unfold yL; exact ⟨f', j, f0, f1, j0, j1, j4, hi, hk⟩)
  · rw [e2] at hl; rw [ySnd_n (by omega) (by omega), gb _ (by omega)]; exact h 7 i k (by unfold yL; exact hl)
  · rw [e2] at hl; rw [ySnd_n (by omega) (by omega), gb _ (by omega)]; exact h 8 i k (by unfold yL; exact hl)
  · rw [e2] at hl; rw [ySnd_n (by omega) (by omega), gb _ (by omega)]; exact h 9 i k (by unfold yL; exact hl)
  · obtain ⟨g', f', g0, g1, f0, f1, hi, hk⟩ := hl
    rw [e1] at g1; rw [e2] at f1
    rw [ySnd_n (by omega) (by omega), gb _ (by omega)]; exact h 11 i k (by unfold yL; exact ⟨g', f', g0, g1, f0, f1, hi, hk⟩)
  · obtain ⟨rfl, rfl⟩ := hl
    rw [ySnd_3, hn]; exact k8
  · exact pk 17 0 (by decide) (by decide) (by decide) (fun i i0 i1 => by rw [show 81 + 9 * i + ((0 : Nat) : Int) = 81 + 9 * i by omega]; exact yr17 h i0 i1) k1 i k hl.1 hl.2.1 (by omega)
  · exact pk 18 1 (by decide) (by decide) (by decide) (fun i i0 i1 => by rw [show 81 + 9 * i + ((1 : Nat) : Int) = 82 + 9 * i by omega]; exact yr18 h i0 i1) k2 i k hl.1 hl.2.1 (by omega)
  · exact pk 19 2 (by decide) (by decide) (by decide) (fun i i0 i1 => by rw [show 81 + 9 * i + ((2 : Nat) : Int) = 83 + 9 * i by omega]; exact yr19 h i0 i1) k3 i k hl.1 hl.2.1 (by omega)
  · exact pk 20 3 (by decide) (by decide) (by decide) (fun i i0 i1 => by rw [show 81 + 9 * i + ((3 : Nat) : Int) = 84 + 9 * i by omega]; exact yr20 h i0 i1) k4 i k hl.1 hl.2.1 (by omega)
  · exact pk 21 4 (by decide) (by decide) (by decide) (fun i i0 i1 => by rw [show 81 + 9 * i + ((4 : Nat) : Int) = 85 + 9 * i by omega]; exact yr21 h i0 i1) k5 i k hl.1 hl.2.1 (by omega)
  · exact pk 22 7 (by decide) (by decide) (by decide) (fun i i0 i1 => by rw [show 81 + 9 * i + ((7 : Nat) : Int) = 88 + 9 * i by omega]; exact yr22 h i0 i1) k6 i k hl.1 hl.2.1 (by omega)
  · exact pk 23 5 (by decide) (by decide) (by decide) (fun i i0 i1 => by rw [show 81 + 9 * i + ((5 : Nat) : Int) = 86 + 9 * i by omega]; exact yr23 h i0 i1) k7 i k hl.1 hl.2.1 (by omega)
  · exact pk 24 6 (by decide) (by decide) (by decide) (fun i i0 i1 => by rw [show 81 + 9 * i + ((6 : Nat) : Int) = 87 + 9 * i by omega]; exact yr24 h i0 i1) k9 i k hl.1 hl.2.1 (by omega)
  · exact hl.elim
end YSN
