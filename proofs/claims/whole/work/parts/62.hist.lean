/-! BEFORE AND BACK: History.keep, takeBack; remember, undo -/
def yPush (H : List yA) (A : yA) : List yA := (if H.length = 8 then H.tail else H) ++ [A]
theorem y1_get {A B : yA} {i : Nat} (h : [A][i]? = some B) : i = 0 ∧ B = A := by
  cases i with
  | zero => exact ⟨rfl, (Option.some.inj h).symm⟩
  | succ i => rw [List.getElem?_cons_succ, List.getElem?_nil] at h; exact absurd h (by simp)
theorem yPush_l {H : List yA} : (if H.length = 8 then H.tail else H).length = if H.length = 8 then 7 else H.length := by
  split
  · rw [List.length_tail]; omega
  · rfl
theorem yPush_i {H : List yA} {A B : yA} {i : Nat} (h : (yPush H A)[i]? = some B) : (i < (if H.length = 8 then 7 else H.length) ∧ H[if H.length = 8 then i + 1 else i]? = some B) ∨ (i = (if H.length = 8 then 7 else H.length) ∧ B = A) := by
  unfold yPush at h
  rw [List.getElem?_append, yPush_l] at h
  by_cases hlt : i < (if H.length = 8 then 7 else H.length)
  · rw [if_pos hlt] at h
    refine Or.inl ⟨hlt, ?_⟩
    by_cases e : H.length = 8
    · rw [if_pos e] at h ⊢; rw [List.getElem?_tail] at h; exact h
    · rw [if_neg e] at h ⊢; exact h
  · rw [if_neg hlt] at h
    have := y1_get h
    exact Or.inr ⟨by omega, this.2⟩
theorem yPush_n {H : List yA} {A : yA} : (yPush H A).length = if H.length = 8 then 8 else H.length + 1 := by
  unfold yPush
  rw [List.length_append, yPush_l]
  split <;> simp
theorem yPush_g {H : List yA} {A : yA} (h : yHg H) (hA : yG0 A) : yHg (yPush H A) := by
  have hl := h.1
  refine ⟨by rw [yPush_n]; split <;> omega, fun i B hB => ?_⟩
  rcases yPush_i hB with ⟨-, h1⟩ | ⟨-, rfl⟩
  · exact h.2 _ B h1
  · exact hA
/-- the class's side between two calls -/
def yCs (x : Nat) (t : xTh) (M : xMe) (D : Nat → Prop) (A : yA) (H : List yA) : Prop := yWd t M D (x + 44) A ∧ M (x + 44) 13 = -1 ∧ 1 ≤ M (x + 44) 14 ∧ yPx x t D ∧ yHc x t M D H
/-- what a call of the class may write -/
def yFc (x : Nat) (D : Nat → Prop) (M M' : xMe) : Prop := ∀ b, ¬ (x + 44 ≤ b ∧ b < x + 80) → ¬ (x + 83 ≤ b ∧ b < x + 119) → ¬ (x + 122 ≤ b ∧ b < x + 436) → (∀ q, D q → b ≠ q + 2) → M' b = M b
theorem yFc_refl {x : Nat} {D : Nat → Prop} {M : xMe} : yFc x D M M := fun _ _ _ _ _ => rfl
theorem yFc_trans {x : Nat} {D : Nat → Prop} {M M' M'' : xMe} (h : yFc x D M M') (g : yFc x D M' M'') : yFc x D M M'' := fun b h1 h2 h3 h4 => (g b h1 h2 h3 h4).trans (h b h1 h2 h3 h4)
theorem yG0_c {A : yA} (h : yG0 A) : yN A ∧ (yC A).length ≤ 30 ∧ yQok (yQ A) := ⟨h.1.1.1.1, h.1.1.2.2.2.2.1.1, h.1.1.2.2.2.1.1⟩
theorem ySlt_push {n L i : Nat} (hn : n < 8) (hL : L ≤ 8) (hi : i < (if L = 8 then 7 else L)) : ySlt ((n + 1) % 8) (if L = 8 then 8 else L + 1) i = ySlt n L (if L = 8 then i + 1 else i) ∧ ySlt n L (if L = 8 then i + 1 else i) ≠ n := by
  unfold ySlt
  split at hi
  · rename_i e; subst e; simp only [if_true]; omega
  · rename_i e; simp only [if_neg e]; omega
theorem ySlt_new {n L : Nat} (hn : n < 8) (hL : L ≤ 8) : ySlt ((n + 1) % 8) (if L = 8 then 8 else L + 1) (if L = 8 then 7 else L) = n := by
  unfold ySlt
  split <;> omega
theorem xr_wn {t : xTh} {a w : Nat} {s : Option Nat} (h : w ≠ a) : xr (xwr t a 6 s) w 6 = xr t w 6 := if_neg (fun e => h e.1)
theorem xq_wr {t : xTh} {a s : Nat} : xq (xwr t a 6 (some s)) a = s := by
  unfold xq
  rw [show xr (xwr t a 6 (some s)) a 6 = some s from if_pos ⟨rfl, rfl⟩]; rfl
theorem yWd_cp {x : Nat} {t : xTh} {M M' : xMe} {D : Nat → Prop} {a b : Nat} {A : yA} (h : yWd t M D b A) (hC : yCR a M' A) (hp : M' (xq t b + 1) = M (xq t b + 1)) : yWd (xwr t a 6 (some (xq t b))) M' D a A := by
  obtain ⟨h1, h2, h3, h4⟩ := h
  have hq : xq (xwr t a 6 (some (xq t b))) a = xq t b := xq_wr
  refine ⟨hC, by rw [hq]; exact h2, ?_, fun i v hv => ?_⟩
  · unfold xqn; rw [hq]; exact h3
  · rw [hq, hp]; exact h4 i v hv
theorem yWd_n {x : Nat} {t : xTh} {M M' : xMe} {D : Nat → Prop} {a w : Nat} {s : Option Nat} {A : yA} (hN : yN A) (h : yWd t M D w A) (hw : w ≠ a) (e : ∀ b, w ≤ b → b < w + 36 → M' b = M b) (hp : M' (xq t w + 1) = M (xq t w + 1)) : yWd (xwr t a 6 s) M' D w A := yWd_fr hN h (xr_wn hw) rfl (fun _ h => h) e hp
set_option maxHeartbeats 1000000 in
theorem s_X3_keep {x : Nat} {t : xTh} {M : xMe} {D : Nat → Prop} {A : yA} {H : List yA} {Q : xTh → xMe → Prop} (h : yCs x t M D A H) (hg : yHg H) (hA : yG0 A) (hq : ∀ t' M', t' = xwr t (x + 124 + 39 * (M (x + 122) 2).toNat) 6 (some (xq t (x + 44))) → yCs x t' M' D A (yPush H A) → yFc x D M M' → Q t' M') : p_X3_keep t (x + 122) (x + 44) M Q := by
  obtain ⟨hW, h13, h14, hx, hc, n, hn, h2, hh⟩ := id h
  obtain ⟨hN, hC, hk⟩ := yG0_c hA
  have hL := hg.1
  unfold p_X3_keep
  have en : (M (x + 122) 2).toNat = n := by rw [h2]; omega
  rw [en] at hq ⊢
  refine ⟨⟨by omega, by omega⟩, ?_⟩
  rw [show x + 122 + 2 + 39 * n = x + 124 + 39 * n by omega]
  refine s_X10_copyFrom (by omega) hN hC hk hW.1 (fun M1 c1 c2 c3 f1 => ?_)
  have e1 : M1 (x + 122) = M (x + 122) := f1 _ (by omega)
  rw [e1, h2]
  have et : Int.tmod ((n : Int) + 1) 8 = (((n + 1) % 8 : Nat) : Int) := by rw [Int.tmod_eq_emod_of_nonneg (by omega)]; omega
  rw [et]
  refine ⟨⟨by omega, by omega⟩, ⟨by decide, ⟨by omega, by omega⟩⟩, fun M2 e2 => ?_⟩
  have e3 : M2 (x + 122) 1 = (H.length : Int) := by rw [e2, xw_j (by decide), e1]; exact hc
  rw [e3]
  refine ⟨⟨by omega, by omega⟩, fun M3 e4 => ?_⟩
  have f3 : ∀ b, b ≠ x + 122 → M3 b = M1 b := fun b hb => by rw [e4, xw_B hb, e2, xw_B hb]
  have g1 : M3 (x + 122) 1 = min 8 ((H.length : Int) + 1) := by rw [e4]; exact xw_s
  have g2 : M3 (x + 122) 2 = (((n + 1) % 8 : Nat) : Int) := by rw [e4, xw_j (by decide), e2]; exact xw_s
  have hp : ∀ q, D q → M3 (q + 1) = M (q + 1) := fun q hd => by
    have := yPx_b hx hd
    rw [f3 _ (by omega), f1 _ (by omega)]
  refine hq _ M3 rfl ⟨?_, ?_, ?_, hx, ?_⟩ (fun b b1 b2 b3 b4 => by rw [f3 b (by omega), f1 b (by omega)])
  · exact yWd_n (x := x) hN hW (by omega) (fun b b1 b2 => by rw [f3 b (by omega), f1 b (by omega)]) (hp _ hW.2.1)
  · rw [f3 _ (by omega), f1 _ (by omega)]; exact h13
  · rw [f3 _ (by omega), f1 _ (by omega)]; exact h14
  · refine ⟨?_, (n + 1) % 8, Nat.mod_lt _ (by decide), g2, fun i B hB => ?_⟩
    · rw [g1, yPush_n]; split <;> omega
    · rw [yPush_n]
      rcases yPush_i hB with ⟨hlt, hB'⟩ | ⟨ei, rfl⟩
      · obtain ⟨s1, s2⟩ := ySlt_push hn hL hlt
        rw [s1]
        have hw := hh _ B hB'
        have hs : ySlt n H.length (if H.length = 8 then i + 1 else i) < 8 := Nat.mod_lt _ (by decide)
        generalize ySlt n H.length (if H.length = 8 then i + 1 else i) = s at s2 hw hs ⊢
        exact yWd_n (x := x) (yG0_c (hg.2 _ B hB')).1 hw (by omega) (fun b b1 b2 => by rw [f3 b (by omega), f1 b (by omega)]) (hp _ hw.2.1)
      · rw [ei, ySlt_new hn hL]
        exact yWd_cp (x := x) hW (yCR_fr hN c1 (fun b b1 b2 => f3 b (by omega))) (hp _ hW.2.1)
set_option maxHeartbeats 1000000 in
theorem s_X3_takeBack {x : Nat} {t : xTh} {M : xMe} {D : Nat → Prop} {A B : yA} {H : List yA} {Q : Int → xTh → xMe → Prop} (h : yCs x t M D A (H ++ [B])) (hg : yHg (H ++ [B])) (hA : yG0 A) (hq : ∀ t' M', t' = xwr t (x + 44) 6 (some (xq t' (x + 44))) → yCs x t' M' D B H → yFc x D M M' → Q (H.length : Int) t' M') : p_X3_takeBack t (x + 122) (x + 44) M Q := by
  obtain ⟨hW, h13, h14, hx, hc, n, hn, h2, hh⟩ := id h
  have hL := hg.1
  rw [List.length_append] at hc hL hh
  simp only [List.length_singleton] at hc hL hh
  have hB : (H ++ [B])[H.length]? = some B := by rw [List.getElem?_append_right (Nat.le_refl _), Nat.sub_self]; rfl
  obtain ⟨hN, hC, hk⟩ := yG0_c (hg.2 _ B hB)
  have hw := hh _ B hB
  have es : ySlt n (H.length + 1) H.length = (n + 7) % 8 := by unfold ySlt; omega
  rw [es] at hw
  unfold p_X3_takeBack
  rw [h2, hc]
  have et : Int.tmod ((n : Int) + 8 - 1) 8 = (((n + 7) % 8 : Nat) : Int) := by rw [Int.tmod_eq_emod_of_nonneg (by omega)]; omega
  rw [et]
  have hz : (n + 7) % 8 < 8 := Nat.mod_lt _ (by decide)
  have hslt : ∀ i, i < H.length → ySlt ((n + 7) % 8) H.length i = ySlt n (H.length + 1) i := fun i hi => by unfold ySlt; omega
  generalize (n + 7) % 8 = z at hw et hz hslt ⊢
  refine ⟨⟨by omega, by omega⟩, ⟨by omega, by omega⟩, ⟨by decide, ⟨by omega, by omega⟩⟩, fun z' ez => ?_⟩
  subst ez
  refine ⟨⟨by omega, by omega⟩, fun q => by omega, fun _ => ?_⟩
  rw [show ((z : Nat) : Int).toNat = z by omega, show x + 122 + 2 + 39 * z = x + 124 + 39 * z by omega]
  refine s_X10_copyFrom (by omega) hN hC hk hw.1 (fun M1 c1 c2 c3 f1 => ?_)
  intro M2 e2
  have e1 : M1 (x + 122) = M (x + 122) := f1 _ (by omega)
  have e3 : M2 (x + 122) 1 = (H.length : Int) + 1 := by rw [e2, xw_j (by decide), e1, hc]; omega
  rw [e3]
  refine ⟨⟨by omega, by omega⟩, fun M3 e4 => ?_⟩
  have f3 : ∀ b, b ≠ x + 122 → M3 b = M1 b := fun b hb => by rw [e4, xw_B hb, e2, xw_B hb]
  have g1 : M3 (x + 122) 1 = (H.length : Int) := by rw [e4, xw_s]; omega
  have g2 : M3 (x + 122) 2 = (z : Int) := by rw [e4, xw_j (by decide), e2]; exact xw_s
  have hp : ∀ q, D q → M3 (q + 1) = M (q + 1) := fun q hd => by
    have := yPx_b hx hd
    rw [f3 _ (by omega), f1 _ (by omega)]
  rw [g1]
  refine hq _ M3 (by rw [xq_wr]) ⟨?_, ?_, ?_, hx, ?_⟩ (fun b b1 b2 b3 b4 => by rw [f3 b (by omega), f1 b (by omega)])
  · exact yWd_cp (x := x) hw (yCR_fr hN c1 (fun b b1 b2 => f3 b (by omega))) (hp _ hw.2.1)
  · rw [f3 _ (by omega)]; exact c2
  · rw [f3 _ (by omega), c3]; decide
  · refine ⟨g1, z, hz, g2, fun i B' hB' => ?_⟩
    have hi := (List.getElem?_eq_some_iff.mp hB').1
    rw [hslt i hi]
    have hB2 : (H ++ [B])[i]? = some B' := by rw [List.getElem?_append_left hi]; exact hB'
    have hw' := hh i B' hB2
    have hs : ySlt n (H.length + 1) i < 8 := Nat.mod_lt _ (by decide)
    exact yWd_n (x := x) (yG0_c (hg.2 _ B' hB2)).1 hw' (by omega) (fun b b1 b2 => by rw [f3 b (by omega), f1 b (by omega)]) (hp _ hw'.2.1)
theorem s_X3_takeBack0 {x : Nat} {t : xTh} {M : xMe} {D : Nat → Prop} {A : yA} {Q : Int → xTh → xMe → Prop} (h : yCs x t M D A []) (hq : Q (-1) t M) : p_X3_takeBack t (x + 122) (x + 44) M Q := by
  obtain ⟨hW, h13, h14, hx, hc, n, hn, h2, hh⟩ := id h
  unfold p_X3_takeBack
  rw [h2, hc]
  have et : Int.tmod ((n : Int) + 8 - 1) 8 = (((n + 7) % 8 : Nat) : Int) := by rw [Int.tmod_eq_emod_of_nonneg (by omega)]; omega
  rw [et]
  refine ⟨⟨by omega, by omega⟩, ⟨by omega, by omega⟩, ⟨by decide, ⟨by omega, by omega⟩⟩, fun z' ez => ?_⟩
  subst ez
  exact ⟨⟨by omega, by omega⟩, fun _ => hq, fun q => absurd q (by simp)⟩
/-! the model's -/
theorem yDR_e {b : Nat} {M M' : xMe} {A : yA} (hI : yIr A) (h : yDR b M A) (e : ∀ j, j < 2105 → M' b j = M b j) : yDR b M' A := by
  obtain ⟨h1, h2, h3, h4, h5⟩ := h
  refine ⟨yD_f h1 (fun k hk => e _ (by unfold yG at hk; omega)), yV_f h2 hI.2.1 (fun k hk => e k (by omega)), yY_f h3 hI.2.2 (fun k hk => e k (by omega)), yQd_o hI.1 h4 (fun k hk => e k (by unfold yChi at hk; omega)), ?_⟩
  rcases h5 with ⟨h1, h2⟩ | ⟨h1, h2, h3⟩
  · exact Or.inl ⟨h1, by rw [e 13 (by decide)]; exact h2⟩
  · refine Or.inr ⟨by rw [e 13 (by decide)]; exact h1, h2, fun j v hv => ?_⟩
    have hj := (List.getElem?_eq_some_iff.mp hv).1
    rw [e _ (by omega)]; exact h3 j v hv
theorem yDR_cp2 {b b' : Nat} {M M' : xMe} {A : yA} (hI : yIr A) (h : yDR b M A) (e : ∀ j, j < 2105 → M' b' j = M b j) : yDR b' M' A := by
  have h1 : yDR b' (fun c => if c = b' then M b else M c) A := yDR_row h (if_pos rfl)
  exact yDR_e hI h1 (fun j hj => by rw [e j hj]; simp)
theorem yG0_r {A : yA} (h : yG0 A) : yIr A := yI_r h.1.1
set_option maxHeartbeats 1000000 in
theorem s_X12_remember {F m : Nat} {M : xMe} {A : yA} {H : List yA} {Q : xMe → Prop} (hF : 3100 ≤ F) (h : yDR (m + 2) M A) (hm : yHm m M H) (hg : yHg H) (hA : yG0 A) (hq : ∀ M', yHm m M' (yPush H A) → (∀ j, j ≠ 13 → M' m j = M m j) → (∀ b, b ≠ m → ¬ (m + 7 ≤ b ∧ b < m + 15) → M' b = M b) → Q M') : p_X12_remember F m M Q := by
  have hL := hg.1
  obtain ⟨h13, hh⟩ := id hm
  unfold p_X12_remember
  refine ⟨fun q => ?_, fun q => ?_⟩
  · rw [h13] at q ⊢
    rw [show ((H.length : Nat) : Int).toNat = H.length by omega]
    refine ⟨⟨by omega, by omega⟩, ?_⟩
    refine s_X12_copy (n := 2105) (by omega) (by decide) (by decide) (by decide) hF (fun M1 f1 r1 => ?_)
    rw [f1 m (by omega), h13]
    refine ⟨⟨by omega, by omega⟩, fun M2 e2 => hq M2 ⟨?_, fun i B hB => ?_⟩ ?_ ?_⟩
    · rw [e2, xw_s, yPush_n, if_neg (by omega)]; omega
    · have hne : ¬ H.length = 8 := by omega
      rcases yPush_i hB with ⟨hlt, hB'⟩ | ⟨ei, rfl⟩
      · rw [if_neg hne] at hB' hlt
        refine yDR_row (hh i B hB') ?_
        rw [e2, xw_B (by omega), f1 _ (by omega)]
      · rw [if_neg hne] at ei
        subst ei
        refine yDR_cp2 (yG0_r hA) h (fun j hj => ?_)
        rw [e2, xw_b (by omega), r1, if_pos hj]
    · intro j hj; rw [e2, xw_j hj, f1 m (by omega)]
    · intro b b1 b2; rw [e2, xw_B b1, f1 b (by omega)]
  · have h8 : H.length = 8 := by omega
    have main : ∀ (d k : Nat) (i : Nat) (M1 : xMe), i + d = 8 → 1 ≤ i → d < k → (∀ j, j < i - 1 → ∀ B, H[j + 1]? = some B → yDR (m + 7 + j) M1 B) → (∀ j, i ≤ j → j < 8 → M1 (m + 7 + j) = M (m + 7 + j)) → (∀ b, ¬ (m + 7 ≤ b ∧ b < m + 15) → M1 b = M b) → p_X12_remember_11 F m Q k (i : Int) M1 := by
      intro d
      induction d with
      | zero =>
        intro k i M1 hi h1 hk c1 c2 c3
        obtain ⟨k, rfl⟩ : ∃ k', k = k' + 1 := ⟨k - 1, by omega⟩
        unfold p_X12_remember_11
        refine ⟨fun _ => ?_, fun q => by omega⟩
        rw [c3 m (by omega), q]
        refine ⟨⟨by omega, by omega⟩, fun M2 e2 => ?_⟩
        have e3 : M2 m 13 = 7 := by rw [e2, xw_s]; rfl
        rw [e3]
        refine ⟨⟨by omega, by omega⟩, ?_⟩
        refine s_X12_copy (n := 2105) (b1 := m + 7 + (7 : Int).toNat) (by rw [show (7 : Int).toNat = 7 from rfl]; omega) (by decide) (by decide) (by decide) hF (fun M3 f3 r3 => ?_)
        rw [show m + 7 + (7 : Int).toNat = m + 14 from rfl] at f3 r3
        rw [f3 m (by omega), e3]
        refine ⟨⟨by omega, by omega⟩, fun M4 e4 => hq M4 ⟨?_, fun j B hB => ?_⟩ ?_ ?_⟩
        · rw [e4, xw_s, yPush_n, if_pos h8]; rfl
        · rcases yPush_i hB with ⟨hlt, hB'⟩ | ⟨ei, rfl⟩
          · rw [if_pos h8] at hB' hlt
            refine yDR_row (c1 j (by omega) B hB') ?_
            rw [e4, xw_B (by omega), f3 _ (by omega), e2, xw_B (by omega)]
          · rw [if_pos h8] at ei
            subst ei
            refine yDR_cp2 (yG0_r hA) h (fun j hj => ?_)
            rw [e4, xw_b (by omega), show m + 7 + 7 = m + 14 from rfl, r3, if_pos hj, e2, xw_b (by omega), c3 _ (by omega)]
        · intro j hj; rw [e4, xw_j hj, f3 m (by omega), e2, xw_j hj, c3 m (by omega)]
        · intro b b1 b2; rw [e4, xw_B b1, f3 b (by omega), e2, xw_B b1, c3 b (by omega)]
      | succ d ih =>
        intro k i M1 hi h1 hk c1 c2 c3
        obtain ⟨k, rfl⟩ : ∃ k', k = k' + 1 := ⟨k - 1, by omega⟩
        unfold p_X12_remember_11
        refine ⟨fun q => by omega, fun _ => ⟨⟨by omega, by omega⟩, ⟨by omega, by omega⟩, ⟨by omega, by omega⟩, ?_⟩⟩
        refine s_X12_copy (n := 2105) (by omega) (by decide) (by decide) (by decide) hF (fun M3 f3 r3 => ?_)
        refine ⟨⟨by omega, by omega⟩, ?_⟩
        rw [show ((i : Nat) : Int).toNat = i by omega, show ((i : Int) - 1).toNat = i - 1 by omega] at *
        refine ih k (i + 1) M3 (by omega) (by omega) (by omega) (fun j hj B hB => ?_) (fun j j1 j2 => by rw [f3 _ (by omega)]; exact c2 j (by omega) j2) (fun b hb => by rw [f3 b (by omega)]; exact c3 b hb)
        by_cases ej : j = i - 1
        · subst ej
          rw [show i - 1 + 1 = i by omega] at hB
          refine yDR_cp2 (yG0_r (hg.2 i B hB)) (hh i B hB) (fun l hl => ?_)
          rw [r3, if_pos hl, c2 i (by omega) (by omega)]
        · exact yDR_row (c1 j (by omega) B hB) (f3 _ (by omega))
    exact main 7 F 1 M rfl (by decide) (by omega) (fun j hj => by omega) (fun j _ _ => rfl) (fun b _ => rfl)
theorem s_X12_undo {F m : Nat} {M : xMe} {B : yA} {H : List yA} {Q : Int → xMe → Prop} (hF : 3100 ≤ F) (hm : yHm m M (H ++ [B])) (hg : yHg (H ++ [B])) (hq : ∀ M', yDR (m + 2) M' B → yHm m M' H → (∀ j, j ≠ 0 → j ≠ 13 → M' m j = M m j) → (∀ b, b ≠ m → b ≠ m + 2 → M' b = M b) → Q (H.length : Int) M') : p_X12_undo F m M Q := by
  obtain ⟨h13, hh⟩ := id hm
  have hL := hg.1
  rw [List.length_append, List.length_singleton] at h13 hL
  have hB : (H ++ [B])[H.length]? = some B := by rw [List.getElem?_append_right (Nat.le_refl _), Nat.sub_self]; rfl
  unfold p_X12_undo
  intro M1 e1
  have e13 : M1 m 13 = (H.length : Int) + 1 := by rw [e1, xw_j (by decide), h13]; omega
  rw [e13]
  refine ⟨fun _ => ⟨⟨by omega, by omega⟩, fun M2 e2 => ?_⟩, fun q => by omega⟩
  have e3 : M2 m 13 = (H.length : Int) := by rw [e2, xw_s]; omega
  rw [e3]
  refine ⟨⟨by omega, by omega⟩, ?_⟩
  rw [show ((H.length : Nat) : Int).toNat = H.length by omega]
  have f2 : ∀ b, b ≠ m → M2 b = M b := fun b hb => by rw [e2, xw_B hb, e1, xw_B hb]
  refine s_X12_copy (n := 2105) (by omega) (by decide) (by decide) (by decide) hF (fun M3 f3 r3 => ?_)
  rw [f3 m (by omega), e3]
  refine hq M3 ?_ ⟨?_, fun i B' hB' => ?_⟩ ?_ ?_
  · refine yDR_cp2 (yG0_r (hg.2 _ B hB)) (hh _ B hB) (fun j hj => ?_)
    rw [r3, if_pos hj, f2 _ (by omega)]
  · rw [f3 m (by omega)]; exact e3
  · have hi := (List.getElem?_eq_some_iff.mp hB').1
    refine yDR_row (hh i B' (by rw [List.getElem?_append_left hi]; exact hB')) ?_
    rw [f3 _ (by omega), f2 _ (by omega)]
  · intro j j0 j1; rw [f3 m (by omega), e2, xw_j j1, e1, xw_j j0]
  · intro b b1 b2; rw [f3 b b2, f2 b b1]
theorem s_X12_undo0 {F m : Nat} {M : xMe} {Q : Int → xMe → Prop} (hm : yHm m M []) (hq : Q (-1) (xw M m 0 0)) : p_X12_undo F m M Q := by
  unfold p_X12_undo
  intro M1 e1
  have e13 : M1 m 13 = 0 := by rw [e1, xw_j (by decide)]; exact hm.1
  rw [e13]
  refine ⟨fun q => absurd rfl q, fun _ => ?_⟩
  rw [e1]; exact hq
