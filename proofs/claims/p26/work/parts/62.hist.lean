/-! BEFORE AND BACK: History.keep, takeBack; remember, undo -/
def yPush (H : List yA) (A : yA) : List yA := (if H.length = 8 then H.tail else H) ++ [A]
theorem y1_get {A B : yA} {i : Nat} (h : [A][i]? = some B) : i = 0 ∧ B = A := by
  cases i with
  | zero => exact ⟨rfl, (Option.some.inj h).symm⟩
  | succ i => rw [List.getElem?_cons_succ, List.getElem?_nil] at h; exact absurd h (by simp)
theorem yPush_l {H : List yA} : (if H.length = 8 then H.tail else H).length = if H.length = 8 then 7 else H.length := by
  split
  · rw [List.length_tail]; omega
  · rfl
theorem yPush_i {H : List yA} {A B : yA} {i : Nat} (h : (yPush H A)[i]? = some B) : (i < (if H.length = 8 then 7 else H.length) ∧ H[if H.length = 8 then i + 1 else i]? = some B) ∨ (i = (if H.length = 8 then 7 else H.length) ∧ B = A) := by
  unfold yPush at h
  rw [List.getElem?_append, yPush_l] at h
  by_cases hlt : i < (if H.length = 8 then 7 else H.length)
  · rw [if_pos hlt] at h
    refine Or.inl ⟨hlt, ?_⟩
    by_cases e : H.length = 8
    · rw [if_pos e] at h ⊢; rw [List.getElem?_tail] at h; exact h
    · rw [if_neg e] at h ⊢; exact h
  · rw [if_neg hlt] at h
    have := y1_get h
    exact Or.inr ⟨by omega, this.2⟩
theorem yPush_n {H : List yA} {A : yA} : (yPush H A).length = if H.length = 8 then 8 else H.length + 1 := by
  unfold yPush
  rw [List.length_append, yPush_l]
  split <;> simp
theorem yPush_g {H : List yA} {A : yA} (h : yHg H) (hA : yG0 A) : yHg (yPush H A) := by
  have hl := h.1
  refine ⟨by rw [yPush_n]; split <;> omega, fun i B hB => ?_⟩
  rcases yPush_i hB with ⟨-, h1⟩ | ⟨-, rfl⟩
  · exact h.2 _ B h1
  · exact hA
/-- the class's side between two calls -/
def yCs (x : Nat) (t : xTh) (M : xMe) (D : Nat → Prop) (A : yA) (H : List yA) : Prop := yWd t M D (x + 44) A ∧ M (x + 44) 13 = -1 ∧ 1 ≤ M (x + 44) 14 ∧ yPx x t D ∧ yHc x t M D H
/-- what a call of the class may write -/
def yFc (x : Nat) (D : Nat → Prop) (M M' : xMe) : Prop := ∀ b, ¬ (x + 44 ≤ b ∧ b < x + 80) → ¬ (x + 83 ≤ b ∧ b < x + 119) → ¬ (x + 122 ≤ b ∧ b < x + 436) → (∀ q, D q → b ≠ q + 2) → M' b = M b
theorem yFc_refl {x : Nat} {D : Nat → Prop} {M : xMe} : yFc x D M M := fun _ _ _ _ _ => rfl
theorem yFc_trans {x : Nat} {D : Nat → Prop} {M M' M'' : xMe} (h : yFc x D M M') (g : yFc x D M' M'') : yFc x D M M'' := fun b h1 h2 h3 h4 => (g b h1 h2 h3 h4).trans (h b h1 h2 h3 h4)
theorem yG0_c {A : yA} (h : yG0 A) : yN A ∧ (yC A).length ≤ 30 ∧ yQok (yQ A) := ⟨h.1.1.1.1, h.1.1.2.2.2.2.1.1, h.1.1.2.2.2.1.1⟩
theorem ySlt_push {n L i : Nat} (hn : n < 8) (hL : L ≤ 8) (hi : i < (if L = 8 then 7 else L)) : ySlt ((n + 1) % 8) (if L = 8 then 8 else L + 1) i = ySlt n L (if L = 8 then i + 1 else i) ∧ ySlt n L (if L = 8 then i + 1 else i) ≠ n := by
  unfold ySlt
  split at hi
  · rename_i e; subst e; simp only [if_true]; omega
  · rename_i e; simp only [if_neg e]; omega
theorem ySlt_new {n L : Nat} (hn : n < 8) (hL : L ≤ 8) : ySlt ((n + 1) % 8) (if L = 8 then 8 else L + 1) (if L = 8 then 7 else L) = n := by
  unfold ySlt
  split <;> omega
theorem xr_wn {t : xTh} {a w : Nat} {s : Option Nat} (h : w ≠ a) : xr (xwr t a 6 s) w 6 = xr t w 6 := if_neg (fun e => h e.1)
theorem xq_wr {t : xTh} {a s : Nat} : xq (xwr t a 6 (some s)) a = s := by
  unfold xq
  rw [show xr (xwr t a 6 (some s)) a 6 = some s from if_pos ⟨rfl, rfl⟩]; rfl
theorem yWd_cp {x : Nat} {t : xTh} {M M' : xMe} {D : Nat → Prop} {a b : Nat} {A : yA} (h : yWd t M D b A) (hC : yCR a M' A) (hp : M' (xq t b + 1) = M (xq t b + 1)) : yWd (xwr t a 6 (some (xq t b))) M' D a A := by
  obtain ⟨h1, h2, h3, h4⟩ := h
  have hq : xq (xwr t a 6 (some (xq t b))) a = xq t b := xq_wr
  refine ⟨hC, by rw [hq]; exact h2, ?_, fun i v hv => ?_⟩
  · unfold xqn; rw [hq]; exact h3
  · rw [hq, hp]; exact h4 i v hv
theorem yWd_n {x : Nat} {t : xTh} {M M' : xMe} {D : Nat → Prop} {a w : Nat} {s : Option Nat} {A : yA} (hN : yN A) (h : yWd t M D w A) (hw : w ≠ a) (e : ∀ b, w ≤ b → b < w + 36 → M' b = M b) (hp : M' (xq t w + 1) = M (xq t w + 1)) : yWd (xwr t a 6 s) M' D w A := yWd_fr hN h (xr_wn hw) rfl (fun _ h => h) e hp
set_option maxHeartbeats 1000000 in
theorem s_X3_keep {x : Nat} {t : xTh} {M : xMe} {D : Nat → Prop} {A : yA} {H : List yA} {Q : xTh → xMe → Prop} (h : yCs x t M D A H) (hg : yHg H) (hA : yG0 A) (hq : ∀ t' M', t' = xwr t (x + 124 + 39 * (M (x + 122) 2).toNat) 6 (some (xq t (x + 44))) → yCs x t' M' D A (yPush H A) → yFc x D M M' → Q t' M') : p_X3_keep t (x + 122) (x + 44) M Q := by
  obtain ⟨hW, h13, h14, hx, hc, n, hn, h2, hh⟩ := id h
  obtain ⟨hN, hC, hk⟩ := yG0_c hA
  have hL := hg.1
  unfold p_X3_keep
  have en : (M (x + 122) 2).toNat = n := by rw [h2]; omega
  rw [en] at hq ⊢
  refine ⟨⟨by omega, by omega⟩, ?_⟩
  rw [show x + 122 + 2 + 39 * n = x + 124 + 39 * n by omega]
  refine s_X10_copyFrom (by omega) hN hC hk hW.1 (fun M1 c1 c2 c3 f1 => ?_)
  have e1 : M1 (x + 122) = M (x + 122) := f1 _ (by omega)
  rw [e1, h2]
  have et : Int.tmod ((n : Int) + 1) 8 = (((n + 1) % 8 : Nat) : Int) := by rw [Int.tmod_eq_emod_of_nonneg (by omega)]; omega
  rw [et]
  refine ⟨⟨by omega, by omega⟩, ⟨by decide, ⟨by omega, by omega⟩⟩, fun M2 e2 => ?_⟩
  have e3 : M2 (x + 122) 1 = (H.length : Int) := by rw [e2, xw_j (by decide), e1]; exact hc
  rw [e3]
  refine ⟨⟨by omega, by omega⟩, fun M3 e4 => ?_⟩
  have f3 : ∀ b, b ≠ x + 122 → M3 b = M1 b := fun b hb => by rw [e4, xw_B hb, e2, xw_B hb]
  have g1 : M3 (x + 122) 1 = min 8 ((H.length : Int) + 1) := by rw [e4]; exact xw_s
  have g2 : M3 (x + 122) 2 = (((n + 1) % 8 : Nat) : Int) := by rw [e4, xw_j (by decide), e2]; exact xw_s
  have hp : ∀ q, D q → M3 (q + 1) = M (q + 1) := fun q hd => by
    have := yPx_b hx hd
    rw [f3 _ (by omega), f1 _ (by omega)]
  refine hq _ M3 rfl ⟨?_, ?_, ?_, hx, ?_⟩ (fun b b1 b2 b3 b4 => by rw [f3 b (by omega), f1 b (by omega)])
  · exact yWd_n (x := x) hN hW (by omega) (fun b b1 b2 => by rw [f3 b (by omega), f1 b (by omega)]) (hp _ hW.2.1)
  · rw [f3 _ (by omega), f1 _ (by omega)]; exact h13
  · rw [f3 _ (by omega), f1 _ (by omega)]; exact h14
  · refine ⟨?_, (n + 1) % 8, Nat.mod_lt _ (by decide), g2, fun i B hB => ?_⟩
    · rw [g1, yPush_n]; split <;> omega
    · rw [yPush_n]
      rcases yPush_i hB with ⟨hlt, hB'⟩ | ⟨ei, rfl⟩
      · obtain ⟨s1, s2⟩ := ySlt_push hn hL hlt
        rw [s1]
        have hw := hh _ B hB'
        have hs : ySlt n H.length (if H.length = 8 then i + 1 else i) < 8 := Nat.mod_lt _ (by decide)
        generalize ySlt n H.length (if H.length = 8 then i + 1 else i) = s at s2 hw hs ⊢
        exact yWd_n (x := x) (yG0_c (hg.2 _ B hB')).1 hw (by omega) (fun b b1 b2 => by rw [f3 b (by omega), f1 b (by omega)]) (hp _ hw.2.1)
      · rw [ei, ySlt_new hn hL]
        exact yWd_cp (x := x) hW (yCR_fr hN c1 (fun b b1 b2 => f3 b (by omega))) (hp _ hW.2.1)
set_option maxHeartbeats 1000000 in
theorem s_X3_takeBack {x : Nat} {t : xTh} {M : xMe} {D : Nat → Prop} {A B : yA} {H : List yA} {Q : Int → xTh → xMe → Prop} (h : yCs x t M D A (H ++ [B])) (hg : yHg (H ++ [B])) (hA : yG0 A) (hq : ∀ t' M', t' = xwr t (x + 44) 6 (some (xq t' (x + 44))) → yCs x t' M' D B H → yFc x D M M' → Q (H.length : Int) t' M') : p_X3_takeBack t (x + 122) (x + 44) M Q := by
  obtain ⟨hW, h13, h14, hx, hc, n, hn, h2, hh⟩ := id h
  have hL := hg.1
  rw [List.length_append] at hc hL hh
  simp only [List.length_singleton] at hc hL hh
  have hB : (H ++ [B])[H.length]? = some B := by rw [List.getElem?_append_right (Nat.le_refl _), Nat.sub_self]; rfl
  obtain ⟨hN, hC, hk⟩ := yG0_c (hg.2 _ B hB)
  have hw := hh _ B hB
  have es : ySlt n (H.length + 1) H.length = (n + 7) % 8 := by unfold ySlt; omega
  rw [es] at hw
  unfold p_X3_takeBack
  rw [h2, hc]
  have et : Int.tmod ((n : Int) + 8 - 1) 8 = (((n + 7) % 8 : Nat) : Int) := by rw [Int.tmod_eq_emod_of_nonneg (by omega)]; omega
  rw [et]
  have hz : (n + 7) % 8 < 8 := Nat.mod_lt _ (by decide)
  have hslt : ∀ i, i < H.length → ySlt ((n + 7) % 8) H.length i = ySlt n (H.length + 1) i := fun i hi => by unfold ySlt; omega
  generalize (n + 7) % 8 = z at hw et hz hslt ⊢
  refine ⟨⟨by omega, by omega⟩, ⟨by omega, by omega⟩, ⟨by decide, ⟨by omega, by omega⟩⟩, fun z' ez => ?_⟩
  subst ez
  refine ⟨⟨by omega, by omega⟩, fun q => by omega, fun _ => ?_⟩
  rw [show ((z : Nat) : Int).toNat = z by omega, show x + 122 + 2 + 39 * z = x + 124 + 39 * z by omega]
  refine s_X10_copyFrom (by omega) hN hC hk hw.1 (fun M1 c1 c2 c3 f1 => ?_)
  intro M2 e2
  have e1 : M1 (x + 122) = M (x + 122) := f1 _ (by omega)
  have e3 : M2 (x + 122) 1 = (H.length : Int) + 1 := by rw [e2, xw_j (by decide), e1, hc]; omega
  rw [e3]
  refine ⟨⟨by omega, by omega⟩, fun M3 e4 => ?_⟩
  have f3 : ∀ b, b ≠ x + 122 → M3 b = M1 b := fun b hb => by rw [e4, xw_B hb, e2, xw_B hb]
  have g1 : M3 (x + 122) 1 = (H.length : Int) := by rw [e4, xw_s]; omega
  have g2 : M3 (x + 122) 2 = (z : Int) := by rw [e4, xw_j (by decide), e2]; exact xw_s
  have hp : ∀ q, D q → M3 (q + 1) = M (q + 1) := fun q hd => by
    have := yPx_b hx hd
    rw [f3 _ (by omega), f1 _ (by omega)]
  rw [g1]
  refine hq _ M3 (by rw [xq_wr]) ⟨?_, ?_, ?_, hx, ?_⟩ (fun b b1 b2 b3 b4 => by rw [f3 b (by omega), f1 b (by omega)])
  · exact yWd_cp (x := x) hw (yCR_fr hN c1 (fun b b1 b2 => f3 b (by omega))) (hp _ hw.2.1)
  · rw [f3 _ (by omega)]; exact c2
  · rw [f3 _ (by omega), c3]; decide
  · refine ⟨g1, z, hz, g2, fun i B' hB' => ?_⟩
    have hi := (List.getElem?_eq_some_iff.mp hB').1
    rw [hslt i hi]
    have hB2 : (H ++ [B])[i]? = some B' := by rw [List.getElem?_append_left hi]; exact hB'
    have hw' := hh i B' hB2
    have hs : ySlt n (H.length + 1) i < 8 := Nat.mod_lt _ (by decide)
    exact yWd_n (x := x) (yG0_c (hg.2 _ B' hB2)).1 hw' (by omega) (fun b b1 b2 => by rw [f3 b (by omega), f1 b (by omega)]) (hp _ hw'.2.1)
theorem s_X3_takeBack0 {x : Nat} {t : xTh} {M : xMe} {D : Nat → Prop} {A : yA} {Q : Int → xTh → xMe → Prop} (h : yCs x t M D A []) (hq : Q (-1) t M) : p_X3_takeBack t (x + 122) (x + 44) M Q := by
  obtain ⟨hW, h13, h14, hx, hc, n, hn, h2, hh⟩ := id h
  unfold p_X3_takeBack
  rw [h2, hc]
  have et : Int.tmod ((n : Int) + 8 - 1) 8 = (((n + 7) % 8 : Nat) : Int) := by rw [Int.tmod_eq_emod_of_nonneg (by omega)]; omega
  rw [et]
  refine ⟨⟨by omega, by omega⟩, ⟨by omega, by omega⟩, ⟨by decide, ⟨by omega, by omega⟩⟩, fun z' ez => ?_⟩
  subst ez
  exact ⟨⟨by omega, by omega⟩, fun _ => hq, fun q => absurd q (by simp)⟩
/-! the model's -/
theorem yDR_e {b : Nat} {M M' : xMe} {A : yA} (hI : yIr A) (h : yDR b M A) (e : ∀ j, j < 2105 → M' b j = M b j) : yDR b M' A := by
  obtain ⟨h1, h2, h3, h4, h5⟩ := h
  refine ⟨yD_f h1 (fun k hk => e _ (by unfold yG at hk; omega)), yV_f h2 hI.2.1 (fun k hk => e k (by omega)), yY_f h3 hI.2.2 (fun k hk => e k (by omega)), yQd_o hI.1 h4 (fun k hk => e k (by unfold yChi at hk; omega)), ?_⟩
  rcases h5 with ⟨h1, h2⟩ | ⟨h1, h2, h3⟩
  · exact Or.inl ⟨h1, by rw [e 13 (by decide)]; exact h2⟩
  · refine Or.inr ⟨by rw [e 13 (by decide)]; exact h1, h2, fun j v hv => ?_⟩
    have hj := (List.getElem?_eq_some_iff.mp hv).1
    rw [e _ (by omega)]; exact h3 j v hv
theorem yDR_cp2 {b b' : Nat} {M M' : xMe} {A : yA} (hI : yIr A) (h : yDR b M A) (e : ∀ j, j < 2105 → M' b' j = M b j) : yDR b' M' A := by
  have h1 : yDR b' (fun c => if c = b' then M b else M c) A := yDR_row h (if_pos rfl)
  exact yDR_e hI h1 (fun j hj => by rw [e j hj]; simp)
theorem yG0_r {A : yA} (h : yG0 A) : yIr A := yI_r h.1.1
