/-! COUPONS -/
def ySum (f : Int) : List yCo → Int
  | [] => 0
  | c :: C => (if c.1 = f then c.2.1 else 0) + ySum f C
def yCnt (f : Int) : List yCo → Int
  | [] => 0
  | c :: C => (if c.1 = f then 1 else 0) + yCnt f C
/-- the class's coupons at c -/
def yU (c : Nat) (M : xMe) (C : List yCo) : Prop := M c 4 = (C.length : Int) ∧ ∀ (i : Nat) (v : yCo), C[i]? = some v → M (c + 1) i = v.1 ∧ M (c + 2) i = v.2.1 ∧ M (c + 3) i = v.2.2.1 ∧ M (c + 4) i = v.2.2.2
/-- the model's, in the row at b -/
def yV (b : Nat) (M : xMe) (C : List yCo) : Prop := M b 4 = (C.length : Int) ∧ ∀ (i : Nat) (v : yCo), C[i]? = some v → M b (441 + 4 * i) = v.1 ∧ M b (442 + 4 * i) = v.2.1 ∧ M b (443 + 4 * i) = v.2.2.1 ∧ M b (444 + 4 * i) = v.2.2.2
/-- of the row at b only the coupons' part has changed -/
def yF4 (b : Nat) (M M' : xMe) : Prop := ∀ k, k ≠ 4 → (k < 441 ∨ 561 ≤ k) → M' b k = M b k
def yCv (C : List yCo) : Prop := C.length ≤ 30 ∧ ∀ c ∈ C, 0 ≤ c.2.1 ∧ c.2.1 ≤ 10000
theorem yCv_t {c : yCo} {L1 L2 : List yCo} (h : yCv (L1 ++ c :: L2)) : 0 ≤ c.2.1 ∧ c.2.1 ≤ 10000 ∧ L1.length ≤ 29 := by
  obtain ⟨h1, h2⟩ := h
  have := h2 c (by simp)
  simp at h1
  exact ⟨this.1, this.2, by omega⟩
theorem yat {α : Type} {L1 L2 : List α} {c : α} : (L1 ++ c :: L2)[L1.length]? = some c := by simp
theorem s_X0_sumOf_4 {F a : Nat} {f : Int} {M : xMe} {C : List yCo} {Q : Int → xMe → Prop} (hU : yU a M C) (hv : yCv C) : ∀ (L2 L1 : List yCo) (k : Nat) (x : Int), C = L1 ++ L2 → L2.length < k → 0 ≤ x → x ≤ 10000 * L1.length → Q (x + ySum f L2) M → p_X0_sumOf_4 F a Q k f x (L1.length : Int) M := by
  intro L2
  induction L2 with
  | nil =>
    intro L1 k x hC hk h0 h1 hq
    obtain ⟨k, rfl⟩ : ∃ k', k = k' + 1 := ⟨k - 1, by simp at hk; omega⟩
    unfold p_X0_sumOf_4
    simp only [hU.1, hC, List.append_nil]
    refine ⟨fun _ => by simpa [ySum] using hq, fun h => absurd h (by omega)⟩
  | cons c L2 ih =>
    intro L1 k x hC hk h0 h1 hq
    obtain ⟨k, rfl⟩ : ∃ k', k = k' + 1 := ⟨k - 1, by omega⟩
    obtain ⟨e1, e2, -, -⟩ := hU.2 L1.length c (by rw [hC]; exact yat)
    obtain ⟨v1, v2, v3⟩ := yCv_t (by rw [← hC]; exact hv)
    have hl : C.length = L1.length + (L2.length + 1) := by rw [hC]; simp
    have ih := fun x h0 h1 hq => ih (L1 ++ [c]) k x (by rw [hC]; simp) (by simp at hk; omega) h0 h1 hq
    rw [show (((L1 ++ [c]).length : Nat) : Int) = (L1.length : Int) + 1 by simp] at ih
    unfold p_X0_sumOf_4
    simp only [hU.1, hl, Int.toNat_natCast, e1, e2, xR]
    refine ⟨fun h => absurd h (by omega), fun _ => ⟨⟨by omega, by omega⟩, fun hne => ⟨⟨by omega, by omega⟩, ih x h0 (by omega) ?_⟩, fun he => ⟨⟨by omega, by omega⟩, ⟨by omega, by omega⟩, fun z ez => ⟨⟨by omega, by omega⟩, ih z (by omega) (by omega) ?_⟩⟩⟩⟩
    · simpa [ySum, hne] using hq
    · rw [ez]; simpa [ySum, he, Int.add_assoc] using hq
theorem s_X0_sumOf {F a : Nat} {f : Int} {M : xMe} {C : List yCo} {Q : Int → xMe → Prop} (hU : yU a M C) (hv : yCv C) (hF : 40 ≤ F) (hq : Q (ySum f C) M) : p_X0_sumOf F a f M Q :=
  s_X0_sumOf_4 hU hv C [] F 0 rfl (by have := hv.1; omega) (by omega) (by simp) (by rw [Int.zero_add]; exact hq)
theorem s_X0_countOf_4 {F a : Nat} {f : Int} {M : xMe} {C : List yCo} {Q : Int → xMe → Prop} (hU : yU a M C) (hv : yCv C) : ∀ (L2 L1 : List yCo) (k : Nat) (x : Int), C = L1 ++ L2 → L2.length < k → 0 ≤ x → x ≤ L1.length → Q (x + yCnt f L2) M → p_X0_countOf_4 F a Q k f x (L1.length : Int) M := by
  intro L2
  induction L2 with
  | nil =>
    intro L1 k x hC hk h0 h1 hq
    obtain ⟨k, rfl⟩ : ∃ k', k = k' + 1 := ⟨k - 1, by simp at hk; omega⟩
    unfold p_X0_countOf_4
    simp only [hU.1, hC, List.append_nil]
    refine ⟨fun _ => by simpa [yCnt] using hq, fun h => absurd h (by omega)⟩
  | cons c L2 ih =>
    intro L1 k x hC hk h0 h1 hq
    obtain ⟨k, rfl⟩ : ∃ k', k = k' + 1 := ⟨k - 1, by omega⟩
    obtain ⟨e1, e2, -, -⟩ := hU.2 L1.length c (by rw [hC]; exact yat)
    obtain ⟨v1, v2, v3⟩ := yCv_t (by rw [← hC]; exact hv)
    have hl : C.length = L1.length + (L2.length + 1) := by rw [hC]; simp
    have ih := fun x h0 h1 hq => ih (L1 ++ [c]) k x (by rw [hC]; simp) (by simp at hk; omega) h0 h1 hq
    rw [show (((L1 ++ [c]).length : Nat) : Int) = (L1.length : Int) + 1 by simp] at ih
    unfold p_X0_countOf_4
    simp only [hU.1, hl, Int.toNat_natCast, e1, e2, xR]
    refine ⟨fun h => absurd h (by omega), fun _ => ⟨⟨by omega, by omega⟩, fun hne => ⟨⟨by omega, by omega⟩, ih x h0 (by omega) ?_⟩, fun he => ⟨⟨by omega, by omega⟩, ⟨by omega, by omega⟩, ih (x + 1) (by omega) (by omega) ?_⟩⟩⟩
    · simpa [yCnt, hne] using hq
    · simpa [yCnt, he, Int.add_assoc] using hq
theorem s_X0_countOf {F a : Nat} {f : Int} {M : xMe} {C : List yCo} {Q : Int → xMe → Prop} (hU : yU a M C) (hv : yCv C) (hF : 40 ≤ F) (hq : Q (yCnt f C) M) : p_X0_countOf F a f M Q :=
  s_X0_countOf_4 hU hv C [] F 0 rfl (by have := hv.1; omega) (by omega) (by simp) (by rw [Int.zero_add]; exact hq)
/-! a coupon more -/
theorem s_X0_add {a : Nat} {f v e : Int} {M : xMe} {C : List yCo} {Q : xMe → Prop} (hU : yU a M C) (hl : C.length < 30) (hq : ∀ M', yU a M' (C ++ [(f, v, e, 0)]) → (∀ b, b < a ∨ a + 5 ≤ b → M' b = M b) → Q M') : p_X0_add a f v e M Q := by
  unfold p_X0_add
  have r : ∀ {N : xMe} {k j : Nat} {w : Int}, xw N (a + (k + 1)) j w a 4 = N a 4 := fun {N k j w} => xw_b (by omega)
  simp only [forall_eq, hU.1, r, Int.toNat_natCast, xR]
  refine ⟨fun h => absurd h (by omega), fun _ => ⟨fun _ => ⟨⟨by omega, by omega⟩, ⟨by omega, by omega⟩, ⟨by omega, by omega⟩, ⟨by omega, by omega⟩, ⟨by omega, by omega⟩, hq _ ⟨?_, fun i w hw => ?_⟩ (fun b hb => ?_)⟩, fun h => absurd h (by omega)⟩⟩
  · rw [xw_s]; simp
  · rw [List.getElem?_append] at hw
    split at hw
    · rename_i hi
      obtain ⟨h1, h2, h3, h4⟩ := hU.2 i w hw
      simp (disch := omega) only [xw_b, xw_j]
      exact ⟨h1, h2, h3, h4⟩
    · rename_i hi
      have : i = C.length := by
        by_cases q : i = C.length
        · exact q
        · rw [List.getElem?_eq_none (by simp; omega)] at hw; cases hw
      subst this
      simp only [Nat.sub_self, List.getElem?_cons_zero, Option.some.injEq] at hw
      subst hw
      simp (disch := omega) only [xw_b, xw_s]
      exact ⟨trivial, trivial, trivial, trivial⟩
  · simp (disch := omega) only [xw_B]
/-! a coupon less -/
def yUr (a : Nat) (M : xMe) (s : Nat) (L : List yCo) : Prop := ∀ (i : Nat) (v : yCo), L[i]? = some v → M (a + 1) (s + i) = v.1 ∧ M (a + 2) (s + i) = v.2.1 ∧ M (a + 3) (s + i) = v.2.2.1 ∧ M (a + 4) (s + i) = v.2.2.2
theorem yUr_app {a : Nat} {M : xMe} {s : Nat} {L1 L2 : List yCo} : yUr a M s (L1 ++ L2) ↔ yUr a M s L1 ∧ yUr a M (s + L1.length) L2 := by
  constructor
  · intro h
    refine ⟨fun i v hv => h i v (by rw [List.getElem?_append_left (List.getElem?_eq_some_iff.mp hv).1]; exact hv), fun i v hv => ?_⟩
    have := h (L1.length + i) v (by rw [List.getElem?_append_right (by omega), Nat.add_sub_cancel_left]; exact hv)
    rwa [← Nat.add_assoc] at this
  · rintro ⟨h1, h2⟩ i v hv
    rw [List.getElem?_append] at hv
    split at hv
    · exact h1 i v hv
    · have := h2 _ v hv
      rwa [show s + L1.length + (i - L1.length) = s + i by omega] at this
theorem yUr_cons {a : Nat} {M : xMe} {s : Nat} {c : yCo} {L : List yCo} : yUr a M s (c :: L) ↔ (M (a + 1) s = c.1 ∧ M (a + 2) s = c.2.1 ∧ M (a + 3) s = c.2.2.1 ∧ M (a + 4) s = c.2.2.2) ∧ yUr a M (s + 1) L := by
  rw [show c :: L = [c] ++ L from rfl, yUr_app]
  refine and_congr ⟨fun h => h 0 c rfl, fun h i v hv => ?_⟩ Iff.rfl
  match i, hv with
  | 0, hv => cases hv; exact h
  | i + 1, hv => simp at hv
theorem yUr_nil {a : Nat} {M : xMe} {s : Nat} : yUr a M s [] := fun i v hv => by simp at hv
theorem yU_r {a : Nat} {M : xMe} {C : List yCo} : yU a M C ↔ M a 4 = (C.length : Int) ∧ yUr a M 0 C := by
  unfold yU yUr
  simp only [Nat.zero_add]
theorem yUr_o {a : Nat} {M M' : xMe} {s : Nat} {L : List yCo} (h : yUr a M s L) (e : ∀ o, 1 ≤ o → o ≤ 4 → ∀ i, s ≤ i → i < s + L.length → M' (a + o) i = M (a + o) i) : yUr a M' s L := fun i v hv => by
  have hi := (List.getElem?_eq_some_iff.mp hv).1
  obtain ⟨h1, h2, h3, h4⟩ := h i v hv
  rw [e 1 (by omega) (by omega) _ (by omega) (by omega), e 2 (by omega) (by omega) _ (by omega) (by omega), e 3 (by omega) (by omega) _ (by omega) (by omega), e 4 (by omega) (by omega) _ (by omega) (by omega)]
  exact ⟨h1, h2, h3, h4⟩
theorem s_X0_removeAt_15 {F a : Nat} {Q : xMe → Prop} : ∀ (L2 L1 : List yCo) (k : Nat) (M : xMe), L2.length < k → L1.length + L2.length < 30 → M a 4 = (L1.length : Int) + 1 + L2.length → yUr a M 0 L1 → yUr a M (L1.length + 1) L2 → (∀ M', yU a M' (L1 ++ L2) → (∀ b, b < a ∨ a + 5 ≤ b → M' b = M b) → Q M') → p_X0_removeAt_15 F a Q k (L1.length : Int) M := by
  intro L2
  induction L2 with
  | nil =>
    intro L1 k M hk hl hn h1 h2 hq
    obtain ⟨k, rfl⟩ : ∃ k', k = k' + 1 := ⟨k - 1, by simp at hk; omega⟩
    unfold p_X0_removeAt_15
    simp only [hn, List.length_nil, xR] at hl ⊢
    refine ⟨⟨by omega, by omega⟩, fun _ => ⟨⟨by omega, by omega⟩, fun M' e => hq _ (yU_r.mpr ⟨?_, ?_⟩) (fun b hb => ?_)⟩, fun h => absurd h (by omega)⟩
    · rw [e, xw_s]; simp
    · rw [List.append_nil, e]
      exact yUr_o h1 (fun o q1 q2 i _ _ => xw_b (by omega))
    · rw [e]; exact xw_B (by omega)
  | cons c L2 ih =>
    intro L1 k M hk hl hn h1 h2 hq
    obtain ⟨k, rfl⟩ : ∃ k', k = k' + 1 := ⟨k - 1, by omega⟩
    rw [yUr_cons] at h2
    obtain ⟨⟨e1, e2, e3, e4⟩, h2⟩ := h2
    simp only [List.length_cons] at hn hl hk
    unfold p_X0_removeAt_15
    simp only [hn, forall_eq, show ((L1.length : Int) + 1).toNat = L1.length + 1 by omega, Int.toNat_natCast, xR]
    have ih := ih (L1 ++ [c]) k
    rw [show (((L1 ++ [c]).length : Nat) : Int) = (L1.length : Int) + 1 by simp] at ih
    refine ⟨⟨by omega, by omega⟩, fun h => absurd h (by omega), fun _ => ⟨⟨by omega, by omega⟩, ⟨by omega, by omega⟩, ⟨by omega, by omega⟩, ⟨by omega, by omega⟩, ⟨by omega, by omega⟩, ⟨by omega, by omega⟩, ⟨by omega, by omega⟩, ⟨by omega, by omega⟩, ⟨by omega, by omega⟩, ⟨by omega, by omega⟩, ⟨by omega, by omega⟩, ⟨by omega, by omega⟩, ⟨by omega, by omega⟩, ih _ (by omega) (by simp; omega) ?_ (yUr_app.mpr ⟨?_, ?_⟩) ?_ (fun M' hU hM => hq M' (by simpa using hU) (fun b hb => ?_))⟩⟩
    · simp (disch := omega) only [xw_b]; rw [hn]; omega
    · refine yUr_o h1 (fun o q1 q2 i q3 q4 => ?_)
      rw [xw_j (by omega), xw_j (by omega), xw_j (by omega), xw_j (by omega)]
    · rw [Nat.zero_add, yUr_cons]
      refine ⟨?_, yUr_nil⟩
      simp (disch := omega) only [xw_b, xw_s]
      exact ⟨e1, e2, e3, e4⟩
    · rw [List.length_append, List.length_singleton]
      refine yUr_o h2 (fun o q1 q2 i q3 q4 => ?_)
      rw [xw_j (by omega), xw_j (by omega), xw_j (by omega), xw_j (by omega)]
    · rw [hM b hb]
      simp (disch := omega) only [xw_B]
theorem s_X0_removeAt {F a : Nat} {M : xMe} {L1 L2 : List yCo} {c : yCo} {Q : xMe → Prop} (hU : yU a M (L1 ++ c :: L2)) (hl : L1.length + L2.length < 30) (hF : 40 ≤ F) (hq : ∀ M', yU a M' (L1 ++ L2) → (∀ b, b < a ∨ a + 5 ≤ b → M' b = M b) → Q M') : p_X0_removeAt F a (L1.length : Int) M Q := by
  rw [yU_r] at hU
  obtain ⟨hn, hr⟩ := hU
  rw [yUr_app, yUr_cons, Nat.zero_add] at hr
  unfold p_X0_removeAt
  simp only [hn, List.length_append, List.length_cons]
  exact ⟨fun h => absurd h (by omega), fun _ => ⟨fun _ => s_X0_removeAt_15 L2 L1 F M (by omega) hl (by rw [hn]; simp; omega) hr.1 hr.2.2 hq, fun h => absurd h (by omega)⟩⟩
/-! those that end -/
def yExp (t : Int) (C : List yCo) : List yCo := C.filter fun c => decide (c.2.2.1 ≠ t)
theorem yExp_y {t : Int} {c : yCo} {L : List yCo} (h : c.2.2.1 = t) : yExp t (L ++ [c]) = yExp t L := by simp [yExp, h]
theorem yExp_n {t : Int} {c : yCo} {L : List yCo} (h : c.2.2.1 ≠ t) : yExp t (L ++ [c]) = yExp t L ++ [c] := by simp [yExp, h]
theorem yExp_le {t : Int} {L : List yCo} : (yExp t L).length ≤ L.length := List.length_filter_le _ _
theorem s_X0_removeEnding_12 {F a : Nat} {t x : Int} {Q : Int → xMe → Prop} (hF : 40 ≤ F) (hx : 0 ≤ x ∧ x ≤ 30) : ∀ (n : Nat) (L1 L2 : List yCo) (k : Nat) (M : xMe), L1.length = n → n < k → yU a M (L1 ++ L2) → L1.length + L2.length ≤ 30 → (∀ M', yU a M' (yExp t L1 ++ L2) → (∀ b, b < a ∨ a + 5 ≤ b → M' b = M b) → Q (x - ((yExp t L1).length + L2.length : Nat)) M') → p_X0_removeEnding_12 F a Q k t x ((n : Int) - 1) M := by
  intro n
  induction n with
  | zero =>
    intro L1 L2 k M hn hk hU hl hq
    obtain ⟨k, rfl⟩ : ∃ k', k = k' + 1 := ⟨k - 1, by omega⟩
    have e := List.eq_nil_of_length_eq_zero hn
    subst e
    have h4 := hU.1
    have q := hq M hU (fun _ _ => rfl)
    simp only [List.nil_append, yExp, List.filter_nil, List.length_nil, Nat.zero_add] at h4 q hl
    unfold p_X0_removeEnding_12
    simp only [h4, xR]
    exact ⟨fun _ => ⟨⟨by omega, by omega⟩, q⟩, fun h => absurd h (by omega)⟩
  | succ n ih =>
    intro L1 L2 k M hn hk hU hl hq
    obtain ⟨k, rfl⟩ : ∃ k', k = k' + 1 := ⟨k - 1, by omega⟩
    obtain e | ⟨L, c, e⟩ := List.eq_nil_or_concat L1
    · subst e; simp at hn
    subst e
    simp only [List.concat_eq_append, List.length_append, List.length_singleton] at hn hU hl hq
    have hL : L.length = n := by omega
    rw [show L ++ [c] ++ L2 = L ++ c :: L2 by simp] at hU
    obtain ⟨-, -, e3, -⟩ := hU.2 L.length c yat
    rw [hL] at e3
    unfold p_X0_removeEnding_12
    simp only [show (((n + 1 : Nat) : Int) - 1) = (n : Int) by omega, Int.toNat_natCast, e3, xR, show (n : Int) + (-1) = (n : Int) - 1 by omega]
    refine ⟨fun h => absurd h (by omega), fun _ => ⟨⟨by omega, by omega⟩, fun hne => ⟨⟨by omega, by omega⟩, ih L (c :: L2) k M hL (by omega) hU (by simp; omega) (fun M' h1 h2 => ?_)⟩, fun he => ?_⟩⟩
    · have := hq M' (by rw [yExp_n hne]; simpa using h1) h2
      rw [yExp_n hne] at this
      simpa [Nat.add_assoc, Nat.add_comm] using this
    · rw [← hL]
      refine s_X0_removeAt hU (by omega) hF (fun M1 h1 h2 => ⟨⟨by omega, by omega⟩, ?_⟩)
      rw [hL]
      refine ih L L2 k M1 hL (by omega) h1 (by omega) (fun M' g1 g2 => ?_)
      have := hq M' (by rw [yExp_y he]; exact g1) (fun b hb => (g2 b hb).trans (h2 b hb))
      rw [yExp_y he] at this
      exact this
theorem s_X0_removeEnding {F a : Nat} {t : Int} {M : xMe} {C : List yCo} {Q : Int → xMe → Prop} (hU : yU a M C) (hl : C.length ≤ 30) (hF : 40 ≤ F) (hq : ∀ M', yU a M' (yExp t C) → (∀ b, b < a ∨ a + 5 ≤ b → M' b = M b) → Q ((C.length : Int) - (yExp t C).length) M') : p_X0_removeEnding F a t M Q := by
  unfold p_X0_removeEnding
  simp only [hU.1, forall_eq, xR]
  refine ⟨⟨by omega, by omega⟩, s_X0_removeEnding_12 hF ⟨by omega, by omega⟩ C.length C [] F M rfl (by omega) (by simpa using hU) (by simpa using hl) (fun M' h1 h2 => ?_)⟩
  have := hq M' (by simpa using h1) h2
  simpa using this
