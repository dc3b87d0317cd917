/-! PASSAGES -/
def yXr (p : Nat) (M : xMe) (s : Nat) (L : List yPa) : Prop := ∀ (i : Nat) (v : yPa), L[i]? = some v → M (p + 1) (s + i) = v.1 ∧ M (p + 2) (s + i) = v.2.1 ∧ M (p + 3) (s + i) = v.2.2.1 ∧ M (p + 4) (s + i) = v.2.2.2.1 ∧ M (p + 5) (s + i) = v.2.2.2.2
/-- the class's passages at p: a ring -/
def yX (p : Nat) (M : xMe) (P : List yPa) : Prop := ∃ (R : List yPa) (o : Nat), M p 5 = (R.length : Int) ∧ M p 6 = (o : Int) ∧ R.length ≤ 40 ∧ o < 40 ∧ (R.length < 40 → o = 0) ∧ yXr p M 0 R ∧ P = R.drop o ++ R.take o
/-- the model's -/
def yY (b : Nat) (M : xMe) (P : List yPa) : Prop := M b 14 = (P.length : Int) ∧ ∀ (i : Nat) (v : yPa), P[i]? = some v → M b (705 + 5 * i) = v.1 ∧ M b (706 + 5 * i) = v.2.1 ∧ M b (707 + 5 * i) = v.2.2.1 ∧ M b (708 + 5 * i) = v.2.2.2.1 ∧ M b (709 + 5 * i) = v.2.2.2.2
theorem yX_len {p : Nat} {M : xMe} {P : List yPa} (h : yX p M P) : P.length ≤ 40 := by
  obtain ⟨R, o, h1, h2, h3, h4, h5, h6, rfl⟩ := h
  simp; omega
def yNote (v : yPa) (P : List yPa) : List yPa := (if P.length = 40 then P.tail else P) ++ [v]
theorem yXr_push {p : Nat} {M : xMe} {R : List yPa} {t g f s e : Int} (h : yXr p M 0 R) : yXr p (xw (xw (xw (xw (xw M (p + 1) R.length t) (p + 2) R.length g) (p + 3) R.length f) (p + 4) R.length s) (p + 5) R.length e) 0 (R ++ [(t, g, f, s, e)]) := fun i w hw => by
  rw [Nat.zero_add]
  rw [List.getElem?_append] at hw
  split at hw
  · have := h i w hw
    rw [Nat.zero_add] at this
    simp (disch := omega) only [xw_j, xw_b]
    exact this
  · have : i = R.length := by
      by_cases q : i = R.length
      · exact q
      · rw [List.getElem?_eq_none (by simp; omega)] at hw; cases hw
    subst this
    simp only [Nat.sub_self, List.getElem?_cons_zero, Option.some.injEq] at hw
    subst hw
    simp (disch := omega) only [xw_b, xw_s]
    exact ⟨trivial, trivial, trivial, trivial, trivial⟩
theorem yXr_w {p : Nat} {M : xMe} {k : Nat} {v : Int} {L : List yPa} {s : Nat} (h : yXr p M s L) : yXr p (xw M p k v) s L := fun i w hw => by
  have := h i w hw
  simp (disch := omega) only [xw_b]
  exact this
theorem yXr_set {p : Nat} {M : xMe} {R1 R2 : List yPa} {c : yPa} {t g f s e k v : Int} {M' : xMe} (h : yXr p M 0 (R1 ++ c :: R2)) (eM : M' = xw (xw (xw (xw (xw (xw M (p + 1) R1.length t) (p + 2) R1.length g) (p + 3) R1.length f) (p + 4) R1.length s) (p + 5) R1.length e) p 6 v) (_ : 0 ≤ k ∨ k ≤ 0) : yXr p M' 0 (R1 ++ (t, g, f, s, e) :: R2) := fun i w hw => by
  subst eM
  rw [Nat.zero_add]
  by_cases hi : i = R1.length
  · subst hi
    rw [yat] at hw
    cases hw
    simp (disch := omega) only [xw_b, xw_s]
    exact ⟨trivial, trivial, trivial, trivial, trivial⟩
  · have h9 : (R1 ++ c :: R2)[i]? = some w := by
      rw [← hw, List.getElem?_append, List.getElem?_append]
      split
      · rfl
      · rw [show i - R1.length = (i - R1.length - 1) + 1 by omega, List.getElem?_cons_succ, List.getElem?_cons_succ]
    have := h _ w h9
    rw [Nat.zero_add] at this
    simp (disch := omega) only [xw_j, xw_b]
    exact this
theorem s_X6_add {p : Nat} {t g f s e : Int} {M : xMe} {P : List yPa} {Q : xMe → Prop} (hX : yX p M P) (hq : ∀ M', yX p M' (yNote (t, g, f, s, e) P) → (∀ b, b < p ∨ p + 6 ≤ b → M' b = M b) → Q M') : p_X6_add p t g f s e M Q := by
  obtain ⟨R, o, h5, h6, hR, ho, ho0, hr, rfl⟩ := hX
  unfold p_X6_add
  have r : ∀ {N : xMe} {k j i : Nat} {w : Int}, xw N (p + (k + 1)) j w p i = N p i := fun {N k j i w} => xw_b (by omega)
  simp only [forall_eq, h5, h6, r, Int.toNat_natCast, xR]
  refine ⟨fun hc => ⟨fun h => absurd h (by omega), fun _ => ⟨fun _ => ⟨⟨by omega, by omega⟩, ⟨by omega, by omega⟩, ⟨by omega, by omega⟩, ⟨by omega, by omega⟩, ⟨by omega, by omega⟩, fun _ => ⟨⟨by omega, by omega⟩, ⟨by decide, by have := Int.tmod_lt_of_pos ((o : Int) + 1) (show (0 : Int) < 40 by decide); have := Int.tmod_nonneg 40 (show (0 : Int) ≤ (o : Int) + 1 by omega); omega, by have := Int.tmod_lt_of_pos ((o : Int) + 1) (show (0 : Int) < 40 by decide); omega⟩, ?_⟩, fun h => absurd h (by omega)⟩, fun h => absurd h (by omega)⟩⟩, fun hc => ⟨fun h => absurd h (by omega), fun _ => ⟨fun _ => ⟨⟨by omega, by omega⟩, ⟨by omega, by omega⟩, ⟨by omega, by omega⟩, ⟨by omega, by omega⟩, ⟨by omega, by omega⟩, fun h => absurd h (by omega), fun _ => ⟨⟨by omega, by omega⟩, ?_⟩⟩, fun h => absurd h (by omega)⟩⟩⟩
  · have hl : R.length = 40 := by omega
    obtain ⟨c, R1, R2, e, hR1⟩ : ∃ c R1 R2, R = R1 ++ c :: R2 ∧ R1.length = o := ⟨R[o], R.take o, R.drop (o + 1), by rw [List.getElem_cons_drop, List.take_append_drop], by simp; omega⟩
    subst e
    subst hR1
    simp only [List.length_append, List.length_cons] at hl h5
    have e2 : Int.tmod ((R1.length : Int) + 1) 40 = (((R1.length + 1) % 40 : Nat) : Int) := by
      rw [Int.tmod_eq_emod_of_nonneg (by omega)]; omega
    rw [e2]
    have hup := fun (N : xMe) (k : Nat) (w : Int) (i : Nat) => r (N := N) (k := k) (j := R1.length) (w := w) (i := i)
    refine hq _ ⟨R1 ++ (t, g, f, s, e) :: R2, (R1.length + 1) % 40, ?_, by rw [xw_s], by simp; omega, Nat.mod_lt _ (by decide), fun h => absurd h (by simp; omega), ?_, ?_⟩ (fun b hb => ?_)
    · rw [xw_j (by omega), xw_b (by omega), xw_b (by omega), xw_b (by omega), xw_b (by omega), xw_b (by omega), h5]; simp
    · exact yXr_set (k := 0) hr rfl (by omega)
    · by_cases q : R2 = []
      · subst q
        simp only [List.length_nil] at hl
        rw [show (R1.length + 1) % 40 = 0 by omega]
        simp [yNote, hl]
      · have hq2 : 0 < R2.length := List.length_pos_iff.mpr q
        rw [show (R1.length + 1) % 40 = R1.length + 1 by omega]
        have hP : (List.drop R1.length (R1 ++ c :: R2) ++ List.take R1.length (R1 ++ c :: R2)) = c :: R2 ++ R1 := by simp
        rw [hP]
        unfold yNote
        rw [if_pos (by simp; omega)]
        rw [show R1 ++ (t, g, f, s, e) :: R2 = (R1 ++ [(t, g, f, s, e)]) ++ R2 by simp, List.drop_left' (by simp), List.take_left' (by simp)]
        simp
    · simp (disch := omega) only [xw_B]
  · have hl : R.length < 40 := by omega
    have := ho0 hl
    subst this
    refine hq _ ⟨R ++ [(t, g, f, s, e)], 0, ?_, ?_, by simp; omega, by decide, fun _ => rfl, ?_, ?_⟩ (fun b hb => ?_)
    · rw [xw_s]; simp
    · rw [xw_j (by omega), xw_b (by omega), xw_b (by omega), xw_b (by omega), xw_b (by omega), xw_b (by omega), h6]
    · have : yXr p (xw (xw (xw (xw (xw M (p + 1) R.length t) (p + 2) R.length g) (p + 3) R.length f) (p + 4) R.length s) (p + 5) R.length e) 0 (R ++ [(t, g, f, s, e)]) := yXr_push hr
      exact yXr_w this
    · simp [yNote]; omega
    · simp (disch := omega) only [xw_B]
/-! the model's note -/
/-- of the row at b only the passages' part has changed -/
def yF5 (b : Nat) (M M' : xMe) : Prop := ∀ k, k ≠ 14 → (k < 705 ∨ 905 ≤ k) → M' b k = M b k
theorem s_X12_note_e {b n : Nat} {t g f s e : Int} {M M' : xMe} {P : List yPa} (hn : n = P.length) (hp : n < 40) (hY : ∀ (i : Nat) (v : yPa), P[i]? = some v → M b (705 + 5 * i) = v.1 ∧ M b (706 + 5 * i) = v.2.1 ∧ M b (707 + 5 * i) = v.2.2.1 ∧ M b (708 + 5 * i) = v.2.2.2.1 ∧ M b (709 + 5 * i) = v.2.2.2.2) (eM : M' = xw (xw (xw (xw (xw (xw M b (705 + 5 * n) t) b (706 + 5 * n) g) b (707 + 5 * n) f) b (708 + 5 * n) s) b (709 + 5 * n) e) b 14 ((n : Int) + 1)) : yY b M' (P ++ [(t, g, f, s, e)]) := by
  subst eM
  subst hn
  refine ⟨by rw [xw_s]; simp, fun i w hw => ?_⟩
  rw [List.getElem?_append] at hw
  split at hw
  · have := hY i w hw
    simp (disch := omega) only [xw_j]
    exact this
  · have : i = P.length := by
      by_cases q : i = P.length
      · exact q
      · rw [List.getElem?_eq_none (by simp; omega)] at hw; cases hw
    subst this
    simp only [Nat.sub_self, List.getElem?_cons_zero, Option.some.injEq] at hw
    subst hw
    simp (disch := omega) only [xw_j, xw_s]
    exact ⟨trivial, trivial, trivial, trivial, trivial⟩
