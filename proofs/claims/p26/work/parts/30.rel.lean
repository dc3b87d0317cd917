/-! LAYER 2: what the PacketToll and the model both hold: (numbers by the model's places, queues, coupons, passages, price) -/
abbrev yCo : Type := Int × Int × Int × Int
abbrev yPa : Type := Int × Int × Int × Int × Int
abbrev yA : Type := (Int → Int) × (Int → List Int) × List yCo × List yPa × List Int
def yS (A : yA) : Int → Int := A.1
def yQ (A : yA) : Int → List Int := A.2.1
def yC (A : yA) : List yCo := A.2.2.1
def yP (A : yA) : List yPa := A.2.2.2.1
def yK (A : yA) : List Int := A.2.2.2.2
def yup (S : Int → Int) (k v : Int) : Int → Int := fun j => if j = k then v else S j
def yw (A : yA) (k v : Int) : yA := (yup A.1 k v, A.2)
def yqw (A : yA) (s : Int) (l : List Int) : yA := (A.1, (fun j => if j = s then l else A.2.1 j), A.2.2)
def yCw (A : yA) (C : List yCo) : yA := (A.1, A.2.1, C, A.2.2.2)
def yPw (A : yA) (P : List yPa) : yA := (A.1, A.2.1, A.2.2.1, P, A.2.2.2.2)
theorem yS_w {A : yA} {k v : Int} : yS (yw A k v) = yup (yS A) k v := rfl
theorem yup_s {S : Int → Int} {k v : Int} : yup S k v k = v := if_pos rfl
theorem yup_n {S : Int → Int} {k v j : Int} (h : j ≠ k) : yup S k v j = S j := if_neg h
theorem xw_s {M : xMe} {a k : Nat} {v : Int} : xw M a k v a k = v := if_pos ⟨rfl, rfl⟩
theorem xw_b {M : xMe} {a k b j : Nat} {v : Int} (h : b ≠ a) : xw M a k v b j = M b j := if_neg (fun q => h q.1)
theorem xw_B {M : xMe} {a k b : Nat} {v : Int} (h : b ≠ a) : xw M a k v b = M b := by funext j; exact xw_b h
theorem xw_j {M : xMe} {a k b j : Nat} {v : Int} (h : j ≠ k) : xw M a k v b j = M b j := if_neg (fun q => h q.2)
/-- the places of A's numbers in the class's World: the row (its distance from the World), the index there, the place in A -/
def yL (A : yA) (o : Nat) (i k : Int) : Prop := match o with
  | 0 => (i = 7 ∧ k = 0) ∨ (i = 8 ∧ k = 9) ∨ (i = 9 ∧ k = 10) ∨ (i = 10 ∧ k = 11) ∨ (i = 11 ∧ k = 7) ∨ (i = 12 ∧ k = 8)
  | 1 => i = 3 ∧ k = 1
  | 2 => 0 ≤ i ∧ i < yS A 1 ∧ k = 15 + 3 * i
  | 3 => 0 ≤ i ∧ i < yS A 1 ∧ k = 16 + 3 * i
  | 4 => 0 ≤ i ∧ i < yS A 1 ∧ k = 17 + 3 * i
  | 5 => i = 4 ∧ k = 2
  | 6 => ∃ f j : Int, 0 ≤ f ∧ f < yS A 2 ∧ 0 ≤ j ∧ j < yS A (33 + 8 * f) ∧ j < 4 ∧ i = f * 4 + j ∧ k = 37 + 8 * f + j
  | 7 => 0 ≤ i ∧ i < yS A 2 ∧ k = 33 + 8 * i
  | 8 => 0 ≤ i ∧ i < yS A 2 ∧ k = 34 + 8 * i
  | 9 => 0 ≤ i ∧ i < yS A 2 ∧ k = 35 + 8 * i
  | 11 => ∃ g f : Int, 0 ≤ g ∧ g < yS A 1 ∧ 0 ≤ f ∧ f < yS A 2 ∧ i = g * 6 + f ∧ k = 561 + 4 * (6 * g + f)
  | 16 => i = 8 ∧ k = 3
  | 17 => 0 ≤ i ∧ i < yS A 3 ∧ k = 81 + 9 * i
  | 18 => 0 ≤ i ∧ i < yS A 3 ∧ k = 82 + 9 * i
  | 19 => 0 ≤ i ∧ i < yS A 3 ∧ k = 83 + 9 * i
  | 20 => 0 ≤ i ∧ i < yS A 3 ∧ k = 84 + 9 * i
  | 21 => 0 ≤ i ∧ i < yS A 3 ∧ k = 85 + 9 * i
  | 22 => 0 ≤ i ∧ i < yS A 3 ∧ k = 88 + 9 * i
  | 23 => 0 ≤ i ∧ i < yS A 3 ∧ k = 86 + 9 * i
  | 24 => 0 ≤ i ∧ i < yS A 3 ∧ k = 87 + 9 * i
  | _ => False
/-- the counts -/
def yN (A : yA) : Prop := 0 ≤ yS A 1 ∧ yS A 1 ≤ 6 ∧ 0 ≤ yS A 2 ∧ yS A 2 ≤ 6 ∧ 0 ≤ yS A 3 ∧ yS A 3 ≤ 40
def yDo (k : Int) : Nat := if k < 15 then (if k = 1 then 1 else if k = 2 then 5 else if k = 3 then 16 else 0) else if k < 33 then (if (k - 15) % 3 = 0 then 2 else if (k - 15) % 3 = 1 then 3 else 4) else if k < 81 then (if (k - 33) % 8 = 0 then 7 else if (k - 33) % 8 = 1 then 8 else if (k - 33) % 8 = 2 then 9 else 6) else if k < 441 then (if (k - 81) % 9 = 0 then 17 else if (k - 81) % 9 = 1 then 18 else if (k - 81) % 9 = 2 then 19 else if (k - 81) % 9 = 3 then 20 else if (k - 81) % 9 = 4 then 21 else if (k - 81) % 9 = 5 then 23 else if (k - 81) % 9 = 6 then 24 else 22) else 11
theorem yL_in {A : yA} (hN : yN A) {o : Nat} {i k : Int} (h : yL A o i k) : o = yDo k ∧ 0 ≤ i ∧ 0 ≤ k ∧ k < 705 := by
  obtain ⟨n1, n2, n3, n4, n5, n6⟩ := hN
  unfold yL at h
  unfold yDo
  split at h
  · rcases h with h | h | h | h | h | h <;> obtain ⟨rfl, rfl⟩ := h <;> decide
  · obtain ⟨rfl, rfl⟩ := h; decide
  · obtain ⟨h1, h2, rfl⟩ := h; refine ⟨?_, by omega, by omega, by omega⟩; rw [if_neg (by omega), if_pos (by omega), if_pos (by omega)]
  · obtain ⟨h1, h2, rfl⟩ := h; refine ⟨?_, by omega, by omega, by omega⟩; rw [if_neg (by omega), if_pos (by omega), if_neg (by omega), if_pos (by omega)]
  · obtain ⟨h1, h2, rfl⟩ := h; refine ⟨?_, by omega, by omega, by omega⟩; rw [if_neg (by omega), if_pos (by omega), if_neg (by omega), if_neg (by omega)]
  · obtain ⟨rfl, rfl⟩ := h; decide
  · obtain ⟨f, j, h1, h2, h3, h4, h5, rfl, rfl⟩ := h; refine ⟨?_, by omega, by omega, by omega⟩; rw [if_neg (by omega), if_neg (by omega), if_pos (by omega), if_neg (by omega), if_neg (by omega), if_neg (by omega)]
  · obtain ⟨h1, h2, rfl⟩ := h; refine ⟨?_, by omega, by omega, by omega⟩; rw [if_neg (by omega), if_neg (by omega), if_pos (by omega), if_pos (by omega)]
  · obtain ⟨h1, h2, rfl⟩ := h; refine ⟨?_, by omega, by omega, by omega⟩; rw [if_neg (by omega), if_neg (by omega), if_pos (by omega), if_neg (by omega), if_pos (by omega)]
  · obtain ⟨h1, h2, rfl⟩ := h; refine ⟨?_, by omega, by omega, by omega⟩; rw [if_neg (by omega), if_neg (by omega), if_pos (by omega), if_neg (by omega), if_neg (by omega), if_pos (by omega)]
  · obtain ⟨g, f, h1, h2, h3, h4, rfl, rfl⟩ := h; refine ⟨?_, by omega, by omega, by omega⟩; rw [if_neg (by omega), if_neg (by omega), if_neg (by omega), if_neg (by omega)]
  · obtain ⟨rfl, rfl⟩ := h; decide
  all_goals (first | exact h.elim | (obtain ⟨h1, h2, rfl⟩ := h; refine ⟨?_, by omega, by omega, by omega⟩; rw [if_neg (by omega), if_neg (by omega), if_neg (by omega), if_pos (by omega)]; (repeat (first | rw [if_pos (by omega)] | rw [if_neg (by omega)]))))
/-- the place's index, by the place -/
theorem yL_fun {A : yA} (hN : yN A) {o : Nat} {i i' k : Int} (h : yL A o i k) (h' : yL A o i' k) : i = i' := by
  unfold yL at h h'
  split at h
  · rcases h with h | h | h | h | h | h <;> rcases h' with h' | h' | h' | h' | h' | h' <;> omega
  all_goals (first | exact h.elim | omega | (simp only at h'; omega) | (simp only at h'; obtain ⟨f, j, h1, h2, h3, h4, h5, rfl, rfl⟩ := h; obtain ⟨f', j', g1, g2, g3, g4, g5, g7, g6⟩ := h'; omega) | (simp only at h'; obtain ⟨f, j, h1, h2, h3, h4, rfl, rfl⟩ := h; obtain ⟨f', j', g1, g2, g3, g4, g7, g6⟩ := h'; omega))
theorem yL_kfun {A : yA} (hN : yN A) {o : Nat} {i k k' : Int} (h : yL A o i k) (h' : yL A o i k') : k = k' := by
  unfold yL at h h'
  split at h
  · rcases h with h | h | h | h | h | h <;> rcases h' with h' | h' | h' | h' | h' | h' <;> omega
  all_goals (first | exact h.elim | omega | (simp only at h'; omega) | (simp only at h'; obtain ⟨f, j, h1, h2, h3, h4, h5, rfl, rfl⟩ := h; obtain ⟨f', j', g1, g2, g3, g4, g5, g7, g6⟩ := h'; omega) | (simp only at h'; obtain ⟨f, j, h1, h2, h3, h4, rfl, rfl⟩ := h; obtain ⟨f', j', g1, g2, g3, g4, g7, g6⟩ := h'; omega))
/-- numbers that others' places hang on -/
def yFx (k : Int) : Prop := k ≠ 1 ∧ k ≠ 2 ∧ k ≠ 3 ∧ ¬ (33 ≤ k ∧ k < 81 ∧ (k - 33) % 8 = 0)
theorem yL_w {A : yA} (hN : yN A) {k0 v : Int} (hk : yFx k0) {o : Nat} {i k : Int} : yL (yw A k0 v) o i k ↔ yL A o i k := by
  obtain ⟨n1, n2, n3, n4, n5, n6⟩ := hN
  obtain ⟨e1, e2, e3, e4⟩ := hk
  have h1 : yS (yw A k0 v) 1 = yS A 1 := yup_n (Ne.symm e1)
  have h2 : yS (yw A k0 v) 2 = yS A 2 := yup_n (Ne.symm e2)
  have h3 : yS (yw A k0 v) 3 = yS A 3 := yup_n (Ne.symm e3)
  unfold yL
  rw [h1, h2, h3]
  split
  all_goals (first | exact Iff.rfl | skip)
  constructor
  · rintro ⟨f, j, q1, q2, q3, q4, q5, q6, q7⟩
    refine ⟨f, j, q1, q2, q3, ?_, q5, q6, q7⟩
    rwa [show yS (yw A k0 v) (33 + 8 * f) = yS A (33 + 8 * f) from yup_n (by omega)] at q4
  · rintro ⟨f, j, q1, q2, q3, q4, q5, q6, q7⟩
    refine ⟨f, j, q1, q2, q3, ?_, q5, q6, q7⟩
    rwa [show yS (yw A k0 v) (33 + 8 * f) = yS A (33 + 8 * f) from yup_n (by omega)]
/-- the World at w holds A's numbers -/
def yR (w : Nat) (M : xMe) (A : yA) : Prop := ∀ (o : Nat) (i k : Int), yL A o i k → M (w + o) i.toNat = yS A k
theorem yR_w {w : Nat} {M : xMe} {A : yA} (hN : yN A) (h : yR w M A) {o : Nat} {i k v : Int} (hl : yL A o i k) (hk : yFx k) : yR w (xw M (w + o) i.toNat v) (yw A k v) := by
  intro o' i' k' hl'
  rw [yL_w hN hk] at hl'
  have a1 := yL_in hN hl
  have a2 := yL_in hN hl'
  rw [yS_w]
  by_cases e : o' = o
  · subst e
    by_cases e2 : i' = i
    · subst e2
      rw [xw_s, ← yL_kfun hN hl hl', yup_s]
    · rw [xw_j (by omega), h _ _ _ hl', yup_n]
      intro q; subst q; exact e2 (yL_fun hN hl' hl)
  · rw [xw_b (by omega), h _ _ _ hl', yup_n]
    intro q; subst q; exact e (a2.1.trans a1.1.symm)
/-- a write elsewhere -/
theorem yR_o {w : Nat} {M M' : xMe} {A : yA} (h : yR w M A) (hM : ∀ o i k, yL A o i k → M' (w + o) i.toNat = M (w + o) i.toNat) : yR w M' A := fun o i k hl => (hM o i k hl).trans (h o i k hl)
/-- numbers that the World doesn't hold -/
theorem yR_x {w : Nat} {M : xMe} {A : yA} (hN : yN A) (h : yR w M A) {k v : Int} (hk : yFx k) (hx : ∀ o i, ¬ yL A o i k) : yR w M (yw A k v) := by
  intro o' i' k' hl'
  rw [yL_w hN hk] at hl'
  rw [h _ _ _ hl', yS_w, yup_n]
  intro q; subst q; exact hx _ _ hl'
/-- the model's row at b: places of A's numbers -/
def yG (k : Int) : Prop := 0 ≤ k ∧ k < 705 ∧ k ≠ 4 ∧ ¬ (k = 12 ∨ k = 14) ∧ ¬ (81 ≤ k ∧ k < 441 ∧ (k - 81) % 9 = 8) ∧ ¬ (441 ≤ k ∧ k < 561) ∧ ¬ (561 ≤ k ∧ (k - 561) % 4 ≠ 0)
def yD (b : Nat) (M : xMe) (S : Int → Int) : Prop := ∀ k, yG k → M b k.toNat = S k
theorem yD_w {b : Nat} {M : xMe} {S : Int → Int} (h : yD b M S) {k v : Int} (hk : 0 ≤ k) : yD b (xw M b k.toNat v) (yup S k v) := by
  intro j hj
  by_cases e : j = k
  · subst e; rw [xw_s, yup_s]
  · rw [xw_j (by have := hj.1; omega), yup_n e]; exact h j hj
theorem yD_x {b : Nat} {M : xMe} {S : Int → Int} (h : yD b M S) {k : Nat} {v : Int} (hk : ¬ yG k) : yD b (xw M b k v) S := by
  intro j hj
  rw [xw_j (by rintro rfl; exact hk (by rw [Int.toNat_of_nonneg hj.1]; exact hj))]; exact h j hj
theorem yD_o {b a k : Nat} {M : xMe} {S : Int → Int} {v : Int} (h : yD b M S) (hb : b ≠ a) : yD b (xw M a k v) S := fun j hj => by rw [xw_b hb]; exact h j hj
