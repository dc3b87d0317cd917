theorem yIr_w {A : yA} {k v : Int} (h : yIr A) : yIr (yw A k v) := h
theorem yDR_w' {b : Nat} {M : xMe} {A : yA} (hI : yIr A) (h : yDR b M A) {k k' v : Int} (e : k = k') (hk : yG k) (h13 : k ≠ 13 := by omega) : yDR b (xw M b k.toNat v) (yw A k' v) := by
  subst e; exact yDR_w hI h hk h13
theorem yDa {b : Nat} {M : xMe} {A : yA} (h : yDR b M A) {k k' : Int} (e : k = k') (hk : yG k') : M b k.toNat = yS A k' := by
  subst e; exact h.1 k hk
theorem yD0 {b : Nat} {M : xMe} {A : yA} (h : yDR b M A) : M b 0 = yS A 0 := h.1 0 (by unfold yG; omega)
/-- a queue is no longer than its gate's room -/
theorem yI4_room {A : yA} (hI1 : yI1 A) (hI3 : yI3 A) (hI4 : yI4 A) {g f : Int} (h0 : 0 ≤ g) (h1 : g < yS A 1) (h2 : 0 ≤ f) (h3 : f < yS A 2) : ((yQ A (6 * g + f)).length : Int) ≤ yS A (17 + 3 * g) := by
  have hg := hI1.2.1 g h0 h1
  obtain ⟨n1, n2, n3, n4, n5, n6⟩ := hI1.1
  cases hl : yQ A (6 * g + f) with
  | nil => simp; omega
  | cons p l =>
    obtain ⟨a, b, c, d, e⟩ := hI4.2 (6 * g + f) p (by rw [hl]; simp)
    obtain ⟨k1, k2, k3, k4, k5, k6, k7, k8, k9⟩ := yGt_ok hI1 hI3 a b (by omega)
    have : yGt A p = g := by unfold ySl at d; omega
    rw [this, hl] at e
    exact e
theorem yDR_push {b : Nat} {M M' : xMe} {A : yA} {s x : Int} (hI : yIr A) (h : yDR b M A) (hs : 0 ≤ s ∧ s < 36) (hx : 0 ≤ x ∧ x < 40) (hxq : ∀ s', x ∉ yQ A s')
    (e : (yQ A s = [] ∧ M' = xw (xw (xw M b (563 + 4 * s).toNat x) b (564 + 4 * s).toNat x) b (562 + 4 * s).toNat (M b (562 + 4 * s).toNat + 1)) ∨ (yQ A s ≠ [] ∧ M' = xw (xw (xw M b (89 + 9 * M b (564 + 4 * s).toNat).toNat x) b (564 + 4 * s).toNat x) b (562 + 4 * s).toNat (M b (562 + 4 * s).toNat + 1))) : yDR b M' (yqw A s (yQ A s ++ [x])) := by
  have hlast : yQ A s ≠ [] → ∃ z, (yQ A s).getLast? = some z ∧ M b (564 + 4 * s).toNat = z ∧ 0 ≤ z ∧ z < 40 := fun hne => by
    have hz := List.getLast?_eq_some_getLast hne
    exact ⟨_, hz, (h.2.2.2.1 s hs.1 hs.2).2.2.1 _ hz, yQok_in hI.1 (List.mem_of_getLast? hz)⟩
  rcases e with ⟨hn, rfl⟩ | ⟨hn, rfl⟩
  · refine yDR_q hI h (yQm_join hI.1 h.2.2.2.1 hs hxq ?_ ?_ ?_ ?_ ?_ ?_ ?_ ?_ ?_) (fun k hk => ?_)
    · simp only [xw_s]
    · intro s' h1 h2 h3; rw [xw_j (by omega), xw_j (by omega), xw_j (by omega)]
    · intro _; rw [xw_j (by omega), xw_j (by omega), xw_s]
    · intro h9; exact absurd hn h9
    · intro s' h1 h2 h3; rw [xw_j (by omega), xw_j (by omega), xw_j (by omega)]
    · rw [xw_j (by omega), xw_s]
    · intro s' h1 h2 h3; rw [xw_j (by omega), xw_j (by omega), xw_j (by omega)]
    · intro h9; exact absurd hn h9
    · intro p h1 h2 h3 h4; rw [xw_j (by omega), xw_j (by omega), xw_j (by omega)]
    · unfold yChi at hk; rw [xw_j (by omega), xw_j (by omega), xw_j (by omega)]
  · obtain ⟨z, hz, hz2, hz3, hz4⟩ := hlast hn
    have hzx : z ≠ x := fun e => hxq s (e ▸ List.mem_of_getLast? hz)
    rw [hz2]
    refine yDR_q hI h (yQm_join hI.1 h.2.2.2.1 hs hxq ?_ ?_ ?_ ?_ ?_ ?_ ?_ ?_ ?_) (fun k hk => ?_)
    · simp only [xw_s]
    · intro s' h1 h2 h3; rw [xw_j (by omega), xw_j (by omega), xw_j (by omega)]
    · intro h9; exact absurd h9 hn
    · intro _; rw [xw_j (by omega), xw_j (by omega), xw_j (by omega)]
    · intro s' h1 h2 h3; rw [xw_j (by omega), xw_j (by omega), xw_j (by omega)]
    · rw [xw_j (by omega), xw_s]
    · intro s' h1 h2 h3; rw [xw_j (by omega), xw_j (by omega), xw_j (by omega)]
    · intro _; rw [hz2, xw_j (by omega), xw_j (by omega), xw_s]
    · intro p h1 h2 h3 h4
      have : p ≠ z := by rcases h4 with h4 | h4; exact absurd h4 hn; rw [hz2] at h4; exact h4
      rw [xw_j (by omega), xw_j (by omega), xw_j (by omega)]
    · unfold yChi at hk; rw [xw_j (by omega), xw_j (by omega), xw_j (by omega)]
