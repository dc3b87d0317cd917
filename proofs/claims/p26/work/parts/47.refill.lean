/-! REFILLS -/
def yRfS (t n : Int) (S : Int → Int) : Int → Int := fun j => if 561 ≤ j ∧ j < 561 + 4 * n ∧ (j - 561) % 4 = 0 ∧ (j - 561) / 4 % 6 < S 2 ∧ (j - 561) / 4 / 6 < S 1 then min (S (16 + 3 * ((j - 561) / 4 / 6))) (S j + S (15 + 3 * ((j - 561) / 4 / 6)) * t) else S j
def yRf (t : Int) (A : yA) : yA := (yRfS t 36 (yS A), A.2)
def yRfn (t n : Int) (A : yA) : yA := (yRfS t n (yS A), A.2)
theorem yRfS_o {t n j : Int} {S : Int → Int} (h : j < 561 ∨ (j - 561) % 4 ≠ 0 ∨ 561 + 4 * n ≤ j) : yRfS t n S j = S j := by unfold yRfS; rw [if_neg (by omega)]
theorem yRfS_at {t n g f : Int} {S : Int → Int} (g0 : 0 ≤ g) (g1 : g < S 1) (f0 : 0 ≤ f) (f1 : f < S 2) (f6 : f < 6) (hn : 6 * g + f < n) : yRfS t n S (561 + 4 * (6 * g + f)) = min (S (16 + 3 * g)) (S (561 + 4 * (6 * g + f)) + S (15 + 3 * g) * t) := by
  have e : (561 + 4 * (6 * g + f) - 561) / 4 / 6 = g := by omega
  unfold yRfS
  rw [e, if_pos (by omega)]
theorem yRfS_step {t g f : Int} {S : Int → Int} (g0 : 0 ≤ g) (g1 : g < S 1) (f0 : 0 ≤ f) (f1 : f < S 2) (f6 : f < 6) : yup (yRfS t (6 * g + f) S) (561 + 4 * (6 * g + f)) (min (S (16 + 3 * g)) (S (561 + 4 * (6 * g + f)) + S (15 + 3 * g) * t)) = yRfS t (6 * g + f + 1) S := by
  funext j
  unfold yup
  by_cases e : j = 561 + 4 * (6 * g + f)
  · rw [if_pos e, e, yRfS_at g0 g1 f0 f1 f6 (by omega)]
  · rw [if_neg e]
    unfold yRfS
    split
    · rw [if_pos (by omega)]
    · rw [if_neg (by omega)]
theorem yRfS_row {t g : Int} {S : Int → Int} (h2 : 0 ≤ S 2 ∧ S 2 ≤ 6) (g0 : 0 ≤ g) : yRfS t (6 * g + S 2) S = yRfS t (6 * (g + 1)) S := by
  funext j
  unfold yRfS
  split
  · rw [if_pos (by omega)]
  · rw [if_neg (by omega)]
theorem yRfS_0 {t : Int} {S : Int → Int} : yRfS t 0 S = S := by
  funext j; exact yRfS_o (by omega)
theorem yRfS_end {t : Int} {S : Int → Int} (h1 : 0 ≤ S 1 ∧ S 1 ≤ 6) : yRfS t (6 * S 1) S = yRfS t 36 S := by
  funext j
  unfold yRfS
  split
  · rw [if_pos (by omega)]
  · rw [if_neg (by omega)]
theorem ySt_rfn {t n : Int} {A : yA} : ySt A (yRfn t n A) ∧ ∀ k, k < 561 → yS (yRfn t n A) k = yS A k := ⟨⟨fun k hk => yRfS_o (by unfold yStat at hk; omega), rfl⟩, fun k hk => yRfS_o (by omega)⟩
theorem yFx_t {k : Int} (h : 561 ≤ k) : yFx k := ⟨by omega, by omega, by omega, by omega⟩
theorem s_X10_refill_28 {F w : Nat} {t g : Int} {A : yA} {Q : xMe → Prop} {K : Int → Int → xMe → Prop} (hI : yI A) (ht : 0 ≤ t ∧ t ≤ 600) (g0 : 0 ≤ g) (g1 : g < yS A 1) : ∀ (n k : Nat) (f : Int) (M : xMe), f + n = yS A 2 → n < k → 0 ≤ f → yCR w M (yRfn t (6 * g + f) A) → (∀ M', yCR w M' (yRfn t (6 * (g + 1)) A) → (∀ b, b ≠ w + 11 → M' b = M b) → K t g M') → p_X10_refill_28 F w Q K k t g (yS A (15 + 3 * g) * t) f M := by
  obtain ⟨n1, n2, n3, n4, n5, n6⟩ := id hI.1.1
  have hg := hI.1.2.1 g g0 g1
  have hm := ymul_b (a := 99) (b := 600) ⟨hg.1, hg.2.1⟩ ht
  intro n
  induction n with
  | zero =>
    intro k f M hf hk f0 h hq
    obtain ⟨k, rfl⟩ : ∃ k', k = k' + 1 := ⟨k - 1, by omega⟩
    have hff : f = yS A 2 := by omega
    unfold p_X10_refill_28
    rw [yr5 h.1, ySt_rfn.2 2 (by omega)]
    refine ⟨fun _ => hq M ?_ (fun _ _ => rfl), fun q => absurd q (by omega)⟩
    unfold yRfn at h ⊢
    rw [← yRfS_row ⟨n3, n4⟩ g0, ← hff]; exact h
  | succ n ih =>
    intro k f M hf hk f0 h hq
    obtain ⟨k, rfl⟩ : ∃ k', k = k' + 1 := ⟨k - 1, by omega⟩
    have f1 : f < yS A 2 := by omega
    have hN : yN (yRfn t (6 * g + f) A) := yN_st ySt_rfn.1 hI.1.1
    have gg1 : g < yS (yRfn t (6 * g + f) A) 1 := by rw [ySt_rfn.2 1 (by omega)]; exact g1
    have ff1 : f < yS (yRfn t (6 * g + f) A) 2 := by rw [ySt_rfn.2 2 (by omega)]; exact f1
    have htk := hI.2.1 g f g0 g1 f0 f1
    have ecur : yS (yRfn t (6 * g + f) A) (561 + 4 * (6 * g + f)) = yS A (561 + 4 * (6 * g + f)) := yRfS_o (by omega)
    unfold p_X10_refill_28
    rw [yr5 h.1, ySt_rfn.2 2 (by omega)]
    refine ⟨fun q => absurd q (by omega), fun _ => ⟨⟨by omega, by omega⟩, ⟨by omega, by omega⟩, fun z ez => ?_⟩⟩
    subst ez
    rw [yr11 h.1 g0 gg1 f0 ff1, yr3 h.1 g0 gg1, ecur, ySt_rfn.2 (16 + 3 * g) (by omega)]
    refine ⟨⟨by omega, by omega⟩, ⟨by omega, by omega⟩, ⟨by omega, by omega⟩, ⟨by omega, by omega⟩, fun M1 e1 => ⟨⟨by omega, by omega⟩, ih k (f + 1) M1 (by omega) (by omega) (by omega) ?_ (fun M' d1 d2 => hq M' d1 (fun b hb => by rw [d2 b hb, e1, xw_B hb]))⟩⟩
    have hc := yCR_w (v := min (yS A (16 + 3 * g)) (yS A (561 + 4 * (6 * g + f)) + yS A (15 + 3 * g) * t)) hN h (yl11 g0 gg1 f0 ff1) (yFx_t (by omega))
    rw [← e1] at hc
    have : yw (yRfn t (6 * g + f) A) (561 + 4 * (6 * g + f)) (min (yS A (16 + 3 * g)) (yS A (561 + 4 * (6 * g + f)) + yS A (15 + 3 * g) * t)) = yRfn t (6 * g + (f + 1)) A := by
      unfold yw yRfn
      rw [← Int.add_assoc, ← yRfS_step g0 g1 f0 f1 (by omega)]
    rw [← this]; exact hc
theorem s_X10_refill {F w : Nat} {t : Int} {M : xMe} {A : yA} {Q : xMe → Prop} (hI : yI A) (hF : 50 ≤ F) (ht : 0 ≤ t ∧ t ≤ 600) (h : yCR w M A) (hq : ∀ M', yCR w M' (yRf t A) → (∀ b, b ≠ w + 11 → M' b = M b) → Q M') : p_X10_refill F w t M Q := by
  obtain ⟨n1, n2, n3, n4, n5, n6⟩ := id hI.1.1
  have main : ∀ (n k : Nat) (g : Int) (M1 : xMe), g + n = yS A 1 → n < k → 0 ≤ g → yCR w M1 (yRfn t (6 * g) A) → (∀ b, b ≠ w + 11 → M1 b = M b) → p_X10_refill_2 F w Q k t g M1 := by
    intro n
    induction n with
    | zero =>
      intro k g M1 hg hk g0 h1 hM
      obtain ⟨k, rfl⟩ : ∃ k', k = k' + 1 := ⟨k - 1, by omega⟩
      unfold p_X10_refill_2
      rw [yr1 h1.1, ySt_rfn.2 1 (by omega)]
      refine ⟨fun _ => hq M1 ?_ hM, fun q => absurd q (by omega)⟩
      unfold yRfn at h1
      rw [show g = yS A 1 by omega, yRfS_end ⟨n1, n2⟩] at h1
      exact h1
    | succ n ih =>
      intro k g M1 hg hk g0 h1 hM
      obtain ⟨k, rfl⟩ : ∃ k', k = k' + 1 := ⟨k - 1, by omega⟩
      have g1 : g < yS A 1 := by omega
      have gg1 : g < yS (yRfn t (6 * g) A) 1 := by rw [ySt_rfn.2 1 (by omega)]; exact g1
      have hgb := hI.1.2.1 g g0 g1
      have hm := ymul_b (a := 99) (b := 600) ⟨hgb.1, hgb.2.1⟩ ht
      unfold p_X10_refill_2
      rw [yr1 h1.1, ySt_rfn.2 1 (by omega), yr2 h1.1 g0 gg1, ySt_rfn.2 (15 + 3 * g) (by omega)]
      refine ⟨fun q => absurd q (by omega), fun _ => ⟨⟨by omega, by omega⟩, ⟨by omega, by omega⟩, fun z ez => ?_⟩⟩
      subst ez
      refine s_X10_refill_28 hI ht g0 g1 (yS A 2).toNat F 0 M1 (by omega) (by omega) (by omega) (by rw [Int.add_zero]; exact h1) (fun M' d1 d2 => ⟨⟨by omega, by omega⟩, ih k (g + 1) M' (by omega) (by omega) (by omega) d1 (fun b hb => (d2 b hb).trans (hM b hb))⟩)
  refine main (yS A 1).toNat F 0 M (by omega) (by omega) (by omega) ?_ (fun _ _ => rfl)
  rw [show yRfn t (6 * 0) A = A by unfold yRfn; rw [Int.mul_zero, yRfS_0]; rfl]
  exact h
theorem yI_rf {t : Int} {A : yA} (hI : yI A) (ht : 0 ≤ t) : yI (yRf t A) ∧ yTk A (yRf t A) := by
  obtain ⟨h1, h2, h3, h4, h5, h6, h7, h8⟩ := hI
  obtain ⟨n1, n2, n3, n4, n5, n6⟩ := id h1.1
  have hSt : ySt A (yRf t A) := (ySt_rfn (t := t) (n := 36) (A := A)).1
  have hS : ∀ k, k < 561 → yS (yRf t A) k = yS A k := (ySt_rfn (t := t) (n := 36) (A := A)).2
  have hk : yPk (-1) A (yRf t A) := fun k k1 k2 k3 => hS k (by omega)
  refine ⟨⟨yI1_st hSt h1, fun g f g0 g1 f0 f1 => ?_, yI3_pk (p := -1) h3 h1 hSt (hS 0 (by omega)) hk (fun q _ => absurd q (by decide)), yI4_pk (p := -1) h4 h1 h3 hSt hk (fun s hm => by have := yQok_in h4.1 hm; omega) rfl, yI5_st h5 hSt (hS 0 (by omega)) rfl, h6, yI7_eq h7 h1.1 hSt ?_ (hS 0 (by omega)) (hS 7 (by omega)) (hS 8 (by omega)) (fun f f0 f1 => hS _ (by omega)), ?_⟩, hSt, hS 0 (by omega)⟩
  · rw [hS 1 (by omega)] at g1
    rw [hS 2 (by omega)] at f1
    have e : yS (yRf t A) (561 + 4 * (6 * g + f)) = _ := yRfS_at (t := t) (n := 36) g0 g1 f0 f1 (by omega) (by omega)
    rw [e]
    have hg := h1.2.1 g g0 g1
    have htk := h2 g f g0 g1 f0 f1
    have := Int.mul_nonneg hg.1 ht
    omega
  · unfold yTot
    rw [hS 3 (by omega)]
    exact ySp2_eq (fun r a b => hS _ (by omega))
  · obtain ⟨g5, g6, g36⟩ := h8
    refine ⟨?_, ?_, fun f f0 f1 => ?_⟩
    · rw [hS 5 (by omega), hS 3 (by omega), g5]; exact ySp2_eq (fun r a b => by simp only [hS (84 + 9 * r) (by omega)])
    · rw [hS 6 (by omega), hS 3 (by omega), g6]; exact ySp2_eq (fun r a b => by simp only [hS (84 + 9 * r) (by omega)])
    · rw [hS 2 (by omega)] at f1
      rw [hS (36 + 8 * f) (by omega), hS 3 (by omega), g36 f f0 f1]; exact ySp2_eq (fun r a b => by simp only [hS (84 + 9 * r) (by omega), hS (81 + 9 * r) (by omega), hS (83 + 9 * r) (by omega)])
