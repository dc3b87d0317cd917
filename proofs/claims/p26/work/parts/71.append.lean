/-! append -/
section ZA
variable {x m : Nat} {t : xTh} {M M' : xMe} {Q : xMe → Prop} {R : Int → xMe → Prop}
theorem z_put : ∀ (k : Nat) (n c F : Nat) (w : Int) (M : xMe) (Q : xMe → Prop), c < k → c ≤ 4 → M (x + 2) 1 = (n : Int) → n + c ≤ 700 → (∀ M', M' (x + 2) 1 = ((n + c : Nat) : Int) → (∀ i : Nat, i < c → M' (x + 3) (n + i) = Int.bmod (w / 2 ^ (8 * (c - 1 - i))) 256) → (∀ b j, ¬ (b = x + 2 ∧ j = 1) → ¬ (b = x + 3 ∧ n ≤ j ∧ j < n + c) → M' b j = M b j) → Q M') → p_X9_put_3 F (x + 2) Q k w (8 * (c : Int) - 8) M
  | 0, _, _, _, _, _, _, h, _, _, _, _ => by omega
  | k + 1, n, 0, F, w, M, Q, _, _, h1, _, hq => by
    unfold p_X9_put_3
    exact ⟨fun _ => hq M h1 (fun i hi => absurd hi (by omega)) (fun _ _ _ _ => rfl), fun h => by omega⟩
  | k + 1, n, c + 1, F, w, M, Q, hk, hc, h1, hl, hq => by
    unfold p_X9_put_3
    rw [h1]
    refine ⟨fun h => by omega, fun _ => ⟨fun h => by omega, fun _ => ⟨fun h => by omega, fun _ => ⟨⟨by omega, by omega⟩, ⟨by omega, by omega⟩, ?_, fun M1 e1 => ?_⟩⟩⟩⟩
    · have a := Int.le_bmod (x := w / 2 ^ (8 * ((c + 1 : Nat) : Int) - 8).toNat) (m := 256) (by decide)
      have d := Int.bmod_lt (x := w / 2 ^ (8 * ((c + 1 : Nat) : Int) - 8).toNat) (m := 256) (by decide)
      omega
    · have e11 : M1 (x + 2) 1 = (n : Int) := by rw [e1, xw_b (by omega)]; exact h1
      rw [e11]
      refine ⟨⟨by omega, by omega⟩, fun M2 e2 => ⟨⟨by omega, by omega⟩, ?_⟩⟩
      rw [show 8 * ((c + 1 : Nat) : Int) - 8 + -8 = 8 * (c : Int) - 8 by omega]
      refine z_put k (n + 1) c F w M2 Q (by omega) (by omega) (by rw [e2, xw_s]; omega) (by omega) (fun M' g1 g2 g3 => hq M' (by rw [g1]; omega) (fun i hi => ?_) (fun b j c1 c2 => ?_))
      · rcases i with _ | i
        · rw [g3 _ _ (by omega) (by omega), e2, xw_b (by omega), e1, show x + 3 = x + 2 + 1 by omega, Int.toNat_natCast, show n + 0 = n from rfl, xw_s, show (8 * ((c + 1 : Nat) : Int) - 8).toNat = 8 * (c + 1 - 1 - 0) by omega]
        · rw [show n + (i + 1) = n + 1 + i by omega, g2 i (by omega), show c + 1 - 1 - (i + 1) = c - 1 - i by omega]
      · rw [g3 b j c1 (by omega), e2, e1]
        by_cases hb : b = x + 2
        · subst hb
          rw [xw_j (fun q => c1 ⟨rfl, q⟩), xw_b (by omega)]
        · rw [xw_b hb]
          by_cases hb3 : b = x + 2 + 1
          · subst hb3
            rw [xw_j (by omega)]
          · rw [xw_b hb3]
theorem z_putw {F n : Nat} {w : Int} (hF : 5 ≤ F) (h1 : M (x + 2) 1 = (n : Int)) (hl : n + 4 ≤ 700) (hq : ∀ M', M' (x + 2) 1 = ((n + 4 : Nat) : Int) → (∀ i : Nat, i < 4 → M' (x + 3) (n + i) = Int.bmod (w / 2 ^ (8 * (3 - i))) 256) → (∀ b j, ¬ (b = x + 2 ∧ j = 1) → ¬ (b = x + 3 ∧ n ≤ j ∧ j < n + 4) → M' b j = M b j) → Q M') : p_X9_put F (x + 2) w M Q := by
  unfold p_X9_put
  exact z_put (x := x) F n 4 F w M Q (by omega) (by omega) h1 hl hq
/-- the byte that append lays at place i -/
def zab (a b c d e : Int) (i : Nat) : Int := (if i < 4 then a else if i < 8 then b else if i < 12 then c else if i < 16 then d else e) / 2 ^ (8 * (3 - i % 4))
theorem s_X11_append {F n : Nat} {p1 p2 p3 p4 p5 : Int} (hF : 5 ≤ F) (h1 : M (x + 2) 1 = (n : Int)) (hn : n ≤ 700) (h0 : 680 < n → R (-1) M) (hq : n ≤ 680 → ∀ M', M' (x + 2) 1 = (n : Int) + 20 → (∀ i : Nat, i < 20 → M' (x + 3) (n + i) = Int.bmod (zab p1 p2 p3 p4 p5 i) 256) → (∀ b j, ¬ (b = x + 2 ∧ j = 1) → ¬ (b = x + 3 ∧ n ≤ j) → M' b j = M b j) → R ((n : Int) + 20) M') : p_X11_append F x p1 p2 p3 p4 p5 M R := by
  unfold p_X11_append
  rw [h1]
  refine ⟨fun h => ?_, fun h => h0 (by omega)⟩
  refine z_putw hF h1 (by omega) (fun M1 a1 b1 c1 => ?_)
  refine z_putw hF a1 (by omega) (fun M2 a2 b2 c2 => ?_)
  refine z_putw hF a2 (by omega) (fun M3 a3 b3 c3 => ?_)
  refine z_putw hF a3 (by omega) (fun M4 a4 b4 c4 => ?_)
  refine z_putw hF a4 (by omega) (fun M5 a5 b5 c5 => ?_)
  have e5 : M5 (x + 2) 1 = (n : Int) + 20 := by rw [a5]; omega
  rw [e5]
  refine hq (by omega) M5 e5 (fun i hi => ?_) (fun b j q1 q2 => ?_)
  · unfold zab
    have d : i % 4 = i - 4 * (i / 4) := by omega
    by_cases q1 : i < 4
    · rw [if_pos q1, c5 _ _ (by omega) (by omega), c4 _ _ (by omega) (by omega), c3 _ _ (by omega) (by omega), c2 _ _ (by omega) (by omega), b1 i q1, show i % 4 = i by omega]
    · rw [if_neg q1]
      by_cases q2 : i < 8
      · rw [if_pos q2, c5 _ _ (by omega) (by omega), c4 _ _ (by omega) (by omega), c3 _ _ (by omega) (by omega), show n + i = n + 4 + (i - 4) by omega, b2 (i - 4) (by omega), show i % 4 = i - 4 by omega]
      · rw [if_neg q2]
        by_cases q3 : i < 12
        · rw [if_pos q3, c5 _ _ (by omega) (by omega), c4 _ _ (by omega) (by omega), show n + i = n + 4 + 4 + (i - 8) by omega, b3 (i - 8) (by omega), show i % 4 = i - 8 by omega]
        · rw [if_neg q3]
          by_cases q4 : i < 16
          · rw [if_pos q4, c5 _ _ (by omega) (by omega), show n + i = n + 4 + 4 + 4 + (i - 12) by omega, b4 (i - 12) (by omega), show i % 4 = i - 12 by omega]
          · rw [if_neg q4, show n + i = n + 4 + 4 + 4 + 4 + (i - 16) by omega, b5 (i - 16) (by omega), show i % 4 = i - 16 by omega]
  · rw [c5 _ _ q1 (by omega), c4 _ _ q1 (by omega), c3 _ _ q1 (by omega), c2 _ _ q1 (by omega), c1 _ _ q1 (by omega)]
end ZA
section ZAQ
variable {x m : Nat} {t t' : xTh} {M M' : xMe} {D : Nat → Prop} {A : yA} {H : List yA}
theorem yCs_fr2 (h : yCs x t M D A H) (hN : yN A) (hg : yHg H) (ht : t'.2 = t.2) (e : ∀ b, x + 44 ≤ b → b < x + 436 → M' b = M b) (eq : ∀ q, D q → M' (q + 1) = M (q + 1)) : yCs x t' M' D A H := by
  obtain ⟨h1, h2, h3, h4, h5⟩ := h
  exact ⟨yWd_fr hN h1 (by unfold xr; rw [ht]) (by unfold xn; rw [ht]) (fun _ h => h) (fun b b1 b2 => e b (by omega) (by omega)) (eq _ h1.2.1), by rw [e _ (by omega) (by omega)]; exact h2, by rw [e _ (by omega) (by omega)]; exact h3, yPx_t h4 (yTe_refl h4 ht), yHc_fr hg h5 (yTe_refl h4 ht) (fun _ h => h) (fun b b1 b2 => e b (by omega) b2) eq⟩
end ZAQ
