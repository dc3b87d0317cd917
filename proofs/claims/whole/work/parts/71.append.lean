/-! append -/
section ZA
variable {x m : Nat} {t : xTh} {M M' : xMe} {Q : xMe → Prop} {R : Int → xMe → Prop}
theorem z_put : ∀ (k : Nat) (n c F : Nat) (w : Int) (M : xMe) (Q : xMe → Prop), c < k → c ≤ 4 → M (x + 2) 1 = (n : Int) → n + c ≤ 700 → (∀ M', M' (x + 2) 1 = ((n + c : Nat) : Int) → (∀ i : Nat, i < c → M' (x + 3) (n + i) = Int.bmod (w / 2 ^ (8 * (c - 1 - i))) 256) → (∀ b j, ¬ (b = x + 2 ∧ j = 1) → ¬ (b = x + 3 ∧ n ≤ j ∧ j < n + c) → M' b j = M b j) → Q M') → p_X9_put_3 F (x + 2) Q k w (8 * (c : Int) - 8) M
  | 0, _, _, _, _, _, _, h, _, _, _, _ => by omega
  | k + 1, n, 0, F, w, M, Q, _, _, h1, _, hq => by
    unfold p_X9_put_3
    exact ⟨fun _ => hq M h1 (fun i hi => absurd hi (by omega)) (fun _ _ _ _ => rfl), fun h => by omega⟩
  | k + 1, n, c + 1, F, w, M, Q, hk, hc, h1, hl, hq => by
    unfold p_X9_put_3
    rw [h1]
    refine ⟨fun h => by omega, fun _ => ⟨fun h => by omega, fun _ => ⟨fun h => by omega, fun _ => ⟨⟨by omega, by omega⟩, ⟨by omega, by omega⟩, ?_, fun M1 e1 => ?_⟩⟩⟩⟩
    · have a := Int.le_bmod (x := w / 2 ^ (8 * ((c + 1 : Nat) : Int) - 8).toNat) (m := 256) (by decide)
      have d := Int.bmod_lt (x := w / 2 ^ (8 * ((c + 1 : Nat) : Int) - 8).toNat) (m := 256) (by decide)
      omega
    · have e11 : M1 (x + 2) 1 = (n : Int) := by rw [e1, xw_b (by omega)]; exact h1
      rw [e11]
      refine ⟨⟨by omega, by omega⟩, fun M2 e2 => ⟨⟨by omega, by omega⟩, ?_⟩⟩
      rw [show 8 * ((c + 1 : Nat) : Int) - 8 + -8 = 8 * (c : Int) - 8 by omega]
      refine z_put k (n + 1) c F w M2 Q (by omega) (by omega) (by rw [e2, xw_s]; omega) (by omega) (fun M' g1 g2 g3 => hq M' (by rw [g1]; omega) (fun i hi => ?_) (fun b j c1 c2 => ?_))
      · rcases i with _ | i
        · rw [g3 _ _ (by omega) (by omega), e2, xw_b (by omega), e1, show x + 3 = x + 2 + 1 by omega, Int.toNat_natCast, show n + 0 = n from rfl, xw_s, show (8 * ((c + 1 : Nat) : Int) - 8).toNat = 8 * (c + 1 - 1 - 0) by omega]
        · rw [show n + (i + 1) = n + 1 + i by omega, g2 i (by omega), show c + 1 - 1 - (i + 1) = c - 1 - i by omega]
      · rw [g3 b j c1 (by omega), e2, e1]
        by_cases hb : b = x + 2
        · subst hb
          rw [xw_j (fun q => c1 ⟨rfl, q⟩), xw_b (by omega)]
        · rw [xw_b hb]
          by_cases hb3 : b = x + 2 + 1
          · subst hb3
            rw [xw_j (by omega)]
          · rw [xw_b hb3]
theorem z_putw {F n : Nat} {w : Int} (hF : 5 ≤ F) (h1 : M (x + 2) 1 = (n : Int)) (hl : n + 4 ≤ 700) (hq : ∀ M', M' (x + 2) 1 = ((n + 4 : Nat) : Int) → (∀ i : Nat, i < 4 → M' (x + 3) (n + i) = Int.bmod (w / 2 ^ (8 * (3 - i))) 256) → (∀ b j, ¬ (b = x + 2 ∧ j = 1) → ¬ (b = x + 3 ∧ n ≤ j ∧ j < n + 4) → M' b j = M b j) → Q M') : p_X9_put F (x + 2) w M Q := by
  unfold p_X9_put
  exact z_put (x := x) F n 4 F w M Q (by omega) (by omega) h1 hl hq
/-- the byte that append lays at place i -/
def zab (a b c d e : Int) (i : Nat) : Int := (if i < 4 then a else if i < 8 then b else if i < 12 then c else if i < 16 then d else e) / 2 ^ (8 * (3 - i % 4))
theorem s_X11_append {F n : Nat} {p1 p2 p3 p4 p5 : Int} (hF : 5 ≤ F) (h1 : M (x + 2) 1 = (n : Int)) (hn : n ≤ 700) (h0 : 680 < n → R (-1) M) (hq : n ≤ 680 → ∀ M', M' (x + 2) 1 = (n : Int) + 20 → (∀ i : Nat, i < 20 → M' (x + 3) (n + i) = Int.bmod (zab p1 p2 p3 p4 p5 i) 256) → (∀ b j, ¬ (b = x + 2 ∧ j = 1) → ¬ (b = x + 3 ∧ n ≤ j) → M' b j = M b j) → R ((n : Int) + 20) M') : p_X11_append F x p1 p2 p3 p4 p5 M R := by
  unfold p_X11_append
  rw [h1]
  refine ⟨fun h => ?_, fun h => h0 (by omega)⟩
  refine z_putw hF h1 (by omega) (fun M1 a1 b1 c1 => ?_)
  refine z_putw hF a1 (by omega) (fun M2 a2 b2 c2 => ?_)
  refine z_putw hF a2 (by omega) (fun M3 a3 b3 c3 => ?_)
  refine z_putw hF a3 (by omega) (fun M4 a4 b4 c4 => ?_)
  refine z_putw hF a4 (by omega) (fun M5 a5 b5 c5 => ?_)
  have e5 : M5 (x + 2) 1 = (n : Int) + 20 := by rw [a5]; omega
  rw [e5]
  refine hq (by omega) M5 e5 (fun i hi => ?_) (fun b j q1 q2 => ?_)
  · unfold zab
    have d : i % 4 = i - 4 * (i / 4) := by omega
    by_cases q1 : i < 4
    · rw [if_pos q1, c5 _ _ (by omega) (by omega), c4 _ _ (by omega) (by omega), c3 _ _ (by omega) (by omega), c2 _ _ (by omega) (by omega), b1 i q1, show i % 4 = i by omega]
    · rw [if_neg q1]
      by_cases q2 : i < 8
      · rw [if_pos q2, c5 _ _ (by omega) (by omega), c4 _ _ (by omega) (by omega), c3 _ _ (by omega) (by omega), show n + i = n + 4 + (i - 4) by omega, b2 (i - 4) (by omega), show i % 4 = i - 4 by omega]
      · rw [if_neg q2]
        by_cases q3 : i < 12
        · rw [if_pos q3, c5 _ _ (by omega) (by omega), c4 _ _ (by omega) (by omega), show n + i = n + 4 + 4 + (i - 8) by omega, b3 (i - 8) (by omega), show i % 4 = i - 8 by omega]
        · rw [if_neg q3]
          by_cases q4 : i < 16
          · rw [if_pos q4, c5 _ _ (by omega) (by omega), show n + i = n + 4 + 4 + 4 + (i - 12) by omega, b4 (i - 12) (by omega), show i % 4 = i - 12 by omega]
          · rw [if_neg q4, show n + i = n + 4 + 4 + 4 + 4 + (i - 16) by omega, b5 (i - 16) (by omega), show i % 4 = i - 16 by omega]
  · rw [c5 _ _ q1 (by omega), c4 _ _ q1 (by omega), c3 _ _ q1 (by omega), c2 _ _ q1 (by omega), c1 _ _ q1 (by omega)]
theorem z_app : ∀ (k n c F : Nat) (p1 p2 p3 p4 p5 : Int) (M : xMe), 20 < k + c → c ≤ 20 → M m 2 = ((n + c : Nat) : Int) → n ≤ 680 → (∀ M', M' m 2 = (n : Int) + 20 → (∀ i : Nat, c ≤ i → i < 20 → M' (m + 1) (n + i) = zab p1 p2 p3 p4 p5 i % 256) → (∀ b j, ¬ (b = m ∧ j = 2) → ¬ (b = m + 1 ∧ n + c ≤ j) → M' b j = M b j) → R ((n : Int) + 20) M') → p_X12_append_23 F m R k p1 p2 p3 p4 p5 (c : Int) M
  | 0, _, _, _, _, _, _, _, _, _, h, _, _, _, _ => by omega
  | k + 1, n, c, F, p1, p2, p3, p4, p5, M, hk, hc, h2, hn, hq => by
    unfold p_X12_append_23
    rw [h2]
    refine ⟨fun h => ?_, fun h => ?_⟩
    · have e : c = 20 := by omega
      rw [show ((n + c : Nat) : Int) = (n : Int) + 20 by omega]
      exact hq M (by rw [h2]; omega) (fun i i1 i2 => by omega) (fun _ _ _ _ => rfl)
    · have et : Int.tmod (c : Int) 4 = ((c % 4 : Nat) : Int) := by
        rw [Int.tmod_eq_emod_of_nonneg (by omega)]; omega
      have en : (24 - 8 * ((c % 4 : Nat) : Int)).toNat = 8 * (3 - c % 4) := by omega
      have fin : ∀ w : Int, w / 2 ^ (8 * (3 - c % 4)) = zab p1 p2 p3 p4 p5 c → (4 ≠ (0 : Int) ∧ xR (Int.tmod c 4)) ∧ (xR (8 * (Int.tmod c 4))) ∧ (xR (24 - (8 * (Int.tmod c 4)))) ∧ ((0 : Int) ≤ (24 - (8 * (Int.tmod c 4))) ∧ (24 - (8 * (Int.tmod c 4))) < 32) ∧ ((0 : Int) ≤ (((n + c : Nat) : Int)) ∧ ((((n + c : Nat) : Int)) : Int) < 700) ∧ (∀ M103 : xMe, M103 = xw M (m + 1) ((((n + c : Nat) : Int))).toNat ((w / 2 ^ (24 - (8 * (Int.tmod c 4))).toNat) % 2 ^ 8) → (xR ((M103 m 2) + 1)) ∧ (∀ M111 : xMe, M111 = xw M103 m 2 ((M103 m 2) + 1) → (xR ((c : Int) + 1)) ∧ p_X12_append_23 F m R k p1 p2 p3 p4 p5 ((c : Int) + 1) M111)) := fun w hw => by
        rw [et, en, hw]
        refine ⟨⟨by decide, by omega, by omega⟩, ⟨by omega, by omega⟩, ⟨by omega, by omega⟩, ⟨by omega, by omega⟩, ⟨by omega, by omega⟩, fun M1 e1 => ?_⟩
        have e2 : M1 m 2 = ((n + c : Nat) : Int) := by rw [e1, xw_b (by omega)]; exact h2
        rw [e2]
        refine ⟨⟨by omega, by omega⟩, fun M2 e2' => ⟨⟨by omega, by omega⟩, ?_⟩⟩
        refine z_app k n (c + 1) F p1 p2 p3 p4 p5 M2 (by omega) (by omega) (by rw [e2', xw_s]; omega) hn (fun M' g1 g2 g3 => hq M' g1 (fun i i1 i2 => ?_) (fun b j q1 q2 => ?_))
        · by_cases q : i = c
          · subst q
            rw [g3 _ _ (by omega) (by omega), e2', xw_b (by omega), e1, Int.toNat_natCast, xw_s]; rfl
          · exact g2 i (by omega) i2
        · rw [g3 b j q1 (by omega), e2', e1]
          by_cases hb : b = m
          · subst hb
            rw [xw_j (fun q => q1 ⟨rfl, q⟩), xw_b (by omega)]
          · rw [xw_b hb]
            by_cases hb1 : b = m + 1
            · subst hb1
              rw [xw_j (by omega)]
            · rw [xw_b hb1]
      refine ⟨fun q1 => ⟨fun q2 => ⟨fun q3 => ⟨fun q4 => fin p5 ?_, fun q4 => fin p4 ?_⟩, fun q3 => fin p3 ?_⟩, fun q2 => fin p2 ?_⟩, fun q1 => fin p1 ?_⟩
      · unfold zab; rw [if_neg (by omega), if_neg (by omega), if_neg (by omega), if_neg (by omega)]
      · unfold zab; rw [if_neg (by omega), if_neg (by omega), if_neg (by omega), if_pos (by omega)]
      · unfold zab; rw [if_neg (by omega), if_neg (by omega), if_pos (by omega)]
      · unfold zab; rw [if_neg (by omega), if_pos (by omega)]
      · unfold zab; rw [if_pos (by omega)]
theorem s_X12_append {F n : Nat} {p1 p2 p3 p4 p5 : Int} (hF : 22 ≤ F) (h2 : M m 2 = (n : Int)) (hn : n ≤ 700) (h0 : 680 < n → R (-1) (xw M m 0 0)) (hq : n ≤ 680 → ∀ M', M' m 2 = (n : Int) + 20 → (∀ i : Nat, i < 20 → M' (m + 1) (n + i) = zab p1 p2 p3 p4 p5 i % 256) → (∀ b j, ¬ (b = m ∧ j = 2) → ¬ (b = m + 1 ∧ n ≤ j) → M' b j = xw M m 0 0 b j) → R ((n : Int) + 20) M') : p_X12_append F m p1 p2 p3 p4 p5 M R := by
  unfold p_X12_append
  intro M1 e1
  have e2 : M1 m 2 = (n : Int) := by rw [e1, xw_j (by decide)]; exact h2
  rw [e2]
  refine ⟨⟨by omega, by omega⟩, fun h => ?_, fun h => by rw [e1]; exact h0 (by omega)⟩
  refine z_app F n 0 F p1 p2 p3 p4 p5 M1 (by omega) (by omega) (by rw [e2]; rfl) (by omega) (fun M' g1 g2 g3 => hq (by omega) M' g1 (fun i hi => g2 i (by omega) hi) (fun b j q1 q2 => by rw [g3 b j q1 (by omega), e1]))
end ZA
section ZAQ
variable {x m : Nat} {t t' : xTh} {M M' : xMe} {D : Nat → Prop} {A : yA} {H : List yA}
theorem yCs_fr2 (h : yCs x t M D A H) (hN : yN A) (hg : yHg H) (ht : t'.2 = t.2) (e : ∀ b, x + 44 ≤ b → b < x + 436 → M' b = M b) (eq : ∀ q, D q → M' (q + 1) = M (q + 1)) : yCs x t' M' D A H := by
  obtain ⟨h1, h2, h3, h4, h5⟩ := h
  exact ⟨yWd_fr hN h1 (by unfold xr; rw [ht]) (by unfold xn; rw [ht]) (fun _ h => h) (fun b b1 b2 => e b (by omega) (by omega)) (eq _ h1.2.1), by rw [e _ (by omega) (by omega)]; exact h2, by rw [e _ (by omega) (by omega)]; exact h3, yPx_t h4 (yTe_refl h4 ht), yHc_fr hg h5 (yTe_refl h4 ht) (fun _ h => h) (fun b b1 b2 => e b (by omega) b2) eq⟩
theorem q1_append {F K : Nat} {p1 p2 p3 p4 p5 : Int} (hF : 5 ≤ F) (hK : 22 ≤ K) (hj : xJn x t M) : q_append F K t x (x + 436) (x + 452) p1 p2 p3 p4 p5 M (xJn x) := by
  obtain ⟨D, A, H, hc, hd, hm, hg, hA, hb, he⟩ := yJn_c hj
  obtain ⟨b1, b2, b3, b4⟩ := hb
  obtain ⟨n, hn⟩ : ∃ n : Nat, M (x + 2) 1 = (n : Int) := ⟨(M (x + 2) 1).toNat, by omega⟩
  rw [hn] at b1 b3 b4
  unfold q_append
  refine s_X11_append hF hn (by omega) (fun h => ?_) (fun h M1 g1 g2 g3 => ?_)
  · exact s_X12_append hK b1 (by omega) (fun _ => ⟨rfl, xJn_q hj rfl (yQf_m yQf_refl)⟩) (fun q => by omega)
  · have b1' : M1 (x + 436) 2 = (n : Int) := by rw [g3 _ _ (by omega) (by omega)]; exact b1
    refine s_X12_append hK b1' (by omega) (fun q => by omega) (fun _ M2 k1 k2 k3 => ⟨rfl, ?_⟩)
    have fr : ∀ b j, b ≠ x + 436 → b ≠ x + 437 → ¬ (b = x + 2 ∧ j = 1) → ¬ (b = x + 3 ∧ n ≤ j) → M2 b j = M b j := fun b j q1 q2 q3 q4 => by
      rw [k3 _ _ (by omega) (by omega), xw_b q1, g3 _ _ q3 q4]
    have frB : ∀ b, b ≠ x + 436 → b ≠ x + 437 → b ≠ x + 2 → b ≠ x + 3 → M2 b = M b := fun b q1 q2 q3 q4 => by
      funext j; exact fr b j q1 q2 (by omega) (by omega)
    have frm : ∀ j, j ≠ 0 → j ≠ 2 → M2 (x + 436) j = M (x + 436) j := fun j q1 q2 => by
      rw [k3 _ _ (by omega) (by omega), xw_j q1, g3 _ _ (by omega) (by omega)]
    refine yJn_of (yCs_fr2 hc hA.1.1.1.1 hg rfl (fun b q1 q2 => frB b (by omega) (by omega) (by omega) (by omega)) (fun q hq => ?_)) (yDR_row hd (frB _ (by omega) (by omega) (by omega) (by omega))) (yHm_fr hg hm (frm 13 (by decide) (by decide)) (fun b q1 q2 => frB b (by omega) (by omega) (by omega) (by omega))) hg hA ?_ ?_
    · have := (hc.2.2.2.1 q hq).2.1
      exact frB _ (by omega) (by omega) (by omega) (by omega)
    · have e21 : M2 (x + 2) 1 = (n : Int) + 20 := by rw [k3 _ _ (by omega) (by omega), xw_b (by omega)]; exact g1
      refine ⟨by rw [k1, e21], by rw [e21]; omega, by rw [e21]; omega, fun j hj' => ?_⟩
      rw [e21] at hj'
      by_cases q : j < n
      · rw [fr (x + 3) j (by omega) (by omega) (by omega) (by omega), k3 (x + 437) j (by omega) (by omega), xw_b (by omega), g3 _ _ (by omega) (by omega)]
        exact b4 j (by omega)
      · obtain ⟨i, rfl⟩ : ∃ i, j = n + i := ⟨j - n, by omega⟩
        have a := g2 i (by omega)
        have c := k2 i (by omega)
        rw [k3 (x + 3) _ (by omega) (by omega), xw_b (by omega), a, c, show (zab p1 p2 p3 p4 p5 i).bmod 256 % 256 = zab p1 p2 p3 p4 p5 i % 256 from Int.bmod_emod]
        have l1 := Int.le_bmod (x := zab p1 p2 p3 p4 p5 i) (m := 256) (by decide)
        have l2 := Int.bmod_lt (x := zab p1 p2 p3 p4 p5 i) (m := 256) (by decide)
        exact ⟨by omega, rfl⟩
    · rw [frB x (by omega) (by omega) (by omega) (by omega), frm 7 (by decide) (by decide)]; exact he
end ZAQ
