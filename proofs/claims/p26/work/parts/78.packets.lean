/-! LAYER 2, load: the statements packet and coupon -/
section ZPK
variable {b : Nat → Int} {n x m F : Nat} {B M M' : xMe} {s s' : zS} {Q : xMe → Prop} {R : Int → xMe → Prop} {d f T z k v e : Int} {A A' : yA}
theorem zSn_3 : yS (ySnd A f T z) 3 = yS A 3 + 1 := by
  unfold ySnd
  rfl
theorem zSn_c {c : Int} (h : 0 ≤ yS A 3) (c0 : 0 ≤ c) (c9 : c < 9) : yS (ySnd A f T z) (81 + 9 * yS A 3 + c) = yPq f T z c := by
  show (if _ then _ else if _ then _ else _) = _
  rw [if_neg (by omega), if_pos (by omega), show 81 + 9 * yS A 3 + c - (81 + 9 * yS A 3) = c by omega]
theorem zSn_n (h1 : k ≠ 3) (h2 : ¬ (81 + 9 * yS A 3 ≤ k ∧ k < 90 + 9 * yS A 3)) : yS (ySnd A f T z) k = yS A k := by
  show (if _ then _ else if _ then _ else _) = _
  rw [if_neg h1, if_neg h2]
theorem zI_sn (h : zI A) (h6 : yS A 3 < 40) (f0 : 0 ≤ f ∧ f < yS A 2) (T0 : 0 ≤ T ∧ T ≤ 999) (z0 : 1 ≤ z ∧ z ≤ 999) : zI (ySnd A f T z) := by
  obtain ⟨h1, h2, h3, h4, h5, h6', h7, h8, h9, h10, h11⟩ := h
  obtain ⟨n1, n2, n3, n4, n5, n6⟩ := id h1
  have e1 : yS (ySnd A f T z) 3 = yS A 3 + 1 := zSn_3
  have ec : ∀ c, 0 ≤ c → c < 9 → yS (ySnd A f T z) (81 + 9 * yS A 3 + c) = yPq f T z c := fun c c0 c9 => zSn_c n5 c0 c9
  have e : ∀ k, k ≠ 3 → ¬ (81 + 9 * yS A 3 ≤ k ∧ k < 90 + 9 * yS A 3) → yS (ySnd A f T z) k = yS A k := fun k c1 c2 => zSn_n c1 c2
  have eC : yC (ySnd A f T z) = yC A := rfl
  have eP : yP (ySnd A f T z) = yP A := rfl
  have eQ : yQ (ySnd A f T z) = yQ A := rfl
  generalize ySnd A f T z = A' at *
  refine ⟨?_, fun g g0 g1 => ?_, fun g g0 g1 => ?_, fun p p0 p1 => ?_, ?_, ?_, fun f f0 f1 => ?_, fun k hk => ?_, ?_, eP.trans h10, eQ.trans h11⟩
  · unfold yN; rw [e1, e 1 (by decide) (by omega), e 2 (by decide) (by omega)]; omega
  · rw [e 1 (by decide) (by omega)] at g1
    rw [e _ (by omega) (by omega), e _ (by omega) (by omega), e _ (by omega) (by omega)]; exact h2 g g0 g1
  · rw [e 2 (by decide) (by omega)] at g1
    rw [e (33 + 8 * g) (by omega) (by omega), e (34 + 8 * g) (by omega) (by omega), e 1 (by decide) (by omega)]
    obtain ⟨a1, a2, a3, a4, a5⟩ := h3 g g0 g1
    exact ⟨a1, a2, a3, a4, fun j j0 j1 => by rw [e _ (by omega) (by omega)]; exact a5 j j0 j1⟩
  · rw [e1] at p1
    rw [e 2 (by decide) (by omega)]
    by_cases c : p = yS A 3
    · have k0 := ec 0 (by decide) (by decide)
      have k1 := ec 1 (by decide) (by decide)
      have k2 := ec 2 (by decide) (by decide)
      have k3 := ec 3 (by decide) (by decide)
      have k4 := ec 4 (by decide) (by decide)
      have k5 := ec 5 (by decide) (by decide)
      have k6 := ec 6 (by decide) (by decide)
      have k7 := ec 7 (by decide) (by decide)
      rw [c, show 81 + 9 * yS A 3 = 81 + 9 * yS A 3 + 0 by omega, k0, show 82 + 9 * yS A 3 = 81 + 9 * yS A 3 + 1 by omega, k1, show 83 + 9 * yS A 3 = 81 + 9 * yS A 3 + 2 by omega, k2, show 84 + 9 * yS A 3 = 81 + 9 * yS A 3 + 3 by omega, k3, show 85 + 9 * yS A 3 = 81 + 9 * yS A 3 + 4 by omega, k4, show 86 + 9 * yS A 3 = 81 + 9 * yS A 3 + 5 by omega, k5, show 87 + 9 * yS A 3 = 81 + 9 * yS A 3 + 6 by omega, k6, show 88 + 9 * yS A 3 = 81 + 9 * yS A 3 + 7 by omega, k7]
      exact ⟨f0.1, f0.2, T0.1, T0.2, z0.1, z0.2, rfl, rfl, rfl, rfl, rfl⟩
    · rw [e (81 + 9 * p) (by omega) (by omega), e (82 + 9 * p) (by omega) (by omega), e (83 + 9 * p) (by omega) (by omega), e (84 + 9 * p) (by omega) (by omega), e (85 + 9 * p) (by omega) (by omega), e (86 + 9 * p) (by omega) (by omega), e (87 + 9 * p) (by omega) (by omega), e (88 + 9 * p) (by omega) (by omega)]; exact h4 p p0 (by omega)
  · rw [e 9 (by decide) (by omega), e 10 (by decide) (by omega), e 11 (by decide) (by omega)]; exact h5
  · rw [e 0 (by decide) (by omega), e 5 (by decide) (by omega), e 6 (by decide) (by omega), e 7 (by decide) (by omega), e 8 (by decide) (by omega)]; exact h6'
  · rw [e (35 + 8 * f) (by omega) (by omega), e (36 + 8 * f) (by omega) (by omega), e (34 + 8 * f) (by omega) (by omega), e 2 (by decide) (by omega)]; exact h7 f f0 f1
  · rw [e _ (by omega) (by omega)]; exact h8 k hk
  · rw [eC, e 2 (by decide) (by omega)]; exact h9
theorem zR_yR {w : Nat} (hI : zI A) (h : zR w M A) : yR w (xw0 M (w + 11)) A := fun o i k hl => by
  show (if w + o = w + 11 then 0 else M (w + o) i.toNat) = _
  by_cases c : o = 11
  · rw [if_pos (by omega)]
    subst c
    obtain ⟨g, f, a1, a2, a3, a4, a5, a6⟩ := hl
    exact (hI.2.2.2.2.2.2.2.1 k (by omega)).symm
  · rw [if_neg (by omega)]; exact h o i k c hl
theorem yR_zR {w : Nat} (h : yR w (xw0 M (w + 11)) A) : zR w M A := fun o i k ho hl => by
  have a := h o i k hl
  have e : xw0 M (w + 11) (w + o) i.toNat = M (w + o) i.toNat := if_neg (by omega)
  rw [← e]; exact a
theorem zC_pk {N : Nat} (hI : zI A) (hN : yS A 3 = (N : Int)) (h6 : N < 40) (h : zR (x + 4) M A) (hq : ∀ M', zR (x + 4) M' (ySnd A f T z) → (∀ c, ¬ (x + 20 ≤ c ∧ c ≤ x + 28) → M' c = M c) → Q M') : p_X5_add (x + 20) f T z M Q := by
  have k8 : M (x + 20) 8 = (N : Int) := by rw [← hN]; exact h 16 8 3 (by decide) yl16
  refine s_X5_add k8 h6 (fun M' g8 g1 g2 g3 g4 g5 g6 g7 g9 gg gb g16 => hq M' (yR_zR ?_) (fun c hc => gb c (by omega)))
  have e0 : ∀ (M : xMe) b j, b ≠ x + 15 → xw0 M (x + 4 + 11) b j = M b j := fun M b j hb => if_neg (by omega)
  refine yR_snd (w := x + 4) (M := xw0 M (x + 4 + 11)) hI.1 (zR_yR hI h) hN ?_ ?_ ?_ ?_ ?_ ?_ ?_ ?_ ?_ (fun b j hj hb => ?_) (fun b hb => ?_) (fun j hj => ?_)
  · rw [e0 _ _ _ (by omega)]; exact g8
  · rw [e0 _ _ _ (by omega)]; exact g1
  · rw [e0 _ _ _ (by omega)]; exact g2
  · rw [e0 _ _ _ (by omega)]; exact g3
  · rw [e0 _ _ _ (by omega)]; exact g4
  · rw [e0 _ _ _ (by omega)]; exact g5
  · rw [e0 _ _ _ (by omega)]; exact g6
  · rw [e0 _ _ _ (by omega)]; exact g7
  · rw [e0 _ _ _ (by omega)]; exact g9
  · by_cases c : b = x + 15
    · subst c
      exact (if_pos rfl).trans (if_pos rfl).symm
    · rw [e0 _ _ _ c, e0 _ _ _ c]; exact gg b j hj hb
  · funext j
    by_cases c : b = x + 15
    · subst c
      exact (if_pos rfl).trans (if_pos rfl).symm
    · rw [e0 _ _ _ c, e0 _ _ _ c, gb b (by omega)]
  · rw [e0 _ _ _ (by omega), e0 _ _ _ (by omega)]; exact g16 j hj
theorem zD_pk {c N : Nat} (hI : zI A) (hN : yS A 3 = (N : Int)) (h6 : N < 40) (h : zD c M A) (g3 : M' c 3 = (N : Int) + 1) (go : ∀ j, j ≠ 3 → ¬ (81 + 9 * N ≤ j ∧ j < 90 + 9 * N) → M' c j = M c j) (gc : ∀ i : Nat, i < 9 → M' c (81 + 9 * N + i) = yPq f T z i) : zD c M' (ySnd A f T z) := by
  obtain ⟨d1, d2, d3, d4, d5⟩ := h
  refine ⟨fun k hk => ?_, ⟨by rw [go _ (by omega) (by omega)]; exact d2.1, fun i w hw => ?_⟩, by rw [go _ (by omega) (by omega)]; exact d3, fun g g0 g1 => by rw [go _ (by omega) (by omega)]; exact d4 g g0 g1, by rw [go _ (by omega) (by omega)]; exact d5.1, fun j w hw => by rw [go _ (by omega) (by omega)]; exact d5.2 j w hw⟩
  · have hk' := hk
    unfold yG at hk'
    by_cases c1 : k = 3
    · subst c1; rw [zSn_3, hN]; exact g3
    · by_cases c2 : 81 + 9 * yS A 3 ≤ k ∧ k < 90 + 9 * yS A 3
      · obtain ⟨i, hi⟩ : ∃ i : Nat, k = 81 + 9 * yS A 3 + (i : Int) := ⟨(k - (81 + 9 * yS A 3)).toNat, by omega⟩
        rw [hi, zSn_c (by omega) (by omega) (by omega), hN, show (81 + 9 * (N : Int) + (i : Int)).toNat = 81 + 9 * N + i by omega]
        exact gc i (by omega)
      · rw [zSn_n c1 c2, go _ (by omega) (by omega)]; exact d1 k hk
  · have a := d2.2 i w hw
    have l := (List.getElem?_eq_some_iff.mp hw).1
    have l2 := hI.2.2.2.2.2.2.2.2.1.1
    have l3 : i < (yC A).length := l
    rw [go _ (by omega) (by omega), go _ (by omega) (by omega), go _ (by omega) (by omega), go _ (by omega) (by omega)]; exact a
theorem zC_numE {lo hi : Int} (hn : n ≤ 700) (hF : 702 ≤ F) (hlo : lo ≤ 1) (hhi : hi ≤ 9999) (h0 : s.e ≠ 0) (h : zC b n x B s M) (hR : R (-1) M) : p_X8_takeNumber F (x + 1) lo hi M R := zC_num hn hF hlo hhi h (fun _ => hR) (fun q => absurd q h0) (fun q => absurd q h0) (fun q => absurd q h0)
end ZPK
