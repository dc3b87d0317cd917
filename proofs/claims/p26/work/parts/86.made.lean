/-! LAYER 2, load: what a good setup makes -/
def zFin (A : yA) : yA := (fun k => if 561 ≤ k ∧ k < 705 ∧ (k - 561) % 4 = 0 ∧ (k - 561) / 24 < yS A 1 ∧ ((k - 561) / 4) % 6 < yS A 2 then yS A (16 + 3 * ((k - 561) / 24)) else yS A k, yQ A, yC A, yP A, if yK A = [] then [-5] else yK A)
section ZFI
variable {b : Nat → Int} {n x m F N w : Nat} {B M M' : xMe} {s s' : zS} {Q : xMe → Prop} {R : Int → xMe → Prop} {d g f k v th z9 : Int} {A A' : yA}
theorem zFin_n (h : k < 561) : yS (zFin A) k = yS A k := by
  show (if _ then _ else _) = _
  rw [if_neg (by omega)]
theorem zFin_t (g0 : 0 ≤ g) (g1 : g < yS A 1) (f0 : 0 ≤ f) (f1 : f < yS A 2) (n1 : yS A 1 ≤ 6) (n2 : yS A 2 ≤ 6) : yS (zFin A) (561 + 4 * (6 * g + f)) = yS A (16 + 3 * g) := by
  show (if _ then _ else _) = _
  have e1 : (561 + 4 * (6 * g + f) - 561) / 24 = g := by omega
  have e2 : ((561 + 4 * (6 * g + f) - 561) / 4) % 6 = f := by omega
  rw [e1, e2, if_pos (by omega)]
theorem ySp2_z {h : Int → Int} : ∀ n : Nat, (∀ p : Int, 0 ≤ p → p < n → h p = 0) → ySp2 h n = 0
  | 0, _ => rfl
  | n + 1, hp => by
    unfold ySp2
    rw [ySp2_z n (fun p p0 p1 => hp p p0 (by omega)), hp n (by omega) (by omega)]
    rfl
theorem zK_ok (h : (s.u.2.2 = 0 ∧ yK s.A = []) ∨ (s.u.2.2 = 1 ∧ zKd (yK s.A) 1)) (hl : (yK s.A).length ≤ 700) : yWf (yK (zFin s.A)) 0 ∧ (yK (zFin s.A)).length ≤ 1200 := by
  show yWf (if yK s.A = [] then [-5] else yK s.A) 0 ∧ (if yK s.A = [] then [-5] else yK s.A).length ≤ 1200
  rcases h with ⟨a, c⟩ | ⟨a, c⟩
  · rw [if_pos c]
    refine ⟨?_, by decide⟩
    unfold yWf
    rw [if_neg (by decide)]
    refine ⟨by decide, by decide, by decide, ?_⟩
    unfold yWf
    rfl
  · by_cases e : yK s.A = []
    · have := c.2
      rw [e] at this
      exact absurd this (by decide)
    · rw [if_neg e]
      have h1 := c.1 [] rfl
      rw [List.append_nil] at h1
      exact ⟨h1, by omega⟩
theorem zFin_g (h : zI s.A) (hK : (s.u.2.2 = 0 ∧ yK s.A = []) ∨ (s.u.2.2 = 1 ∧ zKd (yK s.A) 1)) (hl : (yK s.A).length ≤ 700) : yG0 (zFin s.A) := by
  obtain ⟨k1, k2⟩ := zK_ok hK hl
  have e : ∀ k, k < 561 → yS (zFin s.A) k = yS s.A k := fun k hk => zFin_n hk
  have et : ∀ g f, 0 ≤ g → g < yS s.A 1 → 0 ≤ f → f < yS s.A 2 → yS (zFin s.A) (561 + 4 * (6 * g + f)) = yS s.A (16 + 3 * g) := fun g f g0 g1 f0 f1 => zFin_t g0 g1 f0 f1 h.1.2.1 h.1.2.2.2.1
  have eC : yC (zFin s.A) = yC s.A := rfl
  have eP : yP (zFin s.A) = [] := h.2.2.2.2.2.2.2.2.2.1
  have eQ : yQ (zFin s.A) = fun _ => [] := h.2.2.2.2.2.2.2.2.2.2
  generalize zFin s.A = A' at *
  generalize s.A = A at *
  obtain ⟨h1, h2, h3, h4, h5, h6', h7, h8, h9, h10, h11⟩ := h
  obtain ⟨n1, n2, n3, n4, n5, n6⟩ := id h1
  obtain ⟨z0, z5, z6, z7, z8⟩ := h6'
  have e0 : yS A' 0 = 0 := (e 0 (by omega)).trans z0
  have e3 := e 3 (by omega)
  have tot : yTot A' = 0 := by
    unfold yTot
    rw [e3]
    exact ySp2_z _ (fun p p0 p1 => by rw [e _ (by omega)]; exact (h4 p p0 (by omega)).2.2.2.2.2.2.2.1)
  refine ⟨⟨⟨⟨?_, ?_, ?_, ?_, ?_, k1, k2⟩, ?_, ?_, ?_, ?_, ?_, ?_, ?_⟩, ?_⟩, by omega, ?_, ?_⟩
  · unfold yN; rw [e 1 (by omega), e 2 (by omega), e3]; exact h1
  · intro g g0 g1
    rw [e 1 (by omega)] at g1
    rw [e _ (by omega), e _ (by omega), e _ (by omega)]; exact h2 g g0 g1
  · intro g g0 g1
    rw [e 2 (by omega)] at g1
    obtain ⟨a1, a2, a3, a4, a5⟩ := h3 g g0 g1
    rw [e (33 + 8 * g) (by omega), e (34 + 8 * g) (by omega), e 1 (by omega)]
    exact ⟨a1, a2, a3, a4, fun j j0 j1 => by rw [e _ (by omega)]; exact a5 j j0 j1⟩
  · intro p p0 p1
    rw [e3] at p1
    obtain ⟨a1, a2, a3, a4, a5, a6, -⟩ := h4 p p0 p1
    rw [e (81 + 9 * p) (by omega), e (82 + 9 * p) (by omega), e (83 + 9 * p) (by omega), e 2 (by omega)]
    exact ⟨a1, a2, a3, by omega, a5, a6⟩
  · rw [e 9 (by omega), e 10 (by omega), e 11 (by omega)]; exact h5
  · intro g f g0 g1 f0 f1
    rw [e 1 (by omega)] at g1
    rw [e 2 (by omega)] at f1
    rw [et g f g0 g1 f0 f1]
    have := h2 g g0 g1
    omega
  · intro p p0 p1
    rw [e3] at p1
    obtain ⟨a1, a2, a3, a4, a5, a6, a7, a8, a9, a10, a11⟩ := h4 p p0 p1
    have fl := h3 _ a1 a2
    rw [e (84 + 9 * p) (by omega), e (85 + 9 * p) (by omega), e (86 + 9 * p) (by omega), e (87 + 9 * p) (by omega), e (88 + 9 * p) (by omega), e (81 + 9 * p) (by omega), e (33 + 8 * yS A (81 + 9 * p)) (by omega), e0, a7, a8, a9, a10, a11]
    omega
  · unfold yI4
    rw [eQ]
    exact ⟨⟨fun s => ⟨List.nodup_nil, Nat.zero_le _, fun p hp => by cases hp⟩, fun s s' p hp => by cases hp⟩, fun s p hp => by cases hp⟩
  · unfold yI5
    rw [eC, e 2 (by omega), e0]
    exact ⟨h9.1, fun c hc => by
      obtain ⟨a1, a2, a3, a4, a5, a6, a7⟩ := h9.2 c hc
      exact ⟨a1, a2, a3, a4, by omega, by omega, by omega, by omega⟩⟩
  · unfold yI6 yPv
    rw [eP]
    exact ⟨Nat.zero_le _, fun v hv => by cases hv⟩
  · unfold yI7
    rw [tot, e0, e 8 (by omega), e 7 (by omega), e 2 (by omega), z7, z8]
    refine ⟨fun f f0 f1 => ?_, by omega⟩
    rw [e _ (by omega), (h7 f f0 (by omega)).1]; omega
  · unfold yI8
    rw [e 5 (by omega), e 6 (by omega), e3, z5, z6, e 2 (by omega)]
    refine ⟨(ySp2_z _ (fun p p0 p1 => ?_)).symm, (ySp2_z _ (fun p p0 p1 => ?_)).symm, fun f f0 f1 => ?_⟩
    · rw [e _ (by omega), (h4 p p0 (by omega)).2.2.2.2.2.2.1]; rfl
    · rw [e _ (by omega), (h4 p p0 (by omega)).2.2.2.2.2.2.1]; rfl
    · rw [e _ (by omega), (h7 f f0 (by omega)).2.1]
      exact (ySp2_z _ (fun p p0 p1 => by rw [e (84 + 9 * p) (by omega), (h4 p p0 (by omega)).2.2.2.2.2.2.1, if_neg (fun q => absurd q.2 (by decide))])).symm
  · rw [e0, e 7 (by omega), z7]; omega
  · intro p p0 p1
    rw [e3] at p1
    obtain ⟨a1, a2, a3, a4, a5, a6, a7, a8, a9, a10, a11⟩ := h4 p p0 p1
    rw [e _ (by omega), e _ (by omega), a7, a10]
    exact ⟨fun q => by omega, fun q => absurd rfl q⟩
  · intro c hc
    rw [eC] at hc
    rw [e0]
    have := (h9.2 c hc).2.2.2.2.2.1
    omega
theorem yR_fin (hI : zI A) (h : zR w M A) (ht : ∀ g f : Int, 0 ≤ g → g < yS A 1 → 0 ≤ f → f < yS A 2 → M (w + 11) (g * 6 + f).toNat = yS A (16 + 3 * g)) : yR w M (zFin A) := fun o i k hl => by
  obtain ⟨n1, n2, n3, n4, n5, n6⟩ := hI.1
  have hl' : yL A o i k := yL_S (zFin_n (by omega)) (zFin_n (by omega)) (zFin_n (by omega)) (fun f f0 f1 => zFin_n (by omega)) hl
  by_cases c : o = 11
  · subst c
    obtain ⟨g, f, a1, a2, a3, a4, a5, a6⟩ := hl'
    rw [a6, a5, zFin_t a1 a2 a3 a4 n2 n4]; exact ht g f a1 a2 a3 a4
  · have kin := yL_in hI.1 hl'
    have k5 : k < 561 := by
      by_cases q : k < 441
      · omega
      · exfalso
        apply c
        rw [kin.1]
        unfold yDo
        rw [if_neg (by omega), if_neg (by omega), if_neg (by omega), if_neg (by omega)]
    rw [zFin_n k5]; exact h o i k c hl'
/-! the class's lines -/
theorem zC_l10 {K : Int → xMe → Prop} (hg : N < 6) : ∀ (k i : Nat) (M : xMe), 6 < k + i → i ≤ 6 → (∀ M', (∀ c, ¬ (w + 11 ≤ c ∧ c ≤ w + 14) → M' c = M c) → (∀ j : Nat, i ≤ j → j < 6 → M' (w + 12) (6 * N + j) = 0 ∧ ((N : Int) < M (w + 1) 3 → M' (w + 11) (6 * N + j) = M (w + 3) N)) → (∀ j : Nat, ¬ (6 * N + i ≤ j ∧ j < 6 * N + 6) → M' (w + 12) j = M (w + 12) j ∧ M' (w + 11) j = M (w + 11) j) → K (N : Int) M') → p_X10_clearLines_10 F w Q K k (N : Int) (i : Int) M
  | 0, i, M, h, _, _ => by omega
  | k + 1, i, M, h, hi, hq => by
    unfold p_X10_clearLines_10
    have step : ∀ v : Int, ((N : Int) < M (w + 1) 3 → v = M (w + 3) N) → i < 6 → p_X4_clear (w + 10) ((N : Int) * 6 + (i : Int)) v M (fun M50 => (xR ((i : Int) + 1)) ∧ p_X10_clearLines_10 F w Q K k (N : Int) ((i : Int) + 1) M50) := fun v hv hi6 => by
      unfold p_X4_clear
      rw [show ((N : Int) * 6 + (i : Int)).toNat = 6 * N + i by omega]
      refine ⟨fun q => by omega, fun _ => ⟨fun q => by omega, fun _ => ⟨⟨by omega, by omega⟩, fun M1 e1 => ⟨⟨by omega, by omega⟩, fun M2 e2 => ⟨⟨by omega, by omega⟩, fun M3 e3 => ⟨⟨by omega, by omega⟩, fun M4 e4 => ⟨⟨by omega, by omega⟩, ?_⟩⟩⟩⟩⟩⟩⟩
      have fB : ∀ c, ¬ (w + 11 ≤ c ∧ c ≤ w + 14) → M4 c = M c := fun c hc => by rw [e4, xw_B (by omega), e3, xw_B (by omega), e2, xw_B (by omega), e1, xw_B (by omega)]
      have r12 : ∀ j, M4 (w + 12) j = xw M (w + 12) (6 * N + i) 0 (w + 12) j := fun j => by
        rw [e4, xw_b (by omega), e3, xw_b (by omega), e2]
        by_cases c : j = 6 * N + i
        · rw [c, show w + 10 + 2 = w + 12 by omega, xw_s, xw_s]
        · rw [xw_j c, xw_j c, e1, xw_b (by omega)]
      have r11 : ∀ j, M4 (w + 11) j = xw M (w + 11) (6 * N + i) v (w + 11) j := fun j => by
        rw [e4, xw_b (by omega), e3, xw_b (by omega), e2, xw_b (by omega), e1]
      refine zC_l10 hg k (i + 1) M4 (by omega) (by omega) (fun M' g1 g2 g3 => hq M' (fun c hc => (g1 c hc).trans (fB c hc)) (fun j j1 j2 => ?_) (fun j hj => ?_))
      · by_cases c : j = i
        · subst c
          obtain ⟨a1, a2⟩ := g3 (6 * N + j) (by omega)
          rw [a1, a2, r12, r11, xw_s, xw_s]
          exact ⟨rfl, hv⟩
        · have a := g2 j (by omega) j2
          rw [fB (w + 1) (by omega), fB (w + 3) (by omega)] at a
          exact a
      · obtain ⟨a1, a2⟩ := g3 j (by omega)
        rw [a1, a2, r12, r11, xw_j (by omega), xw_j (by omega)]
        exact ⟨rfl, rfl⟩
    refine ⟨fun q => ?_, fun q => ⟨⟨by omega, by omega⟩, ⟨by omega, by omega⟩, fun c => step 0 (fun r => by omega) (by omega), fun c => ⟨⟨by omega, by omega⟩, ?_⟩⟩⟩
    · exact hq M (fun _ _ => rfl) (fun j j1 j2 => by omega) (fun _ _ => ⟨rfl, rfl⟩)
    · rw [show ((N : Nat) : Int).toNat = N by omega]
      exact step _ (fun _ => rfl) (by omega)
theorem zC_l2 : ∀ (k N : Nat) (M : xMe), 6 < k + N → N ≤ 6 → 10 ≤ F → (∀ M', (∀ c, ¬ (w + 11 ≤ c ∧ c ≤ w + 14) → M' c = M c) → (∀ i j : Nat, N ≤ i → i < 6 → j < 6 → M' (w + 12) (6 * i + j) = 0 ∧ ((i : Int) < M (w + 1) 3 → M' (w + 11) (6 * i + j) = M (w + 3) i)) → (∀ j : Nat, j < 6 * N → M' (w + 12) j = M (w + 12) j ∧ M' (w + 11) j = M (w + 11) j) → Q M') → p_X10_clearLines_2 F w Q k (N : Int) M
  | 0, N, M, h, _, _, _ => by omega
  | k + 1, N, M, h, hN, hF, hq => by
    unfold p_X10_clearLines_2
    refine ⟨fun q => ?_, fun q => ?_⟩
    · exact hq M (fun _ _ => rfl) (fun i j i1 i2 _ => by omega) (fun _ _ => ⟨rfl, rfl⟩)
    · refine zC_l10 (w := w) (N := N) (by omega) F 0 M (by omega) (by omega) (fun M1 a1 a2 a3 => ⟨⟨by omega, by omega⟩, ?_⟩)
      refine zC_l2 k (N + 1) M1 (by omega) (by omega) hF (fun M' g1 g2 g3 => hq M' (fun c hc => (g1 c hc).trans (a1 c hc)) (fun i j i1 i2 j1 => ?_) (fun j hj => ?_))
      · by_cases c : i = N
        · subst c
          obtain ⟨b1, b2⟩ := g3 (6 * i + j) (by omega)
          rw [b1, b2]
          exact a2 j (by omega) j1
        · have a := g2 i j (by omega) i2 j1
          rw [a1 (w + 1) (by omega), a1 (w + 3) (by omega)] at a
          exact a
      · obtain ⟨b1, b2⟩ := g3 j (by omega)
        obtain ⟨c1, c2⟩ := a3 j (by omega)
        exact ⟨b1.trans c1, b2.trans c2⟩
/-! the model's tokens -/
theorem zD_fin {c : Nat} (hI : zI A) (h : zD c M A) (ht : ∀ i j : Nat, (i : Int) < yS A 1 → (j : Int) < yS A 2 → M' c (561 + 4 * (6 * i + j)) = M c (16 + 3 * i)) (ho : ∀ a : Nat, (∀ i j : Nat, (i : Int) < yS A 1 → (j : Int) < yS A 2 → a ≠ 561 + 4 * (6 * i + j)) → M' c a = M c a) (hK : (yEc (yK A)).length ≤ 1200) : yDR c M' (zFin A) := by
  obtain ⟨n1, n2, n3, n4, n5, n6⟩ := hI.1
  obtain ⟨d1, d2, d3, d4, d5⟩ := h
  have lo : ∀ a : Nat, a < 561 ∨ 705 ≤ a ∨ (a - 561) % 4 ≠ 0 → M' c a = M c a := fun a ha => ho a (fun i j i1 j1 => by omega)
  refine ⟨fun k hk => ?_, ⟨?_, fun i v hv => ?_⟩, ?_, fun s s0 s1 => ?_, ?_⟩
  · have hk' := hk
    unfold yG at hk'
    by_cases c5 : k < 561
    · rw [zFin_n c5, lo _ (by omega)]; exact d1 k hk
    · by_cases ct : (k - 561) / 24 < yS A 1 ∧ ((k - 561) / 4) % 6 < yS A 2
      · have e := zFin_t (A := A) (g := (k - 561) / 24) (f := ((k - 561) / 4) % 6) (by omega) ct.1 (by omega) ct.2 n2 n4
        rw [show 561 + 4 * (6 * ((k - 561) / 24) + ((k - 561) / 4) % 6) = k by omega] at e
        rw [e, show k.toNat = 561 + 4 * (6 * ((k - 561) / 24).toNat + (((k - 561) / 4) % 6).toNat) by omega, ht _ _ (by omega) (by omega)]
        have a := d1 (16 + 3 * ((k - 561) / 24)) (by unfold yG; omega)
        rw [← a, show (16 + 3 * ((k - 561) / 24)).toNat = 16 + 3 * ((k - 561) / 24).toNat by omega]
      · have e : yS (zFin A) k = yS A k := by
          show (if _ then _ else _) = _
          rw [if_neg (fun q => ct q.2.2.2)]
        rw [e, ho _ (fun i j i1 j1 q => ct (by omega))]; exact d1 k hk
  · rw [lo _ (by omega)]; exact d2.1
  · have l := (List.getElem?_eq_some_iff.mp hv).1
    have l2 := hI.2.2.2.2.2.2.2.2.1.1
    have l3 : i < (yC A).length := l
    have a := d2.2 i v hv
    rw [lo _ (by omega), lo _ (by omega), lo _ (by omega), lo _ (by omega)]; exact a
  · rw [show yP (zFin A) = [] from hI.2.2.2.2.2.2.2.2.2.1]
    exact ⟨by rw [lo _ (by omega)]; exact d3, fun i v hv => by cases hv⟩
  · rw [show yQ (zFin A) = fun _ => [] from hI.2.2.2.2.2.2.2.2.2.2]
    refine ⟨?_, fun p hp => (by cases hp), fun p hp => (by cases hp), trivial⟩
    show M' c (562 + 4 * s).toNat = 0
    rw [lo _ (by omega)]; exact d4 s s0 s1
  · show yPr c M' (if yK A = [] then [-5] else yK A)
    by_cases q : yK A = []
    · rw [if_pos q]
      refine Or.inl ⟨rfl, ?_⟩
      rw [lo _ (by omega), d5.1, q]; rfl
    · rw [if_neg q]
      exact Or.inr ⟨by rw [lo _ (by omega)]; exact d5.1, hK, fun j v hv => by rw [lo _ (by omega)]; exact d5.2 j v hv⟩
end ZFI
