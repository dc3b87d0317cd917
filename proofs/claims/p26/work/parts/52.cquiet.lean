/-! THE CLASS'S LEAPS -/
theorem s_X2_ticksBefore {w : Nat} {g tok wanted : Int} {M : xMe} {A : yA} {Q : Int → xMe → Prop} (hI1 : yI1 A) (h : yR w M A) (g0 : 0 ≤ g) (g1 : g < yS A 1) (ht : 0 ≤ tok ∧ tok ≤ 999) (hw : -400000 ≤ wanted ∧ wanted ≤ 999) (hq : ∀ r, 0 ≤ r → r ≤ 1000000 → (∀ j, 0 ≤ j → j < r → min (yS A (16 + 3 * g)) (tok + yS A (15 + 3 * g) * (j + 1)) < wanted) → Q r M) : p_X2_ticksBefore (w + 1) g tok wanted M Q := by
  obtain ⟨n1, n2, n3, n4, n5, n6⟩ := hI1.1
  have hg := hI1.2.1 g g0 g1
  unfold p_X2_ticksBefore
  rw [show w + 1 + 2 = w + 3 from rfl, show w + 1 + 1 = w + 2 from rfl, yr1 h, yr3 h g0 g1, yr2 h g0 g1]
  refine ⟨fun q => absurd q (by omega), fun _ => ⟨fun q => absurd q (by omega), fun _ => ⟨⟨by omega, by omega⟩, fun hle => ⟨⟨by omega, by omega⟩, ⟨by omega, by omega⟩, fun hlt => ⟨⟨by omega, by omega⟩, fun h0 => hq _ (by decide) (by decide) (fun j j0 _ => ?_), fun h0 => ?_⟩, fun hge => hq _ (by decide) (by decide) (fun j j0 j1 => by omega)⟩, fun hgt => hq _ (by decide) (by decide) (fun j j0 _ => by omega)⟩⟩⟩
  · have : yS A (15 + 3 * g) = 0 := by omega
    rw [this]; omega
  · have hx : 0 ≤ wanted - tok - 1 := by omega
    have ed : Int.tdiv (wanted - tok - 1) (yS A (15 + 3 * g)) = (wanted - tok - 1) / yS A (15 + 3 * g) := Int.tdiv_eq_ediv_of_nonneg hx
    have d0 : 0 ≤ (wanted - tok - 1) / yS A (15 + 3 * g) := Int.ediv_nonneg hx (by omega)
    have d1 : (wanted - tok - 1) / yS A (15 + 3 * g) ≤ wanted - tok - 1 := Int.ediv_le_self _ hx
    rw [ed]
    refine ⟨⟨by omega, by omega⟩, ⟨by omega, by omega⟩, ⟨by omega, by omega⟩, ⟨by omega, ⟨by omega, by omega⟩⟩, hq _ d0 (by omega) (fun j j0 j1 => ?_)⟩
    have h9 : (j + 1) * yS A (15 + 3 * g) ≤ wanted - tok - 1 := (Int.le_ediv_iff_mul_le h0).mp (by omega)
    rw [Int.mul_comm] at h9
    omega
theorem s_X10_ticksBeforePassage {F w : Nat} {g f : Int} {M : xMe} {A : yA} {Q : Int → xMe → Prop} (hF : 50 ≤ F) (h : yCR w M A) (hI : yI A) (g0 : 0 ≤ g) (g1 : g < yS A 1) (f0 : 0 ≤ f) (f1 : f < yS A 2) (hq : ∀ r, -30000 ≤ r → (∀ p l, yQ A (6 * g + f) = p :: l → ∀ j, 0 ≤ j → j < r → yTok A g f (j + 1) < yS A (83 + 9 * p) ∧ (yS A (34 + 8 * f) ≤ yS A 0 + j - yS A (88 + 9 * p) → yTok A g f (j + 1) + ySum f (yC A) < yS A (83 + 9 * p))) → Q r M) : p_X10_ticksBeforePassage F w g f M Q := by
  obtain ⟨h1, h2, h3, h4, h5, h6, h7, h8⟩ := id hI
  obtain ⟨n1, n2, n3, n4, n5, n6⟩ := id h1.1
  unfold p_X10_ticksBeforePassage
  refine ⟨⟨by omega, by omega⟩, ⟨by omega, by omega⟩, fun z ez => ?_⟩
  have ez : z = 6 * g + f := by omega
  subst ez
  refine s_X4_firstIn h4.1 h.2.2.2 ⟨by omega, by omega⟩ ?_
  cases hl : yQ A (6 * g + f) with
  | nil => exact ⟨fun q => absurd q (by decide), fun _ => hq _ (by decide) (fun p l hp => by rw [hl] at hp; cases hp)⟩
  | cons p l =>
    obtain ⟨a, b, hs, hfl, hgt⟩ := yHead h1 h3 h4 g0 g1 f0 f1 hl
    have hp3 := h3 p a b
    have hpk := h1.2.2.2.1 p a b
    have hfw := h1.2.2.1 f f0 f1
    have htk := h2 g f g0 g1 f0 f1
    have hsb := ySum_b (f := f) (yI5_v h5)
    have ht0 := h7.2.2.2.2.2
    rw [List.headD_cons]
    refine ⟨fun _ => ⟨⟨by omega, by omega⟩, fun zs ezs => ⟨⟨by omega, by omega⟩, fun zt ezt => ?_⟩⟩, fun q => absurd q (by omega)⟩
    rw [yr19 h.1 a b] at ezs
    rw [show 6 * g + f = g * 6 + f by omega, yr11 h.1 g0 g1 f0 f1] at ezt
    subst ezs
    subst ezt
    refine s_X2_ticksBefore h1 h.1 g0 g1 htk ⟨by omega, by omega⟩ (fun r1 r10 r11 r12 => s_X0_sumOf h.2.1 (yI5_v h5) (by omega) ⟨⟨by omega, by omega⟩, s_X2_ticksBefore h1 h.1 g0 g1 htk ⟨by omega, by omega⟩ (fun r2 r20 r21 r22 => ?_)⟩)
    rw [yr22 h.1 a b, yr8 h.1 f0 f1, yr0_7 h.1]
    refine ⟨⟨by omega, by omega⟩, ⟨by omega, by omega⟩, ⟨by omega, by omega⟩, ⟨by omega, by omega⟩, fun z3 ez3 => hq _ (by omega) (fun p' l' hp j j0 j1 => ?_)⟩
    rw [hl] at hp
    cases hp
    have q1 := r12 j j0 (by omega)
    refine ⟨q1, fun hpay => ?_⟩
    have q2 := r22 j j0 (by omega)
    unfold yTok
    omega
/-- what quietTicks knows of packets, coupons, gates, each up to a place -/
theorem s_X10_quietTicks {F w : Nat} {most : Int} {M : xMe} {A : yA} {Q : Int → xMe → Prop} (hF : 200 ≤ F) (h : yCR w M A) (hI : yI A) (hm : 0 < most ∧ most ≤ 600) (hq : ∀ r, 0 ≤ r → r ≤ most → (r = 0 ∨ yQt r A) → Q r M) : p_X10_quietTicks F w most M Q := by
  obtain ⟨h1, h2, h3, h4, h5, h6, h7, h8⟩ := id hI
  obtain ⟨n1, n2, n3, n4, n5, n6⟩ := id h1.1
  have ht0 := h7.2.2.2.2.2
  have hend : ∀ x, x ≤ most → (∀ p, 0 ≤ p → p < yS A 3 → yS A (84 + 9 * p) ≠ 2 ∧ (yS A (84 + 9 * p) = 0 → x ≤ yS A (82 + 9 * p) - yS A 0)) → (∀ c ∈ yC A, x ≤ c.2.2.1 - yS A 0) → (0 < x → ∀ g f p l, 0 ≤ g → g < yS A 1 → 0 ≤ f → f < yS A 2 → yQ A (6 * g + f) = p :: l → ∀ j, 0 ≤ j → j < x → yTok A g f (j + 1) < yS A (83 + 9 * p) ∧ (yS A (34 + 8 * f) ≤ yS A 0 + j - yS A (88 + 9 * p) → yTok A g f (j + 1) + ySum f (yC A) < yS A (83 + 9 * p))) → Q (max 0 x) M := fun x hx q1 q2 q3 => by
    by_cases e : 0 < x
    · rw [show max 0 x = x by omega]
      exact hq x (by omega) hx (Or.inr ⟨q1, q2, q3 e⟩)
    · rw [show max 0 x = 0 by omega]
      exact hq 0 (by omega) (by omega) (Or.inl rfl)
  -- the gates
  have l125 : ∀ (K : Int → Int → xMe → Prop) (g : Int), 0 ≤ g → g < yS A 1 → ∀ (n k : Nat) (f x : Int), f + n = yS A 2 → n < k → 0 ≤ f → -30000 ≤ x → x ≤ 600 → (∀ y, y ≤ x → -30000 ≤ y → (∀ f' p l, f ≤ f' → f' < yS A 2 → yQ A (6 * g + f') = p :: l → ∀ j, 0 ≤ j → j < y → yTok A g f' (j + 1) < yS A (83 + 9 * p) ∧ (yS A (34 + 8 * f') ≤ yS A 0 + j - yS A (88 + 9 * p) → yTok A g f' (j + 1) + ySum f' (yC A) < yS A (83 + 9 * p))) → K y g M) → p_X10_quietTicks_125 F w Q K k x g f M := by
    intro K g g0 g1 n
    induction n with
    | zero =>
      intro k f x hf hk f0 x0 x1 hK
      obtain ⟨k, rfl⟩ : ∃ k', k = k' + 1 := ⟨k - 1, by omega⟩
      unfold p_X10_quietTicks_125
      rw [yr5 h.1]
      exact ⟨fun _ => hK x (Int.le_refl _) x0 (fun f' p l q1 q2 => by omega), fun q => absurd q (by omega)⟩
    | succ n ih =>
      intro k f x hf hk f0 x0 x1 hK
      obtain ⟨k, rfl⟩ : ∃ k', k = k' + 1 := ⟨k - 1, by omega⟩
      unfold p_X10_quietTicks_125
      rw [yr5 h.1]
      refine ⟨fun q => absurd q (by omega), fun _ => s_X10_ticksBeforePassage (by omega) h hI g0 g1 f0 (by omega) (fun r r0 r1 z ez => ⟨⟨by omega, by omega⟩, ih k (f + 1) z (by omega) (by omega) (by omega) (by omega) (by omega) (fun y y1 y2 y3 => hK y (by omega) y2 (fun f' p l q1 q2 hl j j0 j1 => ?_))⟩)⟩
      by_cases e : f' = f
      · subst e; exact r1 p l hl j j0 (by omega)
      · exact y3 f' p l (by omega) q2 hl j j0 j1
  have l107 : (∀ p, 0 ≤ p → p < yS A 3 → yS A (84 + 9 * p) ≠ 2) → ∀ (n k : Nat) (g x : Int), g + n = yS A 1 → n < k → 0 ≤ g → -30000 ≤ x → x ≤ most → (∀ p, 0 ≤ p → p < yS A 3 → (yS A (84 + 9 * p) = 0 → x ≤ yS A (82 + 9 * p) - yS A 0)) → (∀ c ∈ yC A, x ≤ c.2.2.1 - yS A 0) → (∀ g' f p l, 0 ≤ g' → g' < g → 0 ≤ f → f < yS A 2 → yQ A (6 * g' + f) = p :: l → ∀ j, 0 ≤ j → j < x → yTok A g' f (j + 1) < yS A (83 + 9 * p) ∧ (yS A (34 + 8 * f) ≤ yS A 0 + j - yS A (88 + 9 * p) → yTok A g' f (j + 1) + ySum f (yC A) < yS A (83 + 9 * p))) → p_X10_quietTicks_107 F w Q k x g M := by
    intro hs2 n
    induction n with
    | zero =>
      intro k g x hg hk g0 x0 x1 q1 q2 q3
      obtain ⟨k, rfl⟩ : ∃ k', k = k' + 1 := ⟨k - 1, by omega⟩
      unfold p_X10_quietTicks_107
      rw [yr1 h.1]
      exact ⟨fun _ => hend x x1 (fun p a b => ⟨hs2 p a b, q1 p a b⟩) q2 (fun _ g' f p l a b c d => q3 g' f p l a (by omega) c d), fun q => absurd q (by omega)⟩
    | succ n ih =>
      intro k g x hg hk g0 x0 x1 q1 q2 q3
      obtain ⟨k, rfl⟩ : ∃ k', k = k' + 1 := ⟨k - 1, by omega⟩
      unfold p_X10_quietTicks_107
      rw [yr1 h.1]
      refine ⟨fun q => absurd q (by omega), fun _ => ⟨fun hx0 => hend x x1 (fun p a b => ⟨hs2 p a b, q1 p a b⟩) q2 (fun q => absurd q (by omega)), fun hx0 => l125 _ g g0 (by omega) (yS A 2).toNat F 0 x (by omega) (by omega) (by decide) x0 (by omega) (fun y y1 y2 y3 => ⟨⟨by omega, by omega⟩, ih k (g + 1) y (by omega) (by omega) (by omega) y2 (by omega) (fun p a b q => by have := q1 p a b q; omega) (fun c hc => by have := q2 c hc; omega) (fun g' f p l a b c d hl j j0 j1 => ?_)⟩)⟩⟩
      by_cases e : g' = g
      · subst e; exact y3 f p l c d hl j j0 j1
      · exact q3 g' f p l a (by omega) c d hl j j0 (by omega)
  have l69 : (∀ p, 0 ≤ p → p < yS A 3 → yS A (84 + 9 * p) ≠ 2) → ∀ (L2 L1 : List yCo) (k : Nat) (x : Int), yC A = L1 ++ L2 → L2.length < k → -30000 ≤ x → x ≤ most → (∀ p, 0 ≤ p → p < yS A 3 → (yS A (84 + 9 * p) = 0 → x ≤ yS A (82 + 9 * p) - yS A 0)) → (∀ c ∈ L1, x ≤ c.2.2.1 - yS A 0) → p_X10_quietTicks_69 F w Q (fun y2 M => p_X10_quietTicks_107 F w Q F y2 0 M) k x (L1.length : Int) M := by
    intro hs2 L2
    induction L2 with
    | nil =>
      intro L1 k x hC hk x0 x1 q1 q2
      obtain ⟨k, rfl⟩ : ∃ k', k = k' + 1 := ⟨k - 1, by simp at hk; omega⟩
      unfold p_X10_quietTicks_69
      rw [h.2.1.1, hC, List.append_nil]
      refine ⟨fun _ => l107 hs2 (yS A 1).toNat F 0 x (by omega) (by omega) (by decide) x0 x1 q1 (fun c hc => q2 c (by rw [hC, List.append_nil] at hc; exact hc)) (fun g' f p l a b => by omega), fun q => absurd q (by omega)⟩
    | cons c L2 ih =>
      intro L1 k x hC hk x0 x1 q1 q2
      obtain ⟨k, rfl⟩ : ∃ k', k = k' + 1 := ⟨k - 1, by omega⟩
      have hcc : (yC A)[L1.length]? = some c := by rw [hC]; exact yat
      obtain ⟨-, -, e3, -⟩ := h.2.1.2 L1.length c hcc
      have hlen : (yC A).length = L1.length + (L2.length + 1) := by rw [hC]; simp
      have hc5 := h5.2 c (by rw [hC]; simp)
      have h30 := h5.1
      unfold p_X10_quietTicks_69
      rw [h.2.1.1, show (L1.length : Int).toNat = L1.length from Int.toNat_natCast _, show w + 28 = w + 25 + 3 from rfl, e3, yr0_7 h.1]
      refine ⟨fun q => absurd q (by omega), fun _ => ⟨⟨by omega, by omega⟩, ⟨by omega, by omega⟩, fun z ez => ⟨⟨by omega, by omega⟩, ?_⟩⟩⟩
      have ih := ih (L1 ++ [c]) k z (by rw [hC]; simp) (by simp at hk; omega) (by omega) (by omega) (fun p a b q => by have := q1 p a b q; omega) (fun d hd => by
        rcases List.mem_append.mp hd with hd | hd
        · have := q2 d hd; omega
        · simp at hd; subst hd; omega)
      rw [show (((L1 ++ [c]).length : Nat) : Int) = (L1.length : Int) + 1 by simp] at ih
      exact ih
  have l4 : ∀ (n k : Nat) (p x : Int), p + n = yS A 3 → n < k → 0 ≤ p → -30000 ≤ x → x ≤ most → (∀ r, 0 ≤ r → r < p → yS A (84 + 9 * r) ≠ 2 ∧ (yS A (84 + 9 * r) = 0 → x ≤ yS A (82 + 9 * r) - yS A 0)) → p_X10_quietTicks_4 F w Q (fun y2 M => p_X10_quietTicks_69 F w Q (fun y2 M => p_X10_quietTicks_107 F w Q F y2 0 M) F y2 0 M) k x p M := by
    intro n
    induction n with
    | zero =>
      intro k p x hp hk p0 x0 x1 q1
      obtain ⟨k, rfl⟩ : ∃ k', k = k' + 1 := ⟨k - 1, by omega⟩
      unfold p_X10_quietTicks_4
      rw [yr16 h.1]
      exact ⟨fun _ => l69 (fun r a b => (q1 r a (by omega)).1) (yC A) [] F x rfl (by have := h5.1; omega) x0 x1 (fun r a b => (q1 r a (by omega)).2) (fun c hc => by cases hc), fun q => absurd q (by omega)⟩
    | succ n ih =>
      intro k p x hp hk p0 x0 x1 q1
      obtain ⟨k, rfl⟩ : ∃ k', k = k' + 1 := ⟨k - 1, by omega⟩
      have p1 : p < yS A 3 := by omega
      have hpk := h1.2.2.2.1 p p0 p1
      unfold p_X10_quietTicks_4
      rw [yr16 h.1, yr20 h.1 p0 p1, yr18 h.1 p0 p1, yr0_7 h.1]
      refine ⟨fun q => absurd q (by omega), fun _ => ⟨⟨by omega, by omega⟩, fun hs => ⟨⟨by omega, by omega⟩, fun h0 => ⟨⟨by omega, by omega⟩, ih k (p + 1) x (by omega) (by omega) (by omega) x0 x1 (fun r a b => ?_)⟩, fun h0 => ⟨⟨by omega, by omega⟩, ⟨by omega, by omega⟩, fun z ez => ⟨⟨by omega, by omega⟩, ih k (p + 1) z (by omega) (by omega) (by omega) (by omega) (by omega) (fun r a b => ?_)⟩⟩⟩, fun hs => hq 0 (by omega) (by omega) (Or.inl rfl)⟩⟩
      · by_cases e : r = p
        · subst e; exact ⟨hs, fun q => absurd q h0⟩
        · exact q1 r a (by omega)
      · by_cases e : r = p
        · subst e; exact ⟨hs, fun q => by omega⟩
        · have := q1 r a (by omega); exact ⟨this.1, fun q => by have := this.2 q; omega⟩
  unfold p_X10_quietTicks
  exact l4 (yS A 3).toNat F 0 most (by omega) (by omega) (by decide) (by omega) (Int.le_refl _) (fun r a b => by omega)
