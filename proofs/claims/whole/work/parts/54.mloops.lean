/-! THE MODEL'S LOOPS OF TICKS; copies -/
theorem yAdv_I {pk : Int} : ∀ (n : Nat) (A : yA), yJ A → yS A 0 + n ≤ 11000 → yJ (yAdv pk n A) ∧ ySt A (yAdv pk n A) ∧ yS A 0 ≤ yS (yAdv pk n A) 0 ∧ yS (yAdv pk n A) 0 ≤ yS A 0 + n := by
  intro n
  induction n with
  | zero => intro A hJ _; exact ⟨hJ, ySt_refl A, Int.le_refl _, by show yS A 0 ≤ _; omega⟩
  | succ n ih =>
    intro A hJ ht
    rw [yAdv]
    split
    · exact ⟨hJ, ySt_refl A, Int.le_refl _, by omega⟩
    · obtain ⟨t1, t2, t3⟩ := yTick_I hJ (by omega)
      obtain ⟨i1, i2, i3, i4⟩ := ih _ t1 (by rw [t3]; omega)
      exact ⟨i1, ySt_trans t2 i2, by omega, by omega⟩
theorem yEnd_m {A : yA} : yEnd (-1) A = false := by unfold yEnd; simp
theorem s_X12_hasEnded {m : Nat} {pk : Int} {M : xMe} {A : yA} {Q : Int → xMe → Prop} (hN : yN A) (h : yDR (m + 2) M A) (p0 : 0 ≤ pk) (p1 : pk < yS A 3) (hq : Q (if yEnd pk A then 1 else 0) M) : p_X12_hasEnded m pk M Q := by
  obtain ⟨n1, n2, n3, n4, n5, n6⟩ := hN
  unfold p_X12_hasEnded p_X12_packetAt
  dsimp only
  unfold yEnd at hq
  rw [yDa h (show 81 + 9 * pk + 3 = 84 + 9 * pk by omega) (by unfold yG; omega)]
  refine ⟨⟨by omega, by omega⟩, ⟨by omega, by omega⟩, ⟨by omega, by omega⟩, ⟨by omega, by omega⟩, fun h2 => ?_, fun h2 => ?_⟩
  · rw [if_neg (by simp; omega)] at hq; exact hq
  · rw [if_pos (by simp; omega)] at hq; exact hq
theorem s_X12_endOf_2 {F m : Nat} {pk T : Int} {Q : Int → xMe → Prop} (hF : 1300 ≤ F) : ∀ (n k : Nat) (x : Int) (A : yA) (M : xMe), n < k → x + n = T → 0 ≤ x → T ≤ 600 → yS A 0 + n ≤ 11000 → yDR (m + 2) M A → yJ A → 0 ≤ pk → pk < yS A 3 → (∀ M', yDR (m + 2) M' (yAdv pk n A) → yFm m M M' → Q (yS (yAdv pk n A) (87 + 9 * pk)) M') → p_X12_endOf_2 F m Q k pk T x M := by
  have hend : ∀ (A : yA) (M : xMe), yDR (m + 2) M A → yJ A → 0 ≤ pk → pk < yS A 3 → Q (yS A (87 + 9 * pk)) M → p_X12_packetAt pk M (fun r30 M30 => (xR (r30 + 6)) ∧ ((0 : Int) ≤ (r30 + 6) ∧ ((r30 + 6) : Int) < 2105) ∧ Q (M30 (m + 2) (r30 + 6).toNat) M30) := fun A M h hJ p0 p1 hq => by
    obtain ⟨n1, n2, n3, n4, n5, n6⟩ := hJ.1.1.1
    unfold p_X12_packetAt
    dsimp only
    rw [yDa h (show 81 + 9 * pk + 6 = 87 + 9 * pk by omega) (by unfold yG; omega)]
    exact ⟨⟨by omega, by omega⟩, ⟨by omega, by omega⟩, ⟨by omega, by omega⟩, ⟨by omega, by omega⟩, hq⟩
  intro n
  induction n with
  | zero =>
    intro k x A M hk hx x0 hT ht h hJ p0 p1 hq
    obtain ⟨k, rfl⟩ : ∃ k', k = k' + 1 := ⟨k - 1, by omega⟩
    unfold p_X12_endOf_2
    exact ⟨fun _ => hend A M h hJ p0 p1 (hq M h (yFm_refl _ _)), fun q => absurd q (by omega)⟩
  | succ n ih =>
    intro k x A M hk hx x0 hT ht h hJ p0 p1 hq
    obtain ⟨k, rfl⟩ : ∃ k', k = k' + 1 := ⟨k - 1, by omega⟩
    unfold p_X12_endOf_2
    refine ⟨fun q => absurd q (by omega), fun _ => s_X12_hasEnded hJ.1.1.1 h p0 p1 ?_⟩
    cases he : yEnd pk A with
    | true =>
      rw [yAdv_end he] at hq
      exact ⟨fun _ => hend A M h hJ p0 p1 (hq M h (yFm_refl _ _)), fun q => absurd q (by decide)⟩
    | false =>
      have ha : yAdv pk (n + 1) A = yAdv pk n (yTick A) := by rw [yAdv, he]; rfl
      rw [ha] at hq
      obtain ⟨t1, t2, t3⟩ := yTick_I hJ (by omega)
      exact ⟨fun q => absurd rfl q, fun _ => s_X12_tick hF h hJ (by omega) (fun M1 d1 d2 => ⟨⟨by omega, by omega⟩, ih k (x + 1) (yTick A) M1 (by omega) (by omega) (by omega) hT (by rw [t3]; omega) d1 t1 p0 (by rw [t2.1 3 (by unfold yStat; omega)]; exact p1) (fun M' e1 e2 => hq M' e1 (yFm_trans d2 e2))⟩)⟩
theorem s_X12_endOf {F m : Nat} {pk : Int} {n : Nat} {M : xMe} {A : yA} {Q : Int → xMe → Prop} (hF : 1300 ≤ F) (hn : n ≤ 500) (ht : yS A 0 + n ≤ 11000) (h : yDR (m + 2) M A) (hJ : yJ A) (p0 : 0 ≤ pk) (p1 : pk < yS A 3) (hq : ∀ M', yDR (m + 2) M' (yAdv pk n A) → yFm m M M' → Q (yS (yAdv pk n A) (87 + 9 * pk)) M') : p_X12_endOf F m pk (n : Int) M Q := by
  unfold p_X12_endOf
  exact s_X12_endOf_2 hF n F 0 A M (by omega) (by omega) (by decide) (by omega) ht h hJ p0 p1 hq
theorem s_X12_billAfter_43 {F m : Nat} {f T : Int} {Q : Int → xMe → Prop} (hF : 1300 ≤ F) : ∀ (n k : Nat) (x : Int) (A : yA) (M : xMe), n < k → x + n = T → 0 ≤ x → T ≤ 600 → yS A 0 + n ≤ 11000 → yDR (m + 2) M A → yJ A → (∀ M', yDR (m + 2) M' (yAdv (-1) n A) → yFm m M M' → p_X12_ofFlow m f 2 M' (fun r61 M61 => p_X12_copy F (m + 4) 905 (m + 2) 2105 905 M61 (fun M76 => Q r61 M76))) → p_X12_billAfter_43 F m Q k f T x M := by
  intro n
  induction n with
  | zero =>
    intro k x A M hk hx x0 hT ht h hJ hq
    obtain ⟨k, rfl⟩ : ∃ k', k = k' + 1 := ⟨k - 1, by omega⟩
    unfold p_X12_billAfter_43
    exact ⟨fun _ => hq M h (yFm_refl _ _), fun q => absurd q (by omega)⟩
  | succ n ih =>
    intro k x A M hk hx x0 hT ht h hJ hq
    obtain ⟨k, rfl⟩ : ∃ k', k = k' + 1 := ⟨k - 1, by omega⟩
    have ha : yAdv (-1) (n + 1) A = yAdv (-1) n (yTick A) := by rw [yAdv, yEnd_m]; rfl
    rw [ha] at hq
    obtain ⟨t1, t2, t3⟩ := yTick_I hJ (by omega)
    unfold p_X12_billAfter_43
    exact ⟨fun q => absurd q (by omega), fun _ => s_X12_tick hF h hJ (by omega) (fun M1 d1 d2 => ⟨⟨by omega, by omega⟩, ih k (x + 1) (yTick A) M1 (by omega) (by omega) (by omega) hT (by rw [t3]; omega) d1 t1 (fun M' e1 e2 => hq M' e1 (yFm_trans d2 e2))⟩)⟩
theorem s_X12_pass_58 {F m : Nat} {T z : Int} {Q : Int → xMe → Prop} (hF : 1300 ≤ F) (hz : 0 ≤ z ∧ z ≤ 1000) : ∀ (n k : Nat) (x : Int) (A : yA) (M : xMe), n < k → x + n = T → 0 ≤ x → T ≤ 600 → yS A 0 + n ≤ 11000 → yDR (m + 2) M A → yJ A → (∀ M', yDR (m + 2) M' (yAdv (-1) n A) → yFm m M M' → Q (yS (yAdv (-1) n A) 5 - z) M') → p_X12_pass_58 F m Q k T z x M := by
  intro n
  induction n with
  | zero =>
    intro k x A M hk hx x0 hT ht h hJ hq
    obtain ⟨k, rfl⟩ : ∃ k', k = k' + 1 := ⟨k - 1, by omega⟩
    obtain ⟨b5, -⟩ := yI8_b hJ.1.2.2.2.2.2.2.2 hJ.1.1
    have e5 : M (m + 2) 5 = yS A 5 := h.1 5 (by unfold yG; omega)
    unfold p_X12_pass_58
    rw [e5]
    exact ⟨fun _ => ⟨⟨by omega, by omega⟩, ⟨by omega, by omega⟩, hq M h (yFm_refl _ _)⟩, fun q => absurd q (by omega)⟩
  | succ n ih =>
    intro k x A M hk hx x0 hT ht h hJ hq
    obtain ⟨k, rfl⟩ : ∃ k', k = k' + 1 := ⟨k - 1, by omega⟩
    have ha : yAdv (-1) (n + 1) A = yAdv (-1) n (yTick A) := by rw [yAdv, yEnd_m]; rfl
    rw [ha] at hq
    obtain ⟨t1, t2, t3⟩ := yTick_I hJ (by omega)
    unfold p_X12_pass_58
    exact ⟨fun q => absurd q (by omega), fun _ => s_X12_tick hF h hJ (by omega) (fun M1 d1 d2 => ⟨⟨by omega, by omega⟩, ih k (x + 1) (yTick A) M1 (by omega) (by omega) (by omega) hT (by rw [t3]; omega) d1 t1 (fun M' e1 e2 => hq M' e1 (yFm_trans d2 e2))⟩)⟩
theorem s_X12_copy {F b0 n0 b1 n1 : Nat} {n : Nat} {M : xMe} {Q : xMe → Prop} (hb : b0 ≠ b1) (hn0 : n ≤ n0) (hn1 : n ≤ n1) (hn : n ≤ 3000) (hF : 3100 ≤ F) (hq : ∀ M', (∀ b, b ≠ b1 → M' b = M b) → (∀ j, M' b1 j = if j < n then M b0 j else M b1 j) → Q M') : p_X12_copy F b0 n0 b1 n1 (n : Int) M Q := by
  have main : ∀ (d k : Nat) (x : Int) (M1 : xMe), x + d = n → d < k → 0 ≤ x → (∀ b, b ≠ b1 → M1 b = M b) → (∀ j : Nat, M1 b1 j = if (j : Int) < x then M b0 j else M b1 j) → p_X12_copy_2 F b0 n0 b1 n1 Q k (n : Int) x M1 := by
    intro d
    induction d with
    | zero =>
      intro k x M1 hx hk x0 hb1 hj
      obtain ⟨k, rfl⟩ : ∃ k', k = k' + 1 := ⟨k - 1, by omega⟩
      unfold p_X12_copy_2
      refine ⟨fun _ => hq M1 hb1 (fun j => ?_), fun q => absurd q (by omega)⟩
      rw [hj j]
      by_cases e : j < n
      · rw [if_pos e, if_pos (by omega)]
      · rw [if_neg e, if_neg (by omega)]
    | succ d ih =>
      intro k x M1 hx hk x0 hb1 hj
      obtain ⟨k, rfl⟩ : ∃ k', k = k' + 1 := ⟨k - 1, by omega⟩
      unfold p_X12_copy_2
      refine ⟨fun q => absurd q (by omega), fun _ => ⟨⟨by omega, by omega⟩, ⟨by omega, by omega⟩, fun M2 e2 => ⟨⟨by omega, by omega⟩, ih k (x + 1) M2 (by omega) (by omega) (by omega) (fun b h => by rw [e2, xw_B h, hb1 b h]) (fun j => ?_)⟩⟩⟩
      rw [e2]
      by_cases e : j = x.toNat
      · subst e
        rw [xw_s, if_pos (by omega), hb1 b0 hb]
      · rw [xw_j e, hj j]
        by_cases e2 : (j : Int) < x
        · rw [if_pos e2, if_pos (by omega)]
        · rw [if_neg e2, if_neg (by omega)]
  unfold p_X12_copy
  exact main n F 0 M (by omega) (by omega) (by decide) (fun _ _ => rfl) (fun j => by rw [if_neg (by omega)])
/-- a fault is written down, or none -/
theorem s_fails0 {a : Nat} {e : Int} {M : xMe} {Q : Int → xMe → Prop} (h0 : M a 0 = 0) (hq : Q 0 M) : p_X12_fails a 0 e M Q := ⟨fun _ => ⟨fun _ => hq, fun q => absurd h0 q⟩, fun q => absurd rfl q⟩
theorem s_fails1 {a : Nat} {e : Int} {M : xMe} {Q : Int → xMe → Prop} (h0 : M a 0 = 0) (he : e ≠ 0) (hq : Q 1 (xw M a 0 e)) : p_X12_fails a 1 e M Q := ⟨fun q => absurd q (by decide), fun _ => ⟨fun q => absurd h0 q, fun _ M1 e1 => by subst e1; exact ⟨fun q => absurd (xw_s.symm.trans q) he, fun _ => hq⟩⟩⟩
theorem s_in {x a b : Int} {M : xMe} {Q : Int → xMe → Prop} (h1 : a ≤ x → x ≤ b → Q 1 M) (h0 : ¬ (a ≤ x ∧ x ≤ b) → Q 0 M) : p_X12_in x a b M Q := ⟨fun h => h0 (by omega), fun h => ⟨fun g => h0 (by omega), fun g => h1 h g⟩⟩
theorem s_noP {a : Nat} {x : Int} {M : xMe} {A : yA} {Q : Int → xMe → Prop} (hN : yN A) (h : yDR (a + 2) M A) (h0 : M a 0 = 0) (h1 : 0 ≤ x → x < yS A 3 → Q 0 M) (h2 : ¬ (0 ≤ x ∧ x < yS A 3) → Q 1 (xw M a 0 1)) : p_X12_noPacket a x M Q := by
  obtain ⟨n1, n2, n3, n4, n5, n6⟩ := hN
  unfold p_X12_noPacket
  rw [show M (a + 2) 3 = yS A 3 from h.1 3 (by unfold yG; omega)]
  exact ⟨⟨by omega, by omega⟩, ⟨by omega, by omega⟩, s_in (fun q1 q2 => ⟨fun _ => s_fails0 h0 ⟨Or.inl rfl, h1 q1 (by omega)⟩, fun q => absurd q (by decide)⟩) (fun q => ⟨fun q2 => absurd rfl q2, fun _ => s_fails1 h0 (by decide) ⟨Or.inr rfl, h2 (by omega)⟩⟩)⟩
theorem s_noF {a : Nat} {x : Int} {M : xMe} {A : yA} {Q : Int → xMe → Prop} (hN : yN A) (h : yDR (a + 2) M A) (h0 : M a 0 = 0) (h1 : 0 ≤ x → x < yS A 2 → Q 0 M) (h2 : ¬ (0 ≤ x ∧ x < yS A 2) → Q 1 (xw M a 0 1)) : p_X12_noFlow a x M Q := by
  obtain ⟨n1, n2, n3, n4, n5, n6⟩ := hN
  unfold p_X12_noFlow
  rw [show M (a + 2) 2 = yS A 2 from h.1 2 (by unfold yG; omega)]
  exact ⟨⟨by omega, by omega⟩, ⟨by omega, by omega⟩, s_in (fun q1 q2 => ⟨fun _ => s_fails0 h0 ⟨Or.inl rfl, h1 q1 (by omega)⟩, fun q => absurd q (by decide)⟩) (fun q => ⟨fun q2 => absurd rfl q2, fun _ => s_fails1 h0 (by decide) ⟨Or.inr rfl, h2 (by omega)⟩⟩)⟩
theorem s_noG {a : Nat} {x : Int} {M : xMe} {A : yA} {Q : Int → xMe → Prop} (hN : yN A) (h : yDR (a + 2) M A) (h0 : M a 0 = 0) (h1 : 0 ≤ x → x < yS A 1 → Q 0 M) (h2 : ¬ (0 ≤ x ∧ x < yS A 1) → Q 1 (xw M a 0 1)) : p_X12_noGate a x M Q := by
  obtain ⟨n1, n2, n3, n4, n5, n6⟩ := hN
  unfold p_X12_noGate
  rw [show M (a + 2) 1 = yS A 1 from h.1 1 (by unfold yG; omega)]
  exact ⟨⟨by omega, by omega⟩, ⟨by omega, by omega⟩, s_in (fun q1 q2 => ⟨fun _ => s_fails0 h0 ⟨Or.inl rfl, h1 q1 (by omega)⟩, fun q => absurd q (by decide)⟩) (fun q => ⟨fun q2 => absurd rfl q2, fun _ => s_fails1 h0 (by decide) ⟨Or.inr rfl, h2 (by omega)⟩⟩)⟩
theorem s_noC {a : Nat} {x : Int} {M : xMe} {A : yA} {Q : Int → xMe → Prop} (hC : (yC A).length ≤ 30) (h : yDR (a + 2) M A) (h0 : M a 0 = 0) (h1 : 0 ≤ x → x < ((yC A).length : Int) → Q 0 M) (h2 : ¬ (0 ≤ x ∧ x < ((yC A).length : Int)) → Q 1 (xw M a 0 1)) : p_X12_noCoupon a x M Q := by
  unfold p_X12_noCoupon
  rw [h.2.1.1]
  exact ⟨⟨by omega, by omega⟩, ⟨by omega, by omega⟩, s_in (fun q1 q2 => ⟨fun _ => s_fails0 h0 ⟨Or.inl rfl, h1 q1 (by omega)⟩, fun q => absurd q (by decide)⟩) (fun q => ⟨fun q2 => absurd rfl q2, fun _ => s_fails1 h0 (by decide) ⟨Or.inr rfl, h2 (by omega)⟩⟩)⟩
theorem s_noN {a : Nat} {x lo hi : Int} {M : xMe} {Q : Int → xMe → Prop} (h0 : M a 0 = 0) (h1 : lo ≤ x → x ≤ hi → Q 0 M) (h2 : ¬ (lo ≤ x ∧ x ≤ hi) → Q 1 (xw M a 0 2)) : p_X12_noNumber a x lo hi M Q := by
  unfold p_X12_noNumber
  exact s_in (fun q1 q2 => ⟨fun _ => s_fails0 h0 ⟨Or.inl rfl, h1 q1 q2⟩, fun q => absurd q (by decide)⟩) (fun q => ⟨fun q2 => absurd rfl q2, fun _ => s_fails1 h0 (by decide) ⟨Or.inr rfl, h2 q⟩⟩)
