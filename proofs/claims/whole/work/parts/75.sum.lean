/-! LAYER 2, load: terms, sums -/
section ZQ
variable {b : Nat → Int} {n x m F : Nat} {B M M' : xMe} {Q : xMe → Prop} {R : Int → xMe → Prop} {d : Nat} {c : Int} {A : yA}
theorem z_tl0 {PS : Int → xMe → (xMe → Prop) → Prop} {PM : xMe → (xMe → Prop) → Prop} {ν : Nat} {s : zS} (hn : n ≤ 700) (hF : 702 ≤ F) (ks : zkd b n s.p ≠ 42 ∧ zkd b n s.p ≠ 47) (h0 : s.e = 0) (hJ : zJ n s (d + 1)) : ∃ s', (s'.e = 0 → zJ n s' (d + 1) ∧ s.p ≤ s'.p ∧ (yK s'.A).length + s.p ≤ (yK s.A).length + s'.p ∧ s'.u = s.u) ∧ (∀ (B M : xMe) (Q : xMe → Prop) (k : Nat) (c : Int), zC b n x B s M → n < k + s.p → 0 ≤ c → c < s.p → (∀ M', zC b n x B s' M' → Q M') → p_X8_readTerm_7 F PS (x + 1) Q k ν c M) ∧ (∀ (B M : xMe) (Q : xMe → Prop) (k : Nat), zM b n m B ν s M → n < k + s.p → (∀ M', zM b n m B ν s' M' → Q M') → p_X12_term_4 F PM m Q k M) := by
  have hp := hJ.2.2.2.2
  refine ⟨s, fun _ => ⟨hJ, Nat.le_refl _, Nat.le_refl _, rfl⟩, fun B M Q k c h hk c0 c1 hq => ?_, fun B M Q k h hk hq => ?_⟩
  · obtain ⟨k, rfl⟩ : ∃ k', k = k' + 1 := ⟨k - 1, by omega⟩
    have e4 : M (x + 1 + 1) 4 = zkd b n s.p := (h.2.2.2.2.2 h0).2.1.2.2.1
    unfold p_X8_readTerm_7
    refine ⟨fun _ => hq M h, fun _ => ⟨fun _ => hq M h, fun _ => ?_⟩⟩
    unfold p_X8_isEither
    rw [e4]
    exact ⟨fun q => absurd q ks.1, fun _ => ⟨fun _ => ⟨fun _ => hq M h, fun q => absurd rfl q⟩, fun q => absurd q ks.2⟩⟩
  · obtain ⟨k, rfl⟩ : ∃ k', k = k' + 1 := ⟨k - 1, by omega⟩
    unfold p_X12_term_4
    refine zM_good h (fun _ => ⟨fun q => absurd q (by decide), fun _ => zM_next hn hF h0 h (fun M1 h1 _ => ⟨fun q => absurd ((zkd_by (by omega)).mpr q) ks.1, fun _ => zM_next hn hF h0 h1 (fun M2 h2 _ => ⟨fun _ => hq M2 h2, fun q => absurd ((zkd_by (by omega)).mpr q) ks.2⟩)⟩)⟩) (fun q => absurd h0 q)
theorem z_tl {PS : Int → xMe → (xMe → Prop) → Prop} {PM : xMe → (xMe → Prop) → Prop} {ν : Nat} (hn : n ≤ 700) (hF : 702 ≤ F) (hd : d ≤ 10) (hf : ∀ s, s.e = 0 → zJ n s (d + 1) → ∃ s', zPo n (d + 2) s s' ∧ zSm b n x m ν s s' (fun M Q => p_X8_readFactor F PS (x + 1) ν M Q) (fun M Q => p_X12_factor F PM m M Q)) : ∀ (r : Nat) (s : zS), n ≤ r + s.p → s.e = 0 → zJ n s (d + 1) → ∃ s', (s'.e = 0 → zJ n s' (d + 1) ∧ s.p ≤ s'.p ∧ (yK s'.A).length + s.p ≤ (yK s.A).length + s'.p ∧ s'.u = s.u) ∧ (∀ (B M : xMe) (Q : xMe → Prop) (k : Nat) (c : Int), zC b n x B s M → n < k + s.p → 0 ≤ c → c < s.p → (∀ M', zC b n x B s' M' → Q M') → p_X8_readTerm_7 F PS (x + 1) Q k ν c M) ∧ (∀ (B M : xMe) (Q : xMe → Prop) (k : Nat), zM b n m B ν s M → n < k + s.p → (∀ M', zM b n m B ν s' M' → Q M') → p_X12_term_4 F PM m Q k M) := by
  intro r
  induction r with
  | zero => exact fun s hr h0 hJ => z_tl0 hn hF (show zkd b n s.p ≠ 42 ∧ zkd b n s.p ≠ 47 by
      have e : zkd b n s.p = -1 := by unfold zkd; rw [if_pos (by omega)]
      omega) h0 hJ
  | succ r ih =>
    intro s hr h0 hJ
    by_cases ks : zkd b n s.p ≠ 42 ∧ zkd b n s.p ≠ 47
    · exact z_tl0 hn hF ks h0 hJ
    have hp := zkd_neg (b := b) (s := s) (by omega) hJ.2.2.2.2
    have sg : zte b n s.p = s.p + 1 := by
      by_cases q : zkd b n s.p = 42
      · exact (zkd_sg (by omega) q).2
      · exact (zkd_sg (c := 47) (by omega) (by omega)).2
    have pg := znx_gt (b := b) hp
    have hJ1 : zJ n (zG b n s) (d + 1) := ⟨hJ.1, hJ.2.1, Nat.le_trans hJ.2.2.1 znx_ge, hJ.2.2.2.1, znx_le hJ.2.2.2.2⟩
    obtain ⟨s1, f1, f2, f3⟩ := hf (zG b n s) h0 hJ1
    obtain ⟨o, ho⟩ : ∃ o : Int, o = if zkd b n s.p = 42 then (-3) else (-4) := ⟨_, rfl⟩
    have or : -4 ≤ o ∧ o ≤ -1 := by rw [ho]; split <;> decide
    -- behind the factor and the sign
    have af : ∃ s', (s'.e = 0 → zJ n s' (d + 1) ∧ s.p ≤ s'.p ∧ (yK s'.A).length + s.p ≤ (yK s.A).length + s'.p ∧ s'.u = s.u) ∧ (∀ (B M : xMe) (Q : xMe → Prop) (k : Nat) (c : Int), zC b n x B s1 M → n ≤ k + s.p → 0 ≤ c → c < s.p → (∀ M', zC b n x B s' M' → Q M') → p_X8_emit (x + 1) o M (fun M66 => (xR (c + 1)) ∧ p_X8_readTerm_7 F PS (x + 1) Q k ν (c + 1) M66)) ∧ (∀ (B M : xMe) (Q : xMe → Prop) (k : Nat), zM b n m B ν s1 M → n ≤ k + s.p → (∀ M', zM b n m B ν s' M' → Q M') → p_X12_emit m (1 - o) M (fun M68 => p_X12_term_4 F PM m Q k M68)) := by
      by_cases e1 : s1.e = 0
      · obtain ⟨q1, q2, q3, q4⟩ := f1 e1
        have q2' : znx b n s.p < s1.p := q2
        have q3' : (yK s1.A).length + znx b n s.p ≤ (yK s.A).length + s1.p := q3
        obtain ⟨u1, u2, u3, u4, u5⟩ := q1
        have l := hJ.2.2.1
        have l2 := u2.2
        have lk : (yK (zEm s1.A o)).length = (yK s1.A).length + 1 := by
          show (yK s1.A ++ [o]).length = _
          rw [List.length_append]; rfl
        have hJ2 : zJ n (zX s1 (zEm s1.A o) s1.u) (d + 1) := ⟨u1, zKd_opr u2 or, by show (yK (zEm s1.A o)).length ≤ s1.p; omega, zI_em u4, u5⟩
        obtain ⟨s', g1, g2, g3⟩ := ih (zX s1 (zEm s1.A o) s1.u) (by show n ≤ r + s1.p; omega) e1 hJ2
        have lN : (yEc (yK s1.A)).length < 1200 := by omega
        refine ⟨s', fun q => ?_, fun B M Q k c h hk c0 c1 hq => ?_, fun B M Q k h hk hq => ?_⟩
        · obtain ⟨a1, a2, a3, a4⟩ := g1 q
          have a2' : s1.p ≤ s'.p := a2
          have a3' : (yK s'.A).length + s1.p ≤ (yK (zEm s1.A o)).length + s'.p := a3
          exact ⟨a1, by omega, by omega, a4.trans q4⟩
        · refine zC_emit e1 u1 (by omega) u4.1 h (fun M1 h1 => ⟨⟨by omega, by omega⟩, g2 B M1 Q k (c + 1) h1 (by show n < k + s1.p; omega) (by omega) (by show c + 1 < (s1.p : Int); omega) hq⟩)
        · exact zM_opr e1 u4 lN or h (fun M1 h1 => g3 B M1 Q k h1 (by show n < k + s1.p; omega) hq)
      · refine ⟨s1, fun q => absurd q e1, fun B M Q k c h hk c0 c1 hq => ?_, fun B M Q k h hk hq => ?_⟩
        · refine zC_emit2 e1 h (fun M1 h1 => ⟨⟨by omega, by omega⟩, ?_⟩)
          obtain ⟨k, rfl⟩ : ∃ k', k = k' + 1 := ⟨k - 1, by omega⟩
          unfold p_X8_readTerm_7
          exact ⟨fun _ => hq M1 h1, fun _ => ⟨fun _ => hq M1 h1, fun q => absurd (h1.1.1.symm.trans q) e1⟩⟩
        · refine zM_emit2 e1 h ?_
          obtain ⟨k, rfl⟩ : ∃ k', k = k' + 1 := ⟨k - 1, by omega⟩
          unfold p_X12_term_4
          exact zM_good h (fun q => absurd q e1) (fun _ => ⟨fun _ => hq M h, fun q => absurd rfl q⟩)
    obtain ⟨s', a1, a2, a3⟩ := af
    refine ⟨s', a1, fun B M Q k c h hk c0 c1 hq => ?_, fun B M Q k h hk hq => ?_⟩
    · obtain ⟨k, rfl⟩ : ∃ k', k = k' + 1 := ⟨k - 1, by omega⟩
      have e4 : M (x + 1 + 1) 4 = zkd b n s.p := (h.2.2.2.2.2 h0).2.1.2.2.1
      have go : ∀ o' : Int, o' = o → p_X9_moveOn F (x + 1 + 1) M (fun M56 => p_X8_readFactor F PS (x + 1) ν M56 (fun M61 => p_X8_emit (x + 1) o' M61 (fun M66 => (xR (c + 1)) ∧ p_X8_readTerm_7 F PS (x + 1) Q k ν (c + 1) M66))) := fun o' eo => by
        rw [eo]
        exact zC_mv hn hF h0 h (fun M1 h1 => f2 B M1 _ h1 (fun M2 h2 => a2 B M2 Q k c h2 (by omega) c0 c1 hq))
      have bd : (700 : Int) ≤ c → False := fun q => by omega
      unfold p_X8_readTerm_7
      refine ⟨fun q => (bd q).elim, fun _ => ⟨fun q => absurd (h.1.1.trans h0) q, fun _ => ?_⟩⟩
      unfold p_X8_isEither
      rw [e4]
      refine ⟨fun q => ⟨fun r => absurd r (by decide), fun _ => ⟨fun r => absurd (e4.trans q) r, fun _ => go _ (by rw [ho, if_pos q])⟩⟩, fun q => ⟨fun r => absurd ⟨q, r⟩ ks, fun _ => ⟨fun r => absurd r (by decide), fun _ => ⟨fun _ => go _ (by rw [ho, if_neg q]), fun r => absurd (e4.symm.trans r) q⟩⟩⟩⟩
    · obtain ⟨k, rfl⟩ : ∃ k', k = k' + 1 := ⟨k - 1, by omega⟩
      have go : ∀ (o' : Int) (M1 : xMe), o' = 1 - o → zM b n m B ν s M1 → M1 m 4 = (s.p : Int) → (xR ((M1 m 4) + 1)) ∧ (∀ M51 : xMe, M51 = xw M1 m 4 ((M1 m 4) + 1) → p_X12_factor F PM m M51 (fun M55 => p_X12_emit m o' M55 (fun M68 => p_X12_term_4 F PM m Q k M68))) := fun o' M1 eo h1 k1 => by
        rw [eo, k1]
        refine ⟨⟨by omega, by omega⟩, fun M2 e2 => f3 B M2 _ (zM_m h1 h0 (fun c j cj => by
          rw [e2]
          by_cases hc : c = m
          · subst hc; rw [xw_j (by omega)]
          · rw [xw_b hc]) (by rw [e2, xw_j (by decide)]; exact h1.1.1) (by rw [e2, xw_j (by decide)]; exact h1.1.2) rfl rfl (fun _ => ⟨zte b n s.p, zte_le hJ.2.2.2.2, by rw [e2, xw_s, sg]; omega, rfl⟩)) (fun M3 h3 => a3 B M3 Q k h3 (by omega) hq)⟩
      unfold p_X12_term_4
      refine zM_good h (fun _ => ⟨fun q => absurd q (by decide), fun _ => zM_next hn hF h0 h (fun M1 h1 _ => ⟨fun q => ?_, fun q => ?_⟩)⟩) (fun q => absurd h0 q)
      · have q' : zkd b n s.p = 42 := (zkd_by (by omega)).mpr q
        exact zM_next hn hF h0 h1 (fun M2 h2 k2 => ⟨fun r => absurd q r, fun _ => go _ M2 (by rw [ho, if_pos q']; rfl) h2 k2⟩)
      · have q' : zkd b n s.p ≠ 42 := fun r => q ((zkd_by (by omega)).mp r)
        refine zM_next hn hF h0 h1 (fun M2 h2 k2 => ⟨fun r => absurd ⟨q', fun t => r ((zkd_by (by omega)).mp t)⟩ ks, fun _ => zM_next hn hF h0 h2 (fun M3 h3 k3 => ⟨fun _ => go _ M3 (by rw [ho, if_neg q']; rfl) h3 k3, fun r => absurd r q⟩)⟩)
theorem z_sl0 {PS : Int → xMe → (xMe → Prop) → Prop} {PM : xMe → (xMe → Prop) → Prop} {ν : Nat} {s : zS} (hn : n ≤ 700) (hF : 702 ≤ F) (ks : zkd b n s.p ≠ 43 ∧ zkd b n s.p ≠ 45) (h0 : s.e = 0) (hJ : zJ n s (d + 1)) : ∃ s', (s'.e = 0 → zJ n s' (d + 1) ∧ s.p ≤ s'.p ∧ (yK s'.A).length + s.p ≤ (yK s.A).length + s'.p ∧ s'.u = s.u) ∧ (∀ (B M : xMe) (Q : xMe → Prop) (k : Nat) (c : Int), zC b n x B s M → n < k + s.p → 0 ≤ c → c < s.p → (∀ M', zC b n x B s' M' → Q M') → p_X8_readSum_7 F PS (x + 1) Q k ν c M) ∧ (∀ (B M : xMe) (Q : xMe → Prop) (k : Nat), zM b n m B ν s M → n < k + s.p → (∀ M', zM b n m B ν s' M' → Q M') → p_X12_sum_4 F PM m Q k M) := by
  have hp := hJ.2.2.2.2
  refine ⟨s, fun _ => ⟨hJ, Nat.le_refl _, Nat.le_refl _, rfl⟩, fun B M Q k c h hk c0 c1 hq => ?_, fun B M Q k h hk hq => ?_⟩
  · obtain ⟨k, rfl⟩ : ∃ k', k = k' + 1 := ⟨k - 1, by omega⟩
    have e4 : M (x + 1 + 1) 4 = zkd b n s.p := (h.2.2.2.2.2 h0).2.1.2.2.1
    unfold p_X8_readSum_7
    refine ⟨fun _ => hq M h, fun _ => ⟨fun _ => hq M h, fun _ => ?_⟩⟩
    unfold p_X8_isEither
    rw [e4]
    exact ⟨fun q => absurd q ks.1, fun _ => ⟨fun _ => ⟨fun _ => hq M h, fun q => absurd rfl q⟩, fun q => absurd q ks.2⟩⟩
  · obtain ⟨k, rfl⟩ : ∃ k', k = k' + 1 := ⟨k - 1, by omega⟩
    unfold p_X12_sum_4
    refine zM_good h (fun _ => ⟨fun q => absurd q (by decide), fun _ => zM_next hn hF h0 h (fun M1 h1 _ => ⟨fun q => absurd ((zkd_by (by omega)).mpr q) ks.1, fun _ => zM_next hn hF h0 h1 (fun M2 h2 _ => ⟨fun _ => hq M2 h2, fun q => absurd ((zkd_by (by omega)).mpr q) ks.2⟩)⟩)⟩) (fun q => absurd h0 q)
theorem z_sl {PS : Int → xMe → (xMe → Prop) → Prop} {PM : xMe → (xMe → Prop) → Prop} {ν : Nat} (hn : n ≤ 700) (hF : 702 ≤ F) (hd : d ≤ 10) (hf : ∀ s, s.e = 0 → zJ n s (d + 1) → ∃ s', zPo n (d + 2) s s' ∧ zSm b n x m ν s s' (fun M Q => p_X8_readTerm F PS (x + 1) ν M Q) (fun M Q => p_X12_term F PM m M Q)) : ∀ (r : Nat) (s : zS), n ≤ r + s.p → s.e = 0 → zJ n s (d + 1) → ∃ s', (s'.e = 0 → zJ n s' (d + 1) ∧ s.p ≤ s'.p ∧ (yK s'.A).length + s.p ≤ (yK s.A).length + s'.p ∧ s'.u = s.u) ∧ (∀ (B M : xMe) (Q : xMe → Prop) (k : Nat) (c : Int), zC b n x B s M → n < k + s.p → 0 ≤ c → c < s.p → (∀ M', zC b n x B s' M' → Q M') → p_X8_readSum_7 F PS (x + 1) Q k ν c M) ∧ (∀ (B M : xMe) (Q : xMe → Prop) (k : Nat), zM b n m B ν s M → n < k + s.p → (∀ M', zM b n m B ν s' M' → Q M') → p_X12_sum_4 F PM m Q k M) := by
  intro r
  induction r with
  | zero => exact fun s hr h0 hJ => z_sl0 hn hF (show zkd b n s.p ≠ 43 ∧ zkd b n s.p ≠ 45 by
      have e : zkd b n s.p = -1 := by unfold zkd; rw [if_pos (by omega)]
      omega) h0 hJ
  | succ r ih =>
    intro s hr h0 hJ
    by_cases ks : zkd b n s.p ≠ 43 ∧ zkd b n s.p ≠ 45
    · exact z_sl0 hn hF ks h0 hJ
    have hp := zkd_neg (b := b) (s := s) (by omega) hJ.2.2.2.2
    have sg : zte b n s.p = s.p + 1 := by
      by_cases q : zkd b n s.p = 43
      · exact (zkd_sg (by omega) q).2
      · exact (zkd_sg (c := 45) (by omega) (by omega)).2
    have pg := znx_gt (b := b) hp
    have hJ1 : zJ n (zG b n s) (d + 1) := ⟨hJ.1, hJ.2.1, Nat.le_trans hJ.2.2.1 znx_ge, hJ.2.2.2.1, znx_le hJ.2.2.2.2⟩
    obtain ⟨s1, f1, f2, f3⟩ := hf (zG b n s) h0 hJ1
    obtain ⟨o, ho⟩ : ∃ o : Int, o = if zkd b n s.p = 43 then (-1) else (-2) := ⟨_, rfl⟩
    have or : -4 ≤ o ∧ o ≤ -1 := by rw [ho]; split <;> decide
    -- behind the factor and the sign
    have af : ∃ s', (s'.e = 0 → zJ n s' (d + 1) ∧ s.p ≤ s'.p ∧ (yK s'.A).length + s.p ≤ (yK s.A).length + s'.p ∧ s'.u = s.u) ∧ (∀ (B M : xMe) (Q : xMe → Prop) (k : Nat) (c : Int), zC b n x B s1 M → n ≤ k + s.p → 0 ≤ c → c < s.p → (∀ M', zC b n x B s' M' → Q M') → p_X8_emit (x + 1) o M (fun M66 => (xR (c + 1)) ∧ p_X8_readSum_7 F PS (x + 1) Q k ν (c + 1) M66)) ∧ (∀ (B M : xMe) (Q : xMe → Prop) (k : Nat), zM b n m B ν s1 M → n ≤ k + s.p → (∀ M', zM b n m B ν s' M' → Q M') → p_X12_emit m (1 - o) M (fun M68 => p_X12_sum_4 F PM m Q k M68)) := by
      by_cases e1 : s1.e = 0
      · obtain ⟨q1, q2, q3, q4⟩ := f1 e1
        have q2' : znx b n s.p < s1.p := q2
        have q3' : (yK s1.A).length + znx b n s.p ≤ (yK s.A).length + s1.p := q3
        obtain ⟨u1, u2, u3, u4, u5⟩ := q1
        have l := hJ.2.2.1
        have l2 := u2.2
        have lk : (yK (zEm s1.A o)).length = (yK s1.A).length + 1 := by
          show (yK s1.A ++ [o]).length = _
          rw [List.length_append]; rfl
        have hJ2 : zJ n (zX s1 (zEm s1.A o) s1.u) (d + 1) := ⟨u1, zKd_opr u2 or, by show (yK (zEm s1.A o)).length ≤ s1.p; omega, zI_em u4, u5⟩
        obtain ⟨s', g1, g2, g3⟩ := ih (zX s1 (zEm s1.A o) s1.u) (by show n ≤ r + s1.p; omega) e1 hJ2
        have lN : (yEc (yK s1.A)).length < 1200 := by omega
        refine ⟨s', fun q => ?_, fun B M Q k c h hk c0 c1 hq => ?_, fun B M Q k h hk hq => ?_⟩
        · obtain ⟨a1, a2, a3, a4⟩ := g1 q
          have a2' : s1.p ≤ s'.p := a2
          have a3' : (yK s'.A).length + s1.p ≤ (yK (zEm s1.A o)).length + s'.p := a3
          exact ⟨a1, by omega, by omega, a4.trans q4⟩
        · refine zC_emit e1 u1 (by omega) u4.1 h (fun M1 h1 => ⟨⟨by omega, by omega⟩, g2 B M1 Q k (c + 1) h1 (by show n < k + s1.p; omega) (by omega) (by show c + 1 < (s1.p : Int); omega) hq⟩)
        · exact zM_opr e1 u4 lN or h (fun M1 h1 => g3 B M1 Q k h1 (by show n < k + s1.p; omega) hq)
      · refine ⟨s1, fun q => absurd q e1, fun B M Q k c h hk c0 c1 hq => ?_, fun B M Q k h hk hq => ?_⟩
        · refine zC_emit2 e1 h (fun M1 h1 => ⟨⟨by omega, by omega⟩, ?_⟩)
          obtain ⟨k, rfl⟩ : ∃ k', k = k' + 1 := ⟨k - 1, by omega⟩
          unfold p_X8_readSum_7
          exact ⟨fun _ => hq M1 h1, fun _ => ⟨fun _ => hq M1 h1, fun q => absurd (h1.1.1.symm.trans q) e1⟩⟩
        · refine zM_emit2 e1 h ?_
          obtain ⟨k, rfl⟩ : ∃ k', k = k' + 1 := ⟨k - 1, by omega⟩
          unfold p_X12_sum_4
          exact zM_good h (fun q => absurd q e1) (fun _ => ⟨fun _ => hq M h, fun q => absurd rfl q⟩)
    obtain ⟨s', a1, a2, a3⟩ := af
    refine ⟨s', a1, fun B M Q k c h hk c0 c1 hq => ?_, fun B M Q k h hk hq => ?_⟩
    · obtain ⟨k, rfl⟩ : ∃ k', k = k' + 1 := ⟨k - 1, by omega⟩
      have e4 : M (x + 1 + 1) 4 = zkd b n s.p := (h.2.2.2.2.2 h0).2.1.2.2.1
      have go : ∀ o' : Int, o' = o → p_X9_moveOn F (x + 1 + 1) M (fun M56 => p_X8_readTerm F PS (x + 1) ν M56 (fun M61 => p_X8_emit (x + 1) o' M61 (fun M66 => (xR (c + 1)) ∧ p_X8_readSum_7 F PS (x + 1) Q k ν (c + 1) M66))) := fun o' eo => by
        rw [eo]
        exact zC_mv hn hF h0 h (fun M1 h1 => f2 B M1 _ h1 (fun M2 h2 => a2 B M2 Q k c h2 (by omega) c0 c1 hq))
      have bd : (700 : Int) ≤ c → False := fun q => by omega
      unfold p_X8_readSum_7
      refine ⟨fun q => (bd q).elim, fun _ => ⟨fun q => absurd (h.1.1.trans h0) q, fun _ => ?_⟩⟩
      unfold p_X8_isEither
      rw [e4]
      refine ⟨fun q => ⟨fun r => absurd r (by decide), fun _ => ⟨fun r => absurd (e4.trans q) r, fun _ => go _ (by rw [ho, if_pos q])⟩⟩, fun q => ⟨fun r => absurd ⟨q, r⟩ ks, fun _ => ⟨fun r => absurd r (by decide), fun _ => ⟨fun _ => go _ (by rw [ho, if_neg q]), fun r => absurd (e4.symm.trans r) q⟩⟩⟩⟩
    · obtain ⟨k, rfl⟩ : ∃ k', k = k' + 1 := ⟨k - 1, by omega⟩
      have go : ∀ (o' : Int) (M1 : xMe), o' = 1 - o → zM b n m B ν s M1 → M1 m 4 = (s.p : Int) → (xR ((M1 m 4) + 1)) ∧ (∀ M51 : xMe, M51 = xw M1 m 4 ((M1 m 4) + 1) → p_X12_term F PM m M51 (fun M55 => p_X12_emit m o' M55 (fun M68 => p_X12_sum_4 F PM m Q k M68))) := fun o' M1 eo h1 k1 => by
        rw [eo, k1]
        refine ⟨⟨by omega, by omega⟩, fun M2 e2 => f3 B M2 _ (zM_m h1 h0 (fun c j cj => by
          rw [e2]
          by_cases hc : c = m
          · subst hc; rw [xw_j (by omega)]
          · rw [xw_b hc]) (by rw [e2, xw_j (by decide)]; exact h1.1.1) (by rw [e2, xw_j (by decide)]; exact h1.1.2) rfl rfl (fun _ => ⟨zte b n s.p, zte_le hJ.2.2.2.2, by rw [e2, xw_s, sg]; omega, rfl⟩)) (fun M3 h3 => a3 B M3 Q k h3 (by omega) hq)⟩
      unfold p_X12_sum_4
      refine zM_good h (fun _ => ⟨fun q => absurd q (by decide), fun _ => zM_next hn hF h0 h (fun M1 h1 _ => ⟨fun q => ?_, fun q => ?_⟩)⟩) (fun q => absurd h0 q)
      · have q' : zkd b n s.p = 43 := (zkd_by (by omega)).mpr q
        exact zM_next hn hF h0 h1 (fun M2 h2 k2 => ⟨fun r => absurd q r, fun _ => go _ M2 (by rw [ho, if_pos q']; rfl) h2 k2⟩)
      · have q' : zkd b n s.p ≠ 43 := fun r => q ((zkd_by (by omega)).mp r)
        refine zM_next hn hF h0 h1 (fun M2 h2 k2 => ⟨fun r => absurd ⟨q', fun t => r ((zkd_by (by omega)).mp t)⟩ ks, fun _ => zM_next hn hF h0 h2 (fun M3 h3 k3 => ⟨fun _ => go _ M3 (by rw [ho, if_neg q']; rfl) h3 k3, fun r => absurd r q⟩)⟩)
theorem z_term {PS : Int → xMe → (xMe → Prop) → Prop} {PM : xMe → (xMe → Prop) → Prop} {ν : Nat} (hn : n ≤ 700) (hF : 702 ≤ F) (hd : d ≤ 10) (hf : ∀ d', d ≤ d' → d' ≤ d + 1 → ∀ s, s.e = 0 → zJ n s d' → ∃ s', zPo n (d' + 1) s s' ∧ zSm b n x m ν s s' (fun M Q => p_X8_readFactor F PS (x + 1) ν M Q) (fun M Q => p_X12_factor F PM m M Q)) {s : zS} (h0 : s.e = 0) (hJ : zJ n s d) : ∃ s', zPo n (d + 1) s s' ∧ zSm b n x m ν s s' (fun M Q => p_X8_readTerm F PS (x + 1) ν M Q) (fun M Q => p_X12_term F PM m M Q) := by
  obtain ⟨s1, f1, f2, f3⟩ := hf d (Nat.le_refl _) (by omega) s h0 hJ
  by_cases e1 : s1.e = 0
  · obtain ⟨q1, q2, q3, q4⟩ := f1 e1
    obtain ⟨s2, g1, g2, g3⟩ := z_tl (x := x) (m := m) hn hF hd (hf (d + 1) (by omega) (Nat.le_refl _)) n s1 (by omega) e1 q1
    refine ⟨s2, fun q => ?_, fun B M Q h hq => ?_, fun B M Q h hq => ?_⟩
    · obtain ⟨a1, a2, a3, a4⟩ := g1 q
      exact ⟨a1, by omega, by omega, a4.trans q4⟩
    · show p_X8_readTerm F PS (x + 1) ν M Q
      unfold p_X8_readTerm
      exact f2 B M _ h (fun M1 h1 => g2 B M1 Q F 0 h1 (by omega) (by omega) (by omega) hq)
    · show p_X12_term F PM m M Q
      unfold p_X12_term
      exact f3 B M _ h (fun M1 h1 => g3 B M1 Q F h1 (by omega) hq)
  · refine ⟨s1, fun q => absurd q e1, fun B M Q h hq => ?_, fun B M Q h hq => ?_⟩
    · show p_X8_readTerm F PS (x + 1) ν M Q
      unfold p_X8_readTerm
      refine f2 B M _ h (fun M1 h1 => ?_)
      obtain ⟨k, rfl⟩ : ∃ k', F = k' + 1 := ⟨F - 1, by omega⟩
      show p_X8_readTerm_7 (k + 1) PS (x + 1) Q (k + 1) ν 0 M1
      unfold p_X8_readTerm_7
      exact ⟨fun _ => hq M1 h1, fun _ => ⟨fun _ => hq M1 h1, fun q => absurd (h1.1.1.symm.trans q) e1⟩⟩
    · show p_X12_term F PM m M Q
      unfold p_X12_term
      refine f3 B M _ h (fun M1 h1 => ?_)
      obtain ⟨k, rfl⟩ : ∃ k', F = k' + 1 := ⟨F - 1, by omega⟩
      show p_X12_term_4 (k + 1) PM m Q (k + 1) M1
      unfold p_X12_term_4
      exact zM_good h1 (fun q => absurd q e1) (fun _ => ⟨fun _ => hq M1 h1, fun q => absurd rfl q⟩)
theorem z_sum {PS : Int → xMe → (xMe → Prop) → Prop} {PM : xMe → (xMe → Prop) → Prop} {ν : Nat} (hn : n ≤ 700) (hF : 702 ≤ F) (hd : d ≤ 10) (hf : ∀ d', d ≤ d' → d' ≤ d + 1 → ∀ s, s.e = 0 → zJ n s d' → ∃ s', zPo n (d' + 1) s s' ∧ zSm b n x m ν s s' (fun M Q => p_X8_readTerm F PS (x + 1) ν M Q) (fun M Q => p_X12_term F PM m M Q)) {s : zS} (h0 : s.e = 0) (hJ : zJ n s d) : ∃ s', zPo n (d + 1) s s' ∧ zSm b n x m ν s s' (fun M Q => p_X8_readSum F PS (x + 1) ν M Q) (fun M Q => p_X12_sum F PM m M Q) := by
  obtain ⟨s1, f1, f2, f3⟩ := hf d (Nat.le_refl _) (by omega) s h0 hJ
  by_cases e1 : s1.e = 0
  · obtain ⟨q1, q2, q3, q4⟩ := f1 e1
    obtain ⟨s2, g1, g2, g3⟩ := z_sl (x := x) (m := m) hn hF hd (hf (d + 1) (by omega) (Nat.le_refl _)) n s1 (by omega) e1 q1
    refine ⟨s2, fun q => ?_, fun B M Q h hq => ?_, fun B M Q h hq => ?_⟩
    · obtain ⟨a1, a2, a3, a4⟩ := g1 q
      exact ⟨a1, by omega, by omega, a4.trans q4⟩
    · show p_X8_readSum F PS (x + 1) ν M Q
      unfold p_X8_readSum
      exact f2 B M _ h (fun M1 h1 => g2 B M1 Q F 0 h1 (by omega) (by omega) (by omega) hq)
    · show p_X12_sum F PM m M Q
      unfold p_X12_sum
      exact f3 B M _ h (fun M1 h1 => g3 B M1 Q F h1 (by omega) hq)
  · refine ⟨s1, fun q => absurd q e1, fun B M Q h hq => ?_, fun B M Q h hq => ?_⟩
    · show p_X8_readSum F PS (x + 1) ν M Q
      unfold p_X8_readSum
      refine f2 B M _ h (fun M1 h1 => ?_)
      obtain ⟨k, rfl⟩ : ∃ k', F = k' + 1 := ⟨F - 1, by omega⟩
      show p_X8_readSum_7 (k + 1) PS (x + 1) Q (k + 1) ν 0 M1
      unfold p_X8_readSum_7
      exact ⟨fun _ => hq M1 h1, fun _ => ⟨fun _ => hq M1 h1, fun q => absurd (h1.1.1.symm.trans q) e1⟩⟩
    · show p_X12_sum F PM m M Q
      unfold p_X12_sum
      refine f3 B M _ h (fun M1 h1 => ?_)
      obtain ⟨k, rfl⟩ : ∃ k', F = k' + 1 := ⟨F - 1, by omega⟩
      show p_X12_sum_4 (k + 1) PM m Q (k + 1) M1
      unfold p_X12_sum_4
      exact zM_good h1 (fun q => absurd q e1) (fun _ => ⟨fun _ => hq M1 h1, fun q => absurd rfl q⟩)
theorem zM_sumE (hF : 1 ≤ F) {s : zS} {ν : Int} (h0 : s.e ≠ 0) (h : zM b n m B ν s M) (hq : Q M) : ∀ k, 1 ≤ k → p_X12_sumR F m k M Q
  | 0, hk => by omega
  | k + 1, _ => by
    obtain ⟨f, rfl⟩ : ∃ k', F = k' + 1 := ⟨F - 1, by omega⟩
    unfold p_X12_sumR p_X12_sum p_X12_term p_X12_factor
    refine zM_good h (fun q => absurd q h0) (fun _ => ⟨fun q => absurd rfl q, fun _ => ?_⟩)
    show p_X12_term_4 _ _ m _ (f + 1) M
    unfold p_X12_term_4
    refine zM_good h (fun q => absurd q h0) (fun _ => ⟨fun _ => ?_, fun q => absurd rfl q⟩)
    show p_X12_sum_4 _ _ m _ (f + 1) M
    unfold p_X12_sum_4
    exact zM_good h (fun q => absurd q h0) (fun _ => ⟨fun _ => hq, fun q => absurd rfl q⟩)
theorem z_rec (hn : n ≤ 700) (hF : 702 ≤ F) (hb : ∀ j, j < n → 0 ≤ b j ∧ b j ≤ 255) : ∀ (j ν d k kk : Nat), ν + j = 4 → d ≤ 2 * ν → j < k → j + 1 < kk → ∀ s : zS, s.e = 0 → zJ n s d → ∃ s', zPo n (d + 1) s s' ∧ zSm b n x m ν s s' (p_X8_readSumR F (x + 1) k ν) (p_X12_sumR F m kk) := by
  intro j
  induction j with
  | zero =>
    intro ν d k kk hj hd hk hkk s h0 hJ
    obtain ⟨k, rfl⟩ : ∃ k', k = k' + 1 := ⟨k - 1, by omega⟩
    obtain ⟨kk, rfl⟩ : ∃ k', kk = k' + 1 := ⟨kk - 1, by omega⟩
    exact z_sum hn hF (by omega) (fun d1 a1 a2 s1 e1 J1 => z_term hn hF (by omega) (fun d2 c1 c2 s2 e2 J2 => z_fac hn hF hb (by omega) e2 J2 (by omega) (fun q => by omega) (fun B μ s3 M Q e3 h3 q3 => zM_sumE (by omega) e3 h3 q3 kk (by omega))) e1 J1) h0 hJ
  | succ j ih =>
    intro ν d k kk hj hd hk hkk s h0 hJ
    obtain ⟨k, rfl⟩ : ∃ k', k = k' + 1 := ⟨k - 1, by omega⟩
    obtain ⟨kk, rfl⟩ : ∃ k', kk = k' + 1 := ⟨kk - 1, by omega⟩
    exact z_sum hn hF (by omega) (fun d1 a1 a2 s1 e1 J1 => z_term hn hF (by omega) (fun d2 c1 c2 s2 e2 J2 => z_fac hn hF hb (by omega) e2 J2 (by omega) (fun q s3 e3 J3 => ih (ν + 1) d2 k kk (by omega) (by omega) (by omega) (by omega) s3 e3 J3) (fun B μ s3 M Q e3 h3 q3 => zM_sumE (by omega) e3 h3 q3 kk (by omega))) e1 J1) h0 hJ
end ZQ
