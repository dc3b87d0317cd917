theorem s_X12_tick_136 {F m : Nat} {Q K : xMe → Prop} : ∀ (n k : Nat) (p : Int) (A : yA) (M : xMe), p + n = yS A 3 → n < k → 0 ≤ p → yDR (m + 2) M A → yI A → yLv A → (∀ M', yDR (m + 2) M' (yArs n p A) → yFm m M M' → K M') → p_X12_tick_136 F m Q K k p M := by
  intro n
  induction n with
  | zero =>
    intro k p A M hp hk p0 h hI hl hq
    obtain ⟨k, rfl⟩ : ∃ k', k = k' + 1 := ⟨k - 1, by omega⟩
    unfold p_X12_tick_136
    rw [show M (m + 2) 3 = yS A 3 from h.1 3 (by unfold yG; omega)]
    exact ⟨⟨by omega, by omega⟩, fun _ => hq M h (yFm_refl _ _), fun q => absurd q (by omega)⟩
  | succ n ih =>
    intro k p A M hp hk p0 h hI hl hq
    obtain ⟨k, rfl⟩ : ∃ k', k = k' + 1 := ⟨k - 1, by omega⟩
    have p1 : p < yS A 3 := by omega
    obtain ⟨n1, n2, n3, n4, n5, n6⟩ := hI.1.1
    obtain ⟨i1, i2, i3, i4⟩ := yI_ar1 hI hl p0 p1
    obtain ⟨b5, b6, -⟩ := yI8_b hI.2.2.2.2.2.2.2 hI.1
    have hno : ¬ (yS A (84 + 9 * p) = 2 ∨ (yS A (84 + 9 * p) = 0 ∧ yS A (82 + 9 * p) = yS A 0)) → p_X12_tick_136 F m Q K k (p + 1) M := fun hc => by
      have e1 : yAr1 p A = A := by unfold yAr1; rw [if_neg hc]
      exact ih k (p + 1) A M (by omega) (by omega) (by omega) h hI hl (fun M' d1 d2 => hq M' (by rw [yArs, e1]; exact d1) d2)
    have hyes : (yS A (84 + 9 * p) = 2 ∨ (yS A (84 + 9 * p) = 0 ∧ yS A (82 + 9 * p) = yS A 0)) → p_X12_arrive m p M (fun M85 => (xR (p + 1)) ∧ p_X12_tick_136 F m Q K k (p + 1) M85) := fun hc => by
      have e1 : yAr1 p A = yArr p A := by unfold yAr1; rw [if_pos hc]
      refine s_X12_arrive h hI p0 p1 (by omega) (by omega) b5 b6 (fun M1 d1 d2 => ⟨⟨by omega, by omega⟩, ?_⟩)
      exact ih k (p + 1) (yArr p A) M1 (by rw [← e1, i2.1.1 3 (by unfold yStat; omega)]; omega) (by omega) (by omega) d1 (by rw [← e1]; exact i1) (by rw [← e1]; exact i4) (fun M' f1 f2 => hq M' (by rw [yArs, e1]; exact f1) (yFm_trans (yFm_of d2) f2))
    unfold p_X12_tick_136 p_X12_packetAt
    rw [show M (m + 2) 3 = yS A 3 from h.1 3 (by unfold yG; omega)]
    dsimp only
    rw [yDa h (show 81 + 9 * p + 3 = 84 + 9 * p by omega) (by unfold yG; omega), yDa h (show 81 + 9 * p + 1 = 82 + 9 * p by omega) (by unfold yG; omega), yD0 h]
    refine ⟨⟨by omega, by omega⟩, fun q => absurd q (by omega), fun _ => ⟨⟨by omega, by omega⟩, ⟨by omega, by omega⟩, ⟨by omega, by omega⟩, ⟨by omega, by omega⟩, fun z ez => ?_⟩⟩
    rw [ez]
    refine ⟨fun h2 => hyes (by omega), fun h2 => ⟨fun h0 => ⟨⟨by omega, by omega⟩, hno (by omega)⟩, fun h0 => ⟨⟨by omega, by omega⟩, ⟨by omega, by omega⟩, ⟨by omega, by omega⟩, ⟨by omega, by omega⟩, ⟨by omega, by omega⟩, fun hs => ⟨⟨by omega, by omega⟩, hno (by omega)⟩, fun hs => hyes (by omega)⟩⟩⟩
theorem s_X12_tick_212 {F m : Nat} {g : Int} {Q : xMe → Prop} {K : Int → xMe → Prop} (hF : 1300 ≤ F) (g0 : 0 ≤ g) : ∀ (n k : Nat) (f : Int) (A : yA) (M : xMe), f + n = yS A 2 → n < k → 0 ≤ f → g < yS A 1 → yDR (m + 2) M A → yI A → yLv A → (∀ M', yDR (m + 2) M' (yOpf g n f A) → yFm m M M' → K g M') → p_X12_tick_212 F m Q K k g f M := by
  intro n
  induction n with
  | zero =>
    intro k f A M hp hk f0 g1 h hI hl hq
    obtain ⟨k, rfl⟩ : ∃ k', k = k' + 1 := ⟨k - 1, by omega⟩
    unfold p_X12_tick_212
    rw [show M (m + 2) 2 = yS A 2 from h.1 2 (by unfold yG; omega)]
    exact ⟨⟨by omega, by omega⟩, fun _ => hq M h (yFm_refl _ _), fun q => absurd q (by omega)⟩
  | succ n ih =>
    intro k f A M hp hk f0 g1 h hI hl hq
    obtain ⟨k, rfl⟩ : ∃ k', k = k' + 1 := ⟨k - 1, by omega⟩
    have f1 : f < yS A 2 := by omega
    obtain ⟨n1, n2, n3, n4, n5, n6⟩ := hI.1.1
    obtain ⟨i1, i2⟩ := yOpn_I 20 A hI g0 g1 f0 f1
    obtain ⟨i3, i4⟩ := yOpn_7 20 A hI g0 g1 f0 f1
    unfold p_X12_tick_212 p_X12_pairAt
    rw [show M (m + 2) 2 = yS A 2 from h.1 2 (by unfold yG; omega)]
    refine ⟨⟨by omega, by omega⟩, fun q => absurd q (by omega), fun _ => ⟨⟨by omega, by omega⟩, ⟨by omega, by omega⟩, ⟨by omega, by omega⟩, ⟨by omega, by omega⟩, s_X12_tick_228 hF g0 f0 20 F A M (hI.2.2.2.1.1.1 _).2.1 (by omega) h hI g1 f1 (fun M1 d1 d2 => ⟨⟨by omega, by omega⟩, ih k (f + 1) (yOpn g f 20 A) M1 (by rw [i2.1.1 2 (by unfold yStat; omega)]; omega) (by omega) (by omega) (by rw [i2.1.1 1 (by unfold yStat; omega)]; exact g1) d1 i1 (i4 hl) (fun M' f1' f2 => hq M' (by rw [yOpf]; exact f1') (yFm_trans d2 f2))⟩)⟩⟩
theorem s_X12_tick_200 {F m nf : Nat} {T : Int} {Q : xMe → Prop} (hF : 1300 ≤ F) (hT : 0 ≤ T ∧ T < 11000) : ∀ (n k : Nat) (g : Int) (A : yA) (M : xMe), g + n = yS A 1 → n < k → 0 ≤ g → (nf : Int) = yS A 2 → yS A 0 = T → yDR (m + 2) M A → yI A → yLv A → (∀ M', yDR (m + 2) M' (yw (yOpg nf n g A) 0 (T + 1)) → yFm m M M' → Q M') → p_X12_tick_200 F m Q k g M := by
  intro n
  induction n with
  | zero =>
    intro k g A M hp hk g0 hnf ht h hI hl hq
    obtain ⟨k, rfl⟩ : ∃ k', k = k' + 1 := ⟨k - 1, by omega⟩
    unfold p_X12_tick_200
    rw [show M (m + 2) 1 = yS A 1 from h.1 1 (by unfold yG; omega), yD0 h, ht]
    refine ⟨⟨by omega, by omega⟩, fun _ => ⟨⟨by omega, by omega⟩, ⟨by omega, by omega⟩, ⟨by omega, by omega⟩, fun M1 e1 => hq M1 ?_ (fun b h1 _ => by rw [e1, xw_B h1])⟩, fun q => absurd q (by omega)⟩
    rw [e1]; exact yDR_w (k := 0) (yI_r hI) h (by unfold yG; omega)
  | succ n ih =>
    intro k g A M hp hk g0 hnf ht h hI hl hq
    obtain ⟨k, rfl⟩ : ∃ k', k = k' + 1 := ⟨k - 1, by omega⟩
    have g1 : g < yS A 1 := by omega
    obtain ⟨n1, n2, n3, n4, n5, n6⟩ := hI.1.1
    obtain ⟨i1, i2, i3, i4⟩ := yI_opf (g := g) nf 0 A hI hl g0 g1 (by decide) (by omega)
    unfold p_X12_tick_200
    rw [show M (m + 2) 1 = yS A 1 from h.1 1 (by unfold yG; omega)]
    exact ⟨⟨by omega, by omega⟩, fun q => absurd q (by omega), fun _ => s_X12_tick_212 hF g0 nf F 0 A M (by omega) (by omega) (by decide) g1 h hI hl (fun M1 d1 d2 => ⟨⟨by omega, by omega⟩, ih k (g + 1) (yOpf g nf 0 A) M1 (by rw [i2.1.1 1 (by unfold yStat; omega)]; omega) (by omega) (by omega) (by rw [i2.1.1 2 (by unfold yStat; omega)]; exact hnf) (by rw [i2.2]; exact ht) d1 i1 i4 (fun M' f1' f2 => hq M' (by rw [yOpg]; exact f1') (yFm_trans d2 f2))⟩)⟩
set_option maxHeartbeats 4000000 in
theorem s_X12_tick {F m : Nat} {M : xMe} {A : yA} {Q : xMe → Prop} (hF : 1300 ≤ F) (h : yDR (m + 2) M A) (hJ : yJ A) (ht : yS A 0 < 11000) (hq : ∀ M', yDR (m + 2) M' (yTick A) → yFm m M M' → Q M') : p_X12_tick F m M Q := by
  obtain ⟨hI, h7⟩ := hJ
  obtain ⟨n1, n2, n3, n4, n5, n6⟩ := id hI.1.1
  have ht0 := hI.2.2.2.2.2.2.1.2.2.2.2.2
  have h7b := hI.2.2.2.2.2.2.1.2.2.2.1
  obtain ⟨a1, a2⟩ := yI_rf (t := 1) hI (by decide)
  have e7 : yS (yRf 1 A) 7 = yS A 7 := ySt_rfn.2 7 (by omega)
  obtain ⟨b1, b2, b3⟩ := yI_ex a1 (by rw [e7, a2.2]; exact h7)
  have k12 := yTk_trans a2 b2
  obtain ⟨c1, c2, c3, c4⟩ := yI_ars (yS A 3).toNat 0 _ b1 b3 (by decide) (by rw [k12.1.1 3 (by unfold yStat; omega)]; omega)
  have k13 := yTk_trans k12 c2
  have hlen := hI.2.2.2.2.1.1
  unfold p_X12_tick
  refine s_X12_tick_2 hI (by omega) h (fun M1 d1 d2 => ?_)
  have hCrf : yC (yRf 1 A) = yC A := rfl
  have hn4 : M1 (m + 2) 4 = ((yC A).length : Int) := d1.2.1.1
  rw [hn4]
  refine ⟨⟨by omega, by omega⟩, ⟨by omega, by omega⟩, fun z ez => ?_⟩
  subst ez
  have r7 : M1 (m + 2) 7 = yS A 7 := (d1.1 7 (by unfold yG; omega)).trans e7
  have r0 : M1 (m + 2) 0 = yS A 0 := (yD0 d1).trans a2.2
  refine s_X12_tick_85 (t := yS A 0) (by omega) (yC A).length (yC A) [] F M1 rfl (by omega) (by rw [List.append_nil]; exact d1.2.1) (by simp; omega) r0 ⟨by omega, by omega⟩ (fun M2 f1 f2 f3 f4 => ?_)
  rw [List.append_nil] at f1
  rw [r7] at f4
  have cE : yDR (m + 2) M2 (yExA (yRf 1 A)) := by
    have hA : yExA (yRf 1 A) = (yup (yS (yRf 1 A)) 7 (yS A 7 + (((yC A).length : Int) - (yExp (yS A 0) (yC A)).length)), yQ A, yExp (yS A 0) (yC A), yP A, yK A) := by
      unfold yExA
      rw [e7, a2.2]; rfl
    rw [hA]
    refine ⟨fun k hk => ?_, f1, yY_f d1.2.2.1 hI.2.2.2.2.2.1.1 (fun k hk => f3 k (by omega) (by omega) (by omega)), yQd_o hI.2.2.2.1.1 d1.2.2.2.1 (fun k hk => f3 k (by unfold yChi at hk; omega) (by unfold yChi at hk; omega) (by unfold yChi at hk; omega)), yPr_f d1.2.2.2.2 (fun k hk => f3 k (by omega) (by omega) (by omega))⟩
    by_cases e : k = 7
    · subst e
      refine f4.trans ?_
      show _ = yup (yS (yRf 1 A)) 7 (yS A 7 + (((yC A).length : Int) - (yExp (yS A 0) (yC A)).length)) 7
      rw [yup_s]
    · rw [f3 _ (by unfold yG at hk; omega) (by omega) (by unfold yG at hk; omega)]
      exact (d1.1 k hk).trans (yup_n e).symm
  refine s_X12_tick_136 (yS A 3).toNat F 0 _ M2 (by rw [k12.1.1 3 (by unfold yStat; omega)]; omega) (by omega) (by decide) cE b1 b3 (fun M3 g1 g2 => ?_)
  exact s_X12_tick_200 (T := yS A 0) (nf := (yS A 2).toNat) hF ⟨by omega, ht⟩ (yS A 1).toNat F 0 _ M3 (by rw [k13.1.1 1 (by unfold yStat; omega)]; omega) (by omega) (by decide) (by rw [k13.1.1 2 (by unfold yStat; omega)]; omega) k13.2 g1 c1 c4 (fun M4 p1 p2 => hq M4 p1 (yFm_trans (yFm_trans (yFm_trans d2 (yFm_of f2)) g2) p2))
