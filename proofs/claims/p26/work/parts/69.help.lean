/-! help -/
section YHP
variable {x m : Nat} {t t' : xTh} {M M' M1 M2 M3 : xMe} {D : Nat → Prop} {A A' B : yA} {H H' : List yA} {p f v T z : Int} {Q : Int → xMe → Prop} {E : String → xMe → Prop}
/-- with a coupon of this value more -/
def yPlus (A : yA) (f v : Int) : yA := yCw A (yC A ++ [(f, v, yS A 0 + 9999, 0)])
def yHok (A : yA) (pk f : Int) (n : Nat) (v : Int) : Bool := yEnd pk (yAdv pk n (yPlus A f v))
/-- the first value from v on that helps, of so many -/
def yHl (P : Int → Bool) : Nat → Int → Int
  | 0, _ => -1
  | d + 1, v => if P v then v else yHl P d (v + 1)
theorem yHl_skip {P : Int → Bool} : ∀ (j d : Nat) (v : Int), (∀ i : Nat, i < j → i < d → P (v + i) = false) → yHl P d v = yHl P (d - j) (v + j)
  | 0, d, v, _ => by simp
  | j + 1, 0, v, _ => by simp [yHl]
  | j + 1, d + 1, v, h => by
    have h0 := h 0 (by omega) (by omega)
    rw [show v + ((0 : Nat) : Int) = v by omega] at h0
    rw [show yHl P (d + 1) v = if P v then v else yHl P d (v + 1) from rfl, h0]
    have := yHl_skip (P := P) j d (v + 1) (fun i a b => by have := h (i + 1) (by omega) (by omega); rw [show v + ((i + 1 : Nat) : Int) = v + 1 + i by omega] at this; exact this)
    rw [show d + 1 - (j + 1) = d - j by omega, show v + ((j + 1 : Nat) : Int) = v + 1 + j by omega]
    exact this
theorem yHl_skip0 {P : Int → Bool} {j d : Nat} {v : Int} (h : ∀ i : Nat, i < j → i < d → P (v + i) = false) (hd : d ≤ j) : yHl P d v = -1 := by
  rw [yHl_skip j d v h, show d - j = 0 by omega]; rfl
theorem yPlus_G (hA : yG0 A) (hl : (yC A).length < 30) (f0 : 0 ≤ f) (f1 : f < yS A 2) (v0 : 1 ≤ v) (v1 : v ≤ 9999) : yG0 (yPlus A f v) := by
  have ht := hA.2.1
  have ht0 := hA.1.1.2.2.2.2.2.2.1.2.2.2.2.2.1
  refine yG0_C hA (by rw [List.length_append]; simp; omega) (fun u hu => ?_) (fun u hu => ?_)
  · rcases List.mem_append.mp hu with hu | hu
    · exact hA.1.1.2.2.2.2.1.2 u hu
    · rw [List.mem_singleton] at hu
      subst hu
      refine ⟨f0, f1, v0, v1, ?_, ?_, ?_, ?_⟩ <;> dsimp only <;> omega
  · rcases List.mem_append.mp hu with hu | hu
    · exact hA.2.2.2 u hu
    · rw [List.mem_singleton] at hu
      subst hu
      exact Int.le_refl _
/-- so many more do no more, where the lack is greater -/
theorem yHok_lack {pk : Int} {n : Nat} {L : Int} (hA : yG0 A) (hl : (yC A).length < 30) (f0 : 0 ≤ f) (f1 : f < yS A 2) (v0 : 1 ≤ v) (hp : yPav f (yS A 0 + 9999) L (yPlus A f v) (yAdv pk n)) (h : yHok A pk f n v = false) (hn : n ≤ 500) : ∀ i : Nat, (i : Int) < max 1 L → v + i ≤ 999 → yHok A pk f n (v + i) = false := by
  intro i hi hv
  by_cases e : i = 0
  · subst e; rw [show v + ((0 : Nat) : Int) = v by omega]; exact h
  · have hd : yDl f (yS A 0 + 9999) (i : Int) (yPlus A f v) (yPlus A f (v + i)) := by
      refine Or.inr ⟨yC A, [], v, by omega, by omega, rfl, ?_, fun c hc _ => hA.2.2.2 c hc, fun c hc => by cases hc⟩
      rw [if_neg (by omega)]; rfl
    have k := hp i (yPlus A f (v + i)) (by omega) (by omega) (yPlus_G hA hl f0 f1 (by omega) (by omega)).1 hd
    unfold yHok at h ⊢
    have es : ∀ j, yS (yAdv pk n (yPlus A f (v + i))) j = yS (yAdv pk n (yPlus A f v)) j := by
      rcases k with ⟨-, k⟩ | ⟨L1, L2, w, -, -, k, -⟩
      · intro j; rw [k]
      · intro j; rw [k]; rfl
    unfold yEnd at h ⊢
    rw [es, es]; exact h
/-- how long help looks; its answer -/
def yHt (A : yA) (pk : Int) : Nat := if yS (yAdv pk 500 A) (87 + 9 * pk) = -1 then 500 else (yS (yAdv pk 500 A) (87 + 9 * pk) - yS A 0).toNat
def yHp (A : yA) (pk : Int) : Int := if yEnd pk A = true ∨ 30 ≤ (yC A).length then -1 else yHl (yHok A pk (yS A (81 + 9 * pk)) (yHt A pk)) 999 1
theorem yHt_b (hA : yG0 A) (p0 : 0 ≤ p) (p1 : p < yS A 3) (he : ¬ yEnd p A = true) : yHt A p ≤ 500 ∧ (yS (yAdv p 500 A) (87 + 9 * p) = -1 ∨ (yS A 0 ≤ yS (yAdv p 500 A) (87 + 9 * p) ∧ yS (yAdv p 500 A) (87 + 9 * p) = yS A 0 + yHt A p)) := by
  have ht := hA.2.1
  obtain ⟨n1, n2, n3, n4, n5, n6⟩ := id hA.1.1.1.1
  have h1 := yEg_adv (q := p) (pk := p) p0 (by omega) 500 A hA.1 (by omega)
  have h2 := hA.2.2.1 p p0 p1
  have h3 : ¬ 3 ≤ yS A (84 + 9 * p) := fun q => he (by unfold yEnd; simp only [decide_eq_true_eq, Bool.and_eq_true]; exact ⟨p0, p1, q⟩)
  have ht0 := hA.1.1.2.2.2.2.2.2.1.2.2.2.2.2.1
  unfold yHt
  split
  · rename_i e; exact ⟨by decide, Or.inl e⟩
  · omega
set_option maxHeartbeats 1000000 in
theorem s_X11_help_108 {F : Nat} {Q : Int → xTh → xMe → Prop} (hF : 1300 ≤ F) (ht : xr t (x + 83) 6 = some (xq t (x + 44))) (hg : yHg H) (hA : yG0 A) (hl : (yC A).length < 30) (f0 : 0 ≤ f) (f1 : f < yS A 2) (p0 : 0 ≤ p) (p1 : p < yS A 3) {n : Nat} (hn : n ≤ 500) : ∀ (k d : Nat) (v : Int) (M : xMe), v + d = 1000 → 1 ≤ v → d < k → yCs x t M D A H → (∀ M', yCs x t M' D A H → yFc x D M M' → Q (yHl (yHok A p f n) d v) t M') → p_X11_help_108 F x t Q E k p f (n : Int) v M := by
  have htime := hA.2.1
  have ht0 := hA.1.1.2.2.2.2.2.2.1.2.2.2.2.2.1
  have twr : xwr t (x + 83) 6 (some (xq t (x + 44))) = t := by
    unfold xwr
    refine Prod.ext rfl (Prod.ext rfl (Prod.ext rfl ?_))
    funext b j
    show (if b = x + 83 ∧ j = 6 then _ else _) = _
    split
    · rename_i e; rw [e.1, e.2, ← ht]; rfl
    · rfl
  intro k
  induction k with
  | zero => intro d v M _ _ hk; omega
  | succ k ih =>
    intro d v M hd v0 hk hc hq
    unfold p_X11_help_108
    refine ⟨fun q => ?_, fun q => ?_⟩
    · have : d = 0 := by omega
      subst this
      exact hq M hc yFc_refl
    · obtain ⟨d, rfl⟩ : ∃ d', d = d' + 1 := ⟨d - 1, by omega⟩
      refine s_trial (Q := fun t124 M124 => (xR ((M124 (x + 44) 7) + 9999)) ∧ p_X0_add (x + 108) f v ((M124 (x + 44) 7) + 9999) M124 (fun M148 => (∀ M156 : xMe, M156 = xw M148 (x + 83) 13 f → p_X10_advance F (x + 83) (n : Int) p (xq t (x + 83)) (xq t (x + 83) + 1) (xq t (x + 83) + 2) (xqn t (x + 83)) M156 (fun M166 => p_X5_hasEnded (x + 99) p M166 (fun r177 M177 => ((r177 = 0 → (xR (v + (max 1 (M177 (x + 83) 14)))) ∧ (∀ z200 : Int, z200 = v + (max 1 (M177 (x + 83) 14)) → p_X11_help_108 F x t Q E k p f (n : Int) z200 M177)) ∧ (r177 ≠ 0 → Q v t M177))))))) hc hg hA (fun M1 w1 c1 f1' k13 k14 => ?_)
      rw [twr] at w1 c1
      have e7 : M1 (x + 44) 7 = yS A 0 := yr0_7 c1.1.1.1
      rw [e7]
      refine ⟨⟨by omega, by omega⟩, ?_⟩
      refine s_X0_add (a := x + 108) w1.1.2.1 (by omega) (fun M2 u2 g2 M3 e3 => ?_)
      have g3 : ∀ b, ¬ (x + 83 ≤ b ∧ b < x + 119) → M3 b = M1 b := fun b hb => by rw [e3, xw_B (by omega), g2 b (by omega)]
      have c3 : yCs x t M3 D A H := by
        have := (yCs_tr (M' := M3) (s := some (xq t (x + 44))) c1 hA.1.1.1.1 hg (fun b b1 _ => g3 b b1)).1
        rw [twr] at this; exact this
      have w3 : yWd t M3 D (x + 83) (yPlus A f v) := by
        obtain ⟨⟨a1, a2, a3, a4⟩, a5, a6, a7⟩ := w1
        have hb := yPx_b c1.2.2.2.1 a5
        refine ⟨?_, a5, a6, fun i u hu => by rw [g3 _ (by omega)]; exact a7 i u hu⟩
        have hC : yCR (x + 83) M2 (yPlus A f v) := ⟨yR_f a1 (fun b b1 b2 _ => g2 b (by omega)), u2, yX_f a3 (fun b b1 b2 => g2 b (by omega)), yQc_o a4 (fun b b1 b2 => g2 b (by omega))⟩
        rw [e3]; exact yCR_13 hC (by decide)
      have l3 : M3 (x + 83) 13 = f := by rw [e3]; exact xw_s
      have l4 : M3 (x + 83) 14 = 1000000 := by rw [e3, xw_j (by decide), g2 _ (by omega)]; exact k14
      have hP := yPlus_G hA hl f0 f1 v0 (show v ≤ 9999 by omega)
      refine s_tadv hF hn (by show yS A 0 + n ≤ 11000; omega) c3 hA.1.1.1.1 hg w3 hP.1 (by rw [l4]; decide) (fun M4 a1 c4 f4 kp pv g4 => ?_)
      have hI4 := (yAdv_I (pk := p) n (yPlus A f v) hP.1 (by show yS A 0 + n ≤ 11000; omega))
      refine s_X5_hasEnded (w := x + 83) hI4.1.1.1.1 a1.1 ⟨fun r => ?_, fun r => ?_⟩
      · have hno : yHok A p f n v = false := by
          unfold yHok
          cases h : yEnd p (yAdv p n (yPlus A f v)) with
          | true => rw [h] at r; exact absurd r (by decide)
          | false => rfl
        have hk2 := kp.2 (by rw [l4]; decide)
        rw [l4] at hk2
        have pv' := pv (yS A 0 + 9999) (by show yS A 0 + (n : Int) + 1000 < _; omega)
        rw [l3] at pv'
        have sk := yHok_lack hA hl f0 f1 v0 pv' hno hn
        have hm : max 1 (M4 (x + 83) 14) = M4 (x + 83) 14 := by omega
        rw [hm] at sk ⊢
        refine ⟨⟨by omega, by omega⟩, fun z ez => ?_⟩
        obtain ⟨j, hj⟩ : ∃ j : Nat, M4 (x + 83) 14 = (j : Int) := ⟨(M4 (x + 83) 14).toNat, by omega⟩
        rw [hj] at sk ez hk2
        have fr : yFc x D M M4 := yFc_trans (yCs_tr (M' := M3) (s := none) hc hA.1.1.1.1 hg (fun b b1 _ => by rw [g3 b b1, f1' b b1])).2 f4
        have hsk : ∀ i : Nat, i < j → i < d + 1 → yHok A p f n (v + i) = false := fun i i1 i2 => sk i (by omega) (by omega)
        by_cases hjd : j ≤ d + 1
        · rw [ez]
          refine ih (d + 1 - j) (v + j) M4 (by omega) (by omega) (by omega) c4 (fun M5 c5 f5 => ?_)
          rw [← yHl_skip j (d + 1) v hsk]
          exact hq M5 c5 (yFc_trans fr f5)
        · rw [yHl_skip0 hsk (by omega)] at hq
          obtain ⟨k, rfl⟩ : ∃ k', k = k' + 1 := ⟨k - 1, by omega⟩
          unfold p_X11_help_108
          exact ⟨fun _ => hq M4 c4 fr, fun q => by omega⟩
      · have hyes : yHok A p f n v = true := by
          unfold yHok
          cases h : yEnd p (yAdv p n (yPlus A f v)) with
          | true => rfl
          | false => rw [h] at r; exact absurd rfl r
        have fr : yFc x D M M4 := yFc_trans (yCs_tr (M' := M3) (s := none) hc hA.1.1.1.1 hg (fun b b1 _ => by rw [g3 b b1, f1' b b1])).2 f4
        rw [show yHl (yHok A p f n) (d + 1) v = if yHok A p f n v then v else yHl (yHok A p f n) d (v + 1) from rfl, if_pos hyes] at hq
        exact hq M4 c4 fr
theorem s_X11_help {F : Nat} {Q : Int → xTh → xMe → Prop} (hF : 1300 ≤ F) (hc : yCs x t M D A H) (hg : yHg H) (hA : yG0 A) (h1 : 0 ≤ p → p < yS A 3 → ∀ t' M', yCs x t' M' D A H → yFc x D M M' → Q (yHp A p) t' M') (h2 : ¬ (0 ≤ p ∧ p < yS A 3) → E xIOe M) : p_X11_help F t x p M Q E := by
  obtain ⟨n1, n2, n3, n4, n5, n6⟩ := id hA.1.1.1.1
  have htime := hA.2.1
  have ht0 := hA.1.1.2.2.2.2.2.2.1.2.2.2.2.2.1
  unfold p_X11_help
  refine s_checkPacket hc.1.1 (fun p0 p1 => ?_) h2
  have h1 := h1 p0 p1
  unfold yHp at h1
  have e4 : M (x + 69) 4 = ((yC A).length : Int) := hc.1.1.2.1.1
  rw [e4]
  refine ⟨fun q => ?_, fun q => ?_⟩
  · rw [if_pos (Or.inr (by omega))] at h1; exact h1 t M hc yFc_refl
  · refine s_X5_hasEnded (w := x + 44) hA.1.1.1.1 hc.1.1.1 ⟨fun r => ⟨⟨by omega, by omega⟩, fun z ez => ?_⟩, fun r => ?_⟩
    · have hne : ¬ yEnd p A = true := fun h => by rw [if_pos h] at r; exact absurd r (by decide)
      rw [if_neg (by rintro (h | h); exact hne h; omega)] at h1
      have e81 : M (x + 61) p.toNat = yS A (81 + 9 * p) := yr17 hc.1.1.1 p0 p1
      rw [e81] at ez
      have hpk := hA.1.1.1.2.2.2.1 p p0 p1
      obtain ⟨hb1, hb2⟩ := yHt_b hA p0 p1 hne
      rw [← ez] at h1 hpk
      refine s_trial hc hg hA (fun M1 w1 c1 f1' k13 k14 => ?_)
      refine s_tadv (n := 500) hF (by decide) (by omega) c1 hA.1.1.1.1 hg w1 hA.1 (by rw [k14]; decide) (fun M2 a1 c2 f2 _ _ _ => ⟨⟨by omega, by omega⟩, fun z83 e83 => ?_⟩)
      have hs := (yAdv_I (pk := p) 500 A hA.1 (by omega)).2.1
      have e : M2 (x + 107) p.toNat = yS (yAdv p 500 A) (87 + 9 * p) := yr24 (w := x + 83) a1.1 p0 (by rw [hs.1 3 (by unfold yStat; omega)]; exact p1)
      rw [e] at e83
      have e7 : M2 (x + 44) 7 = yS A 0 := yr0_7 c2.1.1.1
      have fr : yFc x D M M2 := yFc_trans (yCs_tr (M' := M1) (s := none) hc hA.1.1.1.1 hg (fun b b1 _ => f1' b b1)).2 f2
      have hr : xr (xwr t (x + 83) 6 (some (xq t (x + 44)))) (x + 83) 6 = some (xq (xwr t (x + 83) 6 (some (xq t (x + 44)))) (x + 44)) := by
        have hx : xq (xwr t (x + 83) 6 (some (xq t (x + 44)))) (x + 44) = xq t (x + 44) := by unfold xq; rw [xr_wn (by omega)]
        rw [hx]; exact if_pos ⟨rfl, rfl⟩
      refine ⟨fun q2 => ?_, fun q2 => ?_⟩
      · rw [e7]
        refine ⟨⟨by omega, by omega⟩, fun z103 e103 => ?_⟩
        rw [show z103 = ((yHt A p : Nat) : Int) by omega]
        exact s_X11_help_108 hF hr hg hA (by omega) hpk.1 hpk.2.1 p0 p1 hb1 F 999 1 M2 rfl (by decide) (by omega) c2 (fun M3 c3 f3 => h1 _ M3 c3 (yFc_trans fr f3))
      · have : yHt A p = 500 := by unfold yHt; rw [if_pos (by omega)]
        rw [this] at h1
        exact s_X11_help_108 (n := 500) hF hr hg hA (by omega) hpk.1 hpk.2.1 p0 p1 (by decide) F 999 1 M2 rfl (by decide) (by omega) c2 (fun M3 c3 f3 => h1 _ M3 c3 (yFc_trans fr f3))
    · have hE : yEnd p A = true := by
        by_cases h : yEnd p A = true
        · exact h
        · rw [if_neg h] at r; exact absurd rfl r
      rw [if_pos (Or.inl hE)] at h1
      exact h1 t M hc yFc_refl
end YHP
