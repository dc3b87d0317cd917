section RSI
variable {F n sb b : Nat} {G : xGx} {t t' : xTh} {M M' : xMe} {L : List Int} {v : Int}
theorem s_size {Q : Int → xTh → xMe → Prop} (hF : 6 ≤ F) (v0 : 0 ≤ v) (v1 : v < 10000) (hq : Q ((rNu v).length : Int) t M) : p_J6_stringSize_0f7a4 F n t v M Q := by
  obtain ⟨F', rfl⟩ : ∃ F', F = F' + 1 + 1 + 1 + 1 := ⟨F - 4, by omega⟩
  unfold p_J6_stringSize_0f7a4
  refine ⟨fun q => absurd q (by omega), fun _ => ⟨⟨by omega, by omega⟩, fun z ez => ?_⟩⟩
  subst ez
  have up : ∀ (k n : Nat) (p p' i i' : Int), -v ≤ p → -100000 ≤ p → p ≤ 0 → 10 * p = p' → i + 1 = i' → 0 ≤ i → i < 10 → p_J6_stringSize_0f7a4_16 (F' + 1 + 1 + 1 + 1) Q k n (-v) 0 p' i' t M → p_J6_stringSize_0f7a4_16 (F' + 1 + 1 + 1 + 1) Q (k + 1) n (-v) 0 p i t M := fun k n p p' i i' hp h1 h2 e1 e2 i0 i1 hk => by
    unfold p_J6_stringSize_0f7a4_16
    exact ⟨fun q => absurd q (by omega), fun _ => ⟨fun _ => ⟨⟨by omega, by omega⟩, fun z ez => ⟨⟨by omega, by omega⟩, by rw [ez, e1, e2]; exact hk⟩⟩, fun q => absurd q (by omega)⟩⟩
  have fin : ∀ (k n : Nat) (p i : Int), p < -v → 0 ≤ i → i < 10 → Q i t M → p_J6_stringSize_0f7a4_16 (F' + 1 + 1 + 1 + 1) Q (k + 1) n (-v) 0 p i t M := fun k n p i hp i0 i1 hk => by
    unfold p_J6_stringSize_0f7a4_16
    exact ⟨fun q => absurd q (by omega), fun _ => ⟨fun q => absurd q (by omega), fun _ => ⟨⟨by omega, by omega⟩, by rw [Int.add_zero]; exact hk⟩⟩⟩
  unfold p_J6_stringSize_0f7a4_11
  unfold rNu at hq
  by_cases c1 : v < 10
  · rw [if_pos c1] at hq
    exact fin _ _ _ _ (by omega) (by decide) (by decide) hq
  rw [if_neg c1] at hq
  by_cases c2 : v < 100
  · rw [if_pos c2] at hq
    exact up _ _ _ (-100) _ 2 (by omega) (by decide) (by decide) (by decide) (by decide) (by decide) (by decide) (fin _ _ _ _ (by omega) (by decide) (by decide) hq)
  rw [if_neg c2] at hq
  by_cases c3 : v < 1000
  · rw [if_pos c3] at hq
    exact up _ _ _ (-100) _ 2 (by omega) (by decide) (by decide) (by decide) (by decide) (by decide) (by decide) (up _ _ _ (-1000) _ 3 (by omega) (by decide) (by decide) (by decide) (by decide) (by decide) (by decide) (fin _ _ _ _ (by omega) (by decide) (by decide) hq))
  rw [if_neg c3] at hq
  exact up _ _ _ (-100) _ 2 (by omega) (by decide) (by decide) (by decide) (by decide) (by decide) (by decide) (up _ _ _ (-1000) _ 3 (by omega) (by decide) (by decide) (by decide) (by decide) (by decide) (by decide) (up _ _ _ (-10000) _ 4 (by omega) (by decide) (by decide) (by decide) (by decide) (by decide) (by decide) (fin _ _ _ _ (by omega) (by decide) (by decide) hq)))
/-- the last one or two digits -/
theorem s_72 {Q : Int → xTh → xMe → Prop} {w e : Int} (w0 : 0 ≤ w) (w1 : w < 100) (he : (if w < 10 then 1 else 2) ≤ e) (he2 : e ≤ (xn t b : Int)) (hn : xn t b ≤ 64) (h1 : w < 10 → Q (e - 1) t (xw M b (e - 1).toNat (48 + w))) (h2 : 10 ≤ w → Q (e - 2) t (xw (xw M b (e - 1).toNat (48 + w % 10)) b (e - 2).toNat (48 + w / 10))) : p_J6_getChars_ba4f3_72 F Q n (-w) b e 0 t M := by
  unfold p_J6_getChars_ba4f3_72
  rw [Int.neg_neg]
  have e1 : 1 ≤ e := by split at he <;> omega
  refine ⟨⟨by omega, by omega⟩, ⟨by omega, by omega⟩, ⟨w0, w1⟩, ⟨⟨by omega, by omega⟩, by omega, by omega⟩, fun M1 e1' => ⟨fun q => ?_, fun q => ?_⟩⟩
  · unfold p_J6_getChars_ba4f3_104
    refine ⟨fun _ => ?_, fun q => absurd rfl q⟩
    have g := h1 (by omega)
    rw [e1', show w % 10 = w by omega]; exact g
  · rw [if_neg (by omega)] at he
    refine ⟨⟨by omega, by omega⟩, ⟨by omega, by omega⟩, ⟨w0, w1⟩, ⟨⟨by omega, by omega⟩, by omega, by omega⟩, fun M2 e2' => ?_⟩
    unfold p_J6_getChars_ba4f3_104
    refine ⟨fun _ => ?_, fun q => absurd rfl q⟩
    have g := h2 (by omega)
    rw [e2', e1', show e + -1 + -1 = e - 2 by omega]; exact g
theorem s_chars2 {Q : Int → xTh → xMe → Prop} (hF : 6 ≤ F) (v0 : 0 ≤ v) (v1 : v < 10000) (hn : (4 : Int) ≤ (xn t b : Int) ∧ xn t b ≤ 64) (hz : ∀ j, M b j = 0) (hq : ∀ r M', (∀ c, c ≠ b → M' c = M c) → (∀ j, M' b j = (rNu v).getD j 0) → Q r t M') : p_J6_getChars_ba4f3 F n t v ((rNu v).length : Int) b M Q := by
  obtain ⟨F', rfl⟩ : ∃ F', F = F' + 1 + 1 := ⟨F - 2, by omega⟩
  unfold p_J6_getChars_ba4f3
  refine ⟨fun _ => ?_, fun q => absurd q (by omega)⟩
  unfold p_J6_getChars_ba4f3_12
  refine ⟨fun q => absurd rfl q, fun _ => ⟨⟨by omega, by omega⟩, fun z ez => ?_⟩⟩
  subst ez
  have low : ∀ (k n : Nat) (w e : Int) (M1 : xMe), 0 ≤ w → w < 100 → p_J6_getChars_ba4f3_72 (F' + 1 + 1) Q n (-w) b e 0 t M1 → p_J6_getChars_ba4f3_22 (F' + 1 + 1) Q (p_J6_getChars_ba4f3_72 (F' + 1 + 1) Q) (k + 1) n (-w) b e 0 t M1 := fun k n w e M1 a c h => by
    unfold p_J6_getChars_ba4f3_22
    exact ⟨fun _ => h, fun q => absurd q (by omega)⟩
  have mid : ∀ (k n : Nat) (e : Int) (M1 : xMe), 100 ≤ v → 2 ≤ e → e ≤ (xn t b : Int) → p_J6_getChars_ba4f3_22 (F' + 1 + 1) Q (p_J6_getChars_ba4f3_72 (F' + 1 + 1) Q) k n (-(v / 100)) b (e - 2) 0 t (xw (xw M1 b (e - 1).toNat (48 + v % 10)) b (e - 2).toNat (48 + v / 10 % 10)) → p_J6_getChars_ba4f3_22 (F' + 1 + 1) Q (p_J6_getChars_ba4f3_72 (F' + 1 + 1) Q) (k + 1) n (-v) b e 0 t M1 := fun k n e M1 hv he he2 h => by
    have td : Int.tdiv (-v) 100 = -(v / 100) := by rw [Int.neg_tdiv, Int.tdiv_eq_ediv_of_nonneg v0]
    unfold p_J6_getChars_ba4f3_22
    rw [td]
    refine ⟨fun q => absurd q (by omega), fun _ => ⟨⟨by decide, by omega, by omega⟩, fun z ez => ?_⟩⟩
    subst ez
    refine ⟨⟨by omega, by omega⟩, ⟨by omega, by omega⟩, fun z9 e9 => ⟨⟨by omega, by omega⟩, ⟨by omega, by omega⟩, ⟨⟨by omega, by omega⟩, by omega, by omega⟩, fun M2 e2 => ⟨⟨by omega, by omega⟩, ⟨by omega, by omega⟩, ⟨⟨by omega, by omega⟩, by omega, by omega⟩, fun M3 e3 => ?_⟩⟩⟩
    rw [e3, e2, show e + -1 + -1 = e - 2 by omega, show e + -1 = e - 1 by omega, show z9 % 10 = v % 10 by omega, show z9 / 10 = v / 10 % 10 by omega]
    exact h
  unfold rNu at hq ⊢
  by_cases c1 : v < 10
  · rw [if_pos c1] at hq ⊢
    refine low _ _ _ _ _ v0 (by omega) (s_72 v0 (by omega) (by rw [if_pos c1]; exact Int.le_refl 1) (by show (1 : Int) ≤ _; omega) hn.2 (fun _ => hq _ _ (fun c hc => xw_B hc) (fun j => ?_)) (fun q => absurd q (by omega)))
    show xw M b 0 (48 + v) b j = _
    rcases j with _ | j
    · exact xw_s
    · rw [xw_j (by omega), hz]; rfl
  rw [if_neg c1] at hq ⊢
  by_cases c2 : v < 100
  · rw [if_pos c2] at hq ⊢
    refine low _ _ _ _ _ v0 (by omega) (s_72 v0 (by omega) (by rw [if_neg c1]; exact Int.le_refl 2) (by show (2 : Int) ≤ _; omega) hn.2 (fun q => absurd q (by omega)) (fun _ => hq _ _ (fun c hc => by rw [xw_B hc, xw_B hc]) (fun j => ?_)))
    show xw (xw M b 1 (48 + v % 10)) b 0 (48 + v / 10) b j = _
    rcases j with _ | _ | j
    · exact xw_s
    · rw [xw_j (by omega), xw_s]; rfl
    · rw [xw_j (by omega), xw_j (by omega), hz]; rfl
  rw [if_neg c2] at hq ⊢
  by_cases c3 : v < 1000
  · rw [if_pos c3] at hq ⊢
    refine mid _ _ _ _ (by omega) (by show (2 : Int) ≤ 3; decide) (by show (3 : Int) ≤ _; omega) (low _ _ _ _ _ (by omega) (by omega) (s_72 (by omega) (by omega) (by rw [if_pos (by omega)]; show (1 : Int) ≤ 3 - 2; decide) (by show (3 : Int) - 2 ≤ _; omega) hn.2 (fun _ => hq _ _ (fun c hc => by rw [xw_B hc, xw_B hc, xw_B hc]) (fun j => ?_)) (fun q => absurd q (by omega))))
    show xw (xw (xw M b 2 (48 + v % 10)) b 1 (48 + v / 10 % 10)) b 0 (48 + v / 100) b j = _
    rcases j with _ | _ | _ | j
    · exact xw_s
    · rw [xw_j (by omega), xw_s]; rfl
    · rw [xw_j (by omega), xw_j (by omega), xw_s]; rfl
    · rw [xw_j (by omega), xw_j (by omega), xw_j (by omega), hz]; rfl
  rw [if_neg c3] at hq ⊢
  refine mid _ _ _ _ (by omega) (by show (2 : Int) ≤ 4; decide) (by show (4 : Int) ≤ _; omega) (low _ _ _ _ _ (by omega) (by omega) (s_72 (by omega) (by omega) (by rw [if_neg (by omega)]; show (2 : Int) ≤ 4 - 2; decide) (by show (4 : Int) - 2 ≤ _; omega) hn.2 (fun q => absurd q (by omega)) (fun _ => hq _ _ (fun c hc => by rw [xw_B hc, xw_B hc, xw_B hc, xw_B hc]) (fun j => ?_))))
  show xw (xw (xw (xw M b 3 (48 + v % 10)) b 2 (48 + v / 10 % 10)) b 1 (48 + v / 100 % 10)) b 0 (48 + v / 100 / 10) b j = _
  rcases j with _ | _ | _ | _ | j
  · rw [xw_s]; show _ = 48 + v / 1000; omega
  · rw [xw_j (by omega), xw_s]; rfl
  · rw [xw_j (by omega), xw_j (by omega), xw_s]; rfl
  · rw [xw_j (by omega), xw_j (by omega), xw_j (by omega), xw_s]; rfl
  · rw [xw_j (by omega), xw_j (by omega), xw_j (by omega), xw_j (by omega), hz]; rfl
theorem rNu_ch (v0 : 0 ≤ v) (v1 : v < 10000) : rCh (rNu v) := fun d hd => by
  unfold rNu at hd
  split at hd
  · simp at hd; omega
  · split at hd
    · simp at hd; omega
    · split at hd <;> (simp at hd; omega)
/-- a number is put behind nothing -/
theorem s_sbint {Q : Nat → xTh → xMe → Prop} (hF : 6 ≤ F) (hl : xlive t) (h : rSb t M sb b []) (v0 : 0 ≤ v) (v1 : v < 10000) (hn : 1 ≤ n) (hq : ∀ t' M' b', rSb t' M' sb b' (rNu v) → rFs sb b t M t' M' → (b' = b ∨ 22 < xk t b') → Q sb t' M') : p_J4_append_bf812 F n t sb v M Q := by
  have ln := rNu_len v
  unfold p_J4_append_bf812
  refine ⟨n, Nat.le_refl _, ?_⟩
  unfold p_J5_append_c97b9
  intro z4 e4
  rw [h.2.2.2.1] at e4
  have e4' : z4 = 0 := e4
  subst e4'
  refine ⟨0, Nat.zero_le _, s_size hF v0 v1 ⟨⟨by omega, by omega⟩, fun z11 e11 => ?_⟩⟩
  rw [Int.zero_add] at e11
  subst e11
  refine ⟨n - 0, Nat.le_refl _, s_ensure hl h (by show (0 : Int) ≤ _; omega) (by omega) (by omega) (fun t1 M1 b1 q1 q2 q3 q4 => ⟨0, Nat.zero_le _, ?_⟩)⟩
  obtain ⟨k0, k1, k2, k3, k4, k5, k6, k7, k8⟩ := id q1
  have sbb : sb ≠ b1 := fun e => by rw [e] at k1; omega
  unfold p_J5_isLatin1_aae02
  refine ⟨fun q => absurd k2 q, fun _ => ⟨fun q => absurd q (by decide), fun _ => ⟨b1, k4, k5, 0, Nat.zero_le _, ?_⟩⟩⟩
  refine s_chars2 hF v0 v1 (by omega) (fun j => by rw [k8]; rfl) (fun r M2 eB eZ M3 e3 => ?_)
  refine hq t1 M3 b1 ⟨rNu_ch v0 v1, k1, ?_, ?_, k4, k5, k6, by omega, fun j => ?_⟩ ⟨q3.1, fun a ha => ?_⟩ q4
  · rw [e3, xw_j (by decide), eB sb sbb]; exact k2
  · rw [e3, xw_s]
  · rw [e3, xw_b (fun e => sbb e.symm)]; exact eZ j
  · obtain ⟨f1, f2, f3⟩ := q3.2 a ha
    refine ⟨f1, f2, fun n1 n2 => ?_⟩
    obtain ⟨e4, e5⟩ := f3 n1 n2
    have nb1 : a ≠ b1 := fun e => by
      rcases q4 with z | z
      · exact n2 (e.trans z)
      · rw [e] at ha; omega
    exact ⟨by rw [e3, xw_B n1, eB a nb1]; exact e4, e5⟩
theorem rIs_live {N : Nat → Prop} {a : Nat} (h : rIs G t M a L N) : rIs G t M a L (fun c => N c ∨ 22 < xk t c) := by
  obtain ⟨h1, h2, h3⟩ := h
  refine ⟨h1, h2, ?_⟩
  rcases h3 with h | ⟨k1, k2, c, b1, b2, b3, b4, b5⟩
  · exact Or.inl h
  · exact Or.inr ⟨k1, k2, c, b1, b2, b3, b4, fun q => q.elim b5 (fun q => by omega)⟩
theorem rTx_fr {S : Nat → Prop} (f : rFr rNo t M t' M') : ∀ (d q : Nat) (K : List Int) (lv : Int), rNd S t M d q K → rTx t' M' d q lv = rTx t M d q lv
  | 0, _, _, _, h => h.elim
  | d + 1, q, K, lv, h => by
    obtain ⟨-, h2, h3⟩ := h
    obtain ⟨-, -, f3, -⟩ := f.2 q (by omega)
    obtain ⟨e1, e2⟩ := f3 id
    unfold rTx
    rw [e1, e2]
    rcases h3 with ⟨k0, -⟩ | ⟨k1, -⟩ | ⟨k2, k5, l, r, Kl, Kr, h6, h7, h8, h9, -⟩
    · rw [if_pos k0, if_pos k0]
    · rw [if_neg (by omega), if_pos k1, if_neg (by omega), if_pos k1]
    · rw [h6, h7]
      show (if _ then _ else if _ then _ else if _ then 40 :: (rTx t' M' d l _ ++ (_ ++ rTx t' M' d r _)) ++ [41] else rTx t' M' d l _ ++ (_ ++ rTx t' M' d r _)) = (if _ then _ else if _ then _ else if _ then 40 :: (rTx t M d l _ ++ (_ ++ rTx t M d r _)) ++ [41] else rTx t M d l _ ++ (_ ++ rTx t M d r _))
      rw [rTx_fr f d l Kl _ h8, rTx_fr f d r Kr _ h9]
def rCw : Nat → Nat
  | 0 => 0
  | d + 1 => 20 + 2 * rCw d
theorem dead_hi (hl : xlive t) {a : Nat} (h : xz t ≤ a) : 22 < xk t a := by
  by_cases e : xk t a ≤ 22
  · have := hl a e; omega
  · omega
set_option maxHeartbeats 8000000 in
theorem s_text {S : Nat → Prop} (hF : 6 ≤ F) : ∀ (d k n : Nat) (t : xTh) (M : xMe) (q : Nat) (lv : Int) (K : List Int) (Q : Nat → xTh → xMe → Prop), rNd S t M d q K → d ≤ k → rCw d ≤ n → xlive t → (rTx t M d q lv).length ≤ 34 → (0 ≤ lv ∧ lv ≤ 10) → (∀ s t' M', rIs G t' M' s (rTx t M d q lv) (fun c => xk t c ≤ 22) → rFr rNo t M t' M' → Q s t' M') → p_X12_textR F G k n t q lv M Q
  | 0, _, _, _, _, _, _, _, _, h, _, _, _, _, _, _ => h.elim
  | d + 1, 0, _, _, _, _, _, _, _, _, h, _, _, _, _, _ => by omega
  | d + 1, k + 1, n, t, M, q, lv, K, Q, hN, hk, hn, hl, hlen, hlv, hq => by
    have hN' := hN
    obtain ⟨-, kq, h3⟩ := hN
    have hn' : 20 + 2 * rCw d ≤ n := hn
    have dz := dead_hi hl (Nat.le_refl (xz t))
    have dz1 := dead_hi hl (Nat.le_succ (xz t))
    show p_X12_text F G (p_X12_textR F G k) n t q lv M Q
    -- the node stays
    have node : ∀ {t' M'}, rFr rNo t M t' M' → M' q = M q ∧ xr t' q = xr t q ∧ xk t' q = 12 := fun {t' M'} f => by
      obtain ⟨f1, -, f3, -⟩ := f.2 q (by omega)
      exact ⟨(f3 id).1, (f3 id).2, f1.trans kq⟩
    unfold p_X12_text
    rcases h3 with ⟨k0, n0, n1, eK⟩ | ⟨k1, n0, n1, eK⟩ | ⟨k2, k5, l, r, Kl, Kr, h6, h7, h8, h9, eK⟩
    · have eT : rTx t M (d + 1) q lv = rNu (M q 1) := by unfold rTx; rw [if_pos k0]
      rw [eT] at hq
      refine ⟨fun z => absurd k0 z, fun _ => ⟨by omega, fun a t1 M1 ea et eM => ⟨1, by omega, ?_⟩⟩⟩
      subst ea et eM
      refine s_sbnew (k := 0) hl (Nat.le_refl 1) (fun t2 M2 s2 f2 => ⟨1, by omega, ?_⟩)
      refine s_sbapp f2.1 s2 (rIs_lit (s := 23) (by decide)) (by decide) (Nat.le_refl 1) (fun t3 M3 b3 s3 f3 g3 => ⟨1, by omega, ?_⟩)
      have e23 : ([] : List Int) ++ rLt 23 = [] := by decide
      rw [e23] at s3
      have f3' : rFr rNo t M t3 M3 := rFr_fs f2 f3 dz dz1
      have db3 : 22 < xk t b3 := by
        rcases g3 with z | z
        · rw [z]; exact dz1
        · exact rFr_dead f2 z
      rw [(node f3').1]
      refine s_sbint hF f3'.1 s3 n0 n1 (Nat.le_refl 1) (fun t4 M4 b4 s4 f4 g4 => ⟨2, by omega, ?_⟩)
      have f4' := rFr_fs f3' f4 dz db3
      refine s_sbstr (G := G) f4'.1 s4 (Nat.le_refl 2) (fun a5 t5 M5 s5 f5 => hq a5 t5 M5 (rIs_N s5 (fun c _ hc => by rw [(f4'.2 c hc).1]; exact hc)) (rFr_trans f4' f5))
    · have eT : rTx t M (d + 1) q lv = rLt ([9, 1, 10, 11].getD (M q 1).toNat 0) := by unfold rTx; rw [if_neg (by omega), if_pos k1]
      rw [eT] at hq
      refine ⟨fun _ => ⟨fun z => absurd k1 z, fun _ => ⟨⟨n0, n1⟩, hq _ t M (rIs_lit ?_) (rFr_refl hl)⟩⟩, fun z => by omega⟩
      have : M q 1 = 0 ∨ M q 1 = 1 ∨ M q 1 = 2 ∨ M q 1 = 3 := by omega
      rcases this with e | e | e | e <;> rw [e] <;> decide
    · have e0 : rTx t M (d + 1) q lv = if rOw (M q 0) < lv then 40 :: (rTx t M d l (rOw (M q 0)) ++ (rOt (M q 0) ++ rTx t M d r (rOw (M q 0) + 1))) ++ [41] else rTx t M d l (rOw (M q 0)) ++ (rOt (M q 0) ++ rTx t M d r (rOw (M q 0) + 1)) := by
        show (if _ then _ else if _ then _ else _) = _
        rw [if_neg (by omega), if_neg (by omega), h6, h7]
        rfl
      have inlen : (rTx t M d l (rOw (M q 0)) ++ (rOt (M q 0) ++ rTx t M d r (rOw (M q 0) + 1))).length ≤ 34 ∧ (rOw (M q 0) < lv → (rTx t M d l (rOw (M q 0)) ++ (rOt (M q 0) ++ rTx t M d r (rOw (M q 0) + 1))).length + 2 ≤ 34) := by
        rw [e0] at hlen
        split at hlen
        · simp only [List.length_append, List.length_cons, List.length_nil] at hlen ⊢
          omega
        · rename_i ne
          exact ⟨hlen, fun z => absurd z ne⟩
      rw [e0] at hq
      clear e0 hlen
      generalize hOw : rOw (M q 0) = ow at *
      have ow2 : 1 ≤ ow ∧ ow ≤ 2 := by rw [← hOw]; unfold rOw; split <;> decide
      -- own is y0
      have c60 : ∀ n', 20 + 2 * rCw d ≤ n' → p_X12_text_60 F G (p_X12_textR F G k) Q n' q lv ow t M := fun n' hn9 => by
        unfold p_X12_text_60
        refine ⟨by omega, fun a t1 M1 ea et eM => ⟨1, by omega, ?_⟩⟩
        subst ea et eM
        refine s_sbnew (k := 0) hl (Nat.le_refl 1) (fun t2 M2 s2 f2 => ?_)
        obtain ⟨m2, r2, kk2⟩ := node f2
        have h8' := rNd_fr f2 (fun _ _ z => z) d l Kl h8
        have kl : xk t2 l = 12 := by
          cases d with
          | zero => exact h8.elim
          | succ d => exact h8'.2.1
        have el := rTx_fr f2 d l Kl ow h8
        simp only [List.length_append] at inlen
        refine ⟨l, by rw [r2]; exact h6, kl, rCw d, by omega, s_text hF d k (rCw d) t2 M2 l ow Kl _ h8' (by omega) (Nat.le_refl _) f2.1 (by rw [el]; omega) (by omega) (fun sl t3 M3 i3 f3 => ⟨1, by omega, ?_⟩)⟩
        rw [el] at i3
        have f3' := rFr_trans f2 f3
        have s3 := rSb_fr s2 f3
        have lb : xk t2 (xz t + 1) ≤ 22 := by have := s2.2.2.2.2.2.1; omega
        refine s_sbapp f3.1 s3 (rIs_N i3 (fun c _ e => by rw [e]; exact lb)) (by show 0 + _ ≤ 34; omega) (Nat.le_refl 1) (fun t4 M4 b4 s4 f4 g4 => ?_)
        rw [List.nil_append] at s4
        have f4' : rFr rNo t M t4 M4 := rFr_fs f3' f4 dz dz1
        have db4 : 22 < xk t b4 := by
          rcases g4 with z | z
          · rw [z]; exact dz1
          · exact rFr_dead f3' z
        obtain ⟨m4, r4, kk4⟩ := node f4'
        -- from the operation's sign on
        have c120 : ∀ (n3 op : Nat), 12 + rCw d ≤ n3 → op < 31 → rLt op = rOt (M q 0) → p_X12_text_120 F G (p_X12_textR F G k) Q n3 q lv ow (G.2.2.2.1 op) (xz t) t4 M4 := fun n3 op hn3 hop eop => by
          unfold p_X12_text_120
          refine ⟨1, by omega, s_sbapp f4'.1 s4 (rIs_lit hop) (by rw [eop]; omega) (Nat.le_refl 1) (fun t5 M5 b5 s5 f5 g5 => ?_)⟩
          rw [eop] at s5
          have f5' : rFr rNo t M t5 M5 := rFr_fs f4' f5 dz db4
          have db5 : 22 < xk t b5 := by
            rcases g5 with z | z
            · rw [z]; exact db4
            · exact rFr_dead f4' z
          obtain ⟨m5, r5, kk5⟩ := node f5'
          have h9' := rNd_fr f5' (fun _ _ z => z) d r Kr h9
          have kr : xk t5 r = 12 := by
            cases d with
            | zero => exact h9.elim
            | succ d => exact h9'.2.1
          have er := rTx_fr f5' d r Kr (ow + 1) h9
          refine ⟨r, by rw [r5]; exact h7, kr, ⟨by omega, by omega⟩, rCw d, by omega, s_text hF d k (rCw d) t5 M5 r (ow + 1) Kr _ h9' (by omega) (Nat.le_refl _) f5'.1 (by rw [er]; omega) (by omega) (fun sr t6 M6 i6 f6 => ⟨1, by omega, ?_⟩)⟩
          rw [er] at i6
          have f6' := rFr_trans f5' f6
          have s6 := rSb_fr s5 f6
          have lb5 : xk t5 b5 ≤ 22 := by have := s5.2.2.2.2.2.1; omega
          refine s_sbapp f6.1 s6 (rIs_N i6 (fun c _ e => by rw [e]; exact lb5)) (by rw [List.length_append]; omega) (Nat.le_refl 1) (fun t7 M7 b7 s7 f7 g7 => ⟨2, by omega, ?_⟩)
          rw [List.append_assoc] at s7
          have f7' : rFr rNo t M t7 M7 := rFr_fs f6' f7 dz db5
          refine s_sbstr (G := G) f7'.1 s7 (Nat.le_refl 2) (fun a8 t8 M8 s8 f8 => ⟨fun hle => ?_, fun hlt => ⟨by omega, fun a9 t9 M9 ea et eM => ⟨1, by omega, ?_⟩⟩⟩)
          · rw [if_neg (by omega)] at hq
            exact hq a8 t8 M8 (rIs_N s8 (fun c _ hc => by rw [(f7'.2 c hc).1]; exact hc)) (rFr_trans f7' f8)
          · subst ea et eM
            rw [if_pos hlt] at hq
            have f8' := rFr_trans f7' f8
            have dw := dead_hi f8.1 (Nat.le_refl (xz t8))
            have dw1 := dead_hi f8.1 (Nat.le_succ (xz t8))
            refine s_sbnew (k := 0) f8.1 (Nat.le_refl 1) (fun t10 M10 s10 f10 => ⟨1, by omega, ?_⟩)
            have i10 := rIs_fr (rIs_live s8) f10
            refine s_sbapp f10.1 s10 (rIs_lit (s := 28) (by decide)) (by decide) (Nat.le_refl 1) (fun t11 M11 b11 s11 f11 g11 => ⟨1, by omega, ?_⟩)
            have e28 : ([] : List Int) ++ rLt 28 = [40] := by decide
            rw [e28] at s11
            have lb10 : xk t10 (xz t8 + 1) = 13 := s10.2.2.2.2.2.1
            have ls10 : xk t10 (xz t8) = 22 := s10.2.1
            have i11 := rIs_fs i10 f11 (by omega) (by omega) (by omega) (Or.inr dw1)
            have f11' : rFr rNo t8 M8 t11 M11 := rFr_fs f10 f11 dw dw1
            have db11 : 22 < xk t8 b11 := by
              rcases g11 with z | z
              · rw [z]; exact dw1
              · exact rFr_dead f10 z
            refine s_sbapp f11.1 s11 (rIs_N i11 (fun c _ e => by rw [e]; exact Or.inl (Or.inr db11))) (by
              have := inlen.2 hlt
              simp only [List.length_append, List.length_cons, List.length_nil]
              omega) (Nat.le_refl 1) (fun t12 M12 b12 s12 f12 g12 => ⟨1, by omega, ?_⟩)
            have f12' : rFr rNo t8 M8 t12 M12 := rFr_fs f11' f12 dw db11
            have db12 : 22 < xk t8 b12 := by
              rcases g12 with z | z
              · rw [z]; exact db11
              · exact rFr_dead f11' z
            refine s_sbapp f12.1 s12 (rIs_lit (s := 29) (by decide)) (by
              have := inlen.2 hlt
              have l29 : (rLt 29).length = 1 := by decide
              rw [l29]
              simp only [List.length_append, List.length_cons, List.length_nil]
              omega) (Nat.le_refl 1) (fun t13 M13 b13 s13 f13 g13 => ⟨2, by omega, ?_⟩)
            have f13' : rFr rNo t8 M8 t13 M13 := rFr_fs f12' f13 dw db12
            have e29 : rLt 29 = [41] := by decide
            rw [e29] at s13
            have fT := rFr_trans f8' f13'
            exact s_sbstr (G := G) f13.1 s13 (Nat.le_refl 2) (fun a14 t14 M14 s14 f14 => hq a14 t14 M14 (rIs_N s14 (fun c _ hc => by rw [(fT.2 c hc).1]; exact hc)) (rFr_trans fT f14))
        rw [m4]
        refine ⟨fun z2 => ⟨fun z3 => ⟨fun z4 => ?_, fun z4 => ?_⟩, fun z3 => ?_⟩, fun z2 => ?_⟩
        · exact c120 _ 27 (by omega) (by decide) (by unfold rOt; rw [if_neg (by omega), if_neg (by omega), if_neg (by omega)]; decide)
        · exact c120 _ 26 (by omega) (by decide) (by unfold rOt; rw [if_neg (by omega), if_neg (by omega), if_pos (by omega)]; decide)
        · exact c120 _ 25 (by omega) (by decide) (by unfold rOt; rw [if_neg (by omega), if_pos (by omega)]; decide)
        · exact c120 _ 24 (by omega) (by decide) (by unfold rOt; rw [if_pos (by omega)]; decide)
      refine ⟨fun _ => ⟨fun _ => ⟨fun z => ?_, fun z => ?_⟩, fun z => by omega⟩, fun z => by omega⟩
      · have : ow = 2 := by rw [← hOw]; unfold rOw; rw [if_neg (by omega)]
        have g := c60 n hn'
        rw [this] at g
        exact g
      · have : ow = 1 := by rw [← hOw]; unfold rOw; rw [if_pos z]
        have g := c60 n hn'
        rw [this] at g
        exact g
end RSI
