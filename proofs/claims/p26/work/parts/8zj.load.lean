/-! THE TEXT IS LOADED -/
/-- T is a text that the class's reader takes, up to the draft A -/
def rTt (T : List Int) (m : Nat) (A : yA) (u : Int × Int × Int) : Prop :=
  ∀ (F : Nat) (b : Nat → Int) (n x : Nat) (B M : xMe) (t : xTh) (Q : xTh → xMe → Prop) (K : xMe → Prop), n ≤ 700 → 702 ≤ F → zAt b 0 T → T.length ≤ n → zC b n x B (zs0 b n) M → (∀ M', zC b n x B (zst b n T.length A u) M' → p_X8_read_76 F (x + 1) t Q K (F - m) (m : Int) M') →
    p_X9_isWord F (x + 2) 0 M (fun r46 M46 => ((r46 = 0 → p_X8_fail (x + 1) (-2) M46 (fun M71 => p_X8_read_76 F (x + 1) t Q K F 0 M71)) ∧ (r46 ≠ 0 → p_X9_moveOn F (x + 2) M46 (fun M56 => p_X8_takeSign F (x + 1) 59 M56 (fun M62 => p_X8_read_76 F (x + 1) t Q K F 0 M62)))))
section RLD
variable {T L K : List Int} {m : Nat} {A A' A0 : yA} {u u' : Int × Int × Int} {F x : Nat} {D : Nat → Prop} {t : xTh} {M : xMe} {H : List yA} {Q : Int → xTh → xMe → Prop}
theorem rTt_0 : rTt (rLt 18) 0 zA0 (0, 0, 0) := by
  intro F b n x B M t Q K hn hF h hl hC hq
  have e18 : rLt 18 = rLt 0 ++ [59] := by decide
  have l0 : (rLt 0).length = 4 := by decide
  have l18 : (rLt 18).length = 5 := by decide
  rw [e18] at h
  rw [l18] at hl hq
  have hC' : zC b n x B (zst b n 0 zA0 (0, 0, 0)) M := hC
  obtain ⟨hp, hw⟩ := n_p (n := n) (s := 0) (A := zA0) (u := (0, 0, 0)) (zWd_17 (by decide)) h (by decide) (by omega)
  refine zC_isw hn hF (zWd_17 (s := 0) (by decide)) rfl hC' (fun _ => ⟨fun q => absurd q (by decide), fun _ => ?_⟩) (fun q => absurd hw q)
  refine n_mv (s := 0) hn hF (zWd_17 (by decide)) h (by decide) (by omega) hC' (fun M1 h1 _ => ?_)
  refine n_sign hn hF (by decide) (by decide) (zAt_w h) (by omega) h1 (fun M2 h2 => ?_)
  have := hq M2 (by rw [l0] at h2; exact h2)
  exact this
theorem rTt_s (h : rTt T m A u) (hm : m ≤ 100) (g : rSt L A u A' u') : rTt (T ++ L) (m + 1) A' u' := by
  intro F b n x B M t Q K hn hF hA hl hC hq
  rw [List.length_append] at hl hq
  obtain ⟨a1, a2⟩ := zAt_app hA
  rw [Nat.zero_add] at a2
  refine h F b n x B M t Q K hn hF a1 (by omega) hC (fun M1 h1 => ?_)
  rw [show F - m = F - (m + 1) + 1 by omega]
  obtain ⟨g1, g2⟩ := g F b n x T.length B M1 (fun M108 => (xR ((m : Int) + 1)) ∧ p_X8_read_76 F (x + 1) t Q K (F - (m + 1)) ((m : Int) + 1) M108) hn hF a2 hl h1 (fun M2 h2 => ⟨⟨by omega, by omega⟩, by
    rw [show (m : Int) + 1 = ((m + 1 : Nat) : Int) by omega]
    exact hq M2 h2⟩)
  have e4 : M1 (x + 1 + 1) 4 = zkd b n (zst b n T.length A u).p := (h1.2.2.2.2.2 rfl).2.1.2.2.1
  unfold p_X8_read_76
  exact ⟨fun q => by omega, fun _ => ⟨fun q => absurd h1.1.1 q, fun _ => ⟨fun q => absurd (e4.symm.trans q) g1, fun _ => g2⟩⟩⟩
/-- what is known of a draft that stands -/
def rDf (T : List Int) (A : yA) (u : Int × Int × Int) : Prop := zI A ∧ ((u.2.2 = 0 ∧ yK A = []) ∨ (u.2.2 = 1 ∧ zKd (yK A) 1)) ∧ (yK A).length ≤ T.length ∧ (u.1 = 0 ∨ u.1 = 1) ∧ (u.2.1 = 0 ∨ u.2.1 = 1)
set_option maxHeartbeats 8000000 in
theorem s_load_ok (hF : 3100 ≤ F) (hT : rTt T m A u) (hm : m ≤ 100) (hd : rDf T A u) (hc : yCs x t M D A0 H) (hg : yHg H) (hA : yG0 A0) (hX : oX11 t x ∧ oXQ t x) (hz : x + 453 ≤ xz t) (hl : xlive t) (hch : ∀ c ∈ T, 32 ≤ c ∧ c < 127) (hT7 : T.length ≤ 700) (h2 : (T.length : Int) ≤ M (x + 2) 1) (h3 : ∀ j, j < T.length → M (x + 3) j = T.getD j 0) (hq : ∀ D' t' M', xqw t t' → xlive t' → yCs x t' M' D' (zFin A) (yPush H A0) → yHg (yPush H A0) → (∀ q, D' q → D q ∨ xz t ≤ q) → rFr (fun a => a < x + 436 ∨ xk t a = 10 ∨ ∃ q, D q ∧ a = q + 2) t M t' M' → M' (x + 2) 1 = 0 → Q (yS A 3) t' M') : p_L_load F t x (T.length : Int) M (fun r t' M' => xqw t t' → xlive t' → Q r t' M') := by
  obtain ⟨T2, T3, T4, T5, T6⟩ := hd
  have hk : xk t (x + 44) ≤ 22 ∧ ∀ i, i < 8 → xk t (x + 124 + 39 * i) ≤ 22 := by
    have o := hX.1
    refine ⟨by rw [o.2.2.2.2.1.1]; decide, fun i hi => ?_⟩
    have := (o.2.2.2.2.2.2.2.2.2.2.2.2 i hi).2.1
    rw [show x + 124 + 39 * i = x + 122 + 2 + 39 * i by omega, this]; decide
  unfold p_L_load p_X11_load
  refine ⟨fun q => absurd q (by omega), fun q0 => ⟨fun q1 => ?_, fun q => absurd q (by omega)⟩⟩
  obtain ⟨b, hb⟩ : ∃ b : Nat → Int, b = fun j => T.getD j 0 := ⟨_, rfl⟩
  have hb7 : ∀ j, j < T.length → 32 ≤ b j ∧ b j < 127 := fun j hj => by
    rw [hb]
    have : T.getD j 0 = T[j] := by rw [List.getD_eq_getElem?_getD, List.getElem?_eq_getElem hj]; rfl
    show 32 ≤ T.getD j 0 ∧ T.getD j 0 < 127
    rw [this]; exact hch _ (List.getElem_mem hj)
  have at0 : zAt b 0 T := fun i v hv => by
    rw [hb, Nat.zero_add]
    show T.getD i 0 = v
    rw [List.getD_eq_getElem?_getD, hv]; rfl
  have oldq : ∀ q, D q → q + 2 < xz t := fun q hq => hl _ (hc.2.2.2.1 q hq).1.2
  obtain ⟨n, hn⟩ : ∃ n, n = T.length := ⟨_, rfl⟩
  rw [← hn] at q0 q1 hT7 h2 h3 hb7 ⊢
  have sp : (zst b n n A u).p = n := zps_end
  refine s_X8_read (b := b) (s' := zst b n n A u) hT7 (by omega) hz (fun j hj => ?_) (fun _ => ⟨by rw [sp]; exact Nat.le_refl n, T2, T3, by rw [sp, hn]; exact T4, T5, T6⟩) (fun B M1 t1 Q1 K1 h1 hk1 => ?_) (fun e0 => absurd rfl e0) (fun _ t1 M1 nw cr cd g2 g3 fr => ?_)
  · have := hb7 j hj
    have e3 := h3 j hj
    have eb : b j = T.getD j 0 := by rw [hb]
    rw [e3, ← eb]; omega
  · refine hT F b n x B M1 t1 Q1 K1 hT7 (by omega) at0 (by omega) h1 (fun M2 h2' => ?_)
    rw [← hn] at h2'
    obtain ⟨k, hk'⟩ : ∃ k, F - m = k + 1 := ⟨F - m - 1, by omega⟩
    have e4 : M2 (x + 1 + 1) 4 = -1 := by
      refine ((h2'.2.2.2.2.2 rfl).2.1.2.2.1).trans ?_
      rw [sp]; unfold zkd; rw [if_pos (Nat.le_refl n)]
    rw [hk']
    unfold p_X8_read_76
    exact ⟨fun _ => hk1 M2 h2', fun _ => ⟨fun _ => hk1 M2 h2', fun _ => ⟨fun _ => hk1 M2 h2', fun q => absurd e4 q⟩⟩⟩
  · intro M2 e2 M3 e3
    have b31 : ∀ c, c ≠ x → c ≠ x + 2 → M3 c = M1 c := fun c c1 c2 => by rw [e3, xw_B c1, e2, xw_B c2]
    have b3f : ∀ c, ¬ (x + 1 ≤ c ∧ c ≤ x + 43 ∧ c ≠ x + 3) → c ≠ x → c < xz t → M3 c = M c := fun c c1 c2 c3 => by rw [b31 c c2 (by omega), fr c c1 c3]
    have g23 : M3 (x + 1) 2 = 0 := by rw [b31 _ (by omega) (by omega)]; exact g2
    refine ⟨fun _ => ?_, fun q => absurd g23 q⟩
    have fg : yG0 (zFin A) := zFin_g (s := zst b n n A u) T2 T3 (by show (yK A).length ≤ 700; omega)
    have hc3 : yCs x t1 M3 D A0 H := yCs_x hc hA.1.1.1.1 hg nw hk (fun c c1 c2 => b3f c (by omega) (by omega) (by omega)) (fun q hq => by
      have a := oldq q hq
      have c := (hc.2.2.2.1 q hq).2.1
      exact b3f _ (by omega) (by omega) (by omega))
    refine s_X3_keep hc3 hg hA (fun t4 M4 et hc4 f4 => ?_)
    have nq := nw.2.2.1
    have f4f : ∀ c, (c < x + 44 ∨ (x + 119 ≤ c ∧ c < x + 122) ∨ x + 436 ≤ c) → (∀ q, D q → c ≠ q + 2) → M4 c = M3 c := fun c h1 h2 => f4 c (by omega) (by omega) (by omega) h2
    have nD : ∀ c, c < x + 44 ∨ (x + 436 ≤ c ∧ c < x + 453) → ∀ q, D q → c ≠ q + 2 := fun c h1 q hq => by
      have c := (hc.2.2.2.1 q hq).2.1
      omega
    have row4 : ∀ c, x + 4 ≤ c → c < x + 44 → M4 c = M1 c := fun c c1 c2 => (f4f c (by omega) (nD c (by omega))).trans (b31 c (by omega) (by omega))
    have cr4 : yCR (x + 4) M4 (zFin A) := yCR_fr fg.1.1.1.1 cr (fun b b1 b2 => row4 b (by omega) (by omega))
    obtain ⟨fN, fC, fQ⟩ := yG0_c fg
    refine s_X10_copyFrom (a := x + 44) (b := x + 4) (by omega) fN fC fQ cr4 (fun M5 c5 c13 c14 f5 => ?_)
    have r8 : M5 (x + 60) 8 = yS A 3 := (c5.1 16 8 3 yl16).trans (zFin_n (by decide))
    rw [r8]
    intro hw hl5
    obtain ⟨w1, w2, w3, w4, n8, w5, w6, w7, w8⟩ := id hc4
    have eqq : xq t4 (x + 4) = xq t1 (x + 4) := by
      rw [et]
      unfold xq
      rw [xr_wn (by omega)]
    have newq : ∀ q, D q → q + 1 ≠ xq t1 (x + 4) + 2 ∧ xq t1 (x + 4) + 1 ≠ q + 2 := fun q hq => by have := oldq q hq; omega
    have old5 : ∀ q, D q → M5 (q + 1) = M4 (q + 1) := fun q hq => by
      have c := (hc.2.2.2.1 q hq).2.1
      rw [f5 _ (by omega)]
    have xk4 : ∀ a, xk t4 a = xk t1 a := fun a => by rw [et]; rfl
    have xn4 : ∀ a, xn t4 a = xn t1 a := fun a => by rw [et]; rfl
    have wd4 : yWd t4 M4 (fun q => D q ∨ q = xq t1 (x + 4)) (x + 4) (zFin A) := by
      refine ⟨cr4, Or.inr eqq, ?_, fun i v hv => ?_⟩
      · unfold xqn
        rw [eqq, xn4]; exact nw.2.2.2.2.2
      · rw [eqq, f4f _ (by omega) (fun q hq => (newq q hq).2), b31 _ (by omega) (by omega)]
        exact cd i v hv
    have px : yPx x t4 (fun q => D q ∨ q = xq t1 (x + 4)) := by
      intro q hq
      rcases hq with hq | hq
      · obtain ⟨a1, a2, a3⟩ := w4 q hq
        refine ⟨a1, a2, fun q' hq' => ?_⟩
        rcases hq' with hq' | hq'
        · exact a3 q' hq'
        · rw [hq']; exact (newq q hq).1
      · rw [hq]
        refine ⟨⟨by rw [xk4, nw.2.2.2.1]; decide, by rw [xk4, nw.2.2.2.2.1]; decide⟩, Or.inr (by omega), fun q' hq' => ?_⟩
        rcases hq' with hq' | hq'
        · exact (newq q' hq').2
        · rw [hq']; omega
    have hp5 : M5 (xq t4 (x + 4) + 1) = M4 (xq t4 (x + 4) + 1) := by rw [eqq, f5 _ (by omega)]
    refine hq (fun q => D q ∨ q = xq t1 (x + 4)) _ M5 hw hl5 ⟨yWd_cp (x := x) wd4 c5 hp5, c13, by rw [c14]; decide, px, ?_⟩ (yPush_g hg hA) (fun q hq => ?_) ⟨hl5, fun a ha => ?_⟩ ?_
    · exact yHc_fr (D := D) (yPush_g hg hA) ⟨n8, w5, w6, w7, w8⟩ ⟨fun w h1 h2 => xr_wn (by omega), fun q hq => ⟨rfl, (w4 q hq).1⟩⟩ (fun q hq => Or.inl hq) (fun b b1 b2 => by rw [f5 b (by omega)]) old5
    · rcases hq with hq | hq
      · exact Or.inl hq
      · exact Or.inr (by omega)
    · obtain ⟨z, u9, ew, hle, -, -⟩ := hw
      obtain ⟨k1, k2, k3⟩ := hle.2 a ha
      have az := hl a ha
      rw [ew]
      refine ⟨k1, k2, fun o => ⟨?_, ?_⟩, fun e e' _ => ?_⟩
      · rw [f5 a (by omega), f4f a (by omega) (fun q hq e => o (Or.inr (Or.inr ⟨q, hq, e⟩))), b3f a (by omega) (by omega) az]
      · funext j; exact k3 j (fun z => o (Or.inr (Or.inl z.1)))
      · funext j; exact k3 j (fun z => e' z.1)
    · rw [f5 _ (by omega), f4f _ (by omega) (nD _ (by omega)), e3, xw_b (by omega), e2]; exact xw_s
end RLD
