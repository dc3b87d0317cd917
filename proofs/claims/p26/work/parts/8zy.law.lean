/-! THE LAW'S BEGINNING: a class, an empty Road, the calls on them; two seeds -/
section RLS0
variable {x bu rn r F n N k : Nat} {G : xGx} {xs : Nat → Int32} {Q : Int → xTh → xMe → Prop} {K4 : Nat → Int → Int → xTh → xMe → Prop} {x2 : Int} {A0 A A' : yA} {H H' : List yA} {t t' : xTh} {M M' : xMe}
/-- the class as it is made -/
theorem z_cls (h : oX11W t x) (hT : xTI M x) : yCs x t M (fun q => q = x + 80) (zFin zA0) [] ∧ yG0 (zFin zA0) := by
  obtain ⟨o1, o2, o3, o4⟩ := h
  obtain ⟨i1, ⟨i2, i3, -⟩, i4, i5⟩ := hT
  obtain ⟨w1, w2, w3, w4, w5, w6, w7, w8, w9, w10, w11, w12, w13, w14, w15⟩ := i4
  have fg : yG0 (zFin zA0) := zFin_g (s := zmk 0 0 0 zA0 (0, 0, 0)) zI_0 (Or.inl ⟨rfl, rfl⟩) (Nat.zero_le _)
  have z1 : yS zA0 1 = 0 := rfl
  have z2 : yS zA0 2 = 0 := rfl
  have z3 : yS zA0 3 = 0 := rfl
  have hR : zR (x + 44) M zA0 := by
    intro o i k ho hl
    unfold yL at hl
    rw [z1, z2, z3] at hl
    split at hl
    · rcases hl with q | q | q | q | q | q <;> obtain ⟨rfl, rfl⟩ := q
      · exact w6
      · exact w7
      · exact w8
      · exact w9
      · exact w10
      · exact w11
    · obtain ⟨rfl, rfl⟩ := hl; exact w1 _
    · omega
    · omega
    · omega
    · obtain ⟨rfl, rfl⟩ := hl; exact w2 _
    · obtain ⟨f, j, a1, a2, a3⟩ := hl; omega
    · omega
    · omega
    · omega
    · exact absurd rfl ho
    · obtain ⟨rfl, rfl⟩ := hl; exact w3 _
    all_goals first | omega | exact hl.elim
  have hC : yCR (x + 44) M (zFin zA0) := by
    refine ⟨yR_fin zI_0 hR (fun g f g0 g1 => by rw [z1] at g1; omega), ⟨w4 _, fun i v hv => by cases hv⟩, ⟨[], 0, w5 _, w5 _, Nat.zero_le _, by omega, fun _ => rfl, fun i v hv => (by cases hv), rfl⟩, fun s s0 s1 => ⟨w15 _, fun p hp => (by cases hp), fun p hp => (by cases hp), trivial⟩⟩
  have eK : yK (zFin zA0) = [-5] := rfl
  have oq := (o2 (x + 44) (Or.inr (Or.inl rfl))).2
  rw [o3] at oq
  refine ⟨⟨⟨hC, o3, by rw [eK]; exact o4, fun i v hv => ?_⟩, w12, by rw [w13]; decide, fun q hq => ?_, ⟨i5 1, 0, by omega, i5 2, fun i B hB => (by cases hB)⟩⟩, fg⟩
  · rw [eK] at hv
    rcases i with _ | i
    · have hv' : (-5 : Int) = v := Option.some.inj hv
      rw [← hv', o3]; exact w14
    · cases hv
  · have hq' : q = x + 80 := hq
    subst hq'
    refine ⟨⟨by rw [oq.2.2.1]; decide, by rw [oq.2.2.2.2.2.1]; decide⟩, Or.inl rfl, fun q' hq' => ?_⟩
    have hq2 : q' = x + 80 := hq'
    omega
end RLS0
section RLS1
variable {x c r F n N k : Nat} {G : xGx} {xs : Nat → Int32} {Q : Int → xTh → xMe → Prop} {x2 v : Int} {A A' : yA} {H H' : List yA} {t t' : xTh} {M M' : xMe}
/-- the class beside the buffer and the random numbers, before a Road is read -/
def rCb (x c : Nat) (t : xTh) (M : xMe) (A : yA) (H : List yA) : Prop := yCs x t M (fun q => q = x + 80) A H ∧ yHg H ∧ (oX11 t x ∧ oXQ t x) ∧ M x 4 = -1 ∧ (xk t (x + 436) = 14 ∧ xn t (x + 436) = 8 ∧ (∀ j, M (x + 436) j = 0) ∧ M (x + 2) 1 = 0) ∧ xk t (x + 437) = 19 ∧ xlive t ∧ xk t c ≤ 22
theorem rCb_cls (h : rCb x c t M A H) (hs : xqw t t') (hl : xlive t') (f : yFc x (fun q => q = x + 80) M M') (hc : yCs x t' M' (fun q => q = x + 80) A' H') (hg : yHg H') : rCb x c t' M' A' H' := by
  obtain ⟨h1, h2, h3, h4, ⟨b1, b2, b3, b4⟩, h5, h6, h7⟩ := h
  have g := rFr_cls hs hl f
  have f' : ∀ b, (b < x + 44 ∨ b = x + 436) → M' b = M b := fun b hb => f b (by omega) (by omega) (by omega) (fun q hq => by have : q = x + 80 := hq; omega)
  refine ⟨hc, hg, oX11_qw h3 hs, by rw [f' x (by omega)]; exact h4, ⟨(g.2 _ (by omega)).1.trans b1, (g.2 _ (by omega)).2.1.trans b2, fun j => by rw [f' _ (by omega)]; exact b3 j, by rw [f' _ (by omega)]; exact b4⟩, (g.2 _ (by omega)).1.trans h5, hl, by rw [(g.2 c h7).1]; exact h7⟩
theorem rCb_z (h : rCb x c t M A H) (e : t'.2 = t.2) (hl : xlive t') : rCb x c t' M A H := by
  obtain ⟨z, u⟩ := t
  obtain ⟨z', u'⟩ := t'
  have e : u' = u := e
  subst e
  obtain ⟨h1, h2, h3, h4, h5, h6, h7, h8⟩ := h
  exact ⟨h1, h2, h3, h4, h5, h6, hl, h8⟩
theorem rCb_fr (h : rCb x c t M A H) (hN : yN A) (f : rFr rNo t M t' M') : rCb x c t' M' A H := by
  obtain ⟨h1, h2, h3, h4, ⟨b1, b2, b3, b4⟩, h5, h6, h7⟩ := h
  have k2 : xk t (x + 2) = 9 := h3.1.2.2.1.2.2.1.1
  have k0 : xk t x = 11 := h3.1.1
  have m : ∀ b, xk t b ≤ 22 → M' b = M b := fun b hb => ((f.2 b hb).2.2.1 id).1
  exact ⟨yCs_ow h1 hN h2 h3.1 f (fun _ z => z.elim), h2, oX11_ow h3 f (fun _ z => z.elim), by rw [m x (by omega)]; exact h4, ⟨(f.2 _ (by omega)).1.trans b1, (f.2 _ (by omega)).2.1.trans b2, fun j => by rw [m _ (by omega)]; exact b3 j, by rw [m _ (by omega)]; exact b4⟩, (f.2 _ (by omega)).1.trans h5, f.1, by rw [(f.2 c h7).1]; exact h7⟩
/-- class, buffer and random numbers are made -/
theorem z_begin (hW : oX11W t x) (hT : xTI M x) (hz : xz t = x + 436) (hl : xlive t) : rCb x (x + 437) (xnw (xnw t 14 8) 19 0) (xw (xw0 (xw0 M (x + 436)) (x + 437)) (x + 437) 0 v) (zFin zA0) [] := by
  obtain ⟨hc, hA⟩ := z_cls hW hT
  have d1 : 22 < xk t (x + 437) := by
    by_cases e : xk t (x + 437) ≤ 22
    · have := hl _ e; omega
    · omega
  have hX : oX11 t x ∧ oXQ t x := ⟨hW.1, hW.2.1⟩
  have k2 : xk t (x + 2) = 9 := hX.1.2.2.1.2.2.1.1
  have k0 : xk t x = 11 := hX.1.1
  have f1 : rFr rNo t M (xnw t 14 8) (xw0 M (xz t)) := rFr_n (rFr_refl hl)
  have f2 : rFr rNo t M (xnw (xnw t 14 8) 19 0) (xw0 (xw0 M (xz t)) (xz (xnw t 14 8))) := rFr_n f1
  have z1 : xz (xnw t 14 8) = x + 437 := by show xz t + 1 = _; omega
  rw [z1, hz] at f2
  have f : rFr rNo t M (xnw (xnw t 14 8) 19 0) (xw (xw0 (xw0 M (x + 436)) (x + 437)) (x + 437) 0 v) := rFr_w f2 (Or.inl d1)
  have m : ∀ b, xk t b ≤ 22 → (xw (xw0 (xw0 M (x + 436)) (x + 437)) (x + 437) 0 v) b = M b := fun b hb => ((f.2 b hb).2.2.1 id).1
  have k6 : ∀ b, xk (xnw (xnw t 14 8) 19 0) b = if b = x + 437 then 19 else if b = x + 436 then 14 else xk t b := fun b => by
    show (if b = xz (xnw t 14 8) then 19 else if b = xz t then 14 else xk t b) = _
    rw [z1, hz]
  have n6 : xn (xnw (xnw t 14 8) 19 0) (x + 436) = 8 := by
    show (if x + 436 = xz (xnw t 14 8) then 0 else if x + 436 = xz t then 8 else xn t (x + 436)) = _
    rw [z1, hz, if_neg (by omega), if_pos rfl]
  refine ⟨yCs_ow hc hA.1.1.1.1 ⟨Nat.zero_le _, fun i B hB => (by cases hB)⟩ hX.1 f (fun _ z => z.elim), ⟨Nat.zero_le _, fun i B hB => (by cases hB)⟩, oX11_ow hX f (fun _ z => z.elim), by rw [m x (by omega)]; exact hT.1, ⟨by rw [k6, if_neg (by omega), if_pos rfl], n6, fun j => ?_, by rw [m (x + 2) (by omega)]; exact hT.2.1.2.1 1⟩, by rw [k6, if_pos rfl], f.1, by rw [k6, if_pos rfl]; decide⟩
  rw [xw_B (by omega), xw0_B (by omega)]
  exact xw0_self
/-- an empty Road: no packet comes to an end -/
theorem z_none {A : yA} (hJ : yJ A) (h3 : yS A 3 = 0) (ht : yS A 0 = 0) : yS (yAdv (-1) 7 A) 5 - yS A 5 = 0 := by
  obtain ⟨q1, q2, -⟩ := yAdv_I (pk := -1) 7 A hJ (by omega)
  have e3 : yS (yAdv (-1) 7 A) 3 = 0 := (q2.1 3 (Or.inl ⟨by decide, by decide⟩)).trans h3
  have a := q1.1.2.2.2.2.2.2.2.1
  have b := hJ.1.2.2.2.2.2.2.2.1
  rw [e3] at a
  rw [h3] at b
  rw [a, b]
  rfl
set_option maxHeartbeats 8000000 in
/-- a seed after the other -/
theorem k_4 (hF : 3100 ≤ F) (hQ : ∀ t M, Q 1 t M) : ∀ (d k n : Nat) (x2 : Nat) (t : xTh) (M : xMe), x2 + d = 2 → d < k → 53200 * d ≤ n → xlive t → p_L_law_4 F G N xs Q k n 1 (x2 : Int) t M := by
  intro d
  induction d with
  | zero =>
    intro k n x2 t M hi hk hn hl
    obtain ⟨k, rfl⟩ : ∃ k', k = k' + 1 := ⟨k - 1, by omega⟩
    unfold p_L_law_4
    exact ⟨fun _ => ⟨Or.inr rfl, hQ t M⟩, fun _ => ⟨fun _ => ⟨Or.inr rfl, hQ t M⟩, fun z => absurd z (by omega)⟩⟩
  | succ d ih =>
    intro k n x2 t M hi hk hn hl
    obtain ⟨k, rfl⟩ : ∃ k', k = k' + 1 := ⟨k - 1, by omega⟩
    unfold p_L_law_4
    refine ⟨fun _ => ⟨Or.inr rfl, hQ t M⟩, fun hx => ⟨fun z => absurd z (by omega), fun _ => ⟨fun z => absurd z (by decide), fun _ => ⟨by omega, fun x t1 M1 ex et eM => ⟨⟨by omega, by rw [et, ex]; rfl, fun j => by rw [eM]; exact xw0_self⟩, fun t2 M2 hW hz _ _ hT hl2 => ⟨by omega, fun bu t3 M3 eb et3 eM3 => ⟨by omega, fun rn t4 M4 er et4 eM4 => ⟨⟨by omega, hx⟩, 0, Nat.zero_le _, ?_⟩⟩⟩⟩⟩⟩⟩⟩
    have hz3 : xz t3 = x + 437 := by rw [et3]; show xz t2 + 1 = _; omega
    have hz4 : xz t4 = x + 438 := by rw [et4]; show xz t3 + 1 = _; omega
    obtain rfl : bu = x + 436 := by rw [eb, hz]
    obtain rfl : rn = x + 437 := by rw [er, hz3]
    unfold p_X13_init
    intro M5 e5
    have c5 : rCb x (x + 437) t4 M5 (zFin zA0) [] := by rw [e5, eM4, eM3, et4, et3]; exact z_begin hW hT hz hl2
    clear e5 eM4 eM3 et4 et3
    refine ⟨by omega, fun r t6 M6 e6 et6 eM6 => ⟨13, by omega, ?_⟩⟩
    subst e6 et6 eM6
    have hgo : rGo (zFin zA0) := rGo_fin (T := []) (u := (0, 0, 0)) ⟨zI_0, Or.inl ⟨rfl, rfl⟩, Nat.zero_le _, Or.inl rfl, Or.inl rfl⟩ (Nat.zero_le _)
    have hA := hgo.1
    have hN := hA.1.1.1.1
    have y0 : yS (zFin zA0) 0 = 0 := rfl
    have y2 : yS (zFin zA0) 2 = 0 := rfl
    have y3 : yS (zFin zA0) 3 = 0 := rfl
    refine s_new c5.2.2.2.2.2.2.1 (Nat.le_refl _) (fun t7 M7 σ RA hR f7 kr k13 => ?_)
    have c6 := rCb_fr c5 hN f7
    have c7 : rCb x (x + 451) t7 M7 (zFin zA0) [] := ⟨c6.1, c6.2.1, c6.2.2.1, c6.2.2.2.1, c6.2.2.2.2.1, c6.2.2.2.2.2.1, c6.2.2.2.2.2.2.1, by rw [hz4] at k13; exact k13⟩
    have hri : rRi (rUp (xz t4)) (rUp (xz t4)) σ RA [] t7 M7 (xz t4) (zFin zA0) := by
      obtain ⟨h1, h2, h3, h4⟩ := hR
      have hR0 : rRv (rUp (xz t4)) σ RA [] t7 M7 (xz t4) (yS zA0) (yC zA0) [-5] (yS zA0 1) (yS zA0 2) (yS zA0 3) (fun _ _ => 0) := ⟨h1, h2, ⟨h3.1, fun g g0 g1 => by
        obtain ⟨q1, q2, q3, q4, q5⟩ := h3.2 g g0 g1
        exact ⟨q1, q2, q3, q4, fun j _ _ => q5 _⟩⟩, h4⟩
      have z1 : yS zA0 1 = 0 := rfl
      exact rRv_fin hR0 zI_0 rfl (fun g f g0 g1 => by omega)
    refine ⟨1035, by omega, s_agrees (by omega) c7.1.1.1 hri hA.1.1 hgo.2.1 c7.2.2.1 (Nat.le_refl _) (fun t8 e8 hl8 => ⟨fun z => absurd z (by decide), fun _ => ?_⟩)⟩
    have c8 := rCb_z c7 e8 hl8
    refine ⟨c8.2.2.1, ?_⟩
    unfold p_X11_errorOffset
    refine ⟨fun z => absurd c8.2.2.2.1 z, fun _ => ⟨c8.2.2.1, w_undo0 c8.1 (fun _ _ => ⟨fun z => absurd rfl z, fun _ => ⟨⟨by omega, c8.2.2.1⟩, ?_⟩⟩)⟩⟩
    refine w_pass (by omega) (by unfold xR; omega) c8.1 c8.2.1 hA (fun _ z => absurd z (by decide)) (fun _ z9 _ hl9 => ⟨fun z => absurd rfl z, fun _ => ?_⟩)
    have c9 : rCb x (x + 451) (z9, t8.2) M7 (zFin zA0) [] := rCb_z c8 rfl hl9
    refine ⟨⟨by omega, c9.2.2.1⟩, ?_⟩
    refine w_pass (by omega) (by unfold xR; omega) c9.1 c9.2.1 hA (fun _ _ _ t10 M10 hc10 hf10 hw10 hl10 => ⟨fun z => absurd (z_none hA.1 y3 y0) z, fun _ => ?_⟩) (fun z => absurd ⟨by decide, by decide, by omega⟩ z)
    have c10 := rCb_cls c9 hw10 hl10 hf10 hc10 (yPush_g c9.2.1 hA)
    have hA10 : yG0 (yAdv (-1) 7 (zFin zA0)) := (rGo_adv 7 (zFin zA0) hgo (by omega)).1.1
    refine ⟨c10.2.2.1, w_undo (H := []) (B := zFin zA0) c10.1 c10.2.1 hA10 (fun t11 M11 hc11 hf11 hw11 hl11 => ⟨fun z => absurd rfl z, fun _ => ?_⟩)⟩
    have c11 := rCb_cls c10 hw11 hl11 hf11 hc11 ⟨Nat.zero_le _, fun i B hB => (by cases hB)⟩
    refine ⟨⟨by omega, c11.2.2.1⟩, ?_⟩
    refine w_send c11.1 c11.2.1 hA (fun _ z => absurd z (by omega)) (fun _ z12 _ hl12 => ⟨fun z => absurd rfl z, fun _ => ?_⟩) (fun _ z => absurd z (by omega)) (fun _ z => absurd z (by omega))
    have c12 : rCb x (x + 451) (z12, t11.2) M11 (zFin zA0) [] := rCb_z c11 rfl hl12
    refine ⟨⟨by omega, c12.2.2.1⟩, ?_⟩
    refine w_grant c12.1 c12.2.1 hA (fun _ z => absurd z (by omega)) (fun _ z13 _ hl13 => ⟨fun z => absurd rfl z, fun _ => ?_⟩) (fun _ z => absurd z (by omega)) (fun _ z => absurd z (by omega))
    have c13 : rCb x (x + 451) (z13, t11.2) M11 (zFin zA0) [] := rCb_z c12 rfl hl13
    obtain ⟨d1, d2, d3, d4, ⟨b1, b2, b3, b4⟩, d5, d6, d7⟩ := c13
    have l1 := d6 _ d7
    have hs : x + 436 ≤ x + 436 ∧ x + 436 ≤ x + 437 ∧ x + 436 ≠ x + 437 ∧ x + 436 < xz (z13, t11.2) ∧ x + 437 < xz (z13, t11.2) ∧ x + 452 ≤ xz (z13, t11.2) := ⟨by omega, by omega, by omega, by omega, by omega, by omega⟩
    refine k_131 hF ⟨by omega, by omega⟩ d1 d3 ⟨fun c hc => (by cases hc), Nat.zero_le _, ⟨b1, b2⟩, b3 0, fun i _ => ?_, b4, fun j hj => absurd (show j < 0 from hj) (Nat.not_lt_zero j)⟩ d6 d5 hs hA (by omega) (fun n' t' M' hn' hl' => ?_)
    · rw [b3]; simp [rPk]
    · rw [show (x2 : Int) + 1 = ((x2 + 1 : Nat) : Int) by omega]
      exact ih k n' (x2 + 1) t' M' (by omega) (by omega) (by omega) hl'
end RLS1
