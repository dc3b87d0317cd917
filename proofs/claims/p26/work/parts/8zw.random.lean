/-! THE RANDOM ROAD, from its beginning to its end -/
section RRR
variable {x bu rn r n F m N j k : Nat} {G : xGx} {A0 A : yA} {H : List yA} {t t' : xTh} {M M' : xMe} {T L : List Int} {u : Int × Int × Int} {σ : Nat → Int} {RA : Int → Nat} {cl : List Nat} {K : List Int} {P Ow : Nat → Prop}
theorem rFr_d (f : rFr Ow t M t' M') (h : ∀ a, Ow a → 22 < xk t a) : rFr rNo t M t' M' := ⟨f.1, fun a ha => ⟨(f.2 a ha).1, (f.2 a ha).2.1, fun _ => (f.2 a ha).2.2.1 (fun o => by have := h a o; omega), (f.2 a ha).2.2.2⟩⟩
/-- a new Road -/
theorem s_new {Q : xTh → xMe → Prop} (hl : xlive t) (hn : 13 ≤ n) (hq : ∀ t' M' σ RA, rRc (rUp (xz t)) σ RA [] t' M' (xz t) (yS zA0) [] [-5] 0 0 0 0 → rFr rNo t M t' M' → xk t' (xz t) = 20 → xk t' (xz t + 13) ≤ 22 → Q t' M') : p_X14_init F n (xnw t 20 0) (xz t) (xw0 M (xz t)) Q := by
  have dz := xlive_z hl
  have f0 : rFr (fun a => a = xz t) t M (xnw t 20 0) (xw0 M (xz t)) := rFr_n (rFr_refl hl)
  have z1 : xz (xnw t 20 0) = xz t + 1 := rfl
  have k20 : xk (xnw t 20 0) (xz t) = 20 := if_pos rfl
  refine s_init f0.1 k20 hn (fun t1 M1 f1 ez hk h7 h7k h7n hg h13 m10 m11 m12 mo => ?_)
  rw [z1] at hk h7 h7k h7n hg ez
  have fr := rFr_trans f0 f1
  have kr : xk t1 (xz t) = 20 := (f1.2 _ (by rw [k20]; decide)).1.trans k20
  have hmo : ∀ j, j < 10 → M1 (xz t) j = 0 := fun j hj => by rw [mo j hj]; exact xw0_self
  have e13 : xr t1 (xz t) 13 = none := by
    rw [h13]
    show (if xz t = xz t then none else xr t (xz t) 13) = none
    rw [if_pos rfl]
  have out : ∀ k, 1 ≤ k → k ≤ 6 → ∀ n0 s0 d, n0 = (0 : Int) → (∃ b, xr t1 (xz t) k = some b ∧ rUp (xz t) b ∧ rOu t1 b n0 (fun s => xz t + 8 + ((s - 561) / 24).toNat) s0 d) := fun k k0 k1 n0 s0 d e => by
    obtain ⟨a1, a2, a3⟩ := hk k k0 k1
    exact ⟨_, a1, by show xz t ≤ _; omega, a2, by rw [a3, e]; rfl, fun i i0 i1 => absurd i1 (by omega)⟩
  refine hq t1 M1 (fun a => 561 + 24 * ((a : Int) - (xz t + 8))) (fun s => xz t + 8 + ((s - 561) / 24).toNat) ⟨⟨⟨kr, Nat.le_refl _⟩, ?_⟩, ⟨⟨out 1 (by omega) (by omega) _ _ _ rfl, fun i i0 i1 => absurd i1 (by omega)⟩, ⟨out 2 (by omega) (by omega) _ _ _ rfl, fun i i0 i1 => absurd i1 (by omega)⟩, ⟨out 3 (by omega) (by omega) _ _ _ rfl, fun i i0 i1 => absurd i1 (by omega)⟩, ⟨out 4 (by omega) (by omega) _ _ _ rfl, fun i i0 i1 => absurd i1 (by omega)⟩⟩, ⟨⟨_, h7, by show xz t ≤ _; omega, h7k, by rw [h7n]; rfl, fun i i0 i1 => ?_⟩, fun g g0 g1 => ?_⟩, ⟨?_, rfl, List.nodup_nil, fun i c v hc => by cases hc⟩, ?_, fun i j hi hj => ?_, ?_⟩ (rFr_d fr (fun a e => by rw [e]; exact dz)) kr ?_
  · unfold rSc
    rw [hmo 0 (by decide), hmo 8 (by decide), hmo 9 (by decide), m10, m11, m12]
    exact ⟨rfl, rfl, rfl, rfl, rfl, rfl⟩
  · have := (hg i.toNat (by omega)).1
    rw [this]
    show some _ = some (xz t + 8 + ((561 + 24 * i - 561) / 24).toNat)
    congr 1; omega
  · obtain ⟨-, a2, a3, a4⟩ := hg g.toNat (by omega)
    have e : xz t + 8 + ((561 + 24 * g - 561) / 24).toNat = xz t + 1 + 7 + g.toNat := by omega
    show 561 + 24 * (((xz t + 8 + ((561 + 24 * g - 561) / 24).toNat : Nat) : Int) - (xz t + 8)) = _ ∧ xz t ≤ xz t + 8 + ((561 + 24 * g - 561) / 24).toNat ∧ xk t1 (xz t + 8 + ((561 + 24 * g - 561) / 24).toNat) = 14 ∧ xn t1 (xz t + 8 + ((561 + 24 * g - 561) / 24).toNat) = 6 ∧ ∀ j, M1 (xz t + 8 + ((561 + 24 * g - 561) / 24).toNat) j = 0
    rw [e]
    exact ⟨by omega, by omega, a2, a3, a4⟩
  · obtain ⟨a1, a2, a3⟩ := hk 5 (by decide) (by decide)
    exact ⟨_, a1, by show xz t ≤ _; omega, a2, a3, fun i hi => absurd hi (Nat.not_lt_zero i)⟩
  · rw [e13]; rfl
  · have e : ∀ k, 1 ≤ k → k ≤ 7 → xr t1 (xz t) k = some (xz t + k) := fun k k0 k1 => by
      by_cases c : k = 7
      · rw [c, h7]
      · rw [(hk k k0 (by omega)).1]; congr 1; omega
    rw [e i (by omega) (by omega), e j (by omega) (by omega)]
    intro z
    have := Option.some.inj z
    omega
  · obtain ⟨a1, a2, a3⟩ := hk 6 (by decide) (by decide)
    exact ⟨_, a1, a2, by omega, fun i hi => absurd hi (by omega)⟩
  · have := (hg 5 (by decide)).2.1
    rw [show xz t + 13 = xz t + 1 + 7 + 5 by omega, this]; decide
set_option maxHeartbeats 8000000 in
theorem g_road {Q : Option Nat → xTh → xMe → Prop} (hF : 3100 ≤ F) (hn : 600 ≤ n) (hc : yCs x t M (fun q => q = x + 80) A0 H) (hg : yHg H) (hX : oX11 t x ∧ oXQ t x) (hB : rBu x bu t M []) (hl : xlive t) (krn : xk t rn = 19) (hs : x + 436 ≤ bu ∧ x + 436 ≤ rn ∧ bu ≠ rn ∧ bu < xz t ∧ rn < xz t ∧ x + 452 ≤ xz t) (hA : yG0 A0) (hq : ∀ t' M', rPost x rn (xz t) A0 H t' M' → Q (some (xz t)) t' M') : p_L_randomRoad F G n t x bu rn M Q := by
  unfold p_L_randomRoad
  refine ⟨by omega, fun a t0 M0 ea et eM => ⟨13, by omega, ?_⟩⟩
  subst ea et eM
  refine s_new hl (Nat.le_refl _) (fun t1 M1 σ RA hR1 f1 kr _ => ?_)
  generalize hr : xz t = r at *
  have hE1 : rEv x bu rn r A0 H t1 M1 [] := by
    obtain ⟨q1, q2, ⟨q3, q3'⟩, q4, q5, q6, q7⟩ := hB
    obtain ⟨fb1, fb2, fb3, -⟩ := f1.2 bu (by omega)
    have kx2 : xk t (x + 2) = 9 := hX.1.2.2.1.2.2.1.1
    obtain ⟨g1, g2, g3, -⟩ := f1.2 (x + 2) (by omega)
    refine ⟨⟨yCs_ow hc hA.1.1.1.1 hg hX.1 f1 (fun _ z => z.elim), hg, oX11_ow hX f1 (fun _ z => z.elim)⟩, ⟨q1, q2, ⟨fb1.trans q3, fb2.trans q3'⟩, by rw [(fb3 id).1]; exact q4, fun i hi => by rw [(fb3 id).1]; exact q5 i hi, by rw [(g3 id).1]; exact q6, fun j hj => absurd (show j < 0 from hj) (Nat.not_lt_zero j)⟩, f1.1, (f1.2 rn (by omega)).1.trans krn, ⟨hs.1, hs.2.1, hs.2.2.1, hs.2.2.2.1, hs.2.2.2.2.1, hs.2.2.2.2.2⟩, hA⟩
  have l18 : (xSl 18).toNat = 5 := by decide
  have l18' : (rLt 18).length = 5 := by decide
  refine ⟨0, Nat.zero_le _, s_writeL (by omega) hE1.2.1 hE1.1.2.2 (rEv_b hE1) (s := 18) (by decide) (by rw [l18]; decide) (fun M2 h2 e2 => ?_)⟩
  have hE2 := rEv_wr hE1 h2 e2
  have hR2 := rRc_wr hR1 hE1.2.2.2.2.1 hE1.2.2.1 e2
  rw [List.nil_append] at hE2
  refine s_bel (by decide) (by decide) hE2.2.2.1 (fun w M3 w0 w1 f3 _ => ?_)
  have hE3 := rEv_fr hE2 (rFr_mono f3 (fun c hc => Or.inl hc))
  have hR3 := rRc_fr hR2 f3 (fun c pc e => by have : r ≤ c := pc; omega)
  have hT : rTx0 (rLt 18) 0 zA0 (0, 0, 0) := ⟨rTt_0, zI_0, Or.inl ⟨rfl, rfl⟩, Nat.zero_le _, Or.inl rfl, Or.inl rfl⟩
  obtain ⟨d, rfl⟩ : ∃ d : Nat, w = (d : Int) := ⟨w.toNat, by omega⟩
  have z1 : yS zA0 1 = 0 := rfl
  refine g_22 (N0 := 480) (by omega) (fun n2 t2 M2 T m A σ RA cl hn2 hE hR hT hm h1 h2 h3 h4 h5 hl2 => ?_) d F _ t1 M3 (rLt 18) 0 zA0 σ RA [] (by omega) (by omega) hE3 hR3 hT (by omega) (by omega) rfl rfl rfl rfl (by rw [l18']; omega)
  -- gates stand
  have hI := hT.2.1
  obtain ⟨n1', n2', n3', n4', n5', n6'⟩ := id hI.1
  obtain ⟨-, ⟨⟨⟨b, x1, x2, x3, x4, x5⟩, x6⟩, -⟩, -⟩ := id hR
  unfold p_L_randomRoad_143
  refine ⟨b, x1, x3, ⟨by omega, by omega⟩, fun z ez => ?_⟩
  rw [x4] at ez
  subst ez
  have flows : ∀ (n3 : Nat) (M3 : xMe) (d : Nat), n2 ≤ n3 → rFr (fun c => c = rn) t2 M2 t2 M3 → (d = 0 ∨ 0 < yS A 1) → d ≤ 3 → p_L_randomRoad_164 F G Q n3 x bu rn r (yS A 1) (d : Int) t2 M3 := fun n3 M3 d hn3 f3 hd0 hd3 => by
    have hE3 := rEv_fr hE (rFr_mono f3 (fun c hc => Or.inl hc))
    have hR3 := rRc_fr hR f3 (fun c pc e => by have : r ≤ c := pc; have := hs.2.2.2.2.1; omega)
    unfold p_L_randomRoad_164
    refine g_166 (N0 := 430) (by omega) (by omega) (fun n4 t4 M4 T4 m4 A4 σ4 RA4 cl4 hn4 hE4 hR4 hT4 hm4 g1 g2 g3 g4 g5 hl4 => ?_) d F n3 t2 M3 T m A σ RA cl (by omega) hd0 (by omega) hE3 (by rw [h2]; exact hR3) hT (by omega) rfl (by omega) h3 h4 h5 (by omega)
    -- flows stand
    have hI4 := hT4.2.1
    obtain ⟨k1, k2, k3, k4, k5, k6⟩ := id hI4.1
    obtain ⟨-, ⟨-, ⟨⟨b4, y1, y2, y3, y4, y5⟩, y6⟩, -⟩, -⟩ := id hR4
    unfold p_L_randomRoad_351
    refine ⟨b4, y1, y3, ⟨by omega, by omega⟩, fun z ez => ?_⟩
    rw [y4] at ez
    subst ez
    have packets : ∀ (n5 : Nat) (M5 : xMe) (d : Nat), n4 ≤ n5 → rFr (fun c => c = rn) t4 M4 t4 M5 → (d = 0 ∨ 0 < yS A4 2) → d ≤ 9 → p_L_randomRoad_373 F G Q n5 x bu rn r (yS A 1) (yS A4 2) (d : Int) t4 M5 := fun n5 M5 d hn5 f5 hd0 hd9 => by
      have hE5 := rEv_fr hE4 (rFr_mono f5 (fun c hc => Or.inl hc))
      have hR5 := rRc_fr hR4 f5 (fun c pc e => by have : r ≤ c := pc; have := hs.2.2.2.2.1; omega)
      unfold p_L_randomRoad_373
      refine g_375 (N0 := 320) (gg := yS A 1) (ff := yS A4 2) (by omega) (by omega) (fun n6 t6 M6 T6 m6 A6 hn6 hMk6 hm6 e1 e2 e3 e4 e5 hl6 => ?_) d F n5 t4 M5 T4 m4 A4 (by omega) hd0 (by omega) ⟨hE5, ⟨σ4, RA4, cl4, by rw [g3]; exact hR5⟩, hT4⟩ (by omega) g1 rfl (by rw [g3]; omega) g4 g5 (by omega)
      -- packets stand
      have coupons : ∀ (n7 : Nat) (M7 : xMe) (d : Nat), n6 ≤ n7 → rMk x bu rn r A0 H [-5] t6 M7 T6 m6 A6 (0, 0, 0) → (d = 0 ∨ 0 < yS A4 2) → d ≤ 5 → p_L_randomRoad_545 F G Q n7 x bu rn r (yS A 1) (yS A4 2) (d : Int) t6 M7 := fun n7 M7 d hn7 hMk7 hd0 hd5 => by
        unfold p_L_randomRoad_545
        refine g_547 (N0 := 250) (gg := yS A 1) (ff := yS A4 2) (by omega) (by omega) (fun n8 t8 M8 T8 m8 A8 hn8 hMk8 hm8 e1' e2' e5' hl8 => ?_) d F n7 t6 M7 T6 m6 A6 (by omega) hd0 (by omega) hMk7 (by omega) e1 e2 (by rw [e4]; show 0 + d ≤ 6; omega) e5 (by omega)
        refine g_659 (N0 := 20) (by omega) (fun n9 t9 M9 T9 m9 A9 u9 K9 hn9 hMk9 hK9 hm9 e1'' e2'' hl9 => ?_) (by omega) hMk8 hm8 e1' e2' e5' hl8
        rw [← e1'', ← e2'']
        exact g_810 hF (by omega) hMk9 hK9 (by omega) (by omega) hq
      unfold p_L_randomRoad_530
      refine ⟨fun ne => ?_, fun e0 => coupons n6 M6 0 (by omega) hMk6 (Or.inl rfl) (by omega)⟩
      obtain ⟨hE6, ⟨σ6, RA6, cl6, hR6⟩, hT6⟩ := hMk6
      refine s_bel (by decide) (by decide) hE6.2.2.1 (fun w M7 w0 w1 f7 _ => ?_)
      obtain ⟨d7, rfl⟩ : ∃ d : Nat, w = (d : Int) := ⟨w.toNat, by omega⟩
      exact coupons _ M7 d7 (by omega) ⟨rEv_fr hE6 (rFr_mono f7 (fun c hc => Or.inl hc)), ⟨σ6, RA6, cl6, rRc_fr hR6 f7 (fun c pc e => by have : r ≤ c := pc; have := hs.2.2.2.2.1; omega)⟩, hT6⟩ (Or.inr (by omega)) (by omega)
    refine ⟨fun ne => ?_, fun e0 => packets n4 M4 0 (by omega) (rFr_refl hE4.2.2.1) (Or.inl rfl) (by omega)⟩
    refine s_bel (by decide) (by decide) hE4.2.2.1 (fun w M5 w0 w1 f5 _ => ?_)
    obtain ⟨d5, rfl⟩ : ∃ d : Nat, w = (d : Int) := ⟨w.toNat, by omega⟩
    exact packets _ M5 d5 (by omega) f5 (Or.inr (by omega)) (by omega)
  refine ⟨fun ne => ?_, fun e0 => flows n2 M2 0 (by omega) (rFr_refl hE.2.2.1) (Or.inl rfl) (by omega)⟩
  refine s_bel (by decide) (by decide) hE.2.2.1 (fun w M3 w0 w1 f3 _ => ?_)
  obtain ⟨d3, rfl⟩ : ∃ d : Nat, w = (d : Int) := ⟨w.toNat, by omega⟩
  exact flows _ M3 d3 (by omega) f3 (Or.inr (by omega)) (by omega)
end RRR
