theorem rPs_M {t : xTh} {r m : Nat} (h : rPs t r m) : rPs t r m := h
section RPB
variable {P S : Nat → Prop} {σ : Nat → Int} {RA : Int → Nat} {cl : List Nat} {t : xTh} {M : xMe} {r : Nat} {A B : yA} {F n : Nat} {Q : Int → xTh → xMe → Prop} {f g p : Int}
/-- the price of one passage, whatever the Road's term is -/
theorem rTm_val {o : Option Nat} {K : List Int} {s g e w v : Int} (hK : ∀ K' st, yEv s g e w (K ++ K') st = yEv s g e w K' (v :: st)) : yVal s g e w K = max 0 (min 9999 v) := by
  have h := hK [] []
  rw [List.append_nil] at h
  unfold yVal
  rw [h]
  rfl
set_option maxHeartbeats 8000000 in
theorem s_body {l : List Int} (h : rRi P S σ RA cl t M r A) (hI : yI A) (hl : xlive t) (hD : rDd P t) (hps : rPs t r 40) (hF : 50 ≤ F) (g0 : 0 ≤ g) (g1 : g < yS A 1) (f0 : 0 ≤ f) (f1 : f < yS A 2) (hql : yQ A (6 * g + f) = p :: l) (hcan : yCan p g f A) (hn : 4 + (yC A).length ≤ n + (ySp f 30 (yPe p g f A) (yC A)).length)
    (hq : ∀ cl' t' M', rRi P S σ RA cl' t' M' r (yPas p g f A) → rFr P t M t' M' → rPs t' r 40 → Q 1 t' M') : rBody F Q n r g f (RA (81 + 9 * p)) (yS A (561 + 4 * (6 * g + f))) t M := by
  obtain ⟨hI1, hI2, hI3, hI4, hI5, hI6, hI7, hI8⟩ := id hI
  obtain ⟨n1, n2, n3, n4, n5, n6⟩ := id hI1.1
  obtain ⟨p0, p1, hst, hfl, hgt⟩ := yHead hI1 hI3 hI4 g0 g1 f0 f1 hql
  have ok := rOk_of hI1
  obtain ⟨b9, -, -, -, c4⟩ := rRi_pk h
  obtain ⟨-, d2, d3⟩ := c4 p p0 p1
  obtain ⟨tb, tb1, tb2, tb3, tb4⟩ := rRi_tk h
  obtain ⟨tk1, tk2, tk3, tk4⟩ := tb4 g g0 (by omega)
  have hPp := rRi_pP h p0 p1
  have hPt : P (RA (561 + 24 * g)) := (h.2.2.2.2.2.2.1.2 g g0 (by omega)).2.1
  have hPr : P r := h.1.2
  have hrow : r ≠ RA (81 + 9 * p) := rSc_ne h d2
  have hrowt : RA (81 + 9 * p) ≠ RA (561 + 24 * g) := fun e => by
    have a := (h.2.2.2.2.2.2.1.2 g g0 (by omega)).1
    have b := (h.2.2.2.2.2.1.2 p p0 p1).1
    rw [e] at b; omega
  have hrt : r ≠ RA (561 + 24 * g) := rSc_ne h tk2
  have htok := hI2 g f g0 g1 f0 f1
  have hpk := hI3 p p0 p1
  have hpd := hI1.2.2.2.1 p p0 p1
  have hTot := yTot_b hI1.1 hI3
  have hbill := hI7.1 f f0 f1
  obtain ⟨i8a, i8b, i7a, i7b, i0a, i0b⟩ := hI7.2
  have h8 := (yI8_b hI8 hI1).2.2 f f0 f1
  have hcv := hI5
  have hro := hI1.2.2.1 f f0 f1
  have hs1 := hpk.2.2.2.2.1 (by omega)
  rw [hfl] at hs1
  have hpe : yPe p g f A = max 0 (yS A (83 + 9 * p) - yS A (561 + 4 * (6 * g + f))) := rfl
  have hsum0 : 0 ≤ ySum f (yC A) := ySum_ge (fun c hc => by have := hcv.2 c hc; omega)
  have hpes : yPe p g f A ≤ ySum f (yC A) := by
    rcases hcan with q | ⟨-, q⟩ <;> omega
  have hsl := ySp_len (f := f) 30 (yPe p g f A) (yC A)
  generalize hpeq : yPe p g f A = pe at *
  generalize htkq : yS A (561 + 4 * (6 * g + f)) = tk at *
  generalize hzq : yS A (83 + 9 * p) = z at *
  have y86 : yFx (86 + 9 * p) := yFx_p (by omega)
  have ytk : yFx (561 + 4 * (6 * g + f)) := yFx_t (by omega)
  have y8 : yFx 8 := ⟨by decide, by decide, by decide, by omega⟩
  have y35 : yFx (35 + 8 * f) := yFx_o (Or.inr (Or.inr ⟨by omega, by omega, by omega⟩))
  unfold rBody
  rw [rRi_p2 h p0 p1, hzq, d3]
  refine ⟨⟨by omega, by omega⟩, ⟨by omega, by omega⟩, fun z89 e89 => ⟨tb, tb1, tb2, ⟨g0, by omega⟩, _, tk1, tk2, ⟨by omega, by omega⟩, ⟨by omega, by omega⟩, ⟨f0, by omega⟩, fun M1 e1 => ?_⟩⟩
  have e89' : z89 = pe := by rw [e89, hpe]
  subst e89'
  have q1 := rRi_wt (v := max 0 (tk - z)) h ok g0 (by omega) f0 (by omega)
  have ok1 := rOk_w (v := max 0 (tk - z)) ok ytk
  rw [← e1] at q1
  have fr1 : rFr P t M t M1 := by rw [e1]; exact rFr_w (rFr_refl hl) (Or.inr hPt)
  have p1' : p < yS (yw A (561 + 4 * (6 * g + f)) (max 0 (tk - z))) 3 := by rw [yS_w, yup_n (by omega)]; exact p1
  have v5 : M1 (RA (81 + 9 * p)) 5 = yS A (86 + 9 * p) := by rw [e1, xw_b hrowt, rRi_p5 h p0 p1]
  rw [v5]
  refine ⟨⟨by omega, by omega⟩, ⟨by omega, by omega⟩, ⟨by omega, by omega⟩, fun M2 e2 => ?_⟩
  have q2 := rRi_w5 (v := yS A (86 + 9 * p) + z89) q1 ok1 p0 p1'
  have ok2 := rOk_w (v := yS A (86 + 9 * p) + z89) ok1 y86
  rw [← e2] at q2
  have fr2 : rFr P t M t M2 := by rw [e2]; exact rFr_w fr1 (Or.inr hPp)
  have v9 : M2 r 9 = yS A 8 := by rw [e2, xw_b hrow, e1, xw_b hrt]; exact h.2.1.2.2.1
  rw [v9]
  refine ⟨⟨by omega, by omega⟩, fun M3 e3 => ?_⟩
  have q3 := rRi_wr (fj := 9) (pl := 8) (v := yS A 8 + z89) q2 ok2 (by simp)
  have ok3 := rOk_w (v := yS A 8 + z89) ok2 y8
  rw [← e3] at q3
  have fr3 : rFr P t M t M3 := by rw [e3]; exact rFr_w fr2 (Or.inr hPr)
  have w2 : M3 (RA (81 + 9 * p)) 2 = z := by rw [e3, xw_b (Ne.symm hrow), e2, xw_j (by decide), e1, xw_b hrowt, rRi_p2 h p0 p1, hzq]
  have w7 : M3 (RA (81 + 9 * p)) 7 = yS A (88 + 9 * p) := by rw [e3, xw_b (Ne.symm hrow), e2, xw_j (by decide), e1, xw_b hrowt, rRi_p7 h p0 p1]
  have w0 : M3 r 0 = yS A 0 := by rw [e3, xw_j (by decide), e2, xw_b hrow, e1, xw_b hrt]; exact h.2.1.1
  -- what the state is after the three writes
  have hS3 : ∀ k, k ≠ 561 + 4 * (6 * g + f) → k ≠ 86 + 9 * p → k ≠ 8 → yS (yw (yw (yw A (561 + 4 * (6 * g + f)) (max 0 (tk - z))) (86 + 9 * p) (yS A (86 + 9 * p) + z89)) 8 (yS A 8 + z89)) k = yS A k := fun k a b c => by
    rw [yS_w, yup_n c, yS_w, yup_n b, yS_w, yup_n a]
  have finish : ∀ (n9 : Nat) (y0 : Int) (t9 : xTh) (M9 : xMe), 3 + (yC A).length ≤ n9 + (ySp f 30 z89 (yC A)).length → max 0 (min 9999 y0) = yVal z g z89 (yS A 0 - yS A (88 + 9 * p)) (yK A) → rFr rNo t M3 t9 M9 → p_X14_passes_183 F Q n9 r g f (RA (81 + 9 * p)) z89 y0 t9 M9 := fun n9 y0 t9 M9 hn9 hy fr9 => by
    have q9 := rRi_ex q3 fr9
    have hps9 := rPs_fr hps (rFr_trans (Ow := rNo) (t := t) (M := M3) (rFr_refl hl) fr9) (by have := h.1.1; omega)
    have fr9' : rFr P t M t9 M9 := rFr_trans fr3 (rFr_of fr9)
    refine s_183 (P := P) (S := S) (σ := σ) (RA := RA) (cl := cl) q9 ok3 fr9.1 (rDd_fr hD fr9) hps9 hF p0 (by rw [hS3 3 (by omega) (by omega) (by omega)]; exact p1) f0 (by rw [hS3 2 (by omega) (by omega) (by omega)]; exact f1) (by rw [hS3 _ (by omega) (by omega) (by omega)]; omega) hcv.1 (fun c hc => by have := hcv.2 c hc; omega) (by omega) hpes (by omega) hn9 (fun cl' t' M' n' u1 u2 u3 => ?_)
    rw [hS3 (35 + 8 * f) (by omega) (by omega) (by omega), hy] at u1
    change rRi P S σ RA cl' t' M' r (yCw (yw (yw (yw (yw A (561 + 4 * (6 * g + f)) (max 0 (tk - z))) (86 + 9 * p) (yS A (86 + 9 * p) + z89)) 8 (yS A 8 + z89)) (35 + 8 * f) (yS A (35 + 8 * f) + yVal z g z89 (yS A 0 - yS A (88 + 9 * p)) (yK A))) (ySp f 30 z89 (yC A))) at u1
    have hS4 : ∀ k, k ≠ 561 + 4 * (6 * g + f) → k ≠ 86 + 9 * p → k ≠ 8 → k ≠ 35 + 8 * f → yS (yCw (yw (yw (yw (yw A (561 + 4 * (6 * g + f)) (max 0 (tk - z))) (86 + 9 * p) (yS A (86 + 9 * p) + z89)) 8 (yS A 8 + z89)) (35 + 8 * f) (yS A (35 + 8 * f) + yVal z g z89 (yS A 0 - yS A (88 + 9 * p)) (yK A))) (ySp f 30 z89 (yC A))) k = yS A k := fun k a b c d => by
      rw [yS_C, yS_w, yup_n d]; exact hS3 k a b c
    have ok4 : rOk (yCw (yw (yw (yw (yw A (561 + 4 * (6 * g + f)) (max 0 (tk - z))) (86 + 9 * p) (yS A (86 + 9 * p) + z89)) 8 (yS A 8 + z89)) (35 + 8 * f) (yS A (35 + 8 * f) + yVal z g z89 (yS A 0 - yS A (88 + 9 * p)) (yK A))) (ySp f 30 z89 (yC A))) := rOk_w ok3 y35
    have ev1 : max 0 (tk - z) = tk - (z - z89) := by omega
    have hyPs : yPs p g f A = yup (yup (yup (yup (yup (yS A) (561 + 4 * (6 * g + f)) (max 0 (tk - z))) (86 + 9 * p) (yS A (86 + 9 * p) + z89)) 8 (yS A 8 + z89)) (35 + 8 * f) (yS A (35 + 8 * f) + yVal z g z89 (yS A 0 - yS A (88 + 9 * p)) (yK A))) (85 + 9 * p) (yS A (85 + 9 * p) + 1) := by
      unfold yPs
      rw [hpeq, htkq, hzq, ev1]
    have hpC : yC (yPas p g f A) = ySp f 30 z89 (yC A) := by
      show ySp f 30 (yPe p g f A) (yC A) = _
      rw [hpeq]
    refine s_410 (s := yS A (85 + 9 * p)) (L := yS A (33 + 8 * f)) (T := yS A 0) (dl := yS A (36 + 8 * f)) (z := z) (n5 := yS A 5) u1 ok4 u2.1 p0 (by rw [hS4 3 (by omega) (by omega) (by omega) (by omega)]; exact p1) f0 (by rw [hS4 2 (by omega) (by omega) (by omega) (by omega)]; exact f1) (hS4 0 (by omega) (by omega) (by omega) (by omega)) (hS4 5 (by omega) (by omega) (by omega) (by omega)) (hS4 _ (by omega) (by omega) (by omega) (by omega)) (hS4 _ (by omega) (by omega) (by omega) (by omega)) (hS4 _ (by omega) (by omega) (by omega) (by omega)) ((hS4 _ (by omega) (by omega) (by omega) (by omega)).trans hzq) (by omega) hs1 h8 (by omega) (fun hlt M' x1 x2 => ?_) (fun hge M' x1 x2 => ?_)
    · refine hq cl' t' M' (rRi_S x1 ?_ hpC rfl) (rFr_trans fr9' (rFr_trans u2 x2)) (rPs_M u3)
      rw [yPas_S, if_pos hlt, hyPs]
      rfl
    · refine hq cl' t' M' (rRi_S x1 ?_ hpC rfl) (rFr_trans fr9' (rFr_trans u2 x2)) (rPs_M u3)
      rw [yPas_S, if_neg hge, hyPs, hzq]
      show _ = yup (yup (yup (yup (yup _ (84 + 9 * p) 2) (84 + 9 * p) 3) (87 + 9 * p) (yS A 0)) 5 (yS A 5 + 1)) (36 + 8 * f) _
      rw [yup_yup]
      rfl
  have hT := q3.2.2.2.2.2.2.2.2
  refine ⟨fun b hb => ?_, fun hb => ⟨⟨by omega, by omega⟩, ?_⟩, fun b hb => ?_⟩
  · rw [hb] at hT; exact hT.2.1
  · rw [hb] at hT
    rw [w2]
    have hK : yK A = [-5] := hT
    exact finish n z t M3 (by omega) (by rw [hK]; rfl) (rFr_refl hl)
  · rw [hb] at hT
    refine ⟨by omega, fun a4 t4 M4 ea et eM => ?_⟩
    have hz := xlive_z hl
    have hpz : RA (81 + 9 * p) ≠ xz t := fun e => by rw [e] at d2; omega
    have hrz : r ≠ xz t := fun e => by have := h.1.1; rw [e] at this; omega
    subst ea et
    have nz : xn (xnw t 15 4) (xz t) = 4 := by rw [xn_nw, if_pos rfl]
    have nr : xn (xnw t 15 4) (RA (81 + 9 * p)) = 8 := by rw [xn_nw, if_neg hpz]; exact d3
    have frz : rFr rNo t M3 (xnw t 15 4) M4 := by rw [eM]; exact rFr_n (rFr_refl hl)
    have x2 : M4 (RA (81 + 9 * p)) 2 = z := by rw [eM, xw0_B hpz]; exact w2
    rw [nz, nr, x2]
    refine ⟨⟨by omega, by omega⟩, ⟨by omega, by omega⟩, ⟨by omega, by omega⟩, fun M5 e5 => ⟨⟨by omega, by omega⟩, ⟨by omega, by omega⟩, fun M6 e6 => ⟨⟨by omega, by omega⟩, ⟨by omega, by omega⟩, fun M7 e7 => ?_⟩⟩⟩
    have x0 : M7 r 0 = yS A 0 := by rw [e7, xw_b hrz, e6, xw_b hrz, e5, xw_b hrz, eM, xw0_B hrz]; exact w0
    have x7 : M7 (RA (81 + 9 * p)) 7 = yS A (88 + 9 * p) := by rw [e7, xw_b hpz, e6, xw_b hpz, e5, xw_b hpz, eM, xw0_B hpz]; exact w7
    rw [x0, x7]
    refine ⟨⟨by omega, by omega⟩, ⟨by omega, by omega⟩, ⟨by omega, by omega⟩, ⟨by omega, by omega⟩, fun M8 e8 => ⟨0, by omega, ?_⟩⟩
    have fr8 : rFr rNo t M3 (xnw t 15 4) M8 := by
      rw [e8, e7, e6, e5]
      exact rFr_w (rFr_w (rFr_w (rFr_w frz (Or.inl hz)) (Or.inl hz)) (Or.inl hz)) (Or.inl hz)
    have hnd : rNd S t M3 3 b (yK A) := hT
    refine s_value (s := z) (g := g) (e := z89) (w := yS A 0 - yS A (88 + 9 * p)) nz (by rw [e8, xw_j (by decide), e7, xw_j (by decide), e6, xw_j (by decide), e5, xw_s]) (by rw [e8, xw_j (by decide), e7, xw_j (by decide), e6, xw_s]) (by rw [e8, xw_j (by decide), e7, xw_s]) (by rw [e8, xw_s]) ⟨by omega, by omega⟩ ⟨by omega, by omega⟩ ⟨by omega, by omega⟩ ⟨by omega, by omega⟩ 3 b 0 (yK A) _ (rNd_fr fr8 (fun _ _ z => z) 3 b _ hnd) (fun v bv hv => ?_)
    exact finish _ v _ M8 (by omega) (rTm_val (o := none) hv).symm fr8
/-- one try at a gate -/
theorem s_passes (h : rRi P S σ RA cl t M r A) (hI : yI A) (hx : yQx A) (hl : xlive t) (hD : rDd P t) (hps : rPs t r 40) (hF : 50 ≤ F) (g0 : 0 ≤ g) (g1 : g < yS A 1) (f0 : 0 ≤ f) (f1 : f < yS A 2) (h0 : yQ A (6 * g + f) = [] → Q 0 t M) (h1 : ∀ p l, yQ A (6 * g + f) = p :: l → ¬ yCan p g f A → Q 0 t M)
    (h2 : ∀ p l, yQ A (6 * g + f) = p :: l → yCan p g f A → 4 + (yC A).length ≤ n + (ySp f 30 (yPe p g f A) (yC A)).length ∧ ∀ cl' t' M', rRi P S σ RA cl' t' M' r (yPas p g f A) → rFr P t M t' M' → rPs t' r 40 → Q 1 t' M') : p_X14_passes F n t r g f M Q := by
  obtain ⟨hI1, hI2, hI3, hI4, hI5, hI6, hI7, hI8⟩ := id hI
  obtain ⟨n1, n2, n3, n4, n5, n6⟩ := id hI1.1
  unfold p_X14_passes
  refine ⟨0, by omega, s_first h hI hx hF f0 f1 ?_ ?_⟩
  · intro e
    exact ⟨fun _ => h0 e, fun b e => by cases e⟩
  intro p l hql
  refine ⟨fun e => (nomatch e), fun b8 e => ?_⟩
  cases e
  obtain ⟨p0, p1, hst, hfl, hgt⟩ := yHead hI1 hI3 hI4 g0 g1 f0 f1 hql
  obtain ⟨b9, -, -, -, c4⟩ := rRi_pk h
  obtain ⟨-, d2, d3⟩ := c4 p p0 p1
  obtain ⟨tb, tb1, tb2, tb3, tb4⟩ := rRi_tk h
  obtain ⟨tk1, tk2, tk3, tk4⟩ := tb4 g g0 (by omega)
  obtain ⟨fb, fb1, fb2, fb3, fb4⟩ := rRi_fl h
  obtain ⟨fl1, fl2, fl3, fl4, -⟩ := fb4 f f0 f1
  have htok := hI2 g f g0 g1 f0 f1
  have hpk := hI3 p p0 p1
  obtain ⟨i8a, i8b, i7a, i7b, i0a, i0b⟩ := hI7.2
  have hsb := ySum_b (f := f) (yI5_v hI5)
  refine ⟨tb, tb1, tb2, ⟨g0, by omega⟩, _, tk1, tk2, ⟨f0, by omega⟩, fun z21 e21 => ?_⟩
  rw [tk4 g1 f f0 f1] at e21
  subst e21
  rw [d3, h.2.1.1, rRi_p7 h p0 p1, rRi_p2 h p0 p1]
  refine ⟨⟨by omega, by omega⟩, ⟨by omega, by omega⟩, fb, fb1, fb2, ⟨f0, by omega⟩, _, fl1, fl2, ⟨by omega, by omega⟩, ?_⟩
  rw [fl4]
  have h3 : 2 < (xn t (RA (81 + 9 * p)) : Int) := by omega
  have body : yCan p g f A → ∀ m, m = n → rBody F Q m r g f (RA (81 + 9 * p)) (yS A (561 + 4 * (6 * g + f))) t M := fun hc m hm => by
    subst hm
    obtain ⟨hn, hk⟩ := h2 p l hql hc
    exact s_body h hI hl hD hps hF g0 g1 f0 f1 hql hc hn hk
  refine ⟨fun q => r_62 h3 (fun z => body (Or.inl ?_) _ (by omega)) (fun z => h1 p l hql ?_), fun q => ⟨⟨by omega, by omega⟩, 0, by omega, s_sum h (yI5_v hI5) hF ⟨⟨by omega, by omega⟩, fun q2 => r_62 h3 (fun z => body (Or.inl ?_) _ (by omega)) (fun z => h1 p l hql ?_), fun q2 => r_62 h3 (fun z => body (Or.inr ⟨q, q2⟩) _ (by omega)) (fun z => h1 p l hql ?_)⟩⟩⟩
  · rw [rRi_p2 h p0 p1] at z; omega
  · rw [rRi_p2 h p0 p1] at z; unfold yCan; omega
  · rw [rRi_p2 h p0 p1] at z; omega
  · rw [rRi_p2 h p0 p1] at z; unfold yCan; omega
  · exact absurd (Or.inr (by decide)) z
end RPB
