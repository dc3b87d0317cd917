/-! A PACKET PASSES -/
theorem yS_q {A : yA} {s : Int} {l : List Int} : yS (yqw A s l) = yS A := rfl
theorem yS_C {A : yA} {C : List yCo} : yS (yCw A C) = yS A := rfl
theorem yS_P {A : yA} {P : List yPa} : yS (yPw A P) = yS A := rfl
def yPe (p g f : Int) (A : yA) : Int := max 0 (yS A (83 + 9 * p) - yS A (561 + 4 * (6 * g + f)))
def yPs (p g f : Int) (A : yA) : Int → Int := yup (yup (yup (yup (yup (yS A) (561 + 4 * (6 * g + f)) (yS A (561 + 4 * (6 * g + f)) - (yS A (83 + 9 * p) - yPe p g f A))) (86 + 9 * p) (yS A (86 + 9 * p) + yPe p g f A)) 8 (yS A 8 + yPe p g f A)) (35 + 8 * f) (yS A (35 + 8 * f) + yVal (yS A (83 + 9 * p)) g (yPe p g f A) (yS A 0 - yS A (88 + 9 * p)) (yK A))) (85 + 9 * p) (yS A (85 + 9 * p) + 1)
def yPas (p g f : Int) (A : yA) : yA :=
  (if yS A (85 + 9 * p) + 1 < yS A (33 + 8 * f) then yup (yPs p g f A) (84 + 9 * p) 2 else yup (yup (yup (yup (yPs p g f A) (84 + 9 * p) 3) (87 + 9 * p) (yS A 0)) 5 (yS A 5 + 1)) (36 + 8 * f) (yS A (36 + 8 * f) + yS A (83 + 9 * p)),
   (fun j => if j = 6 * g + f then (yQ A (6 * g + f)).tail else yQ A j), ySp f 30 (yPe p g f A) (yC A), yNote (yS A 0, g, f, yS A (83 + 9 * p), yPe p g f A) (yP A), yK A)
/-- the class's price -/
def yPz (w qc qs nq : Nat) (M : xMe) (K : List Int) : Prop := qs ≠ qc ∧ (qs < w ∨ w + 36 ≤ qs) ∧ (qc < w ∨ w + 36 ≤ qc) ∧ nq = K.length ∧ ∀ i v, K[i]? = some v → M qc i = v
def yFr (w qs : Nat) (M M' : xMe) : Prop := ∀ b, (b < w ∨ w + 36 ≤ b) → b ≠ qs → M' b = M b
theorem yFr_refl (w qs : Nat) (M : xMe) : yFr w qs M M := fun _ _ _ => rfl
theorem yFr_trans {w qs : Nat} {M M' N : xMe} (h : yFr w qs M M') (g : yFr w qs M' N) : yFr w qs M N := fun b h1 h2 => (g b h1 h2).trans (h b h1 h2)
theorem yFr_of {w qs : Nat} {M M' : xMe} (h : ∀ b, b < w ∨ w + 36 ≤ b → M' b = M b) : yFr w qs M M' := fun b h1 _ => h b h1
theorem yPz_fr {w qc qs nq : Nat} {M M' : xMe} {K : List Int} (h : yPz w qc qs nq M K) (g : yFr w qs M M') : yPz w qc qs nq M' K := by
  obtain ⟨h1, h2, h3, h4, h5⟩ := h
  exact ⟨h1, h2, h3, h4, fun i v hv => by rw [g qc h3 (Ne.symm h1)]; exact h5 i v hv⟩
theorem yVal_b {s g e w : Int} {K : List Int} : 0 ≤ yVal s g e w K ∧ yVal s g e w K ≤ 9999 := by unfold yVal; omega
theorem yFx_o {k : Int} (h : k = 8 ∨ k = 7 ∨ (35 ≤ k ∧ k < 81 ∧ (k - 33) % 8 = 2)) : yFx k := ⟨by omega, by omega, by omega, by omega⟩
set_option maxHeartbeats 4000000 in
theorem s_X10_passGate {F w q qc qs nq : Nat} {p g f : Int} {l : List Int} {M : xMe} {A : yA} {Q : xMe → Prop} (h : yCR w M A) (hz : yPz w qc qs nq M (yK A)) (hI : yI A) (hF : 1300 ≤ F) (hg0 : 0 ≤ g) (hg1 : g < yS A 1) (hf0 : 0 ≤ f) (hf1 : f < yS A 2) (a : 0 ≤ p) (b : p < yS A 3) (hs : yS A (84 + 9 * p) = 1) (hfl : yS A (81 + 9 * p) = f) (hl : yQ A (6 * g + f) = p :: l)
    (hq : ∀ M', yCR w M' (yPas p g f A) → yKp w M M' → yFr w qs M M' → Q M') : ∀ M1, yCR w M1 (yqw A (6 * g + f) l) → (∀ b, b < w + 12 ∨ w + 14 ≤ b → M1 b = M b) → p_X10_passGate F w p g f (yPe p g f A) q qc qs nq M1 Q := by
  intro M1 c1 hM1
  obtain ⟨hI1, hI2, hI3, hI4, hI5, hI6, hI7, hI8⟩ := hI
  have hN := hI1.1
  obtain ⟨n1, n2, n3, n4, n5, n6⟩ := id hN
  have hpk := hI1.2.2.2.1 p a b
  have hfw := hI1.2.2.1 f hf0 hf1
  have htk := hI2 g f hg0 hg1 hf0 hf1
  have hp3 := hI3 p a b
  have hst := hp3.2.2.2.2.1 (by omega)
  rw [hfl] at hst
  have hT := yTot_b hN hI3
  obtain ⟨hb1, hs8, hs8', -, -, ht0, ht1⟩ := hI7
  have hbl := hb1 f hf0 hf1
  have he : yPe p g f A = max 0 (yS A (83 + 9 * p) - yS A (561 + 4 * (6 * g + f))) := rfl
  have hval := yVal_b (s := yS A (83 + 9 * p)) (g := g) (e := yPe p g f A) (w := yS A 0 - yS A (88 + 9 * p)) (K := yK A)
  have hN1 : yN (yqw A (6 * g + f) l) := hN
  have hfr1 : yFr w qs M M1 := fun b h1 _ => hM1 b (by omega)
  unfold p_X10_passGate
  rw [yr19 c1.1 a b, show (w + 11) = w + 11 from rfl, yr11 c1.1 hg0 hg1 hf0 hf1, yS_q]
  refine ⟨⟨by omega, by omega⟩, fun z ez => ?_⟩
  subst ez
  repeat refine ⟨⟨by omega, by omega⟩, ?_⟩
  intro M2 e2
  have c2 : yCR w M2 (yw (yqw A (6 * g + f) l) (561 + 4 * (6 * g + f)) (yS A (561 + 4 * (6 * g + f)) - (yS A (83 + 9 * p) - yPe p g f A))) := by
    rw [e2]; exact yCR_w hN1 c1 (yl11 hg0 hg1 hf0 hf1) (yFx_p (by omega))
  have hfr2 : yFr w qs M1 M2 := fun b h1 _ => by rw [e2, xw_B (by omega)]
  refine s_X0_spend (C := yC A) c2.2.1 (yI5_v hI5) (by omega) ⟨by omega, by omega⟩ (fun M3 d1 d2 => ?_)
  have hN2 : yN (yw (yqw A (6 * g + f) l) (561 + 4 * (6 * g + f)) (yS A (561 + 4 * (6 * g + f)) - (yS A (83 + 9 * p) - yPe p g f A))) := yN_w hN1 (yFx_p (by omega))
  have c3 : yCR w M3 (yCw (yw (yqw A (6 * g + f) l) (561 + 4 * (6 * g + f)) (yS A (561 + 4 * (6 * g + f)) - (yS A (83 + 9 * p) - yPe p g f A))) (ySp f 30 (yPe p g f A) (yC A))) :=
    ⟨yR_f c2.1 (fun b _ _ _ => d2 b (by omega)), d1, yX_f c2.2.2.1 (fun b _ _ => d2 b (by omega)), yQc_o c2.2.2.2 (fun b _ _ => d2 b (by omega))⟩
  have hfr3 : yFr w qs M2 M3 := fun b h1 _ => d2 b (by omega)
  have hw3 : M3 w = M w := by rw [d2 w (by omega), e2, xw_B (by omega), hM1 w (by omega)]
  generalize hA3 : yCw (yw (yqw A (6 * g + f) l) (561 + 4 * (6 * g + f)) (yS A (561 + 4 * (6 * g + f)) - (yS A (83 + 9 * p) - yPe p g f A))) (ySp f 30 (yPe p g f A) (yC A)) = A3 at c3
  have s3 : yS A3 = yup (yS A) (561 + 4 * (6 * g + f)) (yS A (561 + 4 * (6 * g + f)) - (yS A (83 + 9 * p) - yPe p g f A)) := by rw [← hA3]; rfl
  have hN3 : yN A3 := by rw [← hA3]; exact hN2
  have b3 : p < yS A3 3 := by rw [s3, yup_n (by omega)]; exact b
  rw [yr23 c3.1 a b3, s3, yup_n (by omega)]
  repeat refine ⟨⟨by omega, by omega⟩, ?_⟩
  intro M4 e4
  have f86 : yFx (86 + 9 * p) := yFx_p (by omega)
  have f8 : yFx 8 := yFx_o (Or.inl rfl)
  have f35 : yFx (35 + 8 * f) := yFx_o (by omega)
  have f85 : yFx (85 + 9 * p) := yFx_p (by omega)
  have f84 : yFx (84 + 9 * p) := yFx_p (by omega)
  have f87 : yFx (87 + 9 * p) := yFx_p (by omega)
  have c4 : yCR w M4 (yw A3 (86 + 9 * p) (yS A (86 + 9 * p) + yPe p g f A)) := by rw [e4]; exact yCR_w hN3 c3 (yl23 a b3) f86
  have hfr4 : yFr w qs M3 M4 := fun b h1 _ => by rw [e4, xw_B (by omega)]
  have hw4 : M4 w = M w := by rw [e4, xw_B (by omega), hw3]
  have hN4 := yN_w (v := yS A (86 + 9 * p) + yPe p g f A) hN3 f86
  rw [yr0_12 c4.1, yS_w, yup_n (by omega), s3, yup_n (by omega)]
  repeat refine ⟨⟨by omega, by omega⟩, ?_⟩
  intro M5 e5
  have c5 : yCR w M5 (yw (yw A3 (86 + 9 * p) (yS A (86 + 9 * p) + yPe p g f A)) 8 (yS A 8 + yPe p g f A)) := by rw [e5]; exact yCR_w (o := 0) (i := 12) hN4 c4 yl0_12 f8
  have hfr5 : yFr w qs M4 M5 := fun b h1 _ => by rw [e5, xw_B (by omega)]
  have hw5 : M5 w 13 = M w 13 ∧ M5 w 14 = M w 14 := by rw [e5, xw_j (by decide), xw_j (by decide), hw4]; exact ⟨rfl, rfl⟩
  have hN5 := yN_w (v := yS A 8 + yPe p g f A) hN4 f8
  generalize hA5 : yw (yw A3 (86 + 9 * p) (yS A (86 + 9 * p) + yPe p g f A)) 8 (yS A 8 + yPe p g f A) = A5 at c5 hN5
  have s5 : yS A5 = yup (yup (yS A3) (86 + 9 * p) (yS A (86 + 9 * p) + yPe p g f A)) 8 (yS A 8 + yPe p g f A) := by rw [← hA5]; rfl
  have b5 : p < yS A5 3 := by rw [s5, yup_n (by omega), yup_n (by omega)]; exact b3
  have fl5 : f < yS A5 2 := by rw [s5, yup_n (by omega), yup_n (by omega), s3, yup_n (by omega)]; exact hf1
  rw [yr0_7 c5.1, yr22 c5.1 a b5, yr9 c5.1 hf0 fl5, s5, s3]
  simp (disch := omega) only [yup_n]
  repeat refine ⟨⟨by omega, by omega⟩, ?_⟩
  have hz5 := yPz_fr hz (yFr_trans (yFr_trans (yFr_trans (yFr_trans hfr1 hfr2) hfr3) hfr4) hfr5)
  refine s_X7_valueFor hz5.1 hz5.2.2.2.1 hz5.2.2.2.2 hI1.2.2.2.2.2.2 hF hI1.2.2.2.2.2.1 ⟨by omega, by omega⟩ ⟨by omega, by omega⟩ ⟨by omega, by omega⟩ ⟨by omega, by omega⟩ (fun M6 d6 => ?_)
  have hwq : ∀ b, w ≤ b → b < w + 36 → M6 b = M5 b := fun b h1 h2 => d6 b (by rcases hz5.2.1 with q | q <;> omega)
  have c6 : yCR w M6 A5 := ⟨yR_f c5.1 (fun b h1 h2 _ => hwq b h1 (by omega)), yU_f c5.2.1 (fun b h1 h2 => hwq b (by omega) (by omega)), yX_f c5.2.2.1 (fun b h1 h2 => hwq b (by omega) (by omega)), yQc_o c5.2.2.2 (fun b h1 h2 => hwq b (by omega) (by omega))⟩
  have hfr6 : yFr w qs M5 M6 := fun b _ h2 => d6 b h2
  have hw6 : M6 w 13 = M w 13 ∧ M6 w 14 = M w 14 := by rw [hwq w (by omega) (by omega)]; exact hw5
  repeat refine ⟨⟨by omega, by omega⟩, ?_⟩
  intro M7 e7
  have c7 : yCR w M7 (yw A5 (35 + 8 * f) (yS A (35 + 8 * f) + yVal (yS A (83 + 9 * p)) g (yPe p g f A) (yS A 0 - yS A (88 + 9 * p)) (yK A))) := by rw [e7]; exact yCR_w hN5 c6 (yl9 hf0 fl5) f35
  have hfr7 : yFr w qs M6 M7 := fun b h1 _ => by rw [e7, xw_B (by omega)]
  have hw7 : M7 w 13 = M w 13 ∧ M7 w 14 = M w 14 := by rw [e7, xw_B (show w ≠ w + 9 by omega)]; exact hw6
  have hN7 := yN_w (v := yS A (35 + 8 * f) + yVal (yS A (83 + 9 * p)) g (yPe p g f A) (yS A 0 - yS A (88 + 9 * p)) (yK A)) hN5 f35
  rw [yr0_7 c7.1, yS_w, yup_n (by omega), s5, s3]
  simp (disch := omega) only [yup_n]
  refine s_X6_add c7.2.2.1 (fun M8 d8 d9 => ?_)
  have hP7 : yP (yw A5 (35 + 8 * f) (yS A (35 + 8 * f) + yVal (yS A (83 + 9 * p)) g (yPe p g f A) (yS A 0 - yS A (88 + 9 * p)) (yK A))) = yP A := by rw [← hA5, ← hA3]; rfl
  rw [hP7] at d8
  have c8 : yCR w M8 (yPw (yw A5 (35 + 8 * f) (yS A (35 + 8 * f) + yVal (yS A (83 + 9 * p)) g (yPe p g f A) (yS A 0 - yS A (88 + 9 * p)) (yK A))) (yNote (yS A 0, g, f, yS A (83 + 9 * p), yPe p g f A) (yP A))) :=
    ⟨yR_f c7.1 (fun b _ _ _ => d9 b (by omega)), yU_f c7.2.1 (fun b _ _ => d9 b (by omega)), d8, yQc_o c7.2.2.2 (fun b _ _ => d9 b (by omega))⟩
  have hfr8 : yFr w qs M7 M8 := fun b h1 _ => d9 b (by omega)
  have hw8 : M8 w 13 = M w 13 ∧ M8 w 14 = M w 14 := by rw [d9 w (by omega)]; exact hw7
  generalize hA8 : yPw (yw A5 (35 + 8 * f) (yS A (35 + 8 * f) + yVal (yS A (83 + 9 * p)) g (yPe p g f A) (yS A 0 - yS A (88 + 9 * p)) (yK A))) (yNote (yS A 0, g, f, yS A (83 + 9 * p), yPe p g f A) (yP A)) = A8 at c8
  have s8 : yS A8 = yup (yS A5) (35 + 8 * f) (yS A (35 + 8 * f) + yVal (yS A (83 + 9 * p)) g (yPe p g f A) (yS A 0 - yS A (88 + 9 * p)) (yK A)) := by rw [← hA8]; rfl
  have hN8 : yN A8 := by rw [← hA8]; exact hN7
  have b8 : p < yS A8 3 := by rw [s8, yup_n (by omega)]; exact b5
  have fl8 : f < yS A8 2 := by rw [s8, yup_n (by omega)]; exact fl5
  rw [yr21 c8.1 a b8, s8, s5, s3]
  simp (disch := omega) only [yup_n]
  repeat refine ⟨⟨by omega, by omega⟩, ?_⟩
  intro M9 e9
  have c9 : yCR w M9 (yw A8 (85 + 9 * p) (yS A (85 + 9 * p) + 1)) := by rw [e9]; exact yCR_w hN8 c8 (yl21 a b8) f85
  have hfr9 : yFr w qs M8 M9 := fun b h1 _ => by rw [e9, xw_B (by omega)]
  have hw9 : M9 w 13 = M w 13 ∧ M9 w 14 = M w 14 := by rw [e9, xw_B (show w ≠ w + 21 by omega)]; exact hw8
  have hN9 := yN_w (v := yS A (85 + 9 * p) + 1) hN8 f85
  generalize hA9 : yw A8 (85 + 9 * p) (yS A (85 + 9 * p) + 1) = A9 at c9 hN9
  have s9 : yS A9 = yPs p g f A := by rw [← hA9, yS_w, s8, s5, s3]; rfl
  have hq9 : yQ A9 = yqu (yQ A) (6 * g + f) l := by rw [← hA9, ← hA8, ← hA5, ← hA3]; rfl
  have hc9 : yC A9 = ySp f 30 (yPe p g f A) (yC A) := by rw [← hA9, ← hA8, ← hA5, ← hA3]; rfl
  have hp9 : yP A9 = yNote (yS A 0, g, f, yS A (83 + 9 * p), yPe p g f A) (yP A) := by rw [← hA9, ← hA8]; rfl
  have hk9 : yK A9 = yK A := by rw [← hA9, ← hA8, ← hA5, ← hA3]; rfl
  have b9 : p < yS A9 3 := by rw [← hA9, yS_w, yup_n (by omega)]; exact b8
  have fl9 : f < yS A9 2 := by rw [← hA9, yS_w, yup_n (by omega)]; exact fl8
  have r21 : M9 (w + 21) p.toNat = yS A (85 + 9 * p) + 1 := by rw [yr21 c9.1 a b9, ← hA9, yS_w, yup_s]
  have r7 : M9 (w + 7) f.toNat = yS A (33 + 8 * f) := by
    rw [yr7 c9.1 hf0 fl9, s9]; unfold yPs; simp (disch := omega) only [yup_n]
  have hkp : ∀ M', M' w = M9 w → yKp w M M' := fun M' e => by
    unfold yKp; rw [e, hw9.1, hw9.2]; exact ⟨rfl, fun h => ⟨h, Int.le_refl _⟩⟩
  have hfrA : yFr w qs M M9 := yFr_trans (yFr_trans (yFr_trans (yFr_trans (yFr_trans (yFr_trans (yFr_trans (yFr_trans hfr1 hfr2) hfr3) hfr4) hfr5) hfr6) hfr7) hfr8) hfr9
  have hmk : ∀ A' : yA, yS A' = yS (yPas p g f A) → yQ A' = yQ A9 → yC A' = yC A9 → yP A' = yP A9 → yK A' = yK A9 → A' = yPas p g f A := fun A' h1 h2 h3 h4 h5 => by
    rw [hq9] at h2; rw [hc9] at h3; rw [hp9] at h4; rw [hk9] at h5
    have htl : (yQ A (6 * g + f)).tail = l := by rw [hl]; rfl
    have h2' : yQ A' = yQ (yPas p g f A) := by rw [h2]; unfold yqu yPas yQ; dsimp only; rw [show A.2.1 (6 * g + f) = yQ A (6 * g + f) from rfl, htl]
    obtain ⟨S', Q', C', P', K'⟩ := A'
    exact Prod.ext h1 (Prod.ext h2' (Prod.ext h3 (Prod.ext h4 h5)))
  rw [r21, r7]
  refine ⟨⟨by omega, by omega⟩, ⟨by omega, by omega⟩, fun hdl => ⟨⟨by omega, by omega⟩, fun Ma ea => ⟨⟨by omega, by omega⟩, fun Mb eb => ?_⟩⟩, fun hgo => ⟨⟨by omega, by omega⟩, fun Ma ea => ?_⟩⟩
  · have ca : yCR w Ma (yw A9 (84 + 9 * p) 3) := by rw [ea]; exact yCR_w hN9 c9 (yl20 a b9) f84
    have hNa := yN_w (v := 3) hN9 f84
    have t9 : yS A9 0 = yS A 0 := by rw [s9]; unfold yPs; simp (disch := omega) only [yup_n]
    have cb : yCR w Mb (yw (yw A9 (84 + 9 * p) 3) (87 + 9 * p) (yS A 0)) := by
      rw [eb, yr0_7 ca.1, yS_w, yup_n (by omega), t9]
      exact yCR_w hNa ca (yl_w hN9 f84 (yl24 a b9)) f87
    have hNb := yN_w (v := yS A 0) hNa f87
    have cc := yCR_x (k := 5) (v := yS A 5 + 1) hNb cb ⟨by decide, by decide, by decide, by omega⟩ (yL_56 hNb (Or.inl rfl))
    have hNc := yN_w (k := 5) (v := yS A 5 + 1) hNb ⟨by decide, by decide, by decide, by omega⟩
    have cd := yCR_x (k := 36 + 8 * f) (v := yS A (36 + 8 * f) + yS A (83 + 9 * p)) hNc cc ⟨by omega, by omega, by omega, by omega⟩ (yL_56 hNc (by omega))
    have hfin := hmk _ (by unfold yPas; rw [if_neg (by omega)]; rw [yS_w, yS_w, yS_w, yS_w, s9]; rfl) (show yQ (yw (yw (yw (yw A9 (84 + 9 * p) 3) (87 + 9 * p) (yS A 0)) 5 (yS A 5 + 1)) (36 + 8 * f) (yS A (36 + 8 * f) + yS A (83 + 9 * p))) = _ from rfl) rfl rfl rfl
    rw [hfin] at cd
    exact hq Mb cd (hkp Mb (by rw [eb, xw_B (by omega), ea, xw_B (by omega)])) (yFr_trans hfrA (fun b h1 _ => by rw [eb, xw_B (by omega), ea, xw_B (by omega)]))
  · have ca : yCR w Ma (yw A9 (84 + 9 * p) 2) := by rw [ea]; exact yCR_w hN9 c9 (yl20 a b9) f84
    have hfin := hmk _ (by unfold yPas; rw [if_pos (by omega)]; rw [yS_w, s9]; rfl) (show yQ (yw A9 (84 + 9 * p) 2) = _ from rfl) rfl rfl rfl
    rw [hfin] at ca
    exact hq Ma ca (hkp Ma (by rw [ea, xw_B (by omega)])) (yFr_trans hfrA (fun b h1 _ => by rw [ea, xw_B (by omega)]))
