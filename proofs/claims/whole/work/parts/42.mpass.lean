/-! THE MODEL'S PASSAGE -/
def yPt (F a : Nat) (x1 x2 r1 z15 z26 z48 z58 : Int) (Q : xMe → Prop) (M3 : xMe) : Prop :=
  (xR (r1 + 5)) ∧ ((0 : Int) ≤ (r1 + 5) ∧ ((r1 + 5) : Int) < 2105) ∧ (xR ((M3 (a + 2) (r1 + 5).toNat) + z48)) ∧ ((0 : Int) ≤ (r1 + 5) ∧ ((r1 + 5) : Int) < 2105) ∧ (∀ M129 : xMe, M129 = xw M3 (a + 2) (r1 + 5).toNat ((M3 (a + 2) (r1 + 5).toNat) + z48) → (xR (z58 + 2)) ∧ ((0 : Int) ≤ (z58 + 2) ∧ ((z58 + 2) : Int) < 2105) ∧ ((0 : Int) ≤ 0 ∧ (0 : Int) < 2105) ∧ (xR (r1 + 7)) ∧ ((0 : Int) ≤ (r1 + 7) ∧ ((r1 + 7) : Int) < 2105) ∧ (xR ((M129 (a + 2) 0) - (M129 (a + 2) (r1 + 7).toNat))) ∧ p_X12_priceOf F a z26 x2 z48 ((M129 (a + 2) 0) - (M129 (a + 2) (r1 + 7).toNat)) M129 (fun r163 M163 => (xR ((M129 (a + 2) (z58 + 2).toNat) + r163)) ∧ ((0 : Int) ≤ (z58 + 2) ∧ ((z58 + 2) : Int) < 2105) ∧ (∀ M167 : xMe, M167 = xw M163 (a + 2) (z58 + 2).toNat ((M129 (a + 2) (z58 + 2).toNat) + r163) → p_X12_note F a x2 z15 z26 z48 M167 (fun M176 => (xR (r1 + 4)) ∧ ((0 : Int) ≤ (r1 + 4) ∧ ((r1 + 4) : Int) < 2105) ∧ (xR ((M176 (a + 2) (r1 + 4).toNat) + 1)) ∧ ((0 : Int) ≤ (r1 + 4) ∧ ((r1 + 4) : Int) < 2105) ∧ (∀ M191 : xMe, M191 = xw M176 (a + 2) (r1 + 4).toNat ((M176 (a + 2) (r1 + 4).toNat) + 1) → (xR (r1 + 3)) ∧ ((0 : Int) ≤ (r1 + 3) ∧ ((r1 + 3) : Int) < 2105) ∧ (∀ M201 : xMe, M201 = xw M191 (a + 2) (r1 + 3).toNat 2 → (xR (r1 + 4)) ∧ ((0 : Int) ≤ (r1 + 4) ∧ ((r1 + 4) : Int) < 2105) ∧ (xR (z58 + 0)) ∧ ((0 : Int) ≤ (z58 + 0) ∧ ((z58 + 0) : Int) < 2105) ∧ (((M201 (a + 2) (z58 + 0).toNat) ≤ (M201 (a + 2) (r1 + 4).toNat) → p_X12_end a x1 3 M201 (fun M227 => (xR (z58 + 3)) ∧ ((0 : Int) ≤ (z58 + 3) ∧ ((z58 + 3) : Int) < 2105) ∧ (xR ((M227 (a + 2) (z58 + 3).toNat) + z26)) ∧ ((0 : Int) ≤ (z58 + 3) ∧ ((z58 + 3) : Int) < 2105) ∧ (∀ M243 : xMe, M243 = xw M227 (a + 2) (z58 + 3).toNat ((M227 (a + 2) (z58 + 3).toNat) + z26) → Q M243))) ∧ ((M201 (a + 2) (r1 + 4).toNat) < (M201 (a + 2) (z58 + 0).toNat) → Q M201))))))))
def yFm (m : Nat) (M M' : xMe) : Prop := ∀ b, b ≠ m + 2 → b ≠ m + 15 → M' b = M b
theorem yFm_refl (m : Nat) (M : xMe) : yFm m M M := fun _ _ _ => rfl
theorem yFm_trans {m : Nat} {M M' N : xMe} (h : yFm m M M') (g : yFm m M' N) : yFm m M N := fun b h1 h2 => (g b h1 h2).trans (h b h1 h2)
theorem yFm_of {m : Nat} {M M' : xMe} (h : ∀ b, b ≠ m + 2 → M' b = M b) : yFm m M M' := fun b h1 _ => h b h1
theorem yup_yup {S : Int → Int} {k v w : Int} : yup (yup S k v) k w = yup S k w := by
  funext j; unfold yup; split <;> rfl
theorem yup_comm {S : Int → Int} {k k' v w : Int} (h : k ≠ k') : yup (yup S k v) k' w = yup (yup S k' w) k v := by
  funext j; unfold yup
  by_cases e : j = k
  · rw [if_neg (by omega), if_pos e, if_pos e]
  · by_cases e' : j = k'
    · rw [if_pos e', if_neg e, if_pos e']
    · rw [if_neg e', if_neg e, if_neg e, if_neg e']
theorem yup_same {S : Int → Int} {k v : Int} (h : v = S k) : yup S k v = S := by
  funext j; unfold yup
  split
  · rename_i e; rw [h, e]
  · rfl
theorem yQok_tl {q : Int → List Int} {s p : Int} {l : List Int} (h : yQok q) (hl : q s = p :: l) : yQok (yqu q s l) := by
  obtain ⟨h1, h2⟩ := h
  have hsub : ∀ s' r, r ∈ yqu q s l s' → r ∈ q s' := fun s' r hr => by
    unfold yqu at hr
    split at hr
    · rename_i e; rw [e, hl]; exact List.mem_cons_of_mem _ hr
    · exact hr
  refine ⟨fun s' => ⟨?_, ?_, fun r hr => (h1 s').2.2 r (hsub s' r hr)⟩, fun s' s'' r a b => h2 s' s'' r (hsub _ _ a) (hsub _ _ b)⟩
  · unfold yqu
    split
    · have := (h1 s).1; rw [hl] at this; exact (List.nodup_cons.mp this).2
    · exact (h1 s').1
  · unfold yqu
    split
    · have := (h1 s).2.1; rw [hl] at this; simp at this; omega
    · exact (h1 s').2.1
/-- A behind the tokens, the queue, the coupons -/
def yP3 (p g f : Int) (A : yA) : yA := (yup (yup (yS A) (561 + 4 * (6 * g + f)) (yS A (561 + 4 * (6 * g + f)) - (yS A (83 + 9 * p) - yPe p g f A))) 8 (yS A 8 + yPe p g f A), (fun j => if j = 6 * g + f then (yQ A (6 * g + f)).tail else yQ A j), ySp f 30 (yPe p g f A) (yC A), yP A, yK A)
set_option maxHeartbeats 4000000 in
theorem s_X12_passTail {F m : Nat} {p g f : Int} {M : xMe} {A : yA} {Q : xMe → Prop} (hI : yI A) (hF : 1300 ≤ F) (hg0 : 0 ≤ g) (hg1 : g < yS A 1) (hf0 : 0 ≤ f) (hf1 : f < yS A 2) (a : 0 ≤ p) (b : p < yS A 3) (hs : yS A (84 + 9 * p) = 1) (hfl : yS A (81 + 9 * p) = f) (h5 : 0 ≤ yS A 5 ∧ yS A 5 ≤ 1000) (h6 : 0 ≤ yS A 6 ∧ yS A 6 ≤ 1000) (h36 : 0 ≤ yS A (36 + 8 * f) ∧ yS A (36 + 8 * f) ≤ 1000000) (hIr : yIr (yP3 p g f A))
    (hq : ∀ M', yDR (m + 2) M' (yPas p g f A) → yFm m M M' → Q M') : ∀ M3, yDR (m + 2) M3 (yP3 p g f A) → yFm m M M3 → yPt F m p g (81 + 9 * p) f (yS A (83 + 9 * p)) (yPe p g f A) (33 + 8 * f) Q M3 := by
  intro M3 c3 hM3
  obtain ⟨hI1, hI2, hI3, hI4, hI5, hI6, hI7, hI8⟩ := hI
  have hN := hI1.1
  obtain ⟨n1, n2, n3, n4, n5, n6⟩ := id hN
  have hpk := hI1.2.2.2.1 p a b
  have hfw := hI1.2.2.1 f hf0 hf1
  have hp3 := hI3 p a b
  have hst := hp3.2.2.2.2.1 (by omega)
  rw [hfl] at hst
  have hT := yTot_b hN hI3
  obtain ⟨hb1, hs8, hs8', -, -, ht0, ht1⟩ := hI7
  have hbl := hb1 f hf0 hf1
  have htk := hI2 g f hg0 hg1 hf0 hf1
  have he : yPe p g f A = max 0 (yS A (83 + 9 * p) - yS A (561 + 4 * (6 * g + f))) := rfl
  have hval := yVal_b (s := yS A (83 + 9 * p)) (g := g) (e := yPe p g f A) (w := yS A 0 - yS A (88 + 9 * p)) (K := yK A)
  have s3 : yS (yP3 p g f A) = yup (yup (yS A) (561 + 4 * (6 * g + f)) (yS A (561 + 4 * (6 * g + f)) - (yS A (83 + 9 * p) - yPe p g f A))) 8 (yS A 8 + yPe p g f A) := rfl
  have hK : yK (yP3 p g f A) = yK A := rfl
  have hP : yP (yP3 p g f A) = yP A := rfl
  have hq3 : yQ (yP3 p g f A) = fun j => if j = 6 * g + f then (yQ A (6 * g + f)).tail else yQ A j := rfl
  have hc3 : yC (yP3 p g f A) = ySp f 30 (yPe p g f A) (yC A) := rfl
  generalize yP3 p g f A = A3 at *
  unfold yPt
  rw [yDa c3 (show 81 + 9 * p + 5 = 86 + 9 * p by omega) (by unfold yG; omega), s3, yup_n (by omega), yup_n (by omega)]
  repeat ((with_reducible refine And.intro ?_ ?_); exact ⟨by omega, by omega⟩)
  intro M4 e4
  have c4 : yDR (m + 2) M4 (yw A3 (86 + 9 * p) (yS A (86 + 9 * p) + yPe p g f A)) := by rw [e4]; exact yDR_w' hIr c3 (by omega) (by unfold yG; omega)
  have hf4 : yFm m M M4 := yFm_trans hM3 (fun b h1 _ => by rw [e4, xw_B h1])
  rw [yDa c4 (show 33 + 8 * f + 2 = 35 + 8 * f by omega) (by unfold yG; omega), yD0 c4, yDa c4 (show 81 + 9 * p + 7 = 88 + 9 * p by omega) (by unfold yG; omega), yS_w, s3]
  simp (disch := omega) only [yup_n]
  repeat ((with_reducible refine And.intro ?_ ?_); exact ⟨by omega, by omega⟩)
  have hpr : yPr (m + 2) M4 (yK A) := by
    have := c4.2.2.2.2
    rw [show yK (yw A3 (86 + 9 * p) (yS A (86 + 9 * p) + yPe p g f A)) = yK A from hK] at this
    exact this
  refine s_X12_priceOf hpr hF hI1.2.2.2.2.2.2 hI1.2.2.2.2.2.1 ⟨by omega, by omega⟩ ⟨by omega, by omega⟩ ⟨by omega, by omega⟩ ⟨by omega, by omega⟩ (fun M5 d5 => ?_)
  have c5 : yDR (m + 2) M5 (yw A3 (86 + 9 * p) (yS A (86 + 9 * p) + yPe p g f A)) := yDR_M c4 (d5 _ (by omega))
  have hf5 : yFm m M M5 := yFm_trans hf4 (fun b _ h2 => d5 b h2)
  repeat ((with_reducible refine And.intro ?_ ?_); exact ⟨by omega, by omega⟩)
  intro M6 e6
  have c6 : yDR (m + 2) M6 (yw (yw A3 (86 + 9 * p) (yS A (86 + 9 * p) + yPe p g f A)) (35 + 8 * f) (yS A (35 + 8 * f) + yVal (yS A (83 + 9 * p)) g (yPe p g f A) (yS A 0 - yS A (88 + 9 * p)) (yK A))) := by rw [e6]; exact yDR_w' (yIr_w hIr) c5 (by omega) (by unfold yG; omega)
  have hf6 : yFm m M M6 := yFm_trans hf5 (fun b h1 _ => by rw [e6, xw_B h1])
  have hpy : yY (m + 2) M6 (yP A) := by
    have := c6.2.2.1
    rw [show yP (yw (yw A3 (86 + 9 * p) (yS A (86 + 9 * p) + yPe p g f A)) (35 + 8 * f) (yS A (35 + 8 * f) + yVal (yS A (83 + 9 * p)) g (yPe p g f A) (yS A 0 - yS A (88 + 9 * p)) (yK A))) = yP A from hP] at this
    exact this
  refine s_X12_note hpy hI6.1 (by omega) (fun M7 d7 d8 d9 => ?_)
  have t6 : M6 (m + 2) 0 = yS A 0 := by rw [yD0 c6, yS_w, yS_w, s3]; simp (disch := omega) only [yup_n]
  rw [t6] at d7
  have c7 := yDR_P (yIr_w (yIr_w hIr)) c6 d7 d9
  have hf7 : yFm m M M7 := yFm_trans hf6 (fun b h1 _ => d8 b h1)
  have hIr7 : yIr (yPw (yw (yw A3 (86 + 9 * p) (yS A (86 + 9 * p) + yPe p g f A)) (35 + 8 * f) (yS A (35 + 8 * f) + yVal (yS A (83 + 9 * p)) g (yPe p g f A) (yS A 0 - yS A (88 + 9 * p)) (yK A))) (yNote (yS A 0, g, f, yS A (83 + 9 * p), yPe p g f A) (yP A))) := ⟨hIr.1, hIr.2.1, by
    show (yNote _ (yP A)).length ≤ 40
    have := hI6.1
    unfold yNote
    split
    · simp; omega
    · simp; omega⟩
  generalize hA7 : yPw (yw (yw A3 (86 + 9 * p) (yS A (86 + 9 * p) + yPe p g f A)) (35 + 8 * f) (yS A (35 + 8 * f) + yVal (yS A (83 + 9 * p)) g (yPe p g f A) (yS A 0 - yS A (88 + 9 * p)) (yK A))) (yNote (yS A 0, g, f, yS A (83 + 9 * p), yPe p g f A) (yP A)) = A7 at c7 hIr7
  have s7 : yS A7 = yup (yup (yS A3) (86 + 9 * p) (yS A (86 + 9 * p) + yPe p g f A)) (35 + 8 * f) (yS A (35 + 8 * f) + yVal (yS A (83 + 9 * p)) g (yPe p g f A) (yS A 0 - yS A (88 + 9 * p)) (yK A)) := by rw [← hA7]; rfl
  rw [yDa c7 (show 81 + 9 * p + 4 = 85 + 9 * p by omega) (by unfold yG; omega), s7, s3]
  simp (disch := omega) only [yup_n]
  repeat ((with_reducible refine And.intro ?_ ?_); exact ⟨by omega, by omega⟩)
  intro M8 e8
  have c8 : yDR (m + 2) M8 (yw A7 (85 + 9 * p) (yS A (85 + 9 * p) + 1)) := by rw [e8]; exact yDR_w' hIr7 c7 (by omega) (by unfold yG; omega)
  have hf8 : yFm m M M8 := yFm_trans hf7 (fun b h1 _ => by rw [e8, xw_B h1])
  repeat ((with_reducible refine And.intro ?_ ?_); exact ⟨by omega, by omega⟩)
  intro M9 e9
  have c9 : yDR (m + 2) M9 (yw (yw A7 (85 + 9 * p) (yS A (85 + 9 * p) + 1)) (84 + 9 * p) 2) := by rw [e9]; exact yDR_w' (yIr_w hIr7) c8 (by omega) (by unfold yG; omega)
  have hf9 : yFm m M M9 := yFm_trans hf8 (fun b h1 _ => by rw [e9, xw_B h1])
  have s8 : yup (yS A7) (85 + 9 * p) (yS A (85 + 9 * p) + 1) = yPs p g f A := by
    rw [s7, s3]; unfold yPs
    rw [yup_comm (k := 8) (k' := 86 + 9 * p) (by omega)]
  have s9 : yS (yw (yw A7 (85 + 9 * p) (yS A (85 + 9 * p) + 1)) (84 + 9 * p) 2) = yup (yPs p g f A) (84 + 9 * p) 2 := by rw [yS_w, yS_w, s8]
  rw [yDa c9 (show 33 + 8 * f + 0 = 33 + 8 * f by omega) (by unfold yG; omega), yDa c9 (show 81 + 9 * p + 4 = 85 + 9 * p by omega) (by unfold yG; omega), s9]
  have e33 : yup (yPs p g f A) (84 + 9 * p) 2 (33 + 8 * f) = yS A (33 + 8 * f) := by unfold yPs; simp (disch := omega) only [yup_n]
  have e85 : yup (yPs p g f A) (84 + 9 * p) 2 (85 + 9 * p) = yS A (85 + 9 * p) + 1 := by unfold yPs; rw [yup_n (by omega), yup_s]
  rw [e33, e85]
  have hmk : ∀ A' : yA, yS A' = yS (yPas p g f A) → yQ A' = yQ A7 → yC A' = yC A7 → yP A' = yP A7 → yK A' = yK A7 → A' = yPas p g f A := fun A' h1 h2 h3 h4 h5 => by
    have g2 : yQ A7 = yQ (yPas p g f A) := by rw [← hA7]; exact hq3
    have g3 : yC A7 = yC (yPas p g f A) := by rw [← hA7]; exact hc3
    have g4 : yP A7 = yP (yPas p g f A) := by rw [← hA7]; rfl
    have g5 : yK A7 = yK (yPas p g f A) := by rw [← hA7]; exact hK
    obtain ⟨S', Q', C', P', K'⟩ := A'
    exact Prod.ext h1 (Prod.ext (h2.trans g2) (Prod.ext (h3.trans g3) (Prod.ext (h4.trans g4) (h5.trans g5))))
  repeat ((with_reducible refine And.intro ?_ ?_); exact ⟨by omega, by omega⟩)
  refine ⟨fun hdl => ?_, fun hgo => ?_⟩
  · have e5 : yS (yw (yw A7 (85 + 9 * p) (yS A (85 + 9 * p) + 1)) (84 + 9 * p) 2) 5 = yS A 5 := by rw [s9]; unfold yPs; simp (disch := omega) only [yup_n]
    have e6' : yS (yw (yw A7 (85 + 9 * p) (yS A (85 + 9 * p) + 1)) (84 + 9 * p) 2) 6 = yS A 6 := by rw [s9]; unfold yPs; simp (disch := omega) only [yup_n]
    have e0 : yS (yw (yw A7 (85 + 9 * p) (yS A (85 + 9 * p) + 1)) (84 + 9 * p) 2) 0 = yS A 0 := by rw [s9]; unfold yPs; simp (disch := omega) only [yup_n]
    refine s_X12_end (yIr_w (yIr_w hIr7)) c9 a (by omega) (by rw [e5]; exact h5) (by rw [e6']; exact h6) (fun Ma da db => ?_)
    rw [show (if (3 : Int) = 3 then (5 : Int) else 6) = 5 from rfl, e0, e5] at da
    have hfa : yFm m M Ma := yFm_trans hf9 (fun b h1 _ => db b h1)
    rw [yDa da (show 33 + 8 * f + 3 = 36 + 8 * f by omega) (by unfold yG; omega)]
    have e36 : yS (yw (yw (yw (yw (yw A7 (85 + 9 * p) (yS A (85 + 9 * p) + 1)) (84 + 9 * p) 2) (84 + 9 * p) 3) (87 + 9 * p) (yS A 0)) 5 (yS A 5 + 1)) (36 + 8 * f) = yS A (36 + 8 * f) := by
      rw [yS_w, yS_w, yS_w, s9]; unfold yPs; simp (disch := omega) only [yup_n]
    rw [e36]
    repeat ((with_reducible refine And.intro ?_ ?_); exact ⟨by omega, by omega⟩)
    intro Mb eb
    have cb : yDR (m + 2) Mb (yw (yw (yw (yw (yw (yw A7 (85 + 9 * p) (yS A (85 + 9 * p) + 1)) (84 + 9 * p) 2) (84 + 9 * p) 3) (87 + 9 * p) (yS A 0)) 5 (yS A 5 + 1)) (36 + 8 * f) (yS A (36 + 8 * f) + yS A (83 + 9 * p))) := by
      rw [eb]; exact yDR_w' (yIr_w (yIr_w (yIr_w (yIr_w (yIr_w hIr7))))) da (by omega) (by unfold yG; omega)
    rw [hmk (yw (yw (yw (yw (yw (yw A7 (85 + 9 * p) (yS A (85 + 9 * p) + 1)) (84 + 9 * p) 2) (84 + 9 * p) 3) (87 + 9 * p) (yS A 0)) 5 (yS A 5 + 1)) (36 + 8 * f) (yS A (36 + 8 * f) + yS A (83 + 9 * p))) (by rw [yS_w, yS_w, yS_w, yS_w, s9, yup_yup]; unfold yPas; rw [if_neg (by omega)]; rfl) rfl rfl rfl rfl] at cb
    exact hq Mb cb (yFm_trans hfa (fun b h1 _ => by rw [eb, xw_B h1]))
  · rw [hmk (yw (yw A7 (85 + 9 * p) (yS A (85 + 9 * p) + 1)) (84 + 9 * p) 2) (by rw [s9]; unfold yPas; rw [if_pos (by omega)]; rfl) rfl rfl rfl rfl] at c9
    exact hq M9 c9 hf9
set_option maxHeartbeats 4000000 in
theorem s_X12_passOne {F m : Nat} {p g f : Int} {l : List Int} {M : xMe} {A : yA} {Q : xMe → Prop} (h : yDR (m + 2) M A) (hI : yI A) (hF : 1300 ≤ F) (hg0 : 0 ≤ g) (hg1 : g < yS A 1) (hf0 : 0 ≤ f) (hf1 : f < yS A 2) (a : 0 ≤ p) (b : p < yS A 3) (hs : yS A (84 + 9 * p) = 1) (hfl : yS A (81 + 9 * p) = f) (hl : yQ A (6 * g + f) = p :: l) (h5 : 0 ≤ yS A 5 ∧ yS A 5 ≤ 1000) (h6 : 0 ≤ yS A 6 ∧ yS A 6 ≤ 1000) (h36 : 0 ≤ yS A (36 + 8 * f) ∧ yS A (36 + 8 * f) ≤ 1000000) (hIr3 : yIr (yP3 p g f A)) (hsum : yPe p g f A ≤ max 0 (ySum f (yC A)))
    (hq : ∀ M', yDR (m + 2) M' (yPas p g f A) → yFm m M M' → Q M') : p_X12_passOne F m p g (561 + 4 * (6 * g + f)) M Q := by
  have hIr := yI_r hI
  have htail := fun M3 => s_X12_passTail (M := M) hI hF hg0 hg1 hf0 hf1 a b hs hfl h5 h6 h36 hIr3 hq M3
  obtain ⟨hI1, hI2, hI3, hI4, hI5, hI6, hI7, hI8⟩ := hI
  have hN := hI1.1
  obtain ⟨n1, n2, n3, n4, n5, n6⟩ := id hN
  have hpk := hI1.2.2.2.1 p a b
  have hp3 := hI3 p a b
  have hT := yTot_b hN hI3
  obtain ⟨hb1, hs8, hs8', -, -, ht0, ht1⟩ := hI7
  have htk := hI2 g f hg0 hg1 hf0 hf1
  have he : yPe p g f A = max 0 (yS A (83 + 9 * p) - yS A (561 + 4 * (6 * g + f))) := rfl
  have hqs := h.2.2.2.1 (6 * g + f) (by omega) (by omega)
  have hmn : M (m + 2) (562 + 4 * (6 * g + f)).toNat = (l.length : Int) + 1 := hqs.1.trans (by rw [hl]; simp)
  have hlen := (hI4.1.1 (6 * g + f)).2.1
  rw [hl] at hlen
  simp only [List.length_cons] at hlen
  have hmid : ∀ r38, r38 = yS A (83 + 9 * p) - yPe p g f A → ∀ M1, M1 = xw M (m + 2) (561 + 4 * (6 * g + f)).toNat (yS A (561 + 4 * (6 * g + f)) - r38) → ∀ M2, M2 = xw M1 (m + 2) (561 + 4 * (6 * g + f) + 2).toNat (M1 (m + 2) (81 + 9 * p + 8).toNat) → ∀ M3, M3 = xw M2 (m + 2) (561 + 4 * (6 * g + f) + 1).toNat (M2 (m + 2) (561 + 4 * (6 * g + f) + 1).toNat - 1) → M2 (m + 2) (561 + 4 * (6 * g + f) + 1).toNat = (l.length : Int) + 1 ∧ ((yPe p g f A ≤ 0 → yPt F m p g (81 + 9 * p) f (yS A (83 + 9 * p)) (yPe p g f A) (33 + 8 * f) Q M3) ∧ (0 < yPe p g f A → p_X12_spend F m f (yPe p g f A) M3 (fun M4 => yPt F m p g (81 + 9 * p) f (yS A (83 + 9 * p)) (yPe p g f A) (33 + 8 * f) Q M4))) := by
    intro r38 er M1 e1 M2 e2 M3 e3
    subst er
    have c1 : yDR (m + 2) M1 (yw A (561 + 4 * (6 * g + f)) (yS A (561 + 4 * (6 * g + f)) - (yS A (83 + 9 * p) - yPe p g f A))) := by rw [e1]; exact yDR_w hIr h (by unfold yG; omega)
    have hr2 : M2 (m + 2) (561 + 4 * (6 * g + f) + 1).toNat = (l.length : Int) + 1 := by
      rw [e2, xw_j (by omega), e1, xw_j (by omega), show (561 + 4 * (6 * g + f) + 1).toNat = (562 + 4 * (6 * g + f)).toNat by omega]; exact hmn
    refine ⟨hr2, ?_⟩
    have c3 : yDR (m + 2) M3 (yqw (yw A (561 + 4 * (6 * g + f)) (yS A (561 + 4 * (6 * g + f)) - (yS A (83 + 9 * p) - yPe p g f A))) (6 * g + f) l) := by
      refine yDR_q (yIr_w hIr) (yDR_M (M' := M1) c1 rfl) ?_ (fun k hk => by unfold yChi at hk; rw [e3, xw_j (by omega), e2, xw_j (by omega)])
      have hlv := yQm_leave (mn' := fun s => M3 (m + 2) (562 + 4 * s).toNat) (fi' := fun s => M3 (m + 2) (563 + 4 * s).toNat) c1.2.2.2.1 ⟨by omega, by omega⟩ hl (by
        show M3 (m + 2) (562 + 4 * (6 * g + f)).toNat = M1 (m + 2) (562 + 4 * (6 * g + f)).toNat - 1
        rw [e3, show (561 + 4 * (6 * g + f) + 1).toNat = (562 + 4 * (6 * g + f)).toNat by omega, xw_s, e2, xw_j (by omega)]) (fun s' q1 q2 q3 => by
        show M3 (m + 2) (562 + 4 * s').toNat = M1 (m + 2) (562 + 4 * s').toNat
        rw [e3, xw_j (by omega), e2, xw_j (by omega)]) (by
        show M3 (m + 2) (563 + 4 * (6 * g + f)).toNat = M1 (m + 2) (89 + 9 * p).toNat
        rw [e3, xw_j (by omega), e2, show (561 + 4 * (6 * g + f) + 2).toNat = (563 + 4 * (6 * g + f)).toNat by omega, xw_s, show (81 + 9 * p + 8).toNat = (89 + 9 * p).toNat by omega]) (fun s' q1 q2 q3 => by
        show M3 (m + 2) (563 + 4 * s').toNat = M1 (m + 2) (563 + 4 * s').toNat
        rw [e3, xw_j (by omega), e2, xw_j (by omega)])
      exact yQm_o (yQok_tl hI4.1 hl) hlv (fun s _ _ => rfl) (fun s _ _ => rfl) (fun s q1 q2 => by rw [e3, xw_j (by omega), e2, xw_j (by omega)]) (fun r q1 q2 => by rw [e3, xw_j (by omega), e2, xw_j (by omega)])
    have hf3 : yFm m M M3 := fun b h1 _ => by rw [e3, xw_B h1, e2, xw_B h1, e1, xw_B h1]
    have hA3 : ∀ C', C' = ySp f 30 (yPe p g f A) (yC A) → yw (yCw (yqw (yw A (561 + 4 * (6 * g + f)) (yS A (561 + 4 * (6 * g + f)) - (yS A (83 + 9 * p) - yPe p g f A))) (6 * g + f) l) C') 8 (yS A 8 + yPe p g f A) = yP3 p g f A := fun C' e => by
      subst e
      unfold yP3
      rw [hl]
      rfl
    refine ⟨fun h0 => ?_, fun h0 => ?_⟩
    · have he0 : yPe p g f A = 0 := by omega
      have : yqw (yw A (561 + 4 * (6 * g + f)) (yS A (561 + 4 * (6 * g + f)) - (yS A (83 + 9 * p) - yPe p g f A))) (6 * g + f) l = yP3 p g f A := by
        rw [← hA3 _ rfl]
        have e8 : ∀ B : yA, yw B 8 (yS B 8) = B := fun B => by
          unfold yw; rw [show yup B.1 8 (yS B 8) = B.1 from yup_same rfl]
        have hC0 : ySp f 30 (yPe p g f A) (yC A) = yC A := by rw [he0]; unfold ySp; rw [if_pos (by decide)]
        rw [hC0]
        have h8 : yS A 8 + yPe p g f A = yS (yCw (yqw (yw A (561 + 4 * (6 * g + f)) (yS A (561 + 4 * (6 * g + f)) - (yS A (83 + 9 * p) - yPe p g f A))) (6 * g + f) l) (yC A)) 8 := by
          rw [yS_C, yS_q, yS_w, yup_n (by omega), he0, Int.add_zero]
        rw [h8, e8]
        rfl
      rw [this] at c3
      exact htail M3 c3 hf3
    · have h8 : M3 (m + 2) 8 = yS A 8 := (c3.1 8 (by unfold yG; omega)).trans (by rw [yS_q, yS_w, yup_n (by omega)])
      refine s_X12_spend (C := yC A) c3.2.1 (yI5_v hI5) (by omega) ⟨by omega, by omega⟩ (by omega) (by rw [h8]; exact ⟨by omega, by omega⟩) (fun M4 d1 d2 d3 d4 => ?_)
      refine htail M4 ?_ (yFm_trans hf3 (fun b h1 _ => d2 b h1))
      rw [← hA3 _ rfl]
      have hIr3' : yIr (yqw (yw A (561 + 4 * (6 * g + f)) (yS A (561 + 4 * (6 * g + f)) - (yS A (83 + 9 * p) - yPe p g f A))) (6 * g + f) l) := ⟨yQok_tl hI4.1 hl, hIr.2⟩
      obtain ⟨q1, q2, q3, q4, q5⟩ := c3
      refine ⟨fun k hk => ?_, d1, yY_f q3 hI6.1 (fun k hk => d3 k (by omega) (by omega) (by omega)), yQd_o hIr3'.1 q4 (fun k hk => d3 k (by unfold yChi at hk; omega) (by unfold yChi at hk; omega) (by unfold yChi at hk; omega)), yPr_f q5 (fun k hk => d3 k (by omega) (by omega) (by omega))⟩
      by_cases e : k = 8
      · subst e
        exact (d4.trans (by rw [h8])).trans (by rw [yS_w, yup_s])
      · rw [d3 _ (by unfold yG at hk; omega) (by omega) (by unfold yG at hk; omega), q1 k hk, yS_w, yup_n e]; rfl
  unfold p_X12_passOne p_X12_packetAt p_X12_min
  dsimp only
  rw [yDa h (show 81 + 9 * p + 0 = 81 + 9 * p by omega) (by unfold yG; omega), hfl, yDa h (show 81 + 9 * p + 2 = 83 + 9 * p by omega) (by unfold yG; omega), show (561 + 4 * (6 * g + f) + 0) = 561 + 4 * (6 * g + f) by omega, yDa h (show 561 + 4 * (6 * g + f) = 561 + 4 * (6 * g + f) by omega) (by unfold yG; omega)]
  repeat ((with_reducible refine And.intro ?_ ?_); exact ⟨by omega, by omega⟩)
  intro zf ezf
  rw [ezf]
  repeat ((with_reducible refine And.intro ?_ ?_); exact ⟨by omega, by omega⟩)
  intro zs ezs
  rw [ezs]
  repeat ((with_reducible refine And.intro ?_ ?_); exact ⟨by omega, by omega⟩)
  refine ⟨fun hle => ?_, fun hlt => ?_⟩
  · repeat ((with_reducible refine And.intro ?_ ?_); exact ⟨by omega, by omega⟩)
    intro z48 e48
    have e48 : z48 = yPe p g f A := by omega
    rw [e48]
    repeat ((with_reducible refine And.intro ?_ ?_); exact ⟨by omega, by omega⟩)
    intro z58 e58
    rw [e58]
    repeat ((with_reducible refine And.intro ?_ ?_); exact ⟨by omega, by omega⟩)
    intro M1 e1
    repeat ((with_reducible refine And.intro ?_ ?_); exact ⟨by omega, by omega⟩)
    intro M2 e2
    have hm := hmid _ (by omega) M1 e1 M2 e2 _ rfl
    rw [hm.1]
    repeat ((with_reducible refine And.intro ?_ ?_); exact ⟨by omega, by omega⟩)
    intro M3 e3
    exact (hmid _ (by omega) M1 e1 M2 e2 M3 (by rw [hm.1]; exact e3)).2
  · repeat ((with_reducible refine And.intro ?_ ?_); exact ⟨by omega, by omega⟩)
    intro z48 e48
    have e48 : z48 = yPe p g f A := by omega
    rw [e48]
    repeat ((with_reducible refine And.intro ?_ ?_); exact ⟨by omega, by omega⟩)
    intro z58 e58
    rw [e58]
    repeat ((with_reducible refine And.intro ?_ ?_); exact ⟨by omega, by omega⟩)
    intro M1 e1
    repeat ((with_reducible refine And.intro ?_ ?_); exact ⟨by omega, by omega⟩)
    intro M2 e2
    have hm := hmid _ (by omega) M1 e1 M2 e2 _ rfl
    rw [hm.1]
    repeat ((with_reducible refine And.intro ?_ ?_); exact ⟨by omega, by omega⟩)
    intro M3 e3
    exact (hmid _ (by omega) M1 e1 M2 e2 M3 (by rw [hm.1]; exact e3)).2
