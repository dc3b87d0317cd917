/-! the model's row: its parts apart -/
theorem yQm_o {mn fi la nx mn' fi' la' nx' : Int → Int} {q : Int → List Int} (hq : yQok q) (h : yQm mn fi la nx q) (h1 : ∀ s, 0 ≤ s → s < 36 → mn' s = mn s) (h2 : ∀ s, 0 ≤ s → s < 36 → fi' s = fi s) (h3 : ∀ s, 0 ≤ s → s < 36 → la' s = la s) (h4 : ∀ p, 0 ≤ p → p < 40 → nx' p = nx p) : yQm mn' fi' la' nx' q := fun s a b => by
  obtain ⟨g1, g2, g3, g4⟩ := h s a b
  exact ⟨(h1 s a b).trans g1, fun p hp => (h2 s a b).trans (g2 p hp), fun p hp => (h3 s a b).trans (g3 p hp), yCh_o g4 (fun p hp => by have := yQok_in hq hp; exact h4 p this.1 this.2)⟩
def yChi (k : Nat) : Prop := (561 ≤ k ∧ k < 705 ∧ (k - 561) % 4 ≠ 0) ∨ (81 ≤ k ∧ k < 441 ∧ (k - 81) % 9 = 8)
theorem yQd_o {b : Nat} {M M' : xMe} {q : Int → List Int} (hq : yQok q) (h : yQd b M q) (e : ∀ k, yChi k → M' b k = M b k) : yQd b M' q := yQm_o hq h (fun s h1 h2 => e _ (by unfold yChi; omega)) (fun s h1 h2 => e _ (by unfold yChi; omega)) (fun s h1 h2 => e _ (by unfold yChi; omega)) (fun p h1 h2 => e _ (by unfold yChi; omega))
theorem yD_f {b : Nat} {M M' : xMe} {S : Int → Int} (h : yD b M S) (e : ∀ k : Int, yG k → M' b k.toNat = M b k.toNat) : yD b M' S := fun k hk => (e k hk).trans (h k hk)
theorem yV_f {b : Nat} {M M' : xMe} {C : List yCo} (h : yV b M C) (hl : C.length ≤ 30) (e : ∀ k, k = 4 ∨ (441 ≤ k ∧ k < 561) → M' b k = M b k) : yV b M' C := ⟨by rw [e 4 (Or.inl rfl)]; exact h.1, fun i v hv => by
  have hi := (List.getElem?_eq_some_iff.mp hv).1
  rw [e _ (Or.inr ⟨by omega, by omega⟩), e _ (Or.inr ⟨by omega, by omega⟩), e _ (Or.inr ⟨by omega, by omega⟩), e _ (Or.inr ⟨by omega, by omega⟩)]
  exact h.2 i v hv⟩
theorem yY_f {b : Nat} {M M' : xMe} {P : List yPa} (h : yY b M P) (hl : P.length ≤ 40) (e : ∀ k, k = 14 ∨ (705 ≤ k ∧ k < 905) → M' b k = M b k) : yY b M' P := ⟨by rw [e 14 (Or.inl rfl)]; exact h.1, fun i v hv => by
  have hi := (List.getElem?_eq_some_iff.mp hv).1
  rw [e _ (Or.inr ⟨by omega, by omega⟩), e _ (Or.inr ⟨by omega, by omega⟩), e _ (Or.inr ⟨by omega, by omega⟩), e _ (Or.inr ⟨by omega, by omega⟩), e _ (Or.inr ⟨by omega, by omega⟩)]
  exact h.2 i v hv⟩
theorem yPr_f {b : Nat} {M M' : xMe} {K : List Int} (h : yPr b M K) (e : ∀ k, k = 13 ∨ 905 ≤ k → M' b k = M b k) : yPr b M' K := by
  rcases h with ⟨h1, h2⟩ | ⟨h1, h2, h3⟩
  · exact Or.inl ⟨h1, by rw [e 13 (Or.inl rfl)]; exact h2⟩
  · exact Or.inr ⟨by rw [e 13 (Or.inl rfl)]; exact h1, h2, fun j v hv => by rw [e _ (Or.inr (by omega))]; exact h3 j v hv⟩
/-- what the row's parts ask of A -/
def yIr (A : yA) : Prop := yQok (yQ A) ∧ (yC A).length ≤ 30 ∧ (yP A).length ≤ 40
theorem yI_r {A : yA} (h : yI A) : yIr A := ⟨h.2.2.2.1.1, h.2.2.2.2.1.1, h.2.2.2.2.2.1.1⟩
theorem yDR_w {b : Nat} {M : xMe} {A : yA} (hI : yIr A) (h : yDR b M A) {k v : Int} (hk : yG k) (h13 : k ≠ 13 := by omega) : yDR b (xw M b k.toNat v) (yw A k v) := by
  obtain ⟨h1, h2, h3, h4, h5⟩ := h
  have e : ∀ j : Nat, ¬ yG (j : Int) → xw M b k.toNat v b j = M b j := fun j hj => xw_j (fun e => hj (by rw [e, Int.toNat_of_nonneg hk.1]; exact hk))
  exact ⟨yD_w h1 hk.1, yV_f h2 hI.2.1 (fun j hj => e j (by unfold yG; omega)), yY_f h3 hI.2.2 (fun j hj => e j (by unfold yG; omega)), yQd_o hI.1 h4 (fun j hj => e j (by unfold yG yChi at *; omega)), yPr_f h5 (fun j hj => xw_j (by have := hk.1; unfold yG at hk; omega))⟩
theorem yDR_C {b : Nat} {M M' : xMe} {A : yA} {C : List yCo} (hI : yIr A) (h : yDR b M A) (hC : yV b M' C) (hf : yF4 b M M') : yDR b M' (yCw A C) := by
  obtain ⟨h1, h2, h3, h4, h5⟩ := h
  exact ⟨yD_f h1 (fun k hk => hf _ (by unfold yG at hk; omega) (by unfold yG at hk; omega)), hC, yY_f h3 hI.2.2 (fun k hk => hf k (by omega) (by omega)), yQd_o hI.1 h4 (fun k hk => hf k (by unfold yChi at hk; omega) (by unfold yChi at hk; omega)), yPr_f h5 (fun k hk => hf k (by omega) (by omega))⟩
theorem yDR_P {b : Nat} {M M' : xMe} {A : yA} {P : List yPa} (hI : yIr A) (h : yDR b M A) (hP : yY b M' P) (hf : yF5 b M M') : yDR b M' (yPw A P) := by
  obtain ⟨h1, h2, h3, h4, h5⟩ := h
  exact ⟨yD_f h1 (fun k hk => hf _ (by unfold yG at hk; omega) (by unfold yG at hk; omega)), yV_f h2 hI.2.1 (fun k hk => hf k (by omega) (by omega)), hP, yQd_o hI.1 h4 (fun k hk => hf k (by unfold yChi at hk; omega) (by unfold yChi at hk; omega)), yPr_f h5 (fun k hk => hf k (by omega) (by omega))⟩
theorem yDR_q {b : Nat} {M M' : xMe} {A : yA} {s : Int} {l : List Int} (hI : yIr A) (h : yDR b M A) (hQ : yQd b M' (yqu (yQ A) s l)) (hf : ∀ k, ¬ yChi k → M' b k = M b k) : yDR b M' (yqw A s l) := by
  obtain ⟨h1, h2, h3, h4, h5⟩ := h
  exact ⟨yD_f h1 (fun k hk => hf _ (by unfold yG at hk; unfold yChi; omega)), yV_f h2 hI.2.1 (fun k hk => hf k (by unfold yChi; omega)), yY_f h3 hI.2.2 (fun k hk => hf k (by unfold yChi; omega)), hQ, yPr_f h5 (fun k hk => hf k (by unfold yChi; omega))⟩
theorem yDR_o {b a k : Nat} {M : xMe} {A : yA} {v : Int} (h : yDR b M A) (hb : b ≠ a) : yDR b (xw M a k v) A := by
  unfold yDR yD yV yY yQd yPr at *
  rw [show xw M a k v b = M b from xw_B hb]
  exact h
theorem yDR_M {b : Nat} {M M' : xMe} {A : yA} (h : yDR b M A) (hb : M' b = M b) : yDR b M' A := by
  unfold yDR yD yV yY yQd yPr at *
  rw [hb]
  exact h
/-! ARRIVAL -/
def yArr (p : Int) (A : yA) : yA :=
  if yS A (17 + 3 * yGt A p) ≤ ((yQ A (ySl A p)).length : Int) then
    yRef (yS A (81 + 9 * p)) (yS A (86 + 9 * p)) (yw (yw (yw A (84 + 9 * p) 4) (87 + 9 * p) (yS A 0)) 6 (yS A 6 + 1))
  else yqw (yw (yw A (84 + 9 * p) 1) (88 + 9 * p) (yS A 0)) (ySl A p) (yQ A (ySl A p) ++ [p])
/-- what the packet's flow, gate and slot are -/
theorem yGt_ok {A : yA} (h1 : yI1 A) (h3 : yI3 A) {p : Int} (a : 0 ≤ p) (b : p < yS A 3) (hs : yS A (84 + 9 * p) ≤ 2) : 0 ≤ yS A (81 + 9 * p) ∧ yS A (81 + 9 * p) < yS A 2 ∧ 0 ≤ yS A (85 + 9 * p) ∧ yS A (85 + 9 * p) < yS A (33 + 8 * yS A (81 + 9 * p)) ∧ yS A (85 + 9 * p) < 4 ∧ 0 ≤ yGt A p ∧ yGt A p < yS A 1 ∧ 0 ≤ ySl A p ∧ ySl A p < 36 := by
  obtain ⟨⟨n1, n2, n3, n4, n5, n6⟩, -, hf, hp, -⟩ := h1
  obtain ⟨p1, p2, -⟩ := hp p a b
  obtain ⟨q1, q2, q3, q4, q5, -⟩ := h3 p a b
  obtain ⟨f1, f2, -, -, f5⟩ := hf _ p1 p2
  have s1 := q5 hs
  have g1 := f5 _ q3 s1
  unfold ySl yGt
  refine ⟨p1, p2, q3, s1, by omega, g1.1, g1.2, ?_, ?_⟩ <;> omega
theorem s_X1_gateAt {w : Nat} {f j : Int} {M : xMe} {A : yA} {Q : Int → xMe → Prop} (hN : yN A) (h : yR w M A) (h0 : 0 ≤ f) (h1 : f < yS A 2) (h2 : 0 ≤ j) (h3 : j < yS A (33 + 8 * f)) (h4 : j < 4) (hq : Q (yS A (37 + 8 * f + j)) M) : p_X1_gateAt (w + 5) f j M Q := by
  obtain ⟨n1, n2, n3, n4, n5, n6⟩ := hN
  unfold p_X1_gateAt
  rw [show w + 5 + 2 = w + 7 from rfl, show w + 5 + 1 = w + 6 from rfl, yr7 h h0 h1, yr6 h h0 h1 h2 h3 h4]
  exact ⟨fun h => absurd h (by omega), fun _ => ⟨fun h => absurd h (by omega), fun _ => ⟨fun h => absurd h (by omega), fun _ => ⟨fun h => absurd h (by omega), fun _ => ⟨⟨by omega, by omega⟩, fun _ => ⟨⟨by omega, by omega⟩, ⟨by omega, by omega⟩, ⟨by omega, by omega⟩, hq⟩, fun h => absurd h (by omega)⟩⟩⟩⟩⟩
theorem yFx_p {k : Int} (h : 81 ≤ k) : yFx k := ⟨by omega, by omega, by omega, by omega⟩
theorem yN_w {A : yA} {k v : Int} (h : yN A) (hk : yFx k) : yN (yw A k v) := by
  obtain ⟨e1, e2, e3, -⟩ := hk
  unfold yN
  rw [show yS (yw A k v) 1 = yS A 1 from yup_n (Ne.symm e1), show yS (yw A k v) 2 = yS A 2 from yup_n (Ne.symm e2), show yS (yw A k v) 3 = yS A 3 from yup_n (Ne.symm e3)]
  exact h
theorem yl_w {A : yA} (hN : yN A) {k0 v : Int} (hk : yFx k0) {o : Nat} {i k : Int} (h : yL A o i k) : yL (yw A k0 v) o i k := (yL_w hN hk).mpr h
theorem yI1_w {A : yA} {k v : Int} (h : yI1 A) (hk : ¬ yStat k) : yI1 (yw A k v) := yI1_st (ySt_w hk) h
theorem s_X10_arrive {w : Nat} {p : Int} {M : xMe} {A : yA} {Q : xMe → Prop} (h : yCR w M A) (hI : yI A) (a : 0 ≤ p) (b : p < yS A 3) (hs : yS A (84 + 9 * p) ≤ 2) (hs1 : yS A (84 + 9 * p) ≠ 1) (hq : ∀ M', yCR w M' (yArr p A) → yKp w M M' → (∀ fw e, yS A 0 + 1000 < e → yPar fw e (M' w 14) A (yArr p)) → (∀ b, b < w ∨ w + 36 ≤ b → M' b = M b) → Q M') : p_X10_arrive w p M Q := by
  obtain ⟨hI1, hI2, hI3, hI4, hI5, hI6, hI7, hI8⟩ := hI
  have hN := hI1.1
  obtain ⟨g1, g2, g3, g4, g5, g6, g7, g8, g9⟩ := yGt_ok hI1 hI3 a b hs
  obtain ⟨n1, n2, n3, n4, n5, n6⟩ := id hN
  obtain ⟨hR, hU, hX, hQ⟩ := id h
  obtain ⟨k1, k2, k3, k4, k5, k6⟩ := hI1.2.1 _ g6 g7
  obtain ⟨t1, t2⟩ := hI7.2.2.2.2.2
  unfold p_X10_arrive
  rw [yr17 hR a b]
  refine ⟨⟨a, by omega⟩, fun z ez => ⟨⟨a, by omega⟩, ?_⟩⟩
  subst ez
  rw [yr21 hR a b]
  refine s_X1_gateAt hN hR g1 g2 g3 g4 g5 ?_
  rw [show yS A (37 + 8 * yS A (81 + 9 * p) + yS A (85 + 9 * p)) = yGt A p from rfl]
  refine ⟨fun h => absurd h (by omega), fun _ => ?_⟩
  rw [yr1 hR]
  refine ⟨fun _ => ⟨⟨by omega, by omega⟩, ⟨by omega, by omega⟩, fun s es => ?_⟩, fun h => absurd h (by omega)⟩
  have es : s = ySl A p := by rw [es]; unfold ySl; omega
  subst es
  rw [yr4 hR g6 g7]
  have hmn : M (w + 12) (ySl A p).toNat = ((yQ A (ySl A p)).length : Int) := (hQ _ g8 g9).1
  rw [hmn]
  have f84 : yFx (84 + 9 * p) := yFx_p (by omega)
  have f87 : yFx (87 + 9 * p) := yFx_p (by omega)
  have f88 : yFx (88 + 9 * p) := yFx_p (by omega)
  have ns84 : ¬ yStat (84 + 9 * p) := by unfold yStat; omega
  have ns87 : ¬ yStat (87 + 9 * p) := by unfold yStat; omega
  have ns6 : ¬ yStat 6 := by unfold yStat; omega
  have f6 : yFx 6 := ⟨by decide, by decide, by decide, by omega⟩
  refine ⟨⟨by omega, by omega⟩, ⟨by omega, by omega⟩, fun hfull => ⟨⟨by omega, by omega⟩, fun M1 e1 => ⟨⟨by omega, by omega⟩, fun M2 e2 => ⟨⟨by omega, by omega⟩, ?_⟩⟩⟩, fun hroom => ⟨⟨by omega, by omega⟩, fun M1 e1 => ⟨⟨by omega, by omega⟩, fun M2 e2 => ?_⟩⟩⟩
  · have c1 : yCR w M1 (yw A (84 + 9 * p) 4) := by rw [e1]; exact yCR_w hN h (yl20 a b) f84
    have c2 : yCR w M2 (yw (yw A (84 + 9 * p) 4) (87 + 9 * p) (yS A 0)) := by
      rw [e2, yr0_7 c1.1, show yS (yw A (84 + 9 * p) 4) 0 = yS A 0 from yup_n (by omega)]
      exact yCR_w (yN_w hN f84) c1 (yl_w hN f84 (yl24 a b)) f87
    have c3 := yCR_x (k := 6) (v := yS A 6 + 1) (yN_w (yN_w hN f84) f87) c2 f6 (yL_56 (yN_w (yN_w hN f84) f87) (Or.inr (Or.inl rfl)))
    have h23 : M2 (w + 23) p.toNat = yS A (86 + 9 * p) := by rw [e2, xw_b (by omega), e1, xw_b (by omega)]; exact yr23 hR a b
    have e0 : yS (yw (yw (yw A (84 + 9 * p) 4) (87 + 9 * p) (yS A 0)) 6 (yS A 6 + 1)) 0 = yS A 0 := by
      rw [yS_w, yup_n (by omega), yS_w, yup_n (by omega), yS_w, yup_n (by omega)]
    have hpd := hI3 p a b
    have hArr : yArr p A = yRef (yS A (81 + 9 * p)) (yS A (86 + 9 * p)) (yw (yw (yw A (84 + 9 * p) 4) (87 + 9 * p) (yS A 0)) 6 (yS A 6 + 1)) := by unfold yArr; rw [if_pos hfull]
    rw [h23]
    refine s_X10_refund c3 (yI1_w (yI1_w (yI1_w hI1 ns84) ns87) ns6) hI5.1 (by rw [e0]; exact ⟨t1, t2⟩) ⟨by omega, by omega⟩ (fun M' d1 d2 d3 d4 => hq M' (by rw [hArr]; exact d1) ?_ (fun fw e he => ?_) (fun b' hb' => by rw [d4 b' hb', e2, xw_B (by omega), e1, xw_B (by omega)]))
    · refine yKp_trans ?_ d2
      unfold yKp
      rw [e2, xw_b (by omega), xw_b (by omega), e1, xw_b (by omega), xw_b (by omega)]
      exact ⟨rfl, fun h => ⟨h, Int.le_refl _⟩⟩
    · intro d B h0 hl hd
      rcases hd with ⟨rfl, rfl⟩ | ⟨L1, L2, v, hd0, hv, rfl, hC, hl1, hl2⟩
      · exact yDl_0
      · have := d3 fw e (by rw [e0]; exact he) d (yCw (yw (yw (yw A (84 + 9 * p) 4) (87 + 9 * p) (yS A 0)) 6 (yS A 6 + 1)) (L1 ++ (fw, v + d, e, 0) :: L2)) h0 hl (Or.inr ⟨L1, L2, v, hd0, hv, rfl, hC, hl1, hl2⟩)
        rw [hArr]
        have hB : yArr p (yCw A (L1 ++ (fw, v + d, e, 0) :: L2)) = yRef (yS A (81 + 9 * p)) (yS A (86 + 9 * p)) (yCw (yw (yw (yw A (84 + 9 * p) 4) (87 + 9 * p) (yS A 0)) 6 (yS A 6 + 1)) (L1 ++ (fw, v + d, e, 0) :: L2)) := by
          exact if_pos hfull
        rw [hB]; exact this
  · have c1 : yCR w M1 (yw A (84 + 9 * p) 1) := by rw [e1]; exact yCR_w hN h (yl20 a b) f84
    have c2 : yCR w M2 (yw (yw A (84 + 9 * p) 1) (88 + 9 * p) (yS A 0)) := by
      rw [e2, yr0_7 c1.1, show yS (yw A (84 + 9 * p) 1) 0 = yS A 0 from yup_n (by omega)]
      exact yCR_w (yN_w hN f84) c1 (yl_w hN f84 (yl22 a b)) f88
    have hArr : yArr p A = yqw (yw (yw A (84 + 9 * p) 1) (88 + 9 * p) (yS A 0)) (ySl A p) (yQ A (ySl A p) ++ [p]) := by unfold yArr; rw [if_neg (by omega)]
    refine s_X4_join hI4.1 c2.2.2.2 ⟨g8, g9⟩ ⟨a, by omega⟩ (fun s' hm => hs1 (hI4.2 s' p hm).2.2.1) (by omega) (fun M' d1 d2 => hq M' ?_ ?_ (fun fw e he => ?_) (fun b' hb' => by rw [d2 b' (by omega), e2, xw_B (by omega), e1, xw_B (by omega)]))
    · rw [hArr]
      exact ⟨yR_f c2.1 (fun b' h1 h2 h3 => d2 b' (by omega)), yU_f c2.2.1 (fun b' h1 h2 => d2 b' (by omega)), yX_f c2.2.2.1 (fun b' h1 h2 => d2 b' (by omega)), d1⟩
    · unfold yKp
      rw [d2 w (by omega), e2, xw_b (by omega), xw_b (by omega), e1, xw_b (by omega), xw_b (by omega)]
      exact ⟨rfl, fun h => ⟨h, Int.le_refl _⟩⟩
    · intro d B h0 hl hd
      rcases hd with ⟨rfl, rfl⟩ | ⟨L1, L2, v, hd0, hv, rfl, hC, hl1, hl2⟩
      · exact yDl_0
      · right
        refine ⟨L1, L2, v, hd0, hv, ?_, ?_, hl1, hl2⟩
        · rw [hArr]
          exact if_neg (Int.not_le.mpr hroom)
        · rw [hArr]; exact hC
