theorem yIr_w {A : yA} {k v : Int} (h : yIr A) : yIr (yw A k v) := h
theorem yDR_w' {b : Nat} {M : xMe} {A : yA} (hI : yIr A) (h : yDR b M A) {k k' v : Int} (e : k = k') (hk : yG k) (h13 : k ≠ 13 := by omega) : yDR b (xw M b k.toNat v) (yw A k' v) := by
  subst e; exact yDR_w hI h hk h13
theorem yDa {b : Nat} {M : xMe} {A : yA} (h : yDR b M A) {k k' : Int} (e : k = k') (hk : yG k') : M b k.toNat = yS A k' := by
  subst e; exact h.1 k hk
theorem yD0 {b : Nat} {M : xMe} {A : yA} (h : yDR b M A) : M b 0 = yS A 0 := h.1 0 (by unfold yG; omega)
theorem s_X12_end {a : Nat} {p x : Int} {M : xMe} {A : yA} {Q : xMe → Prop} (hI : yIr A) (h : yDR (a + 2) M A) (h0 : 0 ≤ p) (h1 : p < 40) (h5 : 0 ≤ yS A 5 ∧ yS A 5 ≤ 1000) (h6 : 0 ≤ yS A 6 ∧ yS A 6 ≤ 1000) (hq : ∀ M', yDR (a + 2) M' (yw (yw (yw A (84 + 9 * p) x) (87 + 9 * p) (yS A 0)) (if x = 3 then 5 else 6) (yS A (if x = 3 then 5 else 6) + 1)) → (∀ b, b ≠ a + 2 → M' b = M b) → Q M') : p_X12_end a p x M Q := by
  unfold p_X12_end p_X12_packetAt
  refine ⟨⟨by omega, by omega⟩, ⟨by omega, by omega⟩, ⟨by omega, by omega⟩, ⟨by omega, by omega⟩, fun M1 e1 => ⟨⟨by omega, by omega⟩, ⟨by omega, by omega⟩, ⟨by omega, by omega⟩, ⟨by omega, by omega⟩, ⟨by omega, by omega⟩, fun M2 e2 => ?_⟩⟩
  have c1 : yDR (a + 2) M1 (yw A (84 + 9 * p) x) := by rw [e1]; exact yDR_w' hI h (by omega) (by unfold yG; omega)
  have c2 : yDR (a + 2) M2 (yw (yw A (84 + 9 * p) x) (87 + 9 * p) (yS A 0)) := by
    rw [e2, yD0 c1, show yS (yw A (84 + 9 * p) x) 0 = yS A 0 from yup_n (by omega)]
    exact yDR_w' (yIr_w hI) c1 (by omega) (by unfold yG; omega)
  have hf : ∀ (M' : xMe) (k : Nat) (v : Int), M' = xw M2 (a + 2) k v → ∀ b, b ≠ a + 2 → M' b = M b := fun M' k v e b hb => by rw [e, xw_B hb, e2, xw_B hb, e1, xw_B hb]
  have r6 : M2 (a + 2) 6 = yS A 6 := (c2.1 6 (by unfold yG; omega)).trans (by rw [yS_w, yup_n (by omega), yS_w, yup_n (by omega)])
  have r5 : M2 (a + 2) 5 = yS A 5 := (c2.1 5 (by unfold yG; omega)).trans (by rw [yS_w, yup_n (by omega), yS_w, yup_n (by omega)])
  rw [r5, r6]
  refine ⟨fun hx => ⟨⟨by omega, by omega⟩, ⟨by omega, by omega⟩, ⟨by omega, by omega⟩, fun M3 e3 => hq M3 ?_ (hf _ _ _ e3)⟩, fun hx => ⟨⟨by omega, by omega⟩, ⟨by omega, by omega⟩, ⟨by omega, by omega⟩, fun M3 e3 => hq M3 ?_ (hf _ _ _ e3)⟩⟩
  · rw [if_neg hx, e3]; exact yDR_w (k := 6) (yIr_w (yIr_w hI)) c2 (by unfold yG; omega)
  · rw [if_pos hx, e3]; exact yDR_w (k := 5) (yIr_w (yIr_w hI)) c2 (by unfold yG; omega)
theorem s_X12_refund {a : Nat} {p : Int} {M : xMe} {A : yA} {Q : xMe → Prop} (hI : yIr A) (h : yDR (a + 2) M A) (hI1 : yI1 A) (h0 : 0 ≤ p) (h1 : p < 40) (ht : 0 ≤ yS A 0 ∧ yS A 0 ≤ 11000) (hp : 0 ≤ yS A (86 + 9 * p) ∧ yS A (86 + 9 * p) ≤ 4000) (hq : ∀ M', yDR (a + 2) M' (yRef (yS A (81 + 9 * p)) (yS A (86 + 9 * p)) A) → (∀ b, b ≠ a + 2 → M' b = M b) → Q M') : p_X12_refund a p M Q := by
  obtain ⟨-, -, -, -, ⟨-, -, r1, r2, r3, r4⟩, -, -⟩ := hI1
  have hm := ymul_b hp ⟨r1, r2⟩
  have ed : Int.tdiv (yS A (86 + 9 * p) * yS A 10) 100 = (yS A (86 + 9 * p) * yS A 10) / 100 := Int.tdiv_eq_ediv_of_nonneg hm.1
  unfold p_X12_refund p_X12_packetAt p_X12_min
  dsimp only
  rw [yDa h (show 81 + 9 * p + 5 = 86 + 9 * p by omega) (by unfold yG; omega), show M (a + 2) 10 = yS A 10 from h.1 10 (by unfold yG; omega), show M (a + 2) 11 = yS A 11 from h.1 11 (by unfold yG; omega), yD0 h, yDa h (show 81 + 9 * p + 0 = 81 + 9 * p by omega) (by unfold yG; omega), h.2.1.1]
  have hfin : ∀ z, z = yRv (yS A (86 + 9 * p)) A → (z ≤ 0 → Q M) ∧ (0 < z → (((0 : Int) ≤ 4 ∧ (4 : Int) < 2105) ∧ ((30 ≤ ((yC A).length : Int) → Q M) ∧ (((yC A).length : Int) < 30 → (xR (81 + 9 * p + 0)) ∧ ((0 : Int) ≤ (81 + 9 * p + 0) ∧ ((81 + 9 * p + 0) : Int) < 2105) ∧ ((0 : Int) ≤ 0 ∧ (0 : Int) < 2105) ∧ ((0 : Int) ≤ 11 ∧ (11 : Int) < 2105) ∧ (xR (yS A 0 + yS A 11)) ∧ p_X12_putCoupon (a + 2) 2105 (yS A (81 + 9 * p)) z (yS A 0 + yS A 11) M (fun M73 => Q M73))))) := fun z ez => by
    refine ⟨fun hz => hq M (by unfold yRef; rw [if_neg (fun q => by omega)]; exact h) (fun _ _ => rfl), fun hz => ⟨⟨by omega, by omega⟩, fun hl => hq M (by unfold yRef; rw [if_neg (fun q => by omega)]; exact h) (fun _ _ => rfl), fun hl => ⟨⟨by omega, by omega⟩, ⟨by omega, by omega⟩, ⟨by omega, by omega⟩, ⟨by omega, by omega⟩, ⟨by omega, by omega⟩, s_X12_putCoupon h.2.1 (by omega) (fun M' g1 g2 g3 => hq M' ?_ g2)⟩⟩⟩
    unfold yRef
    rw [if_pos ⟨by omega, by omega⟩, ← ez]
    exact yDR_C hI h g1 g3
  unfold yRv at hfin
  refine ⟨⟨by omega, by omega⟩, ⟨by omega, by omega⟩, ⟨by omega, by omega⟩, ⟨by omega, by omega⟩, ⟨by omega, by omega⟩, ⟨by omega, by omega⟩, ⟨by decide, by rw [ed]; exact ⟨by omega, by omega⟩⟩, fun hle => hfin _ (by omega), fun hlt => hfin _ (by omega)⟩
/-- a queue is no longer than its gate's room -/
theorem yI4_room {A : yA} (hI1 : yI1 A) (hI3 : yI3 A) (hI4 : yI4 A) {g f : Int} (h0 : 0 ≤ g) (h1 : g < yS A 1) (h2 : 0 ≤ f) (h3 : f < yS A 2) : ((yQ A (6 * g + f)).length : Int) ≤ yS A (17 + 3 * g) := by
  have hg := hI1.2.1 g h0 h1
  obtain ⟨n1, n2, n3, n4, n5, n6⟩ := hI1.1
  cases hl : yQ A (6 * g + f) with
  | nil => simp; omega
  | cons p l =>
    obtain ⟨a, b, c, d, e⟩ := hI4.2 (6 * g + f) p (by rw [hl]; simp)
    obtain ⟨k1, k2, k3, k4, k5, k6, k7, k8, k9⟩ := yGt_ok hI1 hI3 a b (by omega)
    have : yGt A p = g := by unfold ySl at d; omega
    rw [this, hl] at e
    exact e
theorem yDR_push {b : Nat} {M M' : xMe} {A : yA} {s x : Int} (hI : yIr A) (h : yDR b M A) (hs : 0 ≤ s ∧ s < 36) (hx : 0 ≤ x ∧ x < 40) (hxq : ∀ s', x ∉ yQ A s')
    (e : (yQ A s = [] ∧ M' = xw (xw (xw M b (563 + 4 * s).toNat x) b (564 + 4 * s).toNat x) b (562 + 4 * s).toNat (M b (562 + 4 * s).toNat + 1)) ∨ (yQ A s ≠ [] ∧ M' = xw (xw (xw M b (89 + 9 * M b (564 + 4 * s).toNat).toNat x) b (564 + 4 * s).toNat x) b (562 + 4 * s).toNat (M b (562 + 4 * s).toNat + 1))) : yDR b M' (yqw A s (yQ A s ++ [x])) := by
  have hlast : yQ A s ≠ [] → ∃ z, (yQ A s).getLast? = some z ∧ M b (564 + 4 * s).toNat = z ∧ 0 ≤ z ∧ z < 40 := fun hne => by
    have hz := List.getLast?_eq_some_getLast hne
    exact ⟨_, hz, (h.2.2.2.1 s hs.1 hs.2).2.2.1 _ hz, yQok_in hI.1 (List.mem_of_getLast? hz)⟩
  rcases e with ⟨hn, rfl⟩ | ⟨hn, rfl⟩
  · refine yDR_q hI h (yQm_join hI.1 h.2.2.2.1 hs hxq ?_ ?_ ?_ ?_ ?_ ?_ ?_ ?_ ?_) (fun k hk => ?_)
    · simp only [xw_s]
    · intro s' h1 h2 h3; rw [xw_j (by omega), xw_j (by omega), xw_j (by omega)]
    · intro _; rw [xw_j (by omega), xw_j (by omega), xw_s]
    · intro h9; exact absurd hn h9
    · intro s' h1 h2 h3; rw [xw_j (by omega), xw_j (by omega), xw_j (by omega)]
    · rw [xw_j (by omega), xw_s]
    · intro s' h1 h2 h3; rw [xw_j (by omega), xw_j (by omega), xw_j (by omega)]
    · intro h9; exact absurd hn h9
    · intro p h1 h2 h3 h4; rw [xw_j (by omega), xw_j (by omega), xw_j (by omega)]
    · unfold yChi at hk; rw [xw_j (by omega), xw_j (by omega), xw_j (by omega)]
  · obtain ⟨z, hz, hz2, hz3, hz4⟩ := hlast hn
    have hzx : z ≠ x := fun e => hxq s (e ▸ List.mem_of_getLast? hz)
    rw [hz2]
    refine yDR_q hI h (yQm_join hI.1 h.2.2.2.1 hs hxq ?_ ?_ ?_ ?_ ?_ ?_ ?_ ?_ ?_) (fun k hk => ?_)
    · simp only [xw_s]
    · intro s' h1 h2 h3; rw [xw_j (by omega), xw_j (by omega), xw_j (by omega)]
    · intro h9; exact absurd h9 hn
    · intro _; rw [xw_j (by omega), xw_j (by omega), xw_j (by omega)]
    · intro s' h1 h2 h3; rw [xw_j (by omega), xw_j (by omega), xw_j (by omega)]
    · rw [xw_j (by omega), xw_s]
    · intro s' h1 h2 h3; rw [xw_j (by omega), xw_j (by omega), xw_j (by omega)]
    · intro _; rw [hz2, xw_j (by omega), xw_j (by omega), xw_s]
    · intro p h1 h2 h3 h4
      have : p ≠ z := by rcases h4 with h4 | h4; exact absurd h4 hn; rw [hz2] at h4; exact h4
      rw [xw_j (by omega), xw_j (by omega), xw_j (by omega)]
    · unfold yChi at hk; rw [xw_j (by omega), xw_j (by omega), xw_j (by omega)]
theorem s_X12_arrive {m : Nat} {p : Int} {M : xMe} {A : yA} {Q : xMe → Prop} (h : yDR (m + 2) M A) (hI : yI A) (a : 0 ≤ p) (b : p < yS A 3) (hs : yS A (84 + 9 * p) ≤ 2) (hs1 : yS A (84 + 9 * p) ≠ 1) (h5 : 0 ≤ yS A 5 ∧ yS A 5 ≤ 1000) (h6 : 0 ≤ yS A 6 ∧ yS A 6 ≤ 1000) (hq : ∀ M', yDR (m + 2) M' (yArr p A) → (∀ b, b ≠ m + 2 → M' b = M b) → Q M') : p_X12_arrive m p M Q := by
  have hIr := yI_r hI
  obtain ⟨hI1, hI2, hI3, hI4, hI5, hI6, hI7, hI8⟩ := hI
  have hN := hI1.1
  obtain ⟨g1, g2, g3, g4, g5, g6, g7, g8, g9⟩ := yGt_ok hI1 hI3 a b hs
  obtain ⟨n1, n2, n3, n4, n5, n6⟩ := id hN
  obtain ⟨k1, k2, k3, k4, k5, k6⟩ := hI1.2.1 _ g6 g7
  obtain ⟨t1, t2⟩ := hI7.2.2.2.2.2
  have hroom := yI4_room hI1 hI3 hI4 g6 g7 g1 g2
  have hroom : ((yQ A (ySl A p)).length : Int) ≤ yS A (17 + 3 * yGt A p) := hroom
  have hmn : M (m + 2) (562 + 4 * ySl A p).toNat = ((yQ A (ySl A p)).length : Int) := (h.2.2.2.1 _ g8 g9).1
  have hsl : 6 * yGt A p + yS A (81 + 9 * p) = ySl A p := rfl
  unfold p_X12_arrive p_X12_gateOf p_X12_ofFlow p_X12_pairAt p_X12_ofGate p_X12_packetAt
  dsimp only
  rw [yDa h (show 81 + 9 * p + 0 = 81 + 9 * p by omega) (by unfold yG; omega), yDa h (show 81 + 9 * p + 4 = 85 + 9 * p by omega) (by unfold yG; omega), yDa h (show 33 + 8 * yS A (81 + 9 * p) + (4 + yS A (85 + 9 * p)) = 37 + 8 * yS A (81 + 9 * p) + yS A (85 + 9 * p) by omega) (by unfold yG; omega), show yS A (37 + 8 * yS A (81 + 9 * p) + yS A (85 + 9 * p)) = yGt A p from rfl, hsl, yDa h (show 15 + 3 * yGt A p + 2 = 17 + 3 * yGt A p by omega) (by unfold yG; omega), show (561 + 4 * ySl A p + 1).toNat = (562 + 4 * ySl A p).toNat by omega, hmn]
  repeat refine ⟨⟨by omega, by omega⟩, ?_⟩
  refine ⟨fun hne => ?_, fun he => ?_⟩
  · have hlt : ((yQ A (ySl A p)).length : Int) < yS A (17 + 3 * yGt A p) := by omega
    have hArr : yArr p A = yqw (yw (yw A (84 + 9 * p) 1) (88 + 9 * p) (yS A 0)) (ySl A p) (yQ A (ySl A p) ++ [p]) := by unfold yArr; rw [if_neg (by omega)]
    refine ⟨⟨by omega, by omega⟩, ⟨by omega, by omega⟩, fun M1 e1 => ⟨⟨by omega, by omega⟩, ⟨by omega, by omega⟩, ⟨by omega, by omega⟩, fun M2 e2 => ?_⟩⟩
    have c1 : yDR (m + 2) M1 (yw A (84 + 9 * p) 1) := by rw [e1]; exact yDR_w' hIr h (by omega) (by unfold yG; omega)
    have c2 : yDR (m + 2) M2 (yw (yw A (84 + 9 * p) 1) (88 + 9 * p) (yS A 0)) := by
      rw [e2, yD0 c1, show yS (yw A (84 + 9 * p) 1) 0 = yS A 0 from yup_n (by omega)]
      exact yDR_w' (yIr_w hIr) c1 (by omega) (by unfold yG; omega)
    have hpush := fun M' e => yDR_push (M' := M') (s := ySl A p) (x := p) (yIr_w (yIr_w hIr)) c2 ⟨g8, g9⟩ ⟨a, by omega⟩ (fun s' hm => hs1 (hI4.2 s' p hm).2.2.1) e
    have hmn2 : M2 (m + 2) (562 + 4 * ySl A p).toNat = ((yQ A (ySl A p)).length : Int) := by
      rw [e2, xw_j (by omega), e1, xw_j (by omega)]; exact hmn
    rw [hmn2]
    refine ⟨⟨by omega, by omega⟩, ⟨by omega, by omega⟩, fun hn0 => ?_, fun hz => ?_⟩
    · have hne2 : yQ A (ySl A p) ≠ [] := fun e => hn0 (by rw [e]; rfl)
      obtain ⟨z, hz, hz2, hz3⟩ : ∃ z, (yQ A (ySl A p)).getLast? = some z ∧ M2 (m + 2) (564 + 4 * ySl A p).toNat = z ∧ 0 ≤ z ∧ z < 40 := by
        have hz := List.getLast?_eq_some_getLast hne2
        exact ⟨_, hz, (c2.2.2.2.1 _ g8 g9).2.2.1 _ hz, yQok_in hIr.1 (List.mem_of_getLast? hz)⟩
      have e3 : (561 + 4 * ySl A p + 3).toNat = (564 + 4 * ySl A p).toNat := by omega
      rw [e3, hz2]
      refine ⟨⟨by omega, by omega⟩, ⟨by omega, by omega⟩, ⟨by omega, by omega⟩, ⟨by omega, by omega⟩, ⟨by omega, by omega⟩, ⟨by omega, by omega⟩, fun M3 e9 => ⟨⟨by omega, by omega⟩, ⟨by omega, by omega⟩, fun M4 e4 => ⟨⟨by omega, by omega⟩, ⟨by omega, by omega⟩, ?_, ⟨by omega, by omega⟩, fun M5 e5 => ?_⟩⟩⟩
      · rw [e4, xw_j (by omega), e9, xw_j (by omega), hmn2]; exact ⟨by omega, by omega⟩
      · have hM5 : M5 = xw (xw (xw M2 (m + 2) (89 + 9 * M2 (m + 2) (564 + 4 * ySl A p).toNat).toNat p) (m + 2) (564 + 4 * ySl A p).toNat p) (m + 2) (562 + 4 * ySl A p).toNat (M2 (m + 2) (562 + 4 * ySl A p).toNat + 1) := by
          rw [e5, e4, xw_j (by omega), e9, xw_j (by omega), hz2, show (81 + 9 * z + 8).toNat = (89 + 9 * z).toNat by omega]
        refine hq M5 (by rw [hArr]; exact hpush M5 (Or.inr ⟨hne2, hM5⟩)) (fun b' hb' => ?_)
        rw [hM5, xw_B hb', xw_B hb', xw_B hb', e2, xw_B hb', e1, xw_B hb']
    · have hnil : yQ A (ySl A p) = [] := List.eq_nil_of_length_eq_zero (by omega)
      refine ⟨⟨by omega, by omega⟩, ⟨by omega, by omega⟩, fun M3 e9 => ⟨⟨by omega, by omega⟩, ⟨by omega, by omega⟩, fun M4 e4 => ⟨⟨by omega, by omega⟩, ⟨by omega, by omega⟩, ?_, ⟨by omega, by omega⟩, fun M5 e5 => ?_⟩⟩⟩
      · rw [e4, xw_j (by omega), e9, xw_j (by omega), hmn2]; exact ⟨by omega, by omega⟩
      · have hM5 : M5 = xw (xw (xw M2 (m + 2) (563 + 4 * ySl A p).toNat p) (m + 2) (564 + 4 * ySl A p).toNat p) (m + 2) (562 + 4 * ySl A p).toNat (M2 (m + 2) (562 + 4 * ySl A p).toNat + 1) := by
          rw [e5, e4, xw_j (by omega), e9, xw_j (by omega), show (561 + 4 * ySl A p + 2).toNat = (563 + 4 * ySl A p).toNat by omega, show (561 + 4 * ySl A p + 3).toNat = (564 + 4 * ySl A p).toNat by omega]
        refine hq M5 (by rw [hArr]; exact hpush M5 (Or.inl ⟨hnil, hM5⟩)) (fun b' hb' => ?_)
        rw [hM5, xw_B hb', xw_B hb', xw_B hb', e2, xw_B hb', e1, xw_B hb']
  · have hfull : yS A (17 + 3 * yGt A p) ≤ ((yQ A (ySl A p)).length : Int) := by omega
    have hArr : yArr p A = yRef (yS A (81 + 9 * p)) (yS A (86 + 9 * p)) (yw (yw (yw A (84 + 9 * p) 4) (87 + 9 * p) (yS A 0)) 6 (yS A 6 + 1)) := by unfold yArr; rw [if_pos hfull]
    have hpd := hI3 p a b
    refine s_X12_end hIr h a (by omega) h5 h6 (fun M1 d1 d2 => ?_)
    rw [show (if (4 : Int) = 3 then (5 : Int) else 6) = 6 from rfl] at d1
    have e86 : yS (yw (yw (yw A (84 + 9 * p) 4) (87 + 9 * p) (yS A 0)) 6 (yS A 6 + 1)) (86 + 9 * p) = yS A (86 + 9 * p) := by rw [yS_w, yup_n (by omega), yS_w, yup_n (by omega), yS_w, yup_n (by omega)]
    have e81 : yS (yw (yw (yw A (84 + 9 * p) 4) (87 + 9 * p) (yS A 0)) 6 (yS A 6 + 1)) (81 + 9 * p) = yS A (81 + 9 * p) := by rw [yS_w, yup_n (by omega), yS_w, yup_n (by omega), yS_w, yup_n (by omega)]
    have e0 : yS (yw (yw (yw A (84 + 9 * p) 4) (87 + 9 * p) (yS A 0)) 6 (yS A 6 + 1)) 0 = yS A 0 := by rw [yS_w, yup_n (by omega), yS_w, yup_n (by omega), yS_w, yup_n (by omega)]
    refine s_X12_refund (yIr_w (yIr_w (yIr_w hIr))) d1 (yI1_w (yI1_w (yI1_w hI1 (by unfold yStat; omega)) (by unfold yStat; omega)) (by unfold yStat; omega)) a (by omega) (by rw [e0]; exact ⟨t1, t2⟩) (by rw [e86]; exact ⟨by omega, by omega⟩) (fun M' f1 f2 => hq M' ?_ (fun b' hb' => (f2 b' hb').trans (d2 b' hb')))
    rw [hArr]
    rw [e81, e86] at f1
    exact f1
