/-! THE CHANGES, from the random numbers to the join behind them -/
/-- what the join wants: nothing has changed, or both are A' -/
def rDn (K : Nat → Int → Int → Nat → Nat → Nat → Nat → Int → Int → Nat → Int → xTh → xMe → Prop) (n0 : Nat) (x2 : Int) (x rn r bf : Nat) (x8 x9 : Int) (q : Nat) (D P S : Nat → Prop) (A : yA) (H HB : List yA) : Prop :=
  (∀ (n : Nat) t M, n0 ≤ n + 20 → rMi x rn bf D P S t M r q A H A A HB → K n 1 x2 x rn r bf x8 x9 q 0 t M) ∧
  ∀ (n : Nat) t M A', rGo A' → yS A' 0 ≤ yS A 0 + 20 → (n0 : Int) ≤ n + 20 + (yPh A' - yPh A) → rMi x rn bf D P S t M r q A' (yPush H A) A' A HB → K n 1 x2 x rn r bf x8 x9 q 1 t M
theorem yPh_max {A : yA} (hI : yI A) : yPh A ≤ 800 ∧ -30 ≤ yPh A := by
  obtain ⟨n1, n2, n3, n4, n5, n6⟩ := id hI.1.1
  have a := ySp2_ge (h := fun p => yS A (85 + 9 * p)) (b := 4) (n := (yS A 3).toNat) (fun p a b => by
    have := hI.2.2.1 p a (by omega)
    exact ⟨this.2.2.1, this.2.2.2.1⟩)
  have b := ySp2_ge (h := fun p => if yS A (84 + 9 * p) = 4 then 1 else 0) (b := 1) (n := (yS A 3).toNat) (fun p _ _ => by split <;> omega)
  have e6 := hI.2.2.2.2.2.2.2.2.1
  rw [← e6] at b
  have c := hI.2.2.2.2.1.1
  unfold yPh yTot
  omega
section RCH
variable {F N n : Nat} {G : xGx} {xs : Nat → Int32} {Q : Int → xTh → xMe → Prop} {K4 : Nat → Int → Int → xTh → xMe → Prop} {K181 : Nat → Int → Int → Nat → Nat → Nat → Nat → Int → Int → xTh → xMe → Prop} {K1109 : Nat → Int → Int → Nat → Nat → Int → xTh → xMe → Prop} {K : Nat → Int → Int → Nat → Nat → Nat → Nat → Int → Int → Nat → Int → xTh → xMe → Prop} {x2 x8 x9 f fl bd : Int} {x rn r bf q : Nat} {D P S : Nat → Prop} {A : yA} {H HB : List yA} {t : xTh} {M : xMe}
/-- f is a flow, or fl = 0 -/
def rFl (A : yA) (f fl : Int) : Prop := (fl = 0 ∧ yS A 2 ≤ f) ∨ (fl = 1 ∧ f < yS A 2)
set_option maxHeartbeats 4000000 in
theorem k_thrift (hd : rDn K n x2 x rn r bf x8 x9 q D P S A H HB) (h : rMi x rn bf D P S t M r q A H A A HB) (hg : rGo A) (hn : 20 ≤ n) (f0 : 0 ≤ f) (hf : rFl A f fl) (b0 : 0 < bd) (b1 : bd ≤ 1000) : p_L_law_319 F G N xs Q K4 K181 K K1109 n x2 x rn r bf x8 x9 q (-2000000097) f fl bd rn t M := by
  have hN := hg.1.1.1.1.1
  unfold p_L_law_319
  refine s_rnd h hN b0 (by omega) (fun v M1 v0 v1 h1 => ?_)
  rcases hf with ⟨rfl, hf⟩ | ⟨rfl, hf⟩
  · refine ⟨fun _ => ?_, fun z => absurd rfl z⟩
    unfold p_L_law_341
    refine ⟨fun _ => ?_, fun z => absurd rfl z⟩
    unfold p_L_law_370
    refine ⟨fun _ => ?_, fun z => absurd rfl z⟩
    unfold p_L_law_387
    exact ⟨⟨by omega, h1.1.2.2.1⟩, w_setThrift h1.1.1 h1.1.2.1 hg.1 (fun _ z => absurd z (by omega)) (fun _ z hw hl => ⟨fun z => absurd rfl z, fun _ => hd.1 _ _ _ (by omega) (rMi_z h1 hN hl rfl)⟩) (fun _ z => absurd z (by omega))⟩
  · refine ⟨fun z => absurd z (by decide), fun _ => ⟨fun v2 => ?_, fun v2 => ?_⟩⟩
    · unfold p_L_law_341
      refine ⟨fun z => absurd z (by decide), fun _ => ⟨fun _ => ?_, fun z => absurd rfl z⟩⟩
      unfold p_L_law_370
      refine ⟨fun _ => ?_, fun z => absurd rfl z⟩
      unfold p_L_law_387
      exact ⟨⟨by omega, h1.1.2.2.1⟩, w_setThrift h1.1.1 h1.1.2.1 hg.1 (fun _ _ _ z => absurd z (by omega)) (fun z => absurd ⟨f0, hf⟩ z) (fun _ _ _ z hw hl => ⟨fun z => absurd rfl z, fun _ => hd.1 _ _ _ (by omega) (rMi_z h1 hN hl rfl)⟩)⟩
    · obtain ⟨σ, RA, cl, hr⟩ := h1.2.1.1
      obtain ⟨b, c1, c2, c3, c4⟩ := rRi_fl hr
      obtain ⟨d1, d2, d3, d4, -⟩ := c4 f f0 hf
      have w := rRi_wf (j := 0) (v := v) hr (rOk_of hg.1.1.1.1) f0 hf (by decide) (by decide)
      rw [Int.add_zero] at w
      obtain ⟨g1, g2⟩ := rGo_thr hg f0 hf v0 (by omega : v ≤ 99)
      unfold p_L_law_341
      refine ⟨fun z => absurd z (by decide), fun _ => ⟨fun z => absurd z (by decide), fun _ => ⟨b, c1, c2, ⟨f0, by omega⟩, _, d1, d2, ⟨by omega, by omega⟩, fun z ez => ?_⟩⟩⟩
      rw [d4] at ez
      subst ez
      unfold p_L_law_370
      refine ⟨fun z => absurd z (by decide), fun _ => ⟨b, c1, c2, ⟨f0, by omega⟩, _, d1, d2, ⟨by omega, by omega⟩, fun M2 e2 => ?_⟩⟩
      have h2 := rMi_P h1 hN (rFr_w (rFr_refl h1.2.2.2.2.2.1) (Or.inr (hr.2.2.2.1.2 f f0 hf).2.1)) w h1.2.1.2.2.1
      have e2' : M2 = xw M1 (RA (34 + 8 * f)) (0 : Int).toNat v := e2
      rw [← e2'] at h2
      unfold p_L_law_387
      refine ⟨⟨by omega, h2.1.2.2.1⟩, w_setThrift h2.1.1 h2.1.2.1 hg.1 (fun _ _ _ _ t3 M3 hc hfc hw hl => ⟨fun z => absurd rfl z, fun _ => ?_⟩) (fun z => absurd ⟨f0, hf⟩ z) (fun _ _ z => absurd ⟨v0, by omega⟩ z)⟩
      refine hd.2 _ _ _ _ g1 ?_ (by rw [g2]; omega) (rMi_cls h2 hw hl hfc hc (yPush_g h2.1.2.1 hg.1))
      have : yS (yw A (34 + 8 * f) v) 0 = yS A 0 := yup_n (by omega)
      omega
/-! send -/
set_option maxHeartbeats 4000000 in
theorem k_send0 {n' : Nat} {e z : Int} (hd : rDn K n x2 x rn r bf x8 x9 q D P S A H HB) (h : rMi x rn bf D P S t M r q A H A A HB) (hg : rGo A) (hn : 20 ≤ n) (hn' : n ≤ n') (f0 : 0 ≤ f) (he : (yS A 2 ≤ f ∧ e = -2000000097) ∨ (f < yS A 2 ∧ ¬ (1 ≤ z ∧ z ≤ 999) ∧ e = -2000000098) ∨ (f < yS A 2 ∧ (1 ≤ z ∧ z ≤ 999) ∧ 40 ≤ yS A 3 ∧ e = -2000000099)) : p_L_law_515 F G N xs Q K4 K181 K K1109 n' x2 x rn r bf x8 x9 q 0 e f z t M := by
  have hN := hg.1.1.1.1.1
  unfold p_L_law_515
  refine ⟨fun _ => ?_, fun z => absurd rfl z⟩
  unfold p_L_law_577
  have go : ∀ z9, xlive (z9, t.2) → K (n' - 3) 1 x2 x rn r bf x8 x9 q 0 (z9, t.2) M := fun z9 hl => hd.1 _ _ _ (by omega) (rMi_z h hN hl rfl)
  refine ⟨⟨by omega, h.1.2.2.1⟩, w_send h.1.1 h.1.2.1 hg.1 (fun _ a b c d => ?_) (fun a z9 _ hl => ?_) (fun _ a b z9 _ hl => ?_) (fun _ a b c d z9 _ hl => ?_)⟩
  · rcases he with ⟨a1, -⟩ | ⟨-, a1, -⟩ | ⟨-, -, a1, -⟩
    · omega
    · exact absurd ⟨b, c⟩ a1
    · omega
  · rcases he with ⟨-, rfl⟩ | ⟨a1, -⟩ | ⟨a1, -⟩
    · exact ⟨fun z => absurd rfl z, fun _ => go z9 hl⟩
    · exact absurd ⟨f0, a1⟩ a
    · exact absurd ⟨f0, a1⟩ a
  · rcases he with ⟨a1, -⟩ | ⟨-, -, rfl⟩ | ⟨-, a1, -⟩
    · omega
    · exact ⟨fun z => absurd rfl z, fun _ => go z9 hl⟩
    · exact absurd a1 b
  · rcases he with ⟨a1, -⟩ | ⟨-, a1, -⟩ | ⟨-, -, -, rfl⟩
    · omega
    · exact absurd ⟨b, c⟩ a1
    · exact ⟨fun z => absurd rfl z, fun _ => go z9 hl⟩
set_option maxHeartbeats 4000000 in
theorem k_send1 {n' : Nat} {z : Int} (hF : 60 ≤ F) (hd : rDn K n x2 x rn r bf x8 x9 q D P S A H HB) (h : rMi x rn bf D P S t M r q A H A A HB) (hg : rGo A) (hn : 20 ≤ n) (hn' : n ≤ n') (f0 : 0 ≤ f) (f1 : f < yS A 2) (z0 : 1 ≤ z) (z1 : z ≤ 999) (h40 : yS A 3 < 40) : p_L_law_515 F G N xs Q K4 K181 K K1109 n' x2 x rn r bf x8 x9 q 1 (yS A 3) f z t M := by
  have hN := hg.1.1.1.1.1
  obtain ⟨⟨σ, RA, cl, hr⟩, hD, hps, -, -⟩ := id h.2.1
  have hl := h.2.2.2.2.2.1
  obtain ⟨b, c1, c2, c3, c4⟩ := rRi_pk hr
  obtain ⟨g1, g2, g3⟩ := rGo_snd hg h40 f0 f1 z0 z1
  have hrz : r ≠ xz t := fun e => by have := hl r (by have := hr.1.1; omega); omega
  have hT : (xw (xw0 M (xz t)) (xz t) 0 f) r 0 = yS A 0 := by rw [xw_B hrz, xw0_B hrz]; exact hr.2.1.1
  have hx : xn (xnw t 14 8) (xz t) = 8 := by rw [xn_nw, if_pos rfl]
  have bd : ∀ j : Int, 0 ≤ j → j < 8 → (0 : Int) ≤ j ∧ j < (xn (xnw t 14 8) (xz t) : Int) := fun j a c => ⟨a, by rw [hx]; exact c⟩
  unfold p_L_law_515
  refine ⟨fun z => absurd z (by decide), fun _ => ⟨b, c1, c2, by omega, fun a1 t1 M1 ea et eM => ?_⟩⟩
  subst ea et eM
  refine ⟨bd 0 (by decide) (by decide), fun M2 e2 => ⟨bd 1 (by decide) (by decide), fun M3 e3 => ⟨bd 2 (by decide) (by decide), fun M4 e4 => ⟨bd 3 (by decide) (by decide), fun M5 e5 => ⟨bd 4 (by decide) (by decide), fun M6 e6 => ⟨bd 5 (by decide) (by decide), fun M7 e7 => ⟨bd 6 (by decide) (by decide), fun M8 e8 => ⟨bd 7 (by decide) (by decide), fun M9 e9 => ⟨1, by omega, ?_⟩⟩⟩⟩⟩⟩⟩⟩⟩
  subst e2
  rw [hT] at e3
  subst e3 e4 e5 e6 e7 e8 e9
  refine s_addPacket hr (rOk_of hg.1.1.1.1) h40 hl hD hps (by omega) c1 (Nat.le_refl _) (fun a σ' RA' t2 M10 u1 u2 u3 t3 et3 => ?_)
  subst et3
  have h2 := rMi_P h hN u2 u1 u3
  unfold p_L_law_577
  refine ⟨⟨by omega, h2.1.2.2.1⟩, w_send h2.1.1 h2.1.2.1 hg.1 (fun _ _ _ _ _ t3 M3 hc hfc hw hl => ⟨fun z => absurd rfl z, fun _ => ?_⟩) (fun z => absurd ⟨f0, f1⟩ z) (fun _ _ z => absurd ⟨z0, z1⟩ z) (fun _ _ _ _ z => absurd h40 z)⟩
  exact hd.2 _ _ _ _ g1 (by omega) (by rw [g2]; omega) (rMi_cls h2 hw hl hfc hc (yPush_g h2.1.2.1 hg.1))
set_option maxHeartbeats 4000000 in
theorem k_send (hF : 60 ≤ F) (hd : rDn K n x2 x rn r bf x8 x9 q D P S A H HB) (h : rMi x rn bf D P S t M r q A H A A HB) (hg : rGo A) (hn : 20 ≤ n) (f0 : 0 ≤ f) (hf : rFl A f fl) (b0 : 0 < bd) (b1 : bd ≤ 2000) : p_L_law_429 F G N xs Q K4 K181 K K1109 n x2 x rn r bf x8 x9 q (-2000000097) f fl bd rn t M := by
  have hN := hg.1.1.1.1.1
  unfold p_L_law_429
  refine s_rnd h hN b0 (by omega) (fun z M1 v0 v1 h1 => ?_)
  have nosize : ¬ (1 ≤ z ∧ z ≤ 999) → p_L_law_452 F G N xs Q K4 K181 K K1109 (n - 0) x2 x rn r bf x8 x9 q (-2000000097) f fl z 0 t M1 := fun hz => by
    unfold p_L_law_452
    have s0 : p_L_law_480 F G N xs Q K4 K181 K K1109 (n - 0) x2 x rn r bf x8 x9 q (-2000000097) f fl z 0 0 t M1 := by
      unfold p_L_law_480
      rcases hf with ⟨rfl, hf⟩ | ⟨rfl, hf⟩
      · exact ⟨fun _ => k_send0 hd h1 hg hn (Nat.le_refl n) f0 (Or.inl ⟨hf, rfl⟩), fun z => absurd rfl z⟩
      · exact ⟨fun z => absurd z (by decide), fun _ => ⟨fun z => absurd rfl z, fun _ => k_send0 hd h1 hg hn (Nat.le_refl n) f0 (Or.inr (Or.inl ⟨hf, hz, rfl⟩))⟩⟩
    exact ⟨fun _ => s0, fun _ => ⟨fun _ => s0, fun z => absurd rfl z⟩⟩
  refine ⟨fun q => nosize (by omega), fun q => ⟨fun q2 => nosize (by omega), fun q2 => ?_⟩⟩
  unfold p_L_law_452
  obtain ⟨σ, RA, cl, hr⟩ := h1.2.1.1
  obtain ⟨b, c1, c2, c3, c4⟩ := rRi_pk hr
  obtain ⟨n1, n2, n3, n4, n5, n6⟩ := id hN
  rcases hf with ⟨rfl, hf⟩ | ⟨rfl, hf⟩
  · refine ⟨fun _ => ?_, fun z => absurd rfl z⟩
    unfold p_L_law_480
    exact ⟨fun _ => k_send0 hd h1 hg hn (Nat.le_refl n) f0 (Or.inl ⟨hf, rfl⟩), fun z => absurd rfl z⟩
  · refine ⟨fun z => absurd z (by decide), fun _ => ⟨fun z => absurd z (by decide), fun _ => ⟨b, c1, c2, ⟨by omega, by omega⟩, fun q3 => ?_, fun q3 => ?_⟩⟩⟩
    · unfold p_L_law_480
      exact ⟨fun z => absurd z (by decide), fun _ => ⟨fun _ => ⟨fun _ => k_send0 hd h1 hg hn (Nat.le_refl n) f0 (Or.inr (Or.inr ⟨hf, ⟨by omega, by omega⟩, by omega, rfl⟩)), fun z => absurd rfl z⟩, fun z => absurd z (by decide)⟩⟩
    · unfold p_L_law_480
      refine ⟨fun z => absurd z (by decide), fun _ => ⟨fun _ => ⟨fun z => absurd z (by decide), fun _ => ⟨b, c1, c2, ⟨by omega, by omega⟩, fun z9 e9 => ?_⟩⟩, fun z => absurd z (by decide)⟩⟩
      rw [c3] at e9
      subst e9
      exact k_send1 hF hd h1 hg hn (Nat.le_refl n) f0 hf (by omega) (by omega) (by omega)
/-! grant -/
set_option maxHeartbeats 4000000 in
theorem k_grant0 {n' : Nat} {e v w : Int} (hd : rDn K n x2 x rn r bf x8 x9 q D P S A H HB) (h : rMi x rn bf D P S t M r q A H A A HB) (hg : rGo A) (hn : 20 ≤ n) (hn' : n ≤ n') (f0 : 0 ≤ f) (he : (yS A 2 ≤ f ∧ e = -2000000097) ∨ (f < yS A 2 ∧ ¬ ((1 ≤ v ∧ v ≤ 9999) ∧ (1 ≤ w ∧ w ≤ 9999)) ∧ e = -2000000098) ∨ (f < yS A 2 ∧ ((1 ≤ v ∧ v ≤ 9999) ∧ (1 ≤ w ∧ w ≤ 9999)) ∧ ¬ (yC A).length < 30 ∧ e = -2000000099)) : p_L_law_719 F G N xs Q K4 K181 K K1109 n' x2 x rn r bf x8 x9 q 0 e f v w t M := by
  have hN := hg.1.1.1.1.1
  unfold p_L_law_719
  refine ⟨fun _ => ?_, fun z => absurd rfl z⟩
  unfold p_L_law_765
  have go : ∀ z9, xlive (z9, t.2) → K (n' - 4) 1 x2 x rn r bf x8 x9 q 0 (z9, t.2) M := fun z9 hl => hd.1 _ _ _ (by omega) (rMi_z h hN hl rfl)
  refine ⟨⟨by omega, h.1.2.2.1⟩, w_grant h.1.1 h.1.2.1 hg.1 (fun _ a b c d => ?_) (fun a z9 _ hl => ?_) (fun _ a b z9 _ hl => ?_) (fun _ a b c d z9 _ hl => ?_)⟩
  · rcases he with ⟨a1, -⟩ | ⟨-, a1, -⟩ | ⟨-, -, a1, -⟩
    · omega
    · exact absurd ⟨b, c⟩ a1
    · exact absurd d a1
  · rcases he with ⟨-, rfl⟩ | ⟨a1, -⟩ | ⟨a1, -⟩
    · exact ⟨fun z => absurd rfl z, fun _ => go z9 hl⟩
    · exact absurd ⟨f0, a1⟩ a
    · exact absurd ⟨f0, a1⟩ a
  · rcases he with ⟨a1, -⟩ | ⟨-, -, rfl⟩ | ⟨-, a1, -⟩
    · omega
    · exact ⟨fun z => absurd rfl z, fun _ => go z9 hl⟩
    · exact absurd a1 b
  · rcases he with ⟨a1, -⟩ | ⟨-, a1, -⟩ | ⟨-, -, -, rfl⟩
    · omega
    · exact absurd ⟨b, c⟩ a1
    · exact ⟨fun z => absurd rfl z, fun _ => go z9 hl⟩
theorem rGo_grant {v w : Int} (hg : rGo A) (f0 : 0 ≤ f) (f1 : f < yS A 2) (v0 : 1 ≤ v ∧ v ≤ 9999) (w0 : 1 ≤ w ∧ w ≤ 9999) (hC : (yC A).length < 30) : rGo (yCw A (yC A ++ [(f, v, yS A 0 + w, 0)])) := by
  have i5 := hg.1.1.1.2.2.2.2.1
  have ht := hg.1.2.1
  have ht0 := hg.1.1.1.2.2.2.2.2.2.1.2.2.2.2.2.1
  refine rGo_C hg (yG0_C hg.1 (by rw [List.length_append]; simp; omega) (fun c hc => ?_) (fun c hc => ?_))
  · rcases List.mem_append.mp hc with h | h
    · exact i5.2 c h
    · rw [List.mem_singleton] at h
      subst h
      exact ⟨f0, f1, v0.1, v0.2, by show yS A 0 ≤ yS A 0 + w; omega, by show yS A 0 + w ≤ 40000; omega, Int.le_refl 0, (by decide : (0 : Int) ≤ 2)⟩
  · rcases List.mem_append.mp hc with h | h
    · exact hg.1.2.2.2 c h
    · rw [List.mem_singleton] at h
      subst h
      show yS A 0 + w ≤ yS A 0 + 9999; omega
set_option maxHeartbeats 4000000 in
theorem k_grant1 {n' : Nat} {v w : Int} (hF : 60 ≤ F) (hd : rDn K n x2 x rn r bf x8 x9 q D P S A H HB) (h : rMi x rn bf D P S t M r q A H A A HB) (hg : rGo A) (hn : 20 ≤ n) (hn' : n ≤ n') (f0 : 0 ≤ f) (f1 : f < yS A 2) (v0 : 1 ≤ v ∧ v ≤ 9999) (w0 : 1 ≤ w ∧ w ≤ 9999) (hC : (yC A).length < 30) : p_L_law_719 F G N xs Q K4 K181 K K1109 n' x2 x rn r bf x8 x9 q 1 ((yC A).length : Int) f v w t M := by
  have hN := hg.1.1.1.1.1
  obtain ⟨⟨σ, RA, cl, hr⟩, hD, hps, -, -⟩ := id h.2.1
  have hl := h.2.2.2.2.2.1
  obtain ⟨b, c1, c2, c3, c4⟩ := rRi_co hr
  have g1 := rGo_grant hg f0 f1 v0 w0 hC
  have ht := hg.1.2.1
  have ht0 := hg.1.1.1.2.2.2.2.2.2.1.2.2.2.2.2.1
  have hrz : r ≠ xz t := fun e => by have := hl r (by have := hr.1.1; omega); omega
  have hT : (xw (xw (xw0 M (xz t)) (xz t) 0 f) (xz t) 1 v) r 0 = yS A 0 := by rw [xw_B hrz, xw_B hrz, xw0_B hrz]; exact hr.2.1.1
  have hx : xn (xnw t 14 4) (xz t) = 4 := by rw [xn_nw, if_pos rfl]
  have bd : ∀ j : Int, 0 ≤ j → j < 4 → (0 : Int) ≤ j ∧ j < (xn (xnw t 14 4) (xz t) : Int) := fun j a c => ⟨a, by rw [hx]; exact c⟩
  unfold p_L_law_719
  refine ⟨fun z => absurd z (by decide), fun _ => ⟨b, c1, c2, by omega, fun a1 t1 M1 ea et eM => ?_⟩⟩
  subst ea et eM
  refine ⟨bd 0 (by decide) (by decide), fun M2 e2 => ⟨bd 1 (by decide) (by decide), fun M3 e3 => ?_⟩⟩
  subst e2 e3
  rw [hT]
  refine ⟨⟨by omega, by omega⟩, bd 2 (by decide) (by decide), fun M4 e4 => ⟨bd 3 (by decide) (by decide), fun M5 e5 => ⟨1, by omega, ?_⟩⟩⟩
  subst e4 e5
  refine s_addCoupon hr hl hD hps hC (by omega) c1 (Nat.le_refl _) (fun a σ' cl' t2 M10 u1 u2 u3 t3 et3 => ?_)
  subst et3
  have h2 := rMi_P h hN u2 u1 u3
  unfold p_L_law_765
  refine ⟨⟨by omega, h2.1.2.2.1⟩, w_grant h2.1.1 h2.1.2.1 hg.1 (fun _ _ _ _ _ t3 M3 hc hfc hw hl => ⟨fun z => absurd rfl z, fun _ => ?_⟩) (fun z => absurd ⟨f0, f1⟩ z) (fun _ _ z => absurd ⟨v0, w0⟩ z) (fun _ _ _ _ z => absurd hC z)⟩
  refine hd.2 _ _ _ _ g1 ?_ ?_ (rMi_cls h2 hw hl hfc hc (yPush_g h2.1.2.1 hg.1))
  · have : yS (yCw A (yC A ++ [(f, v, yS A 0 + w, 0)])) 0 = yS A 0 := rfl
    omega
  · rw [yPh_C, List.length_append]; simp; omega
set_option maxHeartbeats 4000000 in
theorem k_grant {v : Int} (hF : 60 ≤ F) (hd : rDn K n x2 x rn r bf x8 x9 q D P S A H HB) (h : rMi x rn bf D P S t M r q A H A A HB) (hg : rGo A) (hn : 20 ≤ n) (f0 : 0 ≤ f) (hf : rFl A f fl) (hv : 0 ≤ v ∧ v < 40) (b0 : 0 < bd) (b1 : bd ≤ 20000) : p_L_law_628 F G N xs Q K4 K181 K K1109 n x2 x rn r bf x8 x9 q (-2000000097) f fl v bd rn t M := by
  have hN := hg.1.1.1.1.1
  unfold p_L_law_628
  refine s_rnd h hN b0 (by omega) (fun w M1 v0 v1 h1 => ?_)
  have noright : ¬ ((1 ≤ v ∧ v ≤ 9999) ∧ (1 ≤ w ∧ w ≤ 9999)) → p_L_law_656 F G N xs Q K4 K181 K K1109 (n - 0) x2 x rn r bf x8 x9 q (-2000000097) f fl v w 0 t M1 := fun hz => by
    unfold p_L_law_656
    have s0 : p_L_law_684 F G N xs Q K4 K181 K K1109 (n - 0) x2 x rn r bf x8 x9 q (-2000000097) f fl v w 0 0 t M1 := by
      unfold p_L_law_684
      rcases hf with ⟨rfl, hf⟩ | ⟨rfl, hf⟩
      · exact ⟨fun _ => k_grant0 hd h1 hg hn (Nat.le_refl n) f0 (Or.inl ⟨hf, rfl⟩), fun z => absurd rfl z⟩
      · exact ⟨fun z => absurd z (by decide), fun _ => ⟨fun z => absurd rfl z, fun _ => k_grant0 hd h1 hg hn (Nat.le_refl n) f0 (Or.inr (Or.inl ⟨hf, hz, rfl⟩))⟩⟩
    exact ⟨fun _ => s0, fun _ => ⟨fun _ => s0, fun z => absurd rfl z⟩⟩
  refine ⟨fun q => noright (by omega), fun q => ⟨fun q2 => noright (by omega), fun q2 => ⟨fun q3 => noright (by omega), fun q3 => ?_⟩⟩⟩
  unfold p_L_law_656
  obtain ⟨σ, RA, cl, hr⟩ := h1.2.1.1
  obtain ⟨b, c1, c2, c3, c4⟩ := rRi_co hr
  have hC := hg.1.1.1.2.2.2.2.1.1
  have ok : (1 ≤ v ∧ v ≤ 9999) ∧ (1 ≤ w ∧ w ≤ 9999) := by omega
  rcases hf with ⟨rfl, hf⟩ | ⟨rfl, hf⟩
  · refine ⟨fun _ => ?_, fun z => absurd rfl z⟩
    unfold p_L_law_684
    exact ⟨fun _ => k_grant0 hd h1 hg hn (Nat.le_refl n) f0 (Or.inl ⟨hf, rfl⟩), fun z => absurd rfl z⟩
  · refine ⟨fun z => absurd z (by decide), fun _ => ⟨fun z => absurd z (by decide), fun _ => ⟨b, c1, c2, ⟨by omega, by omega⟩, fun q3 => ?_, fun q3 => ?_⟩⟩⟩
    · unfold p_L_law_684
      exact ⟨fun z => absurd z (by decide), fun _ => ⟨fun _ => ⟨fun _ => k_grant0 hd h1 hg hn (Nat.le_refl n) f0 (Or.inr (Or.inr ⟨hf, ok, by omega, rfl⟩)), fun z => absurd rfl z⟩, fun z => absurd z (by decide)⟩⟩
    · unfold p_L_law_684
      refine ⟨fun z => absurd z (by decide), fun _ => ⟨fun _ => ⟨fun z => absurd z (by decide), fun _ => ⟨b, c1, c2, ⟨by omega, by omega⟩, fun z9 e9 => ?_⟩⟩, fun z => absurd z (by decide)⟩⟩
      rw [c3] at e9
      subst e9
      exact k_grant1 hF hd h1 hg hn (Nat.le_refl n) f0 hf ok.1 ok.2 (by omega)
/-! forward -/
set_option maxHeartbeats 4000000 in
theorem k_fwd0 {n' : Nat} {p : Int} (hd : rDn K n x2 x rn r bf x8 x9 q D P S A H HB) (h : rMi x rn bf D P S t M r q A H A A HB) (hg : rGo A) (hn : 20 ≤ n) (hn' : n ≤ n') (p0 : 0 ≤ p) (f0 : 0 ≤ f) (he : yS A 2 ≤ f ∨ ((yC A).length : Int) ≤ p) : p_L_law_825 F G N xs Q K4 K181 K K1109 n' x2 x rn r bf x8 x9 q (-2000000097) f p 0 t M := by
  have hN := hg.1.1.1.1.1
  unfold p_L_law_825
  refine ⟨fun _ => ?_, fun z => absurd rfl z⟩
  unfold p_L_law_924
  have go : ∀ z9, xlive (z9, t.2) → K (n' - 2) 1 x2 x rn r bf x8 x9 q 0 (z9, t.2) M := fun z9 hl => hd.1 _ _ _ (by omega) (rMi_z h hN hl rfl)
  exact ⟨⟨by omega, h.1.2.2.1⟩, w_forward h.1.1 h.1.2.1 hg.1 (fun _ a _ b => by omega) (fun _ z9 _ hl => ⟨fun z => absurd rfl z, fun _ => go z9 hl⟩) (fun _ _ _ z9 _ hl => ⟨fun z => absurd rfl z, fun _ => go z9 hl⟩)⟩
set_option maxHeartbeats 4000000 in
theorem k_fwd1 {n' : Nat} {p : Int} (hd : rDn K n x2 x rn r bf x8 x9 q D P S A H HB) (h : rMi x rn bf D P S t M r q A H A A HB) (hg : rGo A) (hn : 20 ≤ n) (hn' : n ≤ n') (p0 : 0 ≤ p) (p1 : p < ((yC A).length : Int)) (f0 : 0 ≤ f) (f1 : f < yS A 2) : p_L_law_825 F G N xs Q K4 K181 K K1109 n' x2 x rn r bf x8 x9 q (-2000000097) f p 1 t M := by
  have hN := hg.1.1.1.1.1
  obtain ⟨σ, RA, cl, hr⟩ := id h.2.1.1
  have hl := h.2.2.2.2.2.1
  obtain ⟨b, c1, c2, c3, c4⟩ := rRi_co hr
  have hi : p.toNat < (yC A).length := by omega
  have hu : (yC A)[p.toNat]? = some ((yC A)[p.toNat]'hi) := List.getElem?_eq_getElem hi
  obtain ⟨c, d1, d2, d3, d4, d5, d6, d7, d8⟩ := c4 p.toNat _ hu
  have i5 := hg.1.1.1.2.2.2.2.1.2 _ (List.mem_of_getElem? hu)
  have hfe : M r 10 = yS A 9 := hr.2.1.2.2.2.1
  have hGf := yFwd_G (p := p) hg.1 f0 f1
  generalize hue : (yC A)[p.toNat]'hi = u at hu d5 d6 d7 d8 i5
  have bd : ∀ j : Int, 0 ≤ j → j < 4 → (0 : Int) ≤ j ∧ j < (xn t c : Int) := fun j a c => ⟨a, by rw [d4]; exact c⟩
  have hlen : (yFwd A p f).1.length = (yC A).length := by
    unfold yFwd
    rw [hu]
    dsimp only
    split
    · rfl
    · rw [List.length_append, List.length_cons, List.length_drop, List.length_take]; omega
  have fin : ∀ {M2 : xMe} {e : Int} {n2 : Nat}, n ≤ n2 → rMi x rn bf D P S t M2 r q A H (yCw A (yFwd A p f).1) A HB → e = (yFwd A p f).2 → p_L_law_924 F G N xs Q K4 K181 K K1109 n2 x2 x rn r bf x8 x9 q 1 e f p t M2 := fun {M2 e n2} hn2 h2 he => by
    unfold p_L_law_924
    refine ⟨⟨by omega, h2.1.2.2.1⟩, w_forward h2.1.1 h2.1.2.1 hg.1 (fun _ _ _ _ t3 M3 hc hfc hw hl => ⟨fun z => absurd he.symm z, fun _ => ?_⟩) (fun z => absurd ⟨p0, p1⟩ z) (fun _ _ z => absurd ⟨f0, f1⟩ z)⟩
    refine hd.2 _ _ _ _ (rGo_C hg hGf) ?_ ?_ (rMi_cls h2 hw hl hfc hc (yPush_g h2.1.2.1 hg.1))
    · have : yS (yCw A (yFwd A p f).1) 0 = yS A 0 := rfl
      omega
    · rw [yPh_C, hlen]; omega
  have ref : (u.1 = f ∨ 2 ≤ u.2.2.2 ∨ u.2.1 ≤ yS A 9) → p_L_law_876 F G N xs Q K4 K181 (p_L_law_924 F G N xs Q K4 K181 K K1109) K K1109 n' x2 x rn r bf x8 x9 q 1 f p c 1 t M := fun hr' => by
    unfold p_L_law_876
    refine ⟨fun _ => ?_, fun z => absurd z (by decide)⟩
    unfold p_L_law_909
    refine ⟨fun z => absurd z (by decide), fun _ => ?_⟩
    have e1 : yFwd A p f = (yC A, -1) := by unfold yFwd; rw [hu]; dsimp only; rw [if_pos hr']
    refine fin hn' ?_ (by rw [e1])
    rw [e1]; exact h
  unfold p_L_law_825
  refine ⟨fun z => absurd z (by decide), fun _ => ⟨b, c1, c2, ⟨p0, by omega⟩, c, d1, d3, bd 0 (by decide) (by decide), fun e => ref (Or.inl (by omega)), fun e => ⟨bd 3 (by decide) (by decide), fun e2 => ref (Or.inr (Or.inl (by omega))), fun e2 => ⟨bd 1 (by decide) (by decide), fun e3 => ?_, fun e3 => ref (Or.inr (Or.inr (by omega)))⟩⟩⟩⟩
  have nref : ¬ (u.1 = f ∨ 2 ≤ u.2.2.2 ∨ u.2.1 ≤ yS A 9) := by omega
  have e1 : yFwd A p f = ((yC A).set p.toNat (f, u.2.1 - yS A 9, u.2.2.1, u.2.2.2 + 1), u.2.1 - yS A 9) := by
    unfold yFwd; rw [hu]; dsimp only; rw [if_neg nref, set_take _ _ _ hi]
  have hrc : r ≠ c := rSc_ne hr d3
  have w1 : (xw M c 0 f) c 1 = u.2.1 := by rw [xw_j (by decide)]; exact d6
  have w2 : (xw M c 0 f) r 10 = yS A 9 := by rw [xw_B hrc]; exact hfe
  have w3 : (xw (xw M c 0 f) c 1 (u.2.1 - yS A 9)) c 3 = u.2.2.2 := by rw [xw_j (by decide), xw_j (by decide)]; exact d8
  have fee := hg.1.1.1.1.2.2.2
  unfold p_L_law_876
  refine ⟨fun z => absurd rfl z, fun _ => ⟨bd 0 (by decide) (by decide), fun M2 e2 => ⟨bd 1 (by decide) (by decide), ?_⟩⟩⟩
  subst e2
  rw [w1, w2]
  refine ⟨⟨by omega, by omega⟩, bd 1 (by decide) (by decide), fun M3 e3 => ⟨bd 3 (by decide) (by decide), ?_⟩⟩
  subst e3
  rw [w3]
  refine ⟨⟨by omega, by omega⟩, bd 3 (by decide) (by decide), fun M4 e4 => ?_⟩
  have hPc : P c := (hr.2.2.2.2.2.2.2.1.2.2.2 p.toNat c u d2 hu).2.1
  have g := rRi_call (i := p.toNat) (w := (f, u.2.1 - yS A 9, u.2.2.1, u.2.2.2 + 1)) hr d2 hu rfl
  have h2 := rMi_P h hN (rFr_w (rFr_w (rFr_w (rFr_refl hl) (Or.inr hPc)) (Or.inr hPc)) (Or.inr hPc)) g h.2.1.2.2.1
  have e4' : M4 = xw (xw (xw M c 0 f) c 1 (u.2.1 - yS A 9)) c 3 (u.2.2.2 + 1) := e4
  rw [← e4'] at h2
  unfold p_L_law_909
  refine ⟨fun _ => ⟨bd 1 (by decide) (by decide), fun z9 e9 => ?_⟩, fun z => absurd rfl z⟩
  have w4 : M4 c 1 = u.2.1 - yS A 9 := by rw [e4', xw_j (by decide), xw_s]
  rw [w4] at e9
  subst e9
  refine fin hn' ?_ (by rw [e1])
  rw [e1]; exact h2
/-! ticks -/
set_option maxHeartbeats 4000000 in
theorem k_ticks {s had : Int} {K1009 : Nat → Int → Nat → Nat → Nat → Nat → Int → Int → Nat → Int → Int → Int → xTh → xMe → Prop} (hF : 60 ≤ F) (hg : rGo A) (hs : yS A 0 + s ≤ 9999) {fl : Int} {n0 : Nat} (hn0 : (n0 : Int) + (yPh (yAdv (-1) s.toNat A) - yPh A) ≤ n) (hq : ∀ (n' : Nat) t M, (n : Int) - (yPh (yAdv (-1) s.toNat A) - yPh A) ≤ n' → rMi x rn bf D P S t M r q A H (yAdv (-1) s.toNat A) A HB → K1009 n' x2 x rn r bf x8 x9 q fl s had t M) : ∀ (d k n' : Nat) (i : Nat) (t : xTh) (M : xMe), (i : Int) + d = s → d < k → (n : Int) - (yPh (yAdv (-1) i A) - yPh A) ≤ n' → rMi x rn bf D P S t M r q A H (yAdv (-1) i A) A HB → p_L_law_991 F G N xs Q K4 K181 K1009 K K1109 k n' x2 x rn r bf x8 x9 q fl s had (i : Int) t M := by
  intro d
  have ht0 := hg.1.1.1.2.2.2.2.2.2.1.2.2.2.2.2.1
  induction d with
  | zero =>
    intro k n' i t M hi hk hn h
    obtain ⟨k, rfl⟩ : ∃ k', k = k' + 1 := ⟨k - 1, by omega⟩
    unfold p_L_law_991
    have e : s.toNat = i := by omega
    refine ⟨fun _ => hq n' t M (by rw [e]; exact hn) (by rw [e]; exact h), fun z => absurd z (by omega)⟩
  | succ d ih =>
    intro k n' i t M hi hk hn h
    obtain ⟨k, rfl⟩ : ∃ k', k = k' + 1 := ⟨k - 1, by omega⟩
    obtain ⟨a1, a2, a3⟩ := rGo_adv i A hg (by omega)
    obtain ⟨b1, b2, b3⟩ := rGo_adv (i + 1) A hg (by omega)
    have mono : ∀ m, (i + 1) + m ≤ s.toNat → yPh (yAdv (-1) (i + 1) A) ≤ yPh (yAdv (-1) ((i + 1) + m) A) := by
      intro m
      induction m with
      | zero => intro _; exact Int.le_refl _
      | succ m ihm =>
        intro hm
        have q1 := ihm (by omega)
        obtain ⟨c1, c2, c3⟩ := rGo_adv ((i + 1) + m) A hg (by omega)
        have q2 := (rGo_tick c1 (by omega)).2.1
        rw [show (i + 1) + (m + 1) = ((i + 1) + m) + 1 by omega, yAdv_sc ((i + 1) + m) A]
        omega
    have hm := mono (s.toNat - (i + 1)) (by omega)
    rw [show (i + 1) + (s.toNat - (i + 1)) = s.toNat by omega] at hm
    rw [yAdv_sc] at b1 b2 b3 hm
    obtain ⟨⟨σ, RA, cl, hr⟩, hD, hps, hP, hS⟩ := id h.2.1
    have hl := h.2.2.2.2.2.1
    have gd : rGd P S RA t M r (yAdv (-1) i A) := ⟨⟨σ, cl, hr⟩, a1.1.1.1, a1.2.1, hl, hD, hps⟩
    have t2 := (rGo_tick a1 (by omega)).2.1
    unfold p_L_law_991
    refine ⟨fun z => absurd z (by omega), fun _ => ⟨(yPh (yTick (yAdv (-1) i A)) - yPh (yAdv (-1) i A)).toNat, by omega, ?_⟩⟩
    refine s_tick (by omega) gd a1.1.1.2 (by omega) a1.2.2 (by omega) (fun t' M' g' f' => ⟨⟨by omega, by omega⟩, ?_⟩)
    obtain ⟨⟨σ', cl', hr'⟩, -, -, -, -, hps'⟩ := g'
    rw [show (i : Int) + 1 = ((i + 1 : Nat) : Int) by omega]
    refine ih k _ (i + 1) t' M' (by omega) (by omega) ?_ ?_
    · rw [yAdv_sc]; omega
    · rw [yAdv_sc]; exact rMi_P h hg.1.1.1.1.1 f' hr' hps'
set_option maxHeartbeats 4000000 in
theorem k_pass (hF : 1300 ≤ F) (hd : rDn K n x2 x rn r bf x8 x9 q D P S A H HB) (h : rMi x rn bf D P S t M r q A H A A HB) (hg : rGo A) (hn : 20 ≤ n) (hph : (n : Int) ≥ 20 + (800 - yPh A)) (ht : yS A 0 + 20 ≤ 9999) (b0 : 0 < bd) (b1 : bd ≤ 20) : p_L_law_963 F G N xs Q K4 K181 K K1109 n x2 x rn r bf x8 x9 q bd rn t M := by
  have hN := hg.1.1.1.1.1
  have ht0 := hg.1.1.1.2.2.2.2.2.2.1.2.2.2.2.2.1
  unfold p_L_law_963
  refine s_rnd h hN b0 (by omega) (fun s M1 v0 v1 h1 => ?_)
  obtain ⟨σ, RA, cl, hr⟩ := id h1.2.1.1
  have i8 := hg.1.1.1.2.2.2.2.2.2.2.1
  have body : ∀ fl : Int, ((fl = 0 ∧ s = 0) ∨ (fl = 1 ∧ 0 < s)) → p_L_law_978 F G N xs Q K4 K181 K K1109 (n - 0) x2 x rn r bf x8 x9 q s fl t M1 := fun fl hfl => by
    obtain ⟨a1, a2, a3⟩ := rGo_adv s.toNat A hg (by omega)
    have hb : yPh (yAdv (-1) s.toNat A) ≤ 800 := (yPh_max a1.1.1.1).1
    unfold p_L_law_978
    refine ⟨0, by omega, s_count hr hN (by omega) ?_⟩
    rw [← i8]
    refine k_ticks (n := n) (n0 := 20) (by omega) hg (by omega) (by omega) (fun n' t2 M2 hn' h2 => ?_) s.toNat F (n - 0 - 0) 0 t M1 (by omega) (by omega) (by show (n : Int) - (yPh A - yPh A) ≤ _; omega) h1
    have hI2 := a1.1.1.1
    unfold p_L_law_1009
    refine ⟨⟨by omega, h2.1.2.2.1⟩, w_pass hF ⟨by omega, by omega⟩ h2.1.1 h2.1.2.1 hg.1 (fun p1 p2 p3 t3 M3 hc hfc hw hl => ⟨fun z => ?_, fun z => ?_⟩) (fun z z9 hw hl => ⟨fun z2 => ⟨fun z3 => absurd rfl z3, fun _ => ?_⟩, fun z2 => ?_⟩)⟩
    · rcases hfl with ⟨-, e⟩ | ⟨e, -⟩ <;> omega
    · have h3 := rMi_cls h2 hw hl hfc hc (yPush_g h2.1.2.1 hg.1)
      obtain ⟨σ3, RA3, cl3, hr3⟩ := id h3.2.1.1
      refine ⟨0, by omega, s_count hr3 hI2.1.1 (by omega) ?_⟩
      rw [← hI2.2.2.2.2.2.2.2.1]
      have c5 := ySp2_ge (h := fun p => if yS A (84 + 9 * p) = 3 then 1 else 0) (b := 1) (n := (yS A 3).toNat) (fun p _ _ => by split <;> omega)
      have c6 := ySp2_ge (h := fun p => if yS (yAdv (-1) s.toNat A) (84 + 9 * p) = 3 then 1 else 0) (b := 1) (n := (yS (yAdv (-1) s.toNat A) 3).toNat) (fun p _ _ => by split <;> omega)
      rw [← i8] at c5
      rw [← hI2.2.2.2.2.2.2.2.1] at c6
      have n3 := hN.2.2.2.2.2
      have n3' := hI2.1.1.2.2.2.2.2
      refine ⟨⟨by omega, by omega⟩, fun z3 => absurd rfl z3, fun _ => ?_⟩
      rcases hfl with ⟨e, -⟩ | ⟨e, -⟩
      · exact absurd e z
      · subst e
        exact hd.2 _ _ _ _ a1 (by omega) (by omega) h3
    · rcases hfl with ⟨e, e2⟩ | ⟨e, e2⟩
      · subst e e2
        exact hd.1 _ _ _ (by
          have : yAdv (-1) (0 : Int).toNat A = A := rfl
          rw [this] at hn'; omega) (rMi_z h2 hN hl rfl)
      · omega
    · rcases hfl with ⟨e, e2⟩ | ⟨e, e2⟩
      · exact absurd e z2
      · omega
  exact ⟨fun z => body 0 (Or.inl ⟨rfl, by omega⟩), fun z => body 1 (Or.inr ⟨rfl, z⟩)⟩
end RCH
