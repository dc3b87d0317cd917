/-! THE LAW'S LOOP: 35 changes, then what undo brings back -/
section RLP
variable {x rn bf r q : Nat} {D P S Ow : Nat → Prop} {t t' : xTh} {M M' : xMe} {A B C : yA} {H HB : List yA}
/-- between two changes -/
def rIv (x rn bf : Nat) (D S : Nat → Prop) (t : xTh) (M : xMe) (r : Nat) (A : yA) (H HB : List yA) : Prop :=
  ∃ P, rLC x D t M A H ∧ rLR x rn bf D P S t M r A ∧ rLB x rn bf D P S t M HB ∧ xk t rn = 19 ∧ xlive t ∧ rSp x rn bf D
theorem rLR_o1 (h : rLR x rn bf D P S t M r A) (f : rFr Ow t M t' M') (hO : ∀ a, Ow a → a = rn ∨ a = bf) : rLR x rn bf D P S t' M' r A := by
  obtain ⟨⟨σ, RA, cl, h1⟩, h2, h3, h4, h5⟩ := h
  have hr := h1.1
  have no : ∀ a, P a → ¬ Ow a := fun a pa o => (hO a o).elim (fun e => (h4 a pa).2.1 e) (fun e => (h4 a pa).2.2.1 e)
  refine ⟨⟨σ, RA, cl, rRi_fr h1 f no (fun a sa o => (hO a o).elim (fun e => (h5 a sa).1.2.1 e) (fun e => (h5 a sa).1.2.2.1 e))⟩, rDd_fr h2 f, ?_, h4, h5⟩
  obtain ⟨b, b1, b2, b3, b4⟩ := h3
  obtain ⟨f1, f2, f3, -⟩ := f.2 r (by omega)
  obtain ⟨g1, g2, -, -⟩ := f.2 b (by omega)
  have hb := rFr_17 f b2
  refine ⟨b, by rw [(f3 (no r hr.2)).2]; exact b1, g1.trans b2, by rw [g2]; exact b3, fun i hi => ?_⟩
  obtain ⟨c, c1, c2⟩ := b4 i (by rw [← g2]; exact hi)
  exact ⟨c, by rw [hb]; exact c1, (f.2 c (by omega)).1.trans c2⟩
theorem rDd_hi (h : rDd P t) (hl : xlive t) {a : Nat} (ha : xz t ≤ a) : P a ∧ 22 < xk t a := by
  obtain ⟨c, h1, h2⟩ := h
  have d : 22 < xk t a := by
    by_cases e : xk t a ≤ 22
    · have := hl a e; omega
    · omega
  have := hl c h1
  exact ⟨h2 a d (by omega), d⟩
set_option maxHeartbeats 4000000 in
/-- the Road is copied: the copy's cells leave P -/
theorem s_cpy {F n : Nat} {Q : Nat → xTh → xMe → Prop} (h : rIv x rn bf D S t M r A H HB) (hg : rGo A) (hF : 70 ≤ F) (hn : 100 ≤ n) (hq : ∀ P' q t' M', rMi x rn bf D P' S t' M' r q A H A A HB → Q q t' M') : p_X14_copy F n t r M Q := by
  obtain ⟨P, h1, h2, h3, h4, hl, h6⟩ := h
  obtain ⟨⟨σ, RA, cl, hr⟩, hD, hps, hP, hS⟩ := id h2
  have hN := hg.1.1.1.1.1
  refine s_copy hr (rOk_of hg.1.1.1.1) hg.1.1.1.2.2.2.2.1.1 hl (by obtain ⟨b, b1, b2, -⟩ := hps; exact ⟨b, b1, b2⟩) hF hn (fun t' M' f hc => ?_)
  have lt : ∀ a, xk t a ≤ 22 → a < xz t := hl
  have hsub : ∀ a, (P a ∧ ¬ (xz t ≤ a ∧ xk t' a ≤ 22)) → P a := fun a z => z.1
  have g := rRi_P (P' := fun a => P a ∧ ¬ (xz t ≤ a ∧ xk t' a ≤ 22)) (S' := S) (fun a pa ka => ⟨pa, fun z => by have := lt a (by omega); omega⟩) (fun a sa _ => sa) hr
  have g' := rRi_fr g f (fun _ _ z => z) (fun _ _ z => z)
  refine hq (fun a => P a ∧ ¬ (xz t ≤ a ∧ xk t' a ≤ 22)) _ t' M' ⟨rLC_ow h1 hN f (fun _ z => z.elim), ⟨⟨σ, RA, cl, g'⟩, ?_, rPs_fr hps f (by have := hr.1.1; omega), fun a z => hP a z.1, fun a sa => ⟨(hS a sa).1, fun z => (hS a sa).2 z.1⟩⟩, ?_, ⟨_, hc, fun a z => ⟨fun w => w.2 z, hP a (rDd_hi hD hl z.1).1⟩⟩, (f.2 rn (by omega)).1.trans h4, f.1, h6⟩
  · obtain ⟨c, c1, c2⟩ := hD
    exact ⟨c, by rw [(f.2 c c1).1]; exact c1, fun a ha hc => ⟨c2 a (rFr_dead f ha) hc, fun z => by omega⟩⟩
  · obtain ⟨k1, k2, k3, k4⟩ := h3
    obtain ⟨f1, f2, f3, -⟩ := f.2 bf (by omega)
    have fb := (f3 id).2
    refine ⟨f1.trans k1, f2.trans k2, fun k q hk hq => ?_, fun i B hi hB => ?_⟩
    · rw [fb] at hq
      have := k3 k q hk hq
      exact (f.2 q (by omega)).1.trans this
    · obtain ⟨q, Pq, q1, ⟨σ', RA', cl', q2⟩, q3⟩ := k4 i B hi hB
      exact ⟨q, Pq, by rw [fb]; exact q1, ⟨σ', RA', cl', rRi_fr q2 f (fun _ _ z => z) (fun _ _ z => z)⟩, fun a pa => ⟨fun z => (q3 a pa).1 z.1, (q3 a pa).2⟩⟩
/-- the copy goes to the front of before[] -/
theorem rIv_push (h : rMi x rn bf D P S t M r q A H B C HB) (hAB : A = B) (hN : yN A) (hb : rBf bf t t') (hj : ∀ j, j < 8 → xr t' bf (j + 1) = xr t bf j) : rIv x rn bf D S (xwr t' bf 0 (some q)) M r A H (C :: HB) := by
  subst hAB
  obtain ⟨h1, h2, ⟨k1, k2, k3, k4⟩, ⟨Pq, q1, q2⟩, h5, hl, h7⟩ := h
  obtain ⟨b1, b2, b3, b4⟩ := hb
  have f : rFr (fun a => a = bf) t M (xwr t' bf 0 (some q)) M := by
    refine ⟨fun a ha => ?_, fun a ha => ⟨b2 a, b3 a, fun ne => ⟨rfl, by rw [xr_wrn ne]; exact b4 a ne⟩, fun _ _ n18 => ?_⟩⟩
    · have ha' : xk t a ≤ 22 := by rw [← b2 a]; exact ha
      have := hl a ha'
      show a < xz t'
      omega
    · have ne : a ≠ bf := fun e => n18 (by rw [e]; exact k1)
      rw [xr_wrn ne]; exact b4 a ne
  have hP := h2.2.2.2.1
  have hS := h2.2.2.2.2
  refine ⟨P, rLC_ow h1 hN f (fun a e => by subst e; exact ⟨h7.2.1, fun q hq => (h7.2.2 q hq).2.1⟩), rLR_o1 h2 f (fun a e => Or.inr e), ⟨(b2 bf).trans k1, (b3 bf).trans k2, fun k q' hk hq' => ?_, fun i B hi hB => ?_⟩, (b2 rn).trans h5, f.1, h7⟩
  · show xk t' q' = 20
    rw [b2]
    rw [xr_wra] at hq'
    split at hq'
    · cases hq'
      obtain ⟨σ', RA', cl', q3⟩ := q1
      exact q3.1.1
    · rename_i ne
      have e := hj (k - 1) (by omega)
      rw [show k - 1 + 1 = k by omega] at e
      rw [e] at hq'
      exact k3 (k - 1) q' (by omega) hq'
  · have mv : ∀ {q' Pq' B'}, rRd Pq' S t M q' B' → (∀ a, Pq' a → ¬ P a ∧ rLand x rn bf D a) → rRd Pq' S (xwr t' bf 0 (some q)) M q' B' := fun {q' Pq' B'} ⟨σ', RA', cl', g⟩ hp => ⟨σ', RA', cl', rRi_fr g f (fun a pa e => (hp a pa).2.2.2.1 e) (fun a sa e => (hS a sa).1.2.2.1 e)⟩
    cases i with
    | zero =>
      have : C = B := by simpa using hB
      subst this
      exact ⟨q, Pq, by rw [xr_wra, if_pos rfl], mv q1 q2, q2⟩
    | succ i =>
      have hB' : HB[i]? = some B := by simpa using hB
      obtain ⟨q', Pq', u1, u2, u3⟩ := k4 i B (by omega) hB'
      refine ⟨q', Pq', ?_, mv u2 u3, u3⟩
      rw [xr_wra, if_neg (by omega), hj i (by omega)]
      exact u1
theorem rIv_of (h : rMi x rn bf D P S t M r q A H A C HB) : rIv x rn bf D S t M r A H HB := ⟨P, h.1, h.2.1, h.2.2.1, h.2.2.2.2⟩
end RLP
section RLQ
variable {F N : Nat} {G : xGx} {xs : Nat → Int32} {Q : Int → xTh → xMe → Prop} {K4 : Nat → Int → Int → xTh → xMe → Prop} {K181 : Nat → Int → Int → Nat → Nat → Nat → Nat → Int → Int → xTh → xMe → Prop} {K1109 : Nat → Int → Int → Nat → Nat → Int → xTh → xMe → Prop} {x2 x8 x9 f fl : Int} {x rn r bf q : Nat} {D P S : Nat → Prop} {A : yA} {H H0 HB : List yA} {t : xTh} {M : xMe} {n : Nat}
set_option maxHeartbeats 4000000 in
/-- one of the nine -/
theorem k_256 (hF : 1300 ≤ F) (hd : rDn (p_L_law_1043 F G N xs Q K4 K181 K1109) n x2 x rn r bf x8 x9 q D P S A H HB) (h : rMi x rn bf D P S t M r q A H A A HB) (hg : rGo A) (hn : 20 ≤ n) (hph : (n : Int) ≥ 20 + (800 - yPh A)) (ht : yS A 0 + 20 ≤ 9999) (f0 : 0 ≤ f) (hf : rFl A f fl) : p_L_law_256 F G N xs Q K4 K181 K1109 n x2 x rn r bf x8 x9 q (-2000000097) f fl t M := by
  have hN := hg.1.1.1.1.1
  have hC := hg.1.1.1.2.2.2.2.1.1
  unfold p_L_law_256
  refine s_rnd h hN (by decide) (by decide) (fun v M1 v0 v1 h1 => ⟨fun _ => ?_, fun _ => ?_, fun _ => ?_, fun _ => ?_, fun _ => ?_, fun _ => ?_⟩)
  · exact s_rnd h1 hN (by decide) (by decide) (fun w M2 _ _ h2 => ⟨fun _ => k_pass (n := n) hF hd h2 hg hn hph ht (by decide) (by decide), fun _ => k_pass (n := n) hF hd h2 hg hn hph ht (by decide) (by decide)⟩)
  · exact s_rnd h1 hN (by decide) (by decide) (fun w M2 _ _ h2 => ⟨fun _ => k_thrift (n := n) hd h2 hg hn f0 hf (by decide) (by decide), fun _ => k_thrift (n := n) hd h2 hg hn f0 hf (by decide) (by decide)⟩)
  · exact s_rnd h1 hN (by decide) (by decide) (fun w M2 _ _ h2 => ⟨fun _ => k_send (n := n) (by omega) hd h2 hg hn f0 hf (by decide) (by decide), fun _ => k_send (n := n) (by omega) hd h2 hg hn f0 hf (by decide) (by decide)⟩)
  · exact s_rnd h1 hN (by decide) (by decide) (fun w M2 _ _ h2 => ⟨fun _ => k_send (n := n) (by omega) hd h2 hg hn f0 hf (by decide) (by decide), fun _ => k_send (n := n) (by omega) hd h2 hg hn f0 hf (by decide) (by decide)⟩)
  · exact s_rnd h1 hN (by decide) (by decide) (fun u M2 u0 u1 h2 => s_rnd h2 hN (by decide) (by decide) (fun w M3 _ _ h3 => ⟨fun _ => k_grant (n := n) (by omega) hd h3 hg hn f0 hf ⟨u0, u1⟩ (by decide) (by decide), fun _ => k_grant (n := n) (by omega) hd h3 hg hn f0 hf ⟨u0, u1⟩ (by decide) (by decide)⟩))
  · obtain ⟨σ, RA, cl, hr⟩ := id h1.2.1.1
    obtain ⟨b, c1, c2, c3, -⟩ := rRi_co hr
    refine ⟨b, c1, c2, ⟨by omega, by omega⟩, ⟨by omega, by omega⟩, s_rnd h1 hN (by omega) (by omega) (fun w M2 w0 w1 h2 => ?_)⟩
    rcases hf with ⟨rfl, hf⟩ | ⟨rfl, hf⟩
    · exact ⟨fun _ => k_fwd0 (n := n) hd h2 hg hn (Nat.le_refl n) w0 f0 (Or.inl hf), fun z => absurd rfl z⟩
    · refine ⟨fun z => absurd z (by decide), fun _ => ⟨b, c1, c2, ⟨by omega, by omega⟩, fun q1 => ?_, fun q1 => ?_⟩⟩
      · exact k_fwd0 (n := n) hd h2 hg hn (Nat.le_refl n) w0 f0 (Or.inr (by omega))
      · exact k_fwd1 (n := n) hd h2 hg hn (Nat.le_refl n) w0 (by omega) f0 hf
/-- the loop's budget -/
def rBd (i : Int) (A : yA) : Int := 1160 * (35 - i) + (900 - yPh A)
/-- between two changes, all of it -/
def rJv (x rn bf : Nat) (D S : Nat → Prop) (t : xTh) (M : xMe) (r : Nat) (A : yA) (H0 HB : List yA) (i : Int) : Prop :=
  rIv x rn bf D S t M r A ((HB ++ H0).take 8).reverse HB ∧ rGo A ∧ (∀ B ∈ HB, rGo B) ∧ yS A 0 ≤ 20 * i
set_option maxHeartbeats 4000000 in
theorem k_1084 {n n0 : Nat} {i j : Int} (hF : 60 ≤ F) (h : rJv x rn bf D S t M r A H0 HB j) (hi : 0 ≤ i ∧ i < 35) (hn : 1035 ≤ n) (hq : ∀ (n' : Nat) t', n ≤ n' + 1035 → rJv x rn bf D S t' M r A H0 HB j → K181 n' 1 x2 x rn r bf x8 (i + 1) t' M) : p_L_law_1084 F G N xs Q K4 K181 K1109 n 1 x2 x rn r bf x8 i t M := by
  obtain ⟨⟨P, h1, h2, h3, h4, h5, h6⟩, hg, hHB, ht⟩ := h
  obtain ⟨⟨σ, RA, cl, hr⟩, hD, hps, hP, hS⟩ := id h2
  unfold p_L_law_1084
  refine ⟨fun z => absurd z (by decide), fun _ => ⟨1035, hn, s_agrees hF h1.1.1.1 hr hg.1.1.1 hg.2.1 h1.2.2.1 (Nat.le_refl _) (fun t' et hl => ⟨fun z => absurd z (by decide), fun _ => ⟨⟨by omega, by omega⟩, hq _ t' (by omega) ⟨⟨P, ?_⟩, hg, hHB, ht⟩⟩⟩)⟩⟩
  have f : rFr (fun a => a = rn) t M t' M := rFr_z hl et
  exact ⟨rLC_z h1 et, rLR_rn h2 f, rLB_fr h3 f (fun a e => Or.inr e) hP h4 hS, (f.2 rn (by omega)).1.trans h4, hl, h6⟩
set_option maxHeartbeats 4000000 in
theorem k_181 (hF : 1300 ≤ F) {n0 : Nat} (hq : ∀ (n : Nat) (t : xTh) (M : xMe) (A : yA) (HB : List yA), (n0 : Int) ≤ n → rJv x rn bf D S t M r A H0 HB 35 → K1109 n 1 x2 x bf (HB.length : Int) t M) : ∀ (d k n : Nat) (i : Int) (t : xTh) (M : xMe) (A : yA) (HB : List yA), 0 ≤ i → i + d = 35 → d < k → (n0 : Int) + rBd i A ≤ n → HB.length ≤ i → rJv x rn bf D S t M r A H0 HB i → p_L_law_181 F G N xs Q K4 K1109 k n 1 x2 x rn r bf (HB.length : Int) i t M := by
  intro d
  induction d with
  | zero =>
    intro k n i t M A HB i0 hi hk hn hlen h
    obtain ⟨k, rfl⟩ : ∃ k', k = k' + 1 := ⟨k - 1, by omega⟩
    have e : i = 35 := by omega
    subst e
    have := (yPh_max h.2.1.1.1.1).1
    unfold rBd at hn
    unfold p_L_law_181
    exact ⟨fun _ => hq n t M A HB (by omega) h, fun z => absurd z (by decide)⟩
  | succ d ih =>
    intro k n i t M A HB i0 hi hk hn hlen h
    obtain ⟨k, rfl⟩ : ∃ k', k = k' + 1 := ⟨k - 1, by omega⟩
    obtain ⟨hI, hg, hHB, ht⟩ := id h
    have hN := hg.1.1.1.1.1
    obtain ⟨n1, n2, n3, n4, n5, n6⟩ := id hN
    obtain ⟨ph1, ph2⟩ := yPh_max hg.1.1.1
    unfold rBd at hn
    unfold p_L_law_181
    refine ⟨fun z => absurd z (by omega), fun _ => ⟨fun z => absurd z (by decide), fun _ => ⟨100, by omega, s_cpy hI hg (by omega) (Nat.le_refl _) (fun P' q t' M' hm => ?_)⟩⟩⟩
    obtain ⟨σ, RA, cl, hr⟩ := id hm.2.1.1
    obtain ⟨b, c1, c2, c3, -⟩ := rRi_fl hr
    have hdn : rDn (p_L_law_1043 F G N xs Q K4 (p_L_law_181 F G N xs Q K4 K1109 k) K1109) (n - 100) x2 x rn r bf (HB.length : Int) i q D P' S A ((HB ++ H0).take 8).reverse HB := by
      refine ⟨fun n' t2 M2 hn' h2 => ?_, fun n' t2 M2 A' hg' ht' hn' h2 => ?_⟩
      · unfold p_L_law_1043
        refine ⟨fun _ => ?_, fun z => absurd rfl z⟩
        refine k_1084 (n0 := 0) (j := i) (A := A) (HB := HB) (H0 := H0) (D := D) (S := S) (by omega) ⟨rIv_of h2, hg, hHB, ht⟩ ⟨by omega, by omega⟩ (by omega) (fun n3 t3 hn3 h3 => ?_)
        refine ih k n3 (i + 1) t3 M2 A HB (by omega) (by omega) (by omega) (by unfold rBd; omega) (by omega) ⟨h3.1, hg, hHB, by omega⟩
      · obtain ⟨ph3, ph4⟩ := yPh_max hg'.1.1.1
        unfold p_L_law_1043
        refine ⟨fun z => absurd z (by decide), fun _ => ?_⟩
        refine s_shift h2.2.2.1.2.1 h2.2.2.1.2.2.1 (fun t3 hb hj => ?_) 8 F t2 (by omega) (by omega) ⟨rfl, fun _ => rfl, fun _ => rfl, fun _ _ => rfl⟩ (fun _ _ => rfl) (fun j j1 j2 => by omega)
        have h3 := rIv_push h2 rfl hg'.1.1.1.1.1 hb hj
        rw [yPush_take] at h3
        unfold p_L_law_1075
        refine ⟨⟨by omega, ?_⟩, fun t4 et => ⟨⟨by omega, by omega⟩, ?_⟩⟩
        · rw [hb.2.2.1, h2.2.2.1.2.1]; decide
        · subst et
          rw [show (HB.length : Int) + 1 = ((A :: HB).length : Int) by simp]
          have hH : ∀ B ∈ A :: HB, rGo B := fun B hB => by
            rcases List.mem_cons.mp hB with e | e
            · rw [e]; exact hg
            · exact hHB B e
          refine k_1084 (n0 := 0) (j := i + 1) (A := A') (HB := A :: HB) (H0 := H0) (D := D) (S := S) (by omega) ⟨h3, hg', hH, by omega⟩ ⟨by omega, by omega⟩ (by omega) (fun n4 t4 hn4 h4 => ?_)
          refine ih k n4 (i + 1) t4 M2 A' (A :: HB) (by omega) (by omega) (by omega) (by unfold rBd; omega) (by rw [List.length_cons]; omega) ⟨h4.1, hg', hH, by omega⟩
    have key : ∀ (v : Int) M2, (v = 0 ∨ v = 1) → (yS A 2 = 0 → v = 1) → rMi x rn bf D P' S t' M2 r q A ((HB ++ H0).take 8).reverse A A HB → p_L_law_238 F G N xs Q K4 (p_L_law_181 F G N xs Q K4 K1109 k) K1109 (n - 100) x2 x rn r bf (HB.length : Int) i q (-2000000097) (yS A 2) v (yS A 2) rn t' M2 := fun v M2 hv hv2 h2 => by
      unfold p_L_law_238
      refine ⟨⟨by omega, by omega⟩, s_rnd h2 hN (by omega) (by omega) (fun f M3 f0 f1 h3 => ⟨fun z => ?_, fun z => ?_⟩)⟩
      · exact k_256 (n := n - 100) hF hdn h3 hg (by omega) (by omega) (by omega) f0 (Or.inl ⟨rfl, z⟩)
      · exact k_256 (n := n - 100) hF hdn h3 hg (by omega) (by omega) (by omega) f0 (Or.inr ⟨rfl, z⟩)
    refine ⟨b, c1, c2, ⟨by omega, by omega⟩, fun z ez => ?_⟩
    rw [c3] at ez
    subst ez
    exact s_rnd hm hN (by decide) (by decide) (fun w M2 _ _ h2 => ⟨fun _ => key 1 M2 (Or.inr rfl) (fun _ => rfl) h2, fun _ => ⟨fun z => key 0 M2 (Or.inl rfl) (fun z2 => absurd z2 z) h2, fun _ => key 1 M2 (Or.inr rfl) (fun _ => rfl) h2⟩⟩)
end RLQ
