/-! THE ROAD IS MADE: its buckets are filled, its text is loaded -/
def rTv (P : Nat → Prop) (σ : Nat → Int) (RA : Int → Nat) (t : xTh) (M : xMe) (r : Nat) (V : Int → Int → Int) : Prop := (∃ b, xr t r 7 = some b ∧ P b ∧ rOu t b 6 RA 561 24) ∧ ∀ g, 0 ≤ g → g < 6 → σ (RA (561 + 24 * g)) = 561 + 24 * g ∧ P (RA (561 + 24 * g)) ∧ xk t (RA (561 + 24 * g)) = 14 ∧ xn t (RA (561 + 24 * g)) = 6 ∧ ∀ j, 0 ≤ j → j < 6 → M (RA (561 + 24 * g)) j.toNat = V g j
def rRv (P : Nat → Prop) (σ : Nat → Int) (RA : Int → Nat) (cl : List Nat) (t : xTh) (M : xMe) (r : Nat) (Sf : Int → Int) (C : List yCo) (K : List Int) (n1 n2 n4 : Int) (V : Int → Int → Int) : Prop :=
  ((xk t r = 20 ∧ P r) ∧ rSc M r Sf) ∧ (rBl P σ RA t M Sf r 1 n1 15 3 (fun _ => 3) ∧ rBl P σ RA t M Sf r 2 n2 34 8 (fun _ => 3) ∧ rBl P σ RA t M Sf r 3 n2 37 8 (fun f => Sf (33 + 8 * f)) ∧ rBl P σ RA t M Sf r 4 n4 81 9 (fun _ => 8)) ∧ rTv P σ RA t M r V ∧ rCp P σ t M r cl C ∧ rTm P t M (xr t r 13) K ∧ rAd t r ∧ rPs t r 40
section RFI
variable {x bu rn r n F m N j k : Nat} {G : xGx} {A0 A : yA} {H : List yA} {t t' : xTh} {M M' : xMe} {T L : List Int} {u : Int × Int × Int} {σ : Nat → Int} {RA : Int → Nat} {cl : List Nat} {K : List Int} {P : Nat → Prop} {Sf : Int → Int} {C : List yCo} {n1 n2 n4 nn s0 d : Int} {len : Int → Int} {V : Int → Int → Int}
theorem rBl_xw {c jn : Nat} {v : Int} (h : rBl P σ RA t M Sf r k nn s0 d len) (hc : ∀ i, 0 ≤ i → i < nn → RA (s0 + d * i) ≠ c) : rBl P σ RA t (xw M c jn v) Sf r k nn s0 d len := ⟨h.1, fun i a b => by
  obtain ⟨q1, q2, q3, q4, q5⟩ := h.2 i a b
  exact ⟨q1, q2, q3, q4, fun j ja jb => by rw [xw_B (hc i a b)]; exact q5 j ja jb⟩⟩
theorem rRv_w {g f v : Int} (h : rRv P σ RA cl t M r Sf C K n1 n2 n4 V) (m1 : n1 ≤ 6) (m2 : n2 ≤ 6) (m4 : n4 ≤ 40) (g0 : 0 ≤ g) (g1 : g < 6) (f0 : 0 ≤ f) (f1 : f < 6) : rRv P σ RA cl t (xw M (RA (561 + 24 * g)) f.toNat v) r Sf C K n1 n2 n4 (fun g' f' => if g' = g ∧ f' = f then v else V g' f') := by
  obtain ⟨⟨⟨k1, k1'⟩, k2⟩, ⟨w1, w2, w3, w4⟩, k5, k6, k7, k8, k9⟩ := h
  obtain ⟨z1, z2, z3, z4, z5⟩ := k5.2 g g0 g1
  have hrc : r ≠ RA (561 + 24 * g) := fun e => by rw [← e] at z3; omega
  have hx : ∀ {k n s0 d len}, rBl P σ RA t M Sf r k n s0 d len → (∀ i, 0 ≤ i → i < n → s0 + d * i < 561) → ∀ i, 0 ≤ i → i < n → RA (s0 + d * i) ≠ RA (561 + 24 * g) := fun {k n s0 d len} hb hl i a c e => by
    have := (hb.2 i a c).1
    rw [e, z1] at this
    have := hl i a c
    omega
  refine ⟨⟨⟨k1, k1'⟩, by unfold rSc; rw [xw_B hrc]; exact k2⟩, ⟨rBl_xw w1 (hx w1 (fun i a c => by omega)), rBl_xw w2 (hx w2 (fun i a c => by omega)), rBl_xw w3 (hx w3 (fun i a c => by omega)), rBl_xw w4 (hx w4 (fun i a c => by omega))⟩, ⟨k5.1, fun i a c => ?_⟩, rCp_w k6 (Or.inl (by omega)), rTm_w k7 (by omega), k8, k9⟩
  obtain ⟨q1, q2, q3, q4, q5⟩ := k5.2 i a c
  refine ⟨q1, q2, q3, q4, fun j j0 j1 => ?_⟩
  show _ = (if i = g ∧ j = f then v else V i j)
  by_cases e : i = g
  · subst e
    by_cases ej : j = f
    · subst ej; rw [xw_s, if_pos ⟨rfl, rfl⟩]
    · rw [xw_j (by omega), if_neg (fun z => ej z.2)]; exact q5 j j0 j1
  · rw [xw_B (fun z => e (by have : σ (RA (561 + 24 * i)) = σ (RA (561 + 24 * g)) := by rw [z]
                             omega)), if_neg (fun z => e z.1)]
    exact q5 j j0 j1
theorem rRv_fin (h : rRv P σ RA cl t M r (yS A) (yC A) K (yS A 1) (yS A 2) (yS A 3) V) (hI : zI A) (hK : K = yK (zFin A)) (hV : ∀ g f, 0 ≤ g → g < yS A 1 → 0 ≤ f → f < yS A 2 → V g f = yS A (16 + 3 * g)) : rRi P P σ RA cl t M r (zFin A) := by
  obtain ⟨⟨h1, h2⟩, ⟨w1, w2, w3, w4⟩, k5, k6, k7, k8, k9⟩ := h
  obtain ⟨n1, n2, n3, n4, n5, n6⟩ := id hI.1
  have e : ∀ k, k < 561 → yS (zFin A) k = yS A k := fun k hk => zFin_n hk
  refine ⟨h1, ?_, ?_, ?_, ?_, ?_, ⟨?_, fun g g0 g1 => ?_⟩, k6, hK ▸ k7⟩
  · unfold rSc; rw [e 0 (by omega), e 7 (by omega), e 8 (by omega), e 9 (by omega), e 10 (by omega), e 11 (by omega)]; exact h2
  · rw [e 1 (by omega)]; exact rBl_S w1 (fun i j a c ja jb => e _ (by omega))
  · rw [e 2 (by omega)]; exact rBl_S w2 (fun i j a c ja jb => e _ (by omega))
  · rw [e 2 (by omega)]
    exact rBl_l (rBl_S w3 (fun i j a c ja jb => by have := (hI.2.2.1 i a c).2.1; exact e _ (by omega))) (fun i a c => e _ (by omega))
  · rw [e 3 (by omega)]; exact rBl_S w4 (fun i j a c ja jb => e _ (by omega))
  · obtain ⟨b, b1, b2, b3⟩ := k5.1; exact ⟨b, b1, b2, b3⟩
  · obtain ⟨q1, q2, q3, q4, q5⟩ := k5.2 g g0 g1
    refine ⟨q1, q2, q3, q4, fun hg f f0 f1 => ?_⟩
    rw [e 1 (by omega)] at hg
    rw [e 2 (by omega)] at f1
    rw [q5 f f0 (by omega), hV g f g0 hg f0 f1, zFin_t g0 hg f0 f1 n2 n4]
/-- the Road as it was loaded -/
def rPost (x rn r : Nat) (A0 : yA) (H : List yA) (t : xTh) (M : xMe) : Prop :=
  ∃ (D : Nat → Prop) (A : yA) (P : Nat → Prop), rLC x D t M A (yPush H A0) ∧ rGo A ∧ yS A 0 = 0 ∧ (∃ σ RA cl, rRi P P σ RA cl t M r A) ∧ rAd t r ∧ rPs t r 40 ∧ (∀ a, P a → r ≤ a ∧ xk t a ≤ 22 ∧ ∀ q, D q → a ≠ q + 1 ∧ a ≠ q + 2) ∧ (∀ q, D q → q = x + 80 ∨ r < q) ∧ xlive t ∧ xk t rn = 19 ∧ rn < r ∧ x + 436 ≤ rn
theorem rGo_fin (hd : rDf T A u) (hl : T.length ≤ 700) : rGo (zFin A) := by
  obtain ⟨h1, h2, h3, h4, h5⟩ := hd
  have fg : yG0 (zFin A) := zFin_g (s := zmk 0 0 0 A u) h1 h2 (by show (yK A).length ≤ 700; omega)
  have eQ : yQ (zFin A) = fun _ => [] := h1.2.2.2.2.2.2.2.2.2.2
  have no : ∀ p, 0 ≤ p → p < yS (zFin A) 3 → yS (zFin A) (84 + 9 * p) = 0 := fun p p0 p1 => by
    have e3 : yS (zFin A) 3 = yS A 3 := zFin_n (by decide)
    rw [e3] at p1
    have n6 := h1.1.2.2.2.2.2
    rw [zFin_n (by omega)]
    exact (h1.2.2.2.1 p p0 p1).2.2.2.2.2.2.1
  refine ⟨fg, ⟨fun p p0 p1 hs => ?_, fun s => ?_⟩, fun p p0 p1 hs => ?_⟩
  · rw [no p p0 p1] at hs; exact absurd hs (by decide)
  · rw [eQ]; exact List.Pairwise.nil
  · rw [no p p0 p1] at hs; exact absurd hs (by decide)
set_option maxHeartbeats 8000000 in
theorem g_861 {Q : Option Nat → xTh → xMe → Prop} (hF : 3100 ≤ F) (hn : 20 ≤ n) (hE : rEv x bu rn r A0 H t M T) (hR : rRv (rUp r) σ RA cl t M r (yS A) (yC A) K (yS A 1) (yS A 2) (yS A 3) V) (hK : K = yK (zFin A)) (hV : ∀ g f, 0 ≤ g → g < yS A 1 → 0 ≤ f → f < yS A 2 → V g f = yS A (16 + 3 * g)) (hT : rTx0 T m A u) (hm : m ≤ 100) (hl : T.length ≤ 660) (hq : ∀ t' M', rPost x rn r A0 H t' M' → Q (some r) t' M') : p_L_randomRoad_861 F G Q n x bu r t M := by
  obtain ⟨⟨hc, hg, hX⟩, hB, hlv, krn, hS0, hA0⟩ := hE
  obtain ⟨s1, s2, s3, s4, s5, s6⟩ := id hS0
  obtain ⟨hT1, hd⟩ := hT
  have hI := hd.1
  obtain ⟨n1, n2, n3, n4, n5, n6⟩ := id hI.1
  have hgo := rGo_fin hd (by omega)
  have hri := rRv_fin hR hI hK hV
  obtain ⟨b1, b2, ⟨b3, b3'⟩, b4, b5, b6, b7⟩ := id hB
  have hz : x + 453 ≤ xz t := by
    obtain ⟨⟨b, c1, c2, c3, -⟩, -⟩ := hR.2.1.1
    have hbl := hlv b (by omega)
    have hrl := hlv r (by have := hR.1.1.1; omega)
    have hbr : r ≠ b := fun e => by have := hR.1.1.1; rw [e] at this; omega
    have hrb : r ≤ b := c2
    omega
  have bd : (0 : Int) ≤ 0 ∧ 0 < (xn t bu : Int) := ⟨Int.le_refl 0, by omega⟩
  -- from the whole text in the class's buffer on
  have c16 : ∀ (n' : Nat) (M1 : xMe), n ≤ n' → rBe x bu M M1 → M1 bu 0 = (T.length : Int) → (T.length : Int) ≤ M1 (x + 2) 1 → (∀ j, j < T.length → M1 (x + 3) j = T.getD j 0) → p_L_loadText_16 F (fun r863 t863 M863 => (∃ b867 : Nat, xr t863 r 4 = some b867 ∧ xk t863 b867 = 17 ∧ (xR ((xn t863 b867 : Nat) : Int)) ∧ ((r863 ≠ (((xn t863 b867 : Nat) : Int)) → Q none t863 M863) ∧ (r863 = (((xn t863 b867 : Nat) : Int)) → Q ((some r)) t863 M863)))) n' x bu (T.length : Int) t M1 := fun n' M1 hn' e1 z0 z2 z3 => by
    unfold p_L_loadText_16
    refine ⟨bd, fun M2 e2 => ⟨⟨by omega, hX⟩, ?_⟩⟩
    have e12 : rBe x bu M M2 := rBe_tr e1 (fun a a1 _ _ => by rw [e2, xw_B a1])
    have nb2 : x + 2 ≠ bu := by omega
    have nb3 : x + 3 ≠ bu := by omega
    have hc2 : yCs x t M2 (fun q => q = x + 80) A0 H := yCs_fr2 hc hA0.1.1.1.1 hg rfl (fun b b1 b2 => e12 b (by omega) (by omega) (by omega)) (fun q hq => by
      have hq' : q = x + 80 := hq
      exact e12 _ (by omega) (by omega) (by omega))
    have hri2 : rRi (rUp r) (rUp r) σ RA cl t M2 r (zFin A) := by
      have hO : ∀ a, rUp r a → ¬ (a = bu ∨ a = x + 2 ∨ a = x + 3) := fun a pa o => by have : r ≤ a := pa; omega
      exact rRi_fr hri (rBe_f hlv e12) hO hO
    refine s_load_ok (A0 := A0) (H := H) hF hT1 hm hd hc2 hg hA0 hX hz hlv b1 (by omega) (by rw [e2, xw_B nb2]; exact z2) (fun j hj => by rw [e2, xw_B nb3]; exact z3 j hj) (fun D' t' M' hw hl' hc' hg' hD' f' h0' => ?_)
    have hliv := rRi_P (P' := fun a => r ≤ a ∧ xk t a ≤ 22) (S' := fun a => r ≤ a ∧ xk t a ≤ 22) (fun a pa ka => ⟨pa, by omega⟩) (fun a pa ka => ⟨pa, by omega⟩) hri2
    have hno : ∀ a, (r ≤ a ∧ xk t a ≤ 22) → xk t a ≠ 10 → ¬ (a < x + 436 ∨ xk t a = 10 ∨ ∃ q, q = x + 80 ∧ a = q + 2) := fun a pa k10 o => by
      rcases o with z | z | ⟨q, z1, z2⟩
      · omega
      · exact k10 z
      · omega
    have h10 := rRi_P (P' := fun a => (r ≤ a ∧ xk t a ≤ 22) ∧ xk t a ≠ 10) (S' := fun a => (r ≤ a ∧ xk t a ≤ 22) ∧ xk t a ≠ 10) (fun a pa ka => ⟨pa, by omega⟩) (fun a pa ka => ⟨pa, by omega⟩) hliv
    have h11 := rRi_fr h10 f' (fun a pa => hno a pa.1 pa.2) (fun a pa => hno a pa.1 pa.2)
    have kr := h11.1.1
    obtain ⟨b, y1, y2, y3, -⟩ := rRi_pk h11
    have e3 : yS (zFin A) 3 = yS A 3 := zFin_n (by decide)
    have krt := hR.1.1.1
    obtain ⟨fr1, fr2, fr3, -⟩ := f'.2 r (by omega)
    have er : xr t' r = xr t r := (fr3 (hno r ⟨Nat.le_refl r, by omega⟩ (by omega))).2
    have hold : ∀ q, D' q → q = x + 80 ∨ xz t ≤ q := hD'
    refine ⟨b, y1, y2, ⟨by omega, by omega⟩, fun q => absurd (by omega) q, fun _ => hq t' M' ⟨D', zFin A, fun a => (r ≤ a ∧ xk t a ≤ 22) ∧ xk t a ≠ 10, ⟨hc', hg', ?_, h0'⟩, hgo, ?_, ⟨σ, RA, cl, h11⟩, ?_, ?_, fun a pa => ⟨pa.1.1, ?_, fun q hq => ?_⟩, fun q hq => ?_, hl', ?_, s5, s2⟩⟩
    · exact oX11_qw hX hw
    · rw [show yS (zFin A) 0 = yS A 0 from zFin_n (by decide)]; exact hI.2.2.2.2.2.1.1
    · unfold rAd; rw [er]; exact hR.2.2.2.2.2.1
    · exact rPs_o hR.2.2.2.2.2.2 f' (by omega) (hno r ⟨Nat.le_refl r, by omega⟩ (by omega))
    · rw [(f'.2 a pa.1.2).1]; exact pa.1.2
    · have hla := hlv a pa.1.2
      rcases hold q hq with z | z
      · omega
      · omega
    · have hrl := hlv r (by omega)
      rcases hold q hq with z | z
      · exact Or.inl z
      · exact Or.inr (by omega)
    · exact (f'.2 rn (by omega)).1.trans krn
  unfold p_L_randomRoad_861
  refine ⟨n, Nat.le_refl _, ?_⟩
  unfold p_L_loadText
  refine ⟨bd, fun z ez => ?_⟩
  rw [b4] at ez
  subst ez
  have tm : Int.tmod (T.length : Int) 20 = ((T.length % 20 : Nat) : Int) := by rw [Int.tmod_eq_emod_of_nonneg (by omega)]; omega
  rw [tm]
  refine ⟨⟨by decide, by omega, by omega⟩, fun q => ?_, fun q => ⟨0, Nat.zero_le _, ?_⟩⟩
  · exact c16 n M (Nat.le_refl _) rBe_refl b4 (by rw [b6]; omega) (fun j hj => b7 j (by omega))
  · refine s_flush (by omega) b1 hX ⟨by omega, by omega⟩ b3' (k := 20 * (T.length / 20)) (by omega) b5 b6 b7 (fun M1 g1 g2 g3 g4 g5 => ?_)
    exact c16 (n - 0) M1 (Nat.le_refl _) g5 (by rw [g1]; exact b4) (by rw [g3]; omega) (fun j hj => g4 j (by omega))
set_option maxHeartbeats 8000000 in
/-- the buckets -/
theorem g_810 {Q : Option Nat → xTh → xMe → Prop} (hF : 3100 ≤ F) (hn : 20 ≤ n) (hMk : rMk x bu rn r A0 H K t M T m A u) (hK : K = yK (zFin A)) (hm : m ≤ 100) (hl : T.length ≤ 660) (hq : ∀ t' M', rPost x rn r A0 H t' M' → Q (some r) t' M') : p_L_randomRoad_810 F G Q n x bu r (yS A 1) (yS A 2) t M := by
  obtain ⟨hE, ⟨σ, RA, cl, hR⟩, hT⟩ := hMk
  have hI := hT.2.1
  obtain ⟨n1, n2, n3, n4, n5, n6⟩ := id hI.1
  have hR0 : rRv (rUp r) σ RA cl t M r (yS A) (yC A) K (yS A 1) (yS A 2) (yS A 3) (fun _ _ => 0) := by
    obtain ⟨h1, h2, h3, h4⟩ := hR
    exact ⟨h1, h2, ⟨h3.1, fun g g0 g1 => by
      obtain ⟨q1, q2, q3, q4, q5⟩ := h3.2 g g0 g1
      exact ⟨q1, q2, q3, q4, fun j _ _ => q5 _⟩⟩, h4⟩
  -- a gate's row
  have inner : ∀ (d k n' : Nat) (g f : Nat) (M1 : xMe) (V : Int → Int → Int) (Kf : Nat → Nat → Nat → Nat → Int → Int → Int → xTh → xMe → Prop) (K1 : Nat → Nat → Nat → Nat → Int → Int → Int → xTh → xMe → Prop) (K2 : Nat → Nat → Nat → Nat → xTh → xMe → Prop), (f : Int) + d = yS A 2 → d < k → (g : Int) < yS A 1 → rEv x bu rn r A0 H t M1 T → rRv (rUp r) σ RA cl t M1 r (yS A) (yC A) K (yS A 1) (yS A 2) (yS A 3) V → (∀ j, 0 ≤ j → j < (f : Int) → V g j = yS A (16 + 3 * (g : Int))) → (∀ M2 V2, rEv x bu rn r A0 H t M2 T → rRv (rUp r) σ RA cl t M2 r (yS A) (yC A) K (yS A 1) (yS A 2) (yS A 3) V2 → (∀ j, 0 ≤ j → j < yS A 2 → V2 g j = yS A (16 + 3 * (g : Int))) → (∀ g' j, g' ≠ (g : Int) → V2 g' j = V g' j) → Kf n' x bu r (yS A 1) (yS A 2) (g : Int) t M2) → p_L_randomRoad_823 F G Q K1 Kf K2 k n' x bu r (yS A 1) (yS A 2) (g : Int) (f : Int) t M1 := by
    intro d
    induction d with
    | zero =>
      intro k n' g f M1 V Kf K1 K2 hi hk hg hE1 hR1 hV1 hq1
      obtain ⟨k, rfl⟩ : ∃ k', k = k' + 1 := ⟨k - 1, by omega⟩
      unfold p_L_randomRoad_823
      exact ⟨fun _ => hq1 M1 V hE1 hR1 (fun j j0 j1 => hV1 j j0 (by omega)) (fun _ _ _ => rfl), fun q => absurd q (by omega)⟩
    | succ d ih =>
      intro k n' g f M1 V Kf K1 K2 hi hk hg hE1 hR1 hV1 hq1
      obtain ⟨k, rfl⟩ : ∃ k', k = k' + 1 := ⟨k - 1, by omega⟩
      obtain ⟨-, ⟨⟨⟨bg, c1, c2, c3, c4, c5⟩, c6⟩, -⟩, ⟨⟨bt, d1, d2, d3, d4, d5⟩, d6⟩, -⟩ := id hR1
      obtain ⟨z1, z2, z3, z4, z5⟩ := c6 (g : Int) (by omega) hg
      obtain ⟨y1, y2, y3, y4, y5⟩ := d6 (g : Int) (by omega) (by omega)
      have z4' : (xn t (RA (15 + 3 * (g : Int))) : Int) = 3 := z4
      have w1 := z5 1 (by decide) (show (1 : Int) < 3 by decide)
      have w1' : M1 (RA (15 + 3 * (g : Int))) 1 = yS A (16 + 3 * (g : Int)) := by rw [show 16 + 3 * (g : Int) = 15 + 3 * (g : Int) + 1 by omega]; exact w1
      unfold p_L_randomRoad_823
      refine ⟨fun q => absurd q (by omega), fun _ => ⟨bt, d1, d3, ⟨by omega, by omega⟩, RA (561 + 24 * (g : Int)), d5 g (by omega) (by omega), y3, bg, c1, c3, ⟨by omega, by omega⟩, RA (15 + 3 * (g : Int)), c5 g (by omega) hg, z3, ⟨by omega, by omega⟩, ⟨by omega, by omega⟩, fun M2 e2 => ⟨⟨by omega, by omega⟩, ?_⟩⟩⟩
      rw [w1'] at e2
      have hE2 : rEv x bu rn r A0 H t M2 T := by rw [e2]; exact rEv_fr hE1 (rFr_w (rFr_refl hE1.2.2.1) (Or.inr (Or.inr y2)))
      have hR2 := rRv_w (g := (g : Int)) (f := (f : Int)) (v := yS A (16 + 3 * (g : Int))) hR1 (by omega) (by omega) (by omega) (by omega) (by omega) (by omega) (by omega)
      rw [← e2] at hR2
      rw [show (f : Int) + 1 = ((f + 1 : Nat) : Int) by omega]
      refine ih k n' g (f + 1) M2 _ Kf K1 K2 (by omega) (by omega) hg hE2 hR2 (fun j j0 j1 => ?_) (fun M3 V3 a1 a2 a3 a4 => hq1 M3 V3 a1 a2 a3 (fun g' j hg' => ?_))
      · by_cases e : j = (f : Int)
        · rw [if_pos ⟨rfl, e⟩]
        · rw [if_neg (fun z => e z.2)]; exact hV1 j j0 (by omega)
      · rw [a4 g' j hg', if_neg (fun z => hg' z.1)]
  have outer : ∀ (d k n' : Nat) (g : Nat) (M1 : xMe) (V : Int → Int → Int), (g : Int) + d = yS A 1 → d < k → n ≤ n' → rEv x bu rn r A0 H t M1 T → rRv (rUp r) σ RA cl t M1 r (yS A) (yC A) K (yS A 1) (yS A 2) (yS A 3) V → (∀ g' j, 0 ≤ g' → g' < (g : Int) → 0 ≤ j → j < yS A 2 → V g' j = yS A (16 + 3 * g')) → p_L_randomRoad_813 F G Q (p_L_randomRoad_861 F G Q) k n' x bu r (yS A 1) (yS A 2) (g : Int) t M1 := by
    intro d
    induction d with
    | zero =>
      intro k n' g M1 V hi hk hn' hE1 hR1 hV1
      obtain ⟨k, rfl⟩ : ∃ k', k = k' + 1 := ⟨k - 1, by omega⟩
      unfold p_L_randomRoad_813
      exact ⟨fun _ => g_861 hF (by omega) hE1 hR1 hK (fun g' f g0 g1 f0 f1 => hV1 g' f g0 (by omega) f0 f1) hT hm hl hq, fun q => absurd q (by omega)⟩
    | succ d ih =>
      intro k n' g M1 V hi hk hn' hE1 hR1 hV1
      obtain ⟨k, rfl⟩ : ∃ k', k = k' + 1 := ⟨k - 1, by omega⟩
      unfold p_L_randomRoad_813
      refine ⟨fun q => absurd q (by omega), fun _ => ?_⟩
      refine inner (yS A 2).toNat F n' g 0 M1 V _ _ _ (by omega) (by omega) (by omega) hE1 hR1 (fun j j0 j1 => absurd j1 (by omega)) (fun M2 V2 a1 a2 a3 a4 => ?_)
      unfold p_L_randomRoad_855
      refine ⟨⟨by omega, by omega⟩, ?_⟩
      rw [show (g : Int) + 1 = ((g + 1 : Nat) : Int) by omega]
      refine ih k n' (g + 1) M2 V2 (by omega) (by omega) hn' a1 a2 (fun g' j g0 g1 j0 j1 => ?_)
      by_cases e : g' = (g : Int)
      · rw [e]; exact a3 j j0 j1
      · rw [a4 g' j e]; exact hV1 g' j g0 (by omega) j0 j1
  unfold p_L_randomRoad_810
  exact outer (yS A 1).toNat F n 0 M _ (by omega) (by omega) (Nat.le_refl _) hE hR0 (fun g' j g0 g1 => absurd g1 (by omega))
end RFI
