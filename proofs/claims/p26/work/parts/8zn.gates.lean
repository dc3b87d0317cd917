/-! THE ROAD IS MADE, ITS TEXT IS WRITTEN: gates -/
def rS0 (x bu rn r : Nat) : Prop := x + 436 ≤ bu ∧ x + 436 ≤ rn ∧ bu ≠ rn ∧ bu < r ∧ rn < r ∧ x + 452 ≤ r
def rEv (x bu rn r : Nat) (A0 : yA) (H : List yA) (t : xTh) (M : xMe) (T : List Int) : Prop := (yCs x t M (fun q => q = x + 80) A0 H ∧ yHg H ∧ oX11 t x ∧ oXQ t x) ∧ rBu x bu t M T ∧ xlive t ∧ xk t rn = 19 ∧ rS0 x bu rn r ∧ yG0 A0
/-- the Road's cells -/
def rUp (r : Nat) : Nat → Prop := fun a => r ≤ a
section RLG
variable {x bu rn r n F m : Nat} {G : xGx} {A0 A : yA} {H : List yA} {t t' : xTh} {M M' : xMe} {T L : List Int} {u : Int × Int × Int} {σ : Nat → Int} {RA : Int → Nat} {cl : List Nat} {Sf : Int → Int} {C : List yCo} {K V : List Int} {n1 n2 n3 n4 : Int}
theorem rEv_fr (h : rEv x bu rn r A0 H t M T) (f : rFr (fun c => c = rn ∨ rUp r c) t M t' M') : rEv x bu rn r A0 H t' M' T := by
  obtain ⟨⟨h1, h2, h3⟩, h4, h5, h6, h7, h8⟩ := h
  obtain ⟨s1, s2, s3, s4, s5, s6⟩ := id h7
  have hx : ∀ a, (a = rn ∨ rUp r a) → x + 436 ≤ a := fun a o => by
    rcases o with z | z
    · omega
    · have z' : r ≤ a := z
      omega
  have kx2 : xk t (x + 2) = 9 := h3.1.2.2.1.2.2.1.1
  have kx3' : xk t (x + 3) = 13 := h3.1.2.2.1.2.2.1.2.2.1
  have kx3 : xk t (x + 3) ≤ 22 := by omega
  have keep : ∀ a, a < x + 436 → xk t a ≤ 22 → M' a = M a := fun a ha hk => ((f.2 a hk).2.2.1 (fun o => by have := hx a o; omega)).1
  obtain ⟨q1, q2, ⟨q3, q3'⟩, q4, q5, q6, q7⟩ := h4
  obtain ⟨fb1, fb2, fb3, -⟩ := f.2 bu (by omega)
  have eb : M' bu = M bu := (fb3 (fun o => by
    rcases o with z | z
    · omega
    · have z' : r ≤ bu := z
      omega)).1
  refine ⟨⟨yCs_ow h1 h8.1.1.1.1 h2 h3.1 f (fun a o => ⟨hx a o, fun q hq => by have := hx a o; omega⟩), h2, oX11_ow h3 f hx⟩, ⟨q1, q2, ⟨fb1.trans q3, fb2.trans q3'⟩, by rw [eb]; exact q4, fun i hi => by rw [eb]; exact q5 i hi, by rw [keep _ (by omega) (by omega)]; exact q6, fun j hj => by rw [keep _ (by omega) kx3]; exact q7 j hj⟩, f.1, (f.2 rn (by omega)).1.trans h6, h7, h8⟩
theorem rBe_f (hl : xlive t) (e : rBe x bu M M') : rFr (fun c => c = bu ∨ c = x + 2 ∨ c = x + 3) t M t M' := ⟨hl, fun a _ => ⟨rfl, rfl, fun ne => ⟨e a (fun z => ne (Or.inl z)) (fun z => ne (Or.inr (Or.inl z))) (fun z => ne (Or.inr (Or.inr z))), rfl⟩, fun _ _ _ => rfl⟩⟩
theorem rEv_wr (h : rEv x bu rn r A0 H t M T) (g : rBu x bu t M' L) (e : rBe x bu M M') : rEv x bu rn r A0 H t M' L := by
  obtain ⟨⟨h1, h2, h3⟩, h4, h5, h6, h7, h8⟩ := h
  obtain ⟨s1, s2, s3, s4, s5, s6⟩ := id h7
  exact ⟨⟨yCs_fr2 h1 h8.1.1.1.1 h2 rfl (fun b b1 b2 => e b (by omega) (by omega) (by omega)) (fun q hq => by
    have hq' : q = x + 80 := hq
    exact e _ (by omega) (by omega) (by omega)), h2, h3⟩, g, h5, h6, h7, h8⟩
theorem rRc_wr (h : rRc (rUp r) σ RA cl t M r Sf C K n1 n2 n3 n4) (hs : rS0 x bu rn r) (hl : xlive t) (e : rBe x bu M M') : rRc (rUp r) σ RA cl t M' r Sf C K n1 n2 n3 n4 := by
  obtain ⟨s1, s2, s3, s4, s5, s6⟩ := id hs
  refine rRc_fr h (rBe_f hl e) (fun a pa o => ?_)
  have pa' : r ≤ a := pa
  omega
theorem rEv_b (h : rEv x bu rn r A0 H t M T) : bu ≠ x + 2 ∧ bu ≠ x + 3 := by
  obtain ⟨s1, -⟩ := h.2.2.2.2.1
  omega
theorem rUp_D (h : xk t r ≤ 22) : rDd (rUp r) t := ⟨r, h, fun a _ c => Nat.le_of_lt c⟩
/-- a word, numbers, a semicolon -/
theorem s_wrs {s ar : Nat} {Q : Nat → Nat → xTh → xMe → Prop} (hF : 1001 ≤ F) (h : rEv x bu rn r A0 H t M T) (hR : rRc (rUp r) σ RA cl t M r Sf C K n1 n2 n3 n4) (hs : s < 31) (har : r ≤ ar) (hV : xn t ar = V.length) (h8 : V.length ≤ 8) (hv : ∀ i v, V[i]? = some v → M ar i = v ∧ 0 ≤ v ∧ v < 10000) (hl : T.length + (xSl s).toNat + 5 * V.length + 1 ≤ 680) (hq : ∀ M2, rEv x bu rn r A0 H t M2 (T ++ (rLt s ++ rNs V ++ [59])) → rRc (rUp r) σ RA cl t M2 r Sf C K n1 n2 n3 n4 → rBe x bu M M2 → Q 0 0 t M2) : ∃ k : Nat, k ≤ n ∧ p_L_writeNumbers F G k t x bu (G.2.2.2.1 s) ar M (fun t1 M1 => ∃ k2 : Nat, k2 ≤ n - k ∧ p_L_write F G k2 t1 x bu (G.2.2.2.1 20) M1 (fun t2 M2 => Q k k2 t2 M2)) := by
  obtain ⟨s1, s2, s3, s4, s5, s6⟩ := id h.2.2.2.2.1
  have lL : (rLt s).length = (xSl s).toNat := by unfold rLt; rw [List.length_map, List.length_range]
  have l20 : (xSl 20).toNat = 1 := by decide
  have e20 : rLt 20 = [59] := by decide
  have lN : (rNs V).length ≤ 5 * V.length := by
    clear hV hv h8 hl hq
    induction V with
    | nil => exact Nat.le_refl _
    | cons v V ih =>
      have := rNu_len v
      have e : (rNs (v :: V)).length = 1 + (rNu v).length + (rNs V).length := by simp [rNs]; omega
      rw [e, List.length_cons]; omega
  refine ⟨0, Nat.zero_le _, s_writeNumbers hF h.2.1 h.1.2.2 (rEv_b h) hs ⟨by omega, by omega, by omega⟩ hV h8 hv (by omega) (fun M1 h1 e1 => ⟨0, Nat.zero_le _, ?_⟩)⟩
  refine s_writeL hF h1 h.1.2.2 (rEv_b h) (s := 20) (by decide) (by rw [List.length_append, List.length_append]; omega) (fun M2 h2 e2 => hq M2 ?_ (rRc_wr hR h.2.2.2.2.1 h.2.2.1 (rBe_tr e1 e2)) (rBe_tr e1 e2))
  rw [e20, List.append_assoc] at h2
  exact rEv_wr h h2 (rBe_tr e1 e2)
theorem rNs_len (V : List Int) : (rNs V).length ≤ 5 * V.length := by
  induction V with
  | nil => exact Nat.le_refl _
  | cons v V ih =>
    have := rNu_len v
    have e : (rNs (v :: V)).length = 1 + (rNu v).length + (rNs V).length := by simp [rNs]; omega
    rw [e, List.length_cons]; omega
theorem s_bel {Q : Nat → Int → xTh → xMe → Prop} {b : Int} (hb : 0 < b) (hb2 : b ≤ 100000) (hl : xlive t) (hq : ∀ v M', 0 ≤ v → v < b → rFr (fun a => a = rn) t M t M' → (∀ a, a ≠ rn → M' a = M a) → Q 0 v t M') : ∃ k : Nat, k ≤ n ∧ p_X13_below F k t rn b M (Q k) :=
  ⟨0, Nat.zero_le _, s_below hb hb2 hq hl⟩
/-- the draft and its text -/
def rTx0 (T : List Int) (m : Nat) (A : yA) (u : Int × Int × Int) : Prop := rTt T m A u ∧ rDf T A u
theorem rTx0_s {A' : yA} {u' : Int × Int × Int} (h : rTx0 T m A u) (hm : m ≤ 100) (g : rSt L A u A' u') (hI : zI A') (hK : yK A' = yK A) (hu : u' = u) : rTx0 (T ++ L) (m + 1) A' u' := by
  obtain ⟨h1, h2, h3, h4, h5⟩ := h
  subst hu
  exact ⟨rTt_s h1 hm g, hI, by rw [hK]; exact h3, by rw [hK, List.length_append]; omega, h5⟩
set_option maxHeartbeats 8000000 in
theorem g_22 {Q : Option Nat → xTh → xMe → Prop} {K143 : Nat → Nat → Nat → Nat → Nat → xTh → xMe → Prop} {N0 : Nat} (hF : 1001 ≤ F) (hq : ∀ (n : Nat) t M T (m : Nat) A σ RA cl, N0 ≤ n → rEv x bu rn r A0 H t M T → rRc (rUp r) σ RA cl t M r (yS A) (yC A) [-5] (yS A 1) 0 0 0 → rTx0 T m A (0, 0, 0) → m ≤ 5 → yS A 1 ≤ 3 → yS A 2 = 0 → yS A 3 = 0 → yC A = [] → yK A = [] → T.length ≤ 80 → K143 n x bu rn r t M) : ∀ (d k n : Nat) (t : xTh) (M : xMe) (T : List Int) (m : Nat) (A : yA) (σ : Nat → Int) (RA : Int → Nat) (cl : List Nat), d < k → N0 + 10 * d ≤ n → rEv x bu rn r A0 H t M T → rRc (rUp r) σ RA cl t M r (yS A) (yC A) [-5] (yS A 1) 0 0 0 → rTx0 T m A (0, 0, 0) → m + d ≤ 5 → yS A 1 + d ≤ 3 → yS A 2 = 0 → yS A 3 = 0 → yC A = [] → yK A = [] → T.length + 25 * d ≤ 80 → p_L_randomRoad_22 F G Q K143 k n x bu rn r (d : Int) t M := by
  intro d
  induction d with
  | zero =>
    intro k n t M T m A σ RA cl hk hn hE hR hT hm h1 h2 h3 h4 h5 hl
    obtain ⟨k, rfl⟩ : ∃ k', k = k' + 1 := ⟨k - 1, by omega⟩
    unfold p_L_randomRoad_22
    exact ⟨fun _ => hq n t M T m A σ RA cl (by omega) hE hR hT (by omega) (by omega) h2 h3 h4 h5 (by omega), fun q => absurd q (by decide)⟩
  | succ d ih =>
    intro k n t M T m A σ RA cl hk hn hE hR hT hm h1 h2 h3 h4 h5 hl
    obtain ⟨k, rfl⟩ : ∃ k', k = k' + 1 := ⟨k - 1, by omega⟩
    obtain ⟨s1, s2, s3, s4, s5, s6⟩ := id hE.2.2.2.2.1
    have hlv := hE.2.2.1
    have hI := hT.2.1
    obtain ⟨n1, n2, n3, n4, n5, n6⟩ := id hI.1
    obtain ⟨⟨⟨kr, pr⟩, -⟩, ⟨⟨⟨b, x1, x2, x3, x4, x5⟩, x6⟩, -⟩, -⟩ := id hR
    have hrz : r < xz t := hlv r (by omega)
    have dz : 22 < xk t (xz t) := xlive_z hlv
    unfold p_L_randomRoad_22
    refine ⟨fun q => absurd q (by omega), fun _ => ⟨b, x1, x3, by omega, fun a t1 M1 ea et eM => ?_⟩⟩
    subst ea et eM
    have f0 : rFr (fun c => c = rn) t M (xnw t 14 3) (xw0 M (xz t)) := rFr_n (rFr_refl hlv)
    have l1 := f0.1
    have nx : xn (xnw t 14 3) (xz t) = 3 := if_pos rfl
    have bd : ∀ j : Int, 0 ≤ j → j < 3 → (0 : Int) ≤ j ∧ j < (xn (xnw t 14 3) (xz t) : Int) := fun j a c => ⟨a, by rw [nx]; exact c⟩
    have arn : xz t ≠ rn := by omega
    -- from the three numbers on
    have fin : ∀ (n' : Nat) (M9 : xMe) (v0 v1 v2 : Int), n ≤ n' + 2 → rFr (fun c => c = rn) t M (xnw t 14 3) M9 → M9 (xz t) 0 = v0 → M9 (xz t) 1 = v1 → M9 (xz t) 2 = v2 → 0 ≤ v0 ∧ v0 ≤ 99 → 1 ≤ v1 ∧ v1 ≤ 999 → 1 ≤ v2 ∧ v2 ≤ 20 → ∃ k105 : Nat, k105 ≤ n' ∧ p_L_with F k105 (xnw t 14 3) b (xz t) M9 (fun r105 t105 M105 => (∀ t108 : xTh, t108 = xwr t105 r 1 (some r105) → (∃ b116 : Nat, xr t108 r 1 = some b116 ∧ xk t108 b116 = 17 ∧ (xR ((xn t108 b116 : Nat) : Int)) ∧ (xR ((((xn t108 b116 : Nat) : Int)) - 1)) ∧ ((0 : Int) ≤ ((((xn t108 b116 : Nat) : Int)) - 1) ∧ ((((xn t108 b116 : Nat) : Int)) - 1) < (xn t108 b116 : Int)) ∧ (∃ b126 : Nat, xr t108 b116 ((((xn t108 b116 : Nat) : Int)) - 1).toNat = some b126 ∧ xk t108 b126 = 14 ∧ (∃ k127 : Nat, k127 ≤ (n' - k105) ∧ p_L_writeNumbers F G k127 t108 x bu (G.2.2.2.1 1) b126 M105 (fun t127 M127 => (∃ k134 : Nat, k134 ≤ ((n' - k105) - k127) ∧ p_L_write F G k134 t127 x bu (G.2.2.2.1 20) M127 (fun t134 M134 => (xR (((d + 1 : Nat) : Int) + (-1))) ∧ p_L_randomRoad_22 F G Q K143 k ((((n' - k105) - k127) - k134)) x bu rn r (((d + 1 : Nat) : Int) + (-1)) t134 M134)))))))) := fun n' M9 v0 v1 v2 hn' f9 e0 e1 e2 g0 g1 g2 => by
      refine ⟨1, by omega, ?_⟩
      have e1S : yS (zGa A v0 v1 v2) 1 = yS A 1 + 1 := zGa_1
      refine s_w1 (Sf' := yS (zGa A v0 v1 v2)) (by omega) (Nat.le_refl 1) hR (rUp_D (by omega)) hlv (by rw [((f9.2 r (by omega)).2.2.1 (fun e => by omega)).2]; exact x1) f9 (fun c pc e => by have : r ≤ c := pc; omega) (by omega) (by omega) (by omega) (by omega) (by omega) (fun i i0 i1 => by omega) dz (Nat.le_of_lt hrz) (if_pos rfl) (by rw [nx]; rfl) (fun j j0 j1 => ?_) (fun q q1 q2 => zGa_n (by omega) (by omega)) (fun z t2 M2 σ' RA' hR2 f2 _ hRa t108 et => ?_)
      · have : j = 0 ∨ j = 1 ∨ j = 2 := by omega
        rcases this with rfl | rfl | rfl
        · rw [Int.add_zero, zGa_r n1]; exact e0
        · rw [show 15 + 3 * yS A 1 + 1 = 16 + 3 * yS A 1 by omega, zGa_d n1]; exact e1
        · rw [show 15 + 3 * yS A 1 + 2 = 17 + 3 * yS A 1 by omega, zGa_q n1]; exact e2
      subst et
      have hE2 : rEv x bu rn r A0 H (xwr t2 r 1 (some z)) M2 T := rEv_fr hE f2
      obtain ⟨-, ⟨⟨⟨b', y1, y2, y3, y4, y5⟩, y6⟩, -⟩, -⟩ := id hR2
      have hy5 := y5 (yS A 1) n1 (by omega)
      obtain ⟨z1, z2, z3, z4, z5⟩ := y6 (yS A 1) n1 (by omega)
      refine ⟨b', y1, y3, ⟨by omega, by omega⟩, ⟨by omega, by omega⟩, ⟨by omega, by omega⟩, RA' (15 + 3 * yS A 1), ?_, z3, ?_⟩
      · rw [show (((xn (xwr t2 r 1 (some z)) b' : Nat) : Int) - 1).toNat = (yS A 1).toNat by omega]; exact hy5
      have st : rSt (rLt 1 ++ rNs [v0, v1, v2] ++ [59]) A (0, 0, 0) (zGa A v0 v1 v2) (0, 0, 0) := rSt_gate hI (by omega) g0 g1 g2
      have hI2 : zI (zGa A v0 v1 v2) := zI_ga hI (by omega) g0 g1 g2
      have l1' : (xSl 1).toNat = 4 := by decide
      have z4' : (xn (xwr t2 r 1 (some z)) (RA' (15 + 3 * yS A 1)) : Int) = 3 := z4
      have w0 := z5 0 (by decide) (show (0 : Int) < 3 by decide)
      have w1 := z5 1 (by decide) (show (1 : Int) < 3 by decide)
      have w2 := z5 2 (by decide) (show (2 : Int) < 3 by decide)
      rw [Int.add_zero, zGa_r n1] at w0
      rw [show 15 + 3 * yS A 1 + 1 = 16 + 3 * yS A 1 by omega, zGa_d n1] at w1
      rw [show 15 + 3 * yS A 1 + 2 = 17 + 3 * yS A 1 by omega, zGa_q n1] at w2
      refine s_wrs (V := [v0, v1, v2]) hF hE2 hR2 (by decide) z2 (by show xn _ _ = 3; omega) (by show 3 ≤ 8; decide) (fun i v hv => ?_) (by show T.length + (xSl 1).toNat + 5 * 3 + 1 ≤ 680; omega) (fun M3 hE3 hR3 _ => ⟨⟨by omega, by omega⟩, ?_⟩)
      · rcases i with _ | _ | _ | i
        · cases hv; exact ⟨w0, by omega, by omega⟩
        · cases hv; exact ⟨w1, by omega, by omega⟩
        · cases hv; exact ⟨w2, by omega, by omega⟩
        · cases hv
      rw [show ((d + 1 : Nat) : Int) + (-1) = (d : Int) by omega]
      have hR3' : rRc (rUp r) σ' RA' cl (xwr t2 r 1 (some z)) M3 r (yS (zGa A v0 v1 v2)) (yC (zGa A v0 v1 v2)) [-5] (yS (zGa A v0 v1 v2) 1) 0 0 0 := by rw [e1S]; exact hR3
      have ln : (rLt 1 ++ rNs [v0, v1, v2] ++ [59]).length ≤ 20 := by
        have a := rNs_len [v0, v1, v2]
        have c : (rLt 1).length = 4 := by decide
        rw [List.length_append, List.length_append, c]
        have a' : (rNs [v0, v1, v2]).length ≤ 15 := a
        show 4 + (rNs [v0, v1, v2]).length + 1 ≤ 20
        omega
      exact ih k _ _ M3 _ (m + 1) (zGa A v0 v1 v2) σ' RA' cl (by omega) (by omega) hE3 hR3' (rTx0_s hT (by omega) st hI2 rfl rfl) (by omega) (by omega) (by rw [zGa_n (by omega) (by omega)]; exact h2) (by rw [zGa_n (by omega) (by omega)]; exact h3) h4 h5 (by rw [List.length_append]; omega)
    -- the numbers
    have c100 : ∀ (n' : Nat) (M8 : xMe) (v0 v1 y0 : Int), n ≤ n' + 2 → rFr (fun c => c = rn) t M (xnw t 14 3) M8 → M8 (xz t) 0 = v0 → M8 (xz t) 1 = v1 → 0 ≤ v0 ∧ v0 ≤ 99 → 1 ≤ v1 ∧ v1 ≤ 999 → 0 < y0 → y0 ≤ 20 → p_L_randomRoad_100 F G Q (p_L_randomRoad_22 F G Q K143 k) K143 n' x bu rn r ((d + 1 : Nat) : Int) y0 rn 1 2 (xz t) (xz t) b r (xnw t 14 3) M8 := fun n' M8 v0 v1 y0 hn' f8 e0 e1 g0 g1 q0 q1 => by
      unfold p_L_randomRoad_100
      refine s_bel q0 (by omega) l1 (fun w M9 w0 w1 f9 e9 => ⟨⟨by omega, by omega⟩, bd 2 (by decide) (by decide), fun M10 e10 => ?_⟩)
      have e10' : M10 = xw M9 (xz t) 2 (1 + w) := e10
      exact fin (n' - 0) M10 v0 v1 (1 + w) (by omega) (by rw [e10']; exact rFr_w (rFr_trans f8 f9) (Or.inl dz)) (by rw [e10', xw_j (by decide), e9 _ arn]; exact e0) (by rw [e10', xw_j (by decide), e9 _ arn]; exact e1) (by rw [e10', xw_s]) g0 g1 (by omega)
    have c77 : ∀ (n' : Nat) (M8 : xMe) (v0 y0 : Int), n ≤ n' + 2 → rFr (fun c => c = rn) t M (xnw t 14 3) M8 → M8 (xz t) 0 = v0 → 0 ≤ v0 ∧ v0 ≤ 99 → 0 < y0 → y0 ≤ 999 → p_L_randomRoad_77 F G Q (p_L_randomRoad_22 F G Q K143 k) K143 n' x bu rn r ((d + 1 : Nat) : Int) y0 rn 1 1 (xz t) (xz t) b r (xnw t 14 3) M8 := fun n' M8 v0 y0 hn' f8 e0 g0 q0 q1 => by
      unfold p_L_randomRoad_77
      refine s_bel q0 (by omega) l1 (fun w M9 w0 w1 f9 e9 => ⟨⟨by omega, by omega⟩, bd 1 (by decide) (by decide), fun M10 e10 => ?_⟩)
      have e10' : M10 = xw M9 (xz t) 1 (1 + w) := e10
      have f10 : rFr (fun c => c = rn) t M (xnw t 14 3) M10 := by rw [e10']; exact rFr_w (rFr_trans f8 f9) (Or.inl dz)
      refine s_bel (by decide) (by decide) l1 (fun w' M11 _ _ f11 e11 => ?_)
      have A0' : M11 (xz t) 0 = v0 := by rw [e11 _ arn, e10', xw_j (by decide), e9 _ arn]; exact e0
      have A1' : M11 (xz t) 1 = 1 + w := by rw [e11 _ arn, e10', xw_s]
      exact ⟨fun _ => c100 _ M11 v0 (1 + w) 3 (by omega) (rFr_trans f10 f11) A0' A1' g0 (by omega) (by decide) (by decide), fun _ => c100 _ M11 v0 (1 + w) 20 (by omega) (rFr_trans f10 f11) A0' A1' g0 (by omega) (by decide) (by decide)⟩
    have c53 : ∀ (n' : Nat) (M8 : xMe) (y0 : Int), n ≤ n' + 2 → rFr (fun c => c = rn) t M (xnw t 14 3) M8 → 0 < y0 → y0 ≤ 100 → p_L_randomRoad_53 F G Q (p_L_randomRoad_22 F G Q K143 k) K143 n' x bu rn r ((d + 1 : Nat) : Int) y0 rn 0 (xz t) (xz t) b r (xnw t 14 3) M8 := fun n' M8 y0 hn' f8 q0 q1 => by
      unfold p_L_randomRoad_53
      refine s_bel q0 (by omega) l1 (fun w M9 w0 w1 f9 e9 => ⟨bd 0 (by decide) (by decide), fun M10 e10 => ?_⟩)
      have e10' : M10 = xw M9 (xz t) 0 w := e10
      have f10 : rFr (fun c => c = rn) t M (xnw t 14 3) M10 := by rw [e10']; exact rFr_w (rFr_trans f8 f9) (Or.inl dz)
      refine s_bel (by decide) (by decide) l1 (fun w' M11 _ _ f11 e11 => ?_)
      have A0' : M11 (xz t) 0 = w := by rw [e11 _ arn, e10', xw_s]
      exact ⟨fun _ => c77 _ M11 w 20 (by omega) (rFr_trans f10 f11) A0' (by omega) (by decide) (by decide), fun _ => c77 _ M11 w 999 (by omega) (rFr_trans f10 f11) A0' (by omega) (by decide) (by decide)⟩
    refine s_bel (by decide) (by decide) l1 (fun w M9 _ _ f9 e9 => ⟨fun _ => c53 _ M9 6 (by omega) (rFr_trans f0 f9) (by decide) (by decide), fun _ => c53 _ M9 100 (by omega) (rFr_trans f0 f9) (by decide) (by decide)⟩)
end RLG
