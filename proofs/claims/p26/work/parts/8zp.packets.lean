/-! THE ROAD IS MADE: packets, coupons -/
section RLP2
variable {x bu rn r n F m N j : Nat} {G : xGx} {A0 A : yA} {H : List yA} {t t' : xTh} {M M' : xMe} {T L : List Int} {u : Int × Int × Int} {σ : Nat → Int} {RA : Int → Nat} {cl : List Nat} {Sf : Int → Int} {C : List yCo} {K V : List Int} {n1 n2 n3 n4 q : Int}
/-- what holds between the Road's statements -/
def rMk (x bu rn r : Nat) (A0 : yA) (H : List yA) (K : List Int) (t : xTh) (M : xMe) (T : List Int) (m : Nat) (A : yA) (u : Int × Int × Int) : Prop :=
  rEv x bu rn r A0 H t M T ∧ (∃ σ RA cl, rRc (rUp r) σ RA cl t M r (yS A) (yC A) K (yS A 1) (yS A 2) (yS A 2) (yS A 3)) ∧ rTx0 T m A u
theorem v3get {a b c : Int} {p0 p1 p2 : Prop} {M : xMe} {ar i : Nat} {v : Int} (h0 : M ar 0 = a ∧ 0 ≤ a ∧ a < 10000) (h1 : M ar 1 = b ∧ 0 ≤ b ∧ b < 10000) (h2 : M ar 2 = c ∧ 0 ≤ c ∧ c < 10000) (hv : [a, b, c][i]? = some v) : M ar i = v ∧ 0 ≤ v ∧ v < 10000 := by
  rcases i with _ | _ | _ | i
  · cases hv; exact h0
  · cases hv; exact h1
  · cases hv; exact h2
  · cases hv
theorem ln3 {s : Nat} {a b c : Int} (h : (rLt s).length ≤ 6) : (rLt s ++ rNs [a, b, c] ++ [59]).length ≤ 22 := by
  have l := rNs_len [a, b, c]
  have l' : (rNs [a, b, c]).length ≤ 15 := l
  rw [List.length_append, List.length_append]
  show (rLt s).length + (rNs [a, b, c]).length + 1 ≤ 22
  omega
set_option maxHeartbeats 8000000 in
theorem g_375 {Q : Option Nat → xTh → xMe → Prop} {K530 : Nat → Nat → Nat → Nat → Nat → Int → Int → xTh → xMe → Prop} {N0 : Nat} {gg ff : Int} (hF : 1001 ≤ F) (hff : 0 ≤ ff ∧ ff ≤ 3) (hq : ∀ (n : Nat) t M T (m : Nat) A, N0 ≤ n → rMk x bu rn r A0 H [-5] t M T m A (0, 0, 0) → m ≤ 25 → yS A 1 = gg → yS A 2 = ff → yS A 3 ≤ 9 → yC A = [] → yK A = [] → T.length ≤ 420 → K530 n x bu rn r gg ff t M) : ∀ (d k n : Nat) (t : xTh) (M : xMe) (T : List Int) (m : Nat) (A : yA), d < k → (d = 0 ∨ 0 < ff) → N0 + 10 * d ≤ n → rMk x bu rn r A0 H [-5] t M T m A (0, 0, 0) → m + d ≤ 25 → yS A 1 = gg → yS A 2 = ff → yS A 3 + d ≤ 9 → yC A = [] → yK A = [] → T.length + 24 * d ≤ 420 → p_L_randomRoad_375 F G Q K530 k n x bu rn r gg ff (d : Int) t M := by
  intro d
  induction d with
  | zero =>
    intro k n t M T m A hk _ hn hMk hm h1 h2 h3 h4 h5 hl
    obtain ⟨k, rfl⟩ : ∃ k', k = k' + 1 := ⟨k - 1, by omega⟩
    unfold p_L_randomRoad_375
    exact ⟨fun _ => hq n t M T m A (by omega) hMk (by omega) h1 h2 (by omega) h4 h5 (by omega), fun q => absurd q (by decide)⟩
  | succ d ih =>
    intro k n t M T m A hk hd0 hn hMk hm h1 h2 h3 h4 h5 hl
    obtain ⟨k, rfl⟩ : ∃ k', k = k' + 1 := ⟨k - 1, by omega⟩
    obtain ⟨hE, ⟨σ, RA, cl, hR⟩, hT⟩ := hMk
    obtain ⟨s1, s2, s3, s4, s5, s6⟩ := id hE.2.2.2.2.1
    have hlv := hE.2.2.1
    have hI := hT.2.1
    obtain ⟨n1, n2, n3, n4, n5, n6⟩ := id hI.1
    have g0 : 0 < ff := by omega
    obtain ⟨⟨⟨kr, pr⟩, -⟩, ⟨-, -, -, ⟨⟨b, x1, x2, x3, x4, x5⟩, x6⟩⟩, -⟩ := id hR
    have hrz : r < xz t := hlv r (by omega)
    have dz : 22 < xk t (xz t) := xlive_z hlv
    unfold p_L_randomRoad_375
    refine ⟨fun q => absurd q (by omega), fun _ => ⟨b, x1, x3, by omega, fun a t1 M1 ea et eM => ?_⟩⟩
    subst ea et eM
    have f0 : rFr (fun c => c = rn) t M (xnw t 14 8) (xw0 M (xz t)) := rFr_n (rFr_refl hlv)
    have l1 := f0.1
    have nx : xn (xnw t 14 8) (xz t) = 8 := if_pos rfl
    have bd : ∀ j : Int, 0 ≤ j → j < 8 → (0 : Int) ≤ j ∧ j < (xn (xnw t 14 8) (xz t) : Int) := fun j a c => ⟨a, by rw [nx]; exact c⟩
    have arn : xz t ≠ rn := by omega
    have c439 : ∀ (n' : Nat) (M8 : xMe) (v0 v1 y0 : Int), n ≤ n' + 1 → rFr (fun c => c = rn) t M (xnw t 14 8) M8 → M8 (xz t) 0 = v0 → M8 (xz t) 1 = v1 → 0 ≤ v0 ∧ v0 < ff → 0 ≤ v1 ∧ v1 ≤ 50 → 0 < y0 → y0 ≤ 60 → p_L_randomRoad_439 F G Q (p_L_randomRoad_375 F G Q K530 k) K530 n' x bu rn r gg ff ((d + 1 : Nat) : Int) y0 rn 1 2 (xz t) (xz t) b r (xnw t 14 8) M8 := fun n' M8 v0 v1 y0 hn' f8 e0 e1 g0 g1 q0 q1 => by
      unfold p_L_randomRoad_439
      refine s_bel q0 (by omega) l1 (fun w M9 w0 w1 f9 e9 => ⟨⟨by omega, by omega⟩, bd 2 (by decide) (by decide), fun Ma ea => ⟨bd 3 (by decide) (by decide), fun Mb eb => ⟨bd 4 (by decide) (by decide), fun Mc ec => ⟨bd 5 (by decide) (by decide), fun Md ed => ⟨bd 6 (by decide) (by decide), fun Me ee => ⟨bd 7 (by decide) (by decide), fun Mf ef => ⟨1, by omega, ?_⟩⟩⟩⟩⟩⟩⟩)
      have ea' : Ma = xw M9 (xz t) 2 (1 + w) := ea
      have fr : rFr (fun c => c = rn) t M (xnw t 14 8) Mf := by
        rw [ef, ee, ed, ec, eb, ea']
        exact rFr_w (rFr_w (rFr_w (rFr_w (rFr_w (rFr_w (rFr_trans f8 f9) (Or.inl dz)) (Or.inl dz)) (Or.inl dz)) (Or.inl dz)) (Or.inl dz)) (Or.inl dz)
      have vals : ∀ j, 0 ≤ j → j < 8 → Mf (xz t) j.toNat = yPq v0 v1 (1 + w) j := fun j j0 j1 => by
        have A0' : M9 (xz t) 0 = v0 := by rw [e9 _ arn]; exact e0
        have A1' : M9 (xz t) 1 = v1 := by rw [e9 _ arn]; exact e1
        have : j = 0 ∨ j = 1 ∨ j = 2 ∨ j = 3 ∨ j = 4 ∨ j = 5 ∨ j = 6 ∨ j = 7 := by omega
        rw [ef, ee, ed, ec, eb, ea']
        rcases this with rfl | rfl | rfl | rfl | rfl | rfl | rfl | rfl <;> simp [xw, yPq, A0', A1']
      have pc : ∀ c, 0 ≤ c → c < 9 → yS (ySnd A v0 v1 (1 + w)) (81 + 9 * yS A 3 + c) = yPq v0 v1 (1 + w) c := fun c c0 c9 => ySnd_c n5 rfl c0 c9
      have e3S : yS (ySnd A v0 v1 (1 + w)) 3 = yS A 3 + 1 := ySnd_3
      refine s_w4 (Sf' := yS (ySnd A v0 v1 (1 + w))) (by omega) (Nat.le_refl 1) hR (rUp_D (by omega)) hlv (by rw [((fr.2 r (by omega)).2.2.1 (fun e => by omega)).2]; exact x1) fr (fun c pc e => by have : r ≤ c := pc; omega) (by omega) (by omega) (by omega) (by omega) (by omega) (fun i i0 i1 => (hI.2.2.1 i i0 i1).2.1) dz (Nat.le_of_lt hrz) (if_pos rfl) (by rw [nx]; rfl) (fun j j0 j1 => by rw [vals j j0 j1, pc j j0 (by omega)]) (fun q q1 q2 => ySnd_n (by omega) (by omega)) (fun z t2 M2 σ' RA' hR2 f2 _ hRa t108 et => ?_)
      subst et
      have hE2 : rEv x bu rn r A0 H (xwr t2 r 4 (some z)) M2 T := rEv_fr hE f2
      have hl2 := hE2.2.2.1
      have kr2 := hR2.1.1.1
      have r2 : r < xz (xwr t2 r 4 (some z)) := hl2 r (by omega)
      have d2 := xlive_z hl2
      obtain ⟨-, ⟨-, -, -, ⟨⟨b', y1, y2, y3, y4, y5⟩, y6⟩⟩, -⟩ := id hR2
      have hy5 := y5 (yS A 3) n5 (by omega)
      obtain ⟨z1, z2, z3, z4, z5⟩ := y6 (yS A 3) n5 (by omega)
      have z4' : (xn (xwr t2 r 4 (some z)) (RA' (81 + 9 * yS A 3)) : Int) = 8 := z4
      have w0' := z5 0 (by decide) (show (0 : Int) < 8 by decide)
      have w1' := z5 1 (by decide) (show (1 : Int) < 8 by decide)
      have w2' := z5 2 (by decide) (show (2 : Int) < 8 by decide)
      rw [pc 0 (by decide) (by decide)] at w0'
      rw [pc 1 (by decide) (by decide)] at w1'
      rw [pc 2 (by decide) (by decide)] at w2'
      have w0 : M2 (RA' (81 + 9 * yS A 3)) 0 = v0 := w0'
      have w1 : M2 (RA' (81 + 9 * yS A 3)) 1 = v1 := w1'
      have w2 : M2 (RA' (81 + 9 * yS A 3)) 2 = 1 + w := w2'
      have lRA : RA' (81 + 9 * yS A 3) < xz (xwr t2 r 4 (some z)) := hl2 _ (by rw [z3]; decide)
      refine ⟨b', y1, y3, ⟨by omega, by omega⟩, ⟨by omega, by omega⟩, ⟨by omega, by omega⟩, RA' (81 + 9 * yS A 3), ?_, z3, by omega, fun a4 t4 M4 ea et eM => ?_⟩
      · rw [show (((xn (xwr t2 r 4 (some z)) b' : Nat) : Int) - 1).toNat = (yS A 3).toNat by omega]; exact hy5
      subst ea et eM
      have nRA : (xn (xnw (xwr t2 r 4 (some z)) 14 3) (RA' (81 + 9 * yS A 3)) : Int) = 8 := by rw [xn_nw, if_neg (by omega)]; exact z4'
      have n3' : xn (xnw (xwr t2 r 4 (some z)) 14 3) (xz (xwr t2 r 4 (some z))) = 3 := if_pos rfl
      have bb : ∀ j : Int, 0 ≤ j → j < 3 → ((0 : Int) ≤ j ∧ j < (xn (xnw (xwr t2 r 4 (some z)) 14 3) (RA' (81 + 9 * yS A 3)) : Int)) ∧ ((0 : Int) ≤ j ∧ j < (xn (xnw (xwr t2 r 4 (some z)) 14 3) (xz (xwr t2 r 4 (some z))) : Int)) := fun j a c => ⟨⟨a, by omega⟩, ⟨a, by rw [n3']; exact c⟩⟩
      have nRz : RA' (81 + 9 * yS A 3) ≠ xz (xwr t2 r 4 (some z)) := by omega
      refine ⟨(bb 0 (by decide) (by decide)).1, (bb 0 (by decide) (by decide)).2, fun M5 e5 => ⟨(bb 1 (by decide) (by decide)).1, (bb 1 (by decide) (by decide)).2, fun M6 e6 => ⟨(bb 2 (by decide) (by decide)).1, (bb 2 (by decide) (by decide)).2, fun M7 e7 => ?_⟩⟩⟩
      have c5 : M5 = xw (xw0 M2 (xz (xwr t2 r 4 (some z)))) (xz (xwr t2 r 4 (some z))) 0 v0 := by rw [e5, xw0_B nRz, w0]
      have c6 : M6 = xw M5 (xz (xwr t2 r 4 (some z))) 1 v1 := by rw [e6, c5, xw_B nRz, xw0_B nRz, w1]
      have c7 : M7 = xw M6 (xz (xwr t2 r 4 (some z))) 2 (1 + w) := by rw [e7, c6, xw_B nRz, c5, xw_B nRz, xw0_B nRz, w2]
      have f7 : rFr (fun c => c = rn) (xwr t2 r 4 (some z)) M2 (xnw (xwr t2 r 4 (some z)) 14 3) M7 := by
        rw [c7, c6, c5]
        exact rFr_w (rFr_w (rFr_w (rFr_n (rFr_refl hl2)) (Or.inl d2)) (Or.inl d2)) (Or.inl d2)
      have hE7 := rEv_fr hE2 (rFr_mono f7 (fun c hc => Or.inl hc))
      have hR7 := rRc_fr hR2 f7 (fun c pc e => by have : r ≤ c := pc; omega)
      have q0' : M7 (xz (xwr t2 r 4 (some z))) 0 = v0 := by rw [c7, xw_j (by decide), c6, xw_j (by decide), c5]; exact xw_s
      have q1' : M7 (xz (xwr t2 r 4 (some z))) 1 = v1 := by rw [c7, xw_j (by decide), c6]; exact xw_s
      have q2' : M7 (xz (xwr t2 r 4 (some z))) 2 = 1 + w := by rw [c7]; exact xw_s
      have l3 : (rLt 3).length = 6 := by decide
      have l3' : (xSl 3).toNat = 6 := by decide
      have st := rSt_packet (u := ((0 : Int), (0 : Int), (0 : Int))) hI (by omega) (⟨g0.1, by omega⟩ : 0 ≤ v0 ∧ v0 < yS A 2) (⟨g1.1, by omega⟩ : 0 ≤ v1 ∧ v1 ≤ 999) (⟨by omega, by omega⟩ : 1 ≤ 1 + w ∧ 1 + w ≤ 999)
      have hI2 := zI_sn hI (by omega) (⟨g0.1, by omega⟩ : 0 ≤ v0 ∧ v0 < yS A 2) (⟨g1.1, by omega⟩ : 0 ≤ v1 ∧ v1 ≤ 999) (⟨by omega, by omega⟩ : 1 ≤ 1 + w ∧ 1 + w ≤ 999)
      refine s_wrs (V := [v0, v1, 1 + w]) hF hE7 hR7 (by decide) (Nat.le_of_lt r2) n3' (by show 3 ≤ 8; decide) (fun i v hv => v3get (p0 := True) (p1 := True) (p2 := True) ⟨q0', by omega⟩ ⟨q1', by omega⟩ ⟨q2', by omega⟩ hv) (by show T.length + (xSl 3).toNat + 5 * 3 + 1 ≤ 680; omega) (fun M8 hE8 hR8 _ => ⟨⟨by omega, by omega⟩, ?_⟩)
      have o1 : yS (ySnd A v0 v1 (1 + w)) 1 = yS A 1 := ySnd_n (by omega) (by omega)
      have o2 : yS (ySnd A v0 v1 (1 + w)) 2 = yS A 2 := ySnd_n (by omega) (by omega)
      rw [show ((d + 1 : Nat) : Int) + (-1) = (d : Int) by omega]
      have hR8' : rRc (rUp r) σ' RA' cl (xnw (xwr t2 r 4 (some z)) 14 3) M8 r (yS (ySnd A v0 v1 (1 + w))) (yC (ySnd A v0 v1 (1 + w))) [-5] (yS (ySnd A v0 v1 (1 + w)) 1) (yS (ySnd A v0 v1 (1 + w)) 2) (yS (ySnd A v0 v1 (1 + w)) 2) (yS (ySnd A v0 v1 (1 + w)) 3) := by rw [o1, o2, e3S]; exact hR8
      have ln := ln3 (s := 3) (a := v0) (b := v1) (c := 1 + w) (by rw [l3]; decide)
      exact ih k _ _ M8 _ (m + 1) (ySnd A v0 v1 (1 + w)) (by omega) (Or.inr (by omega)) (by omega) ⟨hE8, ⟨σ', RA', cl, hR8'⟩, rTx0_s hT (by omega) st hI2 rfl rfl⟩ (by omega) (by omega) (by omega) (by omega) h4 h5 (by rw [List.length_append]; omega)
    have c416 : ∀ (n' : Nat) (M8 : xMe) (v0 y0 : Int), n ≤ n' + 1 → rFr (fun c => c = rn) t M (xnw t 14 8) M8 → M8 (xz t) 0 = v0 → 0 ≤ v0 ∧ v0 < ff → 0 < y0 → y0 ≤ 50 → p_L_randomRoad_416 F G Q (p_L_randomRoad_375 F G Q K530 k) K530 n' x bu rn r gg ff ((d + 1 : Nat) : Int) y0 rn 1 (xz t) (xz t) b r (xnw t 14 8) M8 := fun n' M8 v0 y0 hn' f8 e0 g0 q0 q1 => by
      unfold p_L_randomRoad_416
      refine s_bel q0 (by omega) l1 (fun w M9 w0 w1 f9 e9 => ⟨bd 1 (by decide) (by decide), fun M10 e10 => ?_⟩)
      have e10' : M10 = xw M9 (xz t) 1 w := e10
      have f10 : rFr (fun c => c = rn) t M (xnw t 14 8) M10 := by rw [e10']; exact rFr_w (rFr_trans f8 f9) (Or.inl dz)
      refine s_bel (by decide) (by decide) l1 (fun w' M11 _ _ f11 e11 => ?_)
      have A0' : M11 (xz t) 0 = v0 := by rw [e11 _ arn, e10', xw_j (by decide), e9 _ arn]; exact e0
      have A1' : M11 (xz t) 1 = w := by rw [e11 _ arn, e10', xw_s]
      exact ⟨fun _ => c439 _ M11 v0 w 20 (by omega) (rFr_trans f10 f11) A0' A1' g0 (by omega) (by decide) (by decide), fun _ => c439 _ M11 v0 w 60 (by omega) (rFr_trans f10 f11) A0' A1' g0 (by omega) (by decide) (by decide)⟩
    refine s_bel g0 (by omega) l1 (fun w M9 w0 w1 f9 e9 => ⟨bd 0 (by decide) (by decide), fun M10 e10 => ?_⟩)
    have e10' : M10 = xw M9 (xz t) 0 w := e10
    have f10 : rFr (fun c => c = rn) t M (xnw t 14 8) M10 := by rw [e10']; exact rFr_w (rFr_trans f0 f9) (Or.inl dz)
    refine s_bel (by decide) (by decide) l1 (fun w' M11 _ _ f11 e11 => ?_)
    have A0' : M11 (xz t) 0 = w := by rw [e11 _ arn, e10', xw_s]
    exact ⟨fun _ => c416 _ M11 w 6 (by omega) (rFr_trans f10 f11) A0' (by omega) (by decide) (by decide), fun _ => c416 _ M11 w 50 (by omega) (rFr_trans f10 f11) A0' (by omega) (by decide) (by decide)⟩
set_option maxHeartbeats 8000000 in
theorem g_547 {Q : Option Nat → xTh → xMe → Prop} {K659 : Nat → Nat → Nat → Nat → Nat → Int → Int → xTh → xMe → Prop} {N0 : Nat} {gg ff : Int} (hF : 1001 ≤ F) (hff : 0 ≤ ff ∧ ff ≤ 3) (hq : ∀ (n : Nat) t M T (m : Nat) A, N0 ≤ n → rMk x bu rn r A0 H [-5] t M T m A (0, 0, 0) → m ≤ 32 → yS A 1 = gg → yS A 2 = ff → yK A = [] → T.length ≤ 540 → K659 n x bu rn r gg ff t M) : ∀ (d k n : Nat) (t : xTh) (M : xMe) (T : List Int) (m : Nat) (A : yA), d < k → (d = 0 ∨ 0 < ff) → N0 + 10 * d ≤ n → rMk x bu rn r A0 H [-5] t M T m A (0, 0, 0) → m + d ≤ 32 → yS A 1 = gg → yS A 2 = ff → (yC A).length + d ≤ 6 → yK A = [] → T.length + 24 * d ≤ 540 → p_L_randomRoad_547 F G Q K659 k n x bu rn r gg ff (d : Int) t M := by
  intro d
  induction d with
  | zero =>
    intro k n t M T m A hk _ hn hMk hm h1 h2 h4 h5 hl
    obtain ⟨k, rfl⟩ : ∃ k', k = k' + 1 := ⟨k - 1, by omega⟩
    unfold p_L_randomRoad_547
    exact ⟨fun _ => hq n t M T m A (by omega) hMk (by omega) h1 h2 h5 (by omega), fun q => absurd q (by decide)⟩
  | succ d ih =>
    intro k n t M T m A hk hd0 hn hMk hm h1 h2 h4 h5 hl
    obtain ⟨k, rfl⟩ : ∃ k', k = k' + 1 := ⟨k - 1, by omega⟩
    obtain ⟨hE, ⟨σ, RA, cl, hR⟩, hT⟩ := hMk
    obtain ⟨s1, s2, s3, s4, s5, s6⟩ := id hE.2.2.2.2.1
    have hlv := hE.2.2.1
    have hI := hT.2.1
    obtain ⟨n1, n2, n3, n4, n5, n6⟩ := id hI.1
    have g0 : 0 < ff := by omega
    obtain ⟨⟨⟨kr, pr⟩, -⟩, -, -, hCp, -⟩ := id hR
    obtain ⟨b, x1, x2, x3, x4, x5, x6, x7⟩ := rCp_b hCp
    have hrz : r < xz t := hlv r (by omega)
    have dz : 22 < xk t (xz t) := xlive_z hlv
    unfold p_L_randomRoad_547
    refine ⟨fun q => absurd q (by omega), fun _ => ⟨b, x1, x3, by omega, fun a t1 M1 ea et eM => ?_⟩⟩
    subst ea et eM
    have f0 : rFr (fun c => c = rn) t M (xnw t 14 4) (xw0 M (xz t)) := rFr_n (rFr_refl hlv)
    have l1 := f0.1
    have nx : xn (xnw t 14 4) (xz t) = 4 := if_pos rfl
    have bd : ∀ j : Int, 0 ≤ j → j < 4 → (0 : Int) ≤ j ∧ j < (xn (xnw t 14 4) (xz t) : Int) := fun j a c => ⟨a, by rw [nx]; exact c⟩
    have arn : xz t ≠ rn := by omega
    refine s_bel g0 (by omega) l1 (fun v0 Ma va0 va1 fa ga => ⟨bd 0 (by decide) (by decide), fun Mb eb => ?_⟩)
    have eb' : Mb = xw Ma (xz t) 0 v0 := eb
    have fb : rFr (fun c => c = rn) t M (xnw t 14 4) Mb := by rw [eb']; exact rFr_w (rFr_trans f0 fa) (Or.inl dz)
    refine s_bel (by decide) (by decide) l1 (fun w1 Mc vb0 vb1 fc gc => ⟨⟨by omega, by omega⟩, bd 1 (by decide) (by decide), fun Md ed => ?_⟩)
    have ed' : Md = xw Mc (xz t) 1 (1 + w1) := ed
    have fd : rFr (fun c => c = rn) t M (xnw t 14 4) Md := by rw [ed']; exact rFr_w (rFr_trans fb fc) (Or.inl dz)
    refine s_bel (by decide) (by decide) l1 (fun w2 Me vc0 vc1 fe ge => ⟨⟨by omega, by omega⟩, bd 2 (by decide) (by decide), fun Mf ef => ⟨bd 3 (by decide) (by decide), fun Mg eg => ⟨1, by omega, ?_⟩⟩⟩)
    have ef' : Mf = xw Me (xz t) 2 (1 + w2) := ef
    have fg : rFr (fun c => c = rn) t M (xnw t 14 4) Mg := by rw [eg, ef']; exact rFr_w (rFr_w (rFr_trans fd fe) (Or.inl dz)) (Or.inl dz)
    have k0 : Mg (xz t) 0 = v0 := by rw [eg, xw_j (by decide), ef', xw_j (by decide), ge _ arn, ed', xw_j (by decide), gc _ arn, eb', xw_s]
    have k1 : Mg (xz t) 1 = 1 + w1 := by rw [eg, xw_j (by decide), ef', xw_j (by decide), ge _ arn, ed', xw_s]
    have k2 : Mg (xz t) 2 = 1 + w2 := by rw [eg, xw_j (by decide), ef', xw_s]
    have k3 : Mg (xz t) 3 = 0 := by rw [eg]; exact xw_s
    refine s_w5 (u := (v0, 1 + w1, 1 + w2, 0)) (by omega) (Nat.le_refl 1) hR (by omega) (rUp_D (by omega)) (by rw [((fg.2 r (by omega)).2.2.1 (fun e => by omega)).2]; exact x1) fg (fun c pc e => by have : r ≤ c := pc; omega) dz (Nat.le_of_lt hrz) (if_pos rfl) nx k0 k1 k2 k3 (fun z t2 M2 σ' cl' hR2 f2 t108 et => ?_)
    subst et
    have hE2 : rEv x bu rn r A0 H (xwr t2 r 5 (some z)) M2 T := rEv_fr hE f2
    have hl2 := hE2.2.2.1
    have kr2 := hR2.1.1.1
    have r2 : r < xz (xwr t2 r 5 (some z)) := hl2 r (by omega)
    have d2 := xlive_z hl2
    obtain ⟨b', y1, y2, y3, y4, y5, y6, y7⟩ := rCp_b hR2.2.2.2.1
    have lC : (yC A ++ [((v0, 1 + w1, 1 + w2, 0) : yCo)]).length = (yC A).length + 1 := by rw [List.length_append]; rfl
    rw [lC] at y5
    have hC1 : cl'[(yC A).length]? = some (cl'[(yC A).length]'(by omega)) := List.getElem?_eq_getElem (by omega)
    have hC2 : (yC A ++ [((v0, 1 + w1, 1 + w2, 0) : yCo)])[(yC A).length]? = some (v0, 1 + w1, 1 + w2, 0) := by rw [List.getElem?_append_right (Nat.le_refl _), Nat.sub_self]; rfl
    obtain ⟨z1, z2, z3, z4, w0, w1', w2', w3'⟩ := hR2.2.2.2.1.2.2.2 _ _ _ hC1 hC2
    have hy6 := y6 (yC A).length (by omega)
    rw [hC1] at hy6
    generalize cl'[(yC A).length]'(by omega) = ar at z1 z2 z3 z4 w0 w1' w2' w3' hy6 hC1
    have w0 : M2 ar 0 = v0 := w0
    have w1' : M2 ar 1 = 1 + w1 := w1'
    have w2' : M2 ar 2 = 1 + w2 := w2'
    have lRA : ar < xz (xwr t2 r 5 (some z)) := hl2 _ (by rw [z3]; decide)
    refine ⟨b', y1, y3, ⟨by omega, by omega⟩, ⟨by omega, by omega⟩, ⟨by omega, by omega⟩, ar, ?_, z3, by omega, fun a4 t4 M4 ea et eM => ?_⟩
    · rw [show (((xn (xwr t2 r 5 (some z)) b' : Nat) : Int) - 1).toNat = (yC A).length by omega]; exact hy6
    subst ea et eM
    have nRA : xn (xnw (xwr t2 r 5 (some z)) 14 3) ar = 4 := by rw [xn_nw, if_neg (by omega)]; exact z4
    have n3' : xn (xnw (xwr t2 r 5 (some z)) 14 3) (xz (xwr t2 r 5 (some z))) = 3 := if_pos rfl
    have bb : ∀ j : Int, 0 ≤ j → j < 3 → ((0 : Int) ≤ j ∧ j < (xn (xnw (xwr t2 r 5 (some z)) 14 3) ar : Int)) ∧ ((0 : Int) ≤ j ∧ j < (xn (xnw (xwr t2 r 5 (some z)) 14 3) (xz (xwr t2 r 5 (some z))) : Int)) := fun j a c => ⟨⟨a, by omega⟩, ⟨a, by rw [n3']; exact c⟩⟩
    have nRz : ar ≠ xz (xwr t2 r 5 (some z)) := by omega
    refine ⟨(bb 0 (by decide) (by decide)).1, (bb 0 (by decide) (by decide)).2, fun M5 e5 => ⟨(bb 1 (by decide) (by decide)).1, (bb 1 (by decide) (by decide)).2, fun M6 e6 => ⟨(bb 2 (by decide) (by decide)).1, (bb 2 (by decide) (by decide)).2, fun M7 e7 => ?_⟩⟩⟩
    have c5 : M5 = xw (xw0 M2 (xz (xwr t2 r 5 (some z)))) (xz (xwr t2 r 5 (some z))) 0 v0 := by rw [e5, xw0_B nRz, w0]
    have c6 : M6 = xw M5 (xz (xwr t2 r 5 (some z))) 1 (1 + w1) := by rw [e6, c5, xw_B nRz, xw0_B nRz, w1']
    have c7 : M7 = xw M6 (xz (xwr t2 r 5 (some z))) 2 (1 + w2) := by rw [e7, c6, xw_B nRz, c5, xw_B nRz, xw0_B nRz, w2']
    have f7 : rFr (fun c => c = rn) (xwr t2 r 5 (some z)) M2 (xnw (xwr t2 r 5 (some z)) 14 3) M7 := by
      rw [c7, c6, c5]
      exact rFr_w (rFr_w (rFr_w (rFr_n (rFr_refl hl2)) (Or.inl d2)) (Or.inl d2)) (Or.inl d2)
    have hE7 := rEv_fr hE2 (rFr_mono f7 (fun c hc => Or.inl hc))
    have hR7 := rRc_fr hR2 f7 (fun c pc e => by have : r ≤ c := pc; omega)
    have q0' : M7 (xz (xwr t2 r 5 (some z))) 0 = v0 := by rw [c7, xw_j (by decide), c6, xw_j (by decide), c5]; exact xw_s
    have q1' : M7 (xz (xwr t2 r 5 (some z))) 1 = 1 + w1 := by rw [c7, xw_j (by decide), c6]; exact xw_s
    have q2' : M7 (xz (xwr t2 r 5 (some z))) 2 = 1 + w2 := by rw [c7]; exact xw_s
    have l3 : (rLt 4).length = 6 := by decide
    have l3' : (xSl 4).toNat = 6 := by decide
    have st := rSt_coupon (u := ((0 : Int), (0 : Int), (0 : Int))) hI (by omega) (⟨va0, by omega⟩ : 0 ≤ v0 ∧ v0 < yS A 2) (⟨by omega, by omega⟩ : 1 ≤ 1 + w1 ∧ 1 + w1 ≤ 9999) (⟨by omega, by omega⟩ : 1 ≤ 1 + w2 ∧ 1 + w2 ≤ 9999)
    have hI2 := zI_co hI (by omega) (⟨va0, by omega⟩ : 0 ≤ v0 ∧ v0 < yS A 2) (⟨by omega, by omega⟩ : 1 ≤ 1 + w1 ∧ 1 + w1 ≤ 9999) (⟨by omega, by omega⟩ : 1 ≤ 1 + w2 ∧ 1 + w2 ≤ 9999)
    refine s_wrs (V := [v0, 1 + w1, 1 + w2]) hF hE7 hR7 (by decide) (Nat.le_of_lt r2) n3' (by show 3 ≤ 8; decide) (fun i v hv => v3get (p0 := True) (p1 := True) (p2 := True) ⟨q0', by omega⟩ ⟨q1', by omega⟩ ⟨q2', by omega⟩ hv) (by show T.length + (xSl 4).toNat + 5 * 3 + 1 ≤ 680; omega) (fun M8 hE8 hR8 _ => ⟨⟨by omega, by omega⟩, ?_⟩)
    rw [show ((d + 1 : Nat) : Int) + (-1) = (d : Int) by omega]
    have ln := ln3 (s := 4) (a := v0) (b := 1 + w1) (c := 1 + w2) (by rw [l3]; decide)
    exact ih k _ _ M8 _ (m + 1) (zCo A v0 (1 + w1) (1 + w2)) (by omega) (Or.inr (by omega)) (by omega) ⟨hE8, ⟨σ', RA, cl', hR8⟩, rTx0_s hT (by omega) st hI2 rfl rfl⟩ (by omega) h1 h2 (by show (yC A ++ [((v0, 1 + w1, 1 + w2, 0) : yCo)]).length + d ≤ 6; omega) h5 (by rw [List.length_append]; omega)
end RLP2
