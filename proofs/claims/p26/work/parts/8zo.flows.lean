/-! THE ROAD IS MADE: flows -/
section RLF
variable {x bu rn r n F m N j : Nat} {G : xGx} {A0 A : yA} {H : List yA} {t t' : xTh} {M M' : xMe} {T L : List Int} {u : Int × Int × Int} {σ : Nat → Int} {RA : Int → Nat} {cl : List Nat} {Sf : Int → Int} {C : List yCo} {K V : List Int} {n1 n2 n3 n4 q : Int}
theorem rWr_n : ∀ (V : List Int) (j : Nat) (A : yA), ¬ (37 + 8 * (N : Int) + (j : Int) ≤ q ∧ q < 37 + 8 * (N : Int) + (j : Int) + (V.length : Int)) → yS (rWr N j V A) q = yS A q
  | [], _, _, _ => rfl
  | v :: V, j, A, h => by
    show yS (rWr N (j + 1) V (yw A (37 + 8 * (N : Int) + (j : Int)) v)) q = _
    rw [List.length_cons] at h
    rw [rWr_n V (j + 1) _ (by omega)]
    exact yup_n (by omega)
theorem rWr_v : ∀ (V : List Int) (j : Nat) (A : yA) (i : Nat) (v : Int), V[i]? = some v → yS (rWr N j V A) (37 + 8 * (N : Int) + (j : Int) + (i : Int)) = v
  | [], _, _, _, _, h => by cases h
  | w :: V, j, A, 0, v, h => by
    have e : w = v := by simpa using h
    subst e
    show yS (rWr N (j + 1) V (yw A (37 + 8 * (N : Int) + (j : Int)) w)) _ = _
    rw [rWr_n V (j + 1) _ (by omega)]
    show yup (yS A) _ w _ = w
    rw [show 37 + 8 * (N : Int) + (j : Int) + ((0 : Nat) : Int) = 37 + 8 * (N : Int) + (j : Int) by omega]
    exact yup_s
  | w :: V, j, A, i + 1, v, h => by
    have h' : V[i]? = some v := by simpa using h
    have g := rWr_v V (j + 1) (yw A (37 + 8 * (N : Int) + (j : Int)) w) i v h'
    rw [show 37 + 8 * (N : Int) + ((j + 1 : Nat) : Int) + (i : Int) = 37 + 8 * (N : Int) + (j : Int) + ((i + 1 : Nat) : Int) by omega] at g
    exact g
theorem rWr_A : ∀ (V : List Int) (j : Nat) (A : yA), yQ (rWr N j V A) = yQ A ∧ yC (rWr N j V A) = yC A ∧ yP (rWr N j V A) = yP A ∧ yK (rWr N j V A) = yK A
  | [], _, _ => ⟨rfl, rfl, rfl, rfl⟩
  | v :: V, j, A => rWr_A V (j + 1) (yw A (37 + 8 * (N : Int) + (j : Int)) v)
theorem rWr_I : ∀ (V : List Int) (j : Nat) (A : yA), zI A → zRp N j A → j + V.length ≤ 4 → (∀ v ∈ V, 0 ≤ v ∧ v < yS A 1) → zI (rWr N j V A) ∧ zRp N (j + V.length) (rWr N j V A)
  | [], _, _, h, g, _, _ => ⟨h, g⟩
  | v :: V, j, A, h, g, hl, hv => by
    have l : (v :: V).length = V.length + 1 := rfl
    rw [l] at hl
    have e1 : yS (yw A (37 + 8 * (N : Int) + (j : Int)) v) 1 = yS A 1 := yup_n (by omega)
    have := rWr_I V (j + 1) (yw A (37 + 8 * (N : Int) + (j : Int)) v) (zI_rt h g.1 g.2.1 (by omega)) (zRp_w g (by omega) (hv v List.mem_cons_self)) (by omega) (fun w hw => by rw [e1]; exact hv w (List.mem_cons_of_mem _ hw))
    rw [l, show j + (V.length + 1) = j + 1 + V.length by omega]
    exact this
/-- a route of l gates from the first one on -/
def rRt (f g : Int) (l : Nat) : List Int := (List.range l).map (fun (k : Nat) => (f + (k : Int)) % g)
theorem rRt_get {f g : Int} {l i : Nat} (h : i < l) : (rRt f g l)[i]? = some ((f + (i : Int)) % g) := by
  unfold rRt; rw [List.getElem?_map, List.getElem?_range h]; rfl
theorem rRt_len {f g : Int} {l : Nat} : (rRt f g l).length = l := by unfold rRt; rw [List.length_map, List.length_range]
theorem rRt_in {f g : Int} {l : Nat} (hg : 0 < g) : ∀ v ∈ rRt f g l, 0 ≤ v ∧ v < g := fun v hv => by
  unfold rRt at hv
  obtain ⟨k, -, rfl⟩ := List.mem_map.mp hv
  exact ⟨Int.emod_nonneg _ (by omega), Int.emod_lt_of_pos _ hg⟩
theorem rRt_nd {f g : Int} {l : Nat} (hg : 0 < g) (hl : (l : Int) ≤ g) : (rRt f g l).Nodup := by
  unfold rRt
  rw [List.nodup_iff_pairwise_ne, List.pairwise_map]
  refine (List.nodup_range (n := l)).imp_of_mem (fun {a b} ha hb hab e => hab ?_)
  rw [List.mem_range] at ha hb
  have h1 : ((f + (a : Int)) - (f + (b : Int))) % g = 0 := Int.emod_eq_emod_iff_emod_sub_eq_zero.mp e
  rw [show (f + (a : Int)) - (f + (b : Int)) = (a : Int) - b by omega] at h1
  obtain ⟨k, hk⟩ := Int.dvd_of_emod_eq_zero h1
  have : k = 0 := by
    by_cases k1 : 1 ≤ k
    · have := Int.mul_le_mul_of_nonneg_left k1 (Int.le_of_lt hg); omega
    · by_cases k2 : k ≤ -1
      · have := Int.mul_le_mul_of_nonneg_left k2 (Int.le_of_lt hg); omega
      · omega
  rw [this, Int.mul_zero] at hk
  omega
set_option maxHeartbeats 8000000 in
theorem g_166 {Q : Option Nat → xTh → xMe → Prop} {K351 : Nat → Nat → Nat → Nat → Nat → Int → xTh → xMe → Prop} {N0 : Nat} {gg : Int} (hF : 1001 ≤ F) (hgg : 0 ≤ gg ∧ gg ≤ 3) (hq : ∀ (n : Nat) t M T (m : Nat) A σ RA cl, N0 ≤ n → rEv x bu rn r A0 H t M T → rRc (rUp r) σ RA cl t M r (yS A) (yC A) [-5] (yS A 1) (yS A 2) (yS A 2) 0 → rTx0 T m A (0, 0, 0) → m ≤ 10 → yS A 1 = gg → yS A 2 ≤ 3 → yS A 3 = 0 → yC A = [] → yK A = [] → T.length ≤ 200 → K351 n x bu rn r gg t M) : ∀ (d k n : Nat) (t : xTh) (M : xMe) (T : List Int) (m : Nat) (A : yA) (σ : Nat → Int) (RA : Int → Nat) (cl : List Nat), d < k → (d = 0 ∨ 0 < gg) → N0 + 10 * d ≤ n → rEv x bu rn r A0 H t M T → rRc (rUp r) σ RA cl t M r (yS A) (yC A) [-5] (yS A 1) (yS A 2) (yS A 2) 0 → rTx0 T m A (0, 0, 0) → m + d ≤ 10 → yS A 1 = gg → yS A 2 + d ≤ 3 → yS A 3 = 0 → yC A = [] → yK A = [] → T.length + 40 * d ≤ 200 → p_L_randomRoad_166 F G Q K351 k n x bu rn r gg (d : Int) t M := by
  intro d
  induction d with
  | zero =>
    intro k n t M T m A σ RA cl hk _ hn hE hR hT hm h1 h2 h3 h4 h5 hl
    obtain ⟨k, rfl⟩ : ∃ k', k = k' + 1 := ⟨k - 1, by omega⟩
    unfold p_L_randomRoad_166
    exact ⟨fun _ => hq n t M T m A σ RA cl (by omega) hE hR hT (by omega) h1 (by omega) h3 h4 h5 (by omega), fun q => absurd q (by decide)⟩
  | succ d ih =>
    intro k n t M T m A σ RA cl hk hd0 hn hE hR hT hm h1 h2 h3 h4 h5 hl
    obtain ⟨k, rfl⟩ : ∃ k', k = k' + 1 := ⟨k - 1, by omega⟩
    obtain ⟨s1, s2, s3, s4, s5, s6⟩ := id hE.2.2.2.2.1
    have hlv := hE.2.2.1
    have hI := hT.2.1
    obtain ⟨n1, n2, n3, n4, n5, n6⟩ := id hI.1
    have g0 : 0 < gg := by omega
    obtain ⟨N, hN⟩ : ∃ N : Nat, yS A 2 = (N : Int) := ⟨(yS A 2).toNat, by omega⟩
    have hz7 := hI.2.2.2.2.2.2.1 (N : Int) (by omega) (by omega)
    have h33 : ∀ i, 0 ≤ i → i < yS A 2 → yS A (33 + 8 * i) ≤ 4 := fun i i0 i1 => (hI.2.2.1 i i0 i1).2.1
    unfold p_L_randomRoad_166
    refine ⟨fun q => absurd q (by omega), fun _ => ?_⟩
    refine s_bel (by omega) (by omega) hlv (fun fst Ma fa0 fa1 ffa efa => ?_)
    have hEa := rEv_fr hE (rFr_mono ffa (fun c hc => Or.inl hc))
    have hRa := rRc_fr hR ffa (fun c pc e => by have : r ≤ c := pc; omega)
    refine s_bel (by omega) (by omega) hlv (fun ln Mb lb0 lb1 ffb efb => ?_)
    have hEb := rEv_fr hEa (rFr_mono ffb (fun c hc => Or.inl hc))
    have hRb := rRc_fr hRa ffb (fun c pc e => by have : r ≤ c := pc; omega)
    clear hEa hRa ffa efa ffb efb hE hR
    obtain ⟨⟨⟨kr, pr⟩, -⟩, ⟨-, -, ⟨⟨b3, x1, x2, x3, x4, x5⟩, x6⟩, -⟩, -⟩ := id hRb
    have hrz : r < xz t := hlv r (by omega)
    have dz : 22 < xk t (xz t) := xlive_z hlv
    obtain ⟨l, hl1⟩ : ∃ l : Nat, 1 + ln = (l : Int) := ⟨(1 + ln).toNat, by omega⟩
    rw [hl1, Int.toNat_natCast]
    refine ⟨⟨by omega, by omega⟩, ⟨by omega, by omega⟩, by omega, fun a t1 M1 ea et eM => ?_⟩
    subst ea et eM
    have f0 : rFr (fun c => c = rn) t Mb (xnw t 14 l) (xw0 Mb (xz t)) := rFr_n (rFr_refl hlv)
    have nx : xn (xnw t 14 l) (xz t) = l := if_pos rfl
    have arn : xz t ≠ rn := by omega
    have Ve := rRt_len (f := fst) (g := gg) (l := l)
    have hVin := rRt_in (f := fst) (l := l) g0
    -- behind the flow's thrift
    have c262 : ∀ (n' : Nat) (t5 : xTh) (M5 : xMe) (b2 ar : Nat) (th : Int) (σ5 : Nat → Int) (RA5 : Int → Nat), n ≤ n' + 5 → 0 ≤ th ∧ th < 7 → rEv x bu rn r A0 H t5 M5 T → rRc (rUp r) σ5 RA5 cl t5 M5 r (yup (yS (rWr N 0 (rRt fst gg l) A)) (33 + 8 * (N : Int)) (l : Int)) (yC A) [-5] (yS A 1) (N : Int) ((N : Int) + 1) 0 → RA5 (37 + 8 * (N : Int)) = xz t → xr t5 r 2 = some b2 → ∀ (t6 : xTh) (M6 : xMe), 22 < xk t5 ar → r ≤ ar → xk t6 ar = 14 → xn t6 ar = 3 → rFr (fun c => c = rn) t5 M5 t6 M6 → p_L_randomRoad_262 F G Q (p_L_randomRoad_166 F G Q K351 k) K351 n' x bu rn r gg ((d + 1 : Nat) : Int) (xz t) th 0 ar ar b2 r t6 M6 := fun n' t5 M5 b2 ar th σ5 RA5 hn' hth hE5 hR5 hRA5 hb2 t6 M6 dar rar kar nar f6 => by
      have bd : ∀ j : Int, 0 ≤ j → j < 3 → (0 : Int) ≤ j ∧ j < (xn t6 ar : Int) := fun j a c => ⟨a, by rw [nar]; exact c⟩
      have hl5 := hE5.2.2.1
      have hW := rWr_I (rRt fst gg l) 0 A hI ⟨hN, by omega, by omega, fun j hj => absurd hj (by omega)⟩ (by rw [Ve]; omega) (fun v hv => by rw [h1]; exact hVin v hv)
      rw [Ve] at hW
      obtain ⟨hWI, hWR⟩ := hW
      obtain ⟨wA1, wA2, wA3, wA4⟩ := rWr_A (N := N) (rRt fst gg l) 0 A
      have wn : ∀ q, ¬ (37 + 8 * (N : Int) ≤ q ∧ q < 37 + 8 * (N : Int) + (l : Int)) → yS (rWr N 0 (rRt fst gg l) A) q = yS A q := fun q hq => rWr_n _ 0 A (by rw [Ve]; omega)
      have hF33 := zFl_33 (A := rWr N 0 (rRt fst gg l) A) (N := N) (many := l) (th := th)
      have hF34 := zFl_34 (A := rWr N 0 (rRt fst gg l) A) (N := N) (many := l) (th := th)
      unfold p_L_randomRoad_262
      refine ⟨bd 0 (by decide) (by decide), fun M7 e7 => ⟨bd 1 (by decide) (by decide), fun M8 e8 => ⟨bd 2 (by decide) (by decide), fun M9 e9 => ⟨1, by omega, ?_⟩⟩⟩⟩
      have f9 : rFr (fun c => c = rn) t5 M5 t6 M9 := by rw [e9, e8, e7]; exact rFr_w (rFr_w (rFr_w f6 (Or.inl dar)) (Or.inl dar)) (Or.inl dar)
      have k0 : M9 ar 0 = th := by rw [e9, xw_j (by decide), e8, xw_j (by decide), e7]; exact xw_s
      have k1 : M9 ar 1 = 0 := by rw [e9, xw_j (by decide), e8]; exact xw_s
      have k2 : M9 ar 2 = 0 := by rw [e9]; exact xw_s
      refine s_w2 (Sf' := yS (zFl (rWr N 0 (rRt fst gg l) A) N l th)) (by omega) (Nat.le_refl 1) hR5 (rUp_D (by have := hR5.1.1.1; omega)) hl5 (by rw [((f9.2 r (by have := hR5.1.1.1; omega)).2.2.1 (fun e => by omega)).2]; exact hb2) f9 (fun c pc e => by have : r ≤ c := pc; omega) (by omega) (by omega) (by omega) (by omega) (by omega) (fun i i0 i1 => ?_) dar rar kar (by rw [nar]; rfl) (fun j j0 j1 => ?_) (fun q q1 q2 => ?_) (fun z t7 M10 σ' RA' hR7 f7 hRn hRa t8 et8 => ?_)
      · by_cases e : i = (N : Int)
        · rw [e, yup_s]; omega
        · rw [yup_n (by omega), wn _ (by omega)]; exact h33 i i0 (by omega)
      · have : j = 0 ∨ j = 1 ∨ j = 2 := by omega
        rcases this with rfl | rfl | rfl
        · rw [Int.add_zero, hF34]; exact k0
        · rw [show 34 + 8 * (N : Int) + 1 = 35 + 8 * (N : Int) by omega, zFl_n (by omega) (by omega) (by omega), wn _ (by omega), hz7.1]; exact k1
        · rw [show 34 + 8 * (N : Int) + 2 = 36 + 8 * (N : Int) by omega, zFl_n (by omega) (by omega) (by omega), wn _ (by omega), hz7.2.1]; exact k2
      · by_cases e : q = 33 + 8 * (N : Int)
        · rw [e, hF33, yup_s]
        · rw [zFl_n (by omega) e (by omega), yup_n e]
      subst et8
      have hE8 : rEv x bu rn r A0 H (xwr t7 r 2 (some z)) M10 T := rEv_fr hE5 f7
      obtain ⟨-, ⟨-, ⟨⟨bf, y1, y2, y3, y4, y5⟩, y6⟩, ⟨-, w6⟩, -⟩, -⟩ := id hR7
      have hy5 := y5 (N : Int) (by omega) (by omega)
      obtain ⟨z1, z2, z3, z4, z5⟩ := y6 (N : Int) (by omega) (by omega)
      obtain ⟨v1, v2, v3, v4, v5⟩ := w6 (N : Int) (by omega) (by omega)
      rw [hRn _ (by omega), hRA5] at v1 v2 v3 v4 v5
      have v4' : (xn (xwr t7 r 2 (some z)) (xz t) : Int) = (l : Int) := by rw [← hF33]; exact v4
      have w0 := z5 0 (by decide) (show (0 : Int) < 3 by decide)
      rw [Int.add_zero, hF34] at w0
      have l2 : (xSl 2).toNat = 4 := by decide
      have l21 : (xSl 21).toNat = 7 := by decide
      have e20 : rLt 20 = [59] := by decide
      have lN := rNs_len (rRt fst gg l)
      rw [Ve] at lN
      have l2' : (rLt 2).length = 4 := by decide
      refine ⟨0, Nat.zero_le _, s_writeNumbers (V := rRt fst gg l) hF hE8.2.1 hE8.1.2.2 (rEv_b hE8) (s := 2) (by decide) ⟨by have : r ≤ xz t := v2; omega, by omega, by omega⟩ (by rw [Ve]; omega) (by rw [Ve]; omega) (fun i v hv => ?_) (by rw [Ve]; omega) (fun M11 h11 e11 => ?_)⟩
      · have il : i < l := by have := (List.getElem?_eq_some_iff.mp hv).1; rw [Ve] at this; exact this
        have g := v5 (i : Int) (by omega) (by show (i : Int) < yS (zFl (rWr N 0 (rRt fst gg l) A) N l th) (33 + 8 * (N : Int)); rw [hF33]; omega)
        rw [Int.toNat_natCast, zFl_n (by omega) (by omega) (by omega)] at g
        have g2 := rWr_v (N := N) (rRt fst gg l) 0 A i v hv
        rw [show 37 + 8 * (N : Int) + ((0 : Nat) : Int) + (i : Int) = 37 + 8 * (N : Int) + (i : Int) by omega] at g2
        have hin := hVin v (List.mem_of_getElem? hv)
        exact ⟨g.trans g2, by omega, by omega⟩
      have hE11 := rEv_wr hE8 h11 e11
      have hR11 := rRc_wr hR7 hE8.2.2.2.2.1 hE8.2.2.1 e11
      -- the statement's end
      have done : ∀ (n9 : Nat) (t9 : xTh) (M12 : xMe) (w : Int), (w = 0 → th = 0) → n ≤ n9 + 8 → rEv x bu rn r A0 H t9 M12 (T ++ (rLt 2 ++ rNs (rRt fst gg l)) ++ rTh w th) → rRc (rUp r) σ' RA' cl t9 M12 r (yS (zFl (rWr N 0 (rRt fst gg l) A) N l th)) (yC A) [-5] (yS A 1) ((N : Int) + 1) ((N : Int) + 1) 0 → ∃ k342 : Nat, k342 ≤ n9 ∧ p_L_write F G k342 t9 x bu (G.2.2.2.1 20) M12 (fun t342 M342 => (xR (((d + 1 : Nat) : Int) + (-1))) ∧ p_L_randomRoad_166 F G Q K351 k (n9 - k342) x bu rn r gg (((d + 1 : Nat) : Int) + (-1)) t342 M342) := fun n9 t9 M12 w hw0 hn9 hE12 hR12 => by
        have lth : (rTh w th).length ≤ 12 := by
          unfold rTh
          split
          · exact Nat.zero_le _
          · have := rNs_len [th]
            have c : (rLt 21).length = 7 := by decide
            rw [List.length_append, c]
            have a' : (rNs [th]).length ≤ 5 := this
            omega
        have len : (T ++ (rLt 2 ++ rNs (rRt fst gg l)) ++ rTh w th).length ≤ T.length + 31 := by
          rw [List.length_append, List.length_append, List.length_append, l2']; omega
        refine ⟨0, Nat.zero_le _, s_writeL hF hE12.2.1 hE12.1.2.2 (rEv_b hE12) (s := 20) (by decide) (by have h9 : (xSl 20).toNat = 1 := (by decide); omega) (fun M13 h13 e13 => ⟨⟨by omega, by omega⟩, ?_⟩)⟩
        have hE13 := rEv_wr hE12 h13 e13
        have hR13 := rRc_wr hR12 hE12.2.2.2.2.1 hE12.2.2.1 e13
        rw [e20] at hE13
        have eT : T ++ (rLt 2 ++ rNs (rRt fst gg l)) ++ rTh w th ++ [59] = T ++ (rLt 2 ++ rNs (rRt fst gg l) ++ rTh w th ++ [59]) := by simp
        rw [eT] at hE13
        have st := rSt_flow (A := A) (u := ((0 : Int), (0 : Int), (0 : Int))) (N := N) (V := rRt fst gg l) (w := w) (th := th) hI hN (by omega) (by rw [Ve]; omega) (rRt_nd g0 (by omega)) (fun v hv => by rw [h1]; exact hVin v hv) (by omega) hw0
        rw [Ve] at st
        have hI2 : zI (zFl (rWr N 0 (rRt fst gg l) A) N l th) := zI_fl hWI (by rw [Nat.zero_add] at hWR; exact hWR) (by omega) (by omega)
        have e2F : yS (zFl (rWr N 0 (rRt fst gg l) A) N l th) 2 = (N : Int) + 1 := zFl_2
        have e1F : yS (zFl (rWr N 0 (rRt fst gg l) A) N l th) 1 = yS A 1 := (zFl_n (by omega) (by omega) (by omega)).trans (wn _ (by omega))
        have e3F : yS (zFl (rWr N 0 (rRt fst gg l) A) N l th) 3 = yS A 3 := (zFl_n (by omega) (by omega) (by omega)).trans (wn _ (by omega))
        have eCF : yC (zFl (rWr N 0 (rRt fst gg l) A) N l th) = yC A := wA2
        have eKF : yK (zFl (rWr N 0 (rRt fst gg l) A) N l th) = yK A := wA4
        rw [show ((d + 1 : Nat) : Int) + (-1) = (d : Int) by omega]
        refine ih k _ t9 M13 _ (m + 1) (zFl (rWr N 0 (rRt fst gg l) A) N l th) σ' RA' cl (by omega) (Or.inr g0) (by omega) hE13 (by rw [e2F, e1F, eCF]; exact hR13) (rTx0_s hT (by omega) st hI2 eKF rfl) (by omega) (by rw [e1F]; exact h1) (by omega) (by rw [e3F]; exact h3) (by rw [eCF]; exact h4) (by rw [eKF]; exact h5) ?_
        have := hE13.2.1.2.1
        rw [← eT, List.length_append]
        show _ + 1 + _ ≤ _
        omega
      -- the thrift is written
      have thr : ∀ (n9 : Nat) (M12 : xMe), n ≤ n9 + 7 → rEv x bu rn r A0 H (xwr t7 r 2 (some z)) M12 (T ++ (rLt 2 ++ rNs (rRt fst gg l))) → rRc (rUp r) σ' RA' cl (xwr t7 r 2 (some z)) M12 r (yS (zFl (rWr N 0 (rRt fst gg l) A) N l th)) (yC A) [-5] (yS A 1) ((N : Int) + 1) ((N : Int) + 1) 0 → (1 ≤ n9) ∧ (∀ (a316 : Nat) (t316 : xTh) (M316 : xMe), a316 = xz (xwr t7 r 2 (some z)) → t316 = xnw (xwr t7 r 2 (some z)) 14 1 → M316 = xw0 M12 a316 → (∃ b321 : Nat, xr t316 r 2 = some b321 ∧ xk t316 b321 = 17 ∧ (xR ((xn t316 b321 : Nat) : Int)) ∧ (xR ((((xn t316 b321 : Nat) : Int)) - 1)) ∧ ((0 : Int) ≤ ((((xn t316 b321 : Nat) : Int)) - 1) ∧ ((((xn t316 b321 : Nat) : Int)) - 1) < (xn t316 b321 : Int)) ∧ (∃ b331 : Nat, xr t316 b321 ((((xn t316 b321 : Nat) : Int)) - 1).toNat = some b331 ∧ xk t316 b331 = 14 ∧ ((0 : Int) ≤ 0 ∧ 0 < (xn t316 b331 : Int)) ∧ ((0 : Int) ≤ 0 ∧ 0 < (xn t316 a316 : Int)) ∧ (∀ M334 : xMe, M334 = xw M316 a316 0 (M316 b331 0) → (∃ k335 : Nat, k335 ≤ (n9 - 1) ∧ p_L_writeNumbers F G k335 t316 x bu (G.2.2.2.1 21) a316 M334 (fun t335 M335 => (∃ k342 : Nat, k342 ≤ ((n9 - 1) - k335) ∧ p_L_write F G k342 t335 x bu (G.2.2.2.1 20) M335 (fun t342 M342 => (xR (((d + 1 : Nat) : Int) + (-1))) ∧ p_L_randomRoad_166 F G Q K351 k ((((n9 - 1) - k335) - k342)) x bu rn r gg (((d + 1 : Nat) : Int) + (-1)) t342 M342)))))))) := fun n9 M12 hn9 hE12 hR12 => by
        have hl12 := hE12.2.2.1
        have d12 : 22 < xk (xwr t7 r 2 (some z)) (xz (xwr t7 r 2 (some z))) := xlive_z hl12
        have kr12 := hR12.1.1.1
        have r12 : r < xz (xwr t7 r 2 (some z)) := hl12 r (by omega)
        refine ⟨by omega, fun a3 t3 M3 ea et eM => ?_⟩
        subst ea et eM
        have f3 : rFr (fun c => c = rn) (xwr t7 r 2 (some z)) M12 (xnw (xwr t7 r 2 (some z)) 14 1) (xw0 M12 (xz (xwr t7 r 2 (some z)))) := rFr_n (rFr_refl hl12)
        have hR3 := rRc_fr hR12 f3 (fun c pc e => by have : r ≤ c := pc; omega)
        obtain ⟨-, ⟨-, ⟨⟨bg, y1, y2, y3, y4, y5⟩, y6⟩, -, -⟩, -⟩ := id hR3
        have hy5 := y5 (N : Int) (by omega) (by omega)
        obtain ⟨z1, z2, z3, z4, z5⟩ := y6 (N : Int) (by omega) (by omega)
        have z4' : (xn (xnw (xwr t7 r 2 (some z)) 14 1) (RA' (34 + 8 * (N : Int))) : Int) = 3 := z4
        have w0 := z5 0 (by decide) (show (0 : Int) < 3 by decide)
        rw [Int.add_zero, hF34] at w0
        have n3' : xn (xnw (xwr t7 r 2 (some z)) 14 1) (xz (xwr t7 r 2 (some z))) = 1 := if_pos rfl
        refine ⟨bg, y1, y3, ⟨by omega, by omega⟩, ⟨by omega, by omega⟩, ⟨by omega, by omega⟩, RA' (34 + 8 * (N : Int)), ?_, z3, ⟨by omega, by omega⟩, ⟨by omega, by rw [n3']; decide⟩, fun M4 e4 => ?_⟩
        · rw [show (((xn (xnw (xwr t7 r 2 (some z)) 14 1) bg : Nat) : Int) - 1).toNat = (N : Int).toNat by omega]; exact hy5
        have w0' : xw0 M12 (xz (xwr t7 r 2 (some z))) (RA' (34 + 8 * (N : Int))) 0 = th := w0
        rw [w0'] at e4
        have f4 : rFr (fun c => c = rn) (xwr t7 r 2 (some z)) M12 (xnw (xwr t7 r 2 (some z)) 14 1) M4 := by rw [e4]; exact rFr_w f3 (Or.inl d12)
        have hE4 := rEv_fr hE12 (rFr_mono f4 (fun c hc => Or.inl hc))
        have hR4 := rRc_fr hR12 f4 (fun c pc e => by have : r ≤ c := pc; omega)
        refine ⟨0, Nat.zero_le _, s_writeNumbers (V := [th]) hF hE4.2.1 hE4.1.2.2 (rEv_b hE4) (s := 21) (by decide) ⟨by omega, by omega, by omega⟩ n3' (by show 1 ≤ 8; decide) (fun i v hv => ?_) ?_ (fun M5' h5' e5' => ?_)⟩
        · rcases i with _ | i
          · cases hv
            exact ⟨by rw [e4]; exact xw_s, by omega, by omega⟩
          · cases hv
        · show (T ++ (rLt 2 ++ rNs (rRt fst gg l))).length + (xSl 21).toNat + 5 * 1 ≤ 680
          rw [List.length_append, List.length_append, l2']; omega
        have hE5' := rEv_wr hE4 h5' e5'
        have hR5' := rRc_wr hR4 hE4.2.2.2.2.1 hE4.2.2.1 e5'
        exact done _ _ M5' 1 (fun q => absurd q (by decide)) (by omega) (by unfold rTh; rw [if_neg (by decide)]; exact hE5') hR5'
      obtain ⟨-, ⟨-, ⟨⟨bg, y1', y2', y3', y4', y5'⟩, y6'⟩, -, -⟩, -⟩ := id hR11
      have hy5' := y5' (N : Int) (by omega) (by omega)
      obtain ⟨z1', z2', z3', z4', z5'⟩ := y6' (N : Int) (by omega) (by omega)
      have z4'' : (xn (xwr t7 r 2 (some z)) (RA' (34 + 8 * (N : Int))) : Int) = 3 := z4'
      have w0' := z5' 0 (by decide) (show (0 : Int) < 3 by decide)
      rw [Int.add_zero, hF34] at w0'
      have w0'' : M11 (RA' (34 + 8 * (N : Int))) 0 = th := w0'
      refine ⟨bg, y1', y3', ⟨by omega, by omega⟩, ⟨by omega, by omega⟩, ⟨by omega, by omega⟩, RA' (34 + 8 * (N : Int)), ?_, z3', ⟨by omega, by omega⟩, fun _ => ?_, fun hth0 => ?_⟩
      · rw [show (((xn (xwr t7 r 2 (some z)) bg : Nat) : Int) - 1).toNat = (N : Int).toNat by omega]; exact hy5'
      · exact thr _ M11 (by omega) hE11 hR11
      · rw [w0''] at hth0
        refine s_bel (by decide) (by decide) hE11.2.2.1 (fun w M12 _ _ f12 e12 => ?_)
        have hE12 := rEv_fr hE11 (rFr_mono f12 (fun c hc => Or.inl hc))
        have hR12 := rRc_fr hR11 f12 (fun c pc e => by have : r ≤ c := pc; omega)
        refine ⟨fun _ => ?_, fun _ => thr _ M12 (by omega) hE12 hR12⟩
        exact done _ _ M12 0 (fun _ => by omega) (by omega) (by unfold rTh; rw [if_pos rfl, List.append_nil]; exact hE12) hR12
    -- the route's array, the flow's row
    have c221 : ∀ (n' : Nat) (M9 : xMe), n ≤ n' + 1 → rFr (fun c => c = rn) t Mb (xnw t 14 l) M9 → (∀ j : Nat, j < l → M9 (xz t) j = (fst + (j : Int)) % gg) → p_L_randomRoad_221 F G Q (p_L_randomRoad_166 F G Q K351 k) K351 n' x bu rn r gg ((d + 1 : Nat) : Int) (xz t) (xnw t 14 l) M9 := fun n' M9 hn' f9 hv9 => by
      have er := ((f9.2 r (by omega)).2.2.1 (fun e => by omega)).2
      unfold p_L_randomRoad_221
      refine ⟨b3, by rw [er]; exact x1, (f9.2 b3 (by omega)).1.trans x3, 1, by omega, ?_⟩
      have hRb' : rRc (rUp r) σ RA cl t Mb r (yS A) (yC A) [-5] (yS A 1) (N : Int) (N : Int) 0 := by rw [← hN]; exact hRb
      have wn : ∀ q, ¬ (37 + 8 * (N : Int) ≤ q ∧ q < 37 + 8 * (N : Int) + (l : Int)) → yS (rWr N 0 (rRt fst gg l) A) q = yS A q := fun q hq => rWr_n _ 0 A (by rw [Ve]; omega)
      have s33 : yup (yS (rWr N 0 (rRt fst gg l) A)) (33 + 8 * (N : Int)) (l : Int) (33 + 8 * (N : Int)) = (l : Int) := yup_s
      refine s_w3 (Sf' := yup (yS (rWr N 0 (rRt fst gg l) A)) (33 + 8 * (N : Int)) (l : Int)) (by omega) (Nat.le_refl 1) hRb' (rUp_D (by omega)) hlv (by rw [er]; exact x1) f9 (fun c pc e => by have : r ≤ c := pc; omega) (by omega) (by omega) (by omega) (by omega) (by omega) (fun i i0 i1 => h33 i i0 (by omega)) dz (Nat.le_of_lt hrz) (if_pos rfl) (by rw [s33, nx]) (by rw [s33]; omega) (fun j j0 j1 => ?_) (fun q q1 q2 q3 => ?_) (fun z t2 M2 σ' RA' hR2 f2 hRn hRa t3 et => ?_)
      · rw [s33] at j1
        have j1' : j.toNat < l := by omega
        have g := rWr_v (N := N) (rRt fst gg l) 0 A j.toNat _ (rRt_get j1')
        rw [hv9 _ j1', yup_n (by omega), show 37 + 8 * (N : Int) + j = 37 + 8 * (N : Int) + ((0 : Nat) : Int) + ((j.toNat : Nat) : Int) by omega]
        exact g.symm
      · rw [yup_n q3, wn _ (by omega)]
      subst et
      have hE2 : rEv x bu rn r A0 H (xwr t2 r 3 (some z)) M2 T := rEv_fr hEb f2
      have hl2 := hE2.2.2.1
      have kr2 := hR2.1.1.1
      have r2 : r < xz (xwr t2 r 3 (some z)) := hl2 r (by omega)
      obtain ⟨-, ⟨-, ⟨⟨b2, y1, y2, y3, y4, y5⟩, y6⟩, -, -⟩, -⟩ := id hR2
      refine ⟨b2, y1, y3, by omega, fun a4 t4 M4 ea et eM => ?_⟩
      subst ea et eM
      have f4 : rFr (fun c => c = rn) (xwr t2 r 3 (some z)) M2 (xnw (xwr t2 r 3 (some z)) 14 3) (xw0 M2 (xz (xwr t2 r 3 (some z)))) := rFr_n (rFr_refl hl2)
      refine s_bel (by decide) (by decide) f4.1 (fun w M5 _ _ f5 _ => ⟨fun _ => ?_, fun _ => ?_⟩)
      · refine s_bel (by decide) (by decide) f4.1 (fun th M6 t0 t1 f6 _ => ?_)
        exact c262 _ _ M2 b2 _ th σ' RA' (by omega) ⟨t0, t1⟩ hE2 hR2 hRa y1 _ M6 (xlive_z hl2) (Nat.le_of_lt r2) (if_pos rfl) (if_pos rfl) (rFr_trans f4 (rFr_trans f5 f6))
      · exact c262 _ _ M2 b2 _ 0 σ' RA' (by omega) ⟨by decide, by decide⟩ hE2 hR2 hRa y1 _ M5 (xlive_z hl2) (Nat.le_of_lt r2) (if_pos rfl) (if_pos rfl) (rFr_trans f4 f5)
    -- the route's gates
    have lp : ∀ (d2 k2 n' i : Nat) (M9 : xMe), i + d2 = l → d2 < k2 → n ≤ n' + 1 → rFr (fun c => c = rn) t Mb (xnw t 14 l) M9 → (∀ j : Nat, j < i → M9 (xz t) j = (fst + (j : Int)) % gg) → p_L_randomRoad_194 F G Q (p_L_randomRoad_166 F G Q K351 k) (p_L_randomRoad_221 F G Q (p_L_randomRoad_166 F G Q K351 k) K351) K351 k2 n' x bu rn r gg ((d + 1 : Nat) : Int) fst (xz t) (i : Int) (xnw t 14 l) M9 := by
      intro d2
      induction d2 with
      | zero =>
        intro k2 n' i M9 hi hk2 hn' f9 hv9
        obtain ⟨k2, rfl⟩ : ∃ k', k2 = k' + 1 := ⟨k2 - 1, by omega⟩
        unfold p_L_randomRoad_194
        rw [nx]
        exact ⟨⟨by omega, by omega⟩, fun _ => c221 n' M9 hn' f9 (fun j hj => hv9 j (by omega)), fun q => absurd q (by omega)⟩
      | succ d2 ih2 =>
        intro k2 n' i M9 hi hk2 hn' f9 hv9
        obtain ⟨k2, rfl⟩ : ∃ k', k2 = k' + 1 := ⟨k2 - 1, by omega⟩
        have tm : Int.tmod (fst + (i : Int)) gg = (fst + (i : Int)) % gg := Int.tmod_eq_emod_of_nonneg (by omega)
        have m0 := Int.emod_nonneg (fst + (i : Int)) (show gg ≠ 0 by omega)
        have m1 := Int.emod_lt_of_pos (fst + (i : Int)) g0
        unfold p_L_randomRoad_194
        rw [nx, tm]
        refine ⟨⟨by omega, by omega⟩, fun q => absurd q (by omega), fun _ => ⟨⟨by omega, by omega⟩, ⟨by omega, by omega, by omega⟩, ⟨by omega, by omega⟩, fun M10 e10 => ⟨⟨by omega, by omega⟩, ?_⟩⟩⟩
        rw [Int.toNat_natCast] at e10
        rw [show (i : Int) + 1 = ((i + 1 : Nat) : Int) by omega]
        refine ih2 k2 n' (i + 1) M10 (by omega) (by omega) hn' (by rw [e10]; exact rFr_w f9 (Or.inl dz)) (fun j hj => ?_)
        by_cases e : j = i
        · subst e; rw [e10]; exact xw_s
        · rw [e10, xw_j e]; exact hv9 j (by omega)
    exact lp l F _ 0 _ (by omega) (by omega) (by omega) f0 (fun j hj => absurd hj (by omega))
end RLF
