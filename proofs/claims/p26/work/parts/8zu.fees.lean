/-! fee, refund -/
section RLY
variable {x bu rn r n F m N j : Nat} {G : xGx} {A0 A : yA} {H : List yA} {t t' : xTh} {M M' : xMe} {T L : List Int} {u : Int × Int × Int} {σ : Nat → Int} {RA : Int → Nat} {cl : List Nat} {K V : List Int} {S : Nat → Prop} {q : Nat}
set_option maxHeartbeats 8000000 in
theorem g_701 {Q : Option Nat → xTh → xMe → Prop} {N0 : Nat} {gg ff : Int} (hF : 1001 ≤ F) (hq : ∀ (n : Nat) t M T (m : Nat) A u K, N0 ≤ n → rMk x bu rn r A0 H K t M T m A u → K = yK (zFin A) → m ≤ 40 → yS A 1 = gg → yS A 2 = ff → T.length ≤ 640 → p_L_randomRoad_810 F G Q n x bu r gg ff t M) (hn : N0 + 210 ≤ n) (hMk : rMk x bu rn r A0 H [-5] t M T m A u) (hm : m ≤ 33) (h1 : yS A 1 = gg) (h2 : yS A 2 = ff) (hK : yK A = []) (hu : u.2.2 = 0) (hu1 : u.2.1 = 0) (hl : T.length ≤ 560) : p_L_randomRoad_701 F G Q n x bu rn r gg ff t M := by
  obtain ⟨hE, ⟨σ, RA, cl, hR⟩, hT⟩ := hMk
  obtain ⟨s1, s2, s3, s4, s5, s6⟩ := id hE.2.2.2.2.1
  have hlv := hE.2.2.1
  have hI := hT.2.1
  obtain ⟨n1, n2, n3, n4, n5, n6⟩ := id hI.1
  have kr := hR.1.1.1
  have hrz : r < xz t := hlv r (by omega)
  have dz : 22 < xk t (xz t) := xlive_z hlv
  have h4 : ∀ i, 0 ≤ i → i < yS A 2 → yS A (33 + 8 * i) ≤ 4 := fun i i0 i1 => (hI.2.2.1 i i0 i1).2.1
  unfold p_L_randomRoad_701
  refine s_bel (by decide) (by decide) hlv (fun w Ma _ _ fa _ => ?_)
  have hEa := rEv_fr hE (rFr_mono fa (fun c hc => Or.inl hc))
  have hRa := rRc_fr hR fa (fun c pc e => by have : r ≤ c := pc; omega)
  refine ⟨fun _ => g_762 hF hq (by omega) ⟨hEa, ⟨σ, RA, cl, hRa⟩, hT⟩ (by omega) h1 h2 hK hu (by omega), fun _ => ?_⟩
  refine s_bel (by decide) (by decide) hlv (fun v0 Mb v00 v01 fb _ Mc ec => ?_)
  have hEb := rEv_fr hEa (rFr_mono fb (fun c hc => Or.inl hc))
  have hRb := rRc_fr hRa fb (fun c pc e => by have : r ≤ c := pc; omega)
  have hRc := rRc_sc (fj := 11) (pl := 10) (v := v0) hRb (by omega) (by omega) (by omega) h4 (by simp)
  rw [← ec] at hRc
  have hEc : rEv x bu rn r A0 H t Mc T := by rw [ec]; exact rEv_fr hEb (rFr_w (rFr_refl hlv) (Or.inr (Or.inr (Nat.le_refl r))))
  refine s_bel (by decide) (by decide) hlv (fun v1 Md v10 v11 fd gd => ⟨⟨by omega, by omega⟩, fun Me ee => ⟨by omega, fun a t1 M1 ea et eM => ?_⟩⟩)
  have hEd := rEv_fr hEc (rFr_mono fd (fun c hc => Or.inl hc))
  have hRd := rRc_fr hRc fd (fun c pc e => by have : r ≤ c := pc; omega)
  have ys : ∀ k, yup (yup (yS A) 10 v0) 11 (1 + v1) k = yS (yw (yw A 10 v0) 11 (1 + v1)) k := fun k => rfl
  have hRe := rRc_sc (fj := 12) (pl := 11) (v := 1 + v1) hRd (by omega) (by omega) (by omega) (fun i i0 i1 => by rw [yup_n (by omega)]; exact h4 i i0 i1) (by simp)
  rw [← ee] at hRe
  have hEe : rEv x bu rn r A0 H t Me T := by rw [ee]; exact rEv_fr hEd (rFr_w (rFr_refl hlv) (Or.inr (Or.inr (Nat.le_refl r))))
  subst ea et eM
  have nx : xn (xnw t 14 2) (xz t) = 2 := if_pos rfl
  have bd : ∀ j : Int, 0 ≤ j → j < 2 → (0 : Int) ≤ j ∧ j < (xn (xnw t 14 2) (xz t) : Int) := fun j a c => ⟨a, by rw [nx]; exact c⟩
  have rz : r ≠ xz t := by omega
  have k11 : Me r 11 = v0 := by rw [ee, xw_j (by decide), gd r (by omega), ec]; exact xw_s
  have k12 : Me r 12 = 1 + v1 := by rw [ee]; exact xw_s
  refine ⟨bd 0 (by decide) (by decide), fun Mf ef => ⟨bd 1 (by decide) (by decide), fun Mg eg => ?_⟩⟩
  rw [xw0_B rz, k11] at ef
  have k12' : Mf r 12 = 1 + v1 := by rw [ef, xw_B rz, xw0_B rz]; exact k12
  rw [k12'] at eg
  have fg : rFr (fun c => c = rn) t Me (xnw t 14 2) Mg := by rw [eg, ef]; exact rFr_w (rFr_w (rFr_n (rFr_refl hlv)) (Or.inl dz)) (Or.inl dz)
  have hEg := rEv_fr hEe (rFr_mono fg (fun c hc => Or.inl hc))
  have hRg := rRc_fr hRe fg (fun c pc e => by have : r ≤ c := pc; omega)
  have q0 : Mg (xz t) 0 = v0 := by rw [eg, xw_j (by decide), ef]; exact xw_s
  have q1 : Mg (xz t) 1 = 1 + v1 := by rw [eg]; exact xw_s
  have l6 : (rLt 6).length = 6 := by decide
  have l6' : (xSl 6).toNat = 6 := by decide
  have st := rSt_refund (A := A) (u := u) (f := v0) (g := 1 + v1) hI hu1 (by omega) (by omega)
  have hI2 : zI (yw (yw A 10 v0) 11 (1 + v1)) := zI_pr (zI_pr hI (Or.inr (Or.inl ⟨rfl, by omega⟩))) (Or.inr (Or.inr ⟨rfl, by omega⟩))
  have lN := rNs_len [v0, 1 + v1]
  have lN' : (rNs [v0, 1 + v1]).length ≤ 10 := lN
  refine s_wrs (V := [v0, 1 + v1]) hF hEg hRg (by decide) (Nat.le_of_lt hrz) nx (by show 2 ≤ 8; decide) (fun i v hv => v2get ⟨q0, by omega⟩ ⟨q1, by omega⟩ hv) (by show T.length + (xSl 6).toNat + 5 * 2 + 1 ≤ 680; omega) (fun M8 hE8 hR8 _ => ?_)
  have e1 : yS (yw (yw A 10 v0) 11 (1 + v1)) 1 = yS A 1 := rfl
  have e2 : yS (yw (yw A 10 v0) 11 (1 + v1)) 2 = yS A 2 := rfl
  have e3 : yS (yw (yw A 10 v0) 11 (1 + v1)) 3 = yS A 3 := rfl
  exact g_762 hF hq (by omega) ⟨hE8, ⟨σ, RA, cl, by rw [e1, e2, e3]; exact hR8⟩, rTx0_u hT (by omega) st hI2 rfl ⟨hT.2.2.2.2.1, Or.inr rfl, rfl⟩⟩ (by omega) (by rw [e1]; exact h1) (by rw [e2]; exact h2) hK hu (by simp only [List.length_append, List.length_cons, List.length_nil]; omega)
set_option maxHeartbeats 8000000 in
theorem g_659 {Q : Option Nat → xTh → xMe → Prop} {N0 : Nat} {gg ff : Int} (hF : 1001 ≤ F) (hq : ∀ (n : Nat) t M T (m : Nat) A u K, N0 ≤ n → rMk x bu rn r A0 H K t M T m A u → K = yK (zFin A) → m ≤ 40 → yS A 1 = gg → yS A 2 = ff → T.length ≤ 640 → p_L_randomRoad_810 F G Q n x bu r gg ff t M) (hn : N0 + 220 ≤ n) (hMk : rMk x bu rn r A0 H [-5] t M T m A (0, 0, 0)) (hm : m ≤ 32) (h1 : yS A 1 = gg) (h2 : yS A 2 = ff) (hK : yK A = []) (hl : T.length ≤ 540) : p_L_randomRoad_659 F G Q n x bu rn r gg ff t M := by
  obtain ⟨hE, ⟨σ, RA, cl, hR⟩, hT⟩ := hMk
  obtain ⟨s1, s2, s3, s4, s5, s6⟩ := id hE.2.2.2.2.1
  have hlv := hE.2.2.1
  have hI := hT.2.1
  obtain ⟨n1, n2, n3, n4, n5, n6⟩ := id hI.1
  have kr := hR.1.1.1
  have hrz : r < xz t := hlv r (by omega)
  have dz : 22 < xk t (xz t) := xlive_z hlv
  have h4 : ∀ i, 0 ≤ i → i < yS A 2 → yS A (33 + 8 * i) ≤ 4 := fun i i0 i1 => (hI.2.2.1 i i0 i1).2.1
  unfold p_L_randomRoad_659
  refine s_bel (by decide) (by decide) hlv (fun w Ma _ _ fa _ => ?_)
  have hEa := rEv_fr hE (rFr_mono fa (fun c hc => Or.inl hc))
  have hRa := rRc_fr hR fa (fun c pc e => by have : r ≤ c := pc; omega)
  refine ⟨fun _ => g_701 hF hq (by omega) ⟨hEa, ⟨σ, RA, cl, hRa⟩, hT⟩ (by omega) h1 h2 hK rfl rfl (by omega), fun _ => ?_⟩
  refine s_bel (by decide) (by decide) hlv (fun v0 Mb v00 v01 fb _ Mc ec => ⟨by omega, fun a t1 M1 ea et eM => ?_⟩)
  have hEb := rEv_fr hEa (rFr_mono fb (fun c hc => Or.inl hc))
  have hRb := rRc_fr hRa fb (fun c pc e => by have : r ≤ c := pc; omega)
  have hRc := rRc_sc (fj := 10) (pl := 9) (v := v0) hRb (by omega) (by omega) (by omega) h4 (by simp)
  rw [← ec] at hRc
  have hEc : rEv x bu rn r A0 H t Mc T := by rw [ec]; exact rEv_fr hEb (rFr_w (rFr_refl hlv) (Or.inr (Or.inr (Nat.le_refl r))))
  subst ea et eM
  have nx : xn (xnw t 14 1) (xz t) = 1 := if_pos rfl
  have rz : r ≠ xz t := by omega
  have k10 : Mc r 10 = v0 := by rw [ec]; exact xw_s
  refine ⟨⟨by decide, by rw [nx]; decide⟩, fun Mf ef => ?_⟩
  rw [xw0_B rz, k10] at ef
  have fg : rFr (fun c => c = rn) t Mc (xnw t 14 1) Mf := by rw [ef]; exact rFr_w (rFr_n (rFr_refl hlv)) (Or.inl dz)
  have hEg := rEv_fr hEc (rFr_mono fg (fun c hc => Or.inl hc))
  have hRg := rRc_fr hRc fg (fun c pc e => by have : r ≤ c := pc; omega)
  have q0 : Mf (xz t) 0 = v0 := by rw [ef]; exact xw_s
  have l5 : (rLt 5).length = 3 := by decide
  have l5' : (xSl 5).toNat = 3 := by decide
  have st := rSt_fee (A := A) (u := (0, 0, 0)) (f := v0) hI rfl (by omega)
  have hI2 : zI (yw A 9 v0) := zI_pr hI (Or.inl ⟨rfl, by omega⟩)
  have lN' : (rNs [v0]).length ≤ 5 := rNs_len [v0]
  refine s_wrs (V := [v0]) hF hEg hRg (by decide) (Nat.le_of_lt hrz) nx (by show 1 ≤ 8; decide) (fun i v hv => v1get ⟨q0, by omega⟩ hv) (by show T.length + (xSl 5).toNat + 5 * 1 + 1 ≤ 680; omega) (fun M8 hE8 hR8 _ => ?_)
  have e1 : yS (yw A 9 v0) 1 = yS A 1 := rfl
  have e2 : yS (yw A 9 v0) 2 = yS A 2 := rfl
  have e3 : yS (yw A 9 v0) 3 = yS A 3 := rfl
  exact g_701 hF hq (by omega) ⟨hE8, ⟨σ, RA, cl, by rw [e1, e2, e3]; exact hR8⟩, rTx0_u hT (by omega) st hI2 rfl ⟨Or.inr rfl, Or.inl rfl, rfl⟩⟩ (by omega) (by rw [e1]; exact h1) (by rw [e2]; exact h2) hK rfl rfl (by simp only [List.length_append, List.length_cons, List.length_nil]; omega)
end RLY
