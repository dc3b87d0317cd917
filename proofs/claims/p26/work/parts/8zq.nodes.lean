/-! A RANDOM PRICE -/
def rCn : Nat → Nat
  | 0 => 1
  | d + 1 => 1 + 2 * rCn d
section RNR
variable {S S' : Nat → Prop} {t t' : xTh} {M M' : xMe} {a rn F : Nat}
theorem rNd_wn {j : Nat} {o : Option Nat} (hS : ∀ b, S b → b ≠ a) : ∀ (d q : Nat) (K : List Int), rNd S t M d q K → rNd S (xwr t a j o) M d q K
  | 0, _, _, h => h.elim
  | d + 1, q, K, h => by
    obtain ⟨h1, h2, h3⟩ := h
    refine ⟨h1, h2, ?_⟩
    rcases h3 with h | h | ⟨h4, h5, l, r, Kl, Kr, h6, h7, h8, h9, h10⟩
    · exact Or.inl h
    · exact Or.inr (Or.inl h)
    · exact Or.inr (Or.inr ⟨h4, h5, l, r, Kl, Kr, by rw [xr_wrn (hS q h1)]; exact h6, by rw [xr_wrn (hS q h1)]; exact h7, rNd_wn hS d l Kl h8, rNd_wn hS d r Kr h9, h10⟩)
theorem rNd_up : ∀ (d q : Nat) (K : List Int), rNd S t M d q K → rNd S t M (d + 1) q K
  | 0, _, _, h => h.elim
  | d + 1, q, K, h => by
    obtain ⟨h1, h2, h3⟩ := h
    refine ⟨h1, h2, ?_⟩
    rcases h3 with h | h | ⟨h4, h5, l, r, Kl, Kr, h6, h7, h8, h9, h10⟩
    · exact Or.inl h
    · exact Or.inr (Or.inl h)
    · exact Or.inr (Or.inr ⟨h4, h5, l, r, Kl, Kr, h6, h7, rNd_up d l Kl h8, rNd_up d r Kr h9, h10⟩)
theorem rCn_1 : ∀ d, 1 ≤ rCn d
  | 0 => Nat.le_refl 1
  | d + 1 => by show 1 ≤ 1 + 2 * rCn d; omega
set_option maxHeartbeats 4000000 in
theorem s_nrandom : ∀ (d k n : Nat) (t : xTh) (M : xMe) (Q : Nat → xTh → xMe → Prop), d < k → d ≤ 1000 → rCn d ≤ n → xlive t → rn < xz t → (∀ t' M' K, rNd (fun a => xz t ≤ a) t' M' (d + 1) (xz t) K → rFr (fun c => c = rn) t M t' M' → K.length ≤ rCn d → Q (xz t) t' M') → p_X12_randomR F k n t rn (d : Int) M Q
  | d, 0, _, _, _, _, h, _, _, _, _, _ => by omega
  | d, k + 1, n, t, M, Q, hk, hd, hn, hlv, hrn, hq => by
    have c1 := rCn_1 d
    have dz : 22 < xk t (xz t) := xlive_z hlv
    have arn : xz t ≠ rn := by omega
    show p_X12_random F (p_X12_randomR F k) n t rn (d : Int) M Q
    unfold p_X12_random
    refine ⟨by omega, fun a0 t0 M0 ea et eM => ⟨0, Nat.zero_le _, ?_⟩⟩
    subst ea et eM
    have f0 : rFr (fun c => c = rn) t M (xnw t 12 0) (xw0 M (xz t)) := rFr_n (rFr_refl hlv)
    have l1 := f0.1
    have kz : xk (xnw t 12 0) (xz t) = 12 := if_pos rfl
    unfold p_X12_init
    -- kind and number stand
    have c67 : ∀ (n' : Nat) (M8 : xMe) (kd v : Int), n ≤ n' + 1 → rFr (fun c => c = rn) t M (xnw t 12 0) M8 → M8 (xz t) 0 = kd → 0 ≤ kd ∧ kd < 6 → (d = 0 → kd < 2) → (kd = 0 → 0 ≤ v ∧ v < 10000) → (kd = 1 → 0 ≤ v ∧ v < 4) → p_X12_random_67 F (p_X12_randomR F k) Q n' rn (d : Int) (xz t) v (xz t) (xnw t 12 0) M8 := fun n' M8 kd v hn' f8 e0 g0 gd gl gv => by
      unfold p_X12_random_67
      intro M9 e9
      have f9 : rFr (fun c => c = rn) t M (xnw t 12 0) M9 := by rw [e9]; exact rFr_w f8 (Or.inl dz)
      have k0 : M9 (xz t) 0 = kd := by rw [e9, xw_j (by decide)]; exact e0
      have k1 : M9 (xz t) 1 = v := by rw [e9]; exact xw_s
      rw [k0]
      refine ⟨fun q => ?_, fun q => ?_⟩
      · by_cases e : kd = 0
        · obtain ⟨a1, a2⟩ := gl e
          exact hq _ M9 [v] ⟨Nat.le_refl _, kz, Or.inl ⟨by rw [k0]; exact e, by rw [k1]; exact a1, by rw [k1]; exact a2, by rw [k1]⟩⟩ f9 c1
        · obtain ⟨a1, a2⟩ := gv (by omega)
          exact hq _ M9 [-5 - v] ⟨Nat.le_refl _, kz, Or.inr (Or.inl ⟨by rw [k0]; omega, by rw [k1]; exact a1, by rw [k1]; exact a2, by rw [k1]⟩)⟩ f9 c1
      · obtain ⟨d, rfl⟩ : ∃ d', d = d' + 1 := ⟨d - 1, by omega⟩
        have cd : rCn (d + 1) = 1 + 2 * rCn d := rfl
        rw [show ((d + 1 : Nat) : Int) - 1 = (d : Int) by omega]
        refine ⟨⟨by omega, by omega⟩, rCn d, by omega, ?_⟩
        have zz : xz (xnw t 12 0) = xz t + 1 := rfl
        refine s_nrandom d k (rCn d) (xnw t 12 0) M9 _ (by omega) (by omega) (Nat.le_refl _) f9.1 (by omega) (fun t3 M3 Kl hKl fl ll t4 et4 => ⟨⟨by omega, by omega⟩, rCn d, by omega, ?_⟩)
        have ka3 : xk t3 (xz t) = 12 := (fl.2 (xz t) (by rw [kz]; decide)).1.trans kz
        have ma3 : M3 (xz t) = M9 (xz t) := ((fl.2 (xz t) (by rw [kz]; decide)).2.2.1 arn).1
        have f3 : rFr (fun c => c = rn) t M t3 M3 := rFr_trans f9 fl
        have f4 : rFr (fun c => c = rn) t M t4 M3 := by rw [et4]; exact rFr_r f3 (Or.inl dz)
        have ka4 : xk t4 (xz t) = 12 := by rw [et4]; exact ka3
        have zlt : xz t < xz t4 := f4.1 _ (by rw [ka4]; decide)
        have hKl4 : rNd (fun a => xz t + 1 ≤ a) t4 M3 (d + 1) (xz (xnw t 12 0)) Kl := by rw [et4]; exact rNd_wn (fun b hb => by omega) _ _ _ hKl
        refine s_nrandom d k (rCn d) t4 M3 _ (by omega) (by omega) (Nat.le_refl _) f4.1 (by omega) (fun t5 M5 Kr hKr fr lr t6 et6 => ?_)
        have ka5 : xk t5 (xz t) = 12 := (fr.2 (xz t) (by rw [ka4]; decide)).1.trans ka4
        have ma5 : M5 (xz t) = M3 (xz t) := ((fr.2 (xz t) (by rw [ka4]; decide)).2.2.1 arn).1
        have ra5 : xr t5 (xz t) = xr t4 (xz t) := ((fr.2 (xz t) (by rw [ka4]; decide)).2.2.1 arn).2
        have hKl5 : rNd (fun a => xz t + 1 ≤ a) t5 M5 (d + 1) (xz (xnw t 12 0)) Kl := rNd_fr fr (fun b hb e => by have hb' : xz t + 1 ≤ b := hb; omega) _ _ _ hKl4
        have f6 : rFr (fun c => c = rn) t M t6 M5 := by rw [et6]; exact rFr_r (rFr_trans f4 fr) (Or.inl dz)
        have hKl6 : rNd (fun a => xz t ≤ a) t6 M5 (d + 1) (xz (xnw t 12 0)) Kl := rNd_P (fun b hb _ => by have hb' : xz t + 1 ≤ b := hb; omega) _ _ _ (by rw [et6]; exact rNd_wn (fun b hb => by omega) _ _ _ hKl5)
        have hKr6 : rNd (fun a => xz t ≤ a) t6 M5 (d + 1) (xz t4) Kr := rNd_P (fun b hb _ => by have hb' : xz t4 ≤ b := hb; omega) _ _ _ (by rw [et6]; exact rNd_wn (fun b hb => by have hb' : xz t4 ≤ b := hb; omega) _ _ _ hKr)
        have k06 : M5 (xz t) 0 = kd := by rw [ma5, ma3]; exact k0
        refine hq t6 M5 (Kl ++ (Kr ++ [1 - kd])) ⟨Nat.le_refl _, by rw [et6]; exact ka5, Or.inr (Or.inr ⟨by rw [k06]; omega, by rw [k06]; omega, xz (xnw t 12 0), xz t4, Kl, Kr, ?_, ?_, hKl6, hKr6, by rw [k06]⟩)⟩ f6 ?_
        · rw [et6, xr_wra, if_neg (by decide), ra5, et4, xr_wra, if_pos rfl]
        · rw [et6, xr_wra, if_pos rfl]
        · rw [List.length_append, List.length_append]
          show Kl.length + (Kr.length + 1) ≤ 1 + 2 * rCn d
          omega
    have c27 : ∀ (n' : Nat) (M8 : xMe) (kd : Int), n ≤ n' + 1 → rFr (fun c => c = rn) t M (xnw t 12 0) M8 → 0 ≤ kd ∧ kd < 6 → (d = 0 → kd < 2) → p_X12_random_27 F (p_X12_randomR F k) Q n' rn (d : Int) (xz t) kd (xz t) (xnw t 12 0) M8 := fun n' M8 kd hn' f8 g0 gd => by
      unfold p_X12_random_27
      intro M9 e9
      have f9 : rFr (fun c => c = rn) t M (xnw t 12 0) M9 := by rw [e9]; exact rFr_w f8 (Or.inl dz)
      have k0 : M9 (xz t) 0 = kd := by rw [e9]; exact xw_s
      rw [k0]
      refine ⟨fun q => ?_, fun q => ?_⟩
      · refine s_bel (by decide) (by decide) l1 (fun v Ma v0 v1 fa ga => ?_)
        exact c67 _ Ma kd v (by omega) (rFr_trans f9 fa) (by rw [ga _ arn]; exact k0) g0 gd (fun e => absurd e q) (fun _ => ⟨v0, v1⟩)
      · refine s_bel (by decide) (by decide) l1 (fun w Ma _ _ fa ga => ⟨fun _ => ?_, fun _ => ?_⟩)
        · refine s_bel (by decide) (by decide) l1 (fun v Mb v0 v1 fb gb => ?_)
          exact c67 _ Mb kd v (by omega) (rFr_trans f9 (rFr_trans fa fb)) (by rw [gb _ arn, ga _ arn]; exact k0) g0 gd (fun _ => ⟨v0, by omega⟩) (fun e => by omega)
        · refine s_bel (by decide) (by decide) l1 (fun v Mb v0 v1 fb gb => ?_)
          exact c67 _ Mb kd v (by omega) (rFr_trans f9 (rFr_trans fa fb)) (by rw [gb _ arn, ga _ arn]; exact k0) g0 gd (fun _ => ⟨v0, v1⟩) (fun e => by omega)
    refine ⟨fun q => ?_, fun q => ?_⟩
    · refine s_bel (by decide) (by decide) l1 (fun kd Ma v0 v1 fa ga => ?_)
      exact c27 _ Ma kd (by omega) (rFr_trans f0 fa) ⟨v0, v1⟩ (fun e => by omega)
    · refine s_bel (by decide) (by decide) l1 (fun kd Ma v0 v1 fa ga => ?_)
      exact c27 _ Ma kd (by omega) (rFr_trans f0 fa) ⟨v0, by omega⟩ (fun _ => v1)
end RNR
