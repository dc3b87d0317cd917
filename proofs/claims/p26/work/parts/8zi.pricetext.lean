/-! THE TEXT OF A PRICE, from the Road's nodes; it is read -/
def rOt (k : Int) : List Int := if k = 2 then [43] else if k = 3 then [32, 45, 32] else if k = 4 then [42, 32] else [47]
def rOw (k : Int) : Int := if k < 4 then 1 else 2
def rTx (t : xTh) (M : xMe) : Nat → Nat → Int → List Int
  | 0, _, _ => []
  | d + 1, q, l => if M q 0 = 0 then rNu (M q 1) else if M q 0 = 1 then rLt ([9, 1, 10, 11].getD (M q 1).toNat 0) else
    if rOw (M q 0) < l then 40 :: (rTx t M d ((xr t q 2).getD 0) (rOw (M q 0)) ++ (rOt (M q 0) ++ rTx t M d ((xr t q 3).getD 0) (rOw (M q 0) + 1))) ++ [41]
    else rTx t M d ((xr t q 2).getD 0) (rOw (M q 0)) ++ (rOt (M q 0) ++ rTx t M d ((xr t q 3).getD 0) (rOw (M q 0) + 1))
section RPT
variable {S : Nat → Prop} {t : xTh} {M M' : xMe} {K L : List Int} {A A' : yA} {u : Int × Int × Int}
theorem rTx_ok : ∀ (d q : Nat) (K : List Int), d ≤ 90 → rNd S t M d q K → eF d (rTx t M d q 3) K ∧ (∃ m, m ≤ d ∧ eT d m (rTx t M d q 2) K) ∧ ∀ l : Int, l ≤ 1 → ∃ m, m ≤ d ∧ eS d m (rTx t M d q l) K
  | 0, _, _, _, h => h.elim
  | d + 1, q, K, hd, h => by
    obtain ⟨-, -, h3⟩ := h
    have leaf : ∀ L : List Int, (∀ h, eF h L K) → (∀ l, rTx t M (d + 1) q l = L) → eF (d + 1) (rTx t M (d + 1) q 3) K ∧ (∃ m, m ≤ d + 1 ∧ eT (d + 1) m (rTx t M (d + 1) q 2) K) ∧ ∀ l : Int, l ≤ 1 → ∃ m, m ≤ d + 1 ∧ eS (d + 1) m (rTx t M (d + 1) q l) K := fun L hL e => by
      rw [e, e]
      exact ⟨hL _, ⟨0, Nat.zero_le _, eT_F (hL _)⟩, fun l _ => ⟨0, Nat.zero_le _, by rw [e]; exact eS_T (eT_F (hL _)) (by decide)⟩⟩
    rcases h3 with ⟨k0, n0, n1, rfl⟩ | ⟨k1, n0, n1, rfl⟩ | ⟨k2, k5, l, r, Kl, Kr, h6, h7, h8, h9, rfl⟩
    · exact leaf (rNu (M q 1)) (fun _ => eF_num n0 n1) (fun l => by unfold rTx; rw [if_pos k0])
    · refine leaf (rLt ([9, 1, 10, 11].getD (M q 1).toNat 0)) (fun _ => ?_) (fun l => by unfold rTx; rw [if_neg (by omega), if_pos k1])
      have : M q 1 = 0 ∨ M q 1 = 1 ∨ M q 1 = 2 ∨ M q 1 = 3 := by omega
      rcases this with e | e | e | e <;> rw [e]
      · exact eF_var (Or.inl ⟨rfl, rfl⟩)
      · exact eF_var (Or.inr (Or.inl ⟨rfl, rfl⟩))
      · exact eF_var (Or.inr (Or.inr (Or.inl ⟨rfl, rfl⟩)))
      · exact eF_var (Or.inr (Or.inr (Or.inr ⟨rfl, rfl⟩)))
    · obtain ⟨fl, ⟨ml, ml1, tl⟩, sl⟩ := rTx_ok d l Kl (by omega) h8
      obtain ⟨fr, ⟨mr, mr1, tr⟩, sr⟩ := rTx_ok d r Kr (by omega) h9
      have e0 : ∀ lv : Int, rTx t M (d + 1) q lv = if rOw (M q 0) < lv then 40 :: (rTx t M d l (rOw (M q 0)) ++ (rOt (M q 0) ++ rTx t M d r (rOw (M q 0) + 1))) ++ [41] else rTx t M d l (rOw (M q 0)) ++ (rOt (M q 0) ++ rTx t M d r (rOw (M q 0) + 1)) := fun lv => by
        show (if _ then _ else if _ then _ else _) = _
        rw [if_neg (by omega), if_neg (by omega), h6, h7]
        rfl
      by_cases k4 : M q 0 < 4
      · have ow : rOw (M q 0) = 1 := if_pos k4
        obtain ⟨m1, m1', s1⟩ := sl 1 (by decide)
        have ob : ((if M q 0 = 2 then (43 : Int) else 45) = 43 ∧ 1 - M q 0 = -1) ∨ ((if M q 0 = 2 then (43 : Int) else 45) = 45 ∧ 1 - M q 0 = -2) := by
          split <;> omega
        have oo : rOp (rOt (M q 0)) (if M q 0 = 2 then 43 else 45) := by
          unfold rOt
          by_cases e2 : M q 0 = 2
          · rw [if_pos e2, if_pos e2]; exact Or.inl ⟨rfl, rfl⟩
          · rw [if_neg e2, if_neg e2, if_pos (by omega)]; exact Or.inr (Or.inl ⟨rfl, rfl⟩)
        have inner : eS d (m1 + 1) (rTx t M d l 1 ++ (rOt (M q 0) ++ rTx t M d r 2)) (Kl ++ (Kr ++ [1 - M q 0])) := eS_op s1 tr (by omega) ob oo (by omega)
        rw [e0 3, e0 2, ow]
        refine ⟨?_, ⟨0, Nat.zero_le _, ?_⟩, fun lv hlv => ⟨m1 + 1, by omega, ?_⟩⟩
        · rw [if_pos (by decide)]; exact eF_par inner (by omega)
        · rw [if_pos (by decide)]; exact eT_F (eF_par inner (by omega))
        · rw [e0 lv, ow, if_neg (by omega)]; exact eS_mono inner (by omega)
      · have ow : rOw (M q 0) = 2 := if_neg k4
        have ob : ((if M q 0 = 4 then (42 : Int) else 47) = 42 ∧ 1 - M q 0 = -3) ∨ ((if M q 0 = 4 then (42 : Int) else 47) = 47 ∧ 1 - M q 0 = -4) := by
          split <;> omega
        have oo : rOp (rOt (M q 0)) (if M q 0 = 4 then 42 else 47) := by
          unfold rOt
          rw [if_neg (by omega), if_neg (by omega)]
          by_cases e2 : M q 0 = 4
          · rw [if_pos e2, if_pos e2]; exact Or.inr (Or.inr (Or.inl ⟨rfl, rfl⟩))
          · rw [if_neg e2, if_neg e2]; exact Or.inr (Or.inr (Or.inr ⟨rfl, rfl⟩))
        have inner : eT d (ml + 1) (rTx t M d l 2 ++ (rOt (M q 0) ++ rTx t M d r 3)) (Kl ++ (Kr ++ [1 - M q 0])) := eT_op tl fr ob oo (by omega)
        rw [e0 3, e0 2, ow]
        refine ⟨?_, ⟨ml + 1, by omega, ?_⟩, fun lv hlv => ⟨0, by omega, ?_⟩⟩
        · rw [if_pos (by decide)]; exact eF_par (eS_T inner (by omega)) (by decide)
        · rw [if_neg (by decide)]; exact eT_mono inner (by omega)
        · rw [e0 lv, ow, if_neg (by omega)]; exact eS_T (eT_mono inner (by omega)) (by omega)
set_option maxHeartbeats 4000000 in
/-- the statement price -/
theorem rSt_price {q : Nat} (hI : zI A) (hN : rNd S t M 3 q K) (u0 : u.2.2 = 0) (hK : yK A = []) (hl : K.length ≤ 500) : rSt (rLt 22 ++ rTx t M 3 q 0 ++ rLt 30) A u (zEms A K) (u.1, u.2.1, 1) := by
  intro F b n x e B M0 Q hn hF h he hC hq
  have e22 : rLt 22 = rLt 7 ++ [32] := by decide
  have e30 : rLt 30 = [32, 59] := by decide
  obtain ⟨-, -, hs⟩ := rTx_ok 3 q K (by decide) hN
  obtain ⟨m, hm, es⟩ := hs 0 (by decide)
  generalize rTx t M 3 q 0 = E at *
  have en : rLt 22 ++ E ++ rLt 30 = rLt 7 ++ (32 :: (E ++ [32, 59])) := by rw [e22, e30]; simp
  have len : e + (rLt 22 ++ E ++ rLt 30).length = e + (rLt 7).length + 1 + E.length + 2 := by rw [en]; simp; omega
  rw [len] at hq he
  rw [en] at h
  have a1 := zAt_w h
  obtain ⟨a2, a3⟩ := zAt_cons a1
  obtain ⟨a4, a5⟩ := zAt_app a3
  obtain ⟨a6, a7⟩ := zAt_cons a5
  have a8 := (zAt_cons a7).1
  obtain ⟨hp, hw⟩ := n_p (n := n) (s := 7) (A := A) (u := u) (zWd_17 (by decide)) h (by decide) (by omega)
  obtain ⟨k1, k2, k3⟩ := tk_word (n := n) (s := 7) (zWd_17 (by decide)) h (by decide) (by omega)
  refine ⟨by have := hw.1; omega, n_disp hn hF (s := 7) (by decide) hw hC (fun q => absurd q (by decide)) (fun q => absurd q (by decide)) (fun q => absurd q (by decide)) (fun q => absurd q (by decide)) (fun q => absurd q (by decide)) (fun q => absurd q (by decide)) (fun _ => ⟨u0, ?_⟩)⟩
  unfold zCpr
  intro M1 e1
  obtain ⟨o1, o2, o3⟩ := hC.2.2.2.2.2 rfl
  have fB : ∀ c, c ≠ x + 1 → M1 c = M0 c := fun c hc => by rw [e1]; exact xw_B hc
  refine z_mv (x := x) hn hF (zte_le o1) (zTx_f hC.2.1 (by rw [fB _ (by omega)]) (fB _ (by omega))) (by rw [fB _ (by omega)]; exact o2.2.1) (fun M2 g1 g2 M3 e3 => ?_)
  have gB : ∀ c, c ≠ x + 1 → c ≠ x + 2 → M3 c = M0 c := fun c c1 c2 => by
    rw [e3, xw_B c1]; funext j; rw [g2 c j (by omega), fB c c1]
  have r1 : ∀ j, j ≠ 5 → j ≠ 8 → M3 (x + 1) j = M0 (x + 1) j := fun j j1 j2 => by rw [e3, xw_j j1, g2 _ _ (by omega), e1, xw_j j2]
  have r2 : ∀ j, M3 (x + 2) j = M2 (x + 2) j := fun j => by rw [e3, xw_b (by omega)]
  have pos : (zst b n (e + (rLt 7).length + 1) A (u.1, u.2.1, 1)).p = znx b n (zst b n e A u).p := by
    show zps b n _ = _
    rw [hp, k2, zps_sp a2 (by omega)]
  have h3 : zC b n x B (zst b n (e + (rLt 7).length + 1) A (u.1, u.2.1, 1)) M3 := by
    refine zC_f (s' := zst b n (e + (rLt 7).length + 1) A (u.1, u.2.1, 1)) hC ⟨r1 _ (by decide) (by decide), r1 _ (by decide) (by decide)⟩ (by rw [r2, g2 _ _ (by omega), fB _ (by omega)]) (by rw [gB _ (by omega) (by omega)]; exact hC.2.2.1) (by rw [gB _ (by omega) (by omega)]; exact hC.2.2.2.1) (fun c hc => gB c (by omega) (by omega)) rfl rfl (fun _ => ⟨by rw [pos]; exact znx_le o1, ?_, ?_⟩)
    · rw [pos]
      unfold zTk
      rw [r2, r2, r2, r2]; exact g1
    · obtain ⟨p1, p2, p3, p4, p5⟩ := o3
      refine ⟨zR_s p1 (fun o i k _ hl => ⟨hl, rfl⟩) (fun b b1 b2 => gB b (by omega) (by omega)) hI.1, yU_row p2 (fun b b1 b2 => gB b (by omega) (by omega)), by rw [gB _ (by omega) (by omega)]; exact p3, ⟨by rw [r1 _ (by decide) (by decide)]; exact p4.1, by rw [r1 _ (by decide) (by decide)]; exact p4.2.1, ?_⟩, fun _ => ⟨?_, fun i w hw => ?_⟩⟩
      · rw [e3, xw_j (by decide), g2 _ _ (by omega), e1]; exact xw_s
      · have l : (yK (zst b n (e + (rLt 7).length + 1) A (u.1, u.2.1, 1)).A).length = 0 := by
          show (yK A).length = 0
          rw [hK]; rfl
        rw [e3, xw_s, l]; rfl
      · have hw' : (yK A)[i]? = some w := hw
        rw [hK] at hw'
        cases hw'
  have pz : zps b n (e + (rLt 7).length + 1 + E.length) = e + (rLt 7).length + 1 + E.length + 1 := by rw [zps_sp a6 (by omega), zps_no (by rw [a8]; decide) (by omega)]
  obtain ⟨c1, c2⟩ := tk_sign (n := n) (c := 59) (by decide) a8 (by omega)
  show p_X8_readSum F (p_X8_readSumR F (x + 1) 7) (x + 1) 0 M3 _
  refine es F b n x (e + (rLt 7).length + 1) B M3 _ A (u.1, u.2.1, 1) 7 0 hn hF rfl hI.1 (by rw [hK]; simp; omega) a4 (by omega) (by rw [a6]; unfold nAl; decide) (by rw [pz, c1]; decide) (by rw [pz, c1]; decide) (by decide) (by decide) (by decide) h3 (fun M4 h4 => ?_)
  refine x_sum0 (by omega) (by omega) ⟨by rw [pz, c1]; decide, by rw [pz, c1]; decide⟩ h4 ?_
  rw [zst_sp a6 (by omega)] at h4
  refine n_sign hn hF (by decide) (by decide) a7 (by omega) h4 (fun M5 h5 => hq M5 ?_)
  rw [show e + (rLt 7).length + 1 + E.length + 2 = e + (rLt 7).length + 1 + E.length + 1 + 1 by omega]
  exact h5
end RPT
