section RTL
variable {P S : Nat → Prop} {σ : Nat → Int} {RA : Int → Nat} {cl : List Nat} {t : xTh} {M : xMe} {r F n : Nat} {A : yA} {Q : xTh → xMe → Prop} {K64 : Nat → Nat → Int → xTh → xMe → Prop} {K128 K70 : Nat → Nat → xTh → xMe → Prop} {K2 : Nat → Nat → Int → xTh → xMe → Prop} {g f : Int}
theorem rOk_rfn {k : Int} (hI : yI1 A) : rOk (yRfn 1 k A) := rOk_of (yI1_st ySt_rfn.1 hI)
theorem s_13 (hl : xlive t) (hI : yI A) (g0 : 0 ≤ g) (g1 : g < yS A 1) : ∀ (d k : Nat) (f : Int) (M : xMe), f + d = yS A 2 → d < k → 0 ≤ f → rRi P S σ RA cl t M r (yRfn 1 (6 * g + f) A) → (∀ M', rRi P S σ RA cl t M' r (yRfn 1 (6 * (g + 1)) A) → rFr P t M t M' → K64 n r g t M') → p_X14_tick_13 F Q K2 K64 K70 k n r g f t M := by
  obtain ⟨n1, n2, n3, n4, n5, n6⟩ := id hI.1.1
  have hg := hI.1.2.1 g g0 g1
  intro d
  induction d with
  | zero =>
    intro k f M hf hk f0 h hq
    obtain ⟨k, rfl⟩ : ∃ k', k = k' + 1 := ⟨k - 1, by omega⟩
    have e2 : yS (yRfn 1 (6 * g + f) A) 2 = yS A 2 := ySt_rfn.2 2 (by omega)
    obtain ⟨a, a1, a2, a3, -⟩ := rRi_fl h
    rw [e2] at a3
    have hff : f = yS A 2 := by omega
    unfold p_X14_tick_13
    refine ⟨a, a1, a2, ⟨by omega, by omega⟩, fun _ => hq M ?_ (rFr_refl hl), fun q => absurd q (by omega)⟩
    have : yRfn 1 (6 * g + f) A = yRfn 1 (6 * (g + 1)) A := by unfold yRfn; rw [← yRfS_row ⟨n3, n4⟩ g0, ← hff]
    rw [← this]; exact h
  | succ d ih =>
    intro k f M hf hk f0 h hq
    obtain ⟨k, rfl⟩ : ∃ k', k = k' + 1 := ⟨k - 1, by omega⟩
    have f1 : f < yS A 2 := by omega
    have e1 : yS (yRfn 1 (6 * g + f) A) 1 = yS A 1 := ySt_rfn.2 1 (by omega)
    have e2 : yS (yRfn 1 (6 * g + f) A) 2 = yS A 2 := ySt_rfn.2 2 (by omega)
    have e15 : yS (yRfn 1 (6 * g + f) A) (15 + 3 * g) = yS A (15 + 3 * g) := ySt_rfn.2 _ (by omega)
    have e16 : yS (yRfn 1 (6 * g + f) A) (16 + 3 * g) = yS A (16 + 3 * g) := ySt_rfn.2 _ (by omega)
    have ecur : yS (yRfn 1 (6 * g + f) A) (561 + 4 * (6 * g + f)) = yS A (561 + 4 * (6 * g + f)) := yRfS_o (by omega)
    have htk := hI.2.1 g f g0 g1 f0 f1
    obtain ⟨a, a1, a2, a3, -⟩ := rRi_fl h
    rw [e2] at a3
    obtain ⟨tb, tb1, tb2, tb3, tb4⟩ := rRi_tk h
    obtain ⟨tk1, tk2, tk3, tk4⟩ := tb4 g g0 (by omega)
    rw [e1, e2] at tk4
    obtain ⟨ga, ga1, ga2, ga3, ga4⟩ := rRi_ga h
    rw [e1] at ga3 ga4
    obtain ⟨m1, m2, m3, m4, m5, m6⟩ := ga4 g g0 g1
    have hPt : P (RA (561 + 24 * g)) := (h.2.2.2.2.2.2.1.2 g g0 (by omega)).2.1
    unfold p_X14_tick_13
    refine ⟨a, a1, a2, ⟨by omega, by omega⟩, fun q => absurd q (by omega), fun _ => ⟨tb, tb1, tb2, ⟨g0, by omega⟩, _, tk1, tk2, ga, ga1, ga2, ⟨g0, by omega⟩, _, m1, m2, ⟨by omega, by omega⟩, ⟨g0, by omega⟩, _, tk1, tk2, ⟨f0, by omega⟩, ⟨g0, by omega⟩, _, m1, m2, ⟨by omega, by omega⟩, ?_⟩⟩
    rw [tk4 g1 f f0 f1, ecur, m4, m5, e15, e16]
    refine ⟨⟨by omega, by omega⟩, ⟨f0, by omega⟩, fun M1 eM => ⟨⟨by omega, by omega⟩, ih k (f + 1) M1 (by omega) (by omega) (by omega) ?_ (fun M' d1 d2 => hq M' d1 (rFr_trans (by rw [eM]; exact rFr_w (rFr_refl hl) (Or.inr hPt)) d2))⟩⟩
    have hc := rRi_wt (v := min (yS A (16 + 3 * g)) (yS A (561 + 4 * (6 * g + f)) + yS A (15 + 3 * g))) h (rOk_rfn hI.1) g0 (by omega) f0 (by omega)
    rw [← eM] at hc
    have : yw (yRfn 1 (6 * g + f) A) (561 + 4 * (6 * g + f)) (min (yS A (16 + 3 * g)) (yS A (561 + 4 * (6 * g + f)) + yS A (15 + 3 * g))) = yRfn 1 (6 * g + (f + 1)) A := by
      unfold yw yRfn
      have hst := yRfS_step (t := 1) (S := yS A) g0 g1 f0 f1 (by omega)
      rw [Int.mul_one] at hst
      rw [← Int.add_assoc, ← hst]
    rw [← this]; exact hc
theorem s_2 (hl : xlive t) (hI : yI A) (hF : 50 ≤ F) : ∀ (d k : Nat) (g : Int) (M : xMe), g + d = yS A 1 → d < k → 0 ≤ g → rRi P S σ RA cl t M r (yRfn 1 (6 * g) A) → (∀ M', rRi P S σ RA cl t M' r (yRf 1 A) → rFr P t M t M' → K70 n r t M') → p_X14_tick_2 F Q K70 k n r g t M := by
  obtain ⟨n1, n2, n3, n4, n5, n6⟩ := id hI.1.1
  intro d
  induction d with
  | zero =>
    intro k g M hg hk g0 h hq
    obtain ⟨k, rfl⟩ : ∃ k', k = k' + 1 := ⟨k - 1, by omega⟩
    have e1 : yS (yRfn 1 (6 * g) A) 1 = yS A 1 := ySt_rfn.2 1 (by omega)
    obtain ⟨ga, ga1, ga2, ga3, ga4⟩ := rRi_ga h
    rw [e1] at ga3
    unfold p_X14_tick_2
    refine ⟨ga, ga1, ga2, ⟨by omega, by omega⟩, fun _ => hq M ?_ (rFr_refl hl), fun q => absurd q (by omega)⟩
    have hgg : g = yS A 1 := by omega
    have : yRfn 1 (6 * g) A = yRf 1 A := by unfold yRfn yRf; rw [hgg, yRfS_end ⟨n1, n2⟩]
    rw [← this]; exact h
  | succ d ih =>
    intro k g M hg hk g0 h hq
    obtain ⟨k, rfl⟩ : ∃ k', k = k' + 1 := ⟨k - 1, by omega⟩
    have e1 : yS (yRfn 1 (6 * g) A) 1 = yS A 1 := ySt_rfn.2 1 (by omega)
    obtain ⟨ga, ga1, ga2, ga3, ga4⟩ := rRi_ga h
    rw [e1] at ga3
    unfold p_X14_tick_2
    refine ⟨ga, ga1, ga2, ⟨by omega, by omega⟩, fun q => absurd q (by omega), fun _ => ?_⟩
    refine s_13 hl hI g0 (by omega) (yS A 2).toNat F 0 M (by omega) (by omega) (by omega) (by rw [Int.add_zero]; exact h) (fun M' u1 u2 => ?_)
    unfold p_X14_tick_64
    exact ⟨⟨by omega, by omega⟩, ih k (g + 1) M' (by omega) (by omega) (by omega) u1 (fun M2 v1 v2 => hq M2 v1 (rFr_trans u2 v2))⟩
theorem s_78 (hF : 50 ≤ F) : ∀ (m : Nat) (L1 L2 : List yCo) (k n : Nat) (B : yA) (cl : List Nat) (t : xTh) (M : xMe), L1.length = m → m < k → rRi P S σ RA cl t M r B → rOk B → yC B = L1 ++ L2 → L1.length + L2.length ≤ 30 → 0 ≤ yS B 7 → yS B 7 + m ≤ 1000000 → xlive t → rDd P t → rPs t r 40 → L1.length - (yExp (yS B 0) L1).length ≤ n → (∀ cl' t' M' n', rRi P S σ RA cl' t' M' r (yw (yCw B (yExp (yS B 0) L1 ++ L2)) 7 (yS B 7 + (L1.length - (yExp (yS B 0) L1).length : Nat))) → rFr P t M t' M' → rPs t' r 40 → n - (L1.length - (yExp (yS B 0) L1).length) ≤ n' → K128 n' r t' M') → p_X14_tick_78 F Q K128 k n r ((m : Int) - 1) t M := by
  intro m
  induction m with
  | zero =>
    intro L1 L2 k n B cl t M hm hk h ok hC h30 h7 h7' hl hD hps hn hq
    obtain ⟨k, rfl⟩ : ∃ k', k = k' + 1 := ⟨k - 1, by omega⟩
    have e : L1 = [] := List.length_eq_zero_iff.mp hm
    subst e
    unfold p_X14_tick_78
    refine ⟨fun _ => hq cl t M n ?_ (rFr_refl hl) hps (Nat.sub_le _ _), fun q => absurd q (by omega)⟩
    refine rRi_S h ?_ ?_ rfl
    · show yup (yS B) 7 (yS B 7 + 0) = yS B
      rw [Int.add_zero]; exact yup_same rfl
    · show [] ++ L2 = yC B; rw [hC]
  | succ m ih =>
    intro L1 L2 k n B cl t M hm hk h ok hC h30 h7 h7' hl hD hps hn hq
    obtain ⟨k, rfl⟩ : ∃ k', k = k' + 1 := ⟨k - 1, by omega⟩
    have hne : L1 ≠ [] := fun e => by rw [e] at hm; simp at hm
    obtain ⟨L, c, rfl⟩ : ∃ L c, L1 = L ++ [c] := ⟨L1.dropLast, L1.getLast hne, (List.dropLast_concat_getLast hne).symm⟩
    have hL : L.length = m := by simp at hm; exact hm
    have hC' : yC B = L ++ c :: L2 := by rw [hC]; simp
    have hv : (yC B)[L.length]? = some c := by rw [hC']; exact yat
    have hlen : (yC B).length = L.length + L2.length + 1 := by rw [hC']; simp; omega
    simp only [List.length_append, List.length_singleton] at h30
    obtain ⟨ca, c1, c2, c3, c4⟩ := rRi_co h
    obtain ⟨a, a1, -, a2, a3, -, -, a6, -⟩ := c4 _ c hv
    have hel := yExp_le (t := yS B 0) (L := L)
    unfold p_X14_tick_78
    refine ⟨fun q => absurd q (by omega), fun _ => ⟨ca, c1, c2, ⟨by omega, by omega⟩, a, by rw [show (((m + 1 : Nat) : Int) - 1).toNat = L.length by omega]; exact a1, a2, ⟨by omega, by omega⟩, ?_⟩⟩
    rw [a6, h.2.1.1]
    refine ⟨fun he => ?_, fun he => ?_⟩
    · have e1 := yExp_y (L := L) he
      rw [e1] at hn hq
      simp only [List.length_append, List.length_singleton] at hn hq
      refine ⟨1, by omega, s_delCoupon (i := L.length) (by omega) h hl hD hps (by omega) (by omega) hF c1 (Nat.le_refl _) (fun a' cl' t' M' w1 w2 w3 => fun t109 e109 => ?_)⟩
      subst e109
      have eer : (yC B).eraseIdx L.length = L ++ L2 := by rw [hC']; exact yer
      rw [eer] at w1
      have h8 : M' r 8 = yS B 7 := w1.2.1.2.1
      rw [h8]
      refine ⟨⟨by omega, by omega⟩, fun M119 e119 => ⟨⟨by omega, by omega⟩, ?_⟩⟩
      have ok1 : rOk (yCw B (L ++ L2)) := ok
      have q1 := rRi_wr (fj := 8) (pl := 7) (v := yS B 7 + 1) w1 ok1 (by simp)
      rw [← e119] at q1
      have ok2 := rOk_w (k := 7) (v := yS B 7 + 1) ok1 ⟨by decide, by decide, by decide, by omega⟩
      have fr1 : rFr P t M (xwr t' r 5 (some a')) M119 := by rw [e119]; exact rFr_w w2 (Or.inr h.1.2)
      have e0 : yS (yw (yCw B (L ++ L2)) 7 (yS B 7 + 1)) 0 = yS B 0 := by rw [yS_w, yup_n (by decide)]; rfl
      have e7 : yS (yw (yCw B (L ++ L2)) 7 (yS B 7 + 1)) 7 = yS B 7 + 1 := by rw [yS_w, yup_s]
      rw [show ((m + 1 : Nat) : Int) - 1 + -1 = (m : Int) - 1 by omega]
      refine ih L L2 k (n - 1) _ cl' _ M119 hL (by omega) q1 ok2 rfl (by omega) (by rw [e7]; omega) (by rw [e7]; omega) w2.1 (rDd_fr hD w2) w3 (by rw [e0]; omega) (fun cl2 t2 M2 n2 u1 u2 u3 u4 => hq cl2 t2 M2 n2 (rRi_S u1 ?_ ?_ rfl) (rFr_trans fr1 u2) u3 (by rw [e0] at u4; omega))
      · show yup (yS B) 7 _ = yup (yup (yS B) 7 (yS B 7 + 1)) 7 _
        rw [yup_yup, e0, e7]
        congr 1
        omega
      · show yExp (yS B 0) L ++ L2 = yExp _ L ++ L2
        rw [e0]
    · have e1 := yExp_n (L := L) he
      rw [e1] at hn hq
      simp only [List.length_append, List.length_singleton] at hn hq
      rw [show ((m + 1 : Nat) : Int) - 1 + -1 = (m : Int) - 1 by omega]
      refine ⟨⟨by omega, by omega⟩, ih L (c :: L2) k n B cl t M hL (by omega) h ok hC' (by simp; omega) h7 (by omega) hl hD hps (by omega) (fun cl2 t2 M2 n2 u1 u2 u3 u4 => hq cl2 t2 M2 n2 (rRi_S u1 ?_ ?_ rfl) u2 u3 (by omega))⟩
      · show yup (yS B) 7 _ = yup (yS B) 7 _
        congr 1
        omega
      · show yExp (yS B 0) L ++ [c] ++ L2 = yExp _ L ++ c :: L2
        simp
theorem yQx_rf {A : yA} (hI : yI A) (hx : yQx A) : yQx (yRf 1 A) := yQx_eq hI rfl (fun k hk => ySt_rfn.2 k (by omega)) hx
theorem yPh_time {A : yA} {v : Int} (hN : yN A) : yPh (yw A 0 v) = yPh A := by
  unfold yPh
  rw [yTot_of (A := A) (B := yw A 0 v) (by rw [yS_w, yup_n (by omega)]) (fun p a b => by rw [yS_w, yup_n (by omega)]) hN, show yS (yw A 0 v) 6 = yS A 6 from by rw [yS_w, yup_n (by omega)]]
  rfl
theorem yQx_tick {A : yA} (hJ : yJ A) (ht : yS A 0 < 11000) (hx : yQx A) (hj : yQj 0 A) : yQx (yTick A) ∧ yQj 0 (yTick A) ∧ yPh A ≤ yPh (yTick A) := by
  obtain ⟨hI, h7⟩ := hJ
  obtain ⟨n1, n2, n3, n4, n5, n6⟩ := id hI.1.1
  obtain ⟨a1, a2⟩ := yI_rf (t := 1) hI (by decide)
  have e7 : yS (yRf 1 A) 7 = yS A 7 := ySt_rfn.2 7 (by omega)
  obtain ⟨b1, b2, b3⟩ := yI_ex a1 (by rw [e7, a2.2]; exact h7)
  have x1 := yQx_rf hI hx
  have hSe : ∀ k, k ≠ 7 → yS (yExA (yRf 1 A)) k = yS (yRf 1 A) k := fun k hk => yup_n hk
  have x2 : yQx (yExA (yRf 1 A)) := yQx_eq a1 rfl (fun k hk => hSe k (by omega)) x1
  have j1 : yQj 0 (yRf 1 A) := yQj_eq hI.1.1 (fun k hk => ySt_rfn.2 k (by omega)) hj
  have j2 : yQj 0 (yExA (yRf 1 A)) := yQj_eq a1.1.1 (fun k hk => hSe k (by omega)) j1
  have e3 : yS (yExA (yRf 1 A)) 3 = yS A 3 := by rw [b2.1.1 3 (by unfold yStat; omega), a2.1.1 3 (by unfold yStat; omega)]
  obtain ⟨x3, j3, p3⟩ := yQx_ars (yS A 3).toNat 0 _ b1 b3 x2 j2 (by decide) (by omega)
  obtain ⟨c1, c2, c3, c4⟩ := yI_ars (yS A 3).toNat 0 _ b1 b3 (by decide) (by omega)
  have k13 := yTk_trans (yTk_trans a2 b2) c2
  obtain ⟨d1, d2, x4, j4, p4⟩ := yQx_opg (nf := (yS A 2).toNat) (yS A 1).toNat 0 _ c1 x3 (by decide) (by rw [k13.1.1 1 (by unfold yStat; omega)]; omega) (by rw [k13.1.1 2 (by unfold yStat; omega)]; omega)
  have k14 := yTk_trans k13 d2
  have hT : yTick A = yw (yOpg (yS A 2).toNat (yS A 1).toNat 0 (yArs (yS A 3).toNat 0 (yExA (yRf 1 A)))) 0 (yS A 0 + 1) := rfl
  have p1 : yPh A ≤ yPh (yExA (yRf 1 A)) := by
    have hle := yExp_le (t := yS (yRf 1 A) 0) (L := yC (yRf 1 A))
    have e := yPh_S (A := A) (B := yExA (yRf 1 A)) (fun k k0 k7 k5 => by rw [hSe k k7]; exact ySt_rfn.2 k k5) hle hI.1.1
    have e2 : (yC (yExA (yRf 1 A))).length ≤ (yC A).length := hle
    omega
  have jj := j4 _ j3
  rw [hT]
  refine ⟨yQx_eq d1 rfl (fun k hk => yup_n (by omega)) x4, fun q a b c => ?_, by rw [yPh_time d1.1.1]; omega⟩
  rw [yS_w, yup_n (by omega)] at b c
  rw [yS_w, yup_n (by omega), yup_s]
  have := jj q a b c
  rw [k14.2] at this
  omega
set_option maxHeartbeats 4000000 in
theorem s_tick (hF : 60 ≤ F) (hg : rGd P S RA t M r A) (h7 : yS A 7 ≤ 30 * yS A 0) (ht : yS A 0 < 11000) (hj : yQj 0 A) (hn : yPh (yTick A) - yPh A ≤ n) (hq : ∀ t' M', rGd P S RA t' M' r (yTick A) → rFr P t M t' M' → Q t' M') : p_X14_tick F n t r M Q := by
  obtain ⟨⟨σ, cl, h⟩, hI, hx, hl, hD, hps⟩ := id hg
  obtain ⟨n1, n2, n3, n4, n5, n6⟩ := id hI.1.1
  obtain ⟨a1, a2⟩ := yI_rf (t := 1) hI (by decide)
  have e7 : yS (yRf 1 A) 7 = yS A 7 := ySt_rfn.2 7 (by omega)
  obtain ⟨b1, b2, b3⟩ := yI_ex a1 (by rw [e7, a2.2]; exact h7)
  have x1 := yQx_rf hI hx
  have hSe : ∀ k, k ≠ 7 → yS (yExA (yRf 1 A)) k = yS (yRf 1 A) k := fun k hk => yup_n hk
  have x2 : yQx (yExA (yRf 1 A)) := yQx_eq a1 rfl (fun k hk => hSe k (by omega)) x1
  have j1 : yQj 0 (yRf 1 A) := yQj_eq hI.1.1 (fun k hk => ySt_rfn.2 k (by omega)) hj
  have j2 : yQj 0 (yExA (yRf 1 A)) := yQj_eq a1.1.1 (fun k hk => hSe k (by omega)) j1
  have e3 : yS (yExA (yRf 1 A)) 3 = yS A 3 := by rw [b2.1.1 3 (by unfold yStat; omega), a2.1.1 3 (by unfold yStat; omega)]
  obtain ⟨x3, j3, p3⟩ := yQx_ars (yS A 3).toNat 0 _ b1 b3 x2 j2 (by decide) (by omega)
  obtain ⟨c1, c2, c3, c4⟩ := yI_ars (yS A 3).toNat 0 _ b1 b3 (by decide) (by omega)
  have k13 := yTk_trans (yTk_trans a2 b2) c2
  obtain ⟨d1, d2, x4, j4, p4⟩ := yQx_opg (nf := (yS A 2).toNat) (yS A 1).toNat 0 _ c1 x3 (by decide) (by rw [k13.1.1 1 (by unfold yStat; omega)]; omega) (by rw [k13.1.1 2 (by unfold yStat; omega)]; omega)
  have k14 := yTk_trans k13 d2
  have hT : yTick A = yw (yOpg (yS A 2).toNat (yS A 1).toNat 0 (yArs (yS A 3).toNat 0 (yExA (yRf 1 A)))) 0 (yS A 0 + 1) := rfl
  have hle := yExp_le (t := yS A 0) (L := yC A)
  have e0 : yS (yRf 1 A) 0 = yS A 0 := ySt_rfn.2 0 (by omega)
  have eC : yC (yRf 1 A) = yC A := rfl
  have ph1 : yPh A + (yC A).length - (yExp (yS A 0) (yC A)).length = yPh (yExA (yRf 1 A)) := by
    have hCe : yC (yExA (yRf 1 A)) = yExp (yS A 0) (yC A) := by show yExp (yS (yRf 1 A) 0) (yC (yRf 1 A)) = _; rw [e0, eC]
    have e := yPh_S (A := A) (B := yExA (yRf 1 A)) (fun k k0 k7 k5 => by rw [hSe k k7]; exact ySt_rfn.2 k k5) (by rw [hCe]; exact hle) hI.1.1
    rw [hCe] at e; exact e
  have hx' := yQx_tick ⟨hI, h7⟩ ht hx hj
  have hI' := (yTick_I ⟨hI, h7⟩ ht).1.1
  rw [hT, yPh_time d1.1.1] at hn
  obtain ⟨i7a, i7b, i0a, i0b⟩ := hI.2.2.2.2.2.2.1.2.2.2
  have i5 := hI.2.2.2.2.1.1
  unfold p_X14_tick
  refine s_2 hl hI (by omega) (yS A 1).toNat F 0 M (by omega) (by omega) (by decide) (by
    have : yRfn 1 (6 * 0) A = A := by unfold yRfn; rw [Int.mul_zero, yRfS_0]; rfl
    rw [this]; exact h) (fun M1 u1 u2 => ?_)
  obtain ⟨ca, cA1, cA2, cA3, -⟩ := rRi_co u1
  rw [eC] at cA3
  unfold p_X14_tick_70
  refine ⟨ca, cA1, cA2, ⟨by omega, by omega⟩, ⟨by omega, by omega⟩, fun z77 ez => ?_⟩
  rw [cA3] at ez
  subst ez
  refine s_78 (by omega) (yC A).length (yC A) [] F n (yRf 1 A) cl t M1 rfl (by omega) u1 (rOk_of a1.1) (by rw [eC]; simp) (by simp; omega) (by rw [e7]; omega) (by rw [e7]; omega) hl hD hps (by rw [e0]; omega) (fun cl2 t2 M2 n2 v1 v2 v3 v4 => ?_)
  rw [e0] at v1 v4
  have v1' : rRi P S σ RA cl2 t2 M2 r (yExA (yRf 1 A)) := rRi_S v1 (by
    show yup (yS (yRf 1 A)) 7 (yS (yRf 1 A) 7 + (((yC (yRf 1 A)).length : Int) - (yExp (yS (yRf 1 A) 0) (yC (yRf 1 A))).length)) = yup (yS (yRf 1 A)) 7 (yS (yRf 1 A) 7 + ((yC A).length - (yExp (yS A 0) (yC A)).length : Nat))
    rw [e0, eC]
    congr 1
    omega) (by
    show yExp (yS (yRf 1 A) 0) (yC (yRf 1 A)) = yExp (yS A 0) (yC A) ++ []
    rw [e0, eC, List.append_nil]) rfl
  have g2 := rGd_fr hg v1' b1 x2 (rFr_trans u2 v2) v3
  have fr2 := rFr_trans u2 v2
  obtain ⟨pb, pb1, pb2, pb3, pb4⟩ := rRi_pk v1'
  unfold p_X14_tick_128
  refine ⟨pb, pb1, pb2, ⟨by omega, by omega⟩, fun z135 ez => ?_⟩
  rw [pb3] at ez
  subst ez
  refine s_138 (by omega) (yS A 3).toNat F n2 0 _ t2 M2 g2 b3 j2 pb2 pb3 (fun p a b => (pb4 p a b).1) (by omega) (by omega) (by
    have hh : yPh (yArs (yS A 3).toNat ((0 : Nat) : Int) (yExA (yRf 1 A))) = yPh (yArs (yS A 3).toNat 0 (yExA (yRf 1 A))) := rfl
    omega) (fun t3 M3 n3' w1 w2 w3 => ?_)
  unfold p_X14_tick_186
  have w1' : rGd P S RA t3 M3 r (yArs (yS A 3).toNat 0 (yExA (yRf 1 A))) := w1
  have w3' : (n2 : Int) - (yPh (yArs (yS A 3).toNat 0 (yExA (yRf 1 A))) - yPh (yExA (yRf 1 A))) ≤ n3' := w3
  refine s_188 (by omega) (nf := (yS A 2).toNat) (yS A 1).toNat F n3' 0 _ t3 M3 w1' (by decide) (by rw [k13.1.1 2 (by unfold yStat; omega)]; omega) (by rw [k13.1.1 1 (by unfold yStat; omega)]; omega) (by omega) (by omega) (fun t4 M4 n4' y1 y2 y3 => ?_)
  obtain ⟨⟨σ4, cl4, h4⟩, -, -, hl4, -, hps4⟩ := id y1
  have hM0 : M4 r 0 = yS A 0 := by rw [h4.2.1.1]; exact k14.2
  unfold p_X14_tick_236
  rw [hM0]
  refine ⟨⟨by omega, by omega⟩, fun M5 e5 => ?_⟩
  have q5 := rRi_wr (fj := 0) (pl := 0) (v := yS A 0 + 1) h4 (rOk_of d1.1) (by simp)
  rw [← e5, ← hT] at q5
  have fr5 : rFr P t M t4 M5 := by rw [e5]; exact rFr_w (rFr_trans fr2 (rFr_trans w2 y2)) (Or.inr h.1.2)
  exact hq t4 M5 (rGd_fr hg q5 hI' hx'.1 fr5 hps4) fr5
end RTL
