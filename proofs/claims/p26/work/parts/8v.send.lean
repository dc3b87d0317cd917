/-! A PACKET IS SENT, on the Road's side -/
section RSN
variable {P S : Nat → Prop} {σ σ' : Nat → Int} {RA RA' : Int → Nat} {cl : List Nat} {t t' : xTh} {M M' : xMe} {r F n : Nat} {A : yA} {Sf Sf' : Int → Int}
theorem rBl_S {k : Nat} {n s0 d : Int} {len : Int → Int} (h : rBl P σ RA t M Sf r k n s0 d len) (e : ∀ i j, 0 ≤ i → i < n → 0 ≤ j → j < len i → Sf' (s0 + d * i + j) = Sf (s0 + d * i + j)) : rBl P σ RA t M Sf' r k n s0 d len := ⟨h.1, fun i a b => by
  obtain ⟨q1, q2, q3, q4, q5⟩ := h.2 i a b
  exact ⟨q1, q2, q3, q4, fun j ja jb => by rw [e i j a b ja jb]; exact q5 j ja jb⟩⟩
theorem rTk_mv {ng nf : Int} (h : rTk P σ RA t M Sf r ng nf) (f : rFr rNo t M t' M') (er : xr t' r 7 = xr t r 7) (hR : ∀ i, 0 ≤ i → i < 6 → RA' (561 + 24 * i) = RA (561 + 24 * i)) (hσ : ∀ c, xk t c ≤ 22 → σ' c = σ c) (hS : ∀ g f, 0 ≤ g → g < ng → 0 ≤ f → f < nf → Sf' (561 + 4 * (6 * g + f)) = Sf (561 + 4 * (6 * g + f))) : rTk P σ' RA' t' M' Sf' r ng nf := by
  obtain ⟨⟨b, h1, h2, h3, h3', h3''⟩, h4⟩ := h
  obtain ⟨f1, f2, -, -⟩ := f.2 b (by omega)
  refine ⟨⟨b, by rw [er]; exact h1, h2, f1.trans h3, by rw [f2]; exact h3', fun i a c => by rw [rFr_17 f h3, hR i a c]; exact h3'' i a c⟩, fun i a c => ?_⟩
  obtain ⟨g1, g2, g3, g4, g5⟩ := h4 i a c
  obtain ⟨f1, f2, f3, -⟩ := f.2 (RA (561 + 24 * i)) (by rw [g3]; decide)
  rw [hR i a c]
  exact ⟨(hσ _ (by rw [g3]; decide)).trans g1, g2, f1.trans g3, f2.trans g4, fun w j ja jb => by rw [(f3 id).1, hS i j a w ja jb]; exact g5 w j ja jb⟩
theorem rCp_mv {C : List yCo} (h : rCp P σ t M r cl C) (f : rFr rNo t M t' M') (er : xr t' r = xr t r) (hσ : ∀ c, xk t c ≤ 22 → σ' c = σ c) : rCp P σ' t' M' r cl C := by
  have g := rCp_fr h f (fun _ _ z => z) er
  refine ⟨g.1, g.2.1, g.2.2.1, fun i c v hc hv => ?_⟩
  obtain ⟨q1, q2⟩ := g.2.2.2 i c v hc hv
  exact ⟨(hσ c (by rw [(h.2.2.2 i c v hc hv).2.2.1]; decide)).trans (h.2.2.2 i c v hc hv).1, q2⟩
set_option maxHeartbeats 4000000 in
theorem s_addPacket {Q : Nat → xTh → xMe → Prop} {f T z : Int} (h : rRi P S σ RA cl t M r A) (hN : rOk A) (h40 : yS A 3 < 40) (hl : xlive t) (hD : rDd P t) (hps : rPs t r 40) (hF : 50 ≤ F) {b : Nat} (hb : xr t r 4 = some b) (hn : 1 ≤ n) (hq : ∀ a σ' RA' t' M', rRi P S σ' RA' cl (xwr t' r 4 (some a)) M' r (ySnd A f T z) → rFr P t M (xwr t' r 4 (some a)) M' → rPs (xwr t' r 4 (some a)) r 40 → Q a t' M') : p_L_with F n (xnw t 14 8) b (xz t) (xw (xw (xw (xw (xw (xw (xw (xw (xw0 M (xz t)) (xz t) 0 f) (xz t) 1 T) (xz t) 2 z) (xz t) 3 0) (xz t) 4 0) (xz t) 5 0) (xz t) 6 (-1)) (xz t) 7 0) Q := by
  obtain ⟨⟨n1, n2, n3, n4, n5, n6⟩, hro⟩ := id hN
  have hz := xlive_z hl
  have zo : ∀ {t1 M1}, rFr rNo t M t1 M1 → ∀ j v, rFr rNo t M t1 (xw M1 (xz t) j v) := fun {t1 M1} g j v => rFr_w g (Or.inl hz)
  have f0 : rFr rNo t M (xnw t 14 8) (xw (xw (xw (xw (xw (xw (xw (xw (xw0 M (xz t)) (xz t) 0 f) (xz t) 1 T) (xz t) 2 z) (xz t) 3 0) (xz t) 4 0) (xz t) 5 0) (xz t) 6 (-1)) (xz t) 7 0) := zo (zo (zo (zo (zo (zo (zo (zo (rFr_n (rFr_refl hl)) 0 f) 1 T) 2 z) 3 0) 4 0) 5 0) 6 (-1)) 7 0
  obtain ⟨⟨hk, hPr⟩, hsc, hga, hfl, hrt, hpk, htk, hcp, htm⟩ := id h
  obtain ⟨⟨b9, b1, b2, b3, b4, b5⟩, b6⟩ := id hpk
  rw [hb] at b1
  cases b1
  have hrz : r ≠ xz t := fun e => by rw [e] at hk; omega
  obtain ⟨fb1, fb2, -, -⟩ := f0.2 b (by omega)
  have fbr := rFr_17 f0 b3
  have hm40 : xn t b < 40 := by omega
  refine s_with f0.1 (fb1.trans b3) (by omega) (fun i hi => ?_) (by omega) hn (fun t' f1 k1 nn1 r1 r2 z1 => ?_)
  · have hi2 : i < xn t b := by omega
    have q := b5 i (by omega) (by omega)
    rw [Int.toNat_natCast] at q
    obtain ⟨-, -, q3, -, -⟩ := b6 i (by omega) (by omega)
    exact ⟨_, by rw [fbr]; exact q, (f0.2 _ (by rw [q3]; decide)).1.trans q3⟩
  have hne : xz t ≠ xz (xnw t 14 8) := by rw [xz_nw]; omega
  have eM : ∀ (N : xMe) j, xw0 N (xz (xnw t 14 8)) (xz t) j = N (xz t) j := fun N j => by rw [xw0_B hne]
  have fr := rFr_trans f0 f1
  have fz := f1.2 (xz t) (by rw [xk_nw, if_pos rfl]; decide)
  have ho : ∀ c, xk t c ≤ 22 → (fun a => if a = xz t then 81 + 9 * yS A 3 else σ a : Nat → Int) c = σ c := fun c hc => if_neg (fun e => by rw [e] at hc; omega)
  have hRA : ∀ s, s ≠ 81 + 9 * yS A 3 → (fun s => if s = 81 + 9 * yS A 3 then xz t else RA s : Int → Nat) s = RA s := fun s hs => if_neg hs
  have hSo : ∀ k, k ≠ 3 → ¬ (81 + 9 * yS A 3 ≤ k ∧ k < 90 + 9 * yS A 3) → yS (ySnd A f T z) k = yS A k := fun k a c => by
    show (if k = 3 then yS A 3 + 1 else if 81 + 9 * yS A 3 ≤ k ∧ k < 90 + 9 * yS A 3 then yPq f T z (k - (81 + 9 * yS A 3)) else yS A k) = _
    rw [if_neg a, if_neg c]
  have hSn : ∀ j, 0 ≤ j → j < 9 → yS (ySnd A f T z) (81 + 9 * yS A 3 + j) = yPq f T z j := fun j a c => by
    show (if 81 + 9 * yS A 3 + j = 3 then yS A 3 + 1 else if 81 + 9 * yS A 3 ≤ 81 + 9 * yS A 3 + j ∧ 81 + 9 * yS A 3 + j < 90 + 9 * yS A 3 then yPq f T z (81 + 9 * yS A 3 + j - (81 + 9 * yS A 3)) else yS A _) = _
    rw [if_neg (by omega), if_pos ⟨by omega, by omega⟩]
    congr 1; omega
  have hS3 : yS (ySnd A f T z) 3 = yS A 3 + 1 := by
    unfold ySnd yS
    dsimp only
    rw [if_pos rfl]
  have frr : ∀ k, xr t' r k = xr t r k := fun k => by rw [((fr.2 r (by omega)).2.2.1 id).2]
  have frr' : xr t' r = xr t r := funext frr
  have hk' : xk t' r = 20 := (fr.2 r (by omega)).1.trans hk
  have e1 : yS (ySnd A f T z) 1 = yS A 1 := hSo 1 (by omega) (by omega)
  have e2 : yS (ySnd A f T z) 2 = yS A 2 := hSo 2 (by omega) (by omega)
  have rowz : xk t' (xz t) = 14 ∧ xn t' (xz t) = 8 := ⟨fz.1.trans (by rw [xk_nw, if_pos rfl]), fz.2.1.trans (by rw [xn_nw, if_pos rfl])⟩
  have hbz : xz (xnw t 14 8) ≠ r := fun e => by rw [e] at k1; omega
  refine hq _ (fun a => if a = xz t then 81 + 9 * yS A 3 else σ a) (fun s => if s = 81 + 9 * yS A 3 then xz t else RA s) t' _ ⟨⟨hk', hPr⟩, ?_, ?_, ?_, ?_, ?_, ?_, ?_, ?_⟩ (rFr_20 (rFr_of fr) hPr hk) (rPs_wr (rPs_fr hps fr (by omega)) hk' (by decide))
  · have hMr : xw0 (xw (xw (xw (xw (xw (xw (xw (xw (xw0 M (xz t)) (xz t) 0 f) (xz t) 1 T) (xz t) 2 z) (xz t) 3 0) (xz t) 4 0) (xz t) 5 0) (xz t) 6 (-1)) (xz t) 7 0) (xz (xnw t 14 8)) r = M r := ((fr.2 r (by omega)).2.2.1 id).1
    unfold rSc
    rw [hMr, hSo 0 (by omega) (by omega), hSo 7 (by omega) (by omega), hSo 8 (by omega) (by omega), hSo 9 (by omega) (by omega), hSo 10 (by omega) (by omega), hSo 11 (by omega) (by omega)]
    exact hsc
  · rw [e1]
    exact rBl_wr (rBl_S (rBl_mv hga fr (frr 1) (fun i a c => hRA _ (by omega)) ho) (fun i j a c ja jb => hSo _ (by omega) (by omega))) hk' (by decide)
  · rw [e2]
    exact rBl_wr (rBl_S (rBl_mv hfl fr (frr 2) (fun i a c => hRA _ (by omega)) ho) (fun i j a c ja jb => hSo _ (by omega) (by omega))) hk' (by decide)
  · rw [e2]
    exact rBl_l (rBl_wr (rBl_S (rBl_mv hrt fr (frr 3) (fun i a c => hRA _ (by omega)) ho) (fun i j a c ja jb => by have := hro i a c; exact hSo _ (by omega) (by omega))) hk' (by decide)) (fun i a c => hSo _ (by omega) (by omega))
  · rw [hS3]
    refine ⟨⟨xz (xnw t 14 8), if_pos ⟨rfl, rfl⟩, rDd_z (rDd_fr hD f0) f0.1, k1, by show ((xn t' (xz (xnw t 14 8)) : Nat) : Int) = _; omega, fun i a c => ?_⟩, fun i a c => ?_⟩
    · rw [xr_wrn hbz]
      by_cases e : i = yS A 3
      · rw [e, show (yS A 3).toNat = xn (xnw t 14 8) b by omega, r2]
        show some (xz t) = some (if 81 + 9 * yS A 3 = 81 + 9 * yS A 3 then xz t else _)
        rw [if_pos rfl]
      · rw [r1 i.toNat (by omega), fbr, b5 i a (by omega), hRA _ (by omega)]
    · by_cases e : i = yS A 3
      · subst e
        have hr' : (fun s => if s = 81 + 9 * yS A 3 then xz t else RA s : Int → Nat) (81 + 9 * yS A 3) = xz t := if_pos rfl
        rw [hr']
        refine ⟨if_pos rfl, rDd_z hD hl, rowz.1, by show ((xn t' (xz t) : Nat) : Int) = 8; omega, fun j ja jb => ?_⟩
        have jb' : j < 8 := jb
        rw [eM, hSn j ja (by omega)]
        have : j = 0 ∨ j = 1 ∨ j = 2 ∨ j = 3 ∨ j = 4 ∨ j = 5 ∨ j = 6 ∨ j = 7 := by omega
        rcases this with rfl | rfl | rfl | rfl | rfl | rfl | rfl | rfl <;> simp [xw, yPq]
      · obtain ⟨q1, q2, q3, q4, q5⟩ := b6 i a (by omega)
        obtain ⟨g1, g2, g3, -⟩ := fr.2 (RA (81 + 9 * i)) (by rw [q3]; decide)
        rw [hRA _ (by omega)]
        refine ⟨(ho _ (by rw [q3]; decide)).trans q1, q2, g1.trans q3, by show ((xn t' _ : Nat) : Int) = 8; rw [g2]; exact q4, fun j ja jb => ?_⟩
        rw [(g3 id).1, hSo _ (by omega) (by dsimp only at jb; omega)]
        exact q5 j ja jb
  · rw [e1, e2]
    exact rTk_wr (rTk_mv htk fr (frr 7) (fun i a c => hRA _ (by omega)) ho (fun g f ga gb fa fb => hSo _ (by omega) (by omega))) hk' (by decide)
  · exact rCp_wr (rCp_mv hcp fr frr' ho) hk' (by decide)
  · rw [xr_wr, if_neg (by omega), frr]
    exact rTm_wr (rTm_fr htm fr (fun _ _ z => z)) hk'
end RSN
