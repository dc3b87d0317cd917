/-! ARRIVALS -/
/-- what pays for the Road's new arrays -/
def yPh (A : yA) : Int := 4 * yTot A + 3 * yS A 6 - ((yC A).length : Int)
theorem yTot_of {A B : yA} (h3 : yS B 3 = yS A 3) (h : ∀ p, 0 ≤ p → p < 40 → yS B (85 + 9 * p) = yS A (85 + 9 * p)) (hN : yN A) : yTot B = yTot A := by
  have := hN.2.2.2.2.2
  unfold yTot
  rw [h3]
  exact ySp2_eq (fun p a b => h p a (by omega))
theorem rOk_of {A : yA} (h : yI1 A) : rOk A := ⟨h.1, fun f a b => by have := h.2.2.1 f a b; omega⟩
theorem rOk_w {A : yA} {k v : Int} (h : rOk A) (hk : yFx k) : rOk (yw A k v) := by
  obtain ⟨k1, k2, k3, k4⟩ := hk
  refine ⟨yN_w h.1 ⟨k1, k2, k3, k4⟩, fun f a b => ?_⟩
  have e2 : yS (yw A k v) 2 = yS A 2 := yup_n (by omega)
  have n2 := h.1.2.2.2.1
  rw [show yS (yw A k v) (33 + 8 * f) = yS A (33 + 8 * f) from yup_n (by omega)]
  exact h.2 f a (by omega)
section RAR
variable {P S : Nat → Prop} {σ : Nat → Int} {RA : Int → Nat} {cl : List Nat} {t : xTh} {M : xMe} {r : Nat} {A : yA} {F n : Nat} {f g p w v : Int}
theorem rRi_w3 (h : rRi P S σ RA cl t M r A) (hN : rOk A) (p0 : 0 ≤ p) (p1 : p < yS A 3) : rRi P S σ RA cl t (xw M (RA (81 + 9 * p)) 3 v) r (yw A (84 + 9 * p) v) := by
  have := rRi_wp (v := v) h hN p0 p1 (j := 3) (by decide) (by decide)
  rw [show 81 + 9 * p + 3 = 84 + 9 * p by omega] at this; exact this
theorem rRi_w4 (h : rRi P S σ RA cl t M r A) (hN : rOk A) (p0 : 0 ≤ p) (p1 : p < yS A 3) : rRi P S σ RA cl t (xw M (RA (81 + 9 * p)) 4 v) r (yw A (85 + 9 * p) v) := by
  have := rRi_wp (v := v) h hN p0 p1 (j := 4) (by decide) (by decide)
  rw [show 81 + 9 * p + 4 = 85 + 9 * p by omega] at this; exact this
theorem rRi_w5 (h : rRi P S σ RA cl t M r A) (hN : rOk A) (p0 : 0 ≤ p) (p1 : p < yS A 3) : rRi P S σ RA cl t (xw M (RA (81 + 9 * p)) 5 v) r (yw A (86 + 9 * p) v) := by
  have := rRi_wp (v := v) h hN p0 p1 (j := 5) (by decide) (by decide)
  rw [show 81 + 9 * p + 5 = 86 + 9 * p by omega] at this; exact this
theorem rRi_w6 (h : rRi P S σ RA cl t M r A) (hN : rOk A) (p0 : 0 ≤ p) (p1 : p < yS A 3) : rRi P S σ RA cl t (xw M (RA (81 + 9 * p)) 6 v) r (yw A (87 + 9 * p) v) := by
  have := rRi_wp (v := v) h hN p0 p1 (j := 6) (by decide) (by decide)
  rw [show 81 + 9 * p + 6 = 87 + 9 * p by omega] at this; exact this
theorem rRi_w7 (h : rRi P S σ RA cl t M r A) (hN : rOk A) (p0 : 0 ≤ p) (p1 : p < yS A 3) : rRi P S σ RA cl t (xw M (RA (81 + 9 * p)) 7 v) r (yw A (88 + 9 * p) v) := by
  have := rRi_wp (v := v) h hN p0 p1 (j := 7) (by decide) (by decide)
  rw [show 81 + 9 * p + 7 = 88 + 9 * p by omega] at this; exact this
theorem rRi_pP (h : rRi P S σ RA cl t M r A) (p0 : 0 ≤ p) (p1 : p < yS A 3) : P (RA (81 + 9 * p)) := (h.2.2.2.2.2.1.2 p p0 p1).2.1
/-- another reference field of the Road is set -/
theorem rBl_wr {Sf : Int → Int} {k j : Nat} {n s0 d : Int} {len : Int → Int} {o : Option Nat} (h : rBl P σ RA t M Sf r k n s0 d len) (hr : xk t r = 20) (hk : k ≠ j) : rBl P σ RA (xwr t r j o) M Sf r k n s0 d len := by
  obtain ⟨⟨b, b1, b2, b3, b4, b5⟩, h2⟩ := h
  have e : b ≠ r := fun e => by rw [e] at b3; omega
  exact ⟨⟨b, by rw [xr_wr, if_neg (by omega)]; exact b1, b2, b3, b4, fun i a c => by rw [xr_wrn e]; exact b5 i a c⟩, h2⟩
theorem rTk_wr {Sf : Int → Int} {j : Nat} {ng nf : Int} {o : Option Nat} (h : rTk P σ RA t M Sf r ng nf) (hr : xk t r = 20) (hk : 7 ≠ j) : rTk P σ RA (xwr t r j o) M Sf r ng nf := by
  obtain ⟨⟨b, b1, b2, b3, b4, b5⟩, h2⟩ := h
  have e : b ≠ r := fun e => by rw [e] at b3; omega
  exact ⟨⟨b, by rw [xr_wr, if_neg (by omega)]; exact b1, b2, b3, b4, fun i a c => by rw [xr_wrn e]; exact b5 i a c⟩, h2⟩
theorem rCp_wr {C : List yCo} {j : Nat} {o : Option Nat} (h : rCp P σ t M r cl C) (hr : xk t r = 20) (hk : 5 ≠ j) : rCp P σ (xwr t r j o) M r cl C := by
  obtain ⟨⟨b, b1, b2, b3, b4, b5⟩, h2⟩ := h
  have e : b ≠ r := fun e => by rw [e] at b3; omega
  exact ⟨⟨b, by rw [xr_wr, if_neg (by omega)]; exact b1, b2, b3, b4, fun i a => by rw [xr_wrn e]; exact b5 i a⟩, h2⟩
theorem rNd_wr {j : Nat} {o : Option Nat} (hr : xk t r = 20) : ∀ (d q : Nat) (K : List Int), rNd S t M d q K → rNd S (xwr t r j o) M d q K
  | 0, _, _, h => h.elim
  | d + 1, q, K, h => by
    obtain ⟨h1, h2, h3⟩ := h
    have e : q ≠ r := fun e => by rw [e] at h2; omega
    refine ⟨h1, h2, ?_⟩
    rw [xr_wrn e]
    rcases h3 with h | h | ⟨h4, h5, l, r', Kl, Kr, h6, h7, h8, h9, h10⟩
    · exact Or.inl h
    · exact Or.inr (Or.inl h)
    · exact Or.inr (Or.inr ⟨h4, h5, l, r', Kl, Kr, h6, h7, rNd_wr hr d l Kl h8, rNd_wr hr d r' Kr h9, h10⟩)
theorem rTm_wr {j : Nat} {o q : Option Nat} {K : List Int} (h : rTm S t M q K) (hr : xk t r = 20) : rTm S (xwr t r j o) M q K := by
  cases q with
  | none => exact h
  | some q => exact rNd_wr hr 3 q K h
theorem rRi_c5 {b' : Nat} {cl' : List Nat} {C' : List yCo} (h : rRi P S σ RA cl t M r A) (hc : rCp P σ (xwr t r 5 (some b')) M r cl' C') : rRi P S σ RA cl' (xwr t r 5 (some b')) M r (yCw A C') := by
  obtain ⟨⟨h1, h1'⟩, h2, h3, h4, h5, h6, h7, h8, h9⟩ := id h
  refine ⟨⟨h1, h1'⟩, h2, rBl_wr h3 h1 (by decide), rBl_wr h4 h1 (by decide), rBl_wr h5 h1 (by decide), rBl_wr h6 h1 (by decide), rTk_wr h7 h1 (by decide), hc, ?_⟩
  rw [xr_wr, if_neg (by omega)]
  exact rTm_wr h9 h1
theorem rRi_6 {o : Option Nat} (h : rRi P S σ RA cl t M r A) : rRi P S σ RA cl (xwr t r 6 o) M r A := by
  obtain ⟨⟨h1, h1'⟩, h2, h3, h4, h5, h6, h7, h8, h9⟩ := id h
  refine ⟨⟨h1, h1'⟩, h2, rBl_wr h3 h1 (by decide), rBl_wr h4 h1 (by decide), rBl_wr h5 h1 (by decide), rBl_wr h6 h1 (by decide), rTk_wr h7 h1 (by decide), rCp_wr h8 h1 (by decide), ?_⟩
  rw [xr_wr, if_neg (by omega)]
  exact rTm_wr h9 h1
/-- a cell that is dead gets the tag 0 -/
def rTag (σ : Nat → Int) (c : Nat) : Nat → Int := fun a => if a = c then 0 else σ a
theorem rBl_tag {Sf : Int → Int} {k c : Nat} {n s0 d : Int} {len : Int → Int} (h : rBl P σ RA t M Sf r k n s0 d len) (hc : 22 < xk t c) : rBl P (rTag σ c) RA t M Sf r k n s0 d len := ⟨h.1, fun i a b => by
  obtain ⟨q1, q2, q3, q4, q5⟩ := h.2 i a b
  refine ⟨?_, q2, q3, q4, q5⟩
  unfold rTag
  rw [if_neg (fun e => by rw [e] at q3; omega)]; exact q1⟩
theorem rTk_tag {Sf : Int → Int} {c : Nat} {ng nf : Int} (h : rTk P σ RA t M Sf r ng nf) (hc : 22 < xk t c) : rTk P (rTag σ c) RA t M Sf r ng nf := ⟨h.1, fun i a b => by
  obtain ⟨q1, q2, q3, q4, q5⟩ := h.2 i a b
  refine ⟨?_, q2, q3, q4, q5⟩
  unfold rTag
  rw [if_neg (fun e => by rw [e] at q3; omega)]; exact q1⟩
theorem rCp_tag {C : List yCo} {c : Nat} (h : rCp P σ t M r cl C) : rCp P (rTag σ c) t M r cl C := ⟨h.1, h.2.1, h.2.2.1, fun i a v ha hv => by
  obtain ⟨q1, q2⟩ := h.2.2.2 i a v ha hv
  refine ⟨?_, q2⟩
  unfold rTag
  split
  · rfl
  · exact q1⟩
theorem rRi_tag {c : Nat} (h : rRi P S σ RA cl t M r A) (hc : 22 < xk t c) : rRi P S (rTag σ c) RA cl t M r A := by
  obtain ⟨h1, h2, h3, h4, h5, h6, h7, h8, h9⟩ := h
  exact ⟨h1, h2, rBl_tag h3 hc, rBl_tag h4 hc, rBl_tag h5 hc, rBl_tag h6 hc, rTk_tag h7 hc, rCp_tag h8, h9⟩
theorem rCp_live {C : List yCo} {c : Nat} (h : rCp P σ t M r cl C) (hc : 22 < xk t c) : c ∉ cl := fun hm => by
  obtain ⟨i, hi⟩ := List.getElem?_of_mem hm
  have hl := (List.getElem?_eq_some_iff.mp hi).1
  have hv : C[i]? = some (C[i]'(by have := h.2.1; omega)) := List.getElem?_eq_getElem (by have := h.2.1; omega)
  have := (h.2.2.2 i c _ hi hv).2.2.1
  omega
theorem rCp_app {C : List yCo} {c b' : Nat} {u : yCo} (h : rCp P σ t M r cl C) (hr : xk t r = 20) (hm : c ∉ cl) (hσ : σ c = 0) (hP : P c) (kc : xk t c = 14) (nc : xn t c = 4) (e0 : M c 0 = u.1) (e1 : M c 1 = u.2.1) (e2 : M c 2 = u.2.2.1) (e3 : M c 3 = u.2.2.2) (hb : P b') (kb : xk t b' = 17) (nb : xn t b' = cl.length + 1) (rb : ∀ i, i < cl.length → xr t b' i = cl[i]?) (rc : xr t b' cl.length = some c) : rCp P σ (xwr t r 5 (some b')) M r (cl ++ [c]) (C ++ [u]) := by
  obtain ⟨⟨b, b1, b2, b3, b4, b5⟩, h2, h3, h4⟩ := h
  have e : b' ≠ r := fun e => by rw [e] at kb; omega
  refine ⟨⟨b', if_pos ⟨rfl, rfl⟩, hb, kb, by rw [List.length_append]; exact nb, fun i hi => ?_⟩, by rw [List.length_append, List.length_append, h2]; rfl, ?_, fun i a w ha hw => ?_⟩
  · rw [xr_wrn e]
    rw [List.length_append, List.length_singleton] at hi
    by_cases q : i < cl.length
    · rw [List.getElem?_append_left q]; exact rb i q
    · have : i = cl.length := by omega
      subst this
      rw [rc]; simp
  · rw [List.nodup_append]
    exact ⟨h3, by simp, fun a ha b hb => by
      rw [List.mem_singleton] at hb
      subst hb
      exact fun e => hm (e ▸ ha)⟩
  · by_cases q : i < cl.length
    · rw [List.getElem?_append_left q] at ha
      rw [List.getElem?_append_left (by omega)] at hw
      exact h4 i a w ha hw
    · have hi := (List.getElem?_eq_some_iff.mp ha).1
      rw [List.length_append, List.length_singleton] at hi
      have : i = cl.length := by omega
      subst this
      rw [List.getElem?_append_right (Nat.le_refl _), Nat.sub_self] at ha
      rw [h2, List.getElem?_append_right (Nat.le_refl _), Nat.sub_self] at hw
      cases ha; cases hw
      exact ⟨hσ, hP, kc, nc, e0, e1, e2, e3⟩
theorem rPs_wr {j m : Nat} {o : Option Nat} (h : rPs t r m) (hr : xk t r = 20) (hj : j ≠ 6) : rPs (xwr t r j o) r m := by
  obtain ⟨b, b1, b2, b3, b4⟩ := h
  have e : b ≠ r := fun e => by rw [e] at b2; omega
  exact ⟨b, by rw [xr_wr, if_neg (by omega)]; exact b1, b2, b3, fun i hi => by rw [xr_wrn e]; exact b4 i hi⟩
/-- the array of the coupons, as with and without want it -/
theorem rCp_b {C : List yCo} (h : rCp P σ t M r cl C) : ∃ b, xr t r 5 = some b ∧ P b ∧ xk t b = 17 ∧ xn t b = cl.length ∧ cl.length = C.length ∧ (∀ i, i < cl.length → xr t b i = cl[i]?) ∧ ∀ i, i < cl.length → ∃ d, xr t b i = some d ∧ xk t d = 14 := by
  obtain ⟨⟨b, b1, b2, b3, b4, b5⟩, h2, h3, h4⟩ := h
  refine ⟨b, b1, b2, b3, b4, h2, b5, fun i hi => ⟨cl[i], by rw [b5 i hi]; exact List.getElem?_eq_getElem hi, ?_⟩⟩
  exact (h4 i _ _ (List.getElem?_eq_getElem hi) (List.getElem?_eq_getElem (by omega))).2.2.1
/-- a new coupon: its row is made, filled, and put behind the others -/
theorem s_addCoupon {Q : Nat → xTh → xMe → Prop} (h : rRi P S σ RA cl t M r A) (hl : xlive t) (hD : rDd P t) (hps : rPs t r 40) (hC : (yC A).length < 30) (hF : 50 ≤ F) {u0 u1 u2 u3 : Int} {b : Nat} (hb : xr t r 5 = some b) (hn : 1 ≤ n) (hq : ∀ a σ' cl' t' M', rRi P S σ' RA cl' (xwr t' r 5 (some a)) M' r (yCw A (yC A ++ [(u0, u1, u2, u3)])) → rFr P t M (xwr t' r 5 (some a)) M' → rPs (xwr t' r 5 (some a)) r 40 → Q a t' M') : p_L_with F n (xnw t 14 4) b (xz t) (xw (xw (xw (xw (xw0 M (xz t)) (xz t) 0 u0) (xz t) 1 u1) (xz t) 2 u2) (xz t) 3 u3) Q := by
  have hz := xlive_z hl
  have f0 : rFr rNo t M (xnw t 14 4) (xw (xw (xw (xw (xw0 M (xz t)) (xz t) 0 u0) (xz t) 1 u1) (xz t) 2 u2) (xz t) 3 u3) := rFr_w (rFr_w (rFr_w (rFr_w (rFr_n (rFr_refl hl)) (Or.inl hz)) (Or.inl hz)) (Or.inl hz)) (Or.inl hz)
  have g0 := rRi_ex (rRi_tag h hz) f0
  have hm := rCp_live h.2.2.2.2.2.2.2.1 hz
  obtain ⟨b9, b1, b2, b3, b4, b5, b6, b7⟩ := rCp_b g0.2.2.2.2.2.2.2.1
  have hbb : b9 = b := by
    have : xr (xnw t 14 4) r = xr t r := xr_nw (fun e => by have := h.1.1; rw [e] at this; omega)
    rw [this, hb] at b1
    exact (Option.some.inj b1).symm
  subst hbb
  have hlen : cl.length < 30 := by have : (yC A).length < 30 := hC; omega
  refine s_with f0.1 b3 (by omega) (fun i hi => b7 i (by omega)) (by omega) hn (fun t' f1 k1 n1 r1 r2 z1 => ?_)
  have hne : xz t ≠ xz (xnw t 14 4) := by rw [xz_nw]; omega
  have g1 := rRi_ex g0 f1
  have fz := f1.2 (xz t) (by rw [xk_nw, if_pos rfl]; decide)
  have eM : ∀ (N : xMe) j, xw0 N (xz (xnw t 14 4)) (xz t) j = N (xz t) j := fun N j => by rw [xw0_B hne]
  have hbz : b9 ≠ xz (xnw t 14 4) := fun e => by have := xlive_z f0.1; rw [← e] at this; omega
  have hap := rCp_app (u := (u0, u1, u2, u3)) (b' := xz (xnw t 14 4)) (c := xz t) g1.2.2.2.2.2.2.2.1 g1.1.1 hm (if_pos rfl) (rDd_z hD hl) (fz.1.trans (by rw [xk_nw, if_pos rfl])) (fz.2.1.trans (by rw [xn_nw, if_pos rfl]))
    (by rw [eM, xw_j (by decide), xw_j (by decide), xw_j (by decide), xw_s]) (by rw [eM, xw_j (by decide), xw_j (by decide), xw_s]) (by rw [eM, xw_j (by decide), xw_s]) (by rw [eM, xw_s]) (rDd_z (rDd_fr hD f0) f0.1) k1 (by omega) (fun i hi => by rw [r1 i (by omega), b6 i hi]) (by rw [← b4]; exact r2)
  have fP : rFr P t M t' _ := rFr_trans (rFr_of f0) (rFr_of f1)
  refine hq _ _ _ _ _ (rRi_c5 g1 hap) (rFr_20 fP h.1.2 h.1.1) (rPs_wr (rPs_fr hps (rFr_trans f0 f1) (by have := h.1.1; omega)) g1.1.1 (by decide))
set_option maxHeartbeats 4000000 in
theorem s_arrives {Q : xTh → xMe → Prop} (h : rRi P S σ RA cl t M r A) (hI : yI A) (hx : yQx A) (hl : xlive t) (hD : rDd P t) (hps : rPs t r 40) (hF : 50 ≤ F) (p0 : 0 ≤ p) (p1 : p < yS A 3) (hs : yS A (84 + 9 * p) ≤ 2) (hs1 : yS A (84 + 9 * p) ≠ 1) (hn : yPh (yArr p A) - yPh A ≤ n) (hq : ∀ σ' cl' t' M', rRi P S σ' RA cl' t' M' r (yArr p A) → rFr P t M t' M' → rPs t' r 40 → Q t' M') : p_X14_arrives F n t r (RA (81 + 9 * p)) M Q := by
  obtain ⟨hI1, hI2, hI3, hI4, hI5, hI6, hI7, hI8⟩ := id hI
  obtain ⟨n1, n2, n3, n4, n5, n6⟩ := id hI1.1
  obtain ⟨f0, f1, s0, s1, s4, g0, g1, g8, g9⟩ := yGt_ok hI1 hI3 p0 p1 hs
  obtain ⟨k1, k2, k3, k4, k5, k6⟩ := hI1.2.1 _ g0 g1
  obtain ⟨b9, -, -, -, c4⟩ := rRi_pk h
  obtain ⟨-, d2, d3⟩ := c4 p p0 p1
  obtain ⟨ga, ga1, ga2, ga3, ga4⟩ := rRi_ga h
  obtain ⟨m1, m2, m3, m4, m5, m6⟩ := ga4 _ g0 g1
  have hro := yI4_room hI1 hI3 hI4 g0 g1 f0 f1
  have hpd := hI3 p p0 p1
  have hpc := hI1.2.2.2.2.1
  have ok := rOk_of hI1
  have r0 : M r 0 = yS A 0 := h.2.1.1
  have r11 : M r 11 = yS A 10 := h.2.1.2.2.2.2.1
  have hrow : r ≠ RA (81 + 9 * p) := rSc_ne h d2
  have ht0 := hI7.2.2.2.2.2
  have hl0 := rFr_refl (Ow := P) (M := M) hl
  have hPp := rRi_pP h p0 p1
  unfold p_X14_arrives
  refine ⟨0, by omega, s_gateOf h p0 p1 f0 f1 s0 s1 ⟨⟨by omega, by omega⟩, 0, by omega, ?_⟩⟩
  rw [rRi_p0 h p0 p1]
  refine s_queue h hI hx hF f0 f1 ⟨ga, ga1, ga2, 0, by omega, s_gateOf h p0 p1 f0 f1 s0 s1 ⟨⟨g0, by omega⟩, _, m1, m2, ⟨by omega, by omega⟩, ?_⟩⟩
  rw [m6, show 6 * yGt A p + yS A (81 + 9 * p) = ySl A p from rfl] 
  rw [show 6 * yGt A p + yS A (81 + 9 * p) = ySl A p from rfl] at hro
  refine ⟨fun hne => ⟨⟨by omega, by omega⟩, fun M1 e1 => ⟨⟨by omega, by omega⟩, fun M2 e2 => ?_⟩⟩, fun hfull => ⟨⟨by omega, by omega⟩, fun M1 e1 => ⟨⟨by omega, by omega⟩, fun M2 e2 => ⟨⟨by omega, by omega⟩, ?_⟩⟩⟩⟩
  · have hArr : yArr p A = yqw (yw (yw A (84 + 9 * p) 1) (88 + 9 * p) (yS A 0)) (ySl A p) (yQ A (ySl A p) ++ [p]) := by unfold yArr; rw [if_neg (by omega)]
    have q1 := rRi_w3 (v := 1) h ok p0 p1
    have e3 : yS (yw A (84 + 9 * p) 1) 3 = yS A 3 := yup_n (by omega)
    have q2 := rRi_w7 (v := yS A 0) q1 (rOk_w ok (yFx_p (by omega))) p0 (by rw [e3]; exact p1)
    have eM0 : M1 r 0 = yS A 0 := by rw [e1, xw_b hrow]; exact r0
    subst e1
    rw [eM0] at e2
    subst e2
    refine hq σ cl t _ (by rw [hArr]; exact rRi_S q2 rfl rfl rfl) (rFr_w (rFr_w hl0 (Or.inr hPp)) (Or.inr hPp)) hps
  · have hArr : yArr p A = yRef (yS A (81 + 9 * p)) (yS A (86 + 9 * p)) (yw (yw (yw A (84 + 9 * p) 4) (87 + 9 * p) (yS A 0)) 6 (yS A 6 + 1)) := by unfold yArr; rw [if_pos (by omega)]
    have q1 := rRi_w3 (v := 4) h ok p0 p1
    have e3 : yS (yw A (84 + 9 * p) 4) 3 = yS A 3 := yup_n (by omega)
    have ok1 := rOk_w (v := 4) ok (yFx_p (k := 84 + 9 * p) (by omega))
    have q2 := rRi_w6 (v := yS A 0) q1 ok1 p0 (by rw [e3]; exact p1)
    have ok2 := rOk_w (v := yS A 0) ok1 (yFx_p (k := 87 + 9 * p) (by omega))
    have q3 := rRi_x (pl := 6) (v := yS A 6 + 1) q2 ok2 (Or.inr rfl)
    have eM0 : M1 r 0 = yS A 0 := by rw [e1, xw_b hrow]; exact r0
    subst e1
    rw [eM0] at e2
    have hM2r : ∀ j, M2 r j = M r j := fun j => by rw [e2, xw_b hrow, xw_b hrow]
    have hM25 : M2 (RA (81 + 9 * p)) 5 = yS A (86 + 9 * p) := by rw [e2, xw_j (by decide), xw_j (by decide)]; exact rRi_p5 h p0 p1
    have hM20 : M2 (RA (81 + 9 * p)) 0 = yS A (81 + 9 * p) := by rw [e2, xw_j (by decide), xw_j (by decide)]; exact rRi_p0 h p0 p1
    rw [← e2] at q3
    have fr2 : rFr P t M t M2 := by rw [e2]; exact rFr_w (rFr_w hl0 (Or.inr hPp)) (Or.inr hPp)
    have hbig := ymul_b (x := yS A (86 + 9 * p)) (y := yS A 10) (a := 4000) (b := 100) ⟨by omega, by omega⟩ ⟨by omega, by omega⟩
    rw [hM25, hM2r 11, r11]
    have hdiv0 : 0 ≤ Int.tdiv (yS A (86 + 9 * p) * yS A 10) 100 := Int.tdiv_nonneg hbig.1 (by decide)
    have hdiv1 : Int.tdiv (yS A (86 + 9 * p) * yS A 10) 100 ≤ 4000 := by
      rw [Int.tdiv_eq_ediv_of_nonneg hbig.1]; omega
    have e10 : ∀ k, k ≠ 84 + 9 * p → k ≠ 87 + 9 * p → k ≠ 6 → yS (yw (yw (yw A (84 + 9 * p) 4) (87 + 9 * p) (yS A 0)) 6 (yS A 6 + 1)) k = yS A k := fun k a b c => by rw [yS_w, yup_n c, yS_w, yup_n b, yS_w, yup_n a]
    have hRv : yRv (yS A (86 + 9 * p)) (yw (yw (yw A (84 + 9 * p) 4) (87 + 9 * p) (yS A 0)) 6 (yS A 6 + 1)) = min 9999 (Int.tdiv (yS A (86 + 9 * p) * yS A 10) 100) := by
      unfold yRv; rw [e10 10 (by omega) (by omega) (by omega)]
    refine ⟨⟨by omega, by omega⟩, ⟨by decide, ⟨by omega, by omega⟩⟩, fun z ez => ?_⟩
    rw [← ez] at hRv hdiv0 hdiv1
    have hTot : ∀ C, yTot (yCw (yw (yw (yw A (84 + 9 * p) 4) (87 + 9 * p) (yS A 0)) 6 (yS A 6 + 1)) C) = yTot A := fun C => yTot_of (e10 3 (by omega) (by omega) (by omega)) (fun q a b => e10 _ (by omega) (by omega) (by omega)) hI1.1
    have e6 : yS (yw (yw (yw A (84 + 9 * p) 4) (87 + 9 * p) (yS A 0)) 6 (yS A 6 + 1)) 6 = yS A 6 + 1 := by rw [yS_w, yup_s]
    refine ⟨fun hz => ?_, fun hz => ?_⟩
    · have hno : yArr p A = yw (yw (yw A (84 + 9 * p) 4) (87 + 9 * p) (yS A 0)) 6 (yS A 6 + 1) := by
        rw [hArr]; unfold yRef; rw [if_neg (by rw [hRv]; omega)]
      exact hq σ cl t _ (by rw [hno]; exact q3) fr2 hps
    · obtain ⟨cb, cb1, cb2, cb3, cb4⟩ := rRi_co h
      have hc30 := hI5.1
      refine ⟨cb, cb1, cb2, ⟨by omega, by omega⟩, fun hfl => ?_, fun hfl => ?_⟩
      · have hno : yArr p A = yw (yw (yw A (84 + 9 * p) 4) (87 + 9 * p) (yS A 0)) 6 (yS A 6 + 1) := by
          rw [hArr]; unfold yRef
          rw [if_neg (fun q => by have q2 : (yC A).length < 30 := q.2; omega)]
        exact hq σ cl t _ (by rw [hno]; exact q3) fr2 hps
      · have hC30 : (yC A).length < 30 := by omega
        have hyes : yArr p A = yCw (yw (yw (yw A (84 + 9 * p) 4) (87 + 9 * p) (yS A 0)) 6 (yS A 6 + 1)) (yC A ++ [(yS A (81 + 9 * p), min 9999 z, yS A 0 + yS A 11, 0)]) := by
          rw [hArr]; unfold yRef
          rw [if_pos ⟨by rw [hRv]; omega, hC30⟩, hRv, e10 0 (by omega) (by omega) (by omega), e10 11 (by omega) (by omega) (by omega)]
          rfl
        have hn2 : 2 ≤ n := by
          rw [hyes] at hn
          unfold yPh at hn
          rw [hTot, show yS (yCw (yw (yw (yw A (84 + 9 * p) 4) (87 + 9 * p) (yS A 0)) 6 (yS A 6 + 1)) (yC A ++ [(yS A (81 + 9 * p), min 9999 z, yS A 0 + yS A 11, 0)])) 6 = yS A 6 + 1 from e6] at hn
          have : (yC (yCw (yw (yw (yw A (84 + 9 * p) 4) (87 + 9 * p) (yS A 0)) 6 (yS A 6 + 1)) (yC A ++ [(yS A (81 + 9 * p), min 9999 z, yS A 0 + yS A 11, 0)]))).length = (yC A).length + 1 := by
            show (yC A ++ [_]).length = _; simp
          omega
        have h12 : M r 12 = yS A 11 := h.2.1.2.2.2.2.2
        refine ⟨by omega, fun a71 t71 M71 ea et eM => ?_⟩
        have hdead := xlive_z hl
        have hrz : RA (81 + 9 * p) ≠ xz t := fun e => by rw [e] at d2; omega
        have hrz2 : r ≠ xz t := fun e => by have := h.1.1; rw [e] at this; omega
        subst ea et
        have nz : xn (xnw t 14 4) (xz t) = 4 := by rw [xn_nw, if_pos rfl]
        have nr : xn (xnw t 14 4) (RA (81 + 9 * p)) = 8 := by rw [xn_nw, if_neg hrz]; exact d3
        have v0 : M71 (RA (81 + 9 * p)) 0 = yS A (81 + 9 * p) := by rw [eM, xw0_B hrz]; exact hM20
        rw [nz, nr, v0]
        refine ⟨⟨by omega, by omega⟩, ⟨by omega, by omega⟩, fun M78 e78 => ⟨⟨by omega, by omega⟩, fun M88 e88 => ?_⟩⟩
        have v1 : ∀ j, M88 r j = M r j := fun j => by rw [e88, xw_b hrz2, e78, xw_b hrz2, eM, xw0_B hrz2]; exact hM2r j
        rw [v1 0, v1 12, r0, h12]
        have := hI1.2.2.2.2.1
        refine ⟨⟨by omega, by omega⟩, ⟨by omega, by omega⟩, fun M100 e100 => ⟨⟨by omega, by omega⟩, fun M104 e104 => ⟨_, Nat.le_refl _, ?_⟩⟩⟩
        subst e104 e100 e88 e78 eM
        refine s_addCoupon q3 hl hD hps hC30 hF cb1 (by omega) (fun a σ' cl' t' M' w1 w2 w3 => fun t108 e108 => ?_)
        subst e108
        exact hq σ' cl' _ M' (by rw [hyes]; exact w1) (rFr_trans fr2 w2) w3
end RAR
