/-! PASSAGES of the Road -/
def rBody (F : Nat) (Q : Int → xTh → xMe → Prop) (n : Nat) (x0 : Nat) (x1 : Int) (x2 : Int) (x3 : Nat) (x4 : Int) (t : xTh) (M : xMe) : Prop :=
  ((0 : Int) ≤ 2 ∧ 2 < (xn t x3 : Int)) ∧ (xR ((M x3 2) - x4)) ∧ (∀ z89 : Int, z89 = max 0 ((M x3 2) - x4) → (∃ b92 : Nat, xr t x0 7 = some b92 ∧ xk t b92 = 17 ∧ ((0 : Int) ≤ x1 ∧ x1 < (xn t b92 : Int)) ∧ (∃ b96 : Nat, xr t b92 x1.toNat = some b96 ∧ xk t b96 = 14 ∧ ((0 : Int) ≤ 2 ∧ 2 < (xn t x3 : Int)) ∧ (xR (x4 - (M x3 2))) ∧ ((0 : Int) ≤ x2 ∧ x2 < (xn t b96 : Int)) ∧ (∀ M108 : xMe, M108 = xw M b96 x2.toNat (max 0 (x4 - (M x3 2))) → ((0 : Int) ≤ 5 ∧ 5 < (xn t x3 : Int)) ∧ (xR ((M108 x3 5) + z89)) ∧ ((0 : Int) ≤ 5 ∧ 5 < (xn t x3 : Int)) ∧ (∀ M116 : xMe, M116 = xw M108 x3 5 ((M108 x3 5) + z89) → (xR ((M116 x0 9) + z89)) ∧ (∀ M125 : xMe, M125 = xw M116 x0 9 ((M116 x0 9) + z89) → (∀ b, xr t x0 13 = some b → xk t b = 12) ∧ ((xr t x0 13 = none → ((0 : Int) ≤ 2 ∧ 2 < (xn t x3 : Int)) ∧ p_X14_passes_183 F Q n x0 x1 x2 x3 z89 (M125 x3 2) t M125) ∧ (∀ b132 : Nat, xr t x0 13 = some b132 → (1 ≤ n) ∧ (∀ (a147 : Nat) (t147 : xTh) (M147 : xMe), a147 = xz t → t147 = xnw t 15 4 → M147 = xw0 M125 a147 → ((0 : Int) ≤ 2 ∧ 2 < (xn t147 x3 : Int)) ∧ ((0 : Int) ≤ 0 ∧ 0 < (xn t147 a147 : Int)) ∧ (xR (M147 x3 2)) ∧ (∀ M155 : xMe, M155 = xw M147 a147 0 (M147 x3 2) → ((0 : Int) ≤ 1 ∧ 1 < (xn t147 a147 : Int)) ∧ (xR (x1)) ∧ (∀ M160 : xMe, M160 = xw M155 a147 1 x1 → ((0 : Int) ≤ 2 ∧ 2 < (xn t147 a147 : Int)) ∧ (xR (z89)) ∧ (∀ M166 : xMe, M166 = xw M160 a147 2 z89 → ((0 : Int) ≤ 7 ∧ 7 < (xn t147 x3 : Int)) ∧ (xR ((M166 x0 0) - (M166 x3 7))) ∧ ((0 : Int) ≤ 3 ∧ 3 < (xn t147 a147 : Int)) ∧ (xR ((M166 x0 0) - (M166 x3 7))) ∧ (∀ M179 : xMe, M179 = xw M166 a147 3 ((M166 x0 0) - (M166 x3 7)) → (∃ k180 : Nat, k180 ≤ (n - 1) ∧ p_X12_valueR F 3 k180 t147 b132 a147 M179 (fun r180 t180 M180 => p_X14_passes_183 F Q (((n - 1) - k180)) x0 x1 x2 x3 z89 r180 t180 M180)))))))))))))))
section RPA
variable {P S : Nat → Prop} {σ : Nat → Int} {RA : Int → Nat} {cl : List Nat} {t : xTh} {M : xMe} {r : Nat} {A B : yA} {F n : Nat} {Q : Int → xTh → xMe → Prop} {f g p : Int}
theorem r_62 {x4 y0 : Int} {x3 : Nat} (h3 : 2 < (xn t x3 : Int)) (hb : (M x3 2 ≤ x4 ∨ y0 ≠ 0) → rBody F Q n r g f x3 x4 t M) (hq : ¬ (M x3 2 ≤ x4 ∨ y0 ≠ 0) → Q 0 t M) : p_X14_passes_62 F Q n r g f x3 x4 y0 t M := by
  unfold p_X14_passes_62
  refine ⟨⟨by omega, h3⟩, fun q => hb (Or.inl q), fun q => ⟨fun q2 => hb (Or.inr q2), fun q2 => hq (fun z => ?_)⟩⟩
  rcases z with z | z
  · omega
  · exact z q2
set_option maxHeartbeats 4000000 in
theorem s_410 {s L T dl z n5 : Int} (h : rRi P S σ RA cl t M r B) (ok : rOk B) (hl : xlive t) (p0 : 0 ≤ p) (p1 : p < yS B 3) (f0 : 0 ≤ f) (f1 : f < yS B 2) (e0 : yS B 0 = T) (e5 : yS B 5 = n5) (e85 : yS B (85 + 9 * p) = s) (e33 : yS B (33 + 8 * f) = L) (e36 : yS B (36 + 8 * f) = dl) (e83 : yS B (83 + 9 * p) = z) (s0 : 0 ≤ s) (s1 : s < L) (hdl : 0 ≤ dl ∧ dl ≤ 1000000) (hz : 1 ≤ z ∧ z ≤ 999)
    (hq1 : s + 1 < L → ∀ M', rRi P S σ RA cl t M' r (yw (yw B (85 + 9 * p) (s + 1)) (84 + 9 * p) 2) → rFr P t M t M' → Q 1 t M') (hq2 : ¬ s + 1 < L → ∀ M', rRi P S σ RA cl t M' r (yw (yw (yw (yw (yw (yw B (85 + 9 * p) (s + 1)) (84 + 9 * p) 2) (84 + 9 * p) 3) (87 + 9 * p) T) 5 (n5 + 1)) (36 + 8 * f) (dl + z)) → rFr P t M t M' → Q 1 t M') : p_X14_passes_410 F Q n r f (RA (81 + 9 * p)) t M := by
  obtain ⟨n1, n2, n3, n4, n5', n6⟩ := id ok.1
  obtain ⟨b9, -, -, -, c4⟩ := rRi_pk h
  obtain ⟨-, d2, d3⟩ := c4 p p0 p1
  have hPp := rRi_pP h p0 p1
  have hfr := rFr_refl (Ow := P) (M := M) hl
  obtain ⟨ro, ro1, ro2, ro3, ro4⟩ := rRi_ro h
  obtain ⟨rf1, rf2, rf3, -⟩ := ro4 f f0 f1
  rw [e33] at rf3
  have hL4 := ok.2 f f0 f1
  rw [e33] at hL4
  obtain ⟨fb, fb1, fb2, fb3, fb4⟩ := rRi_fl h
  obtain ⟨fl1, fl2, fl3, -⟩ := fb4 f f0 f1
  have hrow : r ≠ RA (81 + 9 * p) := rSc_ne h d2
  have hPf : P (RA (34 + 8 * f)) := (h.2.2.2.1.2 f f0 f1).2.1
  unfold p_X14_passes_410
  rw [rRi_p4 h p0 p1, e85, d3]
  have y85 : yFx (85 + 9 * p) := yFx_p (by omega)
  have y84 : yFx (84 + 9 * p) := yFx_p (by omega)
  have y87 : yFx (87 + 9 * p) := yFx_p (by omega)
  refine ⟨⟨by omega, by omega⟩, ⟨by omega, by omega⟩, ⟨by omega, by omega⟩, fun M1 e1 => ⟨⟨by omega, by omega⟩, fun M2 e2 => ⟨⟨by omega, by omega⟩, ro, ro1, ro2, ⟨f0, by omega⟩, _, rf1, rf2, ⟨by omega, by omega⟩, ?_⟩⟩⟩
  have q1 := rRi_w4 (v := s + 1) h ok p0 p1
  have ok1 := rOk_w (v := s + 1) ok y85
  rw [← e1] at q1
  have p1' : p < yS (yw B (85 + 9 * p) (s + 1)) 3 := by rw [yS_w, yup_n (by omega)]; exact p1
  have q2 := rRi_w3 (v := 2) q1 ok1 p0 p1'
  have ok2 := rOk_w (v := 2) ok1 y84
  rw [← e2] at q2
  have fr2 : rFr P t M t M2 := by rw [e2, e1]; exact rFr_w (rFr_w hfr (Or.inr hPp)) (Or.inr hPp)
  have v4 : M2 (RA (81 + 9 * p)) 4 = s + 1 := by rw [e2, xw_j (by decide), e1, xw_s]
  have v2 : M2 (RA (81 + 9 * p)) 2 = z := by rw [e2, xw_j (by decide), e1, xw_j (by decide), rRi_p2 h p0 p1, e83]
  have v0 : M2 r 0 = T := by rw [e2, xw_b hrow, e1, xw_b hrow, h.2.1.1, e0]
  rw [v4, rf3]
  refine ⟨fun hne => hq1 (by omega) M2 q2 fr2, fun he => ⟨⟨by omega, by omega⟩, fun M3 e3 => ⟨⟨by omega, by omega⟩, fun M4 e4 => ⟨fb, fb1, fb2, ⟨f0, by omega⟩, _, fl1, fl2, ⟨by omega, by omega⟩, ⟨by omega, by omega⟩, ?_⟩⟩⟩⟩
  have p2' : p < yS (yw (yw B (85 + 9 * p) (s + 1)) (84 + 9 * p) 2) 3 := by rw [yS_w, yup_n (by omega)]; exact p1'
  have q3 := rRi_w3 (v := 3) q2 ok2 p0 p2'
  have ok3 := rOk_w (v := 3) ok2 y84
  rw [← e3] at q3
  have v0' : M3 r 0 = T := by rw [e3, xw_b hrow]; exact v0
  rw [v0'] at e4
  have p3' : p < yS (yw (yw (yw B (85 + 9 * p) (s + 1)) (84 + 9 * p) 2) (84 + 9 * p) 3) 3 := by rw [yS_w, yup_n (by omega)]; exact p2'
  have q4 := rRi_w6 (v := T) q3 ok3 p0 p3'
  have ok4 := rOk_w (v := T) ok3 y87
  rw [← e4] at q4
  have q5 := rRi_x (pl := 5) (v := n5 + 1) q4 ok4 (Or.inl rfl)
  have ok5 := rOk_w (k := 5) (v := n5 + 1) ok4 ⟨by decide, by decide, by decide, by omega⟩
  have hne : RA (34 + 8 * f) ≠ RA (81 + 9 * p) := fun e => by
    have a := (h.2.2.2.1.2 f f0 f1).1
    have b := (h.2.2.2.2.2.1.2 p p0 p1).1
    rw [e] at a; omega
  have vd : M4 (RA (34 + 8 * f)) 2 = dl := by
    rw [e4, xw_b hne, e3, xw_b hne, e2, xw_b hne, e1, xw_b hne]
    obtain ⟨-, -, -, -, -, x⟩ := fb4 f f0 f1
    rw [x, e36]
  have vz : M4 (RA (81 + 9 * p)) 2 = z := by rw [e4, xw_j (by decide), e3, xw_j (by decide)]; exact v2
  rw [vd, vz]
  refine ⟨⟨by omega, by omega⟩, ⟨by omega, by omega⟩, fun M5 e6 => ?_⟩
  have f1' : f < yS (yw (yw (yw (yw (yw B (85 + 9 * p) (s + 1)) (84 + 9 * p) 2) (84 + 9 * p) 3) (87 + 9 * p) T) 5 (n5 + 1)) 2 := by
    rw [yS_w, yup_n (by omega), yS_w, yup_n (by omega), yS_w, yup_n (by omega), yS_w, yup_n (by omega), yS_w, yup_n (by omega)]; exact f1
  have q6 := rRi_wf (v := dl + z) q5 ok5 f0 f1' (j := 2) (by decide) (by decide)
  rw [show 34 + 8 * f + 2 = 36 + 8 * f by omega] at q6
  subst e6
  refine hq2 (by omega) _ q6 ?_
  have fr4 : rFr P t M t M4 := by rw [e4, e3]; exact rFr_w (rFr_w fr2 (Or.inr hPp)) (Or.inr hPp)
  exact rFr_w fr4 (Or.inr hPf)
/-- the passage is noted; then the coupons pay -/
theorem s_183 {y0 pe : Int} (h : rRi P S σ RA cl t M r B) (ok : rOk B) (hl : xlive t) (hD : rDd P t) (hps : rPs t r 40) (hF : 50 ≤ F) (p0 : 0 ≤ p) (p1 : p < yS B 3) (f0 : 0 ≤ f) (f1 : f < yS B 2) (hb : 0 ≤ yS B (35 + 8 * f) ∧ yS B (35 + 8 * f) ≤ 2000000) (hC : (yC B).length ≤ 30) (hCv : ∀ c ∈ yC B, 1 ≤ c.2.1 ∧ c.2.1 ≤ 10000) (e0 : 0 ≤ pe) (e1 : pe ≤ ySum f (yC B)) (e2 : pe ≤ 400000) (hn : 3 + (yC B).length ≤ n + (ySp f 30 pe (yC B)).length)
    (hq : ∀ cl' t' M' n', rRi P S σ RA cl' t' M' r (yCw (yw B (35 + 8 * f) (yS B (35 + 8 * f) + max 0 (min 9999 y0))) (ySp f 30 pe (yC B))) → rFr P t M t' M' → rPs t' r 40 → p_X14_passes_410 F Q n' r f (RA (81 + 9 * p)) t' M') : p_X14_passes_183 F Q n r g f (RA (81 + 9 * p)) pe y0 t M := by
  obtain ⟨n1, n2, n3, n4, n5', n6⟩ := id ok.1
  obtain ⟨b9, -, -, -, c4⟩ := rRi_pk h
  obtain ⟨-, d2, d3⟩ := c4 p p0 p1
  obtain ⟨fb, fb1, fb2, fb3, fb4⟩ := rRi_fl h
  obtain ⟨fl1, fl2, fl3, -, fl5, -⟩ := fb4 f f0 f1
  have hPf : P (RA (34 + 8 * f)) := (h.2.2.2.1.2 f f0 f1).2.1
  have hsl := ySp_len (f := f) 30 pe (yC B)
  have hz := xlive_z hl
  unfold p_X14_passes_183
  refine ⟨fb, fb1, fb2, ⟨f0, by omega⟩, _, fl1, fl2, ⟨by omega, by omega⟩, ⟨by omega, by omega⟩, ?_⟩
  rw [fl5]
  refine ⟨⟨by omega, by omega⟩, ⟨by omega, by omega⟩, fun M1 e1' => ?_⟩
  have q1 := rRi_wf (v := yS B (35 + 8 * f) + max 0 (min 9999 y0)) h ok f0 f1 (j := 1) (by decide) (by decide)
  rw [show 34 + 8 * f + 1 = 35 + 8 * f by omega] at q1
  have ek : xw M (RA (34 + 8 * f)) (1 : Int).toNat (yS B (35 + 8 * f) + max 0 (min 9999 y0)) = M1 := by rw [e1']; rfl
  rw [ek] at q1
  have fr1 : rFr P t M t M1 := by rw [e1']; exact rFr_w (rFr_refl hl) (Or.inr hPf)
  obtain ⟨pb, pb1, pb2, pb3, pb4⟩ := hps
  have hrow : RA (81 + 9 * p) ≠ xz t := fun e => by rw [e] at d2; omega
  refine ⟨pb, pb1, pb2, by omega, fun a2 t2 M2 ea et eM => ?_⟩
  subst ea et
  have nz : xn (xnw t 14 5) (xz t) = 5 := by rw [xn_nw, if_pos rfl]
  have nr : xn (xnw t 14 5) (RA (81 + 9 * p)) = 8 := by rw [xn_nw, if_neg hrow]; exact d3
  have frz : rFr rNo t M1 (xnw t 14 5) M2 := by rw [eM]; exact rFr_n (rFr_refl hl)
  rw [nz, nr]
  refine ⟨⟨by omega, by omega⟩, fun M3 e3 => ⟨⟨by omega, by omega⟩, fun M4 e4 => ⟨⟨by omega, by omega⟩, fun M5 e5 => ⟨⟨by omega, by omega⟩, ⟨by omega, by omega⟩, fun M6 e6 => ⟨⟨by omega, by omega⟩, fun M7 e7 => ⟨1, by omega, ?_⟩⟩⟩⟩⟩⟩
  have frz7 : rFr rNo t M1 (xnw t 14 5) M7 := by
    rw [e7, e6, e5, e4, e3]
    exact rFr_w (rFr_w (rFr_w (rFr_w (rFr_w frz (Or.inl hz)) (Or.inl hz)) (Or.inl hz)) (Or.inl hz)) (Or.inl hz)
  have hrk : xk t r ≤ 22 := by have := h.1.1; omega
  obtain ⟨pbk, pbn, pbx, -⟩ := frz7.2 pb (by omega)
  obtain ⟨-, pbr⟩ := pbx id
  refine s_with frz7.1 (pbk.trans pb2) (by omega) (fun i hi => ?_) (by omega) (Nat.le_refl _) (fun t8 f8 k8 n8 r8 r8' z8 => fun t9 e9 => ?_)
  · obtain ⟨c, c1, c2⟩ := pb4 i (by omega)
    exact ⟨c, by rw [pbr]; exact c1, (frz7.2 c (by omega)).1.trans c2⟩
  · subst e9
    have hz2 : xz (xnw t 14 5) = xz t + 1 := rfl
    have fr8 := rFr_trans frz7 f8
    have q8 := rRi_6 (o := some (xz (xnw t 14 5))) (rRi_ex q1 fr8)
    have hk20 := (rRi_ex q1 fr8).1.1
    have fr8' : rFr P t M (xwr t8 r 6 (some (xz (xnw t 14 5)))) (xw0 M7 (xz (xnw t 14 5))) := rFr_20 (rFr_trans fr1 (rFr_of fr8)) h.1.2 h.1.1
    have hne8 : xz (xnw t 14 5) ≠ r := fun e => by rw [e] at k8; omega
    have hrows : ∀ i, i < xn t pb + 1 → ∃ c, xr (xwr t8 r 6 (some (xz (xnw t 14 5)))) (xz (xnw t 14 5)) i = some c ∧ xk t8 c = 14 := fun i hi => by
      rw [xr_wrn hne8]
      by_cases e : i < xn t pb
      · obtain ⟨c, c1, c2⟩ := pb4 i e
        refine ⟨c, by rw [r8 i (by omega), pbr]; exact c1, ?_⟩
        exact (f8.2 c (by rw [(frz7.2 c (by omega)).1]; omega)).1.trans ((frz7.2 c (by omega)).1.trans c2)
      · have : i = xn (xnw t 14 5) pb := by omega
        subst this
        refine ⟨xz t, r8', ?_⟩
        exact (f8.2 (xz t) (by rw [xk_nw, if_pos rfl]; decide)).1.trans (by rw [xk_nw, if_pos rfl])
    have rest : ∀ t9 M9 n9, rRi P S σ RA cl t9 M9 r (yw B (35 + 8 * f) (yS B (35 + 8 * f) + max 0 (min 9999 y0))) → rFr P t M t9 M9 → rPs t9 r 40 → (yC B).length - (ySp f 30 pe (yC B)).length ≤ n9 → p_X14_passes_271 F Q n9 r f (RA (81 + 9 * p)) pe t9 M9 := fun t9 M9 n9 w1 w2 w3 w4 => by
      unfold p_X14_passes_271
      have f1' : f < yS (yw B (35 + 8 * f) (yS B (35 + 8 * f) + max 0 (min 9999 y0))) 2 := by rw [yS_w, yup_n (by omega)]; exact f1
      refine s_275 (A := yw B (35 + 8 * f) (yS B (35 + 8 * f) + max 0 (min 9999 y0))) hF f1' 30 F n9 pe cl t9 M9 (yC B) (rRi_S w1 rfl rfl rfl) w2.1 (rDd_fr hD w2) w3 hC (Nat.le_refl _) (by omega) hCv e1 e0 e2 w4 (fun cl' t' M' n' u1 u2 u3 => hq cl' t' M' n' u1 (rFr_trans w2 u2) u3)
    refine ⟨xz (xnw t 14 5), if_pos ⟨rfl, rfl⟩, k8, ⟨by show -2147483648 ≤ ((xn t8 (xz (xnw t 14 5)) : Nat) : Int); omega, by show ((xn t8 (xz (xnw t 14 5)) : Nat) : Int) < _; omega⟩, fun hle => ?_, fun hgt => ⟨1, by omega, ?_⟩⟩
    · have hle' : ((xn t8 (xz (xnw t 14 5)) : Nat) : Int) ≤ 40 := hle
      refine rest _ _ _ q8 fr8' ⟨xz (xnw t 14 5), if_pos ⟨rfl, rfl⟩, k8, by show xn t8 _ ≤ 40; omega, fun i hi => hrows i ?_⟩ (by omega)
      have : i < xn t8 (xz (xnw t 14 5)) := hi
      omega
    · have hgt' : 40 < ((xn t8 (xz (xnw t 14 5)) : Nat) : Int) := hgt
      have fl8 : xlive (xwr t8 r 6 (some (xz (xnw t 14 5)))) := fr8'.1
      refine s_without (m := 40) (at_ := 0) fl8 k8 rfl (by show xn t8 _ = 41; omega) (by omega) (by omega) (fun i hi => hrows i (by omega)) (by omega) (Nat.le_refl _) (fun t10 f10 k10 n10 r10 z10 => fun t11 e11 => ?_)
      subst e11
      have q10 := rRi_ex q8 f10
      refine rest _ _ _ (rRi_6 q10) (rFr_20 (rFr_trans fr8' (rFr_of f10)) h.1.2 h.1.1) ⟨_, if_pos ⟨rfl, rfl⟩, k10, by show xn t10 _ ≤ 40; omega, fun i hi => ?_⟩ (by omega)
      have hne10 : xz (xwr t8 r 6 (some (xz (xnw t 14 5)))) ≠ r := fun e => by rw [e] at k10; have := q10.1.1; omega
      have hi' : i < xn t10 (xz (xwr t8 r 6 (some (xz (xnw t 14 5))))) := hi
      obtain ⟨c, c1, c2⟩ := hrows (i + 1) (by omega)
      refine ⟨c, ?_, (f10.2 c (by show xk t8 c ≤ 22; omega)).1.trans c2⟩
      rw [xr_wrn hne10, r10 i (by omega), if_neg (by omega)]
      exact c1
end RPA
