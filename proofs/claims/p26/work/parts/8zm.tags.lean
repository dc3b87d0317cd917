section RCC
variable {P Ow : Nat → Prop} {σ σ' : Nat → Int} {RA RA' : Int → Nat} {cl : List Nat} {t t' : xTh} {M M' : xMe} {r a z k : Nat} {Sf Sf' : Int → Int} {C : List yCo} {K : List Int} {n1 n2 n3 n4 n s0 d : Int}
theorem rRc_tag (h : rRc P σ RA cl t M r Sf C K n1 n2 n3 n4) (hc : 22 < xk t a) : rRc P (rTag σ a) RA cl t M r Sf C K n1 n2 n3 n4 := by
  obtain ⟨h1, ⟨b1, b2, b3, b4⟩, h5, h6, h7⟩ := h
  refine ⟨h1, ⟨rBl_tag b1 hc, rBl_tag b2 hc, rBl_tag b3 hc, rBl_tag b4 hc⟩, ⟨h5.1, fun i a b => ?_⟩, rCp_tag h6, h7⟩
  obtain ⟨q1, q2, q3, q4, q5⟩ := h5.2 i a b
  refine ⟨?_, q2, q3, q4, q5⟩
  unfold rTag
  rw [if_neg (fun e => by rw [e] at q3; omega)]; exact q1
theorem s_w5 {F nn b : Nat} {t1 : xTh} {M1 : xMe} {Q : Nat → xTh → xMe → Prop} {u : yCo} (hF : 64 ≤ F) (hnn : 1 ≤ nn) (h : rRc P σ RA cl t M r Sf C K n1 n2 n3 n4) (hC : C.length < 30) (hD : rDd P t) (hb1 : xr t1 r 5 = some b) (f1 : rFr Ow t M t1 M1) (hO : ∀ a, P a → ¬ Ow a) (ha : 22 < xk t a) (pa : P a) (ka : xk t1 a = 14) (na : xn t1 a = 4) (e0 : M1 a 0 = u.1) (e1 : M1 a 1 = u.2.1) (e2 : M1 a 2 = u.2.2.1) (e3 : M1 a 3 = u.2.2.2) (hq : ∀ z t2 M2 σ' cl', rRc P σ' RA cl' (xwr t2 r 5 (some z)) M2 r Sf (C ++ [u]) K n1 n2 n3 n4 → rFr (fun c => Ow c ∨ P c) t M (xwr t2 r 5 (some z)) M2 → Q z t2 M2) : p_L_with F nn t1 b a M1 Q := by
  have hm := rCp_live h.2.2.2.1 ha
  have g0 := rRc_fr (rRc_tag h ha) f1 hO
  obtain ⟨b9, b1, b2, b3, b4, b5, b6, b7⟩ := rCp_b g0.2.2.2.1
  rw [hb1] at b1
  cases b1
  refine s_with f1.1 b3 (by omega) (fun i hi => b7 i (by omega)) (by omega) hnn (fun t2 f2 kz nz hold hnew ez => ?_)
  have g1 := rRc_fr g0 f2 (fun _ _ z => z)
  have dz : 22 < xk t (xz t1) := rFr_dead f1 (xlive_z f1.1)
  have pz : P (xz t1) := rDd_z (rDd_fr hD f1) f1.1
  have haz : a ≠ xz t1 := fun e => by have := f1.1 a (by rw [ka]; decide); omega
  obtain ⟨c1, c2, -, -⟩ := f2.2 a (by rw [ka]; decide)
  obtain ⟨⟨⟨k1, k1'⟩, k2⟩, ⟨w1, w2, w3, w4⟩, k5, k6, k7, k8, k9⟩ := g1
  have ez2 : b ≠ xz t1 := fun e => by have := f1.1 b (by omega); omega
  have hap := rCp_app (u := u) (b' := xz t1) (c := a) k6 k1 hm (if_pos rfl) pa (c1.trans ka) (by rw [c2]; exact na) (by rw [xw0_B haz]; exact e0) (by rw [xw0_B haz]; exact e1) (by rw [xw0_B haz]; exact e2) (by rw [xw0_B haz]; exact e3) pz kz (by rw [nz, b4]) (fun i hi => by rw [hold i (by omega)]; exact b6 i hi) (by rw [← b4]; exact hnew)
  have er2 : xr t2 r = xr t r := by
    have hr0 := h.1.1
    rw [((f2.2 r (by rw [(f1.2 r (by omega)).1]; omega)).2.2.1 id).2, ((f1.2 r (by omega)).2.2.1 (hO r hr0.2)).2]
  refine hq _ t2 _ (rTag σ a) (cl ++ [a]) ⟨⟨⟨k1, k1'⟩, k2⟩, ⟨rBl_wr w1 k1 (by decide), rBl_wr w2 k1 (by decide), rBl_wr w3 k1 (by decide), rBl_wr w4 k1 (by decide)⟩, rTz_wr k5 k1 (by decide), hap, by rw [xr_wr, if_neg (by omega)]; exact rTm_wr k7 k1, rAd_z h dz er2, rPs_wr k9 k1 (by decide)⟩ (rFr_20 (rFr_mono (rFr_trans f1 (rFr_of (Ow := Ow) f2)) (fun c hc => Or.inl hc)) (Or.inr k1') h.1.1.1)
/-- a scalar of the Road -/
theorem rRc_sc {fj : Nat} {pl v : Int} (h : rRc P σ RA cl t M r Sf C K n1 n2 n3 n4) (m1 : n1 ≤ 6) (m2 : n2 ≤ 6) (m4 : n4 ≤ 40) (h4 : ∀ i, 0 ≤ i → i < n3 → Sf (33 + 8 * i) ≤ 4) (hj : (fj, pl) ∈ [((10 : Nat), (9 : Int)), (11, 10), (12, 11)]) : rRc P σ RA cl t (xw M r fj v) r (yup Sf pl v) C K n1 n2 n3 n4 := by
  obtain ⟨⟨⟨k1, k1'⟩, k2⟩, ⟨w1, w2, w3, w4⟩, k5, k6, k7, k8, k9⟩ := h
  have hk : xk t r ≠ 14 := by rw [k1]; decide
  have hpl : pl = 9 ∨ pl = 10 ∨ pl = 11 := by
    simp only [List.mem_cons, Prod.mk.injEq, List.not_mem_nil, or_false] at hj; omega
  refine ⟨⟨⟨k1, k1'⟩, ?_⟩, ⟨rBl_r w1 hk (fun i a b j ja jb => by omega), rBl_r w2 hk (fun i a b j ja jb => by omega), ?_, rBl_r w4 hk (fun i a b j ja jb => by omega)⟩, ⟨k5.1, fun i a b => ?_⟩, rCp_w k6 (Or.inr hk), rTm_w k7 (by rw [k1]; decide), k8, k9⟩
  · obtain ⟨c1, c2, c3, c4, c5, c6⟩ := k2
    simp only [List.mem_cons, Prod.mk.injEq, List.not_mem_nil, or_false] at hj
    unfold rSc
    rcases hj with ⟨rfl, rfl⟩ | ⟨rfl, rfl⟩ | ⟨rfl, rfl⟩ <;> simp [yup, xw, c1, c2, c3, c4, c5, c6]
  · exact rBl_l (rBl_r w3 hk (fun i a b j ja jb => by omega)) (fun i a b => yup_n (by omega))
  · obtain ⟨q1, q2, q3, q4, q5⟩ := k5.2 i a b
    exact ⟨q1, q2, q3, q4, fun j => by rw [xw_B (fun e => hk (by rw [← e]; exact q3))]; exact q5 j⟩
/-- the Road's term -/
theorem rRc_tm {q : Nat} {K' : List Int} (h : rRc P σ RA cl t M r Sf C K n1 n2 n3 n4) (hN : rNd P t M 3 q K') : rRc P σ RA cl (xwr t r 13 (some q)) M r Sf C K' n1 n2 n3 n4 := by
  obtain ⟨⟨⟨k1, k1'⟩, k2⟩, ⟨w1, w2, w3, w4⟩, k5, k6, k7, k8, k9⟩ := h
  refine ⟨⟨⟨k1, k1'⟩, k2⟩, ⟨rBl_wr w1 k1 (by decide), rBl_wr w2 k1 (by decide), rBl_wr w3 k1 (by decide), rBl_wr w4 k1 (by decide)⟩, rTz_wr k5 k1 (by decide), rCp_wr k6 k1 (by decide), ?_, fun i j hi hj => ?_, rPs_wr k9 k1 (by decide)⟩
  · rw [xr_wr, if_pos ⟨rfl, rfl⟩]
    exact rTm_wr (q := some q) hN k1
  · rw [xr_wra, xr_wra, if_neg (by omega), if_neg (by omega)]; exact k8 i j hi hj
end RCC
