section RRD
variable {P Ow : Nat → Prop} {σ σ' : Nat → Int} {RA RA' : Int → Nat} {cl : List Nat} {t t' : xTh} {M M' : xMe} {r a z k : Nat} {Sf Sf' : Int → Int} {C : List yCo} {K : List Int} {n1 n2 n3 n4 n s0 d : Int} {len len' : Int → Int}
theorem rRc_g (h : rRc P σ RA cl t M r Sf C K n1 n2 n3 n4) (f : rFr Ow t M t' M') (hO : ∀ a, P a → ¬ Ow a) (m1 : 0 ≤ n1 ∧ n1 ≤ 6) (m2 : 0 ≤ n2 ∧ n2 ≤ 6) (m3 : 0 ≤ n3 ∧ n3 ≤ 6) (m4 : 0 ≤ n4 ∧ n4 ≤ 40) (hb : n1 < 6) (h4 : ∀ i, 0 ≤ i → i < n3 → Sf (33 + 8 * i) ≤ 4) (ha : 22 < xk t a) (pa : P a) (ka : xk t' a = 14) (na : (xn t' a : Int) = 3) (hz : 22 < xk t z) (pz : P z) (kz : xk t' z = 17) (nz : (xn t' z : Int) = n1 + 1) (hold : ∀ b i, xr t r 1 = some b → 0 ≤ i → i < n1 → xr t' z i.toNat = xr t b i.toNat) (hnew : xr t' z n1.toNat = some a) (hm : ∀ j, 0 ≤ j → j < 3 → M' a j.toNat = Sf' ((15 + 3 * n1) + j)) (hS : ∀ q, (q = 0 ∨ (7 ≤ q ∧ q ≤ 11) ∨ 15 ≤ q) → ¬ ((15 + 3 * n1) ≤ q ∧ q < (15 + 3 * n1) + 3) → Sf' q = Sf q) : ∃ σ' RA', rRc P σ' RA' cl (xwr t' r 1 (some z)) M' r Sf' C K (n1 + 1) n2 n3 n4 ∧ (∀ s, s ≠ (15 + 3 * n1) → RA' s = RA s) ∧ RA' (15 + 3 * n1) = a := by
  have hh := h
  obtain ⟨⟨⟨k1, k1'⟩, k2⟩, ⟨b1, b2, b3, b4⟩, k5, k6, k7, k8, k9⟩ := h
  obtain ⟨f1, f2, f3, -⟩ := f.2 r (by omega)
  obtain ⟨e1, e2⟩ := f3 (hO r k1')
  have kr : xk t' r = 20 := f1.trans k1
  have hσ : ∀ c, xk t c ≤ 22 → (fun c => if c = a then (15 + 3 * n1) else σ c : Nat → Int) c = σ c := fun c hc => if_neg (fun e => by rw [e] at hc; omega)
  have hR : ∀ s, s ≠ (15 + 3 * n1) → (fun s => if s = (15 + 3 * n1) then a else RA s : Int → Nat) s = RA s := fun s hs => if_neg hs
  refine ⟨fun c => if c = a then (15 + 3 * n1) else σ c, fun s => if s = (15 + 3 * n1) then a else RA s, ⟨⟨⟨kr, k1'⟩, ?_⟩, ⟨?_, ?_, ?_, ?_⟩, ?_, ?_, ?_, ?_, ?_⟩, hR, if_pos rfl⟩
  · unfold rSc; rw [e1, hS 0 (by omega) (by omega), hS 7 (by omega) (by omega), hS 8 (by omega) (by omega), hS 9 (by omega) (by omega), hS 10 (by omega) (by omega), hS 11 (by omega) (by omega)]; exact k2
  · exact rBl_ad b1 f hO (by omega) kr (by decide) ha pa ka na pz kz nz hold hnew hm (fun i a c => hR _ (by omega)) (if_pos rfl) hσ (if_pos rfl) (fun i j a c ja jb => by exact hS _ (by omega) (by omega)) (fun _ _ _ => rfl)
  · exact rBl_wr (rBl_mo b2 f hO (by rw [e2]) (fun i a c => hR _ (by omega)) hσ (fun i j a c ja jb => by exact hS _ (by omega) (by omega)) (fun _ _ _ => rfl)) kr (by decide)
  · exact rBl_wr (rBl_mo b3 f hO (by rw [e2]) (fun i a c => hR _ (by omega)) hσ (fun i j a c ja jb => by have := h4 i a c; exact hS _ (by omega) (by omega)) (fun i a c => hS _ (by omega) (by omega))) kr (by decide)
  · exact rBl_wr (rBl_mo b4 f hO (by rw [e2]) (fun i a c => hR _ (by omega)) hσ (fun i j a c ja jb => by exact hS _ (by omega) (by omega)) (fun _ _ _ => rfl)) kr (by decide)
  · exact rTz_wr (rTz_mo k5 f hO (by rw [e2]) (fun i a c => hR _ (by omega)) hσ) kr (by decide)
  · exact rCp_wr (rCp_mo k6 f hO e2 hσ) kr (by decide)
  · rw [xr_wr, if_neg (by omega), e2]
    exact rTm_wr (rTm_fr k7 f hO) kr
  · exact rAd_z hh hz e2
  · exact rPs_wr (rPs_o k9 f (by omega) (hO r k1')) kr (by decide)
theorem rRc_f (h : rRc P σ RA cl t M r Sf C K n1 n2 n3 n4) (f : rFr Ow t M t' M') (hO : ∀ a, P a → ¬ Ow a) (m1 : 0 ≤ n1 ∧ n1 ≤ 6) (m2 : 0 ≤ n2 ∧ n2 ≤ 6) (m3 : 0 ≤ n3 ∧ n3 ≤ 6) (m4 : 0 ≤ n4 ∧ n4 ≤ 40) (hb : n2 < 6) (h4 : ∀ i, 0 ≤ i → i < n3 → Sf (33 + 8 * i) ≤ 4) (ha : 22 < xk t a) (pa : P a) (ka : xk t' a = 14) (na : (xn t' a : Int) = 3) (hz : 22 < xk t z) (pz : P z) (kz : xk t' z = 17) (nz : (xn t' z : Int) = n2 + 1) (hold : ∀ b i, xr t r 2 = some b → 0 ≤ i → i < n2 → xr t' z i.toNat = xr t b i.toNat) (hnew : xr t' z n2.toNat = some a) (hm : ∀ j, 0 ≤ j → j < 3 → M' a j.toNat = Sf' ((34 + 8 * n2) + j)) (hS : ∀ q, (q = 0 ∨ (7 ≤ q ∧ q ≤ 11) ∨ 15 ≤ q) → ¬ ((34 + 8 * n2) ≤ q ∧ q < (34 + 8 * n2) + 3) → Sf' q = Sf q) : ∃ σ' RA', rRc P σ' RA' cl (xwr t' r 2 (some z)) M' r Sf' C K n1 (n2 + 1) n3 n4 ∧ (∀ s, s ≠ (34 + 8 * n2) → RA' s = RA s) ∧ RA' (34 + 8 * n2) = a := by
  have hh := h
  obtain ⟨⟨⟨k1, k1'⟩, k2⟩, ⟨b1, b2, b3, b4⟩, k5, k6, k7, k8, k9⟩ := h
  obtain ⟨f1, f2, f3, -⟩ := f.2 r (by omega)
  obtain ⟨e1, e2⟩ := f3 (hO r k1')
  have kr : xk t' r = 20 := f1.trans k1
  have hσ : ∀ c, xk t c ≤ 22 → (fun c => if c = a then (34 + 8 * n2) else σ c : Nat → Int) c = σ c := fun c hc => if_neg (fun e => by rw [e] at hc; omega)
  have hR : ∀ s, s ≠ (34 + 8 * n2) → (fun s => if s = (34 + 8 * n2) then a else RA s : Int → Nat) s = RA s := fun s hs => if_neg hs
  refine ⟨fun c => if c = a then (34 + 8 * n2) else σ c, fun s => if s = (34 + 8 * n2) then a else RA s, ⟨⟨⟨kr, k1'⟩, ?_⟩, ⟨?_, ?_, ?_, ?_⟩, ?_, ?_, ?_, ?_, ?_⟩, hR, if_pos rfl⟩
  · unfold rSc; rw [e1, hS 0 (by omega) (by omega), hS 7 (by omega) (by omega), hS 8 (by omega) (by omega), hS 9 (by omega) (by omega), hS 10 (by omega) (by omega), hS 11 (by omega) (by omega)]; exact k2
  · exact rBl_wr (rBl_mo b1 f hO (by rw [e2]) (fun i a c => hR _ (by omega)) hσ (fun i j a c ja jb => by exact hS _ (by omega) (by omega)) (fun _ _ _ => rfl)) kr (by decide)
  · exact rBl_ad b2 f hO (by omega) kr (by decide) ha pa ka na pz kz nz hold hnew hm (fun i a c => hR _ (by omega)) (if_pos rfl) hσ (if_pos rfl) (fun i j a c ja jb => by exact hS _ (by omega) (by omega)) (fun _ _ _ => rfl)
  · exact rBl_wr (rBl_mo b3 f hO (by rw [e2]) (fun i a c => hR _ (by omega)) hσ (fun i j a c ja jb => by have := h4 i a c; exact hS _ (by omega) (by omega)) (fun i a c => hS _ (by omega) (by omega))) kr (by decide)
  · exact rBl_wr (rBl_mo b4 f hO (by rw [e2]) (fun i a c => hR _ (by omega)) hσ (fun i j a c ja jb => by exact hS _ (by omega) (by omega)) (fun _ _ _ => rfl)) kr (by decide)
  · exact rTz_wr (rTz_mo k5 f hO (by rw [e2]) (fun i a c => hR _ (by omega)) hσ) kr (by decide)
  · exact rCp_wr (rCp_mo k6 f hO e2 hσ) kr (by decide)
  · rw [xr_wr, if_neg (by omega), e2]
    exact rTm_wr (rTm_fr k7 f hO) kr
  · exact rAd_z hh hz e2
  · exact rPs_wr (rPs_o k9 f (by omega) (hO r k1')) kr (by decide)
theorem rRc_r (h : rRc P σ RA cl t M r Sf C K n1 n2 n3 n4) (f : rFr Ow t M t' M') (hO : ∀ a, P a → ¬ Ow a) (m1 : 0 ≤ n1 ∧ n1 ≤ 6) (m2 : 0 ≤ n2 ∧ n2 ≤ 6) (m3 : 0 ≤ n3 ∧ n3 ≤ 6) (m4 : 0 ≤ n4 ∧ n4 ≤ 40) (hb : n3 < 6) (h4 : ∀ i, 0 ≤ i → i < n3 → Sf (33 + 8 * i) ≤ 4) (ha : 22 < xk t a) (pa : P a) (ka : xk t' a = 14) (na : (xn t' a : Int) = Sf' (33 + 8 * n3)) (hz : 22 < xk t z) (pz : P z) (kz : xk t' z = 17) (nz : (xn t' z : Int) = n3 + 1) (hold : ∀ b i, xr t r 3 = some b → 0 ≤ i → i < n3 → xr t' z i.toNat = xr t b i.toNat) (hnew : xr t' z n3.toNat = some a) (hlv : 0 ≤ Sf' (33 + 8 * n3) ∧ Sf' (33 + 8 * n3) ≤ 4) (hm : ∀ j, 0 ≤ j → j < Sf' (33 + 8 * n3) → M' a j.toNat = Sf' ((37 + 8 * n3) + j)) (hS : ∀ q, (q = 0 ∨ (7 ≤ q ∧ q ≤ 11) ∨ 15 ≤ q) → ¬ ((37 + 8 * n3) ≤ q ∧ q < (37 + 8 * n3) + 4) → q ≠ 33 + 8 * n3 → Sf' q = Sf q) : ∃ σ' RA', rRc P σ' RA' cl (xwr t' r 3 (some z)) M' r Sf' C K n1 n2 (n3 + 1) n4 ∧ (∀ s, s ≠ (37 + 8 * n3) → RA' s = RA s) ∧ RA' (37 + 8 * n3) = a := by
  have hh := h
  obtain ⟨⟨⟨k1, k1'⟩, k2⟩, ⟨b1, b2, b3, b4⟩, k5, k6, k7, k8, k9⟩ := h
  obtain ⟨f1, f2, f3, -⟩ := f.2 r (by omega)
  obtain ⟨e1, e2⟩ := f3 (hO r k1')
  have kr : xk t' r = 20 := f1.trans k1
  have hσ : ∀ c, xk t c ≤ 22 → (fun c => if c = a then (37 + 8 * n3) else σ c : Nat → Int) c = σ c := fun c hc => if_neg (fun e => by rw [e] at hc; omega)
  have hR : ∀ s, s ≠ (37 + 8 * n3) → (fun s => if s = (37 + 8 * n3) then a else RA s : Int → Nat) s = RA s := fun s hs => if_neg hs
  refine ⟨fun c => if c = a then (37 + 8 * n3) else σ c, fun s => if s = (37 + 8 * n3) then a else RA s, ⟨⟨⟨kr, k1'⟩, ?_⟩, ⟨?_, ?_, ?_, ?_⟩, ?_, ?_, ?_, ?_, ?_⟩, hR, if_pos rfl⟩
  · unfold rSc; rw [e1, hS 0 (by omega) (by omega) (by omega), hS 7 (by omega) (by omega) (by omega), hS 8 (by omega) (by omega) (by omega), hS 9 (by omega) (by omega) (by omega), hS 10 (by omega) (by omega) (by omega), hS 11 (by omega) (by omega) (by omega)]; exact k2
  · exact rBl_wr (rBl_mo b1 f hO (by rw [e2]) (fun i a c => hR _ (by omega)) hσ (fun i j a c ja jb => by exact hS _ (by omega) (by omega) (by omega)) (fun _ _ _ => rfl)) kr (by decide)
  · exact rBl_wr (rBl_mo b2 f hO (by rw [e2]) (fun i a c => hR _ (by omega)) hσ (fun i j a c ja jb => by exact hS _ (by omega) (by omega) (by omega)) (fun _ _ _ => rfl)) kr (by decide)
  · exact rBl_ad b3 f hO (by omega) kr (by decide) ha pa ka na pz kz nz hold hnew hm (fun i a c => hR _ (by omega)) (if_pos rfl) hσ (if_pos rfl) (fun i j a c ja jb => by have := h4 i a c; exact hS _ (by omega) (by omega) (by omega)) (fun i a c => hS _ (by omega) (by omega) (by omega))
  · exact rBl_wr (rBl_mo b4 f hO (by rw [e2]) (fun i a c => hR _ (by omega)) hσ (fun i j a c ja jb => by exact hS _ (by omega) (by omega) (by omega)) (fun _ _ _ => rfl)) kr (by decide)
  · exact rTz_wr (rTz_mo k5 f hO (by rw [e2]) (fun i a c => hR _ (by omega)) hσ) kr (by decide)
  · exact rCp_wr (rCp_mo k6 f hO e2 hσ) kr (by decide)
  · rw [xr_wr, if_neg (by omega), e2]
    exact rTm_wr (rTm_fr k7 f hO) kr
  · exact rAd_z hh hz e2
  · exact rPs_wr (rPs_o k9 f (by omega) (hO r k1')) kr (by decide)
theorem rRc_p (h : rRc P σ RA cl t M r Sf C K n1 n2 n3 n4) (f : rFr Ow t M t' M') (hO : ∀ a, P a → ¬ Ow a) (m1 : 0 ≤ n1 ∧ n1 ≤ 6) (m2 : 0 ≤ n2 ∧ n2 ≤ 6) (m3 : 0 ≤ n3 ∧ n3 ≤ 6) (m4 : 0 ≤ n4 ∧ n4 ≤ 40) (hb : n4 < 40) (h4 : ∀ i, 0 ≤ i → i < n3 → Sf (33 + 8 * i) ≤ 4) (ha : 22 < xk t a) (pa : P a) (ka : xk t' a = 14) (na : (xn t' a : Int) = 8) (hz : 22 < xk t z) (pz : P z) (kz : xk t' z = 17) (nz : (xn t' z : Int) = n4 + 1) (hold : ∀ b i, xr t r 4 = some b → 0 ≤ i → i < n4 → xr t' z i.toNat = xr t b i.toNat) (hnew : xr t' z n4.toNat = some a) (hm : ∀ j, 0 ≤ j → j < 8 → M' a j.toNat = Sf' ((81 + 9 * n4) + j)) (hS : ∀ q, (q = 0 ∨ (7 ≤ q ∧ q ≤ 11) ∨ 15 ≤ q) → ¬ ((81 + 9 * n4) ≤ q ∧ q < (81 + 9 * n4) + 9) → Sf' q = Sf q) : ∃ σ' RA', rRc P σ' RA' cl (xwr t' r 4 (some z)) M' r Sf' C K n1 n2 n3 (n4 + 1) ∧ (∀ s, s ≠ (81 + 9 * n4) → RA' s = RA s) ∧ RA' (81 + 9 * n4) = a := by
  have hh := h
  obtain ⟨⟨⟨k1, k1'⟩, k2⟩, ⟨b1, b2, b3, b4⟩, k5, k6, k7, k8, k9⟩ := h
  obtain ⟨f1, f2, f3, -⟩ := f.2 r (by omega)
  obtain ⟨e1, e2⟩ := f3 (hO r k1')
  have kr : xk t' r = 20 := f1.trans k1
  have hσ : ∀ c, xk t c ≤ 22 → (fun c => if c = a then (81 + 9 * n4) else σ c : Nat → Int) c = σ c := fun c hc => if_neg (fun e => by rw [e] at hc; omega)
  have hR : ∀ s, s ≠ (81 + 9 * n4) → (fun s => if s = (81 + 9 * n4) then a else RA s : Int → Nat) s = RA s := fun s hs => if_neg hs
  refine ⟨fun c => if c = a then (81 + 9 * n4) else σ c, fun s => if s = (81 + 9 * n4) then a else RA s, ⟨⟨⟨kr, k1'⟩, ?_⟩, ⟨?_, ?_, ?_, ?_⟩, ?_, ?_, ?_, ?_, ?_⟩, hR, if_pos rfl⟩
  · unfold rSc; rw [e1, hS 0 (by omega) (by omega), hS 7 (by omega) (by omega), hS 8 (by omega) (by omega), hS 9 (by omega) (by omega), hS 10 (by omega) (by omega), hS 11 (by omega) (by omega)]; exact k2
  · exact rBl_wr (rBl_mo b1 f hO (by rw [e2]) (fun i a c => hR _ (by omega)) hσ (fun i j a c ja jb => by exact hS _ (by omega) (by omega)) (fun _ _ _ => rfl)) kr (by decide)
  · exact rBl_wr (rBl_mo b2 f hO (by rw [e2]) (fun i a c => hR _ (by omega)) hσ (fun i j a c ja jb => by exact hS _ (by omega) (by omega)) (fun _ _ _ => rfl)) kr (by decide)
  · exact rBl_wr (rBl_mo b3 f hO (by rw [e2]) (fun i a c => hR _ (by omega)) hσ (fun i j a c ja jb => by have := h4 i a c; exact hS _ (by omega) (by omega)) (fun i a c => hS _ (by omega) (by omega))) kr (by decide)
  · exact rBl_ad b4 f hO (by omega) kr (by decide) ha pa ka na pz kz nz hold hnew hm (fun i a c => hR _ (by omega)) (if_pos rfl) hσ (if_pos rfl) (fun i j a c ja jb => by exact hS _ (by omega) (by omega)) (fun _ _ _ => rfl)
  · exact rTz_wr (rTz_mo k5 f hO (by rw [e2]) (fun i a c => hR _ (by omega)) hσ) kr (by decide)
  · exact rCp_wr (rCp_mo k6 f hO e2 hσ) kr (by decide)
  · rw [xr_wr, if_neg (by omega), e2]
    exact rTm_wr (rTm_fr k7 f hO) kr
  · exact rAd_z hh hz e2
  · exact rPs_wr (rPs_o k9 f (by omega) (hO r k1')) kr (by decide)
theorem s_w1 {F nn b : Nat} {t1 : xTh} {M1 : xMe} {Q : Nat → xTh → xMe → Prop} (hF : 64 ≤ F) (hnn : 1 ≤ nn) (h : rRc P σ RA cl t M r Sf C K n1 n2 n3 n4) (hD : rDd P t) (hlt : xlive t) (hb1 : xr t1 r 1 = some b) (f1 : rFr Ow t M t1 M1) (hO : ∀ a, P a → ¬ Ow a) (m1 : 0 ≤ n1 ∧ n1 ≤ 6) (m2 : 0 ≤ n2 ∧ n2 ≤ 6) (m3 : 0 ≤ n3 ∧ n3 ≤ 6) (m4 : 0 ≤ n4 ∧ n4 ≤ 40) (hbd : n1 < 6) (h4 : ∀ i, 0 ≤ i → i < n3 → Sf (33 + 8 * i) ≤ 4) (ha : 22 < xk t a) (pa : P a) (ka : xk t1 a = 14) (na : (xn t1 a : Int) = 3) (hm : ∀ j, 0 ≤ j → j < 3 → M1 a j.toNat = Sf' ((15 + 3 * n1) + j)) (hS : ∀ q, (q = 0 ∨ (7 ≤ q ∧ q ≤ 11) ∨ 15 ≤ q) → ¬ ((15 + 3 * n1) ≤ q ∧ q < (15 + 3 * n1) + 3) → Sf' q = Sf q) (hq : ∀ z t2 M2 σ' RA', rRc P σ' RA' cl (xwr t2 r 1 (some z)) M2 r Sf' C K (n1 + 1) n2 n3 n4 → rFr (fun c => Ow c ∨ P c) t M (xwr t2 r 1 (some z)) M2 → (∀ s, s ≠ (15 + 3 * n1) → RA' s = RA s) → RA' (15 + 3 * n1) = a → Q z t2 M2) : p_L_with F nn t1 b a M1 Q := by
  obtain ⟨⟨⟨k1, k1'⟩, -⟩, bl, -⟩ := id h
  obtain ⟨⟨b', x1, x2, x3, x4, x5⟩, x6⟩ := id bl.1
  obtain ⟨g1, g2, g3, -⟩ := f1.2 r (by omega)
  have er : xr t1 r = xr t r := (g3 (hO r k1')).2
  rw [er, x1] at hb1
  cases hb1
  obtain ⟨y1, y2, -, -⟩ := f1.2 b (by omega)
  have y17 := rFr_17 f1 x3
  refine s_with f1.1 (y1.trans x3) (by omega) (fun i hi => ?_) (by omega) hnn (fun t2 f2 kz nz hold hnew ez => ?_)
  · rw [y2] at hi
    have q := x5 i (by omega) (by omega)
    rw [Int.toNat_natCast] at q
    obtain ⟨-, -, q3, -, -⟩ := x6 i (by omega) (by omega)
    exact ⟨_, by rw [y17]; exact q, (f1.2 _ (by rw [q3]; decide)).1.trans q3⟩
  have dz : 22 < xk t (xz t1) := rFr_dead f1 (xlive_z f1.1)
  have pz : P (xz t1) := rDd_z (rDd_fr hD f1) f1.1
  have haz : a ≠ xz t1 := fun e => by have := f1.1 a (by rw [ka]; decide); omega
  have fr := rFr_trans f1 (rFr_of (Ow := Ow) f2)
  obtain ⟨c1, c2, -, -⟩ := f2.2 a (by rw [ka]; decide)
  obtain ⟨σ', RA', u1, u2, u3⟩ := rRc_g h fr hO m1 m2 m3 m4 hbd h4 ha pa (c1.trans ka) (by rw [c2]; exact na) dz pz kz (by rw [nz, y2]; omega) (fun b9 i hb9 i0 i1 => by
    rw [x1] at hb9; cases hb9
    rw [hold i.toNat (by rw [y2]; omega), y17]) (by
    have e : n1.toNat = xn t1 b := by rw [y2]; omega
    rw [e]; exact hnew) (fun j j0 j1 => by rw [xw0_B haz]; exact hm j j0 j1) hS
  refine hq _ t2 _ σ' RA' u1 ?_ u2 u3
  exact rFr_20 (rFr_mono fr (fun c hc => Or.inl hc)) (Or.inr k1') k1
theorem s_w2 {F nn b : Nat} {t1 : xTh} {M1 : xMe} {Q : Nat → xTh → xMe → Prop} (hF : 64 ≤ F) (hnn : 1 ≤ nn) (h : rRc P σ RA cl t M r Sf C K n1 n2 n3 n4) (hD : rDd P t) (hlt : xlive t) (hb1 : xr t1 r 2 = some b) (f1 : rFr Ow t M t1 M1) (hO : ∀ a, P a → ¬ Ow a) (m1 : 0 ≤ n1 ∧ n1 ≤ 6) (m2 : 0 ≤ n2 ∧ n2 ≤ 6) (m3 : 0 ≤ n3 ∧ n3 ≤ 6) (m4 : 0 ≤ n4 ∧ n4 ≤ 40) (hbd : n2 < 6) (h4 : ∀ i, 0 ≤ i → i < n3 → Sf (33 + 8 * i) ≤ 4) (ha : 22 < xk t a) (pa : P a) (ka : xk t1 a = 14) (na : (xn t1 a : Int) = 3) (hm : ∀ j, 0 ≤ j → j < 3 → M1 a j.toNat = Sf' ((34 + 8 * n2) + j)) (hS : ∀ q, (q = 0 ∨ (7 ≤ q ∧ q ≤ 11) ∨ 15 ≤ q) → ¬ ((34 + 8 * n2) ≤ q ∧ q < (34 + 8 * n2) + 3) → Sf' q = Sf q) (hq : ∀ z t2 M2 σ' RA', rRc P σ' RA' cl (xwr t2 r 2 (some z)) M2 r Sf' C K n1 (n2 + 1) n3 n4 → rFr (fun c => Ow c ∨ P c) t M (xwr t2 r 2 (some z)) M2 → (∀ s, s ≠ (34 + 8 * n2) → RA' s = RA s) → RA' (34 + 8 * n2) = a → Q z t2 M2) : p_L_with F nn t1 b a M1 Q := by
  obtain ⟨⟨⟨k1, k1'⟩, -⟩, bl, -⟩ := id h
  obtain ⟨⟨b', x1, x2, x3, x4, x5⟩, x6⟩ := id bl.2.1
  obtain ⟨g1, g2, g3, -⟩ := f1.2 r (by omega)
  have er : xr t1 r = xr t r := (g3 (hO r k1')).2
  rw [er, x1] at hb1
  cases hb1
  obtain ⟨y1, y2, -, -⟩ := f1.2 b (by omega)
  have y17 := rFr_17 f1 x3
  refine s_with f1.1 (y1.trans x3) (by omega) (fun i hi => ?_) (by omega) hnn (fun t2 f2 kz nz hold hnew ez => ?_)
  · rw [y2] at hi
    have q := x5 i (by omega) (by omega)
    rw [Int.toNat_natCast] at q
    obtain ⟨-, -, q3, -, -⟩ := x6 i (by omega) (by omega)
    exact ⟨_, by rw [y17]; exact q, (f1.2 _ (by rw [q3]; decide)).1.trans q3⟩
  have dz : 22 < xk t (xz t1) := rFr_dead f1 (xlive_z f1.1)
  have pz : P (xz t1) := rDd_z (rDd_fr hD f1) f1.1
  have haz : a ≠ xz t1 := fun e => by have := f1.1 a (by rw [ka]; decide); omega
  have fr := rFr_trans f1 (rFr_of (Ow := Ow) f2)
  obtain ⟨c1, c2, -, -⟩ := f2.2 a (by rw [ka]; decide)
  obtain ⟨σ', RA', u1, u2, u3⟩ := rRc_f h fr hO m1 m2 m3 m4 hbd h4 ha pa (c1.trans ka) (by rw [c2]; exact na) dz pz kz (by rw [nz, y2]; omega) (fun b9 i hb9 i0 i1 => by
    rw [x1] at hb9; cases hb9
    rw [hold i.toNat (by rw [y2]; omega), y17]) (by
    have e : n2.toNat = xn t1 b := by rw [y2]; omega
    rw [e]; exact hnew) (fun j j0 j1 => by rw [xw0_B haz]; exact hm j j0 j1) hS
  refine hq _ t2 _ σ' RA' u1 ?_ u2 u3
  exact rFr_20 (rFr_mono fr (fun c hc => Or.inl hc)) (Or.inr k1') k1
theorem s_w3 {F nn b : Nat} {t1 : xTh} {M1 : xMe} {Q : Nat → xTh → xMe → Prop} (hF : 64 ≤ F) (hnn : 1 ≤ nn) (h : rRc P σ RA cl t M r Sf C K n1 n2 n3 n4) (hD : rDd P t) (hlt : xlive t) (hb1 : xr t1 r 3 = some b) (f1 : rFr Ow t M t1 M1) (hO : ∀ a, P a → ¬ Ow a) (m1 : 0 ≤ n1 ∧ n1 ≤ 6) (m2 : 0 ≤ n2 ∧ n2 ≤ 6) (m3 : 0 ≤ n3 ∧ n3 ≤ 6) (m4 : 0 ≤ n4 ∧ n4 ≤ 40) (hbd : n3 < 6) (h4 : ∀ i, 0 ≤ i → i < n3 → Sf (33 + 8 * i) ≤ 4) (ha : 22 < xk t a) (pa : P a) (ka : xk t1 a = 14) (na : (xn t1 a : Int) = Sf' (33 + 8 * n3)) (hlv : 0 ≤ Sf' (33 + 8 * n3) ∧ Sf' (33 + 8 * n3) ≤ 4) (hm : ∀ j, 0 ≤ j → j < Sf' (33 + 8 * n3) → M1 a j.toNat = Sf' ((37 + 8 * n3) + j)) (hS : ∀ q, (q = 0 ∨ (7 ≤ q ∧ q ≤ 11) ∨ 15 ≤ q) → ¬ ((37 + 8 * n3) ≤ q ∧ q < (37 + 8 * n3) + 4) → q ≠ 33 + 8 * n3 → Sf' q = Sf q) (hq : ∀ z t2 M2 σ' RA', rRc P σ' RA' cl (xwr t2 r 3 (some z)) M2 r Sf' C K n1 n2 (n3 + 1) n4 → rFr (fun c => Ow c ∨ P c) t M (xwr t2 r 3 (some z)) M2 → (∀ s, s ≠ (37 + 8 * n3) → RA' s = RA s) → RA' (37 + 8 * n3) = a → Q z t2 M2) : p_L_with F nn t1 b a M1 Q := by
  obtain ⟨⟨⟨k1, k1'⟩, -⟩, bl, -⟩ := id h
  obtain ⟨⟨b', x1, x2, x3, x4, x5⟩, x6⟩ := id bl.2.2.1
  obtain ⟨g1, g2, g3, -⟩ := f1.2 r (by omega)
  have er : xr t1 r = xr t r := (g3 (hO r k1')).2
  rw [er, x1] at hb1
  cases hb1
  obtain ⟨y1, y2, -, -⟩ := f1.2 b (by omega)
  have y17 := rFr_17 f1 x3
  refine s_with f1.1 (y1.trans x3) (by omega) (fun i hi => ?_) (by omega) hnn (fun t2 f2 kz nz hold hnew ez => ?_)
  · rw [y2] at hi
    have q := x5 i (by omega) (by omega)
    rw [Int.toNat_natCast] at q
    obtain ⟨-, -, q3, -, -⟩ := x6 i (by omega) (by omega)
    exact ⟨_, by rw [y17]; exact q, (f1.2 _ (by rw [q3]; decide)).1.trans q3⟩
  have dz : 22 < xk t (xz t1) := rFr_dead f1 (xlive_z f1.1)
  have pz : P (xz t1) := rDd_z (rDd_fr hD f1) f1.1
  have haz : a ≠ xz t1 := fun e => by have := f1.1 a (by rw [ka]; decide); omega
  have fr := rFr_trans f1 (rFr_of (Ow := Ow) f2)
  obtain ⟨c1, c2, -, -⟩ := f2.2 a (by rw [ka]; decide)
  obtain ⟨σ', RA', u1, u2, u3⟩ := rRc_r h fr hO m1 m2 m3 m4 hbd h4 ha pa (c1.trans ka) (by rw [c2]; exact na) dz pz kz (by rw [nz, y2]; omega) (fun b9 i hb9 i0 i1 => by
    rw [x1] at hb9; cases hb9
    rw [hold i.toNat (by rw [y2]; omega), y17]) (by
    have e : n3.toNat = xn t1 b := by rw [y2]; omega
    rw [e]; exact hnew) hlv (fun j j0 j1 => by rw [xw0_B haz]; exact hm j j0 j1) hS
  refine hq _ t2 _ σ' RA' u1 ?_ u2 u3
  exact rFr_20 (rFr_mono fr (fun c hc => Or.inl hc)) (Or.inr k1') k1
theorem s_w4 {F nn b : Nat} {t1 : xTh} {M1 : xMe} {Q : Nat → xTh → xMe → Prop} (hF : 64 ≤ F) (hnn : 1 ≤ nn) (h : rRc P σ RA cl t M r Sf C K n1 n2 n3 n4) (hD : rDd P t) (hlt : xlive t) (hb1 : xr t1 r 4 = some b) (f1 : rFr Ow t M t1 M1) (hO : ∀ a, P a → ¬ Ow a) (m1 : 0 ≤ n1 ∧ n1 ≤ 6) (m2 : 0 ≤ n2 ∧ n2 ≤ 6) (m3 : 0 ≤ n3 ∧ n3 ≤ 6) (m4 : 0 ≤ n4 ∧ n4 ≤ 40) (hbd : n4 < 40) (h4 : ∀ i, 0 ≤ i → i < n3 → Sf (33 + 8 * i) ≤ 4) (ha : 22 < xk t a) (pa : P a) (ka : xk t1 a = 14) (na : (xn t1 a : Int) = 8) (hm : ∀ j, 0 ≤ j → j < 8 → M1 a j.toNat = Sf' ((81 + 9 * n4) + j)) (hS : ∀ q, (q = 0 ∨ (7 ≤ q ∧ q ≤ 11) ∨ 15 ≤ q) → ¬ ((81 + 9 * n4) ≤ q ∧ q < (81 + 9 * n4) + 9) → Sf' q = Sf q) (hq : ∀ z t2 M2 σ' RA', rRc P σ' RA' cl (xwr t2 r 4 (some z)) M2 r Sf' C K n1 n2 n3 (n4 + 1) → rFr (fun c => Ow c ∨ P c) t M (xwr t2 r 4 (some z)) M2 → (∀ s, s ≠ (81 + 9 * n4) → RA' s = RA s) → RA' (81 + 9 * n4) = a → Q z t2 M2) : p_L_with F nn t1 b a M1 Q := by
  obtain ⟨⟨⟨k1, k1'⟩, -⟩, bl, -⟩ := id h
  obtain ⟨⟨b', x1, x2, x3, x4, x5⟩, x6⟩ := id bl.2.2.2
  obtain ⟨g1, g2, g3, -⟩ := f1.2 r (by omega)
  have er : xr t1 r = xr t r := (g3 (hO r k1')).2
  rw [er, x1] at hb1
  cases hb1
  obtain ⟨y1, y2, -, -⟩ := f1.2 b (by omega)
  have y17 := rFr_17 f1 x3
  refine s_with f1.1 (y1.trans x3) (by omega) (fun i hi => ?_) (by omega) hnn (fun t2 f2 kz nz hold hnew ez => ?_)
  · rw [y2] at hi
    have q := x5 i (by omega) (by omega)
    rw [Int.toNat_natCast] at q
    obtain ⟨-, -, q3, -, -⟩ := x6 i (by omega) (by omega)
    exact ⟨_, by rw [y17]; exact q, (f1.2 _ (by rw [q3]; decide)).1.trans q3⟩
  have dz : 22 < xk t (xz t1) := rFr_dead f1 (xlive_z f1.1)
  have pz : P (xz t1) := rDd_z (rDd_fr hD f1) f1.1
  have haz : a ≠ xz t1 := fun e => by have := f1.1 a (by rw [ka]; decide); omega
  have fr := rFr_trans f1 (rFr_of (Ow := Ow) f2)
  obtain ⟨c1, c2, -, -⟩ := f2.2 a (by rw [ka]; decide)
  obtain ⟨σ', RA', u1, u2, u3⟩ := rRc_p h fr hO m1 m2 m3 m4 hbd h4 ha pa (c1.trans ka) (by rw [c2]; exact na) dz pz kz (by rw [nz, y2]; omega) (fun b9 i hb9 i0 i1 => by
    rw [x1] at hb9; cases hb9
    rw [hold i.toNat (by rw [y2]; omega), y17]) (by
    have e : n4.toNat = xn t1 b := by rw [y2]; omega
    rw [e]; exact hnew) (fun j j0 j1 => by rw [xw0_B haz]; exact hm j j0 j1) hS
  refine hq _ t2 _ σ' RA' u1 ?_ u2 u3
  exact rFr_20 (rFr_mono fr (fun c hc => Or.inl hc)) (Or.inr k1') k1
end RRD
