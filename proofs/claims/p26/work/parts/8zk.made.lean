/-! THE ROAD WHILE IT IS MADE -/
def rTz (P : Nat → Prop) (σ : Nat → Int) (RA : Int → Nat) (t : xTh) (M : xMe) (r : Nat) : Prop := (∃ b, xr t r 7 = some b ∧ P b ∧ rOu t b 6 RA 561 24) ∧ ∀ g, 0 ≤ g → g < 6 → σ (RA (561 + 24 * g)) = 561 + 24 * g ∧ P (RA (561 + 24 * g)) ∧ xk t (RA (561 + 24 * g)) = 14 ∧ xn t (RA (561 + 24 * g)) = 6 ∧ ∀ j, M (RA (561 + 24 * g)) j = 0
/-- gates' and routes' arrays are none of the others -/
def rAd (t : xTh) (r : Nat) : Prop := ∀ j k, (j = 1 ∨ j = 3) → (k = 2 ∨ k = 4 ∨ k = 5 ∨ k = 7) → xr t r j ≠ xr t r k
def rRc (P : Nat → Prop) (σ : Nat → Int) (RA : Int → Nat) (cl : List Nat) (t : xTh) (M : xMe) (r : Nat) (Sf : Int → Int) (C : List yCo) (K : List Int) (n1 n2 n3 n4 : Int) : Prop :=
  ((xk t r = 20 ∧ P r) ∧ rSc M r Sf) ∧ (rBl P σ RA t M Sf r 1 n1 15 3 (fun _ => 3) ∧ rBl P σ RA t M Sf r 2 n2 34 8 (fun _ => 3) ∧ rBl P σ RA t M Sf r 3 n3 37 8 (fun f => Sf (33 + 8 * f)) ∧ rBl P σ RA t M Sf r 4 n4 81 9 (fun _ => 8)) ∧ rTz P σ RA t M r ∧ rCp P σ t M r cl C ∧ rTm P t M (xr t r 13) K ∧ rAd t r ∧ rPs t r 40
section RRC
variable {P Ow : Nat → Prop} {σ σ' : Nat → Int} {RA RA' : Int → Nat} {cl : List Nat} {t t' : xTh} {M M' : xMe} {r a z k : Nat} {Sf Sf' : Int → Int} {C : List yCo} {K : List Int} {n1 n2 n3 n4 n s0 d : Int} {len len' : Int → Int}
theorem rBl_mo (h : rBl P σ RA t M Sf r k n s0 d len) (f : rFr Ow t M t' M') (hO : ∀ a, P a → ¬ Ow a) (er : xr t' r k = xr t r k) (hR : ∀ i, 0 ≤ i → i < n → RA' (s0 + d * i) = RA (s0 + d * i)) (hσ : ∀ c, xk t c ≤ 22 → σ' c = σ c) (hS : ∀ i j, 0 ≤ i → i < n → 0 ≤ j → j < len i → Sf' (s0 + d * i + j) = Sf (s0 + d * i + j)) (hl : ∀ i, 0 ≤ i → i < n → len' i = len i) : rBl P σ' RA' t' M' Sf' r k n s0 d len' := by
  obtain ⟨⟨b, h1, h2, h3, h3', h3''⟩, h4⟩ := h
  obtain ⟨f1, f2, -, -⟩ := f.2 b (by omega)
  refine ⟨⟨b, by rw [er]; exact h1, h2, f1.trans h3, by rw [f2]; exact h3', fun i a c => by rw [rFr_17 f h3, hR i a c]; exact h3'' i a c⟩, fun i a c => ?_⟩
  obtain ⟨g1, g2, g3, g4, g5⟩ := h4 i a c
  obtain ⟨f1, f2, f3, -⟩ := f.2 (RA (s0 + d * i)) (by rw [g3]; decide)
  rw [hR i a c]
  exact ⟨(hσ _ (by rw [g3]; decide)).trans g1, g2, f1.trans g3, by rw [f2, hl i a c]; exact g4, fun j ja jb => by rw [(f3 (hO _ g2)).1, hS i j a c ja (by rw [← hl i a c]; exact jb)]; exact g5 j ja (by rw [← hl i a c]; exact jb)⟩
theorem rTz_mo (h : rTz P σ RA t M r) (f : rFr Ow t M t' M') (hO : ∀ a, P a → ¬ Ow a) (er : xr t' r 7 = xr t r 7) (hR : ∀ i, 0 ≤ i → i < 6 → RA' (561 + 24 * i) = RA (561 + 24 * i)) (hσ : ∀ c, xk t c ≤ 22 → σ' c = σ c) : rTz P σ' RA' t' M' r := by
  obtain ⟨⟨b, h1, h2, h3, h3', h3''⟩, h4⟩ := h
  obtain ⟨f1, f2, -, -⟩ := f.2 b (by omega)
  refine ⟨⟨b, by rw [er]; exact h1, h2, f1.trans h3, by rw [f2]; exact h3', fun i a c => by rw [rFr_17 f h3, hR i a c]; exact h3'' i a c⟩, fun i a c => ?_⟩
  obtain ⟨g1, g2, g3, g4, g5⟩ := h4 i a c
  obtain ⟨f1, f2, f3, -⟩ := f.2 (RA (561 + 24 * i)) (by rw [g3]; decide)
  rw [hR i a c]
  exact ⟨(hσ _ (by rw [g3]; decide)).trans g1, g2, f1.trans g3, f2.trans g4, fun j => by rw [(f3 (hO _ g2)).1]; exact g5 j⟩
theorem rTz_wr {j : Nat} {o : Option Nat} (h : rTz P σ RA t M r) (hr : xk t r = 20) (hj : j ≠ 7) : rTz P σ RA (xwr t r j o) M r := by
  obtain ⟨⟨b, h1, h2, h3, h3', h3''⟩, h4⟩ := h
  have hb : b ≠ r := fun e => by rw [e] at h3; omega
  exact ⟨⟨b, by rw [xr_wr, if_neg (fun q => hj q.2.symm)]; exact h1, h2, h3, h3', fun i a c => by rw [xr_wrn hb]; exact h3'' i a c⟩, h4⟩
theorem rCp_mo (h : rCp P σ t M r cl C) (f : rFr Ow t M t' M') (hO : ∀ a, P a → ¬ Ow a) (er : xr t' r = xr t r) (hσ : ∀ c, xk t c ≤ 22 → σ' c = σ c) : rCp P σ' t' M' r cl C := by
  have g := rCp_fr h f hO er
  refine ⟨g.1, g.2.1, g.2.2.1, fun i c v hc hv => ?_⟩
  obtain ⟨q1, q2⟩ := g.2.2.2 i c v hc hv
  exact ⟨(hσ c (by rw [(h.2.2.2 i c v hc hv).2.2.1]; decide)).trans (h.2.2.2 i c v hc hv).1, q2⟩
theorem rPs_o {m : Nat} (h : rPs t r m) (f : rFr Ow t M t' M') (hr : xk t r ≤ 22) (hO : ¬ Ow r) : rPs t' r m := by
  obtain ⟨b, h1, h2, h3, h4⟩ := h
  obtain ⟨-, -, f3, -⟩ := f.2 r hr
  obtain ⟨g1, g2, g3, -⟩ := f.2 b (by omega)
  refine ⟨b, by rw [(f3 hO).2]; exact h1, g1.trans h2, by rw [g2]; exact h3, fun i hi => ?_⟩
  obtain ⟨c, c1, c2⟩ := h4 i (by rw [← g2]; exact hi)
  exact ⟨c, by rw [rFr_17 f h2]; exact c1, (f.2 c (by omega)).1.trans c2⟩
/-- a row more -/
theorem rBl_ad (h : rBl P σ RA t M Sf r k n s0 d len) (f : rFr Ow t M t' M') (hO : ∀ a, P a → ¬ Ow a) (hn : 0 ≤ n) (hr : xk t' r = 20) (hd : 0 < d) (ha : 22 < xk t a) (pa : P a) (ka : xk t' a = 14) (na : (xn t' a : Int) = len' n) (pz : P z) (kz : xk t' z = 17) (nz : (xn t' z : Int) = n + 1) (hold : ∀ b i, xr t r k = some b → 0 ≤ i → i < n → xr t' z i.toNat = xr t b i.toNat) (hnew : xr t' z n.toNat = some a) (hm : ∀ j, 0 ≤ j → j < len' n → M' a j.toNat = Sf' (s0 + d * n + j)) (hR : ∀ i, 0 ≤ i → i < n → RA' (s0 + d * i) = RA (s0 + d * i)) (hRa : RA' (s0 + d * n) = a) (hσ : ∀ c, xk t c ≤ 22 → σ' c = σ c) (hσa : σ' a = s0 + d * n) (hS : ∀ i j, 0 ≤ i → i < n → 0 ≤ j → j < len i → Sf' (s0 + d * i + j) = Sf (s0 + d * i + j)) (hl : ∀ i, 0 ≤ i → i < n → len' i = len i) : rBl P σ' RA' (xwr t' r k (some z)) M' Sf' r k (n + 1) s0 d len' := by
  obtain ⟨⟨b, h1, h2, h3, h3', h3''⟩, h4⟩ := h
  have hzr : z ≠ r := fun e => by rw [e] at kz; omega
  refine ⟨⟨z, if_pos ⟨rfl, rfl⟩, pz, kz, nz, fun i a1 c => ?_⟩, fun i a1 c => ?_⟩
  · rw [xr_wrn hzr]
    by_cases e : i = n
    · rw [e, hnew, hRa]
    · rw [hold b i h1 a1 (by omega), h3'' i a1 (by omega), hR i a1 (by omega)]
  · by_cases e : i = n
    · subst e
      rw [hRa]
      exact ⟨hσa, pa, ka, na, hm⟩
    · obtain ⟨g1, g2, g3, g4, g5⟩ := h4 i a1 (by omega)
      obtain ⟨f1, f2, f3, -⟩ := f.2 (RA (s0 + d * i)) (by rw [g3]; decide)
      rw [hR i a1 (by omega)]
      exact ⟨(hσ _ (by rw [g3]; decide)).trans g1, g2, f1.trans g3, by rw [hl i a1 (by omega)]; rw [show xn (xwr t' r k (some z)) (RA (s0 + d * i)) = xn t' (RA (s0 + d * i)) from rfl, f2]; exact g4, fun j ja jb => by rw [(f3 (hO _ g2)).1, hS i j a1 (by omega) ja (by rw [← hl i a1 (by omega)]; exact jb)]; exact g5 j ja (by rw [← hl i a1 (by omega)]; exact jb)⟩
theorem rAd_wr (h : rAd t r) (er : xr t' r = xr t r) (hz : ∀ j b, (1 ≤ j ∧ j ≤ 5) ∨ j = 7 → xr t r j = some b → b ≠ z) : rAd (xwr t' r k (some z)) r := by
  intro i j hi hj
  rw [xr_wra, xr_wra, er]
  split
  · rename_i e1
    split
    · omega
    · intro e; exact hz j z (by omega) e.symm rfl
  · split
    · intro e; exact hz i z (by omega) e rfl
    · exact h i j hi hj
theorem rRc_17 (h : rRc P σ RA cl t M r Sf C K n1 n2 n3 n4) : ∀ j b, (1 ≤ j ∧ j ≤ 5) ∨ j = 7 → xr t r j = some b → xk t b = 17 := by
  obtain ⟨-, ⟨⟨⟨b1, x1, -, y1, -⟩, -⟩, ⟨⟨b2, x2, -, y2, -⟩, -⟩, ⟨⟨b3, x3, -, y3, -⟩, -⟩, ⟨⟨b4, x4, -, y4, -⟩, -⟩⟩, ⟨⟨b7, x7, -, y7, -⟩, -⟩, ⟨⟨b5, x5, -, y5, -⟩, -⟩, -⟩ := h
  intro j b hj hb
  have : j = 1 ∨ j = 2 ∨ j = 3 ∨ j = 4 ∨ j = 5 ∨ j = 7 := by omega
  rcases this with rfl | rfl | rfl | rfl | rfl | rfl
  · rw [x1] at hb; cases hb; exact y1
  · rw [x2] at hb; cases hb; exact y2
  · rw [x3] at hb; cases hb; exact y3
  · rw [x4] at hb; cases hb; exact y4
  · rw [x5] at hb; cases hb; exact y5
  · rw [x7] at hb; cases hb; exact y7
/-- what is not the Road's changes -/
theorem rRc_fr (h : rRc P σ RA cl t M r Sf C K n1 n2 n3 n4) (f : rFr Ow t M t' M') (hO : ∀ a, P a → ¬ Ow a) : rRc P σ RA cl t' M' r Sf C K n1 n2 n3 n4 := by
  obtain ⟨⟨⟨h1, h1'⟩, h2⟩, ⟨b1, b2, b3, b4⟩, h5, h6, h7, h8, h9⟩ := h
  obtain ⟨f1, f2, f3, -⟩ := f.2 r (by omega)
  obtain ⟨e1, e2⟩ := f3 (hO r h1')
  refine ⟨⟨⟨f1.trans h1, h1'⟩, by unfold rSc; rw [e1]; exact h2⟩, ⟨rBl_fr b1 f hO e2, rBl_fr b2 f hO e2, rBl_fr b3 f hO e2, rBl_fr b4 f hO e2⟩, rTz_mo h5 f hO (by rw [e2]) (fun _ _ _ => rfl) (fun _ _ => rfl), rCp_fr h6 f hO e2, by rw [e2]; exact rTm_fr h7 f hO, ?_, rPs_o h9 f (by omega) (hO r h1')⟩
  unfold rAd; rw [e2]; exact h8
/-- places that the Road doesn't hold may change -/
theorem rRc_S (h : rRc P σ RA cl t M r Sf C K n1 n2 n3 n4) (hS : ∀ k, k = 0 ∨ (7 ≤ k ∧ k ≤ 11) ∨ 15 ≤ k → Sf' k = Sf k) : rRc P σ RA cl t M r Sf' C K n1 n2 n3 n4 := by
  obtain ⟨⟨h1, h2⟩, ⟨b1, b2, b3, b4⟩, h5⟩ := h
  refine ⟨⟨h1, by unfold rSc; rw [hS 0 (by omega), hS 7 (by omega), hS 8 (by omega), hS 9 (by omega), hS 10 (by omega), hS 11 (by omega)]; exact h2⟩, ⟨rBl_S b1 (fun i j a c ja jb => hS _ (by omega)), rBl_S b2 (fun i j a c ja jb => hS _ (by omega)), ?_, rBl_S b4 (fun i j a c ja jb => hS _ (by omega))⟩, h5⟩
  have g := rBl_S (Sf' := Sf') b3 (fun i j a c ja jb => hS _ (by omega))
  exact rBl_l g (fun i a c => hS _ (by omega))
/-- the step behind an added row -/
theorem rAd_z (h : rRc P σ RA cl t M r Sf C K n1 n2 n3 n4) (hz : 22 < xk t z) (er : xr t' r = xr t r) : rAd (xwr t' r k (some z)) r :=
  rAd_wr h.2.2.2.2.2.1 er (fun j b hj hb e => by have := rRc_17 h j b hj hb; rw [e] at this; omega)
end RRC
