/-! THE RELATION. RA: a row's address by its first place; σ: the way back; P: where the Road's own cells lie, S: where those lie that Roads share -/
def rOu (t : xTh) (b : Nat) (n : Int) (RA : Int → Nat) (s0 d : Int) : Prop := xk t b = 17 ∧ (xn t b : Int) = n ∧ ∀ i, 0 ≤ i → i < n → xr t b i.toNat = some (RA (s0 + d * i))
def rBl (P : Nat → Prop) (σ : Nat → Int) (RA : Int → Nat) (t : xTh) (M : xMe) (S : Int → Int) (r k : Nat) (n s0 d : Int) (len : Int → Int) : Prop :=
  (∃ b, xr t r k = some b ∧ P b ∧ rOu t b n RA s0 d) ∧ ∀ i, 0 ≤ i → i < n → σ (RA (s0 + d * i)) = s0 + d * i ∧ P (RA (s0 + d * i)) ∧ xk t (RA (s0 + d * i)) = 14 ∧ (xn t (RA (s0 + d * i)) : Int) = len i ∧ ∀ j, 0 ≤ j → j < len i → M (RA (s0 + d * i)) j.toNat = S (s0 + d * i + j)
def rTk (P : Nat → Prop) (σ : Nat → Int) (RA : Int → Nat) (t : xTh) (M : xMe) (S : Int → Int) (r : Nat) (ng nf : Int) : Prop :=
  (∃ b, xr t r 7 = some b ∧ P b ∧ rOu t b 6 RA 561 24) ∧ ∀ g, 0 ≤ g → g < 6 → σ (RA (561 + 24 * g)) = 561 + 24 * g ∧ P (RA (561 + 24 * g)) ∧ xk t (RA (561 + 24 * g)) = 14 ∧ xn t (RA (561 + 24 * g)) = 6 ∧ (g < ng → ∀ f, 0 ≤ f → f < nf → M (RA (561 + 24 * g)) f.toNat = S (561 + 4 * (6 * g + f)))
def rCp (P : Nat → Prop) (σ : Nat → Int) (t : xTh) (M : xMe) (r : Nat) (cl : List Nat) (C : List yCo) : Prop :=
  (∃ b, xr t r 5 = some b ∧ P b ∧ xk t b = 17 ∧ xn t b = cl.length ∧ ∀ i, i < cl.length → xr t b i = cl[i]?) ∧ cl.length = C.length ∧ cl.Nodup ∧ ∀ (i : Nat) (c : Nat) (v : yCo), cl[i]? = some c → C[i]? = some v → σ c = 0 ∧ P c ∧ xk t c = 14 ∧ xn t c = 4 ∧ M c 0 = v.1 ∧ M c 1 = v.2.1 ∧ M c 2 = v.2.2.1 ∧ M c 3 = v.2.2.2
def rNd (S : Nat → Prop) (t : xTh) (M : xMe) : Nat → Nat → List Int → Prop
  | 0, _, _ => False
  | d + 1, q, K => S q ∧ xk t q = 12 ∧ ((M q 0 = 0 ∧ 0 ≤ M q 1 ∧ M q 1 < 10000 ∧ K = [M q 1]) ∨ (M q 0 = 1 ∧ 0 ≤ M q 1 ∧ M q 1 < 4 ∧ K = [-5 - M q 1]) ∨ (2 ≤ M q 0 ∧ M q 0 ≤ 5 ∧ ∃ l r Kl Kr, xr t q 2 = some l ∧ xr t q 3 = some r ∧ rNd S t M d l Kl ∧ rNd S t M d r Kr ∧ K = Kl ++ (Kr ++ [1 - M q 0])))
def rTm (S : Nat → Prop) (t : xTh) (M : xMe) (o : Option Nat) (K : List Int) : Prop := match o with
  | none => K = [-5]
  | some q => rNd S t M 3 q K
def rSc (M : xMe) (r : Nat) (S : Int → Int) : Prop := M r 0 = S 0 ∧ M r 8 = S 7 ∧ M r 9 = S 8 ∧ M r 10 = S 9 ∧ M r 11 = S 10 ∧ M r 12 = S 11
def rRi (P S : Nat → Prop) (σ : Nat → Int) (RA : Int → Nat) (cl : List Nat) (t : xTh) (M : xMe) (r : Nat) (A : yA) : Prop :=
  (xk t r = 20 ∧ P r) ∧ rSc M r (yS A) ∧ rBl S σ RA t M (yS A) r 1 (yS A 1) 15 3 (fun _ => 3) ∧ rBl P σ RA t M (yS A) r 2 (yS A 2) 34 8 (fun _ => 3) ∧ rBl S σ RA t M (yS A) r 3 (yS A 2) 37 8 (fun f => yS A (33 + 8 * f)) ∧ rBl P σ RA t M (yS A) r 4 (yS A 3) 81 9 (fun _ => 8) ∧ rTk P σ RA t M (yS A) r (yS A 1) (yS A 2) ∧ rCp P σ t M r cl (yC A) ∧ rTm S t M (xr t r 13) (yK A)
def rRd (P S : Nat → Prop) (t : xTh) (M : xMe) (r : Nat) (A : yA) : Prop := ∃ σ RA cl, rRi P S σ RA cl t M r A
/-- the Road's passages: an array of at most m rows -/
def rPs (t : xTh) (r m : Nat) : Prop := ∃ b, xr t r 6 = some b ∧ xk t b = 17 ∧ xn t b ≤ m ∧ ∀ i, i < xn t b → ∃ c, xr t b i = some c ∧ xk t c = 14
def rOk (A : yA) : Prop := yN A ∧ ∀ f, 0 ≤ f → f < yS A 2 → 0 ≤ yS A (33 + 8 * f) ∧ yS A (33 + 8 * f) ≤ 4
section RFM
variable {Ow P S : Nat → Prop} {σ : Nat → Int} {RA : Int → Nat} {cl : List Nat} {t t' : xTh} {M M' : xMe} {Sf : Int → Int} {r k : Nat} {n s0 d : Int} {len : Int → Int} {A : yA}
theorem rOu_fr {b : Nat} (h : rOu t b n RA s0 d) (f : rFr Ow t M t' M') (hb : ¬ Ow b) : rOu t' b n RA s0 d := by
  obtain ⟨h1, h2, h3⟩ := h
  obtain ⟨f1, f2, f3, -⟩ := f.2 b (by omega)
  exact ⟨f1.trans h1, by rw [f2]; exact h2, fun i a c => by rw [(f3 hb).2]; exact h3 i a c⟩
theorem rBl_fr (h : rBl P σ RA t M Sf r k n s0 d len) (f : rFr Ow t M t' M') (hP : ∀ a, P a → ¬ Ow a) (er : xr t' r = xr t r) : rBl P σ RA t' M' Sf r k n s0 d len := by
  obtain ⟨⟨b, h1, h2, h3⟩, h4⟩ := h
  refine ⟨⟨b, by rw [er]; exact h1, h2, rOu_fr h3 f (hP b h2)⟩, fun i a c => ?_⟩
  obtain ⟨g1, g2, g3, g4, g5⟩ := h4 i a c
  obtain ⟨f1, f2, f3, -⟩ := f.2 _ (by rw [g3]; decide : xk t (RA (s0 + d * i)) ≤ 22)
  exact ⟨g1, g2, f1.trans g3, by rw [f2]; exact g4, fun j a c => by rw [(f3 (hP _ g2)).1]; exact g5 j a c⟩
theorem rTk_fr {ng nf : Int} (h : rTk P σ RA t M Sf r ng nf) (f : rFr Ow t M t' M') (hP : ∀ a, P a → ¬ Ow a) (er : xr t' r = xr t r) : rTk P σ RA t' M' Sf r ng nf := by
  obtain ⟨⟨b, h1, h2, h3⟩, h4⟩ := h
  refine ⟨⟨b, by rw [er]; exact h1, h2, rOu_fr h3 f (hP b h2)⟩, fun i a c => ?_⟩
  obtain ⟨g1, g2, g3, g4, g5⟩ := h4 i a c
  obtain ⟨f1, f2, f3, -⟩ := f.2 _ (by rw [g3]; decide : xk t (RA (561 + 24 * i)) ≤ 22)
  exact ⟨g1, g2, f1.trans g3, by rw [f2]; exact g4, fun q j a c => by rw [(f3 (hP _ g2)).1]; exact g5 q j a c⟩
theorem rCp_fr {C : List yCo} (h : rCp P σ t M r cl C) (f : rFr Ow t M t' M') (hP : ∀ a, P a → ¬ Ow a) (er : xr t' r = xr t r) : rCp P σ t' M' r cl C := by
  obtain ⟨⟨b, h1, h2, h3, h4, h5⟩, h6, h7, h8⟩ := h
  obtain ⟨f1, f2, f3, -⟩ := f.2 b (by omega)
  refine ⟨⟨b, by rw [er]; exact h1, h2, f1.trans h3, f2.trans h4, fun i a => by rw [(f3 (hP b h2)).2]; exact h5 i a⟩, h6, h7, fun i c v hc hv => ?_⟩
  obtain ⟨g1, g2, g3, g4, g5⟩ := h8 i c v hc hv
  obtain ⟨f1, f2, f3, -⟩ := f.2 c (by omega)
  exact ⟨g1, g2, f1.trans g3, f2.trans g4, by rw [(f3 (hP _ g2)).1]; exact g5⟩
theorem rNd_fr (f : rFr Ow t M t' M') (hS : ∀ a, S a → ¬ Ow a) : ∀ (d q : Nat) (K : List Int), rNd S t M d q K → rNd S t' M' d q K
  | 0, _, _, h => h.elim
  | d + 1, q, K, h => by
    obtain ⟨h1, h2, h3⟩ := h
    obtain ⟨f1, f2, f3, -⟩ := f.2 q (by omega)
    obtain ⟨e1, e2⟩ := f3 (hS q h1)
    refine ⟨h1, f1.trans h2, ?_⟩
    rw [e1, e2]
    rcases h3 with h | h | ⟨h4, h5, l, r, Kl, Kr, h6, h7, h8, h9, h10⟩
    · exact Or.inl h
    · exact Or.inr (Or.inl h)
    · exact Or.inr (Or.inr ⟨h4, h5, l, r, Kl, Kr, h6, h7, rNd_fr f hS d l Kl h8, rNd_fr f hS d r Kr h9, h10⟩)
theorem rTm_fr {o : Option Nat} {K : List Int} (h : rTm S t M o K) (f : rFr Ow t M t' M') (hS : ∀ a, S a → ¬ Ow a) : rTm S t' M' o K := by
  cases o with
  | none => exact h
  | some q => exact rNd_fr f hS 3 q K h
theorem rRi_fr (h : rRi P S σ RA cl t M r A) (f : rFr Ow t M t' M') (hP : ∀ a, P a → ¬ Ow a) (hS : ∀ a, S a → ¬ Ow a) : rRi P S σ RA cl t' M' r A := by
  obtain ⟨⟨h1, h1'⟩, h2, h3, h4, h5, h6, h7, h8, h9⟩ := h
  obtain ⟨f1, f2, f3, -⟩ := f.2 r (by omega)
  obtain ⟨e1, e2⟩ := f3 (hP r h1')
  refine ⟨⟨f1.trans h1, h1'⟩, ?_, rBl_fr h3 f hS e2, rBl_fr h4 f hP e2, rBl_fr h5 f hS e2, rBl_fr h6 f hP e2, rTk_fr h7 f hP e2, rCp_fr h8 f hP e2, ?_⟩
  · unfold rSc; rw [e1]; exact h2
  · rw [e2]; exact rTm_fr h9 f hS
theorem rRi_ex (h : rRi P S σ RA cl t M r A) (f : rFr rNo t M t' M') : rRi P S σ RA cl t' M' r A := rRi_fr h f (fun _ _ z => z) (fun _ _ z => z)
theorem rPs_fr {m : Nat} (h : rPs t r m) (f : rFr rNo t M t' M') (hr : xk t r ≤ 22) : rPs t' r m := by
  obtain ⟨b, h1, h2, h3, h4⟩ := h
  obtain ⟨-, -, f3, -⟩ := f.2 r hr
  obtain ⟨g1, g2, g3, -⟩ := f.2 b (by omega)
  refine ⟨b, by rw [(f3 id).2]; exact h1, g1.trans h2, by rw [g2]; exact h3, fun i hi => ?_⟩
  obtain ⟨c, c1, c2⟩ := h4 i (by rw [← g2]; exact hi)
  exact ⟨c, by rw [(g3 id).2]; exact c1, (f.2 c (by omega)).1.trans c2⟩
/-! writes -/
theorem rBl_w {c jn : Nat} {s pl v : Int} (h : rBl P σ RA t M Sf r k n s0 d len) (hσ : σ c = s) (hd : ∀ i, 0 ≤ i → i < n → s0 + d * i ≠ s ∧ ∀ j, 0 ≤ j → j < len i → s0 + d * i + j ≠ pl) : rBl P σ RA t (xw M c jn v) (yup Sf pl v) r k n s0 d len := by
  refine ⟨h.1, fun i a b => ?_⟩
  obtain ⟨g1, g2, g3, g4, g5⟩ := h.2 i a b
  obtain ⟨d1, d2⟩ := hd i a b
  refine ⟨g1, g2, g3, g4, fun j ja jb => ?_⟩
  rw [xw_B (fun e => d1 (by rw [← g1, ← hσ, e])), yup_n (d2 j ja jb)]
  exact g5 j ja jb
theorem rBl_ws {i0 j0 v : Int} (h : rBl P σ RA t M Sf r k n s0 d len) (i1 : 0 ≤ i0) (i2 : i0 < n) (j1 : 0 ≤ j0) (hd : ∀ i, 0 ≤ i → i < n → i ≠ i0 → s0 + d * i ≠ s0 + d * i0 ∧ ∀ j, 0 ≤ j → j < len i → s0 + d * i + j ≠ s0 + d * i0 + j0) : rBl P σ RA t (xw M (RA (s0 + d * i0)) j0.toNat v) (yup Sf (s0 + d * i0 + j0) v) r k n s0 d len := by
  refine ⟨h.1, fun i a b => ?_⟩
  obtain ⟨g1, g2, g3, g4, g5⟩ := h.2 i a b
  refine ⟨g1, g2, g3, g4, fun j ja jb => ?_⟩
  by_cases e : i = i0
  · subst e
    by_cases ej : j = j0
    · subst ej; rw [xw_s, yup_s]
    · rw [xw_j (by omega), yup_n (by omega)]; exact g5 j ja jb
  · obtain ⟨d1, d2⟩ := hd i a b e
    have g0 := (h.2 i0 i1 i2).1
    rw [xw_B (fun q => d1 (by rw [← g1, ← g0, q])), yup_n (d2 j ja jb)]
    exact g5 j ja jb
theorem rTk_w {c jn : Nat} {s pl v ng nf : Int} (h : rTk P σ RA t M Sf r ng nf) (hσ : σ c = s) (hs : s < 561) (hp : pl < 561) : rTk P σ RA t (xw M c jn v) (yup Sf pl v) r ng nf := by
  refine ⟨h.1, fun i a b => ?_⟩
  obtain ⟨g1, g2, g3, g4, g5⟩ := h.2 i a b
  refine ⟨g1, g2, g3, g4, fun q j ja jb => ?_⟩
  rw [xw_B (fun e => by have : σ (RA (561 + 24 * i)) = σ c := by rw [e]
                        omega), yup_n (by omega)]
  exact g5 q j ja jb
theorem rTk_ws {g0 f0 v ng nf : Int} (h : rTk P σ RA t M Sf r ng nf) (h6 : nf ≤ 6) (g1 : 0 ≤ g0) (g2 : g0 < 6) (f1 : 0 ≤ f0) (f2 : f0 < 6) : rTk P σ RA t (xw M (RA (561 + 24 * g0)) f0.toNat v) (yup Sf (561 + 4 * (6 * g0 + f0)) v) r ng nf := by
  refine ⟨h.1, fun i a b => ?_⟩
  obtain ⟨q1, q2, q3, q4, q5⟩ := h.2 i a b
  refine ⟨q1, q2, q3, q4, fun q j ja jb => ?_⟩
  by_cases e : i = g0
  · subst e
    by_cases ej : j = f0
    · subst ej; rw [xw_s, yup_s]
    · rw [xw_j (by omega), yup_n (by omega)]; exact q5 q j ja jb
  · have p1 := (h.2 g0 g1 g2).1
    rw [xw_B (fun z => by have : σ (RA (561 + 24 * i)) = σ (RA (561 + 24 * g0)) := by rw [z]
                          omega), yup_n (by omega)]
    exact q5 q j ja jb
theorem rCp_w {c jn : Nat} {v : Int} {C : List yCo} (h : rCp P σ t M r cl C) (hσ : σ c ≠ 0 ∨ xk t c ≠ 14) : rCp P σ t (xw M c jn v) r cl C := by
  refine ⟨h.1, h.2.1, h.2.2.1, fun i a u ha hu => ?_⟩
  obtain ⟨q1, q2, q3, q4, q5⟩ := h.2.2.2 i a u ha hu
  have e : a ≠ c := fun e => by subst e; omega
  exact ⟨q1, q2, q3, q4, by rw [xw_B e]; exact q5⟩
theorem rNd_w {c jn : Nat} {v : Int} (hc : xk t c ≠ 12) : ∀ (d q : Nat) (K : List Int), rNd S t M d q K → rNd S t (xw M c jn v) d q K
  | 0, _, _, h => h.elim
  | d + 1, q, K, h => by
    obtain ⟨h1, h2, h3⟩ := h
    refine ⟨h1, h2, ?_⟩
    have hne : q ≠ c := fun e => hc (by rw [← e]; exact h2)
    rw [xw_B hne]
    rcases h3 with h | h | ⟨h4, h5, l, r, Kl, Kr, h6, h7, h8, h9, h10⟩
    · exact Or.inl h
    · exact Or.inr (Or.inl h)
    · exact Or.inr (Or.inr ⟨h4, h5, l, r, Kl, Kr, h6, h7, rNd_w hc d l Kl h8, rNd_w hc d r Kr h9, h10⟩)
theorem rTm_w {c jn : Nat} {v : Int} {o : Option Nat} {K : List Int} (h : rTm S t M o K) (hc : xk t c ≠ 12) : rTm S t (xw M c jn v) o K := by
  cases o with
  | none => exact h
  | some q => exact rNd_w hc 3 q K h
theorem rSc_w {c jn : Nat} {pl v : Int} (h : rSc M r Sf) (hc : r ≠ c) (hp : 12 < pl) : rSc (xw M c jn v) r (yup Sf pl v) := by
  unfold rSc
  rw [xw_B hc, yup_n (by omega), yup_n (by omega), yup_n (by omega), yup_n (by omega), yup_n (by omega), yup_n (by omega)]
  exact h
theorem rBl_n {n' : Int} (h : rBl P σ RA t M Sf r k n s0 d len) (e : n' = n) : rBl P σ RA t M Sf r k n' s0 d len := e ▸ h
theorem rBl_l {len' : Int → Int} (h : rBl P σ RA t M Sf r k n s0 d len) (e : ∀ i, 0 ≤ i → i < n → len' i = len i) : rBl P σ RA t M Sf r k n s0 d len' := ⟨h.1, fun i a b => by
  obtain ⟨q1, q2, q3, q4, q5⟩ := h.2 i a b
  exact ⟨q1, q2, q3, by rw [e i a b]; exact q4, fun j ja jb => q5 j ja (by rw [← e i a b]; exact jb)⟩⟩
theorem rSc_ne (h : rRi P S σ RA cl t M r A) {c : Nat} (hc : xk t c = 14) : r ≠ c := fun e => by have := h.1.1; rw [e] at this; omega
/-- a packet's field -/
theorem rRi_wp {p j v : Int} (h : rRi P S σ RA cl t M r A) (hN : rOk A) (p0 : 0 ≤ p) (p1 : p < yS A 3) (j0 : 0 ≤ j) (j1 : j < 8) : rRi P S σ RA cl t (xw M (RA (81 + 9 * p)) j.toNat v) r (yw A (81 + 9 * p + j) v) := by
  obtain ⟨⟨n1, n2, n3, n4, n5, n6⟩, hr⟩ := hN
  obtain ⟨h1, h2, h3, h4, h5, h6, h7, h8, h9⟩ := id h
  obtain ⟨q1, q2, q3, q4, q5⟩ := h6.2 p p0 p1
  have e : ∀ i, i ≠ 81 + 9 * p + j → yS (yw A (81 + 9 * p + j) v) i = yS A i := fun i hi => yup_n hi
  refine ⟨h1, rSc_w h2 (rSc_ne h q3) (by omega), ?_, ?_, ?_, ?_, ?_, rCp_w h8 (Or.inl (by omega)), rTm_w h9 (by omega)⟩
  · rw [e 1 (by omega)]; exact rBl_w h3 q1 (fun i a b => ⟨by omega, fun j ja jb => by omega⟩)
  · rw [e 2 (by omega)]; exact rBl_w h4 q1 (fun i a b => ⟨by omega, fun j ja jb => by omega⟩)
  · rw [e 2 (by omega)]
    exact rBl_l (rBl_w h5 q1 (fun i a b => ⟨by omega, fun j ja jb => by have := hr i a b; omega⟩)) (fun i a b => e _ (by omega))
  · rw [e 3 (by omega)]; exact rBl_ws h6 p0 p1 j0 (fun i a b c => ⟨by omega, fun j ja jb => by omega⟩)
  · rw [e 1 (by omega), e 2 (by omega)]; exact rTk_w h7 q1 (by omega) (by omega)
/-- a flow's field -/
theorem rRi_wf {f j v : Int} (h : rRi P S σ RA cl t M r A) (hN : rOk A) (p0 : 0 ≤ f) (p1 : f < yS A 2) (j0 : 0 ≤ j) (j1 : j < 3) : rRi P S σ RA cl t (xw M (RA (34 + 8 * f)) j.toNat v) r (yw A (34 + 8 * f + j) v) := by
  obtain ⟨⟨n1, n2, n3, n4, n5, n6⟩, hr⟩ := hN
  obtain ⟨h1, h2, h3, h4, h5, h6, h7, h8, h9⟩ := id h
  obtain ⟨q1, q2, q3, q4, q5⟩ := h4.2 f p0 p1
  have e : ∀ i, i ≠ 34 + 8 * f + j → yS (yw A (34 + 8 * f + j) v) i = yS A i := fun i hi => yup_n hi
  refine ⟨h1, rSc_w h2 (rSc_ne h q3) (by omega), ?_, ?_, ?_, ?_, ?_, rCp_w h8 (Or.inl (by omega)), rTm_w h9 (by omega)⟩
  · rw [e 1 (by omega)]; exact rBl_w h3 q1 (fun i a b => ⟨by omega, fun j ja jb => by omega⟩)
  · rw [e 2 (by omega)]; exact rBl_ws h4 p0 p1 j0 (fun i a b c => ⟨by omega, fun j ja jb => by omega⟩)
  · rw [e 2 (by omega)]
    exact rBl_l (rBl_w h5 q1 (fun i a b => ⟨by omega, fun j ja jb => by have := hr i a b; omega⟩)) (fun i a b => e _ (by omega))
  · rw [e 3 (by omega)]; exact rBl_w h6 q1 (fun i a b => ⟨by omega, fun j ja jb => by omega⟩)
  · rw [e 1 (by omega), e 2 (by omega)]; exact rTk_w h7 q1 (by omega) (by omega)
/-- a bucket -/
theorem rRi_wt {g f v : Int} (h : rRi P S σ RA cl t M r A) (hN : rOk A) (g0 : 0 ≤ g) (g1 : g < 6) (f0 : 0 ≤ f) (f1 : f < 6) : rRi P S σ RA cl t (xw M (RA (561 + 24 * g)) f.toNat v) r (yw A (561 + 4 * (6 * g + f)) v) := by
  obtain ⟨⟨n1, n2, n3, n4, n5, n6⟩, hr⟩ := hN
  obtain ⟨h1, h2, h3, h4, h5, h6, h7, h8, h9⟩ := id h
  obtain ⟨q1, q2, q3, q4, q5⟩ := h7.2 g g0 g1
  have e : ∀ i, i ≠ 561 + 4 * (6 * g + f) → yS (yw A (561 + 4 * (6 * g + f)) v) i = yS A i := fun i hi => yup_n hi
  refine ⟨h1, rSc_w h2 (rSc_ne h q3) (by omega), ?_, ?_, ?_, ?_, ?_, rCp_w h8 (Or.inl (by omega)), rTm_w h9 (by omega)⟩
  · rw [e 1 (by omega)]; exact rBl_w h3 q1 (fun i a b => ⟨by omega, fun j ja jb => by omega⟩)
  · rw [e 2 (by omega)]; exact rBl_w h4 q1 (fun i a b => ⟨by omega, fun j ja jb => by omega⟩)
  · rw [e 2 (by omega)]
    exact rBl_l (rBl_w h5 q1 (fun i a b => ⟨by omega, fun j ja jb => by have := hr i a b; omega⟩)) (fun i a b => e _ (by omega))
  · rw [e 3 (by omega)]; exact rBl_w h6 q1 (fun i a b => ⟨by omega, fun j ja jb => by omega⟩)
  · rw [e 1 (by omega), e 2 (by omega)]; exact rTk_ws h7 (by omega) g0 g1 f0 f1
theorem rBl_r {c jn : Nat} {pl v : Int} (h : rBl P σ RA t M Sf r k n s0 d len) (hk : xk t c ≠ 14) (hp : ∀ i, 0 ≤ i → i < n → ∀ j, 0 ≤ j → j < len i → s0 + d * i + j ≠ pl) : rBl P σ RA t (xw M c jn v) (yup Sf pl v) r k n s0 d len := by
  refine ⟨h.1, fun i a b => ?_⟩
  obtain ⟨g1, g2, g3, g4, g5⟩ := h.2 i a b
  refine ⟨g1, g2, g3, g4, fun j ja jb => ?_⟩
  rw [xw_B (fun e => hk (by rw [← e]; exact g3)), yup_n (hp i a b j ja jb)]
  exact g5 j ja jb
/-- a scalar of the Road: its field fj holds the place k -/
theorem rRi_wr {fj : Nat} {pl v : Int} (h : rRi P S σ RA cl t M r A) (hN : rOk A) (hj : (fj, pl) ∈ [((0 : Nat), (0 : Int)), (8, 7), (9, 8), (10, 9), (11, 10), (12, 11)]) : rRi P S σ RA cl t (xw M r fj v) r (yw A pl v) := by
  obtain ⟨⟨n1, n2, n3, n4, n5, n6⟩, hr⟩ := hN
  obtain ⟨h1, h2, h3, h4, h5, h6, h7, h8, h9⟩ := id h
  have hk : xk t r ≠ 14 := by rw [h1.1]; decide
  have hpl : pl = 0 ∨ pl = 7 ∨ pl = 8 ∨ pl = 9 ∨ pl = 10 ∨ pl = 11 := by
    simp only [List.mem_cons, Prod.mk.injEq, List.not_mem_nil, or_false] at hj; omega
  have e : ∀ i, i ≠ pl → yS (yw A pl v) i = yS A i := fun i hi => yup_n hi
  refine ⟨h1, ?_, ?_, ?_, ?_, ?_, ?_, rCp_w h8 (Or.inr hk), rTm_w h9 (by rw [h1.1]; decide)⟩
  · obtain ⟨c1, c2, c3, c4, c5, c6⟩ := h2
    simp only [List.mem_cons, Prod.mk.injEq, List.not_mem_nil, or_false] at hj
    unfold rSc
    rcases hj with ⟨rfl, rfl⟩ | ⟨rfl, rfl⟩ | ⟨rfl, rfl⟩ | ⟨rfl, rfl⟩ | ⟨rfl, rfl⟩ | ⟨rfl, rfl⟩ <;> simp [yS_w, yup, xw, c1, c2, c3, c4, c5, c6]
  · rw [e 1 (by omega)]; exact rBl_r h3 hk (fun i a b j ja jb => by omega)
  · rw [e 2 (by omega)]; exact rBl_r h4 hk (fun i a b j ja jb => by omega)
  · rw [e 2 (by omega)]
    exact rBl_l (rBl_r h5 hk (fun i a b j ja jb => by omega)) (fun i a b => e _ (by omega))
  · rw [e 3 (by omega)]; exact rBl_r h6 hk (fun i a b j ja jb => by omega)
  · rw [e 1 (by omega), e 2 (by omega)]
    refine ⟨h7.1, fun i a b => ?_⟩
    obtain ⟨q1, q2, q3, q4, q5⟩ := h7.2 i a b
    refine ⟨q1, q2, q3, q4, fun q j ja jb => ?_⟩
    rw [xw_B (fun z => hk (by rw [← z]; exact q3)), yS_w, yup_n (by omega)]
    exact q5 q j ja jb
/-- places that the Road does not hold -/
theorem rRi_x {pl v : Int} (h : rRi P S σ RA cl t M r A) (hN : rOk A) (hp : pl = 5 ∨ pl = 6) : rRi P S σ RA cl t M r (yw A pl v) := by
  obtain ⟨⟨n1, n2, n3, n4, n5, n6⟩, hr⟩ := hN
  obtain ⟨h1, h2, h3, h4, h5, h6, h7, h8, h9⟩ := id h
  have e : ∀ i, i ≠ pl → yS (yw A pl v) i = yS A i := fun i hi => yup_n hi
  have g : ∀ {P k n s0 d len}, 7 ≤ s0 → 0 ≤ d → rBl P σ RA t M (yS A) r k n s0 d len → rBl P σ RA t M (yS (yw A pl v)) r k n s0 d len := fun {P k n s0 d len} hs hd h => ⟨h.1, fun i a b => by
    obtain ⟨g1, g2, g3, g4, g5⟩ := h.2 i a b
    refine ⟨g1, g2, g3, g4, fun j ja jb => ?_⟩
    rw [e _ (by have := Int.mul_nonneg hd a; omega)]
    exact g5 j ja jb⟩
  refine ⟨h1, ?_, ?_, ?_, ?_, ?_, ?_, h8, h9⟩
  · unfold rSc; rw [e 0 (by omega), e 7 (by omega), e 8 (by omega), e 9 (by omega), e 10 (by omega), e 11 (by omega)]; exact h2
  · rw [e 1 (by omega)]; exact g (by omega) (by omega) h3
  · rw [e 2 (by omega)]; exact g (by omega) (by omega) h4
  · rw [e 2 (by omega)]; exact rBl_l (g (by omega) (by omega) h5) (fun i a b => e _ (by omega))
  · rw [e 3 (by omega)]; exact g (by omega) (by omega) h6
  · rw [e 1 (by omega), e 2 (by omega)]
    refine ⟨h7.1, fun i a b => ?_⟩
    obtain ⟨q1, q2, q3, q4, q5⟩ := h7.2 i a b
    exact ⟨q1, q2, q3, q4, fun q j ja jb => by rw [e _ (by omega)]; exact q5 q j ja jb⟩
/-- the queues and the passages of A are not the Road's -/
theorem rRi_S {B : yA} (h : rRi P S σ RA cl t M r A) (e1 : yS B = yS A) (e2 : yC B = yC A) (e3 : yK B = yK A) : rRi P S σ RA cl t M r B := by
  unfold rRi at h ⊢
  rw [e1, e2, e3]; exact h
end RFM
