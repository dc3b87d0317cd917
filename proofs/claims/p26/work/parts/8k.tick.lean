/-! A TICK of the Road -/
def rGd (P S : Nat → Prop) (RA : Int → Nat) (t : xTh) (M : xMe) (r : Nat) (A : yA) : Prop := (∃ σ cl, rRi P S σ RA cl t M r A) ∧ yI A ∧ yQx A ∧ xlive t ∧ rDd P t ∧ rPs t r 40
theorem yQx_opn {g f : Int} : ∀ (n : Nat) (A : yA), yI A → yQx A → 0 ≤ g → g < yS A 1 → 0 ≤ f → f < yS A 2 → yQx (yOpn g f n A) ∧ (∀ i, yQj i A → yQj i (yOpn g f n A)) ∧ yPh A ≤ yPh (yOpn g f n A) := by
  intro n
  induction n with
  | zero => intro A hI hx _ _ _ _; exact ⟨hx, fun _ h => h, Int.le_refl _⟩
  | succ n ih =>
    intro A hI hx g0 g1 f0 f1
    cases hl : yQ A (6 * g + f) with
    | nil => rw [yOpn_nil hl]; exact ⟨hx, fun _ h => h, Int.le_refl _⟩
    | cons p l =>
      by_cases hc : yCan p g f A
      · rw [yOpn_go hl hc]
        obtain ⟨a, b, -⟩ := yHead hI.1 hI.2.2.1 hI.2.2.2.1 g0 g1 f0 f1 hl
        obtain ⟨n1, n2, n3, n4, n5, n6⟩ := hI.1.1
        obtain ⟨s1, s2, -⟩ := ySt_pas (p := p) (g := g) (f := f) (A := A) ⟨f0, by omega⟩ ⟨g0, by omega⟩ ⟨a, by omega⟩
        obtain ⟨x1, x2⟩ := yQx_pas hI hx g0 g1 f0 f1 hl
        obtain ⟨i1, i2, i3⟩ := ih _ (yI_pas hI g0 g1 f0 f1 hl) x1 g0 (by rw [s1.1 1 (by unfold yStat; omega)]; exact g1) f0 (by rw [s1.1 2 (by unfold yStat; omega)]; exact f1)
        exact ⟨i1, fun i h => i2 i (x2 i h), Int.le_trans (yPh_pas_ge hI g0 g1 f0 f1 hl) i3⟩
      · rw [yOpn_no hl hc]; exact ⟨hx, fun _ h => h, Int.le_refl _⟩
theorem yQx_opf {g : Int} : ∀ (n : Nat) (f : Int) (A : yA), yI A → yQx A → 0 ≤ g → g < yS A 1 → 0 ≤ f → f + n ≤ yS A 2 → yI (yOpf g n f A) ∧ yTk A (yOpf g n f A) ∧ yQx (yOpf g n f A) ∧ (∀ i, yQj i A → yQj i (yOpf g n f A)) ∧ yPh A ≤ yPh (yOpf g n f A) := by
  intro n
  induction n with
  | zero => intro f A hI hx _ _ _ _; exact ⟨hI, yTk_refl A, hx, fun _ h => h, Int.le_refl _⟩
  | succ n ih =>
    intro f A hI hx g0 g1 f0 f1
    obtain ⟨i1, i2⟩ := yOpn_I (g := g) (f := f) 20 A hI g0 g1 f0 (by omega)
    obtain ⟨x1, x2, x3⟩ := yQx_opn (g := g) (f := f) 20 A hI hx g0 g1 f0 (by omega)
    obtain ⟨j1, j2, j3, j4, j5⟩ := ih (f + 1) _ i1 x1 g0 (by rw [i2.1.1 1 (by unfold yStat; omega)]; exact g1) (by omega) (by rw [i2.1.1 2 (by unfold yStat; omega)]; omega)
    exact ⟨j1, yTk_trans i2 j2, j3, fun i h => j4 i (x2 i h), Int.le_trans x3 j5⟩
theorem yQx_opg {nf : Nat} : ∀ (n : Nat) (g : Int) (A : yA), yI A → yQx A → 0 ≤ g → g + n ≤ yS A 1 → (nf : Int) = yS A 2 → yI (yOpg nf n g A) ∧ yTk A (yOpg nf n g A) ∧ yQx (yOpg nf n g A) ∧ (∀ i, yQj i A → yQj i (yOpg nf n g A)) ∧ yPh A ≤ yPh (yOpg nf n g A) := by
  intro n
  induction n with
  | zero => intro g A hI hx _ _ _; exact ⟨hI, yTk_refl A, hx, fun _ h => h, Int.le_refl _⟩
  | succ n ih =>
    intro g A hI hx g0 g1 hnf
    obtain ⟨i1, i2, x1, x2, x3⟩ := yQx_opf (g := g) nf 0 A hI hx g0 (by omega) (by omega) (by omega)
    obtain ⟨j1, j2, j3, j4, j5⟩ := ih (g + 1) _ i1 x1 (by omega) (by rw [i2.1.1 1 (by unfold yStat; omega)]; omega) (by rw [i2.1.1 2 (by unfold yStat; omega)]; exact hnf)
    exact ⟨j1, yTk_trans i2 j2, j3, fun i h => j4 i (x2 i h), Int.le_trans x3 j5⟩
theorem yQx_ar1 {A : yA} {p : Int} (hI : yI A) (hx : yQx A) (hj : yQj p A) (p0 : 0 ≤ p) (p1 : p < yS A 3) : yQx (yAr1 p A) ∧ yQj (p + 1) (yAr1 p A) ∧ yPh A ≤ yPh (yAr1 p A) := by
  unfold yAr1
  split
  · obtain ⟨x1, x2⟩ := yQx_arr hI hx hj p0 p1 (by omega) (by omega)
    exact ⟨x1, x2, yPh_arr hI.1.1 p0⟩
  · refine ⟨hx, fun q a b c => ?_, Int.le_refl _⟩
    rcases hj q a b c with z | z
    · exact Or.inl z
    · exact Or.inr ⟨z.1, by omega⟩
theorem yQx_ars : ∀ (n : Nat) (p : Int) (A : yA), yI A → yLv A → yQx A → yQj p A → 0 ≤ p → p + n ≤ yS A 3 → yQx (yArs n p A) ∧ yQj (p + n) (yArs n p A) ∧ yPh A ≤ yPh (yArs n p A) := by
  intro n
  induction n with
  | zero => intro p A hI hl hx hj _ _; exact ⟨hx, by rw [show p + ((0 : Nat) : Int) = p by omega]; exact hj, Int.le_refl _⟩
  | succ n ih =>
    intro p A hI hl hx hj a b
    obtain ⟨i1, i2, i3, i4⟩ := yI_ar1 hI hl a (show p < yS A 3 by omega)
    obtain ⟨x1, x2, x3⟩ := yQx_ar1 hI hx hj a (show p < yS A 3 by omega)
    obtain ⟨j1, j2, j3⟩ := ih (p + 1) _ i1 i4 x1 x2 (by omega) (by rw [i2.1.1 3 (by unfold yStat; omega)]; omega)
    exact ⟨j1, by rw [show p + ((n + 1 : Nat) : Int) = p + 1 + n by omega]; exact j2, Int.le_trans x3 j3⟩
section RTI
variable {P S : Nat → Prop} {RA : Int → Nat} {r F : Nat} {Q : xTh → xMe → Prop} {K188 : Nat → Nat → Int → xTh → xMe → Prop} {K199 K224 : Nat → Nat → Int → Int → xTh → xMe → Prop} {K230 : Nat → Nat → Int → xTh → xMe → Prop} {K236 K186 K128 K70 : Nat → Nat → xTh → xMe → Prop} {K2 : Nat → Nat → Int → xTh → xMe → Prop} {g f : Int}
theorem rGd_fr {t t' : xTh} {M M' : xMe} {A B : yA} (h : rGd P S RA t M r A) {σ : Nat → Int} {cl : List Nat} (g : rRi P S σ RA cl t' M' r B) (hI : yI B) (hx : yQx B) (fr : rFr P t M t' M') (hp : rPs t' r 40) : rGd P S RA t' M' r B := ⟨⟨σ, cl, g⟩, hI, hx, fr.1, rDd_fr h.2.2.2.2.1 fr, hp⟩
theorem s_210 (hF : 50 ≤ F) (g0 : 0 ≤ g) (f0 : 0 ≤ f) : ∀ (m k n : Nat) (A : yA) (t : xTh) (M : xMe), rGd P S RA t M r A → g < yS A 1 → f < yS A 2 → (yQ A (6 * g + f)).length ≤ m → m + 1 < k → yPh (yOpn g f m A) - yPh A ≤ n → (∀ t' M' n', rGd P S RA t' M' r (yOpn g f m A) → rFr P t M t' M' → (n : Int) - (yPh (yOpn g f m A) - yPh A) ≤ (n' : Nat) → K224 n' r g f t' M') → p_X14_tick_210 F Q K188 K199 K224 K230 K236 k n r g f 1 t M := by
  intro m
  induction m with
  | zero =>
    intro k n A t M hg g1 f1 hm hk hn hq
    obtain ⟨⟨σ, cl, h⟩, hI, hx, hl, hD, hps⟩ := id hg
    obtain ⟨k, rfl⟩ : ∃ k', k = k' + 2 := ⟨k - 2, by omega⟩
    have hnil : yQ A (6 * g + f) = [] := List.length_eq_zero_iff.mp (by omega)
    unfold p_X14_tick_210
    refine ⟨fun z => absurd z (by decide), fun _ => ⟨0, by omega, s_passes h hI hx hl hD hps hF g0 g1 f0 f1 (fun _ => ?_) (fun p l e => absurd e (by rw [hnil]; simp)) (fun p l e => absurd e (by rw [hnil]; simp))⟩⟩
    unfold p_X14_tick_210
    exact ⟨fun _ => hq t M n hg (rFr_refl hl) (by rw [yOpn]; omega), fun z => absurd rfl z⟩
  | succ m ih =>
    intro k n A t M hg g1 f1 hm hk hn hq
    obtain ⟨⟨σ, cl, h⟩, hI, hx, hl, hD, hps⟩ := id hg
    obtain ⟨k, rfl⟩ : ∃ k', k = k' + 2 := ⟨k - 2, by omega⟩
    unfold p_X14_tick_210
    refine ⟨fun z => absurd z (by decide), fun _ => ?_⟩
    have stop : yOpn g f (m + 1) A = A → p_X14_tick_210 F Q K188 K199 K224 K230 K236 (k + 1) n r g f 0 t M := fun e => by
      unfold p_X14_tick_210
      rw [e] at hq
      exact ⟨fun _ => hq t M n hg (rFr_refl hl) (by omega), fun z => absurd rfl z⟩
    cases hql : yQ A (6 * g + f) with
    | nil => exact ⟨0, by omega, s_passes h hI hx hl hD hps hF g0 g1 f0 f1 (fun _ => stop (yOpn_nil hql)) (fun p l e => absurd e (by rw [hql]; simp)) (fun p l e => absurd e (by rw [hql]; simp))⟩
    | cons p l =>
      by_cases hc : yCan p g f A
      · have e := yOpn_go (n := m) hql hc
        have e2 := yPh_pas hI g0 g1 f0 f1 hql
        have e3 := ySp_len (f := f) 30 (yPe p g f A) (yC A)
        obtain ⟨a, b, -⟩ := yHead hI.1 hI.2.2.1 hI.2.2.2.1 g0 g1 f0 f1 hql
        obtain ⟨n1, n2, n3, n4, n5, n6⟩ := hI.1.1
        obtain ⟨s1, s2, -⟩ := ySt_pas (p := p) (g := g) (f := f) (A := A) ⟨f0, by omega⟩ ⟨g0, by omega⟩ ⟨a, by omega⟩
        obtain ⟨x1, x2⟩ := yQx_pas hI hx g0 g1 f0 f1 hql
        have hI' := yI_pas hI g0 g1 f0 f1 hql
        have g1' : g < yS (yPas p g f A) 1 := by rw [s1.1 1 (by unfold yStat; omega)]; exact g1
        have f1' : f < yS (yPas p g f A) 2 := by rw [s1.1 2 (by unfold yStat; omega)]; exact f1
        have e4 := (yQx_opn (g := g) (f := f) m _ hI' x1 g0 g1' f0 f1').2.2
        rw [e] at hn hq
        refine ⟨4 + (yC A).length - (ySp f 30 (yPe p g f A) (yC A)).length, by omega, s_passes h hI hx hl hD hps hF g0 g1 f0 f1 (fun e => absurd e (by rw [hql]; simp)) (fun p' l' e' hn' => ?_) (fun p' l' e' hc' => ?_)⟩
        · rw [hql] at e'; cases e'; exact absurd hc hn'
        · rw [hql] at e'; cases e'
          refine ⟨by omega, fun cl' t' M' w1 w2 w3 => ?_⟩
          have hg' := rGd_fr hg w1 hI' x1 w2 w3
          refine ih (k + 1) _ _ t' M' hg' g1' f1' (by rw [yPas_q hql]; rw [hql] at hm; simp at hm; omega) (by omega) (by omega) (fun t2 M2 n2 u1 u2 u3 => hq t2 M2 n2 u1 (rFr_trans w2 u2) (by omega))
      · exact ⟨0, by omega, s_passes h hI hx hl hD hps hF g0 g1 f0 f1 (fun _ => stop (yOpn_no hql hc)) (fun _ _ _ _ => stop (yOpn_no hql hc)) (fun p' l' e' hc' => by rw [hql] at e'; cases e'; exact absurd hc' hc)⟩
theorem s_199 (hF : 50 ≤ F) (g0 : 0 ≤ g) : ∀ (d k n : Nat) (f : Int) (A : yA) (t : xTh) (M : xMe), rGd P S RA t M r A → g < yS A 1 → 0 ≤ f → f + d = yS A 2 → d < k → yPh (yOpf g d f A) - yPh A ≤ n → (∀ t' M' n', rGd P S RA t' M' r (yOpf g d f A) → rFr P t M t' M' → (n : Int) - (yPh (yOpf g d f A) - yPh A) ≤ (n' : Nat) → K230 n' r g t' M') → p_X14_tick_199 F Q K188 K230 K236 k n r g f t M := by
  intro d
  induction d with
  | zero =>
    intro k n f A t M hg g1 f0 hd hk hn hq
    obtain ⟨⟨σ, cl, h⟩, hI, hx, hl, hD, hps⟩ := id hg
    obtain ⟨k, rfl⟩ : ∃ k', k = k' + 1 := ⟨k - 1, by omega⟩
    obtain ⟨n1, n2, n3, n4, n5, n6⟩ := id hI.1.1
    obtain ⟨a, a1, a2, a3, -⟩ := rRi_fl h
    unfold p_X14_tick_199
    exact ⟨a, a1, a2, ⟨by omega, by omega⟩, fun _ => hq t M n hg (rFr_refl hl) (by rw [yOpf]; omega), fun q => absurd q (by omega)⟩
  | succ d ih =>
    intro k n f A t M hg g1 f0 hd hk hn hq
    obtain ⟨⟨σ, cl, h⟩, hI, hx, hl, hD, hps⟩ := id hg
    obtain ⟨k, rfl⟩ : ∃ k', k = k' + 1 := ⟨k - 1, by omega⟩
    obtain ⟨n1, n2, n3, n4, n5, n6⟩ := id hI.1.1
    obtain ⟨a, a1, a2, a3, -⟩ := rRi_fl h
    have hI4 := yI4_room hI.1 hI.2.2.1 hI.2.2.2.1 g0 g1 f0 (show f < yS A 2 by omega)
    have hgt := hI.1.2.1 g g0 g1
    obtain ⟨i1, i2⟩ := yOpn_I (g := g) (f := f) 20 A hI g0 g1 f0 (by omega)
    obtain ⟨x1, x2, x3⟩ := yQx_opn (g := g) (f := f) 20 A hI hx g0 g1 f0 (by omega)
    have e1 : yS (yOpn g f 20 A) 1 = yS A 1 := i2.1.1 1 (by unfold yStat; omega)
    have e2 : yS (yOpn g f 20 A) 2 = yS A 2 := i2.1.1 2 (by unfold yStat; omega)
    obtain ⟨-, -, -, -, j5⟩ := yQx_opf (g := g) d (f + 1) _ i1 x1 g0 (by omega) (by omega) (by omega)
    have e : yOpf g (d + 1) f A = yOpf g d (f + 1) (yOpn g f 20 A) := rfl
    rw [e] at hn hq
    unfold p_X14_tick_199
    refine ⟨a, a1, a2, ⟨by omega, by omega⟩, fun q => absurd q (by omega), fun _ => ?_⟩
    refine s_210 hF g0 f0 20 F n A t M hg g1 (by omega) (by omega) (by omega) (by omega) (fun t' M' n' u1 u2 u3 => ?_)
    unfold p_X14_tick_224
    exact ⟨⟨by omega, by omega⟩, ih k n' (f + 1) _ t' M' u1 (by omega) (by omega) (by omega) (by omega) (by omega) (fun t2 M2 n2 v1 v2 v3 => hq t2 M2 n2 v1 (rFr_trans u2 v2) (by omega))⟩
theorem s_188 (hF : 50 ≤ F) {nf : Nat} : ∀ (d k n : Nat) (g : Int) (A : yA) (t : xTh) (M : xMe), rGd P S RA t M r A → 0 ≤ g → (nf : Int) = yS A 2 → g + d = yS A 1 → d < k → yPh (yOpg nf d g A) - yPh A ≤ n → (∀ t' M' n', rGd P S RA t' M' r (yOpg nf d g A) → rFr P t M t' M' → (n : Int) - (yPh (yOpg nf d g A) - yPh A) ≤ (n' : Nat) → K236 n' r t' M') → p_X14_tick_188 F Q K236 k n r g t M := by
  intro d
  induction d with
  | zero =>
    intro k n g A t M hg g0 hf hd hk hn hq
    obtain ⟨⟨σ, cl, h⟩, hI, hx, hl, hD, hps⟩ := id hg
    obtain ⟨k, rfl⟩ : ∃ k', k = k' + 1 := ⟨k - 1, by omega⟩
    obtain ⟨n1, n2, n3, n4, n5, n6⟩ := id hI.1.1
    obtain ⟨a, a1, a2, a3, -⟩ := rRi_ga h
    unfold p_X14_tick_188
    exact ⟨a, a1, a2, ⟨by omega, by omega⟩, fun _ => hq t M n hg (rFr_refl hl) (by rw [yOpg]; omega), fun q => absurd q (by omega)⟩
  | succ d ih =>
    intro k n g A t M hg g0 hf hd hk hn hq
    obtain ⟨⟨σ, cl, h⟩, hI, hx, hl, hD, hps⟩ := id hg
    obtain ⟨k, rfl⟩ : ∃ k', k = k' + 1 := ⟨k - 1, by omega⟩
    obtain ⟨n1, n2, n3, n4, n5, n6⟩ := id hI.1.1
    obtain ⟨a, a1, a2, a3, -⟩ := rRi_ga h
    obtain ⟨i1, i2, x1, x2, x3⟩ := yQx_opf (g := g) nf 0 A hI hx g0 (by omega) (by omega) (by omega)
    have e1 : yS (yOpf g nf 0 A) 1 = yS A 1 := i2.1.1 1 (by unfold yStat; omega)
    have e2 : yS (yOpf g nf 0 A) 2 = yS A 2 := i2.1.1 2 (by unfold yStat; omega)
    obtain ⟨-, -, -, -, j5⟩ := yQx_opg (nf := nf) d (g + 1) _ i1 x1 (by omega) (by omega) (by omega)
    have e : yOpg nf (d + 1) g A = yOpg nf d (g + 1) (yOpf g nf 0 A) := rfl
    rw [e] at hn hq
    unfold p_X14_tick_188
    refine ⟨a, a1, a2, ⟨by omega, by omega⟩, fun q => absurd q (by omega), fun _ => ?_⟩
    refine s_199 hF g0 nf F n 0 A t M hg (by omega) (by omega) (by omega) (by omega) (by omega) (fun t' M' n' u1 u2 u3 => ?_)
    unfold p_X14_tick_230
    exact ⟨⟨by omega, by omega⟩, ih k n' (g + 1) _ t' M' u1 (by omega) (by omega) (by omega) (by omega) (by omega) (fun t2 M2 n2 v1 v2 v3 => hq t2 M2 n2 v1 (rFr_trans u2 v2) (by omega))⟩
theorem rOu_17 {Ow : Nat → Prop} {t t' : xTh} {M M' : xMe} {b : Nat} (f : rFr Ow t M t' M') (hb : xk t b = 17) : xk t' b = 17 ∧ xn t' b = xn t b ∧ xr t' b = xr t b := by
  obtain ⟨f1, f2, -, f4⟩ := f.2 b (by omega)
  exact ⟨f1.trans hb, f2, rFr_17 f hb⟩
set_option maxHeartbeats 4000000 in
theorem s_138 (hF : 50 ≤ F) {b : Nat} : ∀ (d k n i : Nat) (A : yA) (t : xTh) (M : xMe), rGd P S RA t M r A → yLv A → yQj i A → xk t b = 17 → (xn t b : Int) = yS A 3 → (∀ p, 0 ≤ p → p < yS A 3 → xr t b p.toNat = some (RA (81 + 9 * p))) → (i : Int) + d = yS A 3 → d < k → yPh (yArs d i A) - yPh A ≤ n → (∀ t' M' n', rGd P S RA t' M' r (yArs d i A) → rFr P t M t' M' → (n : Int) - (yPh (yArs d i A) - yPh A) ≤ (n' : Nat) → K186 n' r t' M') → p_X14_tick_138 F Q K186 k n r b (yS A 3) (i : Int) t M := by
  intro d
  induction d with
  | zero =>
    intro k n i A t M hg hlv hj b2 b3 b4 hd hk hn hq
    obtain ⟨⟨σ, cl, h⟩, hI, hx, hl, hD, hps⟩ := id hg
    obtain ⟨k, rfl⟩ : ∃ k', k = k' + 1 := ⟨k - 1, by omega⟩
    unfold p_X14_tick_138
    exact ⟨fun _ => hq t M n hg (rFr_refl hl) (by rw [yArs]; omega), fun q => absurd q (by omega)⟩
  | succ d ih =>
    intro k n i A t M hg hlv hj b2 b3 b4 hd hk hn hq
    obtain ⟨⟨σ, cl, h⟩, hI, hx, hl, hD, hps⟩ := id hg
    obtain ⟨k, rfl⟩ : ∃ k', k = k' + 1 := ⟨k - 1, by omega⟩
    obtain ⟨n1, n2, n3, n4, n5, n6⟩ := id hI.1.1
    have p0 : (0 : Int) ≤ i := by omega
    have p1 : (i : Int) < yS A 3 := by omega
    obtain ⟨b9, -, -, -, c4⟩ := rRi_pk h
    obtain ⟨-, d2, d3⟩ := c4 i p0 p1
    obtain ⟨i1, i2, i3, i4⟩ := yI_ar1 hI hlv p0 p1
    obtain ⟨x1, x2, x3⟩ := yQx_ar1 hI hx hj p0 p1
    have e3 : yS (yAr1 i A) 3 = yS A 3 := i2.1.1 3 (by unfold yStat; omega)
    have hx2 : yQj ((i + 1 : Nat) : Int) (yAr1 i A) := by rw [show ((i + 1 : Nat) : Int) = (i : Int) + 1 by omega]; exact x2
    obtain ⟨-, -, j5⟩ := yQx_ars d ((i + 1 : Nat) : Int) _ i1 i4 x1 hx2 (by omega) (by omega)
    have e : yArs (d + 1) i A = yArs d ((i + 1 : Nat) : Int) (yAr1 i A) := by rw [show ((i + 1 : Nat) : Int) = (i : Int) + 1 by omega]; rfl
    rw [e] at hn hq
    have no : yAr1 i A = A → xR ((i : Int) + 1) ∧ p_X14_tick_138 F Q K186 k n r b (yS A 3) ((i : Int) + 1) t M := fun z => by
      rw [z] at hn hq hx2
      have := ih k n (i + 1) A t M hg hlv hx2 b2 b3 b4 (by omega) (by omega) hn hq
      rw [show ((i + 1 : Nat) : Int) = (i : Int) + 1 by omega] at this
      exact ⟨⟨by omega, by omega⟩, this⟩
    have yes : yS A (84 + 9 * i) ≤ 2 → yS A (84 + 9 * i) ≠ 1 → yAr1 i A = yArr i A → ∃ k177 : Nat, k177 ≤ n ∧ p_X14_arrives F k177 t r (RA (81 + 9 * i)) M (fun t177 M177 => (xR ((i : Int) + 1)) ∧ p_X14_tick_138 F Q K186 k ((n - k177)) r b (yS A 3) ((i : Int) + 1) t177 M177) := fun s1 s2 z => by
      refine ⟨(yPh (yAr1 i A) - yPh A).toNat, by omega, s_arrives h hI hx hl hD hps hF p0 p1 s1 s2 (by rw [← z]; omega) (fun σ' cl' t' M' w1 w2 w3 => ⟨⟨by omega, by omega⟩, ?_⟩)⟩
      rw [← z] at w1
      have hg' := rGd_fr hg w1 i1 x1 w2 w3
      obtain ⟨q1, q2, q3⟩ := rOu_17 w2 b2
      have := ih k (n - (yPh (yAr1 i A) - yPh A).toNat) (i + 1) _ t' M' hg' i4 hx2 q1 (by rw [q2, e3]; exact b3) (fun p a c => by rw [q3]; exact b4 p a (by omega)) (by omega) (by omega) (by omega) (fun t2 M2 n2 u1 u2 u3 => hq t2 M2 n2 u1 (rFr_trans w2 u2) (by omega))
      rw [show ((i + 1 : Nat) : Int) = (i : Int) + 1 by omega, e3] at this
      exact this
    unfold p_X14_tick_138
    refine ⟨fun q => absurd q (by omega), fun _ => ⟨⟨by omega, by omega⟩, _, b4 i p0 p1, d2, ⟨by omega, by omega⟩, ?_⟩⟩
    rw [rRi_p3 h p0 p1, rRi_p1 h p0 p1, h.2.1.1]
    refine ⟨fun q => yes (by omega) (by omega) (by unfold yAr1; rw [if_pos (Or.inl q)]), fun q => ⟨⟨by omega, by omega⟩, fun q2 => no (by unfold yAr1; rw [if_neg (by omega)]), fun q2 => ⟨⟨by omega, by omega⟩, fun q3 => no (by unfold yAr1; rw [if_neg (by omega)]), fun q3 => yes (by omega) (by omega) (by unfold yAr1; rw [if_pos (Or.inr ⟨q2, q3⟩)])⟩⟩⟩
end RTI
