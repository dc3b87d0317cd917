/-! WHILE A CHANGE IS MADE: the class, the Road of now, its copy, the Roads before -/
/-- a Road that is kept -/
def rLK (x rn bf : Nat) (D P S : Nat → Prop) (t : xTh) (M : xMe) (q : Nat) (B : yA) : Prop := ∃ Pq, rRd Pq S t M q B ∧ ∀ a, Pq a → ¬ P a ∧ rLand x rn bf D a
def rSp (x rn bf : Nat) (D : Nat → Prop) : Prop := x + 436 ≤ rn ∧ x + 436 ≤ bf ∧ ∀ q, D q → rn ≠ q + 1 ∧ bf ≠ q + 1 ∧ bf ≠ q + 2
def rMi (x rn bf : Nat) (D P S : Nat → Prop) (t : xTh) (M : xMe) (r q : Nat) (A : yA) (H : List yA) (B C : yA) (HB : List yA) : Prop :=
  rLC x D t M A H ∧ rLR x rn bf D P S t M r B ∧ rLB x rn bf D P S t M HB ∧ rLK x rn bf D P S t M q C ∧ xk t rn = 19 ∧ xlive t ∧ rSp x rn bf D
section RMI
variable {x rn bf r q : Nat} {D P S Ow : Nat → Prop} {t t' : xTh} {M M' : xMe} {A A' B B' C : yA} {H H' HB : List yA}
theorem rLK_fr (h : rLK x rn bf D P S t M q B) (f : rFr Ow t M t' M') (hO : ∀ a, Ow a → P a ∨ a = rn) (hS : ∀ a, S a → rLand x rn bf D a ∧ ¬ P a) : rLK x rn bf D P S t' M' q B := by
  obtain ⟨Pq, ⟨σ, RA, cl, q2⟩, q3⟩ := h
  exact ⟨Pq, ⟨σ, RA, cl, rRi_fr q2 f (fun a pa o => by
    rcases hO a o with z | z
    · exact (q3 a pa).1 z
    · exact (q3 a pa).2.2.1 z) (fun a sa o => by
    rcases hO a o with z | z
    · exact (hS a sa).2 z
    · exact (hS a sa).1.2.1 z)⟩, q3⟩
theorem rLK_cls (h : rLK x rn bf D P S t M q B) (hS : ∀ a, S a → rLand x rn bf D a ∧ ¬ P a) (hs : xqw t t') (hl : xlive t') (f : yFc x D M M') : rLK x rn bf D P S t' M' q B := by
  obtain ⟨Pq, ⟨σ, RA, cl, q2⟩, q3⟩ := h
  exact ⟨Pq, ⟨σ, RA, cl, rRi_cls q2 hs hl f (fun a pa => ⟨(q3 a pa).2.1, fun q hq => ((q3 a pa).2.2.2.2 q hq).2⟩) (fun a sa => ⟨(hS a sa).1.1, fun q hq => ((hS a sa).1.2.2.2 q hq).2⟩)⟩, q3⟩
theorem rMi_cls (h : rMi x rn bf D P S t M r q A H B C HB) (hs : xqw t t') (hl : xlive t') (f : yFc x D M M') (hc : yCs x t' M' D A' H') (hg : yHg H') : rMi x rn bf D P S t' M' r q A' H' B C HB := by
  obtain ⟨h1, h2, h3, h4, h5, h6, h7⟩ := h
  have hS := h2.2.2.2.2
  have g := rFr_cls hs hl f
  exact ⟨rLC_cls h1 hs f hc hg, rLR_cls h2 hs hl f, rLB_cls h3 hS ⟨h7.2.1, fun q hq => (h7.2.2 q hq).2.2⟩ hs hl f, rLK_cls h4 hS hs hl f, (g.2 rn (by omega)).1.trans h5, hl, h7⟩
theorem rMi_rn (h : rMi x rn bf D P S t M r q A H B C HB) (hN : yN A) (f : rFr (fun a => a = rn) t M t M') : rMi x rn bf D P S t M' r q A H B C HB := by
  obtain ⟨h1, h2, h3, h4, h5, h6, h7⟩ := h
  have hS := h2.2.2.2.2
  exact ⟨rLC_ow h1 hN f (fun a e => by subst e; exact ⟨h7.1, fun q hq => (h7.2.2 q hq).1⟩), rLR_rn h2 f, rLB_fr h3 f (fun a e => Or.inr e) h2.2.2.2.1 h5 hS, rLK_fr h4 f (fun a e => Or.inr e) hS, h5, h6, h7⟩
theorem rMi_z (h : rMi x rn bf D P S t M r q A H B C HB) (hN : yN A) (hl : xlive t') (e : t'.2 = t.2) : rMi x rn bf D P S t' M r q A H B C HB := by
  obtain ⟨h1, h2, h3, h4, h5, h6, h7⟩ := h
  have hS := h2.2.2.2.2
  have f : rFr (fun a => a = rn) t M t' M := rFr_z hl e
  exact ⟨rLC_z h1 e, rLR_rn h2 f, rLB_fr h3 f (fun a e => Or.inr e) h2.2.2.2.1 h5 hS, rLK_fr h4 f (fun a e => Or.inr e) hS, (f.2 rn (by omega)).1.trans h5, hl, h7⟩
/-- the Road changes -/
theorem rMi_P (h : rMi x rn bf D P S t M r q A H B C HB) (hN : yN A) (f : rFr P t M t' M') {σ : Nat → Int} {RA : Int → Nat} {cl : List Nat} (g : rRi P S σ RA cl t' M' r B') (hp : rPs t' r 40) : rMi x rn bf D P S t' M' r q A H B' C HB := by
  obtain ⟨h1, h2, h3, h4, h5, h6, h7⟩ := h
  obtain ⟨-, hd, -, hP, hS⟩ := h2
  exact ⟨rLC_ow h1 hN f (fun a e => ⟨(hP a e).1, fun q hq => ((hP a e).2.2.2 q hq).1⟩), ⟨⟨σ, RA, cl, g⟩, rDd_fr hd f, hp, hP, hS⟩, rLB_fr h3 f (fun a e => Or.inl e) hP h5 hS, rLK_fr h4 f (fun a e => Or.inl e) hS, (f.2 rn (by omega)).1.trans h5, f.1, h7⟩
theorem s_rnd {F n : Nat} {b : Int} {Q : Nat → Int → xTh → xMe → Prop} (h : rMi x rn bf D P S t M r q A H B C HB) (hN : yN A) (hb : 0 < b) (hb2 : b ≤ 100000) (hq : ∀ v M', 0 ≤ v → v < b → rMi x rn bf D P S t M' r q A H B C HB → Q 0 v t M') : ∃ k : Nat, k ≤ n ∧ p_X13_below F k t rn b M (Q k) :=
  ⟨0, Nat.zero_le _, s_below hb hb2 (fun v M' a c f _ => hq v M' a c (rMi_rn h hN f)) h.2.2.2.2.2.1⟩
end RMI
section RGO
variable {A B : yA} {f v : Int}
def rGo (A : yA) : Prop := yG0 A ∧ yQx A ∧ yQj 0 A
theorem rGo_C {C : List yCo} (h : rGo A) (hA : yG0 (yCw A C)) : rGo (yCw A C) := ⟨hA, h.2.1, h.2.2⟩
theorem yPh_C {C : List yCo} : yPh (yCw A C) = yPh A + (yC A).length - C.length := by
  have e : yTot (yCw A C) = yTot A := rfl
  have e6 : yS (yCw A C) 6 = yS A 6 := rfl
  have eC : yC (yCw A C) = C := rfl
  unfold yPh
  rw [e, e6, eC]; omega
theorem rGo_thr (h : rGo A) (f0 : 0 ≤ f) (f1 : f < yS A 2) (v0 : 0 ≤ v) (v1 : v ≤ 99) : rGo (yw A (34 + 8 * f) v) ∧ yPh (yw A (34 + 8 * f) v) = yPh A := by
  obtain ⟨hA, hx, hj⟩ := h
  have hI := hA.1.1
  obtain ⟨n1, n2, n3, n4, n5, n6⟩ := id hI.1.1
  have e : ∀ k, k ≠ 34 + 8 * f → yS (yw A (34 + 8 * f) v) k = yS A k := fun k hk => yup_n hk
  refine ⟨⟨yG0_thr hA f0 f1 v0 v1, ⟨fun q a b hs => ?_, fun s => ?_⟩, yQj_eq hI.1.1 (fun k hk => e k (by omega)) hj⟩, ?_⟩
  · rw [e 3 (by omega)] at b
    rw [e _ (by omega)] at hs
    obtain ⟨g0, g1, s0, s1, s4, -⟩ := yGt_ok hI.1 hI.2.2.1 a b (by omega)
    have eg : yGt (yw A (34 + 8 * f) v) q = yGt A q := by
      unfold yGt
      rw [e (81 + 9 * q) (by omega), e (85 + 9 * q) (by omega), e _ (by omega)]
    have es : ySl (yw A (34 + 8 * f) v) q = ySl A q := by unfold ySl; rw [eg, e (81 + 9 * q) (by omega)]
    rw [es]
    exact hx.1 q a b hs
  · exact yPw_eq (A := A) (B := yw A (34 + 8 * f) v) hI.2.2.2.1 (hx.2 s) (fun q hq => e _ (by have := yQok_in hI.2.2.2.1.1 hq; omega))
  · unfold yPh
    rw [yTot_of (e 3 (by omega)) (fun q a b => e _ (by omega)) hI.1.1, e 6 (by omega)]
    rfl
theorem rGo_snd {z : Int} (h : rGo A) (h40 : yS A 3 < 40) (f0 : 0 ≤ f) (f1 : f < yS A 2) (z0 : 1 ≤ z) (z1 : z ≤ 999) : rGo (ySnd A f (yS A 0) z) ∧ yPh (ySnd A f (yS A 0) z) = yPh A ∧ yS (ySnd A f (yS A 0) z) 0 = yS A 0 := by
  obtain ⟨hA, hx, hj⟩ := h
  have hI := hA.1.1
  obtain ⟨n1, n2, n3, n4, n5, n6⟩ := id hI.1.1
  have hB := yG0_snd hA h40 f0 f1 z0 z1
  have e : ∀ k, k ≠ 3 → ¬ (81 + 9 * yS A 3 ≤ k ∧ k < 90 + 9 * yS A 3) → yS (ySnd A f (yS A 0) z) k = yS A k := fun k a b => ySnd_n a b
  have e3 : yS (ySnd A f (yS A 0) z) 3 = yS A 3 + 1 := ySnd_3
  have e84 : yS (ySnd A f (yS A 0) z) (84 + 9 * yS A 3) = 0 := ySnd_c (c := 3) n5 (by omega) (by decide) (by decide)
  have e85 : yS (ySnd A f (yS A 0) z) (85 + 9 * yS A 3) = 0 := ySnd_c (c := 4) n5 (by omega) (by decide) (by decide)
  have key : ∀ q, 0 ≤ q → q < yS (ySnd A f (yS A 0) z) 3 → yS (ySnd A f (yS A 0) z) (84 + 9 * q) = 1 → q < yS A 3 ∧ yS A (84 + 9 * q) = 1 := fun q a b c => by
    rw [e3] at b
    have hq : q ≠ yS A 3 := fun t => by rw [t, e84] at c; omega
    rw [e _ (by omega) (by omega)] at c
    exact ⟨by omega, c⟩
  refine ⟨⟨hB, ⟨fun q a b hs => ?_, fun s => ?_⟩, fun q a b hs => ?_⟩, ?_, e 0 (by omega) (by omega)⟩
  · obtain ⟨b', hs'⟩ := key q a b hs
    have eg := yGt_eq (B := ySnd A f (yS A 0) z) hI.1 hI.2.2.1 (fun k a b _ _ => e k (by omega) (by omega)) a b' (by omega) (e _ (by omega) (by omega)) (e _ (by omega) (by omega))
    rw [eg.2]
    exact hx.1 q a b' hs'
  · refine yPw_eq (A := A) (B := ySnd A f (yS A 0) z) hI.2.2.2.1 (hx.2 s) (fun q hq => e _ (by omega) ?_)
    have := (hI.2.2.2.1.2 s q hq).2.1
    have := (hI.2.2.2.1.2 s q hq).1
    omega
  · obtain ⟨b', hs'⟩ := key q a b hs
    rw [e _ (by omega) (by omega), e 0 (by omega) (by omega)]
    exact hj q a b' hs'
  · have eC : yC (ySnd A f (yS A 0) z) = yC A := rfl
    have eT : yTot (ySnd A f (yS A 0) z) = yTot A := by
      unfold yTot
      rw [e3, show (yS A 3 + 1).toNat = (yS A 3).toNat + 1 by omega]
      show ySp2 _ (yS A 3).toNat + _ = _
      have en : (((yS A 3).toNat : Nat) : Int) = yS A 3 := by omega
      rw [ySp2_eq (fun p a b => e _ (by omega) (by omega)), en]
      show _ + yS (ySnd A f (yS A 0) z) (85 + 9 * yS A 3) = _
      rw [e85, Int.add_zero]
    unfold yPh
    rw [eT, eC, e 6 (by omega) (by omega)]
/-- ticks pass -/
theorem rGo_tick (h : rGo A) (ht : yS A 0 < 9999) : rGo (yTick A) ∧ yPh A ≤ yPh (yTick A) ∧ yS (yTick A) 0 = yS A 0 + 1 := by
  obtain ⟨hA, hx, hj⟩ := h
  obtain ⟨q1, q2, q3⟩ := yQx_tick hA.1 (by omega) hx hj
  have g := (yAdv_G (pk := -1) (n := 1) hA (by omega)).1
  have eN : yEnd (-1) A = false := by unfold yEnd; simp
  have e : yAdv (-1) 1 A = yTick A := by
    show (if yEnd (-1) A then A else yAdv (-1) 0 (yTick A)) = _
    rw [eN]; rfl
  rw [e] at g
  exact ⟨⟨g, q1, q2⟩, q3, (yTick_I hA.1 (by omega)).2.2⟩
theorem yAdv_sc : ∀ (n : Nat) (A : yA), yAdv (-1) (n + 1) A = yTick (yAdv (-1) n A)
  | 0, A => by
    show (if yEnd (-1) A then A else yAdv (-1) 0 (yTick A)) = _
    rw [show yEnd (-1) A = false by unfold yEnd; simp]; rfl
  | n + 1, A => by
    show (if yEnd (-1) A then A else yAdv (-1) (n + 1) (yTick A)) = yTick (if yEnd (-1) A then A else yAdv (-1) n (yTick A))
    rw [show yEnd (-1) A = false by unfold yEnd; simp]
    exact yAdv_sc n (yTick A)
theorem rGo_adv : ∀ (n : Nat) (A : yA), rGo A → yS A 0 + n ≤ 9999 → rGo (yAdv (-1) n A) ∧ yPh A ≤ yPh (yAdv (-1) n A) ∧ yS (yAdv (-1) n A) 0 = yS A 0 + n
  | 0, A, h, _ => ⟨h, Int.le_refl _, (Int.add_zero _).symm⟩
  | n + 1, A, h, ht => by
    obtain ⟨h1, h2, h3⟩ := rGo_adv n A h (by omega)
    obtain ⟨g1, g2, g3⟩ := rGo_tick h1 (by omega)
    rw [yAdv_sc]
    exact ⟨g1, by omega, by omega⟩
end RGO
