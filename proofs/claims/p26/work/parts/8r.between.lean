/-! BETWEEN TWO STEPS OF THE LAW -/
/-- where Roads may lie: above the class, off the Random, off before[], off the class's prices -/
def rLand (x rn bf : Nat) (D : Nat → Prop) (a : Nat) : Prop := x + 436 ≤ a ∧ a ≠ rn ∧ a ≠ bf ∧ ∀ q, D q → a ≠ q + 1 ∧ a ≠ q + 2
/-- the class -/
def rLC (x : Nat) (D : Nat → Prop) (t : xTh) (M : xMe) (A : yA) (H : List yA) : Prop := yCs x t M D A H ∧ yHg H ∧ (oX11 t x ∧ oXQ t x) ∧ M (x + 2) 1 = 0
/-- the Road of now -/
def rLR (x rn bf : Nat) (D P S : Nat → Prop) (t : xTh) (M : xMe) (r : Nat) (A : yA) : Prop := (∃ σ RA cl, rRi P S σ RA cl t M r A) ∧ rDd P t ∧ rPs t r 40 ∧ (∀ a, P a → rLand x rn bf D a) ∧ ∀ a, S a → rLand x rn bf D a ∧ ¬ P a
/-- the Roads before -/
def rLB (x rn bf : Nat) (D P S : Nat → Prop) (t : xTh) (M : xMe) (HB : List yA) : Prop := xk t bf = 18 ∧ xn t bf = 9 ∧ (∀ k q, k < 9 → xr t bf k = some q → xk t q = 20) ∧ ∀ (i : Nat) (B : yA), i < 8 → HB[i]? = some B → ∃ q Pq, xr t bf i = some q ∧ rRd Pq S t M q B ∧ ∀ a, Pq a → ¬ P a ∧ rLand x rn bf D a
section RLS
variable {x rn bf r : Nat} {D P S Ow : Nat → Prop} {t t' : xTh} {M M' : xMe} {A : yA} {H HB : List yA}
theorem oQ_ow {w : Nat} (h : oQ t w) (f : rFr Ow t M t' M') (er : xr t' w 6 = xr t w 6) : oQ t' w := by
  have e : xq t' w = xq t w := by unfold xq; rw [er]
  obtain ⟨g1, k7, r0, kc, nc, r1, ks, ns, hR⟩ := h
  obtain ⟨f1, f2, -, f4⟩ := f.2 (xq t w) (by omega)
  obtain ⟨c1, c2, -, -⟩ := f.2 (xq t w + 1) (by omega)
  obtain ⟨s1, s2, -, -⟩ := f.2 (xq t w + 2) (by omega)
  have fr := f4 (by omega) (by omega) (by omega)
  have e2 : xqn t' w = xqn t w := by unfold xqn; rw [e]; exact c2
  refine ⟨by rw [er, e]; exact g1, ?_⟩
  rw [e, e2]
  exact ⟨f1.trans k7, by rw [fr]; exact r0, c1.trans kc, c2.trans nc, by rw [fr]; exact r1, s1.trans ks, s2.trans ns, hR⟩
theorem oX11_ow (h : oX11 t x ∧ oXQ t x) (f : rFr Ow t M t' M') (hO : ∀ a, Ow a → x + 436 ≤ a) : oX11 t' x ∧ oXQ t' x := by
  have hs : xsm t t' x (x + 436) := fun b b1 b2 hb => by
    obtain ⟨f1, f2, f3, -⟩ := f.2 b hb
    exact ⟨f1, f2, fun j => by rw [(f3 (fun o => by have := hO b o; omega)).2]⟩
  refine ⟨oX11_sm hs (Nat.le_refl _) (Nat.le_refl _) h.1, fun w hw => oQ_ow (h.2 w hw) f ?_⟩
  have hk : xk t w = 10 ∧ x ≤ w ∧ w < x + 436 := by
    have hX := h.1
    rcases hw with rfl | rfl | rfl | ⟨i, hi, rfl⟩
    · exact ⟨hX.2.2.1.2.2.2.2.1.1, by omega, by omega⟩
    · exact ⟨hX.2.2.2.2.1.1, by omega, by omega⟩
    · exact ⟨hX.2.2.2.2.2.2.1.1, by omega, by omega⟩
    · exact ⟨(hX.2.2.2.2.2.2.2.2.2.2.2.2 i hi).2.1, by omega, by omega⟩
  rw [((f.2 w (by omega)).2.2.1 (fun o => by have := hO w o; omega)).2]
theorem rLC_ow (h : rLC x D t M A H) (hN : yN A) (f : rFr Ow t M t' M') (hO : ∀ a, Ow a → x + 436 ≤ a ∧ ∀ q, D q → a ≠ q + 1) : rLC x D t' M' A H := by
  obtain ⟨h1, h2, h3, h4⟩ := h
  refine ⟨yCs_ow h1 hN h2 h3.1 f hO, h2, oX11_ow h3 f (fun a o => (hO a o).1), ?_⟩
  have k9 : xk t (x + 2) = 9 := h3.1.2.2.1.2.2.1.1
  rw [((f.2 (x + 2) (by omega)).2.2.1 (fun o => by have := (hO _ o).1; omega)).1]
  exact h4
theorem rLR_rn (h : rLR x rn bf D P S t M r A) (f : rFr (fun a => a = rn) t M t' M') : rLR x rn bf D P S t' M' r A := by
  obtain ⟨⟨σ, RA, cl, h1⟩, h2, h3, h4, h5⟩ := h
  have hr := h1.1
  refine ⟨⟨σ, RA, cl, rRi_fr h1 f (fun a pa e => (h4 a pa).2.1 e) (fun a sa e => (h5 a sa).1.2.1 e)⟩, rDd_fr h2 f, ?_, h4, h5⟩
  obtain ⟨b, b1, b2, b3, b4⟩ := h3
  obtain ⟨f1, f2, f3, -⟩ := f.2 r (by omega)
  obtain ⟨g1, g2, -, -⟩ := f.2 b (by omega)
  have hb := rFr_17 f b2
  refine ⟨b, by rw [(f3 (fun e => (h4 r hr.2).2.1 e)).2]; exact b1, g1.trans b2, by rw [g2]; exact b3, fun i hi => ?_⟩
  obtain ⟨c, c1, c2⟩ := b4 i (by rw [← g2]; exact hi)
  exact ⟨c, by rw [hb]; exact c1, (f.2 c (by omega)).1.trans c2⟩
theorem rLR_cls (h : rLR x rn bf D P S t M r A) (hs : xqw t t') (hl : xlive t') (f : yFc x D M M') : rLR x rn bf D P S t' M' r A := by
  obtain ⟨⟨σ, RA, cl, h1⟩, h2, h3, h4, h5⟩ := h
  have g := rFr_cls hs hl f
  have hr := h1.1
  refine ⟨⟨σ, RA, cl, rRi_cls h1 hs hl f (fun a pa => ⟨(h4 a pa).1, fun q hq => ((h4 a pa).2.2.2 q hq).2⟩) (fun a sa => ⟨(h5 a sa).1.1, fun q hq => ((h5 a sa).1.2.2.2 q hq).2⟩)⟩, rDd_fr h2 g, ?_, h4, h5⟩
  obtain ⟨b, b1, b2, b3, b4⟩ := h3
  obtain ⟨f1, f2, f3, -⟩ := g.2 r (by omega)
  obtain ⟨g1, g2, -, -⟩ := g.2 b (by omega)
  have hb := rFr_17 g b2
  have hrr : xr t' r = xr t r := (f3 (fun o => by
    have q := h4 r hr.2
    rcases o with z | z | ⟨q', hq', e⟩
    · have := q.1; omega
    · omega
    · exact (q.2.2.2 q' hq').2 e)).2
  refine ⟨b, by rw [hrr]; exact b1, g1.trans b2, by rw [g2]; exact b3, fun i hi => ?_⟩
  obtain ⟨c, c1, c2⟩ := b4 i (by rw [← g2]; exact hi)
  exact ⟨c, by rw [hb]; exact c1, (g.2 c (by omega)).1.trans c2⟩
theorem rLB_fr (h : rLB x rn bf D P S t M HB) (f : rFr Ow t M t' M') (hO : ∀ a, Ow a → P a ∨ a = rn) (hP : ∀ a, P a → rLand x rn bf D a) (hrn : xk t rn = 19) (hS : ∀ a, S a → rLand x rn bf D a ∧ ¬ P a) : rLB x rn bf D P S t' M' HB := by
  obtain ⟨h1, h2, h3, h4⟩ := h
  obtain ⟨f1, f2, f3, -⟩ := f.2 bf (by omega)
  have fb := (f3 (fun o => (hO bf o).elim (fun z => (hP bf z).2.2.1 rfl) (fun z => by rw [z] at h1; omega))).2
  refine ⟨f1.trans h1, f2.trans h2, fun k q hk hq => ?_, fun i B hi hB => ?_⟩
  · rw [fb] at hq
    have := h3 k q hk hq
    exact (f.2 q (by omega)).1.trans this
  · obtain ⟨q, Pq, q1, ⟨σ, RA, cl, q2⟩, q3⟩ := h4 i B hi hB
    exact ⟨q, Pq, by rw [fb]; exact q1, ⟨σ, RA, cl, rRi_fr q2 f (fun a pa o => by
      rcases hO a o with z | z
      · exact (q3 a pa).1 z
      · exact (q3 a pa).2.2.1 z) (fun a sa o => by
      rcases hO a o with z | z
      · exact (hS a sa).2 z
      · exact (hS a sa).1.2.1 z)⟩, q3⟩
theorem rLB_cls (h : rLB x rn bf D P S t M HB) (hS : ∀ a, S a → rLand x rn bf D a ∧ ¬ P a) (hbf : x + 436 ≤ bf ∧ ∀ q, D q → bf ≠ q + 2) (hs : xqw t t') (hl : xlive t') (f : yFc x D M M') : rLB x rn bf D P S t' M' HB := by
  obtain ⟨h1, h2, h3, h4⟩ := h
  have g := rFr_cls hs hl f
  obtain ⟨f1, f2, f3, -⟩ := g.2 bf (by omega)
  have fb := (f3 (fun o => by
    rcases o with z | z | ⟨q, hq, e⟩
    · omega
    · omega
    · exact hbf.2 q hq e)).2
  refine ⟨f1.trans h1, f2.trans h2, fun k q hk hq => ?_, fun i B hi hB => ?_⟩
  · rw [fb] at hq
    have := h3 k q hk hq
    exact (g.2 q (by omega)).1.trans this
  · obtain ⟨q, Pq, q1, ⟨σ, RA, cl, q2⟩, q3⟩ := h4 i B hi hB
    exact ⟨q, Pq, by rw [fb]; exact q1, ⟨σ, RA, cl, rRi_cls q2 hs hl f (fun a pa => ⟨(q3 a pa).2.1, fun q hq => ((q3 a pa).2.2.2.2 q hq).2⟩) (fun a sa => ⟨(hS a sa).1.1, fun q hq => ((hS a sa).1.2.2.2 q hq).2⟩)⟩, q3⟩
end RLS
