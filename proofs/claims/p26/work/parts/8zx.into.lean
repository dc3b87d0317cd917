/-! THE ROAD THAT WAS READ GOES INTO THE LAW'S LOOP -/
section RCV
variable {x bu rn bf r F n N k : Nat} {G : xGx} {xs : Nat → Int32} {Q : Int → xTh → xMe → Prop} {K4 : Nat → Int → Int → xTh → xMe → Prop} {x2 : Int} {A0 A : yA} {H : List yA} {t t' : xTh} {M M' : xMe} {P : Nat → Prop} {σ : Nat → Int} {RA : Int → Nat} {cl : List Nat} {Sf : Int → Int} {nn s0 d : Int} {len : Int → Int} {K : List Int}
theorem rPost_z (h : rPost x rn r A0 H t M) (e : t'.2 = t.2) (hl : xlive t') : rPost x rn r A0 H t' M := by
  obtain ⟨z, u⟩ := t
  obtain ⟨z', u'⟩ := t'
  have e : u' = u := e
  subst e
  obtain ⟨D, A, P, h1, h2, h3, h4, h5, h6, h7, h8, h9, h10⟩ := h
  exact ⟨D, A, P, h1, h2, h3, h4, h5, h6, h7, h8, hl, h10⟩
/-- what no change writes: gates' and routes' arrays and rows, prices -/
def rSxx (RA : Int → Nat) (P : Nat → Prop) (t : xTh) (r : Nat) (A : yA) (a : Nat) : Prop := xr t r 1 = some a ∨ xr t r 3 = some a ∨ (∃ i, 0 ≤ i ∧ i < yS A 1 ∧ a = RA (15 + 3 * i)) ∨ (∃ i, 0 ≤ i ∧ i < yS A 2 ∧ a = RA (37 + 8 * i)) ∨ (P a ∧ xk t a = 12)
theorem rBl_Q {P' : Nat → Prop} (h : rBl P σ RA t M Sf r k nn s0 d len) (hb : ∀ b, xr t r k = some b → P b → xk t b = 17 → P' b) (hr : ∀ i, 0 ≤ i → i < nn → P (RA (s0 + d * i)) → xk t (RA (s0 + d * i)) = 14 → σ (RA (s0 + d * i)) = s0 + d * i → P' (RA (s0 + d * i))) : rBl P' σ RA t M Sf r k nn s0 d len := by
  obtain ⟨⟨b, h1, h2, h3⟩, h4⟩ := h
  exact ⟨⟨b, h1, hb b h1 h2 h3.1, h3⟩, fun i i0 i1 => by
    obtain ⟨g1, g2, g3, g4⟩ := h4 i i0 i1
    exact ⟨g1, hr i i0 i1 g2 g3 g1, g3, g4⟩⟩
theorem rTm_P {P' : Nat → Prop} {o : Option Nat} (hS : ∀ a, P a → xk t a = 12 → P' a) (h : rTm P t M o K) : rTm P' t M o K := by
  cases o with
  | none => exact h
  | some q => exact rNd_P hS _ _ _ h
theorem rSxx_P (h : rRi P P σ RA cl t M r A) {a : Nat} (s : rSxx RA P t r A a) : P a ∧ (xk t a = 17 ∨ xk t a = 14 ∨ xk t a = 12) ∧ (xk t a = 17 → xr t r 1 = some a ∨ xr t r 3 = some a) ∧ (xk t a = 14 → (∃ i, 0 ≤ i ∧ i < yS A 1 ∧ σ a = 15 + 3 * i) ∨ ∃ i, 0 ≤ i ∧ i < yS A 2 ∧ σ a = 37 + 8 * i) := by
  obtain ⟨-, -, ⟨⟨b, a1, a2, a3, -⟩, a4⟩, -, ⟨⟨c, b1, b2, b3, -⟩, b4⟩, -⟩ := h
  rcases s with s | s | ⟨i, i0, i1, rfl⟩ | ⟨i, i0, i1, rfl⟩ | s
  · have s' := s
    rw [a1] at s; cases s
    exact ⟨a2, Or.inl a3, fun _ => Or.inl s', fun z => by omega⟩
  · have s' := s
    rw [b1] at s; cases s
    exact ⟨b2, Or.inl b3, fun _ => Or.inr s', fun z => by omega⟩
  · obtain ⟨g1, g2, g3, -⟩ := a4 i i0 i1
    exact ⟨g2, Or.inr (Or.inl g3), fun z => by omega, fun _ => Or.inl ⟨i, i0, i1, g1⟩⟩
  · obtain ⟨g1, g2, g3, -⟩ := b4 i i0 i1
    exact ⟨g2, Or.inr (Or.inl g3), fun z => by omega, fun _ => Or.inr ⟨i, i0, i1, g1⟩⟩
  · exact ⟨s.1, Or.inr (Or.inr s.2), fun z => by omega, fun z => by omega⟩
theorem rSxx_split (h : rRi P P σ RA cl t M r A) (hN : yN A) (ha : rAd t r) : rRi (fun a => P a ∧ ¬ rSxx RA P t r A a) (rSxx RA P t r A) σ RA cl t M r A := by
  obtain ⟨n1, n2, n3, n4, n5, n6⟩ := id hN
  have hs := fun (a : Nat) (s : rSxx RA P t r A a) => rSxx_P h s
  obtain ⟨⟨k1, k2⟩, k3, w1, w2, w3, w4, k5, k6, k7⟩ := h
  have arr : ∀ k b, (k = 2 ∨ k = 4 ∨ k = 5 ∨ k = 7) → xr t r k = some b → xk t b = 17 → ¬ rSxx RA P t r A b := fun k b hk e kb s => by
    rcases (hs b s).2.2.1 kb with z | z
    · exact ha 1 k (Or.inl rfl) hk (z.trans e.symm)
    · exact ha 3 k (Or.inr rfl) hk (z.trans e.symm)
  have row : ∀ a, xk t a = 14 → (∀ i, 0 ≤ i → i < 6 → σ a ≠ 15 + 3 * i) → (∀ i, 0 ≤ i → i < 6 → σ a ≠ 37 + 8 * i) → ¬ rSxx RA P t r A a := fun a ka z1 z2 s => by
    rcases (hs a s).2.2.2 ka with ⟨i, i0, i1, e⟩ | ⟨i, i0, i1, e⟩
    · exact z1 i i0 (by omega) e
    · exact z2 i i0 (by omega) e
  refine ⟨⟨k1, k2, fun s => by have := (hs r s).2.1; omega⟩, k3, rBl_Q w1 (fun b e _ _ => Or.inl e) (fun i i0 i1 _ _ _ => Or.inr (Or.inr (Or.inl ⟨i, i0, i1, rfl⟩))), rBl_Q w2 (fun b e pb kb => ⟨pb, arr 2 b (by omega) e kb⟩) (fun i i0 i1 pa ka e => ⟨pa, row _ ka (fun j j0 j1 => by rw [e]; omega) (fun j j0 j1 => by rw [e]; omega)⟩), rBl_Q w3 (fun b e _ _ => Or.inr (Or.inl e)) (fun i i0 i1 _ _ _ => Or.inr (Or.inr (Or.inr (Or.inl ⟨i, i0, i1, rfl⟩)))), rBl_Q w4 (fun b e pb kb => ⟨pb, arr 4 b (by omega) e kb⟩) (fun i i0 i1 pa ka e => ⟨pa, row _ ka (fun j j0 j1 => by rw [e]; omega) (fun j j0 j1 => by rw [e]; omega)⟩), ⟨?_, fun g g0 g1 => ?_⟩, ⟨?_, k6.2.1, k6.2.2.1, fun i c v hc hv => ?_⟩, rTm_P (fun a pa ka => Or.inr (Or.inr (Or.inr (Or.inr ⟨pa, ka⟩)))) k7⟩
  · obtain ⟨b, b1, b2, b3⟩ := k5.1
    exact ⟨b, b1, ⟨b2, arr 7 b (by omega) b1 b3.1⟩, b3⟩
  · obtain ⟨q1, q2, q3, q4⟩ := k5.2 g g0 g1
    exact ⟨q1, ⟨q2, row _ q3 (fun j j0 j1 => by rw [q1]; omega) (fun j j0 j1 => by rw [q1]; omega)⟩, q3, q4⟩
  · obtain ⟨b, b1, b2, b3, b4⟩ := k6.1
    exact ⟨b, b1, ⟨b2, arr 5 b (by omega) b1 b3⟩, b3, b4⟩
  · obtain ⟨q1, q2, q3, q4⟩ := k6.2.2.2 i c v hc hv
    exact ⟨q1, ⟨q2, row _ q3 (fun j j0 j1 => by rw [q1]; omega) (fun j j0 j1 => by rw [q1]; omega)⟩, q3, q4⟩
set_option maxHeartbeats 4000000 in
theorem rPost_J (h : rPost x rn r A0 [] t M) : ∃ D A S, rJv x rn (xz t) D S (xnw t 18 9) (xw0 M (xz t)) r A [A0] [] 0 := by
  obtain ⟨D, A, P, h1, h2, h3, ⟨σ, RA, cl, h4⟩, h5, h6, h7, h8, h9, h10, h11, h12⟩ := h
  have hN := h2.1.1.1.1.1
  have sp := rSxx_split h4 hN h5
  have f0 : rFr (fun a => a = xz t) t M (xnw t 18 9) (xw0 M (xz t)) := rFr_n (rFr_refl h9)
  have dz := xlive_z h9
  have f : rFr rNo t M (xnw t 18 9) (xw0 M (xz t)) := rFr_d f0 (fun a e => by rw [e]; exact dz)
  have px := h1.1.2.2.2.1
  have land : ∀ a, P a → rLand x rn (xz t) D a := fun a pa => by
    obtain ⟨a1, a2, a3⟩ := h7 a pa
    have := h9 a a2
    exact ⟨by omega, by omega, by omega, a3⟩
  have kz : xk (xnw t 18 9) (xz t) = 18 := if_pos rfl
  have ko : ∀ a, xk t a ≤ 22 → xk (xnw t 18 9) a = xk t a := fun a ha => (f.2 a ha).1
  have krz := h9 rn (by omega)
  have kr : xk t r = 20 := h4.1.1
  refine ⟨D, A, rSxx RA P t r A, ⟨fun a => rLand x rn (xz t) D a ∧ ¬ rSxx RA P t r A a, rLC_ow h1 hN f (fun _ z => z.elim), ⟨⟨σ, RA, cl, rRi_fr (rRi_P (fun a pa _ => ⟨land a pa.1, pa.2⟩) (fun a sa _ => sa) sp) f (fun _ _ z => z) (fun _ _ z => z)⟩, ⟨xz t, by omega, fun a ha hlt => ⟨⟨by omega, by omega, by omega, fun q hq => ?_⟩, fun sa => ?_⟩⟩, rPs_fr h6 f (by omega), fun a pa => pa.1, fun a sa => ⟨land a (rSxx_P h4 sa).1, fun z => z.2 sa⟩⟩, ⟨kz, if_pos rfl, fun k q _ hq => ?_, fun i B _ hB => ?_⟩, (ko rn (by omega)).trans h10, f.1, ⟨by omega, by omega, fun q hq => ?_⟩⟩, h2, fun B hB => (by cases hB), by omega⟩
  · obtain ⟨⟨c1, c2⟩, -⟩ := px q hq
    exact ⟨fun e => by rw [e, ko _ c1] at ha; omega, fun e => by rw [e, ko _ c2] at ha; omega⟩
  · have ka := (h7 a (rSxx_P h4 sa).1).2.1
    rw [ko _ ka] at ha; omega
  · have e : xr (xnw t 18 9) (xz t) k = none := if_pos rfl
    rw [e] at hq; cases hq
  · cases hB
  · obtain ⟨⟨c1, c2⟩, -⟩ := px q hq
    have := h9 _ c1
    have := h9 _ c2
    rcases h8 q hq with e | e <;> exact ⟨by omega, by omega, by omega⟩
theorem k_167 (hF : 1300 ≤ F) (hx2 : 0 ≤ x2 ∧ x2 ≤ 10) (h : rPost x rn r A0 [] t M) (hn : 50001 ≤ n) (hq : ∀ (n' : Nat) (t' : xTh) (M' : xMe), n ≤ n' + 50001 → xlive t' → K4 n' 1 (x2 + 1) t' M') : p_L_law_167 F G N xs Q K4 n x2 x rn r 1 t M := by
  unfold p_L_law_167
  refine ⟨by omega, fun a t1 M1 ea et eM => ?_⟩
  subst ea et eM
  obtain ⟨D, A, S, hJ⟩ := rPost_J h
  exact k_road hF hx2 hJ (by omega) (fun n' t' M' hn' hl => hq n' t' M' (by omega) hl)
set_option maxHeartbeats 4000000 in
theorem k_131 (hF : 3100 ≤ F) (hx2 : 0 ≤ x2 ∧ x2 ≤ 10) (hc : yCs x t M (fun q => q = x + 80) A0 []) (hX : oX11 t x ∧ oXQ t x) (hB : rBu x bu t M []) (hl : xlive t) (krn : xk t rn = 19) (hs : x + 436 ≤ bu ∧ x + 436 ≤ rn ∧ bu ≠ rn ∧ bu < xz t ∧ rn < xz t ∧ x + 452 ≤ xz t) (hA : yG0 A0) (hn : 51700 ≤ n) (hq : ∀ (n' : Nat) (t' : xTh) (M' : xMe), n ≤ n' + 51700 → xlive t' → K4 n' 1 (x2 + 1) t' M') : p_L_law_131 F G N xs Q K4 n x2 x bu rn 1 t M := by
  unfold p_L_law_131
  refine ⟨600, by omega, g_road hF (Nat.le_refl _) hc ⟨Nat.zero_le _, fun i B hB => (by cases hB)⟩ hX hB hl krn hs hA (fun t1 M1 hp => ⟨fun z => (by cases z), fun b eb => ?_⟩)⟩
  cases eb
  refine ⟨fun z => absurd z (by decide), fun _ => ⟨1035, by omega, ?_⟩⟩
  obtain ⟨D, A, P, h1, ⟨h2, h2x, -⟩, h3, ⟨σ, RA, cl, h4⟩, -⟩ := id hp
  exact s_agrees (by omega) h1.1.1.1 h4 h2.1.1 h2x h1.2.2.1 (Nat.le_refl _) (fun t' et hl' => ⟨fun z => absurd z (by decide), fun _ => k_167 (by omega) hx2 (rPost_z hp et hl') (by omega) (fun n' t2 M2 hn' hl2 => hq n' t2 M2 (by omega) hl2)⟩)
end RCV
