/-! THE CLASS BESIDE THE ROAD -/
section RCX
variable {t t' : xTh} {M M' : xMe} {x : Nat} {D : Nat → Prop} {A : yA} {H : List yA} {Ow P P' S S' : Nat → Prop} {σ : Nat → Int} {RA : Int → Nat} {cl : List Nat} {r : Nat}
theorem lv_X0 {a b : Nat} (h : oX0 t a) (h1 : a ≤ b) (h2 : b < a + 5) : xk t b ≤ 22 := by
  unfold oX0 at h
  have : b = a ∨ b = a + 1 ∨ b = a + 2 ∨ b = a + 3 ∨ b = a + 4 := by omega
  rcases this with rfl | rfl | rfl | rfl | rfl <;> omega
theorem lv_X1 {a b : Nat} (h : oX1 t a) (h1 : a ≤ b) (h2 : b < a + 5) : xk t b ≤ 22 := by
  unfold oX1 at h
  have : b = a ∨ b = a + 1 ∨ b = a + 2 ∨ b = a + 3 ∨ b = a + 4 := by omega
  rcases this with rfl | rfl | rfl | rfl | rfl <;> omega
theorem lv_X2 {a b : Nat} (h : oX2 t a) (h1 : a ≤ b) (h2 : b < a + 4) : xk t b ≤ 22 := by
  unfold oX2 at h
  have : b = a ∨ b = a + 1 ∨ b = a + 2 ∨ b = a + 3 := by omega
  rcases this with rfl | rfl | rfl | rfl <;> omega
theorem lv_X4 {a b : Nat} (h : oX4 t a) (h1 : a ≤ b) (h2 : b < a + 6) : xk t b ≤ 22 := by
  unfold oX4 at h
  have : b = a ∨ b = a + 1 ∨ b = a + 2 ∨ b = a + 3 ∨ b = a + 4 ∨ b = a + 5 := by omega
  rcases this with rfl | rfl | rfl | rfl | rfl | rfl <;> omega
theorem lv_X5 {a b : Nat} (h : oX5 t a) (h1 : a ≤ b) (h2 : b < a + 9) : xk t b ≤ 22 := by
  unfold oX5 at h
  have : b = a ∨ b = a + 1 ∨ b = a + 2 ∨ b = a + 3 ∨ b = a + 4 ∨ b = a + 5 ∨ b = a + 6 ∨ b = a + 7 ∨ b = a + 8 := by omega
  rcases this with rfl | rfl | rfl | rfl | rfl | rfl | rfl | rfl | rfl <;> omega
theorem lv_X6 {a b : Nat} (h : oX6 t a) (h1 : a ≤ b) (h2 : b < a + 6) : xk t b ≤ 22 := by
  unfold oX6 at h
  have : b = a ∨ b = a + 1 ∨ b = a + 2 ∨ b = a + 3 ∨ b = a + 4 ∨ b = a + 5 := by omega
  rcases this with rfl | rfl | rfl | rfl | rfl | rfl <;> omega
theorem lv_X10 {a b : Nat} (h : oX10 t a) (h1 : a ≤ b) (h2 : b < a + 36) : xk t b ≤ 22 := by
  obtain ⟨k, -, g1, -, g2, -, g3, -, g4, -, g5, -, g6⟩ := h
  by_cases e0 : b = a
  · subst e0; omega
  · by_cases e1 : b < a + 5
    · exact lv_X2 g1 (by omega) (by omega)
    · by_cases e2 : b < a + 10
      · exact lv_X1 g2 (by omega) (by omega)
      · by_cases e3 : b < a + 16
        · exact lv_X4 g3 (by omega) (by omega)
        · by_cases e4 : b < a + 25
          · exact lv_X5 g4 (by omega) (by omega)
          · by_cases e5 : b < a + 30
            · exact lv_X0 g5 (by omega) (by omega)
            · exact lv_X6 g6 (by omega) (by omega)
/-- who writes nothing of the class's leaves it as it is -/
theorem yCs_ow (h : yCs x t M D A H) (hN : yN A) (hg : yHg H) (hX : oX11 t x) (f : rFr Ow t M t' M') (hO : ∀ a, Ow a → x + 436 ≤ a ∧ ∀ q, D q → a ≠ q + 1) : yCs x t' M' D A H := by
  obtain ⟨h1, h2, h3, h4, h5⟩ := h
  have hw : oX10 t (x + 44) := hX.2.2.2.2.1
  have hh : oX3 t (x + 122) := hX.2.2.2.2.2.2.2.2
  have key : ∀ b, b < x + 436 → xk t b ≤ 22 → M' b = M b ∧ xr t' b = xr t b := fun b hb hk => (f.2 b hk).2.2.1 (fun o => by have := (hO b o).1; omega)
  have kw : ∀ {w}, oX10 t w → w + 36 ≤ x + 436 → (∀ b, w ≤ b → b < w + 36 → M' b = M b) ∧ xr t' w 6 = xr t w 6 := fun {w} hw hx => ⟨fun b b1 b2 => (key b (by omega) (lv_X10 hw b1 b2)).1, by rw [(key w (by omega) (lv_X10 hw (Nat.le_refl _) (by omega))).2]⟩
  have kq : ∀ q, D q → xn t' (q + 1) = xn t (q + 1) ∧ xk t' (q + 1) ≤ 22 ∧ xk t' (q + 2) ≤ 22 ∧ M' (q + 1) = M (q + 1) := fun q hq => by
    obtain ⟨⟨k1, k2⟩, -⟩ := h4 q hq
    obtain ⟨f1, f2, f3, -⟩ := f.2 (q + 1) k1
    obtain ⟨g1, -⟩ := f.2 (q + 2) k2
    exact ⟨f2, by omega, by omega, (f3 (fun o => (hO _ o).2 q hq rfl)).1⟩
  obtain ⟨w1, w2⟩ := kw hw (by omega)
  refine ⟨yWd_fr hN h1 w2 (kq _ h1.2.1).1 (fun _ h => h) w1 (kq _ h1.2.1).2.2.2, by rw [w1 _ (by omega) (by omega)]; exact h2, by rw [w1 _ (by omega) (by omega)]; exact h3, fun q hq => ⟨⟨(kq q hq).2.1, (kq q hq).2.2.1⟩, (h4 q hq).2⟩, ?_⟩
  obtain ⟨e1, n, e2, e3, e4⟩ := h5
  have m122 : M' (x + 122) = M (x + 122) := (key _ (by omega) (by have := hh.1; omega)).1
  refine ⟨by rw [m122]; exact e1, n, e2, by rw [m122]; exact e3, fun i B hB => ?_⟩
  have hs : ySlt n H.length i < 8 := Nat.mod_lt _ (by decide)
  have hwi := (hh.2.2.2.2 _ hs).2
  rw [show x + 122 + 2 + 39 * ySlt n H.length i = x + 124 + 39 * ySlt n H.length i by omega] at hwi
  obtain ⟨u1, u2⟩ := kw hwi (by omega)
  have hb := e4 i B hB
  exact yWd_fr (hg.2 i B hB).1.1.1.1 hb u2 (kq _ hb.2.1).1 (fun _ h => h) u1 (kq _ hb.2.1).2.2.2
/-- the Road's cells may be named otherwise -/
theorem rNd_P (hS : ∀ a, S a → xk t a = 12 → S' a) : ∀ (d q : Nat) (K : List Int), rNd S t M d q K → rNd S' t M d q K
  | 0, _, _, h => h.elim
  | d + 1, q, K, h => by
    obtain ⟨h1, h2, h3⟩ := h
    refine ⟨hS q h1 h2, h2, ?_⟩
    rcases h3 with h | h | ⟨h4, h5, l, r', Kl, Kr, h6, h7, h8, h9, h10⟩
    · exact Or.inl h
    · exact Or.inr (Or.inl h)
    · exact Or.inr (Or.inr ⟨h4, h5, l, r', Kl, Kr, h6, h7, rNd_P hS d l Kl h8, rNd_P hS d r' Kr h9, h10⟩)
theorem rBl_P {Sf : Int → Int} {k : Nat} {n s0 d : Int} {len : Int → Int} (hP : ∀ a, P a → xk t a = 20 ∨ xk t a = 17 ∨ xk t a = 14 ∨ xk t a = 12 → P' a) (h : rBl P σ RA t M Sf r k n s0 d len) : rBl P' σ RA t M Sf r k n s0 d len := by
  obtain ⟨⟨b, h1, h2, h3, h3', h3''⟩, h4⟩ := h
  exact ⟨⟨b, h1, hP b h2 (by omega), h3, h3', h3''⟩, fun i a c => by
    obtain ⟨g1, g2, g3, g4, g5⟩ := h4 i a c
    exact ⟨g1, hP _ g2 (by omega), g3, g4, g5⟩⟩
theorem rRi_P (hP : ∀ a, P a → xk t a = 20 ∨ xk t a = 17 ∨ xk t a = 14 ∨ xk t a = 12 → P' a) (hS : ∀ a, S a → xk t a = 20 ∨ xk t a = 17 ∨ xk t a = 14 ∨ xk t a = 12 → S' a) (h : rRi P S σ RA cl t M r A) : rRi P' S' σ RA cl t M r A := by
  obtain ⟨⟨h1, h1'⟩, h2, h3, h4, h5, h6, ⟨⟨b, b1, b2, b3, b4⟩, h7⟩, ⟨⟨c, c1, c2, c3, c4⟩, c5, c6, c7⟩, h9⟩ := h
  refine ⟨⟨h1, hP r h1' (Or.inl h1)⟩, h2, rBl_P hS h3, rBl_P hP h4, rBl_P hS h5, rBl_P hP h6, ⟨⟨b, b1, hP b b2 (by have := b3; omega), b3, b4⟩, fun i a c => ?_⟩, ⟨⟨c, c1, hP c c2 (by omega), c3, c4⟩, c5, c6, fun i a v ha hv => ?_⟩, ?_⟩
  · obtain ⟨g1, g2, g3, g4, g5⟩ := h7 i a c
    exact ⟨g1, hP _ g2 (by omega), g3, g4, g5⟩
  · obtain ⟨g1, g2, g3, g4⟩ := c7 i a v ha hv
    exact ⟨g1, hP _ g2 (by omega), g3, g4⟩
  · unfold rTm at h9 ⊢
    split
    · rename_i e; rw [e] at h9; exact h9
    · rename_i q e; rw [e] at h9; exact rNd_P (fun a sa ka => hS a sa (by omega)) 3 q _ h9
theorem rFr_cls (hs : xqw t t') (hl : xlive t') (f : yFc x D M M') : rFr (fun a => a < x + 436 ∨ xk t a = 10 ∨ ∃ q, D q ∧ a = q + 2) t M t' M' := by
  obtain ⟨z, u, rfl, hle, -, -⟩ := hs
  refine ⟨hl, fun a ha => ?_⟩
  obtain ⟨k1, k2, k3⟩ := hle.2 a ha
  refine ⟨k1, k2, fun o => ⟨f a (by omega) (by omega) (by omega) (fun q hq e => o (Or.inr (Or.inr ⟨q, hq, e⟩))), ?_⟩, fun e e' _ => ?_⟩
  · funext j; exact k3 j (fun z => o (Or.inr (Or.inl z.1)))
  · funext j; exact k3 j (fun z => e' z.1)
/-- a call of the class leaves the Road as it is -/
theorem rRi_cls (h : rRi P S σ RA cl t M r A) (hs : xqw t t') (hl : xlive t') (f : yFc x D M M') (hP : ∀ a, P a → x + 436 ≤ a ∧ ∀ q, D q → a ≠ q + 2) (hS : ∀ a, S a → x + 436 ≤ a ∧ ∀ q, D q → a ≠ q + 2) : rRi P S σ RA cl t' M' r A := by
  have g := rRi_P (P' := fun a => P a ∧ xk t a ≠ 10) (S' := fun a => S a ∧ xk t a ≠ 10) (fun a pa ka => ⟨pa, by omega⟩) (fun a pa ka => ⟨pa, by omega⟩) h
  have no : ∀ (R : Nat → Prop), (∀ a, R a → x + 436 ≤ a ∧ ∀ q, D q → a ≠ q + 2) → ∀ a, (R a ∧ xk t a ≠ 10) → ¬ (a < x + 436 ∨ xk t a = 10 ∨ ∃ q, D q ∧ a = q + 2) := fun R hR a ha o => by
    obtain ⟨r1, r2⟩ := hR a ha.1
    rcases o with z | z | ⟨q, hq, e⟩
    · omega
    · exact ha.2 z
    · exact r2 q hq e
  exact rRi_P (fun a pa _ => pa.1) (fun a pa _ => pa.1) (rRi_fr g (rFr_cls hs hl f) (no P hP) (no S hS))
/-- a random number -/
theorem s_below {F n rn : Nat} {b : Int} {Q : Int → xTh → xMe → Prop} (hb : 0 < b) (hb2 : b ≤ 100000) (hq : ∀ v M', 0 ≤ v → v < b → rFr (fun a => a = rn) t M t M' → (∀ a, a ≠ rn → M' a = M a) → Q v t M') (hl : xlive t) : p_X13_below F n t rn b M Q := by
  unfold p_X13_below
  intro M12 e
  have h0 : 0 ≤ M12 rn 0 % 4294967296 / 65536 := Int.ediv_nonneg (Int.emod_nonneg _ (by decide)) (by decide)
  have e1 : Int.tmod (M12 rn 0 % 4294967296 / 65536) b = (M12 rn 0 % 4294967296 / 65536) % b := Int.tmod_eq_emod_of_nonneg h0
  have h1 := Int.emod_nonneg (M12 rn 0 % 4294967296 / 65536) (show b ≠ 0 by omega)
  have h2 := Int.emod_lt_of_pos (M12 rn 0 % 4294967296 / 65536) hb
  rw [e1]
  refine ⟨⟨by omega, ⟨by omega, by omega⟩⟩, hq _ M12 h1 h2 (by rw [e]; exact rFr_w (rFr_refl hl) (Or.inr rfl)) (fun a ha => by rw [e]; exact xw_B ha)⟩
end RCX
