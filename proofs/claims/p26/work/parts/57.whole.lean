/-! THE WHOLE PICTURE between two calls -/
def yG0 (A : yA) : Prop := yJ A ∧ yS A 0 ≤ 9999 ∧ yEd A ∧ yEe A
/-- prices that lie apart: their codes are no price's stack, and no cell of the rest -/
def yPx (x : Nat) (t : xTh) (D : Nat → Prop) : Prop := ∀ q, D q → (xk t (q + 1) ≤ 22 ∧ xk t (q + 2) ≤ 22) ∧ (q = x + 80 ∨ x + 453 ≤ q) ∧ ∀ q', D q' → q + 1 ≠ q' + 2
/-- the World at w holds A, its price too -/
def yWd (t : xTh) (M : xMe) (D : Nat → Prop) (w : Nat) (A : yA) : Prop := yCR w M A ∧ D (xq t w) ∧ xqn t w = (yK A).length ∧ ∀ i v, (yK A)[i]? = some v → M (xq t w + 1) i = v
def ySlt (n L i : Nat) : Nat := (n + 8 - L + i) % 8
/-- what was before the latest changes: the class's, the model's -/
def yHg (H : List yA) : Prop := H.length ≤ 8 ∧ ∀ (i : Nat) (B : yA), H[i]? = some B → yG0 B
def yHc (x : Nat) (t : xTh) (M : xMe) (D : Nat → Prop) (H : List yA) : Prop := M (x + 122) 1 = (H.length : Int) ∧ ∃ n : Nat, n < 8 ∧ M (x + 122) 2 = (n : Int) ∧ ∀ i B, H[i]? = some B → yWd t M D (x + 124 + 39 * ySlt n H.length i) B
def yHm (m : Nat) (M : xMe) (H : List yA) : Prop := M m 13 = (H.length : Int) ∧ ∀ (i : Nat) (B : yA), H[i]? = some B → yDR (m + 7 + i) M B
def yHs (x : Nat) (t : xTh) (M : xMe) (D : Nat → Prop) (H : List yA) : Prop := yHg H ∧ yHc x t M D H ∧ yHm (x + 436) M H
/-- the input buffers -/
def yBf (x : Nat) (M : xMe) : Prop := M (x + 436) 2 = M (x + 2) 1 ∧ 0 ≤ M (x + 2) 1 ∧ M (x + 2) 1 ≤ 700 ∧ ∀ j : Nat, (j : Int) < M (x + 2) 1 → (-128 ≤ M (x + 3) j ∧ M (x + 3) j ≤ 127) ∧ M (x + 437) j = M (x + 3) j % 256
def yPst (x : Nat) (t : xTh) (M : xMe) (D : Nat → Prop) (H : List yA) : Prop := yPx x t D ∧ yHs x t M D H ∧ yBf x M ∧ M x 4 = M (x + 436) 7
/-- what is now -/
def yNw (x : Nat) (t : xTh) (M : xMe) (D : Nat → Prop) (A : yA) : Prop := yWd t M D (x + 44) A ∧ yDR (x + 438) M A ∧ yG0 A ∧ M (x + 44) 13 = -1 ∧ 1 ≤ M (x + 44) 14
def xJn (x : Nat) (t : xTh) (M : xMe) : Prop := ∃ (D : Nat → Prop) (A : yA) (H : List yA), yNw x t M D A ∧ yPst x t M D H
/-! frames -/
theorem yDR_row {b b' : Nat} {M M' : xMe} {A : yA} (h : yDR b M A) (e : M' b' = M b) : yDR b' M' A := by
  obtain ⟨h1, h2, h3, h4, h5⟩ := h
  unfold yDR yD yV yY yQd yPr at *
  rw [e]
  exact ⟨h1, h2, h3, h4, h5⟩
theorem yCR_fr {w : Nat} {M M' : xMe} {A : yA} (hN : yN A) (h : yCR w M A) (e : ∀ b, w ≤ b → b < w + 36 → M' b = M b) : yCR w M' A := by
  obtain ⟨h1, h2, h3, h4⟩ := h
  exact ⟨yR_f h1 (fun b b1 b2 _ => e b (by omega) (by omega)), yU_f h2 (fun b b1 b2 => e b (by omega) (by omega)), yX_f h3 (fun b b1 b2 => e b (by omega) (by omega)), yQc_o h4 (fun b b1 b2 => e b (by omega) (by omega))⟩
theorem yWd_fr {t t' : xTh} {M M' : xMe} {D D' : Nat → Prop} {w : Nat} {A : yA} (hN : yN A) (h : yWd t M D w A) (hr : xr t' w 6 = xr t w 6) (hn : xn t' (xq t w + 1) = xn t (xq t w + 1)) (hD : ∀ q, D q → D' q) (e : ∀ b, w ≤ b → b < w + 36 → M' b = M b) (hp : M' (xq t w + 1) = M (xq t w + 1)) : yWd t' M' D' w A := by
  obtain ⟨h1, h2, h3, h4⟩ := h
  have hq : xq t' w = xq t w := by unfold xq; rw [hr]
  refine ⟨yCR_fr hN h1 e, hq ▸ hD _ h2, ?_, fun i v hv => ?_⟩
  · unfold xqn at h3 ⊢; rw [hq, hn]; exact h3
  · rw [hq, hp]; exact h4 i v hv
/-- the old prices and the old Worlds stay -/
def yTe (x : Nat) (D : Nat → Prop) (t t' : xTh) : Prop := (∀ w, x + 122 ≤ w → w < x + 436 → xr t' w 6 = xr t w 6) ∧ ∀ q, D q → xn t' (q + 1) = xn t (q + 1) ∧ xk t' (q + 1) ≤ 22 ∧ xk t' (q + 2) ≤ 22
def yOut (x : Nat) (D : Nat → Prop) (M M' : xMe) : Prop := (∀ b, (b = x ∨ b = x + 2 ∨ b = x + 3 ∨ (x + 122 ≤ b ∧ b < x + 436) ∨ b = x + 437 ∨ (x + 443 ≤ b ∧ b < x + 451) ∨ ∃ q, D q ∧ b = q + 1) → M' b = M b) ∧ ∀ j, j = 2 ∨ j = 7 ∨ j = 13 → M' (x + 436) j = M (x + 436) j
theorem yTe_refl {x : Nat} {D : Nat → Prop} {t t' : xTh} (h : yPx x t D) (e : t'.2 = t.2) : yTe x D t t' := ⟨fun w _ _ => by unfold xr; rw [e], fun q hq => ⟨by unfold xn; rw [e], by have := (h q hq).1.1; unfold xk at this ⊢; rw [e]; exact this, by have := (h q hq).1.2; unfold xk at this ⊢; rw [e]; exact this⟩⟩
theorem yHc_fr {x : Nat} {t t' : xTh} {M M' : xMe} {D D' : Nat → Prop} {H : List yA} (hg : yHg H) (h : yHc x t M D H) (ht : yTe x D t t') (hD : ∀ q, D q → D' q) (g : ∀ b, x + 122 ≤ b → b < x + 436 → M' b = M b) (gq : ∀ q, D q → M' (q + 1) = M (q + 1)) : yHc x t' M' D' H := by
  obtain ⟨h2, n, h5, h6, h7⟩ := h
  refine ⟨by rw [g (x + 122) (by omega) (by omega)]; exact h2, n, h5, by rw [g (x + 122) (by omega) (by omega)]; exact h6, fun i B hB => ?_⟩
  have hs : ySlt n H.length i < 8 := Nat.mod_lt _ (by decide)
  have hw := h7 i B hB
  exact yWd_fr (hg.2 i B hB).1.1.1.1 hw (ht.1 _ (by omega) (by omega)) (ht.2 _ hw.2.1).1 hD (fun b b1 b2 => g b (by omega) (by omega)) (gq _ hw.2.1)
theorem yHm_fr {m : Nat} {M M' : xMe} {H : List yA} (hg : yHg H) (h : yHm m M H) (e : M' m 13 = M m 13) (g : ∀ b, m + 7 ≤ b → b < m + 15 → M' b = M b) : yHm m M' H := ⟨e.trans h.1, fun i B hB => yDR_row (h.2 i B hB) (g _ (by omega) (by have := (List.getElem?_eq_some_iff.mp hB).1; have := hg.1; omega))⟩
theorem yHs_fr {x : Nat} {t t' : xTh} {M M' : xMe} {D D' : Nat → Prop} {H : List yA} (h : yHs x t M D H) (ht : yTe x D t t') (hD : ∀ q, D q → D' q) (g : yOut x D M M') : yHs x t' M' D' H :=
  ⟨h.1, yHc_fr h.1 h.2.1 ht hD (fun b b1 b2 => g.1 b (by omega)) (fun q hq => g.1 _ (Or.inr (Or.inr (Or.inr (Or.inr (Or.inr (Or.inr ⟨_, hq, rfl⟩))))))), yHm_fr h.1 h.2.2 (g.2 13 (by omega)) (fun b b1 b2 => g.1 b (by omega))⟩
theorem yBf_fr {x : Nat} {M M' : xMe} (h : yBf x M) (e1 : M' (x + 2) 1 = M (x + 2) 1) (e2 : M' (x + 3) = M (x + 3)) (e3 : M' (x + 437) = M (x + 437)) (e4 : M' (x + 436) 2 = M (x + 436) 2) : yBf x M' := by
  unfold yBf at *
  rw [e1, e2, e3, e4]; exact h
theorem yPx_t {x : Nat} {t t' : xTh} {D : Nat → Prop} (h : yPx x t D) (ht : yTe x D t t') : yPx x t' D := fun q hq => ⟨(ht.2 q hq).2, (h q hq).2⟩
theorem yPs_fr {x : Nat} {t t' : xTh} {M M' : xMe} {D : Nat → Prop} {H : List yA} (h : yPst x t M D H) (ht : yTe x D t t') (g : yOut x D M M') : yPst x t' M' D H := by
  obtain ⟨h1, h2, h3, h4⟩ := h
  refine ⟨yPx_t h1 ht, yHs_fr h2 ht (fun _ h => h) g, yBf_fr h3 ?_ (g.1 _ (by omega)) (g.1 _ (by omega)) (g.2 2 (by omega)), ?_⟩
  · rw [g.1 (x + 2) (by omega)]
  · rw [g.1 x (by omega), g.2 7 (by omega)]; exact h4
/-! calls that only answer: nothing but the long and the word of the throw is written -/
def yQf (x : Nat) (M M' : xMe) : Prop := (∀ b, b ≠ x + 436 → b ≠ x + 452 → M' b = M b) ∧ ∀ j, j ≠ 0 → M' (x + 436) j = M (x + 436) j
theorem yQf_refl {x : Nat} {M : xMe} : yQf x M M := ⟨fun _ _ _ => rfl, fun _ _ => rfl⟩
theorem yQf_o {x : Nat} {M M' : xMe} {r : Int} (h : yQf x M M') : yQf x M (xw M' (x + 452) 0 r) := ⟨fun b h1 h2 => by rw [xw_B h2]; exact h.1 b h1 h2, fun j hj => by rw [xw_B (by omega)]; exact h.2 j hj⟩
theorem yQf_m {x : Nat} {M M' : xMe} {r : Int} (h : yQf x M M') : yQf x M (xw M' (x + 436) 0 r) := ⟨fun b h1 h2 => by rw [xw_B h1]; exact h.1 b h1 h2, fun j hj => by rw [xw_j hj]; exact h.2 j hj⟩
theorem yPx_b {x : Nat} {t : xTh} {D : Nat → Prop} (h : yPx x t D) {q : Nat} (hq : D q) : q + 1 = x + 81 ∨ x + 454 ≤ q + 1 := by
  have := (h q hq).2.1; omega
theorem yQf_out {x : Nat} {t : xTh} {D : Nat → Prop} {M M' : xMe} (hx : yPx x t D) (h : yQf x M M') : yOut x D M M' := by
  refine ⟨fun b hb => h.1 b ?_ ?_, fun j hj => h.2 j (by omega)⟩ <;>
  · rcases hb with hb | hb | hb | hb | hb | hb | ⟨q, hq, rfl⟩
    all_goals first | omega | (have := yPx_b hx hq; omega)
theorem xJn_q {x : Nat} {t t' : xTh} {M M' : xMe} (h : xJn x t M) (ht : t'.2 = t.2) (g : yQf x M M') : xJn x t' M' := by
  obtain ⟨D, A, H, ⟨h1, h2, h3, h4, h5⟩, h6⟩ := h
  have hq := yPx_b h6.1 h1.2.1
  refine ⟨D, A, H, ⟨yWd_fr h3.1.1.1.1 h1 (by unfold xr; rw [ht]) (by unfold xn; rw [ht]) (fun _ h => h) (fun b b1 b2 => g.1 b (by omega) (by omega)) (g.1 _ (by omega) (by omega)), yDR_row h2 (g.1 _ (by omega) (by omega)), h3, ?_, ?_⟩, yPs_fr h6 (yTe_refl h6.1 ht) (yQf_out h6.1 g)⟩
  · rw [g.1 _ (by omega) (by omega)]; exact h4
  · rw [g.1 _ (by omega) (by omega)]; exact h5
