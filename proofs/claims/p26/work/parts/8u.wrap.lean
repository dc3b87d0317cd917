/-- what the class keeps of what was before, newest last -/
theorem yPush_take (HB : List yA) (A : yA) : yPush ((HB.take 8).reverse) A = ((A :: HB).take 8).reverse := by
  have e : ((A :: HB).take 8).reverse = (HB.take 7).reverse ++ [A] := by simp
  rw [e]
  unfold yPush
  by_cases h : HB.length < 8
  · have e8 : HB.take 8 = HB := List.take_of_length_le (by omega)
    have e7 : HB.take 7 = HB := List.take_of_length_le (by omega)
    rw [e8, e7, if_neg (by rw [List.length_reverse]; omega)]
  · have e8 : HB.take 8 = HB.take 7 ++ [HB[7]'(by omega)] := by
      rw [List.take_succ_eq_append_getElem (by omega)]
    have hl : (HB.take 8).reverse.length = 8 := by rw [List.length_reverse, List.length_take]; omega
    rw [if_pos hl, e8, List.reverse_append]
    rfl
section RWR
variable {x : Nat} {D : Nat → Prop} {t : xTh} {M : xMe} {A B : yA} {H : List yA} {Q : Int → xTh → xMe → Prop} {f v e z p : Int} {F : Nat}
theorem w_undo (hc : yCs x t M D A (H ++ [B])) (hg : yHg (H ++ [B])) (hA : yG0 A) (hq : ∀ t' M', yCs x t' M' D B H → yFc x D M M' → Q (H.length : Int) t' M') : p_X11_undo t x M Q := s_X3_takeBack hc hg hA (fun t' M' _ c g => hq t' M' c g)
theorem w_undo0 (hc : yCs x t M D A []) (hq : Q (-1) t M) : p_X11_undo t x M Q := s_X3_takeBack0 hc hq
theorem w_setThrift (hc : yCs x t M D A H) (hg : yHg H) (hA : yG0 A) (h1 : 0 ≤ f → f < yS A 2 → 0 ≤ v → v ≤ 99 → ∀ t' M', yCs x t' M' D (yw A (34 + 8 * f) v) (yPush H A) → yFc x D M M' → Q (yS A (34 + 8 * f)) t' M') (h2 : ¬ (0 ≤ f ∧ f < yS A 2) → ∀ z, Q (-2000000097) (z, t.2) M) (h3 : 0 ≤ f → f < yS A 2 → ¬ (0 ≤ v ∧ v ≤ 99) → ∀ z, Q (-2000000098) (z, t.2) M) : p_L_setThrift t x f v M Q :=
  s_X11_setThrift hc hg hA h1 (fun a z => ⟨fun _ => h2 a z, fun q => absurd q (by decide), Or.inl rfl⟩) (fun a b c z => ⟨fun q => absurd q (by decide), fun _ => h3 a b c z, Or.inr rfl⟩)
theorem w_pass (hF : 1300 ≤ F) (hp : xR p) (hc : yCs x t M D A H) (hg : yHg H) (hA : yG0 A) (h1 : 1 ≤ p → p ≤ 200 → yS A 0 + p ≤ 9999 → ∀ t' M', yCs x t' M' D (yAdv (-1) p.toNat A) (yPush H A) → yFc x D M M' → Q (yS (yAdv (-1) p.toNat A) 5 - yS A 5) t' M') (h2 : ¬ (1 ≤ p ∧ p ≤ 200 ∧ yS A 0 + p ≤ 9999) → ∀ z, Q (-2000000098) (z, t.2) M) : p_L_pass F t x p M Q :=
  s_X11_pass hF hp hc hg hA h1 (fun a z => ⟨fun _ => h2 a z, rfl⟩)
theorem w_forward (hc : yCs x t M D A H) (hg : yHg H) (hA : yG0 A) (h1 : 0 ≤ p → p < ((yC A).length : Int) → 0 ≤ f → f < yS A 2 → ∀ t' M', yCs x t' M' D (yCw A (yFwd A p f).1) (yPush H A) → yFc x D M M' → Q (yFwd A p f).2 t' M') (h2 : ¬ (0 ≤ p ∧ p < ((yC A).length : Int)) → ∀ z, Q (-2000000097) (z, t.2) M) (h3 : 0 ≤ p → p < ((yC A).length : Int) → ¬ (0 ≤ f ∧ f < yS A 2) → ∀ z, Q (-2000000097) (z, t.2) M) : p_L_forward t x p f M Q :=
  s_X11_forward hc hg hA h1 (fun a z => ⟨fun _ => h2 a z, rfl⟩) (fun a b c z => ⟨fun _ => h3 a b c z, rfl⟩)
theorem w_grant (hc : yCs x t M D A H) (hg : yHg H) (hA : yG0 A) (h1 : 0 ≤ f → f < yS A 2 → (1 ≤ v ∧ v ≤ 9999) → (1 ≤ e ∧ e ≤ 9999) → (yC A).length < 30 → ∀ t' M', yCs x t' M' D (yCw A (yC A ++ [(f, v, yS A 0 + e, 0)])) (yPush H A) → yFc x D M M' → Q ((yC A).length : Int) t' M') (h2 : ¬ (0 ≤ f ∧ f < yS A 2) → ∀ z, Q (-2000000097) (z, t.2) M) (h3 : 0 ≤ f → f < yS A 2 → ¬ ((1 ≤ v ∧ v ≤ 9999) ∧ (1 ≤ e ∧ e ≤ 9999)) → ∀ z, Q (-2000000098) (z, t.2) M) (h4 : 0 ≤ f → f < yS A 2 → (1 ≤ v ∧ v ≤ 9999) → (1 ≤ e ∧ e ≤ 9999) → ¬ (yC A).length < 30 → ∀ z, Q (-2000000099) (z, t.2) M) : p_L_grant t x f v e M Q :=
  s_X11_grant hc hg hA h1 (fun a z => ⟨fun _ => h2 a z, fun q => absurd q (by decide), fun q => absurd q (by decide), Or.inl rfl⟩) (fun a b c z => ⟨fun q => absurd q (by decide), fun _ => h3 a b c z, fun q => absurd q (by decide), Or.inr (Or.inl rfl)⟩) (fun a b c d g z => ⟨fun q => absurd q (by decide), fun q => absurd q (by decide), fun _ => h4 a b c d g z, Or.inr (Or.inr rfl)⟩)
theorem w_send (hc : yCs x t M D A H) (hg : yHg H) (hA : yG0 A) (h1 : 0 ≤ f → f < yS A 2 → 1 ≤ z → z ≤ 999 → yS A 3 < 40 → ∀ t' M', yCs x t' M' D (ySnd A f (yS A 0) z) (yPush H A) → yFc x D M M' → Q (yS A 3) t' M') (h2 : ¬ (0 ≤ f ∧ f < yS A 2) → ∀ z, Q (-2000000097) (z, t.2) M) (h3 : 0 ≤ f → f < yS A 2 → ¬ (1 ≤ z ∧ z ≤ 999) → ∀ z, Q (-2000000098) (z, t.2) M) (h4 : 0 ≤ f → f < yS A 2 → 1 ≤ z → z ≤ 999 → ¬ yS A 3 < 40 → ∀ z, Q (-2000000099) (z, t.2) M) : p_L_send t x f z M Q :=
  s_X11_send hc hg hA h1 (fun a z => ⟨fun _ => h2 a z, fun q => absurd q (by decide), fun q => absurd q (by decide), Or.inl rfl⟩) (fun a b c z => ⟨fun q => absurd q (by decide), fun _ => h3 a b c z, fun q => absurd q (by decide), Or.inr (Or.inl rfl)⟩) (fun a b c d g z => ⟨fun q => absurd q (by decide), fun q => absurd q (by decide), fun _ => h4 a b c d g z, Or.inr (Or.inr rfl)⟩)
theorem w_route {w : Int} (hc : yCs x t M D A H) (hI : yI1 A) (hf : ¬ (0 ≤ f ∧ f < yS A 2)) (hq : ∀ z, Q (-2000000097) (z, t.2) M) : p_L_route t x f w M Q :=
  s_X11_route hc.1.1 hI (fun a b _ _ => absurd ⟨a, b⟩ hf) (fun _ z => ⟨fun _ => hq z, fun q => absurd q (by decide), Or.inl rfl⟩) (fun a b _ => absurd ⟨a, b⟩ hf)
theorem w_curve {w g : Int} (hc : yCs x t M D A H) (hI : yI1 A) (hf : ¬ (0 ≤ g ∧ g < yS A 1)) (hq : ∀ z, Q (-2000000097) (z, t.2) M) : p_L_curve t x g w M Q :=
  s_X11_curve hc.1.1 hI (fun a b _ _ _ _ => absurd ⟨a, b⟩ hf) (fun _ z => ⟨fun _ => hq z, fun q => absurd q (by decide), Or.inl rfl⟩) (fun a b _ => absurd ⟨a, b⟩ hf)
theorem w_endsAt (hF : 1300 ≤ F) (hc : yCs x t M D A H) (hg : yHg H) (hA : yG0 A) (hf : ¬ (0 ≤ p ∧ p < yS A 3)) (hq : ∀ z, Q (-2000000097) (z, t.2) M) : p_L_endsAt F t x p M Q :=
  s_X11_endsAt hF hc hg hA (fun a b => absurd ⟨a, b⟩ hf) (fun _ z => ⟨fun _ => hq z, rfl⟩)
theorem w_help (hF : 1300 ≤ F) (hc : yCs x t M D A H) (hg : yHg H) (hA : yG0 A) (hf : ¬ (0 ≤ p ∧ p < yS A 3)) (hq : ∀ z, Q (-2000000097) (z, t.2) M) : p_L_help F t x p M Q :=
  s_X11_help hF hc hg hA (fun a b => absurd ⟨a, b⟩ hf) (fun _ z => ⟨fun _ => hq z, rfl⟩)
end RWR
