section RSH
variable {F N n : Nat} {G : xGx} {xs : Nat → Int32} {Q : Int → xTh → xMe → Prop} {K4 : Nat → Int → Int → xTh → xMe → Prop} {K181 : Nat → Int → Int → Nat → Nat → Nat → Nat → Int → Int → xTh → xMe → Prop} {K1075 : Nat → Int → Int → Nat → Nat → Nat → Nat → Int → Int → Nat → xTh → xMe → Prop} {K1084 : Nat → Int → Int → Nat → Nat → Nat → Nat → Int → Int → xTh → xMe → Prop} {K1109 : Nat → Int → Int → Nat → Nat → Int → xTh → xMe → Prop} {x1 x2 x8 x9 : Int} {x3 x5 x6 bf x10 : Nat} {t : xTh} {M : xMe}
/-- t' is t but for the references of bf -/
def rBf (bf : Nat) (t t' : xTh) : Prop := xz t' = xz t ∧ (∀ a, xk t' a = xk t a) ∧ (∀ a, xn t' a = xn t a) ∧ ∀ a, a ≠ bf → xr t' a = xr t a
/-- before[] moves on by one -/
theorem s_shift (hn : xn t bf = 9) (hk : ∀ k q, k < 9 → xr t bf k = some q → xk t q = 20) (hq : ∀ t', rBf bf t t' → (∀ j, j < 8 → xr t' bf (j + 1) = xr t bf j) → K1075 n x1 x2 x3 x5 x6 bf x8 x9 x10 t' M) : ∀ (m k : Nat) (t' : xTh), m ≤ 8 → m < k → rBf bf t t' → (∀ j, j ≤ m → xr t' bf j = xr t bf j) → (∀ j, m < j → j ≤ 8 → xr t' bf j = xr t bf (j - 1)) → p_L_law_1052 F G N xs Q K4 K181 K1075 K1084 K1109 k n x1 x2 x3 x5 x6 bf x8 x9 x10 (m : Int) t' M := by
  intro m
  induction m with
  | zero =>
    intro k t' hm hk' hb h1 h2
    obtain ⟨k, rfl⟩ : ∃ k', k = k' + 1 := ⟨k - 1, by omega⟩
    unfold p_L_law_1052
    refine ⟨fun _ => hq t' hb (fun j hj => ?_), fun q => absurd q (by decide)⟩
    have := h2 (j + 1) (by omega) (by omega)
    rw [this]; rfl
  | succ m ih =>
    intro k t' hm hk' hb h1 h2
    obtain ⟨k, rfl⟩ : ∃ k', k = k' + 1 := ⟨k - 1, by omega⟩
    obtain ⟨b1, b2, b3, b4⟩ := id hb
    have e1 : (((m + 1 : Nat) : Int) - 1).toNat = m := by omega
    have e2 : ((m + 1 : Nat) : Int).toNat = m + 1 := by omega
    unfold p_L_law_1052
    rw [e1, e2, b3, hn]
    refine ⟨fun q => absurd q (by omega), fun _ => ⟨⟨by omega, by omega⟩, ⟨by omega, by omega⟩, fun b hb' => ?_, ⟨by omega, by omega⟩, fun t1068 et => ⟨⟨by omega, by omega⟩, ?_⟩⟩⟩
    · rw [b2]
      rw [h1 m (by omega)] at hb'
      exact hk m b (by omega) hb'
    · rw [show ((m + 1 : Nat) : Int) + -1 = (m : Int) by omega]
      subst et
      refine ih k _ (by omega) (by omega) ⟨b1, b2, b3, fun a ha => by rw [xr_wrn ha]; exact b4 a ha⟩ (fun j hj => ?_) (fun j j1 j2 => ?_)
      · rw [xr_wra, if_neg (by omega)]; exact h1 j (by omega)
      · rw [xr_wra]
        split
        · rename_i e; rw [e, h1 m (by omega)]; rfl
        · exact h2 j (by omega) j2
end RSH
