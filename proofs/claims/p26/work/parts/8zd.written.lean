/-! WHAT IS WRITTEN: texts, numbers -/
/-- the decimal digits of a number below 10000 -/
def rNu (v : Int) : List Int := if v < 10 then [48 + v] else if v < 100 then [48 + v / 10, 48 + v % 10] else if v < 1000 then [48 + v / 100, 48 + v / 10 % 10, 48 + v % 10] else [48 + v / 1000, 48 + v / 100 % 10, 48 + v / 10 % 10, 48 + v % 10]
/-- a String constant's characters -/
def rLt (s : Nat) : List Int := (List.range (xSl s).toNat).map (fun j => xSc s j)
def rNs : List Int → List Int
  | [] => []
  | v :: l => 32 :: rNu v ++ rNs l
section RBW
variable {F n x bu : Nat} {G : xGx} {t t' : xTh} {M M' M'' : xMe} {T : List Int} {c v : Int} {Q : xTh → xMe → Prop}
theorem s_chars (hF : 7 ≤ F) (hX : oX11 t x ∧ oXQ t x) (hb : bu ≠ x + 2 ∧ bu ≠ x + 3) {a w : Nat} {f : Nat → Int} (hf : ∀ j, j < w → 32 ≤ f j ∧ f j < 127) (ht : ∀ M', rBe x bu M M' → xIsT G t M' a w f) : ∀ (d k n i : Nat) (M1 : xMe) (T : List Int), i + d = w → d < k → rBu x bu t M1 T → rBe x bu M M1 → T.length + d ≤ 680 → (∀ M', rBu x bu t M' (T ++ (List.range' i d).map f) → rBe x bu M M' → Q t M') → p_L_write_2 F G Q k n x bu a (i : Int) t M1 := by
  intro d
  induction d with
  | zero =>
    intro k n i M1 T hi hk h he hl hq
    obtain ⟨k, rfl⟩ : ∃ k', k = k' + 1 := ⟨k - 1, by omega⟩
    unfold p_L_write_2
    refine ⟨w, f, ht M1 he, fun _ => hq M1 ?_ he, fun q => absurd q (by omega)⟩
    simpa using h
  | succ d ih =>
    intro k n i M1 T hi hk h he hl hq
    obtain ⟨k, rfl⟩ : ∃ k', k = k' + 1 := ⟨k - 1, by omega⟩
    unfold p_L_write_2
    refine ⟨w, f, ht M1 he, fun q => absurd q (by omega), fun _ => ⟨w, f, ht M1 he, ⟨by omega, by omega⟩, 0, Nat.zero_le _, ?_⟩⟩
    rw [Int.toNat_natCast]
    refine s_put hF h hX hb (hf i (by omega)) (by omega) (fun M2 h2 e2 => ⟨⟨by omega, by have := (ht M1 he).1.2; omega⟩, ?_⟩)
    rw [show (i : Int) + 1 = ((i + 1 : Nat) : Int) by omega]
    refine ih k _ (i + 1) M2 (T ++ [f i]) (by omega) (by omega) h2 (rBe_tr he e2) (by rw [List.length_append]; simp; omega) (fun M' h' e' => hq M' ?_ e')
    rw [List.append_assoc] at h'
    rw [List.range'_succ]
    exact h'
theorem s_write (hF : 1001 ≤ F) (h : rBu x bu t M T) (hX : oX11 t x ∧ oXQ t x) (hb : bu ≠ x + 2 ∧ bu ≠ x + 3) {a w : Nat} {f : Nat → Int} (ht : ∀ M', rBe x bu M M' → xIsT G t M' a w f) (hl : T.length + w ≤ 680) (hq : ∀ M', rBu x bu t M' (T ++ (List.range w).map f) → rBe x bu M M' → Q t M') : p_L_write F G n t x bu a M Q := by
  unfold p_L_write
  have h1 := (ht M rBe_refl).1
  exact s_chars (by omega) hX hb (fun j hj => ⟨(h1.1 j hj).1, (h1.1 j hj).2⟩) ht w F n 0 M T (by omega) (by omega) h rBe_refl hl (fun M' h' e' => hq M' (by rw [List.range_eq_range']; exact h') e')
/-- a String constant -/
theorem s_writeL (hF : 1001 ≤ F) (h : rBu x bu t M T) (hX : oX11 t x ∧ oXQ t x) (hb : bu ≠ x + 2 ∧ bu ≠ x + 3) {s : Nat} (hs : s < 31) (hl : T.length + (xSl s).toNat ≤ 680) (hq : ∀ M', rBu x bu t M' (T ++ rLt s) → rBe x bu M M' → Q t M') : p_L_write F G n t x bu (G.2.2.2.1 s) M Q := by
  have h0 : 0 ≤ xSl s := by unfold xSl; omega
  exact s_write hF h hX hb (fun M' _ => xIsT_lit hs (by omega)) hl hq
theorem s_writeNumber (hF : 10 ≤ F) (h : rBu x bu t M T) (hX : oX11 t x ∧ oXQ t x) (hb : bu ≠ x + 2 ∧ bu ≠ x + 3) (v0 : 0 ≤ v) (v1 : v < 10000) (hl : T.length + 4 ≤ 680) (hq : ∀ M', rBu x bu t M' (T ++ rNu v) → rBe x bu M M' → Q t M') : p_L_writeNumber F n t x bu v M Q := by
  have e10 : Int.tdiv v 10 = v / 10 := Int.tdiv_eq_ediv_of_nonneg v0
  -- the digits, from a power of ten on
  have fin : ∀ (k n : Nat) (M1 : xMe) (L : List Int), 0 < k → rBu x bu t M1 (T ++ L) → rBe x bu M M1 → L = rNu v → p_L_writeNumber_18 F Q k n x bu v 0 t M1 := fun k n M1 L hk h1 e1 eL => by
    obtain ⟨k, rfl⟩ : ∃ k', k = k' + 1 := ⟨k - 1, by omega⟩
    unfold p_L_writeNumber_18
    subst eL
    exact ⟨fun _ => hq M1 h1 e1, fun q => absurd q (by decide)⟩
  have one : ∀ (k n : Nat) (M1 : xMe) (L : List Int) (p p' : Int), 0 < p → p ≤ 1000 → Int.tdiv p 10 = p' → L.length ≤ 3 → rBu x bu t M1 (T ++ L) → rBe x bu M M1 → (∀ n' M', rBu x bu t M' (T ++ (L ++ [48 + v / p % 10])) → rBe x bu M M' → p_L_writeNumber_18 F Q k n' x bu v p' t M') → p_L_writeNumber_18 F Q (k + 1) n x bu v p t M1 := fun k n M1 L p p' p0 p1 ep hL h1 e1 hk => by
    have ev : Int.tdiv v p = v / p := Int.tdiv_eq_ediv_of_nonneg v0
    have d0 : 0 ≤ v / p := Int.ediv_nonneg v0 (by omega)
    have d1 : v / p ≤ v := Int.ediv_le_self p v0
    have em : Int.tmod (v / p) 10 = v / p % 10 := Int.tmod_eq_emod_of_nonneg d0
    have ep' : 0 ≤ p' ∧ p' ≤ 1000 := by rw [← ep, Int.tdiv_eq_ediv_of_nonneg (by omega)]; omega
    unfold p_L_writeNumber_18
    rw [ev, em]
    refine ⟨fun q => absurd q (by omega), fun _ => ⟨⟨by omega, by omega, by omega⟩, ⟨by decide, by omega, by omega⟩, ⟨by omega, by omega⟩, 0, Nat.zero_le _, ?_⟩⟩
    refine s_put (by omega) h1 hX hb ⟨by omega, by omega⟩ (by rw [List.length_append]; omega) (fun M2 h2 e2 => ⟨⟨by decide, by rw [ep]; omega, by rw [ep]; omega⟩, fun z ez => ?_⟩)
    rw [ez, ep]
    rw [List.append_assoc] at h2
    exact hk _ M2 h2 (rBe_tr e1 e2)
  have h0 : rBu x bu t M (T ++ []) := by rw [List.append_nil]; exact h
  have e1 : v / 1 = v := Int.ediv_one v
  have up : ∀ (k n : Nat) (p : Int) (K : Nat → Nat → Nat → Int → Int → xTh → xMe → Prop), v / 10 < p → K n x bu v p t M → p_L_writeNumber_2 F Q K (k + 1) n x bu v p t M := fun k n p K hp hk => by
    unfold p_L_writeNumber_2
    rw [e10]
    exact ⟨⟨by decide, by omega, by omega⟩, fun _ => hk, fun q => absurd q (by omega)⟩
  have st : ∀ (k n : Nat) (p p' : Int) (K : Nat → Nat → Nat → Int → Int → xTh → xMe → Prop), p ≤ v / 10 → 0 < p → p * 10 = p' → p_L_writeNumber_2 F Q K k n x bu v p' t M → p_L_writeNumber_2 F Q K (k + 1) n x bu v p t M := fun k n p p' K hp p0 ep hk => by
    unfold p_L_writeNumber_2
    rw [e10]
    exact ⟨⟨by decide, by omega, by omega⟩, fun q => absurd q (by omega), fun _ => ⟨⟨by omega, by omega⟩, fun z ez => by rw [ez, ep]; exact hk⟩⟩
  obtain ⟨F', rfl⟩ : ∃ F', F = F' + 1 + 1 + 1 + 1 + 1 := ⟨F - 5, by omega⟩
  unfold p_L_writeNumber
  unfold rNu at hq fin
  by_cases c1 : v < 10
  · rw [if_pos c1] at fin
    refine up _ _ _ _ (by omega) (one _ _ _ [] 1 0 (by decide) (by decide) (by decide) (by decide) h0 rBe_refl (fun n' M' h' e' => fin _ _ _ _ (by omega) h' e' ?_))
    rw [e1, show v % 10 = v by omega]; rfl
  rw [if_neg c1] at fin
  by_cases c2 : v < 100
  · rw [if_pos c2] at fin
    refine st _ _ _ 10 _ (by omega) (by decide) (by decide) (up _ _ _ _ (by omega) (one _ _ _ [] 10 1 (by decide) (by decide) (by decide) (by decide) h0 rBe_refl (fun n' M' h' e' => one _ _ _ _ 1 0 (by decide) (by decide) (by decide) (by simp) h' e' (fun n' M' h' e' => fin _ _ _ _ (by omega) h' e' ?_))))
    rw [e1, show v / 10 % 10 = v / 10 by omega]; rfl
  rw [if_neg c2] at fin
  by_cases c3 : v < 1000
  · rw [if_pos c3] at fin
    refine st _ _ _ 10 _ (by omega) (by decide) (by decide) (st _ _ _ 100 _ (by omega) (by decide) (by decide) (up _ _ _ _ (by omega) (one _ _ _ [] 100 10 (by decide) (by decide) (by decide) (by decide) h0 rBe_refl (fun n' M' h' e' => one _ _ _ _ 10 1 (by decide) (by decide) (by decide) (by simp) h' e' (fun n' M' h' e' => one _ _ _ _ 1 0 (by decide) (by decide) (by decide) (by simp) h' e' (fun n' M' h' e' => fin _ _ _ _ (by omega) h' e' ?_))))))
    rw [e1, show v / 100 % 10 = v / 100 by omega]; rfl
  rw [if_neg c3] at fin
  refine st _ _ _ 10 _ (by omega) (by decide) (by decide) (st _ _ _ 100 _ (by omega) (by decide) (by decide) (st _ _ _ 1000 _ (by omega) (by decide) (by decide) (up _ _ _ _ (by omega) (one _ _ _ [] 1000 100 (by decide) (by decide) (by decide) (by decide) h0 rBe_refl (fun n' M' h' e' => one _ _ _ _ 100 10 (by decide) (by decide) (by decide) (by simp) h' e' (fun n' M' h' e' => one _ _ _ _ 10 1 (by decide) (by decide) (by decide) (by simp) h' e' (fun n' M' h' e' => one _ _ _ _ 1 0 (by decide) (by decide) (by decide) (by simp) h' e' (fun n' M' h' e' => fin _ _ _ _ (by omega) h' e' ?_))))))))
  rw [e1, show v / 1000 % 10 = v / 1000 by omega]; rfl
theorem rNu_len (v : Int) : (rNu v).length ≤ 4 ∧ 1 ≤ (rNu v).length := by
  unfold rNu; split
  · exact ⟨by simp, by simp⟩
  · split
    · exact ⟨by simp, by simp⟩
    · split <;> exact ⟨by simp, by simp⟩
/-- a word and numbers -/
theorem s_writeNumbers (hF : 1001 ≤ F) (h : rBu x bu t M T) (hX : oX11 t x ∧ oXQ t x) (hb : bu ≠ x + 2 ∧ bu ≠ x + 3) {s : Nat} (hs : s < 31) {ar : Nat} (hne : ar ≠ bu ∧ ar ≠ x + 2 ∧ ar ≠ x + 3) {V : List Int} (hV : xn t ar = V.length) (h8 : V.length ≤ 8) (hv : ∀ i v, V[i]? = some v → M ar i = v ∧ 0 ≤ v ∧ v < 10000) (hl : T.length + (xSl s).toNat + 5 * V.length ≤ 680) (hq : ∀ M', rBu x bu t M' (T ++ (rLt s ++ rNs V)) → rBe x bu M M' → Q t M') : p_L_writeNumbers F G n t x bu (G.2.2.2.1 s) ar M Q := by
  have sp : rLt 19 = [32] := by decide
  have sp1 : (xSl 19).toNat = 1 := by decide
  have h0 : 0 ≤ xSl s := by unfold xSl; omega
  have lL : (rLt s).length = (xSl s).toNat := by unfold rLt; rw [List.length_map, List.length_range]
  unfold p_L_writeNumbers
  refine ⟨0, Nat.zero_le _, s_writeL hF h hX hb hs (by omega) (fun M1 h1 e1 => ⟨⟨by omega, by omega⟩, fun z ez => ?_⟩)⟩
  rw [hV] at ez
  subst ez
  have lp : ∀ (d k n i : Nat) (M2 : xMe) (T2 : List Int), i + d = V.length → d < k → rBu x bu t M2 T2 → rBe x bu M M2 → T2.length + 5 * d ≤ 680 → (∀ M', rBu x bu t M' (T2 ++ rNs (V.drop i)) → rBe x bu M M' → Q t M') → p_L_writeNumbers_17 F G Q k n x bu ar (V.length : Int) (i : Int) t M2 := by
    intro d
    induction d with
    | zero =>
      intro k n i M2 T2 hi hk g1 g2 g3 g4
      obtain ⟨k, rfl⟩ : ∃ k', k = k' + 1 := ⟨k - 1, by omega⟩
      unfold p_L_writeNumbers_17
      refine ⟨fun _ => g4 M2 ?_ g2, fun q => absurd q (by omega)⟩
      rw [List.drop_eq_nil_of_le (by omega)]
      show rBu x bu t M2 (T2 ++ [])
      rw [List.append_nil]; exact g1
    | succ d ih =>
      intro k n i M2 T2 hi hk g1 g2 g3 g4
      obtain ⟨k, rfl⟩ : ∃ k', k = k' + 1 := ⟨k - 1, by omega⟩
      have hi' : i < V.length := by omega
      obtain ⟨v1, v2, v3⟩ := hv i _ (List.getElem?_eq_getElem hi')
      unfold p_L_writeNumbers_17
      refine ⟨fun q => absurd q (by omega), fun _ => ⟨⟨by omega, by omega⟩, fun z ez => ?_⟩⟩
      rw [Int.toNat_natCast, g2 ar hne.1 hne.2.1 hne.2.2, v1] at ez
      subst ez
      have ln := rNu_len V[i]
      refine ⟨0, Nat.zero_le _, s_writeL hF g1 hX hb (s := 19) (by decide) (by omega) (fun M3 h3 e3 => ⟨0, Nat.zero_le _, ?_⟩)⟩
      rw [sp] at h3
      refine s_writeNumber (by omega) h3 hX hb v2 v3 (by rw [List.length_append]; simp; omega) (fun M4 h4 e4 => ⟨⟨by omega, by omega⟩, ?_⟩)
      rw [show (i : Int) + 1 = ((i + 1 : Nat) : Int) by omega]
      refine ih k _ (i + 1) M4 _ (by omega) (by omega) h4 (rBe_tr (rBe_tr g2 e3) e4) ?_ (fun M' h' e' => g4 M' ?_ e')
      · rw [List.length_append, List.length_append]; simp; omega
      · rw [List.drop_eq_getElem_cons hi']
        rw [List.append_assoc, List.append_assoc] at h'
        exact h'
  refine lp V.length F _ 0 M1 (T ++ rLt s) (by omega) (by omega) h1 e1 (by rw [List.length_append]; omega) (fun M' h' e' => hq M' ?_ e')
  rw [List.append_assoc] at h'
  exact h'
end RBW
