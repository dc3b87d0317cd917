/-! PRICES: the class's codes (numbers as they are, operations -1 .. -4, size gate spent wait -5 .. -8) -/
def yCl (x : Int) : Int := max (-1000000) (min 1000000 x)
def yOp (c l r : Int) : Int := if c = -1 then yCl (l + r) else if c = -2 then yCl (l - r) else if c = -3 then yCl (l * r) else if r = 0 then 0 else yCl (Int.tdiv l r)
/-- what stands for a number -/
def yVr (s g e w c : Int) : Int := if c = -5 then s else if c = -6 then g else if c = -7 then e else if c = -8 then w else c
def yEv (s g e w : Int) : List Int → List Int → List Int
  | [], st => st
  | c :: K, st => if -4 ≤ c ∧ c ≤ -1 then (match st with
    | r :: l :: st => yEv s g e w K (yOp c l r :: st)
    | _ => []) else yEv s g e w K (yVr s g e w c :: st)
def yWf : List Int → Nat → Prop
  | [], d => d = 1
  | c :: K, d => if -4 ≤ c ∧ c ≤ -1 then 2 ≤ d ∧ yWf K (d - 1) else -8 ≤ c ∧ c ≤ 9999 ∧ d < 11 ∧ yWf K (d + 1)
def yVal (s g e w : Int) (K : List Int) : Int := max 0 (min 9999 ((yEv s g e w K []).headD 0))
def yStk (q : Nat) (M : xMe) : List Int → Prop
  | [] => True
  | v :: st => M q st.length = v ∧ yStk q M st
def yB6 (x : Int) : Prop := -1000000 ≤ x ∧ x ≤ 1000000
theorem yCl_b (x : Int) : yB6 (yCl x) := by unfold yB6 yCl; omega
theorem yCl_i {x : Int} (h : yB6 x) : yCl x = x := by unfold yB6 at h; unfold yCl; omega
theorem yB6_R {x : Int} (h : yB6 x) : xR x := ⟨by have := h.1; omega, by have := h.2; omega⟩
theorem yB6_mul {x y : Int} (h : yB6 x) (g : yB6 y) : xRl (x * y) := by
  obtain ⟨h1, h2⟩ := h
  obtain ⟨g1, g2⟩ := g
  have a1 : (x * y).natAbs ≤ 1000000 * 1000000 := by
    rw [Int.natAbs_mul]; exact Nat.mul_le_mul (by omega) (by omega)
  exact ⟨by omega, by omega⟩
theorem yB6_div {x y : Int} (h : yB6 x) : yB6 (Int.tdiv x y) := by
  obtain ⟨h1, h2⟩ := h
  have a1 : (Int.tdiv x y).natAbs ≤ x.natAbs := by rw [Int.natAbs_tdiv]; exact Nat.div_le_self _ _
  exact ⟨by omega, by omega⟩
theorem yOp_b {c l r : Int} : yB6 (yOp c l r) := by
  unfold yOp
  split
  · exact yCl_b _
  · split
    · exact yCl_b _
    · split
      · exact yCl_b _
      · split
        · exact ⟨by decide, by decide⟩
        · exact yCl_b _
theorem yStk_w {q n : Nat} {M : xMe} {v : Int} : ∀ {st : List Int}, yStk q M st → st.length ≤ n → yStk q (xw M q n v) st
  | [], _, _ => trivial
  | w :: st, h, hl => by
    simp only [List.length_cons] at hl
    exact ⟨by rw [xw_j (by omega)]; exact h.1, yStk_w h.2 (by omega)⟩
theorem xcmp_0 {x y : Int} : xcmp x y = 0 ↔ x = y := by
  unfold xcmp
  constructor
  · intro h
    split at h
    · cases h
    · split at h
      · assumption
      · cases h
  · rintro rfl
    rw [if_neg (by omega), if_pos rfl]
theorem xcmp_lt {x y : Int} : xcmp x y < 0 ↔ x < y := by
  unfold xcmp
  split
  · exact ⟨fun h => absurd h (by decide), fun h => by omega⟩
  · split
    · exact ⟨fun h => absurd h (by decide), fun h => by omega⟩
    · exact ⟨fun h => by omega, fun h => by decide⟩
theorem xcmp_gt {x y : Int} : 0 < xcmp x y ↔ y < x := by
  unfold xcmp
  split
  · exact ⟨fun h => by omega, fun h => by decide⟩
  · split
    · exact ⟨fun h => absurd h (by decide), fun h => by omega⟩
    · exact ⟨fun h => absurd h (by decide), fun h => by omega⟩
theorem s_X7_combine {c l r : Int} {M : xMe} {Q : Int → xMe → Prop} (hc : -4 ≤ c ∧ c ≤ -1) (hl : yB6 l) (hr : yB6 r) (hq : Q (yOp c l r) M) : p_X7_combine c l r M Q := by
  unfold p_X7_combine
  have hb : ∀ x, xR (max (-1000000) (min 1000000 x)) := fun x => ⟨by omega, by omega⟩
  obtain ⟨l1, l2⟩ := id hl
  obtain ⟨r1, r2⟩ := id hr
  refine ⟨fun h => ⟨fun h2 => ⟨⟨fun q => h2 (xcmp_0.mpr q), ?_⟩, hb _, ?_⟩, fun h2 => ⟨hb _, ?_⟩⟩, fun h => ⟨yB6_mul hl hr, hb _, ?_⟩, fun h => ⟨⟨by omega, by omega⟩, hb _, ?_⟩, fun h => ⟨⟨by omega, by omega⟩, hb _, ?_⟩⟩
  · have := yB6_div (y := r) hl
    exact ⟨by have := this.1; omega, by have := this.2; omega⟩
  · have hr0 : r ≠ 0 := fun q => h2 (xcmp_0.mpr q)
    unfold yOp at hq
    rw [if_neg (by omega), if_neg (by omega), if_neg (by omega), if_neg hr0] at hq
    exact hq
  · have hr0 : r = 0 := xcmp_0.mp h2
    unfold yOp at hq
    rw [if_neg (by omega), if_neg (by omega), if_neg (by omega), if_pos hr0] at hq
    exact hq
  · unfold yOp at hq
    rw [if_neg (by omega), if_neg (by omega), if_pos (by omega)] at hq
    exact hq
  · unfold yOp at hq
    rw [if_neg (by omega), if_pos (by omega)] at hq
    exact hq
  · unfold yOp at hq
    rw [if_pos (by omega)] at hq
    exact hq
theorem s_X7_valueFor_6 {F a qc qs : Nat} {s g e w : Int} {K : List Int} {M : xMe} {Q : Int → xMe → Prop} (hqs : qs ≠ qc) (hK : ∀ i v, K[i]? = some v → M qc i = v) (hl : K.length ≤ 1200) (hs : yB6 s) (hg : yB6 g) (he : yB6 e) (hw : yB6 w) : ∀ (K2 K1 : List Int) (k : Nat) (st : List Int) (M1 : xMe), K = K1 ++ K2 → K2.length < k → yStk qs M1 st → (∀ v ∈ st, yB6 v) → yWf K2 st.length → st.length ≤ 11 → (∀ b, b ≠ qs → M1 b = M b) → (∀ M', (∀ b, b ≠ qs → M' b = M b) → Q (max 0 (min 9999 ((yEv s g e w K2 st).headD 0))) M') → p_X7_valueFor_6 F a qc qs K.length Q k s g e w (st.length : Int) (K1.length : Int) M1 := by
  intro K2
  induction K2 with
  | nil =>
    intro K1 k st M1 hC hk hS hb hwf h11 hM hq
    obtain ⟨k, rfl⟩ : ∃ k', k = k' + 1 := ⟨k - 1, by simp at hk; omega⟩
    have hd : st.length = 1 := hwf
    obtain ⟨v, rfl⟩ : ∃ v, st = [v] := List.length_eq_one_iff.mp hd
    unfold p_X7_valueFor_6
    refine ⟨fun _ => ⟨fun h => absurd h (by rw [hd]; decide), fun _ => ⟨⟨by omega, by omega⟩, ?_⟩⟩, fun h => absurd h (by rw [hC]; simp)⟩
    rw [show M1 qs 0 = v from hS.1]
    exact hq M1 hM
  | cons c K2 ih =>
    intro K1 k st M1 hC hk hS hb hwf h11 hM hq
    obtain ⟨k, rfl⟩ : ∃ k', k = k' + 1 := ⟨k - 1, by omega⟩
    have hc : M1 qc K1.length = c := by rw [hM qc (Ne.symm hqs)]; exact hK _ _ (by rw [hC]; exact yat)
    have hl2 : K.length = K1.length + (K2.length + 1) := by rw [hC]; simp
    have ih := fun st M1 => ih (K1 ++ [c]) k st M1 (by rw [hC]; simp) (by simp at hk; omega)
    rw [show (((K1 ++ [c]).length : Nat) : Int) = (K1.length : Int) + 1 by simp] at ih
    have hpush : ∀ v, yB6 v → st.length < 11 → yWf K2 (st.length + 1) → (∀ M', (∀ b, b ≠ qs → M' b = M b) → Q (max 0 (min 9999 ((yEv s g e w K2 (v :: st)).headD 0))) M') → ∀ M2 : xMe, M2 = xw M1 qs (st.length) v → p_X7_valueFor_6 F a qc qs K.length Q k s g e w ((st.length : Int) + 1) ((K1.length : Int) + 1) M2 := fun v hv h1 h2 h3 M2 e2 => by
      subst e2
      have := ih (v :: st) (xw M1 qs st.length v) ⟨xw_s, yStk_w hS (Nat.le_refl _)⟩ (fun u hu => by rcases List.mem_cons.mp hu with rfl | hu; exact hv; exact hb u hu) h2 (by simp; omega) (fun b h => by rw [xw_B h]; exact hM b h) h3
      simpa using this
    by_cases hop : -4 ≤ c ∧ c ≤ -1
    · unfold yWf at hwf
      rw [if_pos hop] at hwf
      obtain ⟨h2, hwf⟩ := hwf
      obtain ⟨r, l, st, rfl⟩ : ∃ r l st', st = r :: l :: st' := by
        match st, h2 with
        | r :: l :: st', _ => exact ⟨r, l, st', rfl⟩
      unfold yEv at hq
      simp only [if_pos hop] at hq
      simp only [List.length_cons, Nat.add_sub_cancel] at hwf h11 h2 ⊢
      obtain ⟨s1, s2, s3⟩ := hS
      simp only [List.length_cons] at s1 s2
      have hbin : ∀ M2 : xMe, M2 = xw M1 qs st.length (yOp c l r) → p_X7_valueFor_6 F a qc qs K.length Q k s g e w ((st.length : Int) + 1) ((K1.length : Int) + 1) M2 := fun M2 e2 => by
        subst e2
        have := ih (yOp c l r :: st) (xw M1 qs st.length (yOp c l r)) ⟨xw_s, yStk_w s3 (Nat.le_refl _)⟩ (fun u hu => by rcases List.mem_cons.mp hu with rfl | hu; exact yOp_b; exact hb u (List.mem_cons_of_mem _ (List.mem_cons_of_mem _ hu))) hwf (by simp; omega) (fun b h => by rw [xw_B h]; exact hM b h) hq
        simpa using this
      have hcomb : ∀ {P1 : Int → xMe → Prop}, P1 (yOp c l r) M1 → p_X7_combine c l r M1 P1 := fun h => s_X7_combine hop (hb l (by simp)) (hb r (by simp)) h
      unfold p_X7_valueFor_6
      simp only [hl2, Int.toNat_natCast, hc, xR, show (((st.length + 1 + 1 : Nat) : Int) + (-2)).toNat = st.length by omega, show ((st.length : Int) + 1).toNat = st.length + 1 by omega, s1, s2, show (((st.length + 1 + 1 : Nat) : Int) + (-2)) = (st.length : Int) by omega]
      rw [hl2] at hbin
      refine ⟨fun h => absurd h (by omega), fun _ => ⟨⟨by omega, by omega⟩, fun z _ => ⟨⟨by omega, by omega⟩, fun h => absurd h (by omega), fun h => absurd h (by omega), fun h => absurd h (by omega), fun h => absurd h (by omega), fun h => absurd h (by omega), fun h => ?_, fun h => ?_, fun h => ?_, fun h => ?_⟩⟩⟩
      all_goals exact ⟨fun _ => ⟨⟨by omega, by omega⟩, ⟨by omega, by omega⟩, ⟨by omega, by omega⟩, ⟨by omega, by omega⟩, ⟨by omega, by omega⟩, hcomb ⟨fun h => absurd h (by omega), fun _ => ⟨⟨by omega, by omega⟩, fun M2 e2 => ⟨⟨by omega, by omega⟩, ⟨by omega, by omega⟩, hbin M2 e2⟩⟩⟩⟩, fun h => absurd h (by omega)⟩
    · unfold yWf at hwf
      rw [if_neg hop] at hwf
      obtain ⟨w1, w2, w3, hwf⟩ := hwf
      unfold yEv at hq
      rw [if_neg hop] at hq
      unfold p_X7_valueFor_6
      simp only [hl2, Int.toNat_natCast, hc, xR]
      rw [hl2] at hpush
      refine ⟨fun h => absurd h (by omega), fun _ => ⟨⟨by omega, by omega⟩, fun z ez => ⟨⟨by omega, by omega⟩, fun h => ⟨fun h => absurd h (by omega), fun _ => ⟨⟨by omega, by omega⟩, fun M2 e2 => ⟨⟨by omega, by omega⟩, ⟨by omega, by omega⟩, hpush z ?_ w3 hwf ?_ M2 e2⟩⟩⟩, fun h => ⟨fun h => absurd h (by omega), fun _ => ⟨⟨by omega, by omega⟩, fun M2 e2 => ⟨⟨by omega, by omega⟩, ⟨by omega, by omega⟩, hpush w hw w3 hwf ?_ M2 e2⟩⟩⟩, fun h => ⟨fun h => absurd h (by omega), fun _ => ⟨⟨by omega, by omega⟩, fun M2 e2 => ⟨⟨by omega, by omega⟩, ⟨by omega, by omega⟩, hpush e he w3 hwf ?_ M2 e2⟩⟩⟩, fun h => ⟨fun h => absurd h (by omega), fun _ => ⟨⟨by omega, by omega⟩, fun M2 e2 => ⟨⟨by omega, by omega⟩, ⟨by omega, by omega⟩, hpush g hg w3 hwf ?_ M2 e2⟩⟩⟩, fun h => ⟨fun h => absurd h (by omega), fun _ => ⟨⟨by omega, by omega⟩, fun M2 e2 => ⟨⟨by omega, by omega⟩, ⟨by omega, by omega⟩, hpush s hs w3 hwf ?_ M2 e2⟩⟩⟩, fun h => absurd h (by omega), fun h => absurd h (by omega), fun h => absurd h (by omega), fun h => absurd h (by omega)⟩⟩⟩
      · exact ⟨by omega, by omega⟩
      · rw [ez]; unfold yVr at hq; rw [if_neg (by omega), if_neg (by omega), if_neg (by omega), if_neg (by omega)] at hq; exact hq
      · unfold yVr at hq; rw [if_neg (by omega), if_neg (by omega), if_neg (by omega), if_pos h] at hq; exact hq
      · unfold yVr at hq; rw [if_neg (by omega), if_neg (by omega), if_pos h] at hq; exact hq
      · unfold yVr at hq; rw [if_neg (by omega), if_pos h] at hq; exact hq
      · unfold yVr at hq; rw [if_pos h] at hq; exact hq
theorem s_X7_valueFor {F a qc qs n : Nat} {s g e w : Int} {K : List Int} {M : xMe} {Q : Int → xMe → Prop} (hqs : qs ≠ qc) (hn : n = K.length) (hK : ∀ i v, K[i]? = some v → M qc i = v) (hl : K.length ≤ 1200) (hF : 1300 ≤ F) (hwf : yWf K 0) (hs : yB6 s) (hg : yB6 g) (he : yB6 e) (hw : yB6 w) (hq : ∀ M', (∀ b, b ≠ qs → M' b = M b) → Q (yVal s g e w K) M') : p_X7_valueFor F a s g e w qc qs n M Q := by
  subst hn
  exact s_X7_valueFor_6 hqs hK hl hs hg he hw K [] F [] M rfl (by omega) trivial (fun v h => by cases h) hwf (by decide) (fun _ _ => rfl) hq
/-! the model's codes -/
def yEn (c : Int) : List Int := if -4 ≤ c ∧ c ≤ -1 then [1 - c] else if c ≤ -5 then [1, -5 - c] else [0, c]
def yEc (K : List Int) : List Int := K.flatMap yEn
def yPr (b : Nat) (M : xMe) (K : List Int) : Prop := (K = [-5] ∧ M b 13 = 0) ∨ (M b 13 = ((yEc K).length : Int) ∧ (yEc K).length ≤ 1200 ∧ ∀ j v, (yEc K)[j]? = some v → M b (905 + j) = v)
theorem yEc_app {K1 K2 : List Int} : yEc (K1 ++ K2) = yEc K1 ++ yEc K2 := by simp [yEc]
theorem yEc_cons {c : Int} {K : List Int} : yEc (c :: K) = yEn c ++ yEc K := rfl
theorem yEn_len {c : Int} : 1 ≤ (yEn c).length := by
  unfold yEn; split
  · simp
  · split <;> simp
