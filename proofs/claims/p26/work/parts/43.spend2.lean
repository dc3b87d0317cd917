/-! SPENDING: which coupon; what stays -/
theorem yBs_app {f : Int} : ∀ (X L : List yCo) (j : Nat) (b : Option (Nat × Int)), yBs f (X ++ L) j b = yBs f L (j + X.length) (yBs f X j b) := by
  intro X
  induction X with
  | nil => intro L j b; cases b <;> rfl
  | cons x X ih =>
    intro L j b
    cases b with
    | none => simp only [List.cons_append, yBs, ih, List.length_cons]; rw [show j + 1 + X.length = j + (X.length + 1) by omega]
    | some r => simp only [List.cons_append, yBs, ih, List.length_cons]; rw [show j + 1 + X.length = j + (X.length + 1) by omega]
theorem yBs_keep {f : Int} {r : Nat × Int} : ∀ (L : List yCo) (j : Nat), (∀ y ∈ L, y.1 = f → r.2 ≤ y.2.2.1) → yBs f L j (some r) = some r := by
  intro L
  induction L with
  | nil => intro j _; rfl
  | cons c L ih =>
    intro j h
    unfold yBs
    rw [if_neg (fun q => by have := h c List.mem_cons_self q.1; omega)]
    exact ih _ (fun y hy => h y (List.mem_cons_of_mem _ hy))
theorem yBs_from {f : Int} {r : Nat × Int} : ∀ (L : List yCo) (j : Nat) (b : Option (Nat × Int)), yBs f L j b = some r → b = some r ∨ ∃ x ∈ L, x.1 = f ∧ x.2.2.1 = r.2 := by
  intro L
  induction L with
  | nil => intro j b h; exact Or.inl h
  | cons c L ih =>
    intro j b h
    have fin : ∀ b', yBs f L (j + 1) b' = some r → (b' = b ∨ (c.1 = f ∧ b' = some (j, c.2.2.1))) → b = some r ∨ ∃ x ∈ c :: L, x.1 = f ∧ x.2.2.1 = r.2 := fun b' h1 h2 => by
      rcases ih _ _ h1 with e | ⟨x, hx, h3⟩
      · rcases h2 with h2 | ⟨h2, h4⟩
        · exact Or.inl (h2 ▸ e)
        · right
          rw [h4] at e
          cases e
          exact ⟨c, List.mem_cons_self, h2, rfl⟩
      · exact Or.inr ⟨x, List.mem_cons_of_mem _ hx, h3⟩
    cases b with
    | none =>
      unfold yBs at h
      refine fin _ h ?_
      split
      · exact Or.inr ⟨by assumption, rfl⟩
      · exact Or.inl rfl
    | some q =>
      unfold yBs at h
      refine fin _ h ?_
      split
      · rename_i e; exact Or.inr ⟨e.1, rfl⟩
      · exact Or.inl rfl
/-- c, between X and Y, is the one -/
def yMn (f : Int) (X : List yCo) (c : yCo) (Y : List yCo) : Prop := c.1 = f ∧ (∀ x ∈ X, x.1 = f → c.2.2.1 < x.2.2.1) ∧ ∀ y ∈ Y, y.1 = f → c.2.2.1 ≤ y.2.2.1
theorem yBest_mn {f : Int} {X Y : List yCo} {c : yCo} (h : yMn f X c Y) : yBest f (X ++ c :: Y) = some (X.length, c.2.2.1) := by
  obtain ⟨h1, h2, h3⟩ := h
  unfold yBest
  rw [yBs_app, Nat.zero_add]
  cases hb : yBs f X 0 none with
  | none => unfold yBs; rw [if_pos h1]; exact yBs_keep _ _ h3
  | some r =>
    unfold yBs
    rcases yBs_from _ _ _ hb with q | ⟨x, hx, hx1, hx2⟩
    · cases q
    · rw [if_pos ⟨h1, by rw [← hx2]; exact h2 x hx hx1⟩]; exact yBs_keep _ _ h3
theorem yMn_ex {f : Int} : ∀ (C : List yCo), (∀ c ∈ C, c.1 ≠ f) ∨ ∃ X c Y, C = X ++ c :: Y ∧ yMn f X c Y := by
  intro C
  induction C with
  | nil => left; intro c h; cases h
  | cons a C ih =>
    by_cases ha : a.1 = f
    · right
      rcases ih with h | ⟨X, c, Y, rfl, h1, h2, h3⟩
      · exact ⟨[], a, C, rfl, ha, (fun x hx => by cases hx), fun y hy q => absurd q (h y hy)⟩
      · by_cases hle : a.2.2.1 ≤ c.2.2.1
        · refine ⟨[], a, X ++ c :: Y, rfl, ha, (fun x hx => by cases hx), fun y hy q => ?_⟩
          rcases List.mem_append.mp hy with hy | hy
          · have := h2 y hy q; omega
          · rcases List.mem_cons.mp hy with rfl | hy
            · exact hle
            · have := h3 y hy q; omega
        · refine ⟨a :: X, c, Y, rfl, h1, fun x hx q => ?_, h3⟩
          rcases List.mem_cons.mp hx with rfl | hx
          · omega
          · exact h2 x hx q
    · rcases ih with h | ⟨X, c, Y, rfl, h1, h2, h3⟩
      · left
        intro c hc
        rcases List.mem_cons.mp hc with rfl | hc
        · exact ha
        · exact h c hc
      · right
        refine ⟨a :: X, c, Y, rfl, h1, fun x hx q => ?_, h3⟩
        rcases List.mem_cons.mp hx with rfl | hx
        · exact absurd q ha
        · exact h2 x hx q
theorem ySum_0 {f : Int} : ∀ {C : List yCo}, (∀ c ∈ C, c.1 ≠ f) → ySum f C = 0
  | [], _ => rfl
  | c :: C, h => by
    unfold ySum
    rw [if_neg (h c List.mem_cons_self), ySum_0 (fun c hc => h c (List.mem_cons_of_mem _ hc))]; rfl
theorem yBest_0 {f : Int} {C : List yCo} (h : ∀ c ∈ C, c.1 ≠ f) : yBest f C = none := by
  cases hb : yBest f C with
  | none => rfl
  | some r =>
    obtain ⟨c, L1, L2, e, h1, h2, h3, h4⟩ := yBest_ok hb
    exact absurd h3 (h c (by rw [e]; simp))
theorem ySp_le {f amt : Int} (h : amt ≤ 0) (n : Nat) (C : List yCo) : ySp f n amt C = C := by
  cases n with
  | zero => rfl
  | succ n => unfold ySp; rw [if_pos h]
theorem ySp_no {f amt : Int} {C : List yCo} (h : ∀ c ∈ C, c.1 ≠ f) (n : Nat) : ySp f n amt C = C := by
  cases n with
  | zero => rfl
  | succ n => unfold ySp; rw [yBest_0 h]; split <;> rfl
theorem ySp_mn {f amt : Int} {n : Nat} {X Y : List yCo} {c : yCo} (h : yMn f X c Y) (h0 : 0 < amt) : ySp f (n + 1) amt (X ++ c :: Y) = if c.2.1 ≤ amt then ySp f n (amt - c.2.1) (X ++ Y) else X ++ (c.1, c.2.1 - amt, c.2.2) :: Y := by
  rw [ySp, if_neg (by omega), yBest_mn h]
  simp only [yat, yer, yset]
/-- what spending leaves -/
theorem ySp_mem {f : Int} : ∀ (n : Nat) (amt : Int) (C : List yCo), (∀ c ∈ C, 1 ≤ c.2.1) → (ySp f n amt C).length ≤ C.length ∧ ∀ c ∈ ySp f n amt C, ∃ c0 ∈ C, c.1 = c0.1 ∧ c.2.2 = c0.2.2 ∧ 1 ≤ c.2.1 ∧ c.2.1 ≤ c0.2.1 := by
  intro n
  induction n with
  | zero => intro amt C hv; exact ⟨Nat.le_refl _, fun c hc => ⟨c, hc, rfl, rfl, hv c hc, Int.le_refl _⟩⟩
  | succ n ih =>
    intro amt C hv
    by_cases h0 : amt ≤ 0
    · rw [ySp_le h0]; exact ⟨Nat.le_refl _, fun c hc => ⟨c, hc, rfl, rfl, hv c hc, Int.le_refl _⟩⟩
    rcases yMn_ex (f := f) C with h | ⟨X, c, Y, rfl, hm⟩
    · rw [ySp_no h]; exact ⟨Nat.le_refl _, fun c hc => ⟨c, hc, rfl, rfl, hv c hc, Int.le_refl _⟩⟩
    rw [ySp_mn hm (by omega)]
    split
    · obtain ⟨g1, g2⟩ := ih (amt - c.2.1) (X ++ Y) (fun d hd => hv d (by simp at hd ⊢; rcases hd with hd | hd <;> simp [hd]))
      refine ⟨by simp at g1 ⊢; omega, fun d hd => ?_⟩
      obtain ⟨c0, h1, h2⟩ := g2 d hd
      exact ⟨c0, by simp at h1 ⊢; rcases h1 with h1 | h1 <;> simp [h1], h2⟩
    · refine ⟨by simp, fun d hd => ?_⟩
      rcases List.mem_append.mp hd with hd | hd
      · exact ⟨d, by simp [hd], rfl, rfl, hv d (by simp [hd]), Int.le_refl _⟩
      · rcases List.mem_cons.mp hd with rfl | hd
        · have := hv c (by simp)
          exact ⟨c, by simp, rfl, rfl, by dsimp only; omega, by dsimp only; omega⟩
        · exact ⟨d, by simp [hd], rfl, rfl, hv d (by simp [hd]), Int.le_refl _⟩
/-- the coupons, with one greater by d -/
def yDc (fw e d : Int) (C C' : List yCo) : Prop := ∃ (L1 L2 : List yCo) (v : Int), 0 < d ∧ 0 ≤ v ∧ C' = L1 ++ (fw, v + d, e, 0) :: L2 ∧ C = L1 ++ (if v = 0 then L2 else (fw, v, e, 0) :: L2) ∧ (∀ c ∈ L1, c.1 = fw → c.2.2.1 ≤ e) ∧ (∀ c ∈ L2, c.1 = fw → c.2.2.1 < e)
theorem yDl_c {fw e d : Int} {A : yA} {C' : List yCo} (h : yDc fw e d (yC A) C') : yDl fw e d A (yCw A C') := by
  obtain ⟨L1, L2, v, h1, h2, rfl, h4, h5, h6⟩ := h
  exact Or.inr ⟨L1, L2, v, h1, h2, rfl, h4, h5, h6⟩
theorem yDl_d {fw e d : Int} {A B : yA} (h : yDl fw e d A B) : (d = 0 ∧ B = A) ∨ ∃ C', B = yCw A C' ∧ yDc fw e d (yC A) C' := by
  rcases h with h | ⟨L1, L2, v, h1, h2, h3, h4, h5, h6⟩
  · exact Or.inl h
  · exact Or.inr ⟨_, h3, L1, L2, v, h1, h2, rfl, h4, h5, h6⟩
theorem yDc_sum {fw e d f : Int} {C C' : List yCo} (h : yDc fw e d C C') : ySum f C' = ySum f C + (if f = fw then d else 0) := by
  obtain ⟨L1, L2, v, h1, h2, rfl, rfl, h5, h6⟩ := h
  rw [ySum_app, ySum_app, ySum]
  dsimp only
  by_cases hf : f = fw
  · rw [if_pos hf, if_pos hf.symm]
    split
    · omega
    · rw [ySum]; dsimp only; rw [if_pos hf.symm]; omega
  · rw [if_neg hf, if_neg (fun q => hf q.symm)]
    split
    · omega
    · rw [ySum]; dsimp only; rw [if_neg (fun q => hf q.symm)]; omega
theorem ySp_dc {f fw e d : Int} : ∀ (n : Nat) (amt : Int) (C C' : List yCo), yDc fw e d C C' → amt ≤ ySum f C → (∀ c ∈ C, 1 ≤ c.2.1) → C.length ≤ n → yDc fw e d (ySp f n amt C) (ySp f n amt C') := by
  intro n
  induction n with
  | zero => intro amt C C' h _ _ _; exact h
  | succ n ih =>
    intro amt C C' h hs hv hl
    by_cases h0 : amt ≤ 0
    · rw [ySp_le h0, ySp_le h0]; exact h
    obtain ⟨L1, L2, v, hd, hv0, rfl, rfl, hl1, hl2⟩ := h
    have hvm : ∀ L : List yCo, (∀ x ∈ L, x ∈ L1 ∨ x ∈ L2) → ∀ x ∈ L, 1 ≤ x.2.1 := fun L hL x hx => hv x (by
      rcases hL x hx with q | q
      · simp [q]
      · rw [List.mem_append]; right; split
        · exact q
        · exact List.mem_cons_of_mem _ q)
    rcases yMn_ex (f := f) (L1 ++ L2) with hno | ⟨X, c, Y, hXY, hm⟩
    · -- the watched one alone
      have hn1 : ∀ c ∈ L1, c.1 ≠ f := fun c hc => hno c (by simp [hc])
      have hn2 : ∀ c ∈ L2, c.1 ≠ f := fun c hc => hno c (by simp [hc])
      rw [ySum_app, ySum_0 hn1] at hs
      have hvp : v ≠ 0 ∧ fw = f := by
        by_cases q : v = 0
        · rw [if_pos q, ySum_0 hn2] at hs; omega
        · rw [if_neg q, ySum] at hs
          dsimp only at hs
          refine ⟨q, ?_⟩
          by_cases q2 : fw = f
          · exact q2
          · rw [if_neg q2, ySum_0 hn2] at hs; omega
      obtain ⟨hv1, rfl⟩ := hvp
      rw [if_neg hv1] at hs ⊢
      rw [ySum] at hs
      dsimp only at hs
      rw [if_pos rfl, ySum_0 hn2] at hs
      have m1 : yMn fw L1 (fw, v, e, 0) L2 := ⟨rfl, fun x hx q => absurd q (hn1 x hx), fun y hy q => absurd q (hn2 y hy)⟩
      have m2 : yMn fw L1 (fw, v + d, e, 0) L2 := ⟨rfl, fun x hx q => absurd q (hn1 x hx), fun y hy q => absurd q (hn2 y hy)⟩
      rw [ySp_mn m1 (by omega), ySp_mn m2 (by omega)]
      dsimp only
      rw [if_neg (show ¬ (v + d ≤ amt) by omega)]
      by_cases q : v ≤ amt
      · rw [if_pos q, ySp_le (by omega)]
        refine ⟨L1, L2, 0, hd, by omega, ?_, by rw [if_pos rfl], hl1, hl2⟩
        rw [show v + d - amt = 0 + d by omega]
      · rw [if_neg q]
        refine ⟨L1, L2, v - amt, hd, by omega, ?_, by rw [if_neg (by omega)], hl1, hl2⟩
        rw [show v + d - amt = v - amt + d by omega]
    · have hcf := hm.1
      rcases List.append_eq_append_iff.mp hXY with ⟨Z, hX, hL2⟩ | ⟨Z, hL1, hY⟩
      · -- c lies in L2
        subst hX
        subst hL2
        have hce : f = fw → c.2.2.1 < e := fun q => hl2 c (by simp) (by rw [hcf, q])
        have w1 : L1 ++ (fw, v + d, e, 0) :: (Z ++ c :: Y) = (L1 ++ (fw, v + d, e, 0) :: Z) ++ c :: Y := by simp
        have w2 : L1 ++ (if v = 0 then Z ++ c :: Y else (fw, v, e, 0) :: (Z ++ c :: Y)) = (L1 ++ (if v = 0 then Z else (fw, v, e, 0) :: Z)) ++ c :: Y := by split <;> simp
        have hmx : ∀ u : Int, yMn f (L1 ++ (fw, u, e, 0) :: Z) c Y := fun u => ⟨hcf, fun x hx q => by
          simp only [List.mem_append, List.mem_cons] at hx
          rcases hx with hx | rfl | hx
          · exact hm.2.1 x (by simp [hx]) q
          · exact hce q.symm
          · exact hm.2.1 x (by simp [hx]) q, hm.2.2⟩
        have hmx2 : yMn f (L1 ++ (if v = 0 then Z else (fw, v, e, 0) :: Z)) c Y := by
          split
          · exact ⟨hcf, fun x hx q => hm.2.1 x hx q, hm.2.2⟩
          · exact hmx v
        rw [w2] at hs hv hl ⊢
        rw [w1, ySp_mn hmx2 (by omega), ySp_mn (hmx _) (by omega)]
        have hl2' : ∀ x ∈ Z ++ Y, x.1 = fw → x.2.2.1 < e := fun x hx => hl2 x (by simp at hx ⊢; rcases hx with hx | hx <;> simp [hx])
        have v1 : L1 ++ (fw, v + d, e, 0) :: Z ++ Y = L1 ++ (fw, v + d, e, 0) :: (Z ++ Y) := by simp
        have v2 : (L1 ++ (if v = 0 then Z else (fw, v, e, 0) :: Z)) ++ Y = L1 ++ (if v = 0 then Z ++ Y else (fw, v, e, 0) :: (Z ++ Y)) := by split <;> simp
        split
        · refine ih _ _ _ ⟨L1, Z ++ Y, v, hd, hv0, v1, v2, hl1, hl2'⟩ ?_ (fun x hx => hv x (by simp only [List.mem_append, List.mem_cons] at hx ⊢; rcases hx with hx | hx; exact Or.inl hx; exact Or.inr (Or.inr hx))) (by simp only [List.length_append, List.length_cons] at hl ⊢; omega)
          rw [ySum_app, ySum, if_pos hcf] at hs
          rw [ySum_app]; omega
        · refine ⟨L1, Z ++ (c.1, c.2.1 - amt, c.2.2) :: Y, v, hd, hv0, by simp, by split <;> simp, hl1, fun x hx q => ?_⟩
          simp only [List.mem_append, List.mem_cons] at hx
          rcases hx with hx | rfl | hx
          · exact hl2 x (by simp [hx]) q
          · exact hl2 c (by simp) q
          · exact hl2 x (by simp [hx]) q
      · -- c lies in L1, or at the head of L2
        cases Z with
        | nil =>
          simp only [List.append_nil, List.nil_append] at hL1 hY
          subst hL1
          subst hY
          have hce : f = fw → c.2.2.1 < e := fun q => hl2 c (by simp) (by rw [hcf, q])
          have w1 : L1 ++ (fw, v + d, e, 0) :: (c :: Y) = (L1 ++ [(fw, v + d, e, 0)]) ++ c :: Y := by simp
          have w2 : L1 ++ (if v = 0 then c :: Y else (fw, v, e, 0) :: (c :: Y)) = (L1 ++ (if v = 0 then [] else [(fw, v, e, 0)])) ++ c :: Y := by split <;> simp
          have hmx : ∀ u : Int, yMn f (L1 ++ [(fw, u, e, 0)]) c Y := fun u => ⟨hcf, fun x hx q => by
            simp only [List.mem_append, List.mem_singleton] at hx
            rcases hx with hx | rfl
            · exact hm.2.1 x hx q
            · exact hce q.symm, hm.2.2⟩
          have hmx2 : yMn f (L1 ++ (if v = 0 then [] else [(fw, v, e, 0)])) c Y := by
            split
            · exact ⟨hcf, fun x hx q => hm.2.1 x (by simpa using hx) q, hm.2.2⟩
            · exact hmx v
          rw [w2] at hs hv hl ⊢
          rw [w1, ySp_mn hmx2 (by omega), ySp_mn (hmx _) (by omega)]
          have hl2' : ∀ x ∈ Y, x.1 = fw → x.2.2.1 < e := fun x hx => hl2 x (by simp [hx])
          have v1 : L1 ++ [(fw, v + d, e, 0)] ++ Y = L1 ++ (fw, v + d, e, 0) :: Y := by simp
          have v2 : (L1 ++ (if v = 0 then [] else [(fw, v, e, 0)])) ++ Y = L1 ++ (if v = 0 then Y else (fw, v, e, 0) :: Y) := by split <;> simp
          split
          · refine ih _ _ _ ⟨L1, Y, v, hd, hv0, v1, v2, hl1, hl2'⟩ ?_ (fun x hx => hv x (by simp only [List.mem_append, List.mem_cons] at hx ⊢; rcases hx with hx | hx; exact Or.inl hx; exact Or.inr (Or.inr hx))) (by simp only [List.length_append, List.length_cons] at hl ⊢; omega)
            rw [ySum_app, ySum, if_pos hcf] at hs
            rw [ySum_app]; omega
          · refine ⟨L1, (c.1, c.2.1 - amt, c.2.2) :: Y, v, hd, hv0, by simp, by split <;> simp, hl1, fun x hx q => ?_⟩
            simp only [List.mem_cons] at hx
            rcases hx with rfl | hx
            · exact hl2 c (by simp) q
            · exact hl2 x (by simp [hx]) q
        | cons z Z =>
          simp only [List.cons_append, List.cons.injEq] at hY
          obtain ⟨rfl, rfl⟩ := hY
          subst hL1
          have hce : f = fw → c.2.2.1 ≤ e := fun q => hl1 c (by simp) (by rw [hcf, q])
          have w1 : (X ++ c :: Z) ++ (fw, v + d, e, 0) :: L2 = X ++ c :: (Z ++ (fw, v + d, e, 0) :: L2) := by simp
          have w2 : (X ++ c :: Z) ++ (if v = 0 then L2 else (fw, v, e, 0) :: L2) = X ++ c :: (Z ++ (if v = 0 then L2 else (fw, v, e, 0) :: L2)) := by simp
          have hmx : ∀ u : Int, yMn f X c (Z ++ (fw, u, e, 0) :: L2) := fun u => ⟨hcf, hm.2.1, fun y hy q => by
            simp only [List.mem_append, List.mem_cons] at hy
            rcases hy with hy | rfl | hy
            · exact hm.2.2 y (by simp [hy]) q
            · exact hce q.symm
            · exact hm.2.2 y (by simp [hy]) q⟩
          have hmx2 : yMn f X c (Z ++ (if v = 0 then L2 else (fw, v, e, 0) :: L2)) := by
            split
            · exact hm
            · exact hmx v
          rw [w2] at hs hv hl ⊢
          rw [w1, ySp_mn hmx2 (by omega), ySp_mn (hmx _) (by omega)]
          have hl1' : ∀ x ∈ X ++ Z, x.1 = fw → x.2.2.1 ≤ e := fun x hx => hl1 x (by simp at hx ⊢; rcases hx with hx | hx <;> simp [hx])
          split
          · refine ih _ _ _ ⟨X ++ Z, L2, v, hd, hv0, by simp, by split <;> simp, hl1', hl2⟩ ?_ (fun x hx => hv x (by simp only [List.mem_append, List.mem_cons] at hx ⊢; rcases hx with hx | hx; exact Or.inl hx; exact Or.inr (Or.inr hx))) (by simp only [List.length_append, List.length_cons] at hl ⊢; omega)
            rw [ySum_app, ySum, if_pos hcf] at hs
            rw [ySum_app]; omega
          · refine ⟨X ++ (c.1, c.2.1 - amt, c.2.2) :: Z, L2, v, hd, hv0, by simp, by split <;> simp, fun x hx q => ?_, hl2⟩
            simp only [List.mem_append, List.mem_cons] at hx
            rcases hx with hx | rfl | hx
            · exact hl1 x (by simp [hx]) q
            · exact hl1 c (by simp) q
            · exact hl1 x (by simp [hx]) q
