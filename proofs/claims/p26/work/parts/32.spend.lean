/-! the coupon that ends first; spending -/
def yBs (f : Int) : List yCo → Nat → Option (Nat × Int) → Option (Nat × Int)
  | [], _, b => b
  | c :: C, j, none => yBs f C (j + 1) (if c.1 = f then some (j, c.2.2.1) else none)
  | c :: C, j, some r => yBs f C (j + 1) (if c.1 = f ∧ c.2.2.1 < r.2 then some (j, c.2.2.1) else some r)
def yBest (f : Int) (C : List yCo) : Option (Nat × Int) := yBs f C 0 none
def yBi : Option (Nat × Int) → Int
  | none => -1
  | some r => (r.1 : Int)
def yBok (f : Int) (C : List yCo) (n : Nat) (b : Option (Nat × Int)) : Prop := ∀ r, b = some r → r.1 < n ∧ ∃ c, C[r.1]? = some c ∧ c.1 = f ∧ c.2.2.1 = r.2
theorem yBs_ok {f : Int} {C : List yCo} : ∀ (L2 L1 : List yCo) (b : Option (Nat × Int)), C = L1 ++ L2 → yBok f C L1.length b → yBok f C C.length (yBs f L2 L1.length b) := by
  intro L2
  induction L2 with
  | nil => intro L1 b hC hb; rw [hC, List.append_nil]; rw [hC, List.append_nil] at hb; exact hb
  | cons c L2 ih =>
    intro L1 b hC hb
    have ih := ih (L1 ++ [c])
    rw [show (L1 ++ [c]).length = L1.length + 1 by simp] at ih
    have hc : C[L1.length]? = some c := by rw [hC]; exact yat
    match b, hb with
    | none, hb =>
      unfold yBs
      refine ih _ (by rw [hC]; simp) (fun r hr => ?_)
      split at hr
      · cases hr; exact ⟨Nat.lt_succ_self _, c, hc, by assumption, rfl⟩
      · cases hr
    | some q, hb =>
      unfold yBs
      refine ih _ (by rw [hC]; simp) (fun r hr => ?_)
      split at hr
      · rename_i h9
        cases hr; exact ⟨Nat.lt_succ_self _, c, hc, h9.1, rfl⟩
      · obtain ⟨h1, h2⟩ := hb r hr
        exact ⟨by omega, h2⟩
theorem yBest_ok {f : Int} {C : List yCo} {r : Nat × Int} (h : yBest f C = some r) : ∃ c L1 L2, C = L1 ++ c :: L2 ∧ L1.length = r.1 ∧ C[r.1]? = some c ∧ c.1 = f ∧ c.2.2.1 = r.2 := by
  obtain ⟨h1, c, h2, h3, h4⟩ := yBs_ok C [] none rfl (fun r h => by cases h) r h
  simp only [List.nil_append] at h2
  have h1 : r.1 < C.length := (List.getElem?_eq_some_iff.mp h2).1
  have e := (List.getElem?_eq_some_iff.mp h2).2
  exact ⟨c, C.take r.1, C.drop (r.1 + 1), by rw [← e, List.getElem_cons_drop, List.take_append_drop], by simp; omega, h2, h3, h4⟩
theorem yBs_some {f : Int} : ∀ (L : List yCo) (j : Nat) (q : Nat × Int), yBs f L j (some q) ≠ none := by
  intro L
  induction L with
  | nil => intro j q; simp [yBs]
  | cons c L ih => intro j q; unfold yBs; split <;> exact ih _ _
theorem yBs_none {f : Int} : ∀ (L : List yCo) (j : Nat), yBs f L j none = none → ySum f L = 0 ∧ yCnt f L = 0 ∧ ∀ c ∈ L, c.1 ≠ f := by
  intro L
  induction L with
  | nil => intro j _; exact ⟨rfl, rfl, fun c h => by cases h⟩
  | cons c L ih =>
    intro j h
    unfold yBs at h
    split at h
    · exact absurd h (yBs_some _ _ _)
    · rename_i hc
      obtain ⟨h1, h2, h3⟩ := ih _ h
      refine ⟨by simp [ySum, hc, h1], by simp [yCnt, hc, h2], fun d hd => ?_⟩
      rcases List.mem_cons.mp hd with rfl | hd
      · exact hc
      · exact h3 d hd
theorem s_X0_firstToEnd_4 {F a : Nat} {f : Int} {M : xMe} {C : List yCo} {Q : Int → xMe → Prop} (hU : yU a M C) (hl : C.length ≤ 30) : ∀ (L2 L1 : List yCo) (k : Nat) (b : Option (Nat × Int)), C = L1 ++ L2 → L2.length < k → yBok f C L1.length b → Q (yBi (yBs f L2 L1.length b)) M → p_X0_firstToEnd_4 F a Q k f (yBi b) (L1.length : Int) M := by
  intro L2
  induction L2 with
  | nil =>
    intro L1 k b hC hk hb hq
    obtain ⟨k, rfl⟩ : ∃ k', k = k' + 1 := ⟨k - 1, by simp at hk; omega⟩
    unfold p_X0_firstToEnd_4
    simp only [hU.1, hC, List.append_nil]
    refine ⟨fun _ => by simpa [yBs] using hq, fun h => absurd h (by omega)⟩
  | cons c L2 ih =>
    intro L1 k b hC hk hb hq
    obtain ⟨k, rfl⟩ : ∃ k', k = k' + 1 := ⟨k - 1, by omega⟩
    have hcc : C[L1.length]? = some c := by rw [hC]; exact yat
    obtain ⟨e1, e2, e3, -⟩ := hU.2 L1.length c hcc
    have hl2 : C.length = L1.length + (L2.length + 1) := by rw [hC]; simp
    have ih := fun b => ih (L1 ++ [c]) k b (by rw [hC]; simp) (by simp at hk; omega)
    rw [show (((L1 ++ [c]).length : Nat) : Int) = (L1.length : Int) + 1 by simp, show (L1 ++ [c]).length = L1.length + 1 by simp] at ih
    have hup : ∀ b, yBok f C L1.length b → yBok f C (L1.length + 1) b := fun b h r hr => ⟨by have := (h r hr).1; omega, (h r hr).2⟩
    have hnew : c.1 = f → yBok f C (L1.length + 1) (some (L1.length, c.2.2.1)) := fun hf r hr => by cases hr; exact ⟨Nat.lt_succ_self _, c, hcc, hf, rfl⟩
    unfold p_X0_firstToEnd_4
    simp only [hU.1, hl2, Int.toNat_natCast, e1, e3, xR]
    refine ⟨fun h => absurd h (by omega), fun _ => ⟨⟨by omega, by omega⟩, fun hne => ⟨⟨by omega, by omega⟩, ih b (hup b hb) ?_⟩, fun he => ?_⟩⟩
    · match b with
      | none => simpa [yBs, hne] using hq
      | some q => simpa [yBs, hne] using hq
    · match b, hb, hq with
      | none, hb, hq =>
        refine ⟨fun _ => ⟨⟨by omega, by omega⟩, ih (some (L1.length, c.2.2.1)) (hnew he) (by simpa [yBs, he] using hq)⟩, fun h => absurd h (by decide)⟩
      | some q, hb, hq =>
        obtain ⟨h1, c', h2, h3, h4⟩ := hb q rfl
        obtain ⟨-, -, g3, -⟩ := hU.2 q.1 c' h2
        have g : M (a + 3) (yBi (some q)).toNat = q.2 := by rw [show (yBi (some q)).toNat = q.1 from Int.toNat_natCast _, g3, h4]
        rw [g]
        refine ⟨fun h => absurd h (by simp [yBi]), fun _ => ⟨⟨by omega, by omega⟩, ⟨by simp [yBi], by simp [yBi]; omega⟩, fun hle => ⟨⟨by omega, by omega⟩, ih (some q) (hup _ hb) (by simpa [yBs, he, Int.not_lt.mpr hle] using hq)⟩, fun hlt => ⟨⟨by omega, by omega⟩, ih (some (L1.length, c.2.2.1)) (hnew he) (by simpa [yBs, he, hlt] using hq)⟩⟩⟩
theorem s_X0_firstToEnd {F a : Nat} {f : Int} {M : xMe} {C : List yCo} {Q : Int → xMe → Prop} (hU : yU a M C) (hl : C.length ≤ 30) (hF : 40 ≤ F) (hq : Q (yBi (yBest f C)) M) : p_X0_firstToEnd F a f M Q :=
  s_X0_firstToEnd_4 hU hl C [] F none rfl (by omega) (fun r h => by cases h) hq
def ySp (f : Int) : Nat → Int → List yCo → List yCo
  | 0, _, C => C
  | n + 1, amt, C => if amt ≤ 0 then C else match yBest f C with
    | none => C
    | some r => match C[r.1]? with
      | none => C
      | some c => if c.2.1 ≤ amt then ySp f n (amt - c.2.1) (C.eraseIdx r.1) else C.set r.1 (c.1, c.2.1 - amt, c.2.2)
theorem yer {α : Type} {L1 L2 : List α} {c : α} : (L1 ++ c :: L2).eraseIdx L1.length = L1 ++ L2 := by
  rw [List.eraseIdx_append_of_length_le (Nat.le_refl _)]; simp
theorem yset {α : Type} {L1 L2 : List α} {c d : α} : (L1 ++ c :: L2).set L1.length d = L1 ++ d :: L2 := by simp
theorem s_X0_spend_5 {F a : Nat} {f : Int} {Q : xMe → Prop} (hF : 40 ≤ F) : ∀ (n : Nat) (k : Nat) (amt : Int) (C : List yCo) (M : xMe), n < k → n ≤ 30 → (0 ≤ amt ∧ amt ≤ 100000) → yU a M C → yCv C → (∀ M', yU a M' (ySp f n amt C) → (∀ b, b < a ∨ a + 5 ≤ b → M' b = M b) → Q M') → p_X0_spend_5 F a Q k f amt (30 - n : Int) M := by
  intro n
  induction n with
  | zero =>
    intro k amt C M hk hn ha hU hv hq
    obtain ⟨k, rfl⟩ : ∃ k', k = k' + 1 := ⟨k - 1, by omega⟩
    unfold p_X0_spend_5
    exact ⟨fun _ => hq M hU (fun _ _ => rfl), fun h => absurd h (by omega)⟩
  | succ n ih =>
    intro k amt C M hk hn ha hU hv hq
    obtain ⟨k, rfl⟩ : ∃ k', k = k' + 1 := ⟨k - 1, by omega⟩
    unfold ySp at hq
    unfold p_X0_spend_5
    refine ⟨fun h => absurd h (by omega), fun _ => ⟨fun h0 => ?_, fun h0 => s_X0_firstToEnd hU hv.1 hF ?_⟩⟩
    · rw [if_pos h0] at hq; exact hq M hU (fun _ _ => rfl)
    · rw [if_neg (by omega)] at hq
      cases hb : yBest f C with
      | none =>
        rw [hb] at hq
        exact ⟨fun h => absurd h (by decide), fun _ => hq M hU (fun _ _ => rfl)⟩
      | some r =>
        rw [hb] at hq
        obtain ⟨c, L1, L2, rfl, hr, hc, hf, he⟩ := yBest_ok hb
        simp only [hc] at hq
        obtain ⟨v1, v2, v3⟩ := yCv_t hv
        obtain ⟨-, e2, -, -⟩ := hU.2 r.1 c hc
        rw [← hr] at hq e2
        rw [yer, yset] at hq
        have hll : L1.length + L2.length < 30 := by have := hv.1; simp at this; omega
        rw [show yBi (some r) = (L1.length : Int) by rw [hr]; rfl]
        simp only [Int.toNat_natCast, e2, xR]
        refine ⟨fun _ => ⟨⟨by omega, by omega⟩, fun hle => ⟨⟨by omega, by omega⟩, ⟨by omega, by omega⟩, fun z ez => s_X0_removeAt hU hll hF (fun M1 h1 h2 => ⟨⟨by omega, by omega⟩, ?_⟩)⟩, fun hlt => ⟨⟨by omega, by omega⟩, ⟨by omega, by omega⟩, ⟨by omega, by omega⟩, fun M1 e1 => ?_⟩⟩, fun h => absurd h (by omega)⟩
        · rw [if_pos hle] at hq
          rw [show (30 - ((n + 1 : Nat) : Int) + 1) = 30 - (n : Int) by omega, ez]
          exact ih k _ _ M1 (by omega) (by omega) (by omega) h1 ⟨by simp; omega, fun d hd => hv.2 d (by simp at hd ⊢; rcases hd with hd | hd <;> simp [hd])⟩ (fun M' g1 g2 => hq M' g1 (fun b hb => (g2 b hb).trans (h2 b hb)))
        · rw [if_neg (by omega)] at hq
          refine hq M1 ?_ (fun b hb => by rw [e1, xw_B (by omega)])
          rw [yU_r] at hU ⊢
          rw [yUr_app, yUr_cons] at hU ⊢
          obtain ⟨g1, g2, ⟨g3, g4, g5, g6⟩, g7⟩ := hU
          simp only [Nat.zero_add] at g2 g3 g4 g5 g6 g7 ⊢
          rw [e1]
          refine ⟨by rw [xw_b (by omega), g1]; simp, yUr_o g2 (fun o q1 q2 i q3 q4 => xw_j (by omega)), ⟨?_, ?_, ?_, ?_⟩, yUr_o g7 (fun o q1 q2 i q3 q4 => xw_j (by omega))⟩
          · rw [xw_b (by omega)]; exact g3
          · rw [xw_s]
          · rw [xw_b (by omega)]; exact g5
          · rw [xw_b (by omega)]; exact g6
theorem s_X0_spend {F a : Nat} {f amt : Int} {M : xMe} {C : List yCo} {Q : xMe → Prop} (hU : yU a M C) (hv : yCv C) (hF : 40 ≤ F) (ha : 0 ≤ amt ∧ amt ≤ 100000) (hq : ∀ M', yU a M' (ySp f 30 amt C) → (∀ b, b < a ∨ a + 5 ≤ b → M' b = M b) → Q M') : p_X0_spend F a f amt M Q :=
  s_X0_spend_5 hF 30 F amt C M (by omega) (by omega) ha hU hv hq
theorem ySum_app {f : Int} {L1 L2 : List yCo} : ySum f (L1 ++ L2) = ySum f L1 + ySum f L2 := by
  induction L1 with
  | nil => simp [ySum]
  | cons c L1 ih => simp [ySum, ih, Int.add_assoc]
theorem yV_set {b : Nat} {M M' : xMe} {L1 L2 : List yCo} {c : yCo} {v : Int} (h : yV b M (L1 ++ c :: L2)) (e : M' = xw M b (442 + 4 * L1.length) v) : yV b M' (L1 ++ (c.1, v, c.2.2) :: L2) := by
  subst e
  refine ⟨by rw [xw_j (by omega), h.1]; simp, fun i w hw => ?_⟩
  by_cases hi : i = L1.length
  · subst hi
    rw [yat] at hw
    cases hw
    obtain ⟨h1, h2, h3, h4⟩ := h.2 _ c yat
    simp (disch := omega) only [xw_j, xw_s]
    exact ⟨h1, trivial, h3, h4⟩
  · have : (L1 ++ c :: L2)[i]? = some w := by
      rw [← hw, List.getElem?_append, List.getElem?_append]
      split
      · rfl
      · rw [show i - L1.length = (i - L1.length - 1) + 1 by omega, List.getElem?_cons_succ, List.getElem?_cons_succ]
    obtain ⟨h1, h2, h3, h4⟩ := h.2 _ w this
    simp (disch := omega) only [xw_j]
    exact ⟨h1, h2, h3, h4⟩
