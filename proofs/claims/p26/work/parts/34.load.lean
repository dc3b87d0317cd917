/-! LOADS -/
def yLd (b g f T : Int) : List yPa → Int
  | [] => 0
  | v :: P => (if v.2.1 = g ∧ v.2.2.1 = f ∧ b ≤ v.1 ∧ v.1 < b + T then v.2.2.2.1 - v.2.2.2.2 else 0) + yLd b g f T P
def yPv (P : List yPa) : Prop := ∀ v ∈ P, 0 ≤ v.1 ∧ v.1 ≤ 20000 ∧ 0 ≤ v.2.2.2.1 - v.2.2.2.2 ∧ v.2.2.2.1 - v.2.2.2.2 ≤ 999 ∧ xR v.2.2.2.1 ∧ xR v.2.2.2.2
theorem yLd_app {b g f T : Int} {P1 P2 : List yPa} : yLd b g f T (P1 ++ P2) = yLd b g f T P1 + yLd b g f T P2 := by
  induction P1 with
  | nil => simp [yLd]
  | cons v P ih => simp only [List.cons_append, yLd, ih, Int.add_assoc]
theorem yLd_ge {b g f T : Int} {P : List yPa} (h : yPv P) : 0 ≤ yLd b g f T P ∧ yLd b g f T P ≤ 999 * P.length := by
  induction P with
  | nil => simp [yLd]
  | cons v P ih =>
    have h1 := h v List.mem_cons_self
    have h2 := ih (fun v hv => h v (List.mem_cons_of_mem _ hv))
    unfold yLd
    simp only [List.length_cons]
    split <;> omega
theorem yLd_mono {b c g f T : Int} {P : List yPa} (h : yPv P) (hbc : ∀ v ∈ P, v.2.1 = g → v.2.2.1 = f → b ≤ v.1 → v.1 < b + T → c ≤ v.1 ∧ v.1 < c + T) : yLd b g f T P ≤ yLd c g f T P := by
  induction P with
  | nil => simp [yLd]
  | cons v P ih =>
    have h1 := h v List.mem_cons_self
    have h2 := ih (fun v hv => h v (List.mem_cons_of_mem _ hv)) (fun v hv => hbc v (List.mem_cons_of_mem _ hv))
    have h3 := hbc v List.mem_cons_self
    unfold yLd
    split
    · rename_i e
      rw [if_pos ⟨e.1, e.2.1, (h3 e.1 e.2.1 e.2.2.1 e.2.2.2).1, (h3 e.1 e.2.1 e.2.2.1 e.2.2.2).2⟩]; omega
    · split <;> omega
theorem yLd_first {b g f T : Int} (P : List yPa) : yLd b g f T P = 0 ∨ ∃ w ∈ P, w.2.1 = g ∧ w.2.2.1 = f ∧ b ≤ w.1 ∧ w.1 < b + T ∧ ∀ v ∈ P, v.2.1 = g → v.2.2.1 = f → b ≤ v.1 → v.1 < b + T → w.1 ≤ v.1 := by
  induction P with
  | nil => left; rfl
  | cons v P ih =>
    by_cases e : v.2.1 = g ∧ v.2.2.1 = f ∧ b ≤ v.1 ∧ v.1 < b + T
    · right
      rcases ih with h | ⟨w, hw, w1, w2, w3, w4, w5⟩
      · by_cases q : ∃ w ∈ P, w.2.1 = g ∧ w.2.2.1 = f ∧ b ≤ w.1 ∧ w.1 < b + T ∧ w.1 < v.1 ∧ ∀ u ∈ P, u.2.1 = g → u.2.2.1 = f → b ≤ u.1 → u.1 < b + T → w.1 ≤ u.1
        · obtain ⟨w, hw, w1, w2, w3, w4, w5, w6⟩ := q
          refine ⟨w, List.mem_cons_of_mem _ hw, w1, w2, w3, w4, fun u hu u1 u2 u3 u4 => ?_⟩
          rcases List.mem_cons.mp hu with rfl | hu
          · omega
          · exact w6 u hu u1 u2 u3 u4
        · have hmin : ∀ (L : List yPa), (∀ u ∈ L, u ∈ P) → (∀ u ∈ L, u.2.1 = g → u.2.2.1 = f → b ≤ u.1 → u.1 < b + T → v.1 ≤ u.1) ∨ ∃ w ∈ L, w.2.1 = g ∧ w.2.2.1 = f ∧ b ≤ w.1 ∧ w.1 < b + T ∧ w.1 < v.1 ∧ ∀ u ∈ L, u.2.1 = g → u.2.2.1 = f → b ≤ u.1 → u.1 < b + T → w.1 ≤ u.1 := by
            intro L
            induction L with
            | nil => intro _; left; intro u hu; cases hu
            | cons x L ihL =>
              intro hL
              have ihL := ihL (fun u hu => hL u (List.mem_cons_of_mem _ hu))
              by_cases ex : x.2.1 = g ∧ x.2.2.1 = f ∧ b ≤ x.1 ∧ x.1 < b + T ∧ x.1 < v.1
              · right
                rcases ihL with h9 | ⟨w, hw, w1, w2, w3, w4, w5, w6⟩
                · refine ⟨x, List.mem_cons_self, ex.1, ex.2.1, ex.2.2.1, ex.2.2.2.1, ex.2.2.2.2, fun u hu u1 u2 u3 u4 => ?_⟩
                  rcases List.mem_cons.mp hu with rfl | hu
                  · omega
                  · have := h9 u hu u1 u2 u3 u4; omega
                · by_cases lx : x.1 ≤ w.1
                  · refine ⟨x, List.mem_cons_self, ex.1, ex.2.1, ex.2.2.1, ex.2.2.2.1, ex.2.2.2.2, fun u hu u1 u2 u3 u4 => ?_⟩
                    rcases List.mem_cons.mp hu with rfl | hu
                    · omega
                    · have := w6 u hu u1 u2 u3 u4; omega
                  · refine ⟨w, List.mem_cons_of_mem _ hw, w1, w2, w3, w4, w5, fun u hu u1 u2 u3 u4 => ?_⟩
                    rcases List.mem_cons.mp hu with rfl | hu
                    · omega
                    · exact w6 u hu u1 u2 u3 u4
              · rcases ihL with h9 | ⟨w, hw, w1, w2, w3, w4, w5, w6⟩
                · left
                  intro u hu u1 u2 u3 u4
                  rcases List.mem_cons.mp hu with rfl | hu
                  · omega
                  · exact h9 u hu u1 u2 u3 u4
                · right
                  refine ⟨w, List.mem_cons_of_mem _ hw, w1, w2, w3, w4, w5, fun u hu u1 u2 u3 u4 => ?_⟩
                  rcases List.mem_cons.mp hu with rfl | hu
                  · omega
                  · exact w6 u hu u1 u2 u3 u4
          rcases hmin P (fun u h => h) with h9 | h9
          · refine ⟨v, List.mem_cons_self, e.1, e.2.1, e.2.2.1, e.2.2.2, fun u hu u1 u2 u3 u4 => ?_⟩
            rcases List.mem_cons.mp hu with rfl | hu
            · omega
            · exact h9 u hu u1 u2 u3 u4
          · exact absurd h9 q
      · by_cases lx : v.1 ≤ w.1
        · refine ⟨v, List.mem_cons_self, e.1, e.2.1, e.2.2.1, e.2.2.2, fun u hu u1 u2 u3 u4 => ?_⟩
          rcases List.mem_cons.mp hu with rfl | hu
          · omega
          · have := w5 u hu u1 u2 u3 u4; omega
        · refine ⟨w, List.mem_cons_of_mem _ hw, w1, w2, w3, w4, fun u hu u1 u2 u3 u4 => ?_⟩
          rcases List.mem_cons.mp hu with rfl | hu
          · omega
          · exact w5 u hu u1 u2 u3 u4
    · rcases ih with h | ⟨w, hw, w1, w2, w3, w4, w5⟩
      · left; unfold yLd; rw [if_neg e, h]; rfl
      · right
        refine ⟨w, List.mem_cons_of_mem _ hw, w1, w2, w3, w4, fun u hu u1 u2 u3 u4 => ?_⟩
        rcases List.mem_cons.mp hu with rfl | hu
        · exact absurd ⟨u1, u2, u3, u4⟩ e
        · exact w5 u hu u1 u2 u3 u4
/-- the class's: over all begins -/
def yGa (g f T : Int) (P : List yPa) : List yPa → Int → Int
  | [], m => m
  | v :: L, m => yGa g f T P L (max m (yLd v.1 g f T P))
/-- the model's: over those of the pair -/
def yGb (g f T : Int) (P : List yPa) : List yPa → Int → Int
  | [], m => m
  | v :: L, m => yGb g f T P L (if v.2.1 = g ∧ v.2.2.1 = f then max m (yLd v.1 g f T P) else m)
theorem yGa_ge {g f T : Int} {P : List yPa} : ∀ (L : List yPa) (m : Int), m ≤ yGa g f T P L m ∧ ∀ v ∈ L, yLd v.1 g f T P ≤ yGa g f T P L m
  | [], m => ⟨Int.le_refl _, fun v h => by cases h⟩
  | v :: L, m => by
    obtain ⟨h1, h2⟩ := yGa_ge (g := g) (f := f) (T := T) (P := P) L (max m (yLd v.1 g f T P))
    unfold yGa
    refine ⟨by omega, fun u hu => ?_⟩
    rcases List.mem_cons.mp hu with rfl | hu
    · omega
    · exact h2 u hu
theorem yGa_le {g f T b : Int} {P : List yPa} : ∀ (L : List yPa) (m : Int), m ≤ b → (∀ v ∈ L, yLd v.1 g f T P ≤ b) → yGa g f T P L m ≤ b
  | [], m, h, _ => h
  | v :: L, m, h, hv => by
    unfold yGa
    exact yGa_le L _ (by have := hv v List.mem_cons_self; omega) (fun u hu => hv u (List.mem_cons_of_mem _ hu))
theorem yGb_ge {g f T : Int} {P : List yPa} : ∀ (L : List yPa) (m : Int), m ≤ yGb g f T P L m ∧ ∀ v ∈ L, v.2.1 = g → v.2.2.1 = f → yLd v.1 g f T P ≤ yGb g f T P L m
  | [], m => ⟨Int.le_refl _, fun v h => by cases h⟩
  | v :: L, m => by
    obtain ⟨h1, h2⟩ := yGb_ge (g := g) (f := f) (T := T) (P := P) L (if v.2.1 = g ∧ v.2.2.1 = f then max m (yLd v.1 g f T P) else m)
    unfold yGb
    refine ⟨Int.le_trans (by split <;> omega) h1, fun u hu u1 u2 => ?_⟩
    rcases List.mem_cons.mp hu with rfl | hu
    · rw [if_pos ⟨u1, u2⟩] at h1 ⊢; omega
    · exact h2 u hu u1 u2
theorem yGb_le {g f T b : Int} {P : List yPa} : ∀ (L : List yPa) (m : Int), m ≤ b → (∀ v ∈ L, v.2.1 = g → v.2.2.1 = f → yLd v.1 g f T P ≤ b) → yGb g f T P L m ≤ b
  | [], m, h, _ => h
  | v :: L, m, h, hv => by
    unfold yGb
    refine yGb_le L _ ?_ (fun u hu => hv u (List.mem_cons_of_mem _ hu))
    split
    · rename_i e
      have := hv v List.mem_cons_self e.1 e.2; omega
    · exact h
theorem yG_eq {g f T : Int} {R P : List yPa} (hP : yPv P) (hm : ∀ v, v ∈ R ↔ v ∈ P) (hl : ∀ b, yLd b g f T R = yLd b g f T P) : yGa g f T R R 0 = yGb g f T P P 0 := by
  apply Int.le_antisymm
  · refine yGa_le R 0 (yGb_ge P 0).1 (fun v hv => ?_)
    rw [hl]
    rcases yLd_first (b := v.1) (g := g) (f := f) (T := T) P with h | ⟨w, hw, w1, w2, w3, w4, w5⟩
    · rw [h]; exact (yGb_ge P 0).1
    · refine Int.le_trans ?_ ((yGb_ge P 0).2 w hw w1 w2)
      exact yLd_mono hP (fun u hu u1 u2 u3 u4 => ⟨w5 u hu u1 u2 u3 u4, by omega⟩)
  · refine yGb_le P 0 (yGa_ge R 0).1 (fun v hv _ _ => ?_)
    rw [← hl]
    exact (yGa_ge R 0).2 v ((hm v).mpr hv)
theorem yY_at {a : Nat} {M : xMe} {P L1 L2 : List yPa} {c : yPa} (hY : yY (a + 2) M P) (hC : P = L1 ++ c :: L2) {j : Int} (hj : j = (L1.length : Int)) : M (a + 2) (705 + 5 * j + 0).toNat = c.1 ∧ M (a + 2) (705 + 5 * j + 1).toNat = c.2.1 ∧ M (a + 2) (705 + 5 * j + 2).toNat = c.2.2.1 ∧ M (a + 2) (705 + 5 * j + 3).toNat = c.2.2.2.1 ∧ M (a + 2) (705 + 5 * j + 4).toNat = c.2.2.2.2 := by
  subst hj
  have := hY.2 L1.length c (by rw [hC]; exact yat)
  rw [show (705 + 5 * (L1.length : Int) + 0).toNat = 705 + 5 * L1.length by omega, show (705 + 5 * (L1.length : Int) + 1).toNat = 706 + 5 * L1.length by omega, show (705 + 5 * (L1.length : Int) + 2).toNat = 707 + 5 * L1.length by omega, show (705 + 5 * (L1.length : Int) + 3).toNat = 708 + 5 * L1.length by omega, show (705 + 5 * (L1.length : Int) + 4).toNat = 709 + 5 * L1.length by omega]
  exact this
