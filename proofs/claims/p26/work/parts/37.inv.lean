/-! BOTH SIDES' RELATIONS; what always holds -/
theorem yl2 {A : yA} {i : Int} (h0 : 0 ≤ i) (h1 : i < yS A 1) : yL A 2 i (15 + 3 * i) := ⟨h0, h1, rfl⟩
theorem yl3 {A : yA} {i : Int} (h0 : 0 ≤ i) (h1 : i < yS A 1) : yL A 3 i (16 + 3 * i) := ⟨h0, h1, rfl⟩
theorem yl4 {A : yA} {i : Int} (h0 : 0 ≤ i) (h1 : i < yS A 1) : yL A 4 i (17 + 3 * i) := ⟨h0, h1, rfl⟩
theorem yl7 {A : yA} {i : Int} (h0 : 0 ≤ i) (h1 : i < yS A 2) : yL A 7 i (33 + 8 * i) := ⟨h0, h1, rfl⟩
theorem yl8 {A : yA} {i : Int} (h0 : 0 ≤ i) (h1 : i < yS A 2) : yL A 8 i (34 + 8 * i) := ⟨h0, h1, rfl⟩
theorem yl9 {A : yA} {i : Int} (h0 : 0 ≤ i) (h1 : i < yS A 2) : yL A 9 i (35 + 8 * i) := ⟨h0, h1, rfl⟩
theorem yl17 {A : yA} {i : Int} (h0 : 0 ≤ i) (h1 : i < yS A 3) : yL A 17 i (81 + 9 * i) := ⟨h0, h1, rfl⟩
theorem yl18 {A : yA} {i : Int} (h0 : 0 ≤ i) (h1 : i < yS A 3) : yL A 18 i (82 + 9 * i) := ⟨h0, h1, rfl⟩
theorem yl19 {A : yA} {i : Int} (h0 : 0 ≤ i) (h1 : i < yS A 3) : yL A 19 i (83 + 9 * i) := ⟨h0, h1, rfl⟩
theorem yl20 {A : yA} {i : Int} (h0 : 0 ≤ i) (h1 : i < yS A 3) : yL A 20 i (84 + 9 * i) := ⟨h0, h1, rfl⟩
theorem yl21 {A : yA} {i : Int} (h0 : 0 ≤ i) (h1 : i < yS A 3) : yL A 21 i (85 + 9 * i) := ⟨h0, h1, rfl⟩
theorem yl22 {A : yA} {i : Int} (h0 : 0 ≤ i) (h1 : i < yS A 3) : yL A 22 i (88 + 9 * i) := ⟨h0, h1, rfl⟩
theorem yl23 {A : yA} {i : Int} (h0 : 0 ≤ i) (h1 : i < yS A 3) : yL A 23 i (86 + 9 * i) := ⟨h0, h1, rfl⟩
theorem yl24 {A : yA} {i : Int} (h0 : 0 ≤ i) (h1 : i < yS A 3) : yL A 24 i (87 + 9 * i) := ⟨h0, h1, rfl⟩
theorem yl6 {A : yA} {f j : Int} (h0 : 0 ≤ f) (h1 : f < yS A 2) (h2 : 0 ≤ j) (h3 : j < yS A (33 + 8 * f)) (h4 : j < 4) : yL A 6 (f * 4 + j) (37 + 8 * f + j) := ⟨f, j, h0, h1, h2, h3, h4, rfl, rfl⟩
theorem yl11 {A : yA} {g f : Int} (h0 : 0 ≤ g) (h1 : g < yS A 1) (h2 : 0 ≤ f) (h3 : f < yS A 2) : yL A 11 (g * 6 + f) (561 + 4 * (6 * g + f)) := ⟨g, f, h0, h1, h2, h3, rfl, rfl⟩
theorem yl0_7 {A : yA} : yL A 0 7 0 := by simp [yL]
theorem yl0_8 {A : yA} : yL A 0 8 9 := by simp [yL]
theorem yl0_9 {A : yA} : yL A 0 9 10 := by simp [yL]
theorem yl0_10 {A : yA} : yL A 0 10 11 := by simp [yL]
theorem yl0_11 {A : yA} : yL A 0 11 7 := by simp [yL]
theorem yl0_12 {A : yA} : yL A 0 12 8 := by simp [yL]
theorem yl1 {A : yA} : yL A 1 3 1 := ⟨rfl, rfl⟩
theorem yl5 {A : yA} : yL A 5 4 2 := ⟨rfl, rfl⟩
theorem yl16 {A : yA} : yL A 16 8 3 := ⟨rfl, rfl⟩
section YRD
variable {w : Nat} {M : xMe} {A : yA}
theorem yr0_7 (h : yR w M A) : M w 7 = yS A 0 := h 0 7 0 yl0_7
theorem yr0_8 (h : yR w M A) : M w 8 = yS A 9 := h 0 8 9 yl0_8
theorem yr0_9 (h : yR w M A) : M w 9 = yS A 10 := h 0 9 10 yl0_9
theorem yr0_10 (h : yR w M A) : M w 10 = yS A 11 := h 0 10 11 yl0_10
theorem yr0_11 (h : yR w M A) : M w 11 = yS A 7 := h 0 11 7 yl0_11
theorem yr0_12 (h : yR w M A) : M w 12 = yS A 8 := h 0 12 8 yl0_12
theorem yr1 (h : yR w M A) : M (w + 1) 3 = yS A 1 := h 1 3 1 yl1
theorem yr5 (h : yR w M A) : M (w + 5) 4 = yS A 2 := h 5 4 2 yl5
theorem yr16 (h : yR w M A) : M (w + 16) 8 = yS A 3 := h 16 8 3 yl16
theorem yr2 {i : Int} (h : yR w M A) (h0 : 0 ≤ i) (h1 : i < yS A 1) : M (w + 2) i.toNat = yS A (15 + 3 * i) := h _ _ _ (yl2 h0 h1)
theorem yr3 {i : Int} (h : yR w M A) (h0 : 0 ≤ i) (h1 : i < yS A 1) : M (w + 3) i.toNat = yS A (16 + 3 * i) := h _ _ _ (yl3 h0 h1)
theorem yr4 {i : Int} (h : yR w M A) (h0 : 0 ≤ i) (h1 : i < yS A 1) : M (w + 4) i.toNat = yS A (17 + 3 * i) := h _ _ _ (yl4 h0 h1)
theorem yr7 {i : Int} (h : yR w M A) (h0 : 0 ≤ i) (h1 : i < yS A 2) : M (w + 7) i.toNat = yS A (33 + 8 * i) := h _ _ _ (yl7 h0 h1)
theorem yr8 {i : Int} (h : yR w M A) (h0 : 0 ≤ i) (h1 : i < yS A 2) : M (w + 8) i.toNat = yS A (34 + 8 * i) := h _ _ _ (yl8 h0 h1)
theorem yr9 {i : Int} (h : yR w M A) (h0 : 0 ≤ i) (h1 : i < yS A 2) : M (w + 9) i.toNat = yS A (35 + 8 * i) := h _ _ _ (yl9 h0 h1)
theorem yr17 {i : Int} (h : yR w M A) (h0 : 0 ≤ i) (h1 : i < yS A 3) : M (w + 17) i.toNat = yS A (81 + 9 * i) := h _ _ _ (yl17 h0 h1)
theorem yr18 {i : Int} (h : yR w M A) (h0 : 0 ≤ i) (h1 : i < yS A 3) : M (w + 18) i.toNat = yS A (82 + 9 * i) := h _ _ _ (yl18 h0 h1)
theorem yr19 {i : Int} (h : yR w M A) (h0 : 0 ≤ i) (h1 : i < yS A 3) : M (w + 19) i.toNat = yS A (83 + 9 * i) := h _ _ _ (yl19 h0 h1)
theorem yr20 {i : Int} (h : yR w M A) (h0 : 0 ≤ i) (h1 : i < yS A 3) : M (w + 20) i.toNat = yS A (84 + 9 * i) := h _ _ _ (yl20 h0 h1)
theorem yr21 {i : Int} (h : yR w M A) (h0 : 0 ≤ i) (h1 : i < yS A 3) : M (w + 21) i.toNat = yS A (85 + 9 * i) := h _ _ _ (yl21 h0 h1)
theorem yr22 {i : Int} (h : yR w M A) (h0 : 0 ≤ i) (h1 : i < yS A 3) : M (w + 22) i.toNat = yS A (88 + 9 * i) := h _ _ _ (yl22 h0 h1)
theorem yr23 {i : Int} (h : yR w M A) (h0 : 0 ≤ i) (h1 : i < yS A 3) : M (w + 23) i.toNat = yS A (86 + 9 * i) := h _ _ _ (yl23 h0 h1)
theorem yr24 {i : Int} (h : yR w M A) (h0 : 0 ≤ i) (h1 : i < yS A 3) : M (w + 24) i.toNat = yS A (87 + 9 * i) := h _ _ _ (yl24 h0 h1)
theorem yr6 {f j : Int} (h : yR w M A) (h0 : 0 ≤ f) (h1 : f < yS A 2) (h2 : 0 ≤ j) (h3 : j < yS A (33 + 8 * f)) (h4 : j < 4) : M (w + 6) (f * 4 + j).toNat = yS A (37 + 8 * f + j) := h _ _ _ (yl6 h0 h1 h2 h3 h4)
theorem yr11 {g f : Int} (h : yR w M A) (h0 : 0 ≤ g) (h1 : g < yS A 1) (h2 : 0 ≤ f) (h3 : f < yS A 2) : M (w + 11) (g * 6 + f).toNat = yS A (561 + 4 * (6 * g + f)) := h _ _ _ (yl11 h0 h1 h2 h3)
end YRD
/-- the World at w holds A (but for the price) -/
def yCR (w : Nat) (M : xMe) (A : yA) : Prop := yR w M A ∧ yU (w + 25) M (yC A) ∧ yX (w + 30) M (yP A) ∧ yQc w M (yQ A)
/-- the row at b holds A -/
def yDR (b : Nat) (M : xMe) (A : yA) : Prop := yD b M (yS A) ∧ yV b M (yC A) ∧ yY b M (yP A) ∧ yQd b M (yQ A) ∧ yPr b M (yK A)
/-- sums over packets -/
def ySp2 (h : Int → Int) : Nat → Int
  | 0 => 0
  | n + 1 => ySp2 h n + h n
theorem ySp2_eq {h h' : Int → Int} : ∀ {n : Nat}, (∀ p : Int, 0 ≤ p → p < n → h' p = h p) → ySp2 h' n = ySp2 h n
  | 0, _ => rfl
  | n + 1, e => by
    unfold ySp2
    rw [ySp2_eq (fun p a b => e p a (by omega)), e n (by omega) (by omega)]
theorem ySp2_up {h h' : Int → Int} {p : Int} : ∀ {n : Nat}, 0 ≤ p → p < n → (∀ r : Int, r ≠ p → h' r = h r) → ySp2 h' n = ySp2 h n + (h' p - h p)
  | 0, a, b, _ => by omega
  | n + 1, a, b, e => by
    unfold ySp2
    by_cases q : p = n
    · subst q
      rw [ySp2_eq (fun r a b => e r (by omega))]; omega
    · rw [ySp2_up a (by omega) e, e n (by omega)]; omega
theorem ySp2_ge {h : Int → Int} {b : Int} : ∀ {n : Nat}, (∀ p : Int, 0 ≤ p → p < n → 0 ≤ h p ∧ h p ≤ b) → 0 ≤ ySp2 h n ∧ ySp2 h n ≤ b * n
  | 0, _ => by simp [ySp2]
  | n + 1, e => by
    have h1 := ySp2_ge (fun p a b => e p a (by omega)) (n := n)
    have h2 := e n (by omega) (by omega)
    unfold ySp2
    rw [show b * ((n + 1 : Nat) : Int) = b * n + b by rw [show ((n + 1 : Nat) : Int) = (n : Int) + 1 by omega, Int.mul_add, Int.mul_one]]
    omega
/-- numbers that ticks leave -/
def yStat (k : Int) : Prop := (1 ≤ k ∧ k ≤ 3) ∨ (9 ≤ k ∧ k ≤ 13 ∧ k ≠ 12) ∨ (15 ≤ k ∧ k < 33) ∨ (33 ≤ k ∧ k < 81 ∧ (k - 33) % 8 ≠ 2 ∧ (k - 33) % 8 ≠ 3) ∨ (81 ≤ k ∧ k < 441 ∧ (k - 81) % 9 < 3)
def ySt (A B : yA) : Prop := (∀ k, yStat k → yS B k = yS A k) ∧ yK B = yK A
theorem ySt_refl (A : yA) : ySt A A := ⟨fun _ _ => rfl, rfl⟩
theorem ySt_trans {A B C : yA} (h : ySt A B) (g : ySt B C) : ySt A C := ⟨fun k hk => (g.1 k hk).trans (h.1 k hk), g.2.trans h.2⟩
theorem ySt_w {A : yA} {k v : Int} (hk : ¬ yStat k) : ySt A (yw A k v) := ⟨fun j hj => yup_n (fun e => hk (e ▸ hj)), rfl⟩
/-- what stays: the gates, the flows, the packets' own, the price -/
def yI1 (A : yA) : Prop := yN A ∧ (∀ g, 0 ≤ g → g < yS A 1 → 0 ≤ yS A (15 + 3 * g) ∧ yS A (15 + 3 * g) ≤ 99 ∧ 1 ≤ yS A (16 + 3 * g) ∧ yS A (16 + 3 * g) ≤ 999 ∧ 1 ≤ yS A (17 + 3 * g) ∧ yS A (17 + 3 * g) ≤ 20) ∧
  (∀ f, 0 ≤ f → f < yS A 2 → 1 ≤ yS A (33 + 8 * f) ∧ yS A (33 + 8 * f) ≤ 4 ∧ 0 ≤ yS A (34 + 8 * f) ∧ yS A (34 + 8 * f) ≤ 99 ∧ ∀ j, 0 ≤ j → j < yS A (33 + 8 * f) → 0 ≤ yS A (37 + 8 * f + j) ∧ yS A (37 + 8 * f + j) < yS A 1) ∧
  (∀ p, 0 ≤ p → p < yS A 3 → 0 ≤ yS A (81 + 9 * p) ∧ yS A (81 + 9 * p) < yS A 2 ∧ 0 ≤ yS A (82 + 9 * p) ∧ yS A (82 + 9 * p) ≤ 10000 ∧ 1 ≤ yS A (83 + 9 * p) ∧ yS A (83 + 9 * p) ≤ 999) ∧
  (0 ≤ yS A 9 ∧ yS A 9 ≤ 99 ∧ 0 ≤ yS A 10 ∧ yS A 10 ≤ 100 ∧ 1 ≤ yS A 11 ∧ yS A 11 ≤ 999) ∧ yWf (yK A) 0 ∧ (yK A).length ≤ 1200
theorem yN_st {A B : yA} (h : ySt A B) (g : yN A) : yN B := by
  have h1 := h.1 1 (by unfold yStat; omega)
  have h2 := h.1 2 (by unfold yStat; omega)
  have h3 := h.1 3 (by unfold yStat; omega)
  unfold yN
  rw [h1, h2, h3]; exact g
theorem yI1_st {A B : yA} (h : ySt A B) (g : yI1 A) : yI1 B := by
  obtain ⟨g1, g2, g3, g4, g5, g6, g7⟩ := g
  have hN := g1
  obtain ⟨n1, n2, n3, n4, n5, n6⟩ := g1
  have h1 := h.1 1 (by unfold yStat; omega)
  have h2 := h.1 2 (by unfold yStat; omega)
  have h3 := h.1 3 (by unfold yStat; omega)
  refine ⟨yN_st h hN, fun g a b => ?_, fun f a b => ?_, fun p a b => ?_, ?_, by rw [h.2]; exact g6, by rw [h.2]; exact g7⟩
  · rw [h1] at b
    rw [h.1 (15 + 3 * g) (by unfold yStat; omega), h.1 (16 + 3 * g) (by unfold yStat; omega), h.1 (17 + 3 * g) (by unfold yStat; omega)]
    exact g2 g a b
  · rw [h2] at b
    obtain ⟨q1, q2, q3, q4, q5⟩ := g3 f a b
    rw [h.1 (33 + 8 * f) (by unfold yStat; omega), h.1 (34 + 8 * f) (by unfold yStat; omega)]
    refine ⟨q1, q2, q3, q4, fun j c d => ?_⟩
    rw [h.1 (37 + 8 * f + j) (by unfold yStat; omega), h1]
    exact q5 j c d
  · rw [h3] at b
    rw [h.1 (81 + 9 * p) (by unfold yStat; omega), h.1 (82 + 9 * p) (by unfold yStat; omega), h.1 (83 + 9 * p) (by unfold yStat; omega), h2]
    exact g4 p a b
  · rw [h.1 9 (by unfold yStat; omega), h.1 10 (by unfold yStat; omega), h.1 11 (by unfold yStat; omega)]
    exact g5
/-- the place of the packet's next gate on its flow's way; its slot -/
def yGt (A : yA) (p : Int) : Int := yS A (37 + 8 * yS A (81 + 9 * p) + yS A (85 + 9 * p))
def ySl (A : yA) (p : Int) : Int := 6 * yGt A p + yS A (81 + 9 * p)
/-- the tokens -/
def yI2 (A : yA) : Prop := ∀ g f, 0 ≤ g → g < yS A 1 → 0 ≤ f → f < yS A 2 → 0 ≤ yS A (561 + 4 * (6 * g + f)) ∧ yS A (561 + 4 * (6 * g + f)) ≤ 999
/-- the packets -/
def yI3 (A : yA) : Prop := ∀ p, 0 ≤ p → p < yS A 3 → 0 ≤ yS A (84 + 9 * p) ∧ yS A (84 + 9 * p) ≤ 4 ∧ 0 ≤ yS A (85 + 9 * p) ∧ yS A (85 + 9 * p) ≤ 4 ∧ (yS A (84 + 9 * p) ≤ 2 → yS A (85 + 9 * p) < yS A (33 + 8 * yS A (81 + 9 * p))) ∧ 0 ≤ yS A (86 + 9 * p) ∧ yS A (86 + 9 * p) ≤ 999 * yS A (85 + 9 * p) ∧ -1 ≤ yS A (87 + 9 * p) ∧ yS A (87 + 9 * p) ≤ 20000 ∧ 0 ≤ yS A (88 + 9 * p) ∧ yS A (88 + 9 * p) ≤ yS A 0
/-- the queues -/
def yI4 (A : yA) : Prop := yQok (yQ A) ∧ ∀ s p, p ∈ yQ A s → 0 ≤ p ∧ p < yS A 3 ∧ yS A (84 + 9 * p) = 1 ∧ s = ySl A p ∧ ((yQ A s).length : Int) ≤ yS A (17 + 3 * yGt A p)
/-- the coupons -/
def yI5 (A : yA) : Prop := (yC A).length ≤ 30 ∧ ∀ c ∈ yC A, 0 ≤ c.1 ∧ c.1 < yS A 2 ∧ 1 ≤ c.2.1 ∧ c.2.1 ≤ 9999 ∧ yS A 0 ≤ c.2.2.1 ∧ c.2.2.1 ≤ 40000 ∧ 0 ≤ c.2.2.2 ∧ c.2.2.2 ≤ 2
/-- the passages -/
def yI6 (A : yA) : Prop := (yP A).length ≤ 40 ∧ yPv (yP A)
/-- all passages yet -/
def yTot (A : yA) : Int := ySp2 (fun p => yS A (85 + 9 * p)) (yS A 3).toNat
def yI7 (A : yA) : Prop := (∀ f, 0 ≤ f → f < yS A 2 → 0 ≤ yS A (35 + 8 * f) ∧ yS A (35 + 8 * f) ≤ 9999 * yTot A) ∧ 0 ≤ yS A 8 ∧ yS A 8 ≤ 999 * yTot A ∧ 0 ≤ yS A 7 ∧ yS A 7 ≤ 30 * yS A 0 + 30 ∧ 0 ≤ yS A 0 ∧ yS A 0 ≤ 11000
/-- what has ended: counted -/
def yI8 (A : yA) : Prop := yS A 5 = ySp2 (fun p => if yS A (84 + 9 * p) = 3 then 1 else 0) (yS A 3).toNat ∧ yS A 6 = ySp2 (fun p => if yS A (84 + 9 * p) = 4 then 1 else 0) (yS A 3).toNat ∧ ∀ f, 0 ≤ f → f < yS A 2 → yS A (36 + 8 * f) = ySp2 (fun p => if yS A (81 + 9 * p) = f ∧ yS A (84 + 9 * p) = 3 then yS A (83 + 9 * p) else 0) (yS A 3).toNat
def yI (A : yA) : Prop := yI1 A ∧ yI2 A ∧ yI3 A ∧ yI4 A ∧ yI5 A ∧ yI6 A ∧ yI7 A ∧ yI8 A
theorem yTot_b {A : yA} (hN : yN A) (h : yI3 A) : 0 ≤ yTot A ∧ yTot A ≤ 160 := by
  have := ySp2_ge (h := fun p => yS A (85 + 9 * p)) (b := 4) (n := (yS A 3).toNat) (fun p a b => ⟨(h p a (by omega)).2.2.1, (h p a (by omega)).2.2.2.1⟩)
  obtain ⟨n1, n2, n3, n4, n5, n6⟩ := hN
  unfold yTot
  omega
theorem yI5_v {A : yA} (h : yI5 A) : yCv (yC A) := ⟨h.1, fun c hc => by have := h.2 c hc; omega⟩
/-! the reference's reads -/
theorem yD_at {b : Nat} {M : xMe} {S : Int → Int} (h : yD b M S) (k : Int) (hk : yG k) : M b k.toNat = S k := h k hk
