/-! LAYER 2, load: the text whole, both readers -/
def zA0 : yA := (fun k => if k = 9 then 1 else if k = 10 then 50 else if k = 11 then 10 else 0, fun _ => [], [], [], [])
def zs0 (b : Nat → Int) (n : Nat) : zS := zmk 0 (-1) (zru zsp b n 0) zA0 (0, 0, 0)
section ZTP
variable {b : Nat → Int} {n x m F N w : Nat} {B M M' : xMe} {s s' : zS} {Q : xMe → Prop} {R : Int → xMe → Prop} {d g f k v th z9 : Int} {A A' : yA} {t t' : xTh}
theorem zA0_k {k : Int} (h : ¬ (9 ≤ k ∧ k ≤ 11)) : yS zA0 k = 0 := by
  show (if _ then _ else if _ then _ else if _ then _ else _) = _
  rw [if_neg (by omega), if_neg (by omega), if_neg (by omega)]
theorem zI_0 : zI zA0 := by
  have e : ∀ k, ¬ (9 ≤ k ∧ k ≤ 11) → yS zA0 k = 0 := fun k h => zA0_k h
  have e9 : yS zA0 9 = 1 := rfl
  have e10 : yS zA0 10 = 50 := rfl
  have e11 : yS zA0 11 = 10 := rfl
  refine ⟨?_, fun g g0 g1 => ?_, fun g g0 g1 => ?_, fun p p0 p1 => ?_, ?_, ?_, fun f f0 f1 => ?_, fun k hk => ?_, ⟨Nat.zero_le _, fun c hc => by cases hc⟩, rfl, rfl⟩
  · unfold yN; rw [e 1 (by omega), e 2 (by omega), e 3 (by omega)]; decide
  · rw [e 1 (by omega)] at g1; omega
  · rw [e 2 (by omega)] at g1; omega
  · rw [e 3 (by omega)] at p1; omega
  · rw [e9, e10, e11]; decide
  · rw [e 0 (by omega), e 5 (by omega), e 6 (by omega), e 7 (by omega), e 8 (by omega)]; decide
  · exact ⟨e _ (by omega), e _ (by omega), fun _ => e _ (by omega)⟩
  · exact e k (by omega)
theorem zT_0 : zT n (zs0 b n) := ⟨zru_le (Nat.zero_le n), zI_0, Or.inl ⟨rfl, rfl⟩, Nat.zero_le _, Or.inl rfl, Or.inl rfl⟩
/-- what a World holds whose lines are laid -/
theorem zC_done (hF : 10 ≤ F) (h0 : s.e = 0) (hI : zI s.A) (h : zC b n x B s M) (hq : ∀ M', yCR (x + 4) M' (zFin s.A) → (∀ c, ¬ (x + 15 ≤ c ∧ c ≤ x + 18) → M' c = M c) → Q M') : p_X10_clearLines F (x + 4) M Q := by
  obtain ⟨o1, o2, r1, r2, r3, r4, r5⟩ := h.2.2.2.2.2 h0
  unfold p_X10_clearLines
  refine zC_l2 (w := x + 4) F 0 M (by omega) (by omega) hF (fun M' g1 g2 g3 => hq M' ?_ (fun c hc => g1 c (by omega)))
  have fB : ∀ c, ¬ (x + 15 ≤ c ∧ c ≤ x + 18) → M' c = M c := fun c hc => g1 c (by omega)
  have hc1 : M (x + 4 + 1) 3 = yS s.A 1 := (zC_cnt h0 h).1
  obtain ⟨n1, n2, n3, n4, n5, n6⟩ := hI.1
  refine ⟨yR_fin hI (fun o i k ho hl => ?_) (fun g f g0 g1' f0 f1 => ?_), yU_row r2 (fun b b1 b2 => fB b (by omega)), ?_, fun s' s0 s1 => ⟨?_, fun p hp => ?_, fun p hp => ?_, ?_⟩⟩
  · have hd : o < 25 ∧ ¬ (11 ≤ o ∧ o ≤ 15) := by
      have hh := hl
      unfold yL at hh
      split at hh <;> first | omega | exact hh.elim
    rw [fB _ (by omega)]; exact r1 o i k ho hl
  · obtain ⟨G, rfl⟩ : ∃ G : Nat, g = (G : Int) := ⟨g.toNat, by omega⟩
    obtain ⟨f', rfl⟩ : ∃ f' : Nat, f = (f' : Int) := ⟨f.toNat, by omega⟩
    have a := (g2 G f' (by omega) (by omega) (by omega)).2 (by rw [hc1]; exact g1')
    rw [show ((G : Int) * 6 + (f' : Int)).toNat = 6 * G + f' by omega, a]
    have c := r1 3 (G : Int) (16 + 3 * (G : Int)) (by decide) ⟨by omega, g1', rfl⟩
    rw [Int.toNat_natCast] at c
    exact c
  · refine ⟨[], 0, ?_, ?_, Nat.zero_le _, by omega, fun _ => rfl, fun i v hv => (by cases hv), ?_⟩
    · rw [fB _ (by omega)]; exact r3.1
    · rw [fB _ (by omega)]; exact r3.2
    · exact hI.2.2.2.2.2.2.2.2.2.1
  · have a := (g2 (s'.toNat / 6) (s'.toNat % 6) (by omega) (by omega) (by omega)).1
    rw [show 6 * (s'.toNat / 6) + s'.toNat % 6 = s'.toNat by omega] at a
    rw [show (yQ (zFin s.A) s') = [] from congrFun hI.2.2.2.2.2.2.2.2.2.2 s']
    exact a
  · rw [show (yQ (zFin s.A) s') = [] from congrFun hI.2.2.2.2.2.2.2.2.2.2 s'] at hp; cases hp
  · rw [show (yQ (zFin s.A) s') = [] from congrFun hI.2.2.2.2.2.2.2.2.2.2 s'] at hp; cases hp
  · rw [show (yQ (zFin s.A) s') = [] from congrFun hI.2.2.2.2.2.2.2.2.2.2 s']; trivial
theorem zC_doneE (hF : 10 ≤ F) (h : zC b n x B s M) (hq : ∀ M', (∀ c, ¬ (x + 15 ≤ c ∧ c ≤ x + 18) → M' c = M c) → Q M') : p_X10_clearLines F (x + 4) M Q := by
  unfold p_X10_clearLines
  exact zC_l2 (w := x + 4) F 0 M (by omega) (by omega) hF (fun M' g1 _ _ => hq M' (fun c hc => g1 c (by omega)))
end ZTP
