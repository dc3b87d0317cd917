/-! LAYER 2, load: the text whole, both readers -/
def zA0 : yA := (fun k => if k = 9 then 1 else if k = 10 then 50 else if k = 11 then 10 else 0, fun _ => [], [], [], [])
def zs0 (b : Nat → Int) (n : Nat) : zS := zmk 0 (-1) (zru zsp b n 0) zA0 (0, 0, 0)
section ZTP
variable {b : Nat → Int} {n x m F N w : Nat} {B M M' : xMe} {s s' : zS} {Q : xMe → Prop} {R : Int → xMe → Prop} {d g f k v th z9 : Int} {A A' : yA} {t t' : xTh}
theorem zA0_k {k : Int} (h : ¬ (9 ≤ k ∧ k ≤ 11)) : yS zA0 k = 0 := by
  show (if _ then _ else if _ then _ else if _ then _ else _) = _
  rw [if_neg (by omega), if_neg (by omega), if_neg (by omega)]
theorem zI_0 : zI zA0 := by
  have e : ∀ k, ¬ (9 ≤ k ∧ k ≤ 11) → yS zA0 k = 0 := fun k h => zA0_k h
  have e9 : yS zA0 9 = 1 := rfl
  have e10 : yS zA0 10 = 50 := rfl
  have e11 : yS zA0 11 = 10 := rfl
  refine ⟨?_, fun g g0 g1 => ?_, fun g g0 g1 => ?_, fun p p0 p1 => ?_, ?_, ?_, fun f f0 f1 => ?_, fun k hk => ?_, ⟨Nat.zero_le _, fun c hc => by cases hc⟩, rfl, rfl⟩
  · unfold yN; rw [e 1 (by omega), e 2 (by omega), e 3 (by omega)]; decide
  · rw [e 1 (by omega)] at g1; omega
  · rw [e 2 (by omega)] at g1; omega
  · rw [e 3 (by omega)] at p1; omega
  · rw [e9, e10, e11]; decide
  · rw [e 0 (by omega), e 5 (by omega), e 6 (by omega), e 7 (by omega), e 8 (by omega)]; decide
  · exact ⟨e _ (by omega), e _ (by omega), fun _ => e _ (by omega)⟩
  · exact e k (by omega)
theorem zT_0 : zT n (zs0 b n) := ⟨zru_le (Nat.zero_le n), zI_0, Or.inl ⟨rfl, rfl⟩, Nat.zero_le _, Or.inl rfl, Or.inl rfl⟩
theorem zM_tw2 {i : Nat} (hn : n ≤ 700) (hF : 702 ≤ F) (hw : zWd i) (h0 : s.e = 0) (h : zM b n m B d s M) (h2 : zIw b n i s.p → ∀ M', zM b n m B d (zG b n s) M' → R 1 M') (h3 : ¬ zIw b n i s.p → ∀ M', zM b n m B d s M' → M' m 4 = (s.p : Int) → R 0 M') : p_X12_takeWord F m i M R := by
  obtain ⟨⟨P, P1, P2, P3⟩, a2, a3⟩ := h.2.2.2.2.2.2.2 h0
  have hp : s.p ≤ n := by rw [← P3]; exact zru_le P1
  refine z_tw hn hF hw P1 h.2.1 (h.1.1.trans h0) P2 P3 (fun k M' c1 c3 => h2 k M' (zM_m h h0 (fun c j cj => c3 c j (by omega)) (by rw [c3 _ _ (by omega)]; exact h.1.1) (by rw [c3 _ _ (by omega)]; exact h.1.2) rfl rfl (fun _ => ⟨_, zte_le hp, c1, rfl⟩))) (fun k M' c1 c3 => h3 k M' (zM_m h h0 (fun c j cj => c3 c j (by omega)) (by rw [c3 _ _ (by omega)]; exact h.1.1) (by rw [c3 _ _ (by omega)]; exact h.1.2) rfl rfl (fun _ => ⟨_, hp, c1, ?_⟩)) c1)
  refine zru_eq (Nat.le_refl _) (fun j j1 j2 => by omega) (fun q => ?_) hp
  rw [← P3] at q ⊢
  exact zru_end q
theorem z_top (hn : n ≤ 700) (hF : 702 ≤ F) (hb : ∀ j, j < n → 0 ≤ b j ∧ b j ≤ 255) : ∃ s', (s'.e = 0 → zT n s') ∧ (∀ (B M : xMe) (t : xTh) (Q : xTh → xMe → Prop) (K : xMe → Prop), zC b n x B (zs0 b n) M → (∀ M', zC b n x B s' M' → K M') → p_X9_isWord F (x + 2) 0 M (fun r46 M46 => ((r46 = 0 → p_X8_fail (x + 1) (-2) M46 (fun M71 => p_X8_read_76 F (x + 1) t Q K F 0 M71)) ∧ (r46 ≠ 0 → p_X9_moveOn F (x + 2) M46 (fun M56 => p_X8_takeSign F (x + 1) 59 M56 (fun M62 => p_X8_read_76 F (x + 1) t Q K F 0 M62)))))) ∧ (∀ (B M : xMe) (Q : Int → xMe → Prop) (K : xMe → Prop), zM b n m B 0 (zs0 b n) M → (∀ M', zM b n m B 0 s' M' → K M') → p_X12_takeWord F m 0 M (fun r77 M77 => ((r77 ≠ 0 → p_X12_expect F m 59 M77 (fun M96 => p_X12_load_99 F m Q K F M96)) ∧ (r77 = 0 → p_X12_report m (-2) (M77 m 4) M77 (fun M90 => p_X12_expect F m 59 M90 (fun M96 => p_X12_load_99 F m Q K F M96)))))) := by
  have w0 := zw0.1
  have h0 : (zs0 b n).e = 0 := rfl
  have cE : ∀ (s : zS) (B M : xMe) (t : xTh) (Q : xTh → xMe → Prop) (K : xMe → Prop), s.e ≠ 0 → zC b n x B s M → (∀ M', zC b n x B s M' → K M') → p_X8_read_76 F (x + 1) t Q K F 0 M := fun s B M t Q K e h hq => by
    obtain ⟨k, rfl⟩ : ∃ k', F = k' + 1 := ⟨F - 1, by omega⟩
    unfold p_X8_read_76
    exact ⟨fun _ => hq M h, fun _ => ⟨fun _ => hq M h, fun q => absurd (h.1.1.symm.trans q) e⟩⟩
  have mE : ∀ (s : zS) (B M : xMe) (Q : Int → xMe → Prop) (K : xMe → Prop), s.e ≠ 0 → zM b n m B 0 s M → (∀ M', zM b n m B 0 s M' → K M') → p_X12_load_99 F m Q K F M := fun s B M Q K e h hq => by
    obtain ⟨k, rfl⟩ : ∃ k', F = k' + 1 := ⟨F - 1, by omega⟩
    unfold p_X12_load_99
    exact zM_good h (fun q => absurd q e) (fun _ => ⟨fun _ => hq M h, fun q => absurd rfl q⟩)
  by_cases hw : zIw b n 0 (zs0 b n).p
  · obtain ⟨s1, g1, g2, g3⟩ := z_sg (b := b) (x := x) (m := m) (c := 59) hn hF (by decide) (zG b n (zs0 b n))
    have kd : zkd b n (zs0 b n).p ≠ -1 := fun q => by have := hw.1; omega
    have hp := zkd_neg (b := b) (s := zs0 b n) kd zT_0.1
    by_cases e1 : s1.e = 0
    · obtain ⟨a1, a2⟩ := g1 e1
      have T1 : zT n s1 := by rw [a2]; exact zT_G (zT_G zT_0)
      have p1 : (zs0 b n).p < s1.p := by rw [a2]; exact Nat.lt_of_lt_of_le (znx_gt hp) znx_ge
      obtain ⟨s', i1, i2, i3⟩ := z_loop (x := x) (m := m) hn hF hb n s1 (by omega) (fun _ => T1)
      refine ⟨s', i1, fun B M t Q K h hq => ?_, fun B M Q K h hq => ?_⟩
      · refine zC_isw hn hF w0 h0 h (fun _ => ⟨fun q => absurd q (by decide), fun _ => zC_mv hn hF h0 h (fun M1 h1 => ?_)⟩) (fun q => absurd hw q)
        exact g2 B M1 _ h1 (fun M2 h2 => i2 B M2 t Q K F 0 h2 (by omega) (by omega) (by omega) (by omega) hq)
      · refine zM_tw2 hn hF w0 h0 h (fun _ M1 h1 => ⟨fun _ => ?_, fun q => absurd q (by decide)⟩) (fun q => absurd hw q)
        exact g3 B 0 M1 _ h1 (fun M2 h2 => i3 B M2 Q K F h2 (by omega) (by omega) hq)
    · refine ⟨s1, fun q => absurd q e1, fun B M t Q K h hq => ?_, fun B M Q K h hq => ?_⟩
      · refine zC_isw hn hF w0 h0 h (fun _ => ⟨fun q => absurd q (by decide), fun _ => zC_mv hn hF h0 h (fun M1 h1 => ?_)⟩) (fun q => absurd hw q)
        exact g2 B M1 _ h1 (fun M2 h2 => cE s1 B M2 t Q K e1 h2 hq)
      · refine zM_tw2 hn hF w0 h0 h (fun _ M1 h1 => ⟨fun _ => ?_, fun q => absurd q (by decide)⟩) (fun q => absurd hw q)
        exact g3 B 0 M1 _ h1 (fun M2 h2 => mE s1 B M2 Q K e1 h2 hq)
  · have z2 : (zE (zs0 b n) (-2)).e ≠ 0 := show ¬ ((-2 : Int)) = 0 by decide
    refine ⟨zE (zs0 b n) (-2), fun q => absurd q z2, fun B M t Q K h hq => ?_, fun B M Q K h hq => ?_⟩
    · exact zC_isw hn hF w0 h0 h (fun q => absurd q hw) (fun _ => ⟨fun _ => zC_fail (by decide) h0 h (fun M1 h1 => cE _ B M1 t Q K z2 h1 hq), fun q => absurd rfl q⟩)
    · refine zM_tw2 hn hF w0 h0 h (fun q => absurd q hw) (fun _ M1 h1 k1 => ⟨fun q => absurd rfl q, fun _ => ?_⟩)
      rw [k1]
      refine zM_rep (by decide) h0 rfl h1 (fun M2 h2 _ => ?_)
      exact zM_sign hn hF (by decide) h2 (fun _ => mE _ B M2 Q K z2 h2 hq) (fun q => absurd q z2) (fun q => absurd q z2)
/-- what a World holds whose lines are laid -/
theorem zC_done (hF : 10 ≤ F) (h0 : s.e = 0) (hI : zI s.A) (h : zC b n x B s M) (hq : ∀ M', yCR (x + 4) M' (zFin s.A) → (∀ c, ¬ (x + 15 ≤ c ∧ c ≤ x + 18) → M' c = M c) → Q M') : p_X10_clearLines F (x + 4) M Q := by
  obtain ⟨o1, o2, r1, r2, r3, r4, r5⟩ := h.2.2.2.2.2 h0
  unfold p_X10_clearLines
  refine zC_l2 (w := x + 4) F 0 M (by omega) (by omega) hF (fun M' g1 g2 g3 => hq M' ?_ (fun c hc => g1 c (by omega)))
  have fB : ∀ c, ¬ (x + 15 ≤ c ∧ c ≤ x + 18) → M' c = M c := fun c hc => g1 c (by omega)
  have hc1 : M (x + 4 + 1) 3 = yS s.A 1 := (zC_cnt h0 h).1
  obtain ⟨n1, n2, n3, n4, n5, n6⟩ := hI.1
  refine ⟨yR_fin hI (fun o i k ho hl => ?_) (fun g f g0 g1' f0 f1 => ?_), yU_row r2 (fun b b1 b2 => fB b (by omega)), ?_, fun s' s0 s1 => ⟨?_, fun p hp => ?_, fun p hp => ?_, ?_⟩⟩
  · have hd : o < 25 ∧ ¬ (11 ≤ o ∧ o ≤ 15) := by
      have hh := hl
      unfold yL at hh
      split at hh <;> first | omega | exact hh.elim
    rw [fB _ (by omega)]; exact r1 o i k ho hl
  · obtain ⟨G, rfl⟩ : ∃ G : Nat, g = (G : Int) := ⟨g.toNat, by omega⟩
    obtain ⟨f', rfl⟩ : ∃ f' : Nat, f = (f' : Int) := ⟨f.toNat, by omega⟩
    have a := (g2 G f' (by omega) (by omega) (by omega)).2 (by rw [hc1]; exact g1')
    rw [show ((G : Int) * 6 + (f' : Int)).toNat = 6 * G + f' by omega, a]
    have c := r1 3 (G : Int) (16 + 3 * (G : Int)) (by decide) ⟨by omega, g1', rfl⟩
    rw [Int.toNat_natCast] at c
    exact c
  · refine ⟨[], 0, ?_, ?_, Nat.zero_le _, by omega, fun _ => rfl, fun i v hv => (by cases hv), ?_⟩
    · rw [fB _ (by omega)]; exact r3.1
    · rw [fB _ (by omega)]; exact r3.2
    · exact hI.2.2.2.2.2.2.2.2.2.1
  · have a := (g2 (s'.toNat / 6) (s'.toNat % 6) (by omega) (by omega) (by omega)).1
    rw [show 6 * (s'.toNat / 6) + s'.toNat % 6 = s'.toNat by omega] at a
    rw [show (yQ (zFin s.A) s') = [] from congrFun hI.2.2.2.2.2.2.2.2.2.2 s']
    exact a
  · rw [show (yQ (zFin s.A) s') = [] from congrFun hI.2.2.2.2.2.2.2.2.2.2 s'] at hp; cases hp
  · rw [show (yQ (zFin s.A) s') = [] from congrFun hI.2.2.2.2.2.2.2.2.2.2 s'] at hp; cases hp
  · rw [show (yQ (zFin s.A) s') = [] from congrFun hI.2.2.2.2.2.2.2.2.2.2 s']; trivial
theorem zC_doneE (hF : 10 ≤ F) (h : zC b n x B s M) (hq : ∀ M', (∀ c, ¬ (x + 15 ≤ c ∧ c ≤ x + 18) → M' c = M c) → Q M') : p_X10_clearLines F (x + 4) M Q := by
  unfold p_X10_clearLines
  exact zC_l2 (w := x + 4) F 0 M (by omega) (by omega) hF (fun M' g1 _ _ => hq M' (fun c hc => g1 c (by omega)))
end ZTP
