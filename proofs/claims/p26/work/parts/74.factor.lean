/-! LAYER 2, load: the price expression -/
def zEm (A : yA) (c : Int) : yA := (fun k => if k = 13 then ((yEc (yK A ++ [c])).length : Int) else yS A k, yQ A, yC A, yP A, yK A ++ [c])
def zKd (K : List Int) (d : Nat) : Prop := (∀ K', yWf K' d → yWf (K ++ K') 0) ∧ 2 * (yEc K).length = 3 * K.length + d
def zJ (n : Nat) (s : zS) (d : Nat) : Prop := s.u.2.2 = 1 ∧ zKd (yK s.A) d ∧ (yK s.A).length ≤ s.p ∧ zI s.A ∧ s.p ≤ n
def zPo (n d : Nat) (s s' : zS) : Prop := s'.e = 0 → zJ n s' d ∧ s.p < s'.p ∧ (yK s'.A).length + s.p ≤ (yK s.A).length + s'.p ∧ s'.u = s.u
def zSm (b : Nat → Int) (n x m : Nat) (ν : Int) (s s' : zS) (PC PM : xMe → (xMe → Prop) → Prop) : Prop := (∀ B M Q, zC b n x B s M → (∀ M', zC b n x B s' M' → Q M') → PC M Q) ∧ (∀ B M Q, zM b n m B ν s M → (∀ M', zM b n m B ν s' M' → Q M') → PM M Q)
section ZX
variable {b : Nat → Int} {n x m F : Nat} {B M M' : xMe} {s s' : zS} {Q : xMe → Prop} {R : Int → xMe → Prop} {d : Nat} {c ν : Int} {A : yA}
theorem yEn_one : yEc [c] = yEn c := by rw [yEc_cons]; exact List.append_nil _
theorem zEm_S {k : Int} (h : k ≠ 13) : yS (zEm A c) k = yS A k := if_neg h
theorem zI_em (h : zI A) : zI (zEm A c) := by
  obtain ⟨h1, h2, h3, h4, h5, h6, h7, h8, h9, h10, h11⟩ := h
  have e : ∀ k, k ≠ 13 → yS (zEm A c) k = yS A k := fun k hk => zEm_S hk
  refine ⟨?_, fun g g0 g1 => ?_, fun g g0 g1 => ?_, fun p p0 p1 => ?_, ?_, ?_, fun f f0 f1 => ?_, fun k hk => ?_, ?_, h10, h11⟩
  · unfold yN; rw [e 1 (by decide), e 2 (by decide), e 3 (by decide)]; exact h1
  · rw [e 1 (by decide)] at g1; rw [e _ (by omega), e _ (by omega), e _ (by omega)]; exact h2 g g0 g1
  · rw [e 2 (by decide)] at g1
    rw [e _ (by omega), e _ (by omega), e 1 (by decide)]
    obtain ⟨a1, a2, a3, a4, a5⟩ := h3 g g0 g1
    exact ⟨a1, a2, a3, a4, fun j j0 j1 => by rw [e _ (by omega)]; exact a5 j j0 j1⟩
  · rw [e 3 (by decide)] at p1
    rw [e (81 + 9 * p) (by omega), e (82 + 9 * p) (by omega), e (83 + 9 * p) (by omega), e (84 + 9 * p) (by omega), e (85 + 9 * p) (by omega), e (86 + 9 * p) (by omega), e (87 + 9 * p) (by omega), e (88 + 9 * p) (by omega), e 2 (by decide)]; exact h4 p p0 p1
  · rw [e 9 (by decide), e 10 (by decide), e 11 (by decide)]; exact h5
  · rw [e 0 (by decide), e 5 (by decide), e 6 (by decide), e 7 (by decide), e 8 (by decide)]; exact h6
  · rw [e (35 + 8 * f) (by omega), e (36 + 8 * f) (by omega), e (34 + 8 * f) (by omega), e 2 (by decide)]; exact h7 f f0 f1
  · rw [e _ (by omega)]; exact h8 k hk
  · rw [e 2 (by decide)]; exact h9
theorem zR_s {w : Nat} {A A' : yA} (h : zR w M A) (hL : ∀ o i k, o ≠ 11 → yL A' o i k → yL A o i k ∧ yS A' k = yS A k) (e : ∀ b, w ≤ b → b < w + 25 → M' b = M b) (hN : yN A) : zR w M' A' := fun o i k ho hl => by
  obtain ⟨a1, a2⟩ := hL o i k ho hl
  have a3 := yL_in hN a1
  have a4 : o < 25 := by
    unfold yL at a1
    by_cases q : o < 25
    · exact q
    · exfalso
      split at a1 <;> first | omega | exact a1
  rw [e _ (by omega) (by omega), a2]; exact h o i k ho a1
theorem yL_S {A A' : yA} (h1 : yS A' 1 = yS A 1) (h2 : yS A' 2 = yS A 2) (h3 : yS A' 3 = yS A 3) (hf : ∀ f, 0 ≤ f → f < yS A 2 → yS A' (33 + 8 * f) = yS A (33 + 8 * f)) {o : Nat} {i k : Int} (h : yL A' o i k) : yL A o i k := by
  unfold yL at *
  rw [h1, h2, h3] at h
  split at h <;> try exact h
  obtain ⟨f, j, a1, a2, a3, a4, a5, a6, a7⟩ := h
  exact ⟨f, j, a1, a2, a3, by rw [hf f a1 a2] at a4; exact a4, a5, a6, a7⟩
theorem yL_13 {A : yA} {o : Nat} {i k : Int} (h : yL A o i k) : k ≠ 13 := by
  unfold yL at h
  split at h
  · omega
  · omega
  · omega
  · omega
  · omega
  · omega
  · obtain ⟨f, j, a1, a2, a3, a4, a5, a6, a7⟩ := h; omega
  · omega
  · omega
  · omega
  · obtain ⟨f, j, a1, a2, a3, a4, a5, a6⟩ := h; omega
  all_goals first | omega | exact h.elim
theorem zR_em {w : Nat} (h : zR w M A) (hN : yN A) (e : ∀ b, w ≤ b → b < w + 25 → M' b = M b) : zR w M' (zEm A c) :=
  zR_s h (fun o i k _ hl => by
    have hl' := yL_S (A := A) (zEm_S (by decide)) (zEm_S (by decide)) (zEm_S (by decide)) (fun f f0 f1 => zEm_S (by omega)) hl
    exact ⟨hl', zEm_S (yL_13 hl')⟩) e hN
theorem zC_emit (h0 : s.e = 0) (hu : s.u.2.2 = 1) (hK : (yK s.A).length < 700) (hN : yN s.A) (h : zC b n x B s M) (hq : ∀ M', zC b n x B (zX s (zEm s.A c) s.u) M' → Q M') : p_X8_emit (x + 1) c M Q := by
  obtain ⟨p1, p2, p3, p4, p5, p6, p7⟩ := h.2.2.2.2.2 h0
  have p7' := p7 (by rw [hu]; decide)
  unfold p_X8_emit
  rw [p7'.1, Int.toNat_natCast]
  refine ⟨fun q => by omega, fun _ => ⟨fun q => by omega, fun _ => ⟨⟨by omega, by omega⟩, fun M1 e1 => ?_⟩⟩⟩
  have e5 : M1 (x + 1) 5 = ((yK s.A).length : Int) := by rw [e1, xw_b (by omega)]; exact p7'.1
  rw [e5]
  refine ⟨⟨by omega, by omega⟩, fun M2 e2 => hq M2 ?_⟩
  have fB : ∀ c, c ≠ x + 1 → c ≠ x + 43 → M2 c = M c := fun c c1 c2 => by rw [e2, xw_B c1, e1, xw_B (by omega)]
  have f1 : ∀ j, j ≠ 5 → M2 (x + 1) j = M (x + 1) j := fun j hj => by rw [e2, xw_j hj, e1, xw_b (by omega)]
  refine zC_f h ⟨f1 _ (by decide), f1 _ (by decide)⟩ (by rw [fB _ (by omega) (by omega)]) (by rw [fB _ (by omega) (by omega)]; exact h.2.2.1) (by rw [fB _ (by omega) (by omega)]; exact h.2.2.2.1) (fun c hc => fB c (by omega) (by omega)) rfl rfl (fun _ => ⟨p1, ?_, ?_, ?_, ?_, ?_, fun _ => ⟨?_, fun i v hv => ?_⟩⟩)
  · unfold zTk at *
    rw [fB (x + 2) (by omega) (by omega)]; exact p2
  · exact zR_em p3 hN (fun b b1 b2 => fB b (by omega) (by omega))
  · unfold yU at *
    rw [fB (x + 29) (by omega) (by omega), fB (x + 29 + 1) (by omega) (by omega), fB (x + 29 + 2) (by omega) (by omega), fB (x + 29 + 3) (by omega) (by omega), fB (x + 29 + 4) (by omega) (by omega)]; exact p4
  · rw [fB (x + 34) (by omega) (by omega)]; exact p5
  · rw [f1 _ (by decide), f1 _ (by decide), f1 _ (by decide)]; exact p6
  · rw [e2, xw_s]
    show ((yK s.A).length : Int) + 1 = ((yK s.A ++ [c]).length : Int)
    rw [List.length_append]; rfl
  · have hv' : (yK s.A ++ [c])[i]? = some v := hv
    have em : M2 (x + 43) i = xw M (x + 43) (yK s.A).length c (x + 43) i := by rw [e2, xw_b (by omega), e1]
    rw [em]
    rcases Nat.lt_trichotomy i (yK s.A).length with q | q | q
    · rw [List.getElem?_append_left q] at hv'
      rw [xw_j (by omega)]; exact p7'.2 i v hv'
    · subst q
      rw [List.getElem?_append_right (Nat.le_refl _), Nat.sub_self] at hv'
      rw [xw_s]; exact Option.some.inj hv'
    · rw [List.getElem?_eq_none (by rw [List.length_append]; exact q)] at hv'
      cases hv'
theorem zC_emit2 (h0 : s.e ≠ 0) (h : zC b n x B s M) (hq : ∀ M', zC b n x B s M' → Q M') : p_X8_emit (x + 1) c M Q := by
  unfold p_X8_emit
  refine ⟨fun _ => hq M h, fun g0 => ⟨fun _ => hq M h, fun g1 => ⟨⟨g0, g1⟩, fun M1 e1 => ?_⟩⟩⟩
  have e5 : M1 (x + 1) 5 = M (x + 1) 5 := by rw [e1, xw_b (by omega)]
  rw [e5]
  refine ⟨⟨by omega, by omega⟩, fun M2 e2 => hq M2 ?_⟩
  have fB : ∀ c, c ≠ x + 1 → c ≠ x + 43 → M2 c = M c := fun c c1 c2 => by rw [e2, xw_B c1, e1, xw_B (by omega)]
  have f1 : ∀ j, j ≠ 5 → M2 (x + 1) j = M (x + 1) j := fun j hj => by rw [e2, xw_j hj, e1, xw_b (by omega)]
  exact zC_f h ⟨f1 _ (by decide), f1 _ (by decide)⟩ (by rw [fB _ (by omega) (by omega)]) (by rw [fB _ (by omega) (by omega)]; exact h.2.2.1) (by rw [fB _ (by omega) (by omega)]; exact h.2.2.2.1) (fun c hc => fB c (by omega) (by omega)) rfl rfl (fun q => absurd q h0)
theorem zM_em (h0 : s.e = 0) (hI : zI s.A) (h : zM b n m B ν s M) (fB : ∀ c, c ≠ m + 3 → M' c = M c) (h13 : M' (m + 3) 13 = ((yEc (yK s.A ++ [c])).length : Int)) (hc : ∀ (j : Nat) (v : Int), (yEn c)[j]? = some v → M' (m + 3) (905 + ((yEc (yK s.A)).length + j)) = v) (ho : ∀ j, j ≠ 13 → j < 905 + (yEc (yK s.A)).length → M' (m + 3) j = M (m + 3) j) : zM b n m B ν (zX s (zEm s.A c) s.u) M' := by
  obtain ⟨a1, ⟨d1, d2, d3, d4, d5⟩, a3⟩ := h.2.2.2.2.2.2.2 h0
  refine zM_f (s' := zX s (zEm s.A c) s.u) h (by rw [fB _ (by omega)]; exact h.1.1) (by rw [fB _ (by omega)]; exact h.1.2) (by rw [fB _ (by omega)]; exact h.2.2.2.1) (by rw [ho _ (by decide) (by omega)]; exact h.2.2.2.2.1) (fun c _ c2 => fB c c2) (fun j _ _ => by rw [fB _ (by omega)]) (fun _ => ⟨by rw [fB _ (by omega)]; exact a1, ⟨fun k hk => ?_, ⟨?_, fun i v hv => ?_⟩, ?_, fun g g0 g1 => ?_, h13, fun j v hv => ?_⟩, by rw [fB _ (by omega)]; exact a3⟩) ν (by rw [fB _ (by omega)]; exact h.2.2.1)
  · show M' (m + 3) k.toNat = yS (zEm s.A c) k
    have hk' := hk
    unfold yG at hk'
    by_cases q : k = 13
    · rw [q]; exact h13
    · rw [ho _ (by omega) (by omega), zEm_S q]; exact d1 k hk
  · rw [ho _ (by decide) (by omega)]; exact d2.1
  · have hv' : (yC s.A)[i]? = some v := hv
    have a := d2.2 i v hv'
    have l : i < 30 := by
      have l1 := (List.getElem?_eq_some_iff.mp hv').1
      have l2 := hI.2.2.2.2.2.2.2.2.1.1
      omega
    rw [ho _ (by omega) (by omega), ho _ (by omega) (by omega), ho _ (by omega) (by omega), ho _ (by omega) (by omega)]; exact a
  · rw [ho _ (by decide) (by omega)]; exact d3
  · rw [ho _ (by omega) (by omega)]; exact d4 g g0 g1
  · have hv' : (yEc (yK s.A ++ [c]))[j]? = some v := hv
    rw [yEc_app, yEn_one] at hv'
    by_cases q : j < (yEc (yK s.A)).length
    · rw [List.getElem?_append_left q] at hv'
      rw [ho _ (by omega) (by omega)]; exact d5.2 j v hv'
    · rw [List.getElem?_append_right (by omega)] at hv'
      have := hc _ v hv'
      rw [show (yEc (yK s.A)).length + (j - (yEc (yK s.A)).length) = j by omega] at this
      exact this
theorem zKd_opd {K : List Int} (h : zKd K d) (hc : -8 ≤ c ∧ c ≤ 9999) (hc2 : ¬ (-4 ≤ c ∧ c ≤ -1)) (hd : d < 11) : zKd (K ++ [c]) (d + 1) := by
  refine ⟨fun K' hK' => ?_, ?_⟩
  · rw [List.append_assoc]
    refine h.1 _ ?_
    show yWf (c :: K') d
    unfold yWf
    rw [if_neg hc2]
    exact ⟨hc.1, hc.2, hd, hK'⟩
  · have e : (yEn c).length = 2 := by unfold yEn; rw [if_neg hc2]; split <;> rfl
    have := h.2
    rw [yEc_app, yEn_one, List.length_append, List.length_append, e]
    simp only [List.length_singleton]
    omega
theorem zKd_opr {K : List Int} (h : zKd K (d + 2)) (hc : -4 ≤ c ∧ c ≤ -1) : zKd (K ++ [c]) (d + 1) := by
  refine ⟨fun K' hK' => ?_, ?_⟩
  · rw [List.append_assoc]
    refine h.1 _ ?_
    show yWf (c :: K') (d + 2)
    unfold yWf
    rw [if_pos hc]
    exact ⟨by omega, hK'⟩
  · have e : (yEn c).length = 1 := by unfold yEn; rw [if_pos hc]; rfl
    have := h.2
    rw [yEc_app, yEn_one, List.length_append, List.length_append, e]
    simp only [List.length_singleton]
    omega
theorem zw0 : zWd 0 ∧ zWd 1 ∧ zWd 2 ∧ zWd 3 ∧ zWd 4 ∧ zWd 5 ∧ zWd 6 ∧ zWd 7 ∧ zWd 8 ∧ zWd 9 ∧ zWd 10 ∧ zWd 11 := by
  have g : ∀ i : Fin 12, zWd i.val := by
    intro i
    have a : ∀ i : Fin 12, 1 ≤ xSl i.val ∧ xSl i.val ≤ 10 ∧ ∀ j : Fin 10, (j.val : Int) < xSl i.val → 97 ≤ xSc i.val j.val ∧ xSc i.val j.val ≤ 122 := by decide
    obtain ⟨a1, a2, a3⟩ := a i
    exact ⟨by omega, a1, a2, fun j hj => a3 ⟨j, by omega⟩ hj⟩
  exact ⟨g 0, g 1, g 2, g 3, g 4, g 5, g 6, g 7, g 8, g 9, g 10, g 11⟩
theorem zkd_neg (h : zkd b n s.p ≠ -1) (hp : s.p ≤ n) : s.p < n := by
  by_cases c : s.p < n
  · exact c
  · exact absurd (by unfold zkd; rw [if_pos (by omega)]) h
end ZX
