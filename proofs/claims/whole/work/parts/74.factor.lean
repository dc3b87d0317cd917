/-! LAYER 2, load: the price expression -/
def zEm (A : yA) (c : Int) : yA := (fun k => if k = 13 then ((yEc (yK A ++ [c])).length : Int) else yS A k, yQ A, yC A, yP A, yK A ++ [c])
def zKd (K : List Int) (d : Nat) : Prop := (∀ K', yWf K' d → yWf (K ++ K') 0) ∧ 2 * (yEc K).length = 3 * K.length + d
def zJ (n : Nat) (s : zS) (d : Nat) : Prop := s.u.2.2 = 1 ∧ zKd (yK s.A) d ∧ (yK s.A).length ≤ s.p ∧ zI s.A ∧ s.p ≤ n
def zPo (n d : Nat) (s s' : zS) : Prop := s'.e = 0 → zJ n s' d ∧ s.p < s'.p ∧ (yK s'.A).length + s.p ≤ (yK s.A).length + s'.p ∧ s'.u = s.u
def zSm (b : Nat → Int) (n x m : Nat) (ν : Int) (s s' : zS) (PC PM : xMe → (xMe → Prop) → Prop) : Prop := (∀ B M Q, zC b n x B s M → (∀ M', zC b n x B s' M' → Q M') → PC M Q) ∧ (∀ B M Q, zM b n m B ν s M → (∀ M', zM b n m B ν s' M' → Q M') → PM M Q)
section ZX
variable {b : Nat → Int} {n x m F : Nat} {B M M' : xMe} {s s' : zS} {Q : xMe → Prop} {R : Int → xMe → Prop} {d : Nat} {c ν : Int} {A : yA}
theorem yEn_one : yEc [c] = yEn c := by rw [yEc_cons]; exact List.append_nil _
theorem zEm_S {k : Int} (h : k ≠ 13) : yS (zEm A c) k = yS A k := if_neg h
theorem zI_em (h : zI A) : zI (zEm A c) := by
  obtain ⟨h1, h2, h3, h4, h5, h6, h7, h8, h9, h10, h11⟩ := h
  have e : ∀ k, k ≠ 13 → yS (zEm A c) k = yS A k := fun k hk => zEm_S hk
  refine ⟨?_, fun g g0 g1 => ?_, fun g g0 g1 => ?_, fun p p0 p1 => ?_, ?_, ?_, fun f f0 f1 => ?_, fun k hk => ?_, ?_, h10, h11⟩
  · unfold yN; rw [e 1 (by decide), e 2 (by decide), e 3 (by decide)]; exact h1
  · rw [e 1 (by decide)] at g1; rw [e _ (by omega), e _ (by omega), e _ (by omega)]; exact h2 g g0 g1
  · rw [e 2 (by decide)] at g1
    rw [e _ (by omega), e _ (by omega), e 1 (by decide)]
    obtain ⟨a1, a2, a3, a4, a5⟩ := h3 g g0 g1
    exact ⟨a1, a2, a3, a4, fun j j0 j1 => by rw [e _ (by omega)]; exact a5 j j0 j1⟩
  · rw [e 3 (by decide)] at p1
    rw [e (81 + 9 * p) (by omega), e (82 + 9 * p) (by omega), e (83 + 9 * p) (by omega), e (84 + 9 * p) (by omega), e (85 + 9 * p) (by omega), e (86 + 9 * p) (by omega), e (87 + 9 * p) (by omega), e (88 + 9 * p) (by omega), e 2 (by decide)]; exact h4 p p0 p1
  · rw [e 9 (by decide), e 10 (by decide), e 11 (by decide)]; exact h5
  · rw [e 0 (by decide), e 5 (by decide), e 6 (by decide), e 7 (by decide), e 8 (by decide)]; exact h6
  · rw [e (35 + 8 * f) (by omega), e (36 + 8 * f) (by omega), e (34 + 8 * f) (by omega), e 2 (by decide)]; exact h7 f f0 f1
  · rw [e _ (by omega)]; exact h8 k hk
  · rw [e 2 (by decide)]; exact h9
theorem zR_s {w : Nat} {A A' : yA} (h : zR w M A) (hL : ∀ o i k, o ≠ 11 → yL A' o i k → yL A o i k ∧ yS A' k = yS A k) (e : ∀ b, w ≤ b → b < w + 25 → M' b = M b) (hN : yN A) : zR w M' A' := fun o i k ho hl => by
  obtain ⟨a1, a2⟩ := hL o i k ho hl
  have a3 := yL_in hN a1
  have a4 : o < 25 := by
    unfold yL at a1
    by_cases q : o < 25
    · exact q
    · exfalso
      split at a1 <;> first | omega | exact a1
  rw [e _ (by omega) (by omega), a2]; exact h o i k ho a1
theorem yL_S {A A' : yA} (h1 : yS A' 1 = yS A 1) (h2 : yS A' 2 = yS A 2) (h3 : yS A' 3 = yS A 3) (hf : ∀ f, 0 ≤ f → f < yS A 2 → yS A' (33 + 8 * f) = yS A (33 + 8 * f)) {o : Nat} {i k : Int} (h : yL A' o i k) : yL A o i k := by
  unfold yL at *
  rw [h1, h2, h3] at h
  split at h <;> try exact h
  obtain ⟨f, j, a1, a2, a3, a4, a5, a6, a7⟩ := h
  exact ⟨f, j, a1, a2, a3, by rw [hf f a1 a2] at a4; exact a4, a5, a6, a7⟩
theorem yL_13 {A : yA} {o : Nat} {i k : Int} (h : yL A o i k) : k ≠ 13 := by
  unfold yL at h
  split at h
  · omega
  · omega
  · omega
  · omega
  · omega
  · omega
  · obtain ⟨f, j, a1, a2, a3, a4, a5, a6, a7⟩ := h; omega
  · omega
  · omega
  · omega
  · obtain ⟨f, j, a1, a2, a3, a4, a5, a6⟩ := h; omega
  all_goals first | omega | exact h.elim
theorem zR_em {w : Nat} (h : zR w M A) (hN : yN A) (e : ∀ b, w ≤ b → b < w + 25 → M' b = M b) : zR w M' (zEm A c) :=
  zR_s h (fun o i k _ hl => by
    have hl' := yL_S (A := A) (zEm_S (by decide)) (zEm_S (by decide)) (zEm_S (by decide)) (fun f f0 f1 => zEm_S (by omega)) hl
    exact ⟨hl', zEm_S (yL_13 hl')⟩) e hN
theorem zC_emit (h0 : s.e = 0) (hu : s.u.2.2 = 1) (hK : (yK s.A).length < 700) (hN : yN s.A) (h : zC b n x B s M) (hq : ∀ M', zC b n x B (zX s (zEm s.A c) s.u) M' → Q M') : p_X8_emit (x + 1) c M Q := by
  obtain ⟨p1, p2, p3, p4, p5, p6, p7⟩ := h.2.2.2.2.2 h0
  have p7' := p7 (by rw [hu]; decide)
  unfold p_X8_emit
  rw [p7'.1, Int.toNat_natCast]
  refine ⟨fun q => by omega, fun _ => ⟨fun q => by omega, fun _ => ⟨⟨by omega, by omega⟩, fun M1 e1 => ?_⟩⟩⟩
  have e5 : M1 (x + 1) 5 = ((yK s.A).length : Int) := by rw [e1, xw_b (by omega)]; exact p7'.1
  rw [e5]
  refine ⟨⟨by omega, by omega⟩, fun M2 e2 => hq M2 ?_⟩
  have fB : ∀ c, c ≠ x + 1 → c ≠ x + 43 → M2 c = M c := fun c c1 c2 => by rw [e2, xw_B c1, e1, xw_B (by omega)]
  have f1 : ∀ j, j ≠ 5 → M2 (x + 1) j = M (x + 1) j := fun j hj => by rw [e2, xw_j hj, e1, xw_b (by omega)]
  refine zC_f h ⟨f1 _ (by decide), f1 _ (by decide)⟩ (by rw [fB _ (by omega) (by omega)]) (by rw [fB _ (by omega) (by omega)]; exact h.2.2.1) (by rw [fB _ (by omega) (by omega)]; exact h.2.2.2.1) (fun c hc => fB c (by omega) (by omega)) rfl rfl (fun _ => ⟨p1, ?_, ?_, ?_, ?_, ?_, fun _ => ⟨?_, fun i v hv => ?_⟩⟩)
  · unfold zTk at *
    rw [fB (x + 2) (by omega) (by omega)]; exact p2
  · exact zR_em p3 hN (fun b b1 b2 => fB b (by omega) (by omega))
  · unfold yU at *
    rw [fB (x + 29) (by omega) (by omega), fB (x + 29 + 1) (by omega) (by omega), fB (x + 29 + 2) (by omega) (by omega), fB (x + 29 + 3) (by omega) (by omega), fB (x + 29 + 4) (by omega) (by omega)]; exact p4
  · rw [fB (x + 34) (by omega) (by omega)]; exact p5
  · rw [f1 _ (by decide), f1 _ (by decide), f1 _ (by decide)]; exact p6
  · rw [e2, xw_s]
    show ((yK s.A).length : Int) + 1 = ((yK s.A ++ [c]).length : Int)
    rw [List.length_append]; rfl
  · have hv' : (yK s.A ++ [c])[i]? = some v := hv
    have em : M2 (x + 43) i = xw M (x + 43) (yK s.A).length c (x + 43) i := by rw [e2, xw_b (by omega), e1]
    rw [em]
    rcases Nat.lt_trichotomy i (yK s.A).length with q | q | q
    · rw [List.getElem?_append_left q] at hv'
      rw [xw_j (by omega)]; exact p7'.2 i v hv'
    · subst q
      rw [List.getElem?_append_right (Nat.le_refl _), Nat.sub_self] at hv'
      rw [xw_s]; exact Option.some.inj hv'
    · rw [List.getElem?_eq_none (by rw [List.length_append]; exact q)] at hv'
      cases hv'
theorem zC_emit2 (h0 : s.e ≠ 0) (h : zC b n x B s M) (hq : ∀ M', zC b n x B s M' → Q M') : p_X8_emit (x + 1) c M Q := by
  unfold p_X8_emit
  refine ⟨fun _ => hq M h, fun g0 => ⟨fun _ => hq M h, fun g1 => ⟨⟨g0, g1⟩, fun M1 e1 => ?_⟩⟩⟩
  have e5 : M1 (x + 1) 5 = M (x + 1) 5 := by rw [e1, xw_b (by omega)]
  rw [e5]
  refine ⟨⟨by omega, by omega⟩, fun M2 e2 => hq M2 ?_⟩
  have fB : ∀ c, c ≠ x + 1 → c ≠ x + 43 → M2 c = M c := fun c c1 c2 => by rw [e2, xw_B c1, e1, xw_B (by omega)]
  have f1 : ∀ j, j ≠ 5 → M2 (x + 1) j = M (x + 1) j := fun j hj => by rw [e2, xw_j hj, e1, xw_b (by omega)]
  exact zC_f h ⟨f1 _ (by decide), f1 _ (by decide)⟩ (by rw [fB _ (by omega) (by omega)]) (by rw [fB _ (by omega) (by omega)]; exact h.2.2.1) (by rw [fB _ (by omega) (by omega)]; exact h.2.2.2.1) (fun c hc => fB c (by omega) (by omega)) rfl rfl (fun q => absurd q h0)
theorem z_emit {v : Int} {N : Nat} (h5 : M m 5 = 0) (hN : M (m + 3) 13 = (N : Int)) (hl : N < 1200) (hq : ∀ M', (∀ c, c ≠ m + 3 → M' c = M c) → M' (m + 3) 13 = ((N + 1 : Nat) : Int) → M' (m + 3) (905 + N) = v → (∀ j, j ≠ 13 → j ≠ 905 + N → M' (m + 3) j = M (m + 3) j) → Q M') : p_X12_emit m v M Q := by
  unfold p_X12_emit
  refine z_good (fun _ => ⟨fun _ => ⟨⟨by decide, by decide⟩, ?_⟩, fun q => absurd q (by decide)⟩) (fun q => absurd h5 q)
  rw [hN, show (905 + (N : Int)).toNat = 905 + N by omega]
  refine ⟨⟨by omega, by omega⟩, ⟨by omega, by omega⟩, fun M1 e1 => ⟨⟨by decide, by decide⟩, ?_⟩⟩
  have e13 : M1 (m + 3) 13 = (N : Int) := by rw [e1, xw_j (by omega)]; exact hN
  rw [e13]
  refine ⟨⟨by omega, by omega⟩, ⟨by decide, by decide⟩, fun M2 e2 => hq M2 (fun c hc => by rw [e2, xw_B hc, e1, xw_B hc]) (by rw [e2, xw_s]; omega) (by rw [e2, xw_j (by omega), e1]; exact xw_s) (fun j j1 j2 => by rw [e2, xw_j j1, e1, xw_j j2])⟩
theorem zM_emit2 {v : Int} (h0 : s.e ≠ 0) (h : zM b n m B ν s M) (hq : Q M) : p_X12_emit m v M Q := by
  unfold p_X12_emit
  exact zM_good h (fun q => absurd q h0) (fun _ => ⟨fun q => absurd rfl q, fun _ => hq⟩)
theorem zM_em (h0 : s.e = 0) (hI : zI s.A) (h : zM b n m B ν s M) (fB : ∀ c, c ≠ m + 3 → M' c = M c) (h13 : M' (m + 3) 13 = ((yEc (yK s.A ++ [c])).length : Int)) (hc : ∀ (j : Nat) (v : Int), (yEn c)[j]? = some v → M' (m + 3) (905 + ((yEc (yK s.A)).length + j)) = v) (ho : ∀ j, j ≠ 13 → j < 905 + (yEc (yK s.A)).length → M' (m + 3) j = M (m + 3) j) : zM b n m B ν (zX s (zEm s.A c) s.u) M' := by
  obtain ⟨a1, ⟨d1, d2, d3, d4, d5⟩, a3⟩ := h.2.2.2.2.2.2.2 h0
  refine zM_f (s' := zX s (zEm s.A c) s.u) h (by rw [fB _ (by omega)]; exact h.1.1) (by rw [fB _ (by omega)]; exact h.1.2) (by rw [fB _ (by omega)]; exact h.2.2.2.1) (by rw [ho _ (by decide) (by omega)]; exact h.2.2.2.2.1) (fun c _ c2 => fB c c2) (fun j _ _ => by rw [fB _ (by omega)]) (fun _ => ⟨by rw [fB _ (by omega)]; exact a1, ⟨fun k hk => ?_, ⟨?_, fun i v hv => ?_⟩, ?_, fun g g0 g1 => ?_, h13, fun j v hv => ?_⟩, by rw [fB _ (by omega)]; exact a3⟩) ν (by rw [fB _ (by omega)]; exact h.2.2.1)
  · show M' (m + 3) k.toNat = yS (zEm s.A c) k
    have hk' := hk
    unfold yG at hk'
    by_cases q : k = 13
    · rw [q]; exact h13
    · rw [ho _ (by omega) (by omega), zEm_S q]; exact d1 k hk
  · rw [ho _ (by decide) (by omega)]; exact d2.1
  · have hv' : (yC s.A)[i]? = some v := hv
    have a := d2.2 i v hv'
    have l : i < 30 := by
      have l1 := (List.getElem?_eq_some_iff.mp hv').1
      have l2 := hI.2.2.2.2.2.2.2.2.1.1
      omega
    rw [ho _ (by omega) (by omega), ho _ (by omega) (by omega), ho _ (by omega) (by omega), ho _ (by omega) (by omega)]; exact a
  · rw [ho _ (by decide) (by omega)]; exact d3
  · rw [ho _ (by omega) (by omega)]; exact d4 g g0 g1
  · have hv' : (yEc (yK s.A ++ [c]))[j]? = some v := hv
    rw [yEc_app, yEn_one] at hv'
    by_cases q : j < (yEc (yK s.A)).length
    · rw [List.getElem?_append_left q] at hv'
      rw [ho _ (by omega) (by omega)]; exact d5.2 j v hv'
    · rw [List.getElem?_append_right (by omega)] at hv'
      have := hc _ v hv'
      rw [show (yEc (yK s.A)).length + (j - (yEc (yK s.A)).length) = j by omega] at this
      exact this
theorem zM_opr (h0 : s.e = 0) (hI : zI s.A) (hl : (yEc (yK s.A)).length < 1200) (hc : -4 ≤ c ∧ c ≤ -1) (h : zM b n m B ν s M) (hq : ∀ M', zM b n m B ν (zX s (zEm s.A c) s.u) M' → Q M') : p_X12_emit m (1 - c) M Q := by
  obtain ⟨a1, ⟨d1, d2, d3, d4, d5⟩, a3⟩ := h.2.2.2.2.2.2.2 h0
  have en : yEn c = [1 - c] := by unfold yEn; rw [if_pos hc]
  refine z_emit (h.1.1.trans h0) d5.1 hl (fun M1 k1 k2 k3 k4 => hq M1 (zM_em h0 hI h k1 ?_ (fun j v hv => ?_) (fun j j1 j2 => k4 j j1 (by omega))))
  · rw [k2, yEc_app, yEn_one, en, List.length_append]; rfl
  · rw [en] at hv
    rcases j with _ | j
    · have hv' : 1 - c = v := Option.some.inj hv
      rw [← hv']; exact k3
    · cases hv
theorem zM_opd {t v : Int} (h0 : s.e = 0) (hI : zI s.A) (hl : (yEc (yK s.A)).length + 1 < 1200) (hc : yEn c = [t, v]) (h : zM b n m B ν s M) (hq : ∀ M', zM b n m B ν (zX s (zEm s.A c) s.u) M' → Q M') : p_X12_emit m t M (fun M1 => p_X12_emit m v M1 Q) := by
  obtain ⟨a1, ⟨d1, d2, d3, d4, d5⟩, a3⟩ := h.2.2.2.2.2.2.2 h0
  refine z_emit (h.1.1.trans h0) d5.1 (by omega) (fun M1 k1 k2 k3 k4 => ?_)
  refine z_emit (by rw [k1 _ (by omega)]; exact h.1.1.trans h0) k2 hl (fun M2 g1 g2 g3 g4 => hq M2 (zM_em h0 hI h (fun c c1 => (g1 c c1).trans (k1 c c1)) ?_ (fun j v' hv => ?_) (fun j j1 j2 => by rw [g4 j j1 (by omega), k4 j j1 (by omega)])))
  · rw [g2, yEc_app, yEn_one, hc, List.length_append]; rfl
  · rw [hc] at hv
    rcases j with _ | j
    · have hv' : t = v' := Option.some.inj hv
      rw [← hv', g4 _ (by omega) (by omega)]; exact k3
    · rcases j with _ | j
      · have hv' : v = v' := Option.some.inj hv
        rw [← hv']; exact g3
      · cases hv
theorem zM_opd2 {t v : Int} (h0 : s.e ≠ 0) (h : zM b n m B ν s M) (hq : Q M) : p_X12_emit m t M (fun M1 => p_X12_emit m v M1 Q) := zM_emit2 h0 h (zM_emit2 h0 h hq)
theorem zKd_opd {K : List Int} (h : zKd K d) (hc : -8 ≤ c ∧ c ≤ 9999) (hc2 : ¬ (-4 ≤ c ∧ c ≤ -1)) (hd : d < 11) : zKd (K ++ [c]) (d + 1) := by
  refine ⟨fun K' hK' => ?_, ?_⟩
  · rw [List.append_assoc]
    refine h.1 _ ?_
    show yWf (c :: K') d
    unfold yWf
    rw [if_neg hc2]
    exact ⟨hc.1, hc.2, hd, hK'⟩
  · have e : (yEn c).length = 2 := by unfold yEn; rw [if_neg hc2]; split <;> rfl
    have := h.2
    rw [yEc_app, yEn_one, List.length_append, List.length_append, e]
    simp only [List.length_singleton]
    omega
theorem zKd_opr {K : List Int} (h : zKd K (d + 2)) (hc : -4 ≤ c ∧ c ≤ -1) : zKd (K ++ [c]) (d + 1) := by
  refine ⟨fun K' hK' => ?_, ?_⟩
  · rw [List.append_assoc]
    refine h.1 _ ?_
    show yWf (c :: K') (d + 2)
    unfold yWf
    rw [if_pos hc]
    exact ⟨by omega, hK'⟩
  · have e : (yEn c).length = 1 := by unfold yEn; rw [if_pos hc]; rfl
    have := h.2
    rw [yEc_app, yEn_one, List.length_append, List.length_append, e]
    simp only [List.length_singleton]
    omega
theorem zw0 : zWd 0 ∧ zWd 1 ∧ zWd 2 ∧ zWd 3 ∧ zWd 4 ∧ zWd 5 ∧ zWd 6 ∧ zWd 7 ∧ zWd 8 ∧ zWd 9 ∧ zWd 10 ∧ zWd 11 := by
  have g : ∀ i : Fin 12, zWd i.val := by
    intro i
    have a : ∀ i : Fin 12, 1 ≤ xSl i.val ∧ xSl i.val ≤ 10 ∧ ∀ j : Fin 10, (j.val : Int) < xSl i.val → 97 ≤ xSc i.val j.val ∧ xSc i.val j.val ≤ 122 := by decide
    obtain ⟨a1, a2, a3⟩ := a i
    exact ⟨by omega, a1, a2, fun j hj => a3 ⟨j, by omega⟩ hj⟩
  exact ⟨g 0, g 1, g 2, g 3, g 4, g 5, g 6, g 7, g 8, g 9, g 10, g 11⟩
theorem zkd_neg (h : zkd b n s.p ≠ -1) (hp : s.p ≤ n) : s.p < n := by
  by_cases c : s.p < n
  · exact c
  · exact absurd (by unfold zkd; rw [if_pos (by omega)]) h
/-- a word's operand, behind the other words -/
theorem zF_word {t v : Int} (hn : n ≤ 700) (hF : 702 ≤ F) (h0 : s.e = 0) (hJ : zJ n s d) (hd : d < 11) (hk : zkd b n s.p ≠ -1) (hc : -8 ≤ c ∧ c ≤ 9999) (hc2 : ¬ (-4 ≤ c ∧ c ≤ -1)) (hen : yEn c = [t, v]) :
    zPo n (d + 1) s (zX (zG b n s) (zEm s.A c) s.u) ∧ (∀ (B M : xMe) (Q : xMe → Prop), zC b n x B s M → (∀ M', zC b n x B (zX (zG b n s) (zEm s.A c) s.u) M' → Q M') → p_X8_emit (x + 1) c M (fun M142 => p_X9_moveOn F (x + 2) M142 (fun M149 => Q M149))) ∧ (∀ (B M : xMe) (Q : xMe → Prop), zM b n m B ν (zG b n s) M → (∀ M', zM b n m B ν (zX (zG b n s) (zEm s.A c) s.u) M' → Q M') → p_X12_emit m t M (fun M1 => p_X12_emit m v M1 Q)) := by
  obtain ⟨j1, j2, j3, j4, j5⟩ := hJ
  have hp := zkd_neg hk j5
  have l := j2.2
  refine ⟨fun _ => ⟨⟨j1, zKd_opd j2 hc hc2 hd, ?_, zI_em j4, znx_le j5⟩, znx_gt hp, ?_, rfl⟩, fun B M Q h hq => ?_, fun B M Q h hq => ?_⟩
  · show (yK s.A ++ [c]).length ≤ znx b n s.p
    have := znx_gt (b := b) hp
    rw [List.length_append]
    simp only [List.length_singleton]
    omega
  · show (yK s.A ++ [c]).length + s.p ≤ (yK s.A).length + znx b n s.p
    have := znx_gt (b := b) hp
    rw [List.length_append]
    simp only [List.length_singleton]
    omega
  · exact zC_emit h0 j1 (by omega) j4.1 h (fun M1 h1 => zC_mv (s := zX s (zEm s.A c) s.u) hn hF h0 h1 hq)
  · exact zM_opd (s := zG b n s) h0 j4 (show (yEc (yK s.A)).length + 1 < 1200 by omega) hen h hq
theorem z_fac {PS : Int → xMe → (xMe → Prop) → Prop} {PM : xMe → (xMe → Prop) → Prop} {ν : Nat} (hn : n ≤ 700) (hF : 702 ≤ F) (hb : ∀ j, j < n → 0 ≤ b j ∧ b j ≤ 255) (hν : ν ≤ 4) (h0 : s.e = 0) (hJ : zJ n s d) (hd : d ≤ 2 * ν + 2) (hS : ν < 4 → ∀ s1, s1.e = 0 → zJ n s1 d → ∃ s2, zPo n (d + 1) s1 s2 ∧ zSm b n x m ((ν : Int) + 1) s1 s2 (PS ((ν : Int) + 1)) PM) (hE : ∀ B (μ : Int) s1 M Q, s1.e ≠ 0 → zM b n m B μ s1 M → Q M → PM M Q) : ∃ s', zPo n (d + 1) s s' ∧ zSm b n x m ν s s' (fun M Q => p_X8_readFactor F PS (x + 1) ν M Q) (fun M Q => p_X12_factor F PM m M Q) := by
  obtain ⟨w0, w1, w2, w3, w4, w5, w6, w7, w8, w9, w10, w11⟩ := zw0
  have hp := hJ.2.2.2.2
  by_cases k40 : zkd b n s.p = 40
  · have sg := zkd_sg (by omega) k40
    have b40 : zBy b n s.p = 40 := (zkd_by (by omega)).mp k40
    by_cases ν4 : ν < 4
    · -- a nested sum
      have hJ1 : zJ n (zG b n s) d := ⟨hJ.1, hJ.2.1, Nat.le_trans hJ.2.2.1 znx_ge, hJ.2.2.2.1, znx_le hp⟩
      obtain ⟨s2, g1, g2, g3⟩ := hS ν4 (zG b n s) h0 hJ1
      have fin : ∃ s', zPo n (d + 1) s s' ∧ (∀ B M Q, zC b n x B s2 M → (∀ M', zC b n x B s' M' → Q M') → p_X8_takeSign F (x + 1) 41 M Q) ∧ (∀ B (μ : Int) M Q, zM b n m B μ s2 M → (∀ M', zM b n m B μ s' M' → Q M') → p_X12_expect F m 41 M Q) := by
        by_cases e2 : s2.e = 0
        · obtain ⟨q1, q2, q3, q4⟩ := g1 e2
          have q2' : znx b n s.p < s2.p := q2
          have q3' : (yK s2.A).length + znx b n s.p ≤ (yK s.A).length + s2.p := q3
          have q5 := znx_gt (b := b) sg.1
          by_cases k41 : zkd b n s2.p = 41
          · have sg2 := zkd_sg (by omega) k41
            have q6 := znx_gt (b := b) sg2.1
            refine ⟨zG b n s2, fun _ => ⟨⟨q1.1, q1.2.1, Nat.le_trans q1.2.2.1 znx_ge, q1.2.2.2.1, znx_le q1.2.2.2.2⟩, ?_, ?_, q4⟩, fun B M Q h hq => zC_sign hn hF h (fun q => absurd e2 q) (fun _ _ => hq) (fun _ q => absurd k41 q), fun B μ M Q h hq => zM_sign hn hF (by omega) h (fun q => absurd e2 q) (fun _ _ => hq) (fun _ q => absurd k41 q)⟩
            · show s.p < znx b n s2.p
              omega
            · show (yK s2.A).length + s.p ≤ (yK s.A).length + znx b n s2.p
              omega
          · exact ⟨zE s2 (-2), fun q => absurd q (show ¬ ((-2 : Int)) = 0 by decide), fun B M Q h hq => zC_sign hn hF h (fun q => absurd e2 q) (fun _ q => absurd q k41) (fun _ _ => hq), fun B μ M Q h hq => zM_sign hn hF (by omega) h (fun q => absurd e2 q) (fun _ q => absurd q k41) (fun _ _ => hq)⟩
        · exact ⟨s2, fun q => absurd q e2, fun B M Q h hq => zC_sign hn hF h (fun _ => hq M h) (fun q => absurd q e2) (fun q => absurd q e2), fun B μ M Q h hq => zM_sign hn hF (by omega) h (fun _ => hq M h) (fun q => absurd q e2) (fun q => absurd q e2)⟩
      obtain ⟨s', f1, f2, f3⟩ := fin
      refine ⟨s', f1, fun B M Q h hq => ?_, fun B M Q h hq => ?_⟩
      · have e4 : M (x + 1 + 1) 4 = zkd b n s.p := (h.2.2.2.2.2 h0).2.1.2.2.1
        show p_X8_readFactor F PS (x + 1) ν M Q
        unfold p_X8_readFactor
        rw [e4]
        refine ⟨fun q => absurd k40 q, fun _ => ⟨fun _ => zC_mv hn hF h0 h (fun M1 h1 => ⟨⟨by omega, by omega⟩, g2 B M1 _ h1 (fun M2 h2 => f2 B M2 _ h2 hq)⟩), fun q => by omega⟩⟩
      · show p_X12_factor F PM m M Q
        unfold p_X12_factor
        refine zM_good h (fun _ => ⟨fun _ => zM_next hn hF h0 h (fun M1 h1 k1 => ⟨fun q => absurd b40 q, fun _ => ?_⟩), fun q => absurd q (by decide)⟩) (fun q => absurd h0 q)
        rw [h1.2.2.1, k1]
        refine ⟨fun _ => ⟨⟨by omega, by omega⟩, fun M2 e2 => ?_⟩, fun q => by omega⟩
        have h2 : zM b n m B ν (zG b n s) M2 := zM_m h1 h0 (fun c j cj => by
          rw [e2]
          by_cases hc : c = m
          · subst hc; rw [xw_j (by omega)]
          · rw [xw_b hc]) (by rw [e2, xw_j (by decide)]; exact h1.1.1) (by rw [e2, xw_j (by decide)]; exact h1.1.2) rfl rfl (fun _ => ⟨zte b n s.p, zte_le hp, by rw [e2, xw_s, sg.2]; omega, rfl⟩)
        rw [h2.2.2.1]
        refine ⟨⟨by omega, by omega⟩, fun M3 e3 => ?_⟩
        refine g3 B M3 _ (zM_nest h2 e3) (fun M4 h4 => f3 B _ M4 _ h4 (fun M5 h5 => ?_))
        rw [h5.2.2.1]
        refine ⟨⟨by omega, by omega⟩, fun M6 e6 => hq M6 (zM_nest h5 (by rw [e6, show (ν : Int) + 1 - 1 = ν by omega]))⟩
    · -- too deep
      have ν4' : ν = 4 := by omega
      refine ⟨zE s (-6), fun q => absurd q (show ¬ ((-6 : Int)) = 0 by decide), fun B M Q h hq => ?_, fun B M Q h hq => ?_⟩
      · have e4 : M (x + 1 + 1) 4 = zkd b n s.p := (h.2.2.2.2.2 h0).2.1.2.2.1
        show p_X8_readFactor F PS (x + 1) ν M Q
        unfold p_X8_readFactor
        rw [e4]
        exact ⟨fun q => absurd k40 q, fun _ => ⟨fun q => by omega, fun _ => zC_fail (by decide) h0 h hq⟩⟩
      · show p_X12_factor F PM m M Q
        unfold p_X12_factor
        refine zM_good h (fun _ => ⟨fun _ => zM_next hn hF h0 h (fun M1 h1 k1 => ⟨fun q => absurd b40 q, fun _ => ?_⟩), fun q => absurd q (by decide)⟩) (fun q => absurd h0 q)
        rw [h1.2.2.1, k1]
        refine ⟨fun q => absurd (by omega) q, fun _ => zM_rep (by decide) h0 rfl h1 (fun M2 h2 k2 => ?_)⟩
        have hz : (zE s (-6)).e ≠ 0 := show ¬ ((-6 : Int)) = 0 by decide
        rw [k2, k1]
        refine ⟨⟨by omega, by omega⟩, fun M3 e3 => ?_⟩
        have h3 := zM_pos hz h2 e3
        rw [h3.2.2.1]
        refine ⟨⟨by omega, by omega⟩, fun M4 e4 => ?_⟩
        have h4 := zM_nest h3 e4
        refine hE B _ _ M4 _ hz h4 (zM_sign hn hF (by omega) h4 (fun _ => ?_) (fun q => absurd q hz) (fun q => absurd q hz))
        rw [h4.2.2.1]
        exact ⟨⟨by omega, by omega⟩, fun M5 e5 => hq M5 (zM_nest h4 (by rw [e5, show (ν : Int) + 1 - 1 = ν by omega]))⟩
  · have b40 : zBy b n s.p ≠ 40 := fun q => k40 ((zkd_by (by omega)).mpr q)
    have dlt : d < 11 := by omega
    -- the class's and the model's beginnings
    have cb : ∀ (B M : xMe) (Q : xMe → Prop), zC b n x B s M → (zIw b n 9 s.p → p_X8_emit (x + 1) (-5) M (fun M142 => p_X9_moveOn F (x + 2) M142 (fun M149 => Q M149))) → (¬ zIw b n 9 s.p → zIw b n 1 s.p → p_X8_emit (x + 1) (-6) M (fun M142 => p_X9_moveOn F (x + 2) M142 (fun M149 => Q M149))) → (¬ zIw b n 9 s.p → ¬ zIw b n 1 s.p → zIw b n 10 s.p → p_X8_emit (x + 1) (-7) M (fun M142 => p_X9_moveOn F (x + 2) M142 (fun M149 => Q M149))) → (¬ zIw b n 9 s.p → ¬ zIw b n 1 s.p → ¬ zIw b n 10 s.p → zIw b n 11 s.p → p_X8_emit (x + 1) (-8) M (fun M142 => p_X9_moveOn F (x + 2) M142 (fun M149 => Q M149))) → (¬ zIw b n 9 s.p → ¬ zIw b n 1 s.p → ¬ zIw b n 10 s.p → ¬ zIw b n 11 s.p → p_X8_numberStands (x + 1) 0 9999 M (fun r122 M122 => ((r122 = 0 → Q M122) ∧ (r122 ≠ 0 → (∀ z135 : Int, z135 = M122 (x + 2) 6 → p_X8_emit (x + 1) z135 M122 (fun M142 => p_X9_moveOn F (x + 2) M142 (fun M149 => Q M149))))))) → p_X8_readFactor F PS (x + 1) ν M Q := fun B M Q h c1 c2 c3 c4 c5 => by
      have e4 : M (x + 1 + 1) 4 = zkd b n s.p := (h.2.2.2.2.2 h0).2.1.2.2.1
      unfold p_X8_readFactor
      rw [e4]
      refine ⟨fun _ => ?_, fun q => absurd q k40⟩
      refine zC_isw hn hF w9 h0 h (fun q1 => ⟨fun q => absurd q (by decide), fun _ => c1 q1⟩) (fun q1 => ⟨fun _ => ?_, fun q => absurd rfl q⟩)
      refine zC_isw hn hF w1 h0 h (fun q2 => ⟨fun q => absurd q (by decide), fun _ => c2 q1 q2⟩) (fun q2 => ⟨fun _ => ?_, fun q => absurd rfl q⟩)
      refine zC_isw hn hF w10 h0 h (fun q3 => ⟨fun q => absurd q (by decide), fun _ => c3 q1 q2 q3⟩) (fun q3 => ⟨fun _ => ?_, fun q => absurd rfl q⟩)
      refine zC_isw hn hF w11 h0 h (fun q4 => ⟨fun q => absurd q (by decide), fun _ => c4 q1 q2 q3 q4⟩) (fun q4 => ⟨fun _ => ?_, fun q => absurd rfl q⟩)
      exact c5 q1 q2 q3 q4
    have mb : ∀ (B M : xMe) (Q : xMe → Prop), zM b n m B ν s M → (∀ M', zIw b n 9 s.p → zM b n m B ν (zG b n s) M' → p_X12_emit m 1 M' (fun M170 => p_X12_emit m 0 M170 (fun M175 => Q M175))) → (∀ M', ¬ zIw b n 9 s.p → zIw b n 1 s.p → zM b n m B ν (zG b n s) M' → p_X12_emit m 1 M' (fun M170 => p_X12_emit m 1 M170 (fun M175 => Q M175))) → (∀ M', ¬ zIw b n 9 s.p → ¬ zIw b n 1 s.p → zIw b n 10 s.p → zM b n m B ν (zG b n s) M' → p_X12_emit m 1 M' (fun M170 => p_X12_emit m 2 M170 (fun M175 => Q M175))) → (∀ M', ¬ zIw b n 9 s.p → ¬ zIw b n 1 s.p → ¬ zIw b n 10 s.p → zIw b n 11 s.p → zM b n m B ν (zG b n s) M' → p_X12_emit m 1 M' (fun M170 => p_X12_emit m 3 M170 (fun M175 => Q M175))) → (∀ M', ¬ zIw b n 9 s.p → ¬ zIw b n 1 s.p → ¬ zIw b n 10 s.p → ¬ zIw b n 11 s.p → zM b n m B ν s M' → p_X12_number F m 0 9999 M' (fun r152 M152 => p_X12_emit m 0 M152 (fun M170 => p_X12_emit m r152 M170 (fun M175 => Q M175)))) → p_X12_factor F PM m M Q := fun B M Q h c1 c2 c3 c4 c5 => by
      unfold p_X12_factor
      refine zM_good h (fun _ => ⟨fun _ => zM_next hn hF h0 h (fun M1 h1 k1 => ⟨fun _ => ?_, fun q => absurd q b40⟩), fun q => absurd q (by decide)⟩) (fun q => absurd h0 q)
      refine z_dig (fun q => ⟨fun r => absurd r (by decide), fun _ => ?_⟩) (fun _ => ⟨fun _ => ?_, fun r => absurd rfl r⟩)
      · have k := (zkd_dg.mpr q).1
        have nw : ∀ i, ¬ zIw b n i s.p := fun i r => by have := r.1; omega
        exact c5 M1 (nw _) (nw _) (nw _) (nw _) h1
      · refine zM_tw hn hF w9 h1 (fun q => absurd h0 q) (fun _ q1 M2 h2 => ⟨fun q => absurd q (by decide), fun _ => c1 M2 q1 h2⟩) (fun _ q1 M2 h2 => ⟨fun _ => ?_, fun q => absurd rfl q⟩)
        refine zM_tw hn hF w1 h2 (fun q => absurd h0 q) (fun _ q2 M3 h3 => ⟨fun q => absurd q (by decide), fun _ => c2 M3 q1 q2 h3⟩) (fun _ q2 M3 h3 => ⟨fun _ => ?_, fun q => absurd rfl q⟩)
        refine zM_tw hn hF w10 h3 (fun q => absurd h0 q) (fun _ q3 M4 h4 => ⟨fun q => absurd q (by decide), fun _ => c3 M4 q1 q2 q3 h4⟩) (fun _ q3 M4 h4 => ⟨fun _ => ?_, fun q => absurd rfl q⟩)
        refine zM_tw hn hF w11 h4 (fun q => absurd h0 q) (fun _ q4 M5 h5 => ⟨fun q => absurd q (by decide), fun _ => c4 M5 q1 q2 q3 q4 h5⟩) (fun _ q4 M5 h5 => ⟨fun _ => ?_, fun q => absurd rfl q⟩)
        exact c5 M5 q1 q2 q3 q4 h5
    have wk : ∀ i, zIw b n i s.p → zkd b n s.p ≠ -1 := fun i r => by have := r.1; omega
    by_cases q1 : zIw b n 9 s.p
    · obtain ⟨g1, g2, g3⟩ := zF_word (x := x) (m := m) (F := F) (ν := ν) (c := -5) (t := 1) (v := 0) hn hF h0 hJ dlt (wk _ q1) (by decide) (by decide) rfl
      exact ⟨_, g1, fun B M Q h hq => cb B M Q h (fun _ => g2 B M Q h hq) (fun q => absurd q1 q) (fun q => absurd q1 q) (fun q => absurd q1 q) (fun q => absurd q1 q), fun B M Q h hq => mb B M Q h (fun M' _ h' => g3 B M' Q h' hq) (fun _ q => absurd q1 q) (fun _ q => absurd q1 q) (fun _ q => absurd q1 q) (fun _ q => absurd q1 q)⟩
    by_cases q2 : zIw b n 1 s.p
    · obtain ⟨g1, g2, g3⟩ := zF_word (x := x) (m := m) (F := F) (ν := ν) (c := -6) (t := 1) (v := 1) hn hF h0 hJ dlt (wk _ q2) (by decide) (by decide) rfl
      exact ⟨_, g1, fun B M Q h hq => cb B M Q h (fun q => absurd q q1) (fun _ _ => g2 B M Q h hq) (fun _ q => absurd q2 q) (fun _ q => absurd q2 q) (fun _ q => absurd q2 q), fun B M Q h hq => mb B M Q h (fun _ q => absurd q q1) (fun M' _ _ h' => g3 B M' Q h' hq) (fun _ _ q => absurd q2 q) (fun _ _ q => absurd q2 q) (fun _ _ q => absurd q2 q)⟩
    by_cases q3 : zIw b n 10 s.p
    · obtain ⟨g1, g2, g3⟩ := zF_word (x := x) (m := m) (F := F) (ν := ν) (c := -7) (t := 1) (v := 2) hn hF h0 hJ dlt (wk _ q3) (by decide) (by decide) rfl
      exact ⟨_, g1, fun B M Q h hq => cb B M Q h (fun q => absurd q q1) (fun _ q => absurd q q2) (fun _ _ _ => g2 B M Q h hq) (fun _ _ q => absurd q3 q) (fun _ _ q => absurd q3 q), fun B M Q h hq => mb B M Q h (fun _ q => absurd q q1) (fun _ _ q => absurd q q2) (fun M' _ _ _ h' => g3 B M' Q h' hq) (fun _ _ _ q => absurd q3 q) (fun _ _ _ q => absurd q3 q)⟩
    by_cases q4 : zIw b n 11 s.p
    · obtain ⟨g1, g2, g3⟩ := zF_word (x := x) (m := m) (F := F) (ν := ν) (c := -8) (t := 1) (v := 3) hn hF h0 hJ dlt (wk _ q4) (by decide) (by decide) rfl
      exact ⟨_, g1, fun B M Q h hq => cb B M Q h (fun q => absurd q q1) (fun _ q => absurd q q2) (fun _ _ q => absurd q q3) (fun _ _ _ _ => g2 B M Q h hq) (fun _ _ _ q => absurd q4 q), fun B M Q h hq => mb B M Q h (fun _ q => absurd q q1) (fun _ _ q => absurd q q2) (fun _ _ _ q => absurd q q3) (fun M' _ _ _ _ h' => g3 B M' Q h' hq) (fun _ _ _ _ q => absurd q4 q)⟩
    have cb' : ∀ (B M : xMe) (Q : xMe → Prop), zC b n x B s M → p_X8_numberStands (x + 1) 0 9999 M (fun r122 M122 => ((r122 = 0 → Q M122) ∧ (r122 ≠ 0 → (∀ z135 : Int, z135 = M122 (x + 2) 6 → p_X8_emit (x + 1) z135 M122 (fun M142 => p_X9_moveOn F (x + 2) M142 (fun M149 => Q M149)))))) → p_X8_readFactor F PS (x + 1) ν M Q := fun B M Q h hh => cb B M Q h (fun q => absurd q q1) (fun _ q => absurd q q2) (fun _ _ q => absurd q q3) (fun _ _ _ q => absurd q q4) (fun _ _ _ _ => hh)
    have mb' : ∀ (B M : xMe) (Q : xMe → Prop), zM b n m B ν s M → (∀ M', zM b n m B ν s M' → p_X12_number F m 0 9999 M' (fun r152 M152 => p_X12_emit m 0 M152 (fun M170 => p_X12_emit m r152 M170 (fun M175 => Q M175)))) → p_X12_factor F PM m M Q := fun B M Q h hh => mb B M Q h (fun _ q => absurd q q1) (fun _ _ q => absurd q q2) (fun _ _ _ q => absurd q q3) (fun _ _ _ _ q => absurd q q4) (fun M' _ _ _ _ => hh M')
    by_cases k257 : zkd b n s.p = 257
    · by_cases hr : 0 ≤ znu b n s.p ∧ znu b n s.p ≤ 9999
      · obtain ⟨g1, g2, g3⟩ := zF_word (x := x) (m := m) (F := F) (ν := ν) (c := znu b n s.p) (t := 0) (v := znu b n s.p) hn hF h0 hJ dlt (fun q => absurd (k257.symm.trans q) (by decide)) (by omega) (by omega) (by unfold yEn; rw [if_neg (by omega), if_neg (by omega)])
        refine ⟨_, g1, fun B M Q h hq => cb' B M Q h (zC_stands (by decide) (by decide) h (fun q => absurd h0 q) (fun _ q => absurd k257 q) (fun _ _ q => absurd hr q) (fun _ _ _ k6 => ⟨fun q => absurd q (by decide), fun _ z ez => ?_⟩)), fun B M Q h hq => mb' B M Q h (fun M1 h1 => zM_num hn hF (by decide) (by decide) hb h1 (fun q => absurd h0 q) (fun _ q => absurd k257 q) (fun _ _ q => absurd hr q) (fun _ _ _ M' h' _ => g3 B M' Q h' hq))⟩
        rw [ez.trans k6]
        exact g2 B M Q h hq
      · have z3 : (zE s (-3)).e ≠ 0 := show ¬ ((-3 : Int)) = 0 by decide
        exact ⟨zE s (-3), fun q => absurd q z3, fun B M Q h hq => cb' B M Q h (zC_stands (by decide) (by decide) h (fun q => absurd h0 q) (fun _ q => absurd k257 q) (fun _ _ _ M' h' => ⟨fun _ => hq M' h', fun q => absurd rfl q⟩) (fun _ _ q => absurd q hr)), fun B M Q h hq => mb' B M Q h (fun M1 h1 => zM_num hn hF (by decide) (by decide) hb h1 (fun q => absurd h0 q) (fun _ q => absurd k257 q) (fun _ _ _ M' r h' _ _ => zM_opd2 z3 h' (hq M' h')) (fun _ _ q => absurd q hr))⟩
    · have z2 : (zE s (-2)).e ≠ 0 := show ¬ ((-2 : Int)) = 0 by decide
      exact ⟨zE s (-2), fun q => absurd q z2, fun B M Q h hq => cb' B M Q h (zC_stands (by decide) (by decide) h (fun q => absurd h0 q) (fun _ _ M' h' => ⟨fun _ => hq M' h', fun q => absurd rfl q⟩) (fun _ q => absurd q k257) (fun _ q => absurd q k257)), fun B M Q h hq => mb' B M Q h (fun M1 h1 => zM_num hn hF (by decide) (by decide) hb h1 (fun q => absurd h0 q) (fun _ _ M' h' => zM_opd2 z2 h' (hq M' h')) (fun _ q => absurd q k257) (fun _ q => absurd q k257))⟩
end ZX
