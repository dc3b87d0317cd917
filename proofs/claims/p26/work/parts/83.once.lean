/-! LAYER 2, load: fee, refund, price, the statement -/
def zCfe (F : Nat) (a : Nat) (M82 : xMe) (Q : xMe → Prop) : Prop := (∀ M97 : xMe, M97 = xw M82 a 6 1 → p_X9_moveOn F (a + 1) M97 (fun M104 => p_X8_takeNumber F a 0 99 M104 (fun r115 M115 => (∀ M118 : xMe, M118 = xw M115 (a + 3) 8 r115 → Q M118))))
def zCre (F : Nat) (a : Nat) (M130 : xMe) (Q : xMe → Prop) : Prop := (∀ M145 : xMe, M145 = xw M130 a 7 1 → p_X9_moveOn F (a + 1) M145 (fun M152 => p_X8_takeNumber F a 0 100 M152 (fun r163 M163 => (∀ M166 : xMe, M166 = xw M163 (a + 3) 9 r163 → p_X8_takeNumber F a 1 999 M166 (fun r178 M178 => (∀ M181 : xMe, M181 = xw M178 (a + 3) 10 r178 → Q M181))))))
def zCpr (F : Nat) (a : Nat) (M193 : xMe) (Q : xMe → Prop) : Prop := (∀ M208 : xMe, M208 = xw M193 a 8 1 → p_X9_moveOn F (a + 1) M208 (fun M215 => (∀ M220 : xMe, M220 = xw M215 a 5 0 → p_X8_readSumR F a 8 0 M220 (fun M225 => Q M225))))
section ZFE
variable {b : Nat → Int} {n x m F N many : Nat} {B M M' : xMe} {s s' : zS} {Q : xMe → Prop} {R : Int → xMe → Prop} {d g k v th z9 : Int} {A A' : yA}
theorem zM_u {V : Int} {u' : Int × Int × Int} (h : zM b n m B d s M) (hV : 0 ≤ V ∧ V < 8) (hu : s.e = 0 → V = u'.1 + 2 * u'.2.1 + 4 * u'.2.2) : zM b n m B d (zX s s.A u') (xw M m 16 V) := by
  have fB : ∀ c, c ≠ m → xw M m 16 V c = M c := fun c hc => xw_B hc
  have fj : ∀ j, j ≠ 16 → xw M m 16 V m j = M m j := fun j hj => xw_j hj
  exact zM_f (s' := zX s s.A u') h (by rw [fj _ (by decide)]; exact h.1.1) (by rw [fj _ (by decide)]; exact h.1.2) (by rw [xw_s]; exact hV) (by rw [fB _ (by omega)]; exact h.2.2.2.2.1) (fun c hc _ => fB c hc) (fun j j1 j2 => fj j (by omega)) (fun q => ⟨by rw [fj _ (by decide)]; exact (h.2.2.2.2.2.2.2 q).1, zD_r (h.2.2.2.2.2.2.2 q).2.1 (fB _ (by omega)), by rw [xw_s]; exact hu q⟩) d (by rw [fj _ (by decide)]; exact h.2.2.1)
/-! the three numbers of a setup -/
theorem zI_pr (h : zI A) (hk : (k = 9 ∧ 0 ≤ v ∧ v ≤ 99) ∨ (k = 10 ∧ 0 ≤ v ∧ v ≤ 100) ∨ (k = 11 ∧ 1 ≤ v ∧ v ≤ 999)) : zI (yw A k v) := by
  have e : ∀ k', k' ≠ k → yS (yw A k v) k' = yS A k' := fun k' h => yup_n h
  have es : yS (yw A k v) k = v := yup_s
  have eC : yC (yw A k v) = yC A := rfl
  have eP : yP (yw A k v) = yP A := rfl
  have eQ : yQ (yw A k v) = yQ A := rfl
  generalize yw A k v = A' at *
  obtain ⟨h1, h2, h3, h4, h5, h6', h7, h8, h9, h10, h11⟩ := h
  obtain ⟨n1, n2, n3, n4, n5, n6⟩ := id h1
  refine ⟨?_, fun g g0 g1 => ?_, fun g g0 g1 => ?_, fun p p0 p1 => ?_, ?_, ?_, fun f f0 f1 => ?_, fun k hk => ?_, ?_, eP.trans h10, eQ.trans h11⟩
  · unfold yN; rw [e 1 (by omega), e 2 (by omega), e 3 (by omega)]; exact h1
  · rw [e 1 (by omega)] at g1; rw [e _ (by omega), e _ (by omega), e _ (by omega)]; exact h2 g g0 g1
  · rw [e 2 (by omega)] at g1
    rw [e (33 + 8 * g) (by omega), e (34 + 8 * g) (by omega), e 1 (by omega)]
    obtain ⟨a1, a2, a3, a4, a5⟩ := h3 g g0 g1
    exact ⟨a1, a2, a3, a4, fun j j0 j1 => by rw [e _ (by omega)]; exact a5 j j0 j1⟩
  · rw [e 3 (by omega)] at p1
    rw [e (81 + 9 * p) (by omega), e (82 + 9 * p) (by omega), e (83 + 9 * p) (by omega), e (84 + 9 * p) (by omega), e (85 + 9 * p) (by omega), e (86 + 9 * p) (by omega), e (87 + 9 * p) (by omega), e (88 + 9 * p) (by omega), e 2 (by omega)]; exact h4 p p0 p1
  · rcases hk with ⟨rfl, q⟩ | ⟨rfl, q⟩ | ⟨rfl, q⟩
    · rw [es, e 10 (by omega), e 11 (by omega)]; omega
    · rw [es, e 9 (by omega), e 11 (by omega)]; omega
    · rw [es, e 9 (by omega), e 10 (by omega)]; omega
  · rw [e 0 (by omega), e 5 (by omega), e 6 (by omega), e 7 (by omega), e 8 (by omega)]; exact h6'
  · rw [e (35 + 8 * f) (by omega), e (36 + 8 * f) (by omega), e (34 + 8 * f) (by omega), e 2 (by omega)]; exact h7 f f0 f1
  · rw [e _ (by omega)]; exact h8 _ hk
  · rw [eC, e 2 (by omega)]; exact h9
theorem zR_w {w o : Nat} {i : Int} (hN : yN A) (h : zR w M A) (hl : yL A o i k) (hk : yFx k) : zR w (xw M (w + o) i.toNat v) (yw A k v) := by
  intro o' i' k' ho hl'
  rw [yL_w hN hk] at hl'
  have a1 := yL_in hN hl
  have a2 := yL_in hN hl'
  rw [yS_w]
  by_cases e : o' = o
  · subst e
    by_cases e2 : i' = i
    · subst e2
      rw [xw_s, ← yL_kfun hN hl hl', yup_s]
    · rw [xw_j (by omega), h _ _ _ ho hl', yup_n]
      intro q; subst q; exact e2 (yL_fun hN hl' hl)
  · rw [xw_b (by omega), h _ _ _ ho hl', yup_n]
    intro q; subst q; exact e (a2.1.trans a1.1.symm)
theorem zC_pr {i : Nat} (h0 : s.e = 0) (hI : zI s.A) (h : zC b n x B s M) (hk : (i = 8 ∧ k = 9) ∨ (i = 9 ∧ k = 10) ∨ (i = 10 ∧ k = 11)) : zC b n x B (zX s (yw s.A k v) s.u) (xw M (x + 4) i v) := by
  obtain ⟨o1, o2, o3⟩ := h.2.2.2.2.2 h0
  have fB : ∀ c, c ≠ x + 4 → xw M (x + 4) i v c = M c := fun c hc => xw_B hc
  have hR : zR (x + 4) (xw M (x + 4) i v) (yw s.A k v) := zR_w (o := 0) (i := (i : Int)) hI.1 o3.1 (by show (((i : Int) = 7 ∧ k = 0) ∨ ((i : Int) = 8 ∧ k = 9) ∨ ((i : Int) = 9 ∧ k = 10) ∨ ((i : Int) = 10 ∧ k = 11) ∨ ((i : Int) = 11 ∧ k = 7) ∨ ((i : Int) = 12 ∧ k = 8)); omega) (by unfold yFx; omega)
  have hN : yN (yw s.A k v) := by
    unfold yN
    rw [show yS (yw s.A k v) 1 = yS s.A 1 from yup_n (by omega), show yS (yw s.A k v) 2 = yS s.A 2 from yup_n (by omega), show yS (yw s.A k v) 3 = yS s.A 3 from yup_n (by omega)]
    exact hI.1
  exact zC_dr h ⟨by rw [fB _ (by omega)], by rw [fB _ (by omega)]⟩ (fB _ (by omega)) (fun c hc => fB c (by omega)) hN (zCd_dr o3 hR (yU_row o3.2.1 (fun b b1 b2 => fB b (by omega))) rfl (fB _ (by omega)) (fB _ (by omega)) (fB _ (by omega)))
theorem zC_we {i : Nat} (h0 : s.e ≠ 0) (h : zC b n x B s M) : zC b n x B s (xw M (x + 4) i v) := by
  have fB : ∀ c, c ≠ x + 4 → xw M (x + 4) i v c = M c := fun c hc => xw_B hc
  exact zC_f h ⟨by rw [fB _ (by omega)], by rw [fB _ (by omega)]⟩ (by rw [fB _ (by omega)]) (by rw [fB _ (by omega)]; exact h.2.2.1) (by rw [fB _ (by omega)]; exact h.2.2.2.1) (fun c hc => fB c (by omega)) rfl rfl (fun q => absurd q h0)
theorem zC_u {j : Nat} {u' : Int × Int × Int} (h0 : s.e = 0) (hN : yN s.A) (h : zC b n x B s M) (hj : (j = 6 ∧ u' = (v, s.u.2.1, s.u.2.2)) ∨ (j = 7 ∧ u' = (s.u.1, v, s.u.2.2))) : zC b n x B (zX s s.A u') (xw M (x + 1) j v) := by
  obtain ⟨o1, o2, o3, o4, o5, o6, o7⟩ := h.2.2.2.2.2 h0
  have fB : ∀ c, c ≠ x + 1 → xw M (x + 1) j v c = M c := fun c hc => xw_B hc
  refine zC_dr h ⟨xw_j (by omega), xw_j (by omega)⟩ (fB _ (by omega)) (fun c hc => fB c (by omega)) hN ⟨zR_s o3 (fun o i k _ hl => ⟨hl, rfl⟩) (fun b b1 b2 => fB b (by omega)) hN, yU_row o4 (fun b b1 b2 => fB b (by omega)), by rw [fB _ (by omega)]; exact o5, ?_, fun q => ?_⟩
  · rcases hj with ⟨rfl, rfl⟩ | ⟨rfl, rfl⟩
    · exact ⟨xw_s, (xw_j (by decide)).trans o6.2.1, (xw_j (by decide)).trans o6.2.2⟩
    · exact ⟨(xw_j (by decide)).trans o6.1, xw_s, (xw_j (by decide)).trans o6.2.2⟩
  · have q' : s.u.2.2 ≠ 0 := by rcases hj with ⟨_, rfl⟩ | ⟨_, rfl⟩ <;> exact q
    have a := o7 q'
    rw [xw_j (by omega), fB _ (by omega)]; exact a
end ZFE
