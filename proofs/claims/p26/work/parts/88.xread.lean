/-! LAYER 2, load: the class's reader from its beginning to its end -/
def zNw (t t1 : xTh) (w L : Nat) : Prop := xqs t t1 ∧ (∀ w', w' ≠ w → xk t w' ≤ 22 → xr t1 w' 6 = xr t w' 6) ∧ xz t ≤ xq t1 w ∧ xk t1 (xq t1 w + 1) = 14 ∧ xk t1 (xq t1 w + 2) = 14 ∧ xqn t1 w = L
section ZRD
variable {b : Nat → Int} {n x m F N w : Nat} {B M M' : xMe} {s s' : zS} {Q : xTh → xMe → Prop} {R : Int → xMe → Prop} {d g f k v th z9 : Int} {A A' : yA} {t t' t1 : xTh}
theorem zNw_of {L : Nat} (h : xqp t t1 w L) : zNw t t1 w L := by
  obtain ⟨a1, a2, a3, a4, a5, a6⟩ := h
  have o := a3.2
  exact ⟨a1, a6, by omega, o.2.2.1, o.2.2.2.2.2.1, a5⟩
theorem zNw_tr {L L' : Nat} (h : zNw t t1 w L) (g : xqp t1 t' w L') : zNw t t' w L' := by
  obtain ⟨a1, a2, a3, a4, a5, a6⟩ := zNw_of g
  refine ⟨xqs_trans h.1 a1, fun w' h1 h2 => (a2 w' h1 ?_).trans (h.2.1 w' h1 h2), Nat.le_trans h.1.1.1 a3, a4, a5, a6⟩
  rw [(h.1.1.2 w' h2).1]; exact h2
theorem s_clear {Q : xTh → xMe → Prop} (hz : x + 453 ≤ xz t) (hq : ∀ t1 M1, xqp t t1 (x + 4) 1 → (M1 (x + 5) 3 = 0 ∧ M1 (x + 9) 4 = 0 ∧ M1 (x + 20) 8 = 0 ∧ M1 (x + 29) 4 = 0 ∧ M1 (x + 34) 5 = 0 ∧ M1 (x + 34) 6 = 0) → (M1 (x + 4) 7 = 0 ∧ M1 (x + 4) 8 = 1 ∧ M1 (x + 4) 9 = 50 ∧ M1 (x + 4) 10 = 10 ∧ M1 (x + 4) 11 = 0 ∧ M1 (x + 4) 12 = 0) → M1 (xz t + 1) 0 = -5 → (∀ c, c < xz t → c ≠ x + 4 → c ≠ x + 5 → c ≠ x + 9 → c ≠ x + 20 → c ≠ x + 29 → c ≠ x + 34 → M1 c = M c) → Q t1 M1) : p_X10_clear t (x + 4) M Q := by
  unfold p_X10_clear p_X6_clear
  intro M1 e1 M2 e2 M3 e3 M4 e4 M5 e5 M6 e6 t1 M7 ht e7 M8 e8 M9 e9 M10 e10 M11 e11 M12 e12 M13 e13
  have b6 : ∀ c, c ≠ x + 5 → c ≠ x + 9 → c ≠ x + 20 → c ≠ x + 29 → c ≠ x + 34 → M6 c = M c := fun c c1 c2 c3 c4 c5 => by
    rw [e6, xw_B (by omega), e5, xw_B (by omega), e4, xw_B (by omega), e3, xw_B (by omega), e2, xw_B (by omega), e1, xw_B (by omega)]
  have b7 : ∀ c, c < xz t → M7 c = M6 c := fun c hc => by
    rw [e7]
    funext j
    show (if c = xz t + 2 then 0 else xw (xw0 (xw0 M6 (xz t)) (xz t + 1)) (xz t + 1) 0 (-5) c j) = _
    rw [if_neg (by omega), xw_b (by omega)]
    show (if c = xz t + 1 then 0 else if c = xz t then 0 else M6 c j) = _
    rw [if_neg (by omega), if_neg (by omega)]
  have b13 : ∀ c, c ≠ x + 4 → M13 c = M7 c := fun c hc => by
    rw [e13, xw_B hc, e12, xw_B hc, e11, xw_B hc, e10, xw_B hc, e9, xw_B hc, e8, xw_B hc]
  have bb : ∀ c, c < xz t → c ≠ x + 4 → M13 c = M6 c := fun c h1 h2 => (b13 c h2).trans (b7 c h1)
  refine hq t1 M13 ht ⟨?_, ?_, ?_, ?_, ?_, ?_⟩ ⟨?_, ?_, ?_, ?_, ?_, ?_⟩ ?_ (fun c c1 c2 c3 c4 c5 c6 c7 => (bb c c1 c2).trans (b6 c c3 c4 c5 c6 c7))
  · rw [bb _ (by omega) (by omega), e6, xw_b (by omega), e5, xw_b (by omega), e4, xw_b (by omega), e3, xw_b (by omega), e2, xw_b (by omega), e1]; exact xw_s
  · rw [bb _ (by omega) (by omega), e6, xw_b (by omega), e5, xw_b (by omega), e4, xw_b (by omega), e3, xw_b (by omega), e2]; exact xw_s
  · rw [bb _ (by omega) (by omega), e6, xw_b (by omega), e5, xw_b (by omega), e4, xw_b (by omega), e3]; exact xw_s
  · rw [bb _ (by omega) (by omega), e6, xw_b (by omega), e5, xw_b (by omega), e4]; exact xw_s
  · rw [bb _ (by omega) (by omega), e6, xw_j (by decide), e5]; exact xw_s
  · rw [bb _ (by omega) (by omega), e6]; exact xw_s
  · rw [e13, xw_j (by decide), e12, xw_j (by decide), e11, xw_j (by decide), e10, xw_j (by decide), e9, xw_j (by decide), e8]; exact xw_s
  · rw [e13, xw_j (by decide), e12, xw_j (by decide), e11, xw_j (by decide), e10, xw_j (by decide), e9]; exact xw_s
  · rw [e13, xw_j (by decide), e12, xw_j (by decide), e11, xw_j (by decide), e10]; exact xw_s
  · rw [e13, xw_j (by decide), e12, xw_j (by decide), e11]; exact xw_s
  · rw [e13, xw_j (by decide), e12]; exact xw_s
  · rw [e13]; exact xw_s
  · rw [b13 _ (by omega), e7]
    show (if xz t + 1 = xz t + 2 then 0 else xw (xw0 (xw0 M6 (xz t)) (xz t + 1)) (xz t + 1) 0 (-5) (xz t + 1) 0) = _
    rw [if_neg (by omega), xw_s]
theorem s_X8_read {Q : xTh → xMe → Prop} (hn : n ≤ 700) (hF : 702 ≤ F) (hz : x + 453 ≤ xz t) (hM : ∀ j : Nat, j < n → (-128 ≤ M (x + 3) j ∧ M (x + 3) j ≤ 127) ∧ b j = M (x + 3) j % 256) (hT : s'.e = 0 → zT n s') (htop : ∀ (B M : xMe) (t : xTh) (Q : xTh → xMe → Prop) (K : xMe → Prop), zC b n x B (zs0 b n) M → (∀ M', zC b n x B s' M' → K M') → p_X9_isWord F (x + 2) 0 M (fun r46 M46 => ((r46 = 0 → p_X8_fail (x + 1) (-2) M46 (fun M71 => p_X8_read_76 F (x + 1) t Q K F 0 M71)) ∧ (r46 ≠ 0 → p_X9_moveOn F (x + 2) M46 (fun M56 => p_X8_takeSign F (x + 1) 59 M56 (fun M62 => p_X8_read_76 F (x + 1) t Q K F 0 M62))))))
    (he : s'.e ≠ 0 → ∀ t1 M1, zNw t t1 (x + 4) 1 → M1 (x + 1) 2 = s'.e → M1 (x + 1) 3 = s'.w → (∀ c, ¬ (x + 1 ≤ c ∧ c ≤ x + 43 ∧ c ≠ x + 3) → c < xz t → M1 c = M c) → Q t1 M1)
    (hg : s'.e = 0 → ∀ t1 M1, zNw t t1 (x + 4) (yK (zFin s'.A)).length → yCR (x + 4) M1 (zFin s'.A) → (∀ (i : Nat) (v : Int), (yK (zFin s'.A))[i]? = some v → M1 (xq t1 (x + 4) + 1) i = v) → M1 (x + 1) 2 = 0 → M1 (x + 1) 3 = s'.w → (∀ c, ¬ (x + 1 ≤ c ∧ c ≤ x + 43 ∧ c ≠ x + 3) → c < xz t → M1 c = M c) → Q t1 M1) : p_X8_read F t (x + 1) (n : Int) M Q := by
  unfold p_X8_read
  intro M1 e1 M2 e2 M3 e3 M4 e4 M5 e5
  have b5 : ∀ c, c ≠ x + 1 → M5 c = M c := fun c hc => by rw [e5, xw_B hc, e4, xw_B hc, e3, xw_B hc, e2, xw_B hc, e1, xw_B hc]
  have r2 : M5 (x + 1) 2 = 0 := by rw [e5, xw_j (by decide), e4, xw_j (by decide), e3, xw_j (by decide), e2, xw_j (by decide), e1]; exact xw_s
  have r3 : M5 (x + 1) 3 = -1 := by rw [e5, xw_j (by decide), e4, xw_j (by decide), e3, xw_j (by decide), e2]; exact xw_s
  have r6 : M5 (x + 1) 6 = 0 := by rw [e5, xw_j (by decide), e4, xw_j (by decide), e3]; exact xw_s
  have r7 : M5 (x + 1) 7 = 0 := by rw [e5, xw_j (by decide), e4]; exact xw_s
  have r8 : M5 (x + 1) 8 = 0 := by rw [e5]; exact xw_s
  refine s_clear (x := x) hz (fun t1 M6 ht c1 c2 c3 c4 => ?_)
  obtain ⟨k1, k2, k3, k4, k5, k6⟩ := c1
  obtain ⟨l1, l2, l3, l4, l5, l6⟩ := c2
  have b61 : M6 (x + 1) = M5 (x + 1) := c4 _ (by omega) (by omega) (by omega) (by omega) (by omega) (by omega) (by omega)
  have b63 : M6 (x + 3) = M (x + 3) := (c4 _ (by omega) (by omega) (by omega) (by omega) (by omega) (by omega) (by omega)).trans (b5 _ (by omega))
  have nw1 := zNw_of ht
  have hq1 : xq t1 (x + 4) = xz t := ht.2.2.2.1
  unfold p_X9_open
  intro M7 e7 M8 e8
  have b8 : ∀ c, c ≠ x + 2 → M8 c = M6 c := fun c hc => by rw [e8, xw_B hc, e7, xw_B hc]
  have t2 : M8 (x + 2) 2 = (n : Int) := by rw [e8, show x + 1 + 1 = x + 2 from rfl, xw_j (by decide), e7, show x + 1 + 1 = x + 2 from rfl, xw_s]; omega
  have t3 : M8 (x + 2) 3 = ((0 : Nat) : Int) := by rw [e8, show x + 1 + 1 = x + 2 from rfl, xw_s]; rfl
  have tx8 : zTx b n x M8 := ⟨t2, fun j hj => by rw [b8 _ (by omega), b63]; exact hM j hj⟩
  refine z_mv (x := x) hn hF (Nat.zero_le n) tx8 t3 (fun M9 kk ff => ?_)
  have b9 : ∀ c, c ≠ x + 2 → M9 c = M6 c := fun c hc => by rw [← b8 c hc]; funext j; exact ff c j (by omega)
  have h9 : zC b n x M9 (zs0 b n) M9 := by
    refine ⟨⟨?_, ?_⟩, zTx_f tx8 (ff _ _ (by omega)) (by rw [b9 _ (by omega), b8 _ (by omega)]), ?_, ?_, fun c _ => rfl, fun _ => ⟨zru_le (Nat.zero_le n), kk, ?_, ⟨?_, fun i v hv => by cases hv⟩, ?_, ⟨?_, ?_, ?_⟩, fun q => absurd rfl q⟩⟩
    · rw [b9 _ (by omega), b61]; exact r2
    · rw [b9 _ (by omega), b61]; exact r3
    · rw [b9 _ (by omega), k1]; decide
    · rw [b9 _ (by omega), k2]; decide
    · intro o i k ho hl
      have z1 : yS zA0 1 = 0 := rfl
      have z2 : yS zA0 2 = 0 := rfl
      have z3 : yS zA0 3 = 0 := rfl
      have hl' : yL zA0 o i k := hl
      show M9 (x + 4 + o) i.toNat = yS zA0 k
      unfold yL at hl'
      rw [z1, z2, z3] at hl'
      split at hl'
      · rw [b9 _ (by omega)]
        rcases hl' with q | q | q | q | q | q <;> obtain ⟨rfl, rfl⟩ := q
        · exact l1
        · exact l2
        · exact l3
        · exact l4
        · exact l5
        · exact l6
      · obtain ⟨rfl, rfl⟩ := hl'
        rw [b9 _ (by omega)]; exact k1
      · omega
      · omega
      · omega
      · obtain ⟨rfl, rfl⟩ := hl'
        rw [b9 _ (by omega)]; exact k2
      · obtain ⟨f, j, a1, a2, a3⟩ := hl'; omega
      · omega
      · omega
      · omega
      · exact absurd rfl ho
      · obtain ⟨rfl, rfl⟩ := hl'
        rw [b9 _ (by omega)]; exact k3
      all_goals first | omega | exact hl'.elim
    · rw [b9 _ (by omega)]; exact k4
    · rw [b9 _ (by omega)]; exact ⟨k5, k6⟩
    · rw [b9 _ (by omega), b61]; exact r6
    · rw [b9 _ (by omega), b61]; exact r7
    · rw [b9 _ (by omega), b61]; exact r8
  have fr : ∀ c, ¬ (x + 1 ≤ c ∧ c ≤ x + 43 ∧ c ≠ x + 3) → c < xz t → M9 c = M c := fun c h1 h2 => by
    rw [b9 c (by omega), c4 c h2 (by omega) (by omega) (by omega) (by omega) (by omega) (by omega), b5 c (by omega)]
  refine htop M9 M9 t1 Q _ h9 (fun M10 h10 => ?_)
  have fr10 : ∀ c, ¬ (x + 1 ≤ c ∧ c ≤ x + 43 ∧ c ≠ x + 3) → M10 c = M9 c := h10.2.2.2.2.1
  by_cases e0 : s'.e = 0
  · obtain ⟨T1, T2, T3, T4, T5, T6⟩ := hT e0
    obtain ⟨o1, o2, o3⟩ := h10.2.2.2.2.2 e0
    refine zC_done (by omega) e0 T2 h10 (fun M11 hC fC => ?_)
    have e11 : M11 (x + 1) = M10 (x + 1) := fC _ (by omega)
    have f11 : ∀ c, ¬ (x + 1 ≤ c ∧ c ≤ x + 43 ∧ c ≠ x + 3) → M11 c = M9 c := fun c hc => (fC c (by omega)).trans (fr10 c hc)
    have g2 : M11 (x + 1) 2 = 0 := by rw [e11]; exact h10.1.1.trans e0
    have g3 : M11 (x + 1) 3 = s'.w := by rw [e11]; exact h10.1.2
    have g8 : M11 (x + 1) 8 = s'.u.2.2 := by rw [e11]; exact o3.2.2.2.1.2.2
    refine ⟨fun q => absurd g2 q, fun _ => ?_⟩
    rw [g8]
    refine ⟨fun q => ?_, fun q => ?_⟩
    · -- no price told
      have hK : yK s'.A = [] := by
        rcases T3 with a | a
        · exact a.2
        · omega
      have eF : yK (zFin s'.A) = [-5] := if_pos hK
      refine hg e0 t1 M11 (by rw [eF]; exact nw1) hC (fun i v hv => ?_) g2 g3 (fun c h1 h2 => (f11 c h1).trans (fr c h1 h2))
      rw [eF] at hv
      rcases i with _ | i
      · have hv' : (-5 : Int) = v := Option.some.inj hv
        rw [← hv', hq1, f11 _ (by omega), b9 _ (by omega)]; exact c3
      · cases hv
    · have u1 : s'.u.2.2 = 1 := by
        rcases T3 with a | a
        · exact absurd a.1 q
        · exact a.1
      have kd : zKd (yK s'.A) 1 := by
        rcases T3 with a | a
        · exact absurd a.1 q
        · exact a.2
      have p7 := o3.2.2.2.2 q
      have g5 : M11 (x + 1) 5 = ((yK s'.A).length : Int) := by rw [e11]; exact p7.1
      have l := kd.2
      have eF : yK (zFin s'.A) = yK s'.A := if_neg (fun q2 => by rw [q2] at l; exact absurd l (by decide))
      rw [g5]
      refine ⟨fun r => by omega, fun _ => ⟨fun r => by omega, fun _ => ⟨⟨by omega, by omega⟩, fun t2' M12 hp e12 => ?_⟩⟩⟩
      rw [Int.toNat_natCast] at hp e12
      have zz : xz t1 = xz t + 3 := ht.2.1
      have hq2 : xq t2' (x + 4) = xz t1 := hp.2.2.2.1
      have f12 : ∀ c, c < xz t1 → M12 c = M11 c := fun c hc => by
        rw [e12]
        funext j
        show (if c = xz t1 + 2 then 0 else xcp (xw0 (xw0 M11 (xz t1)) (xz t1 + 1)) (x + 1 + 42) (xz t1 + 1) 0 0 _ c j) = _
        rw [if_neg (by omega)]
        show (if c = xz t1 + 1 then _ else (if c = xz t1 + 1 then 0 else if c = xz t1 then 0 else M11 c j)) = _
        rw [if_neg (by omega), if_neg (by omega), if_neg (by omega)]
      refine hg e0 t2' M12 (by rw [eF]; exact zNw_tr nw1 hp) (yCR_fr (zFin_g T2 T3 (by omega)).1.1.1.1 hC (fun b b1 b2 => f12 b (by omega))) (fun i v hv => ?_) (by rw [f12 _ (by omega)]; exact g2) (by rw [f12 _ (by omega)]; exact g3) (fun c h1 h2 => (f12 c (by omega)).trans ((f11 c h1).trans (fr c h1 h2)))
      rw [eF] at hv
      have hi := (List.getElem?_eq_some_iff.mp hv).1
      rw [hq2, e12]
      show (if xz t1 + 1 = xz t1 + 2 then 0 else xcp (xw0 (xw0 M11 (xz t1)) (xz t1 + 1)) (x + 1 + 42) (xz t1 + 1) 0 0 _ (xz t1 + 1) i) = _
      rw [if_neg (by omega)]
      show (if xz t1 + 1 = xz t1 + 1 then (if 0 ≤ i ∧ i < 0 + (yK s'.A).length then (if x + 1 + 42 = xz t1 + 1 then 0 else if x + 1 + 42 = xz t1 then 0 else M11 (x + 1 + 42) (0 + (i - 0))) else _) else _) = _
      rw [if_pos rfl, if_pos ⟨Nat.zero_le _, by omega⟩, if_neg (by omega), if_neg (by omega), show 0 + (i - 0) = i by omega]
      have a := p7.2 i v hv
      rw [← a]
      show M11 (x + 43) i = _
      rw [fC _ (by omega)]
  · refine zC_doneE (by omega) h10 (fun M11 fC => ?_)
    have e11 : M11 (x + 1) = M10 (x + 1) := fC _ (by omega)
    have g2 : M11 (x + 1) 2 = s'.e := by rw [e11]; exact h10.1.1
    refine ⟨fun _ => he e0 t1 M11 nw1 g2 (by rw [e11]; exact h10.1.2) (fun c h1 h2 => (fC c (by omega)).trans ((fr10 c h1).trans (fr c h1 h2))), fun q => absurd (g2.symm.trans q) e0⟩
end ZRD
