/-! THE LAW'S BUFFER: the text that was written so far -/
/-- four characters in one int -/
def rPk (T : List Int) (k : Nat) : Int := T.getD k 0 * 16777216 + T.getD (k + 1) 0 * 65536 + T.getD (k + 2) 0 * 256 + T.getD (k + 3) 0
def rBu (x bu : Nat) (t : xTh) (M : xMe) (T : List Int) : Prop := (∀ c ∈ T, 32 ≤ c ∧ c < 127) ∧ T.length ≤ 680 ∧ (xk t bu = 14 ∧ xn t bu = 8) ∧ M bu 0 = (T.length : Int) ∧ (∀ i, i < 5 → M bu (1 + i) = rPk T (20 * (T.length / 20) + 4 * i)) ∧ M (x + 2) 1 = ((20 * (T.length / 20) : Nat) : Int) ∧ ∀ j, j < 20 * (T.length / 20) → M (x + 3) j = T.getD j 0
def rBe (x bu : Nat) (M M' : xMe) : Prop := ∀ a, a ≠ bu → a ≠ x + 2 → a ≠ x + 3 → M' a = M a
section RBU
variable {F n x bu : Nat} {G : xGx} {t t' : xTh} {M M' M'' : xMe} {T : List Int} {c v : Int} {Q : xTh → xMe → Prop}
theorem rBe_refl : rBe x bu M M := fun _ _ _ _ => rfl
theorem rBe_tr (h : rBe x bu M M') (g : rBe x bu M' M'') : rBe x bu M M'' := fun a a1 a2 a3 => (g a a1 a2 a3).trans (h a a1 a2 a3)
theorem getD_r (h : ∀ c ∈ T, 32 ≤ c ∧ c < 127) (j : Nat) : 0 ≤ T.getD j 0 ∧ T.getD j 0 < 127 := by
  rw [List.getD_eq_getElem?_getD]
  rcases e : T[j]? with _ | v
  · exact ⟨Int.le_refl 0, (by decide : (0 : Int) < 127)⟩
  · have := h v (List.mem_of_getElem? e)
    show 0 ≤ v ∧ v < 127
    omega
theorem getD_hi {j : Nat} (h : T.length ≤ j) : T.getD j 0 = 0 := by
  rw [List.getD_eq_getElem?_getD, List.getElem?_eq_none h]; rfl
theorem getD_l {L : List Int} {j : Nat} (h : j < T.length) : (T ++ L).getD j 0 = T.getD j 0 := by
  rw [List.getD_eq_getElem?_getD, List.getD_eq_getElem?_getD, List.getElem?_append_left h]
theorem getD_m {L : List Int} : (T ++ c :: L).getD T.length 0 = c := by
  rw [List.getD_eq_getElem?_getD, List.getElem?_append_right (Nat.le_refl _), Nat.sub_self]; rfl
theorem rPk_by (h : ∀ c ∈ T, 32 ≤ c ∧ c < 127) (k m : Nat) (hm : m < 4) : Int.bmod (rPk T k / 2 ^ (8 * (3 - m))) 256 = T.getD (k + m) 0 := by
  have a0 := getD_r h k
  have a1 := getD_r h (k + 1)
  have a2 := getD_r h (k + 2)
  have a3 := getD_r h (k + 3)
  unfold rPk
  have hm' : m = 0 ∨ m = 1 ∨ m = 2 ∨ m = 3 := by omega
  have fin : ∀ {y w : Int}, 0 ≤ w → w < 127 → y % 256 = w → Int.bmod y 256 = w := fun {y w} b1 b2 b3 => by
    unfold Int.bmod
    rw [show ((256 : Nat) : Int) = 256 from rfl, b3]
    show (if w < 128 then w else w - 256) = w
    rw [if_pos (by omega)]
  rcases hm' with rfl | rfl | rfl | rfl
  · rw [show (2 : Int) ^ (8 * (3 - 0)) = 16777216 by decide]
    refine fin a0.1 a0.2 ?_
    show _ = T.getD k 0
    omega
  · rw [show (2 : Int) ^ (8 * (3 - 1)) = 65536 by decide]
    exact fin a1.1 a1.2 (by omega)
  · rw [show (2 : Int) ^ (8 * (3 - 2)) = 256 by decide]
    exact fin a2.1 a2.2 (by omega)
  · rw [show (2 : Int) ^ (8 * (3 - 3)) = 1 by decide]
    exact fin a3.1 a3.2 (by omega)
theorem rPk_hi {k : Nat} (h : T.length ≤ k) : rPk T k = 0 := by
  unfold rPk
  rw [getD_hi h, getD_hi (by omega), getD_hi (by omega), getD_hi (by omega)]; decide
/-- five words are appended, the words are cleared -/
theorem s_flush (hF : 7 ≤ F) (hT : ∀ c ∈ T, 32 ≤ c ∧ c < 127) (hX : oX11 t x ∧ oXQ t x) (hb : bu ≠ x + 2 ∧ bu ≠ x + 3) (hk : xn t bu = 8) {k : Nat} (hk2 : k ≤ 680) (hw : ∀ i, i < 5 → M bu (1 + i) = rPk T (k + 4 * i)) (h2 : M (x + 2) 1 = (k : Int)) (h3 : ∀ j, j < k → M (x + 3) j = T.getD j 0) (hq : ∀ M', M' bu 0 = M bu 0 → (∀ i, i < 5 → M' bu (1 + i) = 0) → M' (x + 2) 1 = ((k + 20 : Nat) : Int) → (∀ j, j < k + 20 → M' (x + 3) j = T.getD j 0) → rBe x bu M M' → Q t M') : p_L_flush F n t x bu M Q := by
  have bd : ∀ j : Int, 0 ≤ j → j < 8 → (0 : Int) ≤ j ∧ j < (xn t bu : Int) := fun j a c => ⟨a, by rw [hk]; exact c⟩
  unfold p_L_flush
  refine ⟨bd 1 (by decide) (by decide), bd 2 (by decide) (by decide), bd 3 (by decide) (by decide), bd 4 (by decide) (by decide), bd 5 (by decide) (by decide), hX, ?_⟩
  refine s_X11_append (by omega) h2 (by omega) (fun q => absurd q (by omega)) (fun _ M1 a1 a2 a3 => ?_)
  have w0 := hw 0 (by decide)
  have w1 := hw 1 (by decide)
  have w2 := hw 2 (by decide)
  have w3 := hw 3 (by decide)
  have w4 := hw 4 (by decide)
  have by20 : ∀ i : Nat, i < 20 → M1 (x + 3) (k + i) = T.getD (k + i) 0 := fun i hi => by
    rw [a2 i hi]
    unfold zab
    show Int.bmod ((if i < 4 then M bu (1 + 0) else if i < 8 then M bu (1 + 1) else if i < 12 then M bu (1 + 2) else if i < 16 then M bu (1 + 3) else M bu (1 + 4)) / 2 ^ (8 * (3 - i % 4))) 256 = _
    rw [w0, w1, w2, w3, w4]
    have go : ∀ m, m < 5 → i / 4 = m → Int.bmod (rPk T (k + 4 * m) / 2 ^ (8 * (3 - i % 4))) 256 = T.getD (k + i) 0 := fun m _ e => by
      rw [rPk_by hT _ _ (by omega)]
      congr 1; omega
    by_cases c1 : i < 4
    · rw [if_pos c1]; exact go 0 (by decide) (by omega)
    rw [if_neg c1]
    by_cases c2 : i < 8
    · rw [if_pos c2]; exact go 1 (by decide) (by omega)
    rw [if_neg c2]
    by_cases c3 : i < 12
    · rw [if_pos c3]; exact go 2 (by decide) (by omega)
    rw [if_neg c3]
    by_cases c4 : i < 16
    · rw [if_pos c4]; exact go 3 (by decide) (by omega)
    rw [if_neg c4]; exact go 4 (by decide) (by omega)
  have eb : ∀ j, M1 bu j = M bu j := fun j => a3 bu j (by omega) (by omega)
  -- the loop
  have lp : ∀ (d k2 i : Nat) (M2 : xMe), i + d = 6 → 1 ≤ i → d < k2 → (∀ a, a ≠ bu → M2 a = M1 a) → M2 bu 0 = M bu 0 → (∀ j, 1 ≤ j → j < i → M2 bu j = 0) → p_L_flush_22 F Q k2 n bu (i : Int) t M2 := by
    intro d
    induction d with
    | zero =>
      intro k2 i M2 hi h1 hk2' g1 g2 g3
      obtain ⟨k2, rfl⟩ : ∃ k', k2 = k' + 1 := ⟨k2 - 1, by omega⟩
      unfold p_L_flush_22
      refine ⟨fun _ => hq M2 g2 (fun j hj => g3 _ (by omega) (by omega)) (by rw [g1 _ (by omega), a1]; omega) (fun j hj => ?_) (fun a b1 b2 b3 => ?_), fun q => absurd q (by omega)⟩
      · rw [g1 _ (by omega)]
        by_cases c : j < k
        · rw [a3 _ _ (by omega) (by omega)]; exact h3 j c
        · have := by20 (j - k) (by omega)
          rw [show k + (j - k) = j by omega] at this
          exact this
      · rw [g1 a b1]; funext j; exact a3 a j (by omega) (by omega)
    | succ d ih =>
      intro k2 i M2 hi h1 hk2' g1 g2 g3
      obtain ⟨k2, rfl⟩ : ∃ k', k2 = k' + 1 := ⟨k2 - 1, by omega⟩
      unfold p_L_flush_22
      refine ⟨fun q => absurd q (by omega), fun _ => ⟨bd _ (by omega) (by omega), fun M3 e3 => ⟨⟨by omega, by omega⟩, ?_⟩⟩⟩
      rw [show (i : Int) + 1 = ((i + 1 : Nat) : Int) by omega]
      rw [Int.toNat_natCast] at e3
      refine ih k2 (i + 1) M3 (by omega) (by omega) (by omega) (fun a ha => by rw [e3, xw_B ha]; exact g1 a ha) (by rw [e3, xw_j (by omega)]; exact g2) (fun j j1 j2 => ?_)
      by_cases c : j = i
      · rw [e3, c]; exact xw_s
      · rw [e3, xw_j c]; exact g3 j j1 (by omega)
  exact lp 5 F 1 M1 (by decide) (by decide) (by omega) (fun _ _ => rfl) (eb 0) (fun j j1 j2 => absurd j1 (by omega))
set_option maxHeartbeats 4000000 in
theorem s_put (hF : 7 ≤ F) (h : rBu x bu t M T) (hX : oX11 t x ∧ oXQ t x) (hb : bu ≠ x + 2 ∧ bu ≠ x + 3) (hc : 32 ≤ c ∧ c < 127) (hl : T.length < 680) (hq : ∀ M', rBu x bu t M' (T ++ [c]) → rBe x bu M M' → Q t M') : p_L_put F n t x bu c M Q := by
  obtain ⟨hT, -, ⟨hk, hn⟩, h0, hw, h2, h3⟩ := h
  have bd : ∀ j : Int, 0 ≤ j → j < 8 → (0 : Int) ≤ j ∧ j < (xn t bu : Int) := fun j a c => ⟨a, by rw [hn]; exact c⟩
  have hT' : ∀ d ∈ T ++ [c], 32 ≤ d ∧ d < 127 := fun d hd => by
    rcases List.mem_append.mp hd with z | z
    · exact hT d z
    · rw [List.mem_singleton] at z; rw [z]; exact hc
  obtain ⟨L, hL⟩ : ∃ L, L = T.length := ⟨_, rfl⟩
  have t20 : Int.tmod (M bu 0) 20 = ((L % 20 : Nat) : Int) := by rw [h0, Int.tmod_eq_emod_of_nonneg (by omega), hL]; omega
  have t4 : Int.tmod (M bu 0) 4 = ((L % 4 : Nat) : Int) := by rw [h0, Int.tmod_eq_emod_of_nonneg (by omega), hL]; omega
  have d4 : Int.tdiv ((L % 20 : Nat) : Int) 4 = ((L % 20 / 4 : Nat) : Int) := by rw [Int.tdiv_eq_ediv_of_nonneg (by omega)]; omega
  unfold p_L_put
  rw [t20, t4, d4]
  have ei : (1 + ((L % 20 / 4 : Nat) : Int)).toNat = 1 + L % 20 / 4 := by omega
  have es : (24 - 8 * ((L % 4 : Nat) : Int)).toNat = 24 - 8 * (L % 4) := by omega
  rw [ei, es]
  have hwi := hw (L % 20 / 4) (by omega)
  rw [← hL] at hw hwi h2 h3
  rw [hwi]
  obtain ⟨K, hK⟩ : ∃ K, K = 20 * (L / 20) + 4 * (L % 20 / 4) := ⟨_, rfl⟩
  rw [← hK]
  obtain ⟨m, hm⟩ : ∃ m, m = L % 4 := ⟨_, rfl⟩
  have hLK : L = K + m := by omega
  rw [← hm]
  have m4 : m < 4 := by omega
  have g0 := getD_r hT K
  have g1 := getD_r hT (K + 1)
  have g2 := getD_r hT (K + 2)
  have g3 := getD_r hT (K + 3)
  have z : ∀ i, m ≤ i → T.getD (K + i) 0 = 0 := fun i hi => getD_hi (by omega)
  have new : ∀ i, (T ++ [c]).getD (K + i) 0 = if i = m then c else T.getD (K + i) 0 := fun i => by
    by_cases e : i = m
    · rw [if_pos e, e, ← hLK, hL]; exact getD_m
    · rw [if_neg e]
      by_cases e2 : K + i < T.length
      · exact getD_l e2
      · rw [getD_hi (by rw [List.length_append]; simp; omega), getD_hi (by omega)]
  have sum : rPk T K + c * 2 ^ (24 - 8 * m) = rPk (T ++ [c]) K ∧ (0 ≤ rPk T K ∧ rPk T K < 2147483648) ∧ (0 ≤ c * 2 ^ (24 - 8 * m) ∧ c * 2 ^ (24 - 8 * m) < 2147483648) ∧ rPk T K + c * 2 ^ (24 - 8 * m) < 2147483648 ∧ ∃ j : Nat, j ≤ 31 ∧ rPk T K % 2 ^ j = 0 ∧ c * 2 ^ (24 - 8 * m) < 2 ^ j := by
    have n0 := new 0
    have n1 := new 1
    have n2 := new 2
    have n3 := new 3
    have z0 := z 0
    have z1 := z 1
    have z2 := z 2
    have z3 := z 3
    rw [Nat.add_zero] at n0 z0
    unfold rPk
    rw [n0, n1, n2, n3]
    clear n0 n1 n2 n3 new z hw hwi h3 hT hT' h0 h2 hq hX t20 t4 d4 bd
    generalize T.getD K 0 = u0 at *
    generalize T.getD (K + 1) 0 = u1 at *
    generalize T.getD (K + 2) 0 = u2 at *
    generalize T.getD (K + 3) 0 = u3 at *
    have hm' : m = 0 ∨ m = 1 ∨ m = 2 ∨ m = 3 := by omega
    rcases hm' with e | e | e | e <;> rw [e] at z0 z1 z2 z3 ⊢
    · rw [z0 (by decide), z1 (by decide), z2 (by decide), z3 (by decide)]
      refine ⟨by simp, by simp, ?_, ?_, 31, by decide, by decide, ?_⟩ <;> simp <;> omega
    · rw [z1 (by decide), z2 (by decide), z3 (by decide)]
      refine ⟨by simp, by omega, ?_, ?_, 24, by decide, ?_, ?_⟩
      · simp; omega
      · simp; omega
      · rw [show (2 : Int) ^ 24 = 16777216 by decide]; omega
      · simp; omega
    · rw [z2 (by decide), z3 (by decide)]
      refine ⟨by simp, by omega, ?_, ?_, 16, by decide, ?_, ?_⟩
      · simp; omega
      · simp; omega
      · rw [show (2 : Int) ^ 16 = 65536 by decide]; omega
      · simp; omega
    · rw [z3 (by decide)]
      refine ⟨by simp, by omega, ?_, ?_, 8, by decide, ?_, ?_⟩
      · simp; omega
      · simp; omega
      · rw [show (2 : Int) ^ 8 = 256 by decide]; omega
      · simp; omega
  obtain ⟨s1, s2, s3, s4, j, j1, j2, j3⟩ := sum
  refine ⟨bd 0 (by decide) (by decide), ⟨by decide, by omega, by omega⟩, ⟨by decide, by omega, by omega⟩, ⟨by omega, by omega⟩, bd _ (by omega) (by omega), bd 0 (by decide) (by decide), ⟨by decide, by omega, by omega⟩, ⟨by omega, by omega⟩, ⟨by omega, by omega⟩, ⟨⟨by omega, by omega⟩, by omega, by omega⟩, j, ⟨j1, s2.1, j2, s3.1, j3, by omega, by omega⟩, bd _ (by omega) (by omega), fun M1 e1 => ⟨bd 0 (by decide) (by decide), ?_⟩⟩
  rw [s1] at e1
  have b0 : M1 bu 0 = (L : Int) := by rw [e1, xw_j (by omega), h0, hL]
  rw [b0]
  refine ⟨⟨by omega, by omega⟩, bd 0 (by decide) (by decide), fun M2 e2 => ⟨bd 0 (by decide) (by decide), ?_⟩⟩
  have c0 : M2 bu 0 = ((L + 1 : Nat) : Int) := by rw [e2]; exact xw_s
  rw [c0]
  have tt : Int.tmod ((L + 1 : Nat) : Int) 20 = (((L + 1) % 20 : Nat) : Int) := by rw [Int.tmod_eq_emod_of_nonneg (by omega)]; omega
  rw [tt]
  have len : (T ++ [c]).length = L + 1 := by rw [List.length_append, hL]; rfl
  have e12 : ∀ a, a ≠ bu → M2 a = M a := fun a ha => by rw [e2, xw_B ha, e1, xw_B ha]
  have cw : ∀ i, i < 5 → M2 bu (1 + i) = rPk (T ++ [c]) (20 * (L / 20) + 4 * i) := fun i hi => by
    rw [e2, xw_j (by omega), e1]
    by_cases e : i = L % 20 / 4
    · subst e; rw [xw_s, hK]
    · rw [xw_j (by omega), hw i hi]
      have same : ∀ o, o < 4 → T.getD (20 * (L / 20) + 4 * i + o) 0 = (T ++ [c]).getD (20 * (L / 20) + 4 * i + o) 0 := fun o ho => by
        by_cases q : 20 * (L / 20) + 4 * i + o < T.length
        · exact (getD_l q).symm
        · rw [getD_hi (by omega), getD_hi (by rw [len]; omega)]
      unfold rPk
      have s0 := same 0 (by decide)
      rw [Nat.add_zero] at s0
      rw [s0, same 1 (by decide), same 2 (by decide), same 3 (by decide)]
  have c3 : ∀ j, j < 20 * (L / 20) → M2 (x + 3) j = (T ++ [c]).getD j 0 := fun j hj => by
    rw [e12 _ (by omega), h3 j hj, getD_l (by omega)]
  refine ⟨⟨by decide, by omega, by omega⟩, fun q => ?_, fun q => ⟨0, by omega, ?_⟩⟩
  · have eq : (L + 1) / 20 = L / 20 := by omega
    refine hq M2 ⟨hT', by omega, ⟨hk, hn⟩, by rw [len]; exact c0, fun i hi => by rw [len, eq]; exact cw i hi, by rw [len, eq, e12 _ (by omega)]; exact h2, fun j hj => c3 j (by rw [len, eq] at hj; exact hj)⟩ (fun a a1 _ _ => e12 a a1)
  · have eq : 20 * ((L + 1) / 20) = 20 * (L / 20) + 20 := by omega
    refine s_flush hF hT' hX hb hn (k := 20 * (L / 20)) (by omega) cw (by rw [e12 _ (by omega)]; exact h2) c3 (fun M3 f1 f2 f3 f4 f5 => hq M3 ⟨hT', by omega, ⟨hk, hn⟩, by rw [f1, len]; exact c0, fun i hi => ?_, by rw [len, eq]; exact f3, fun j hj => f4 j (by rw [len, eq] at hj; exact hj)⟩ (fun a a1 a2 a3 => (f5 a a1 a2 a3).trans (e12 a a1)))
    rw [f2 i hi, rPk_hi (by rw [len]; omega)]
end RBU
