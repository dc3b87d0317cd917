section RT
variable {P S : Nat → Prop} {σ : Nat → Int} {RA : Int → Nat} {cl : List Nat} {t : xTh} {M : xMe} {r : Nat} {A : yA} {F n : Nat} {Q : Int → xTh → xMe → Prop} {f g p w : Int}
theorem s_count_14 {st : Int} (h : rRi P S σ RA cl t M r A) (hN : yN A) {b : Nat} (b4 : ∀ p, 0 ≤ p → p < yS A 3 → xr t b p.toNat = some (RA (81 + 9 * p)) ∧ xk t (RA (81 + 9 * p)) = 14 ∧ xn t (RA (81 + 9 * p)) = 8) (b3 : (xn t b : Int) = yS A 3) (hq : Q (ySp2 (fun p => if yS A (84 + 9 * p) = st then 1 else 0) (yS A 3).toNat) t M) :
    ∀ (d k i : Nat) (x : Int), (i : Int) + d = yS A 3 → d < k → x = ySp2 (fun p => if yS A (84 + 9 * p) = st then 1 else 0) i → 0 ≤ x → x ≤ i → p_X14_count_14 F Q k n st x b (yS A 3) (i : Int) t M := by
  obtain ⟨n1, n2, n3, n4, n5, n6⟩ := id hN
  intro d
  induction d with
  | zero =>
    intro k i x hi hk hx h0 h1
    obtain ⟨k, rfl⟩ : ∃ k', k = k' + 1 := ⟨k - 1, by omega⟩
    unfold p_X14_count_14
    refine ⟨fun _ => ?_, fun q => absurd q (by omega)⟩
    rw [show (yS A 3).toNat = i by omega] at hq
    rw [hx]; exact hq
  | succ d ih =>
    intro k i x hi hk hx h0 h1
    obtain ⟨k, rfl⟩ : ∃ k', k = k' + 1 := ⟨k - 1, by omega⟩
    have p0 : (0 : Int) ≤ i := by omega
    have p1 : (i : Int) < yS A 3 := by omega
    obtain ⟨c1, c2, c3⟩ := b4 _ p0 p1
    unfold p_X14_count_14
    refine ⟨fun q => absurd q (by omega), fun _ => ⟨⟨by omega, by omega⟩, _, c1, c2, ⟨by omega, by omega⟩, ?_⟩⟩
    rw [rRi_p3 h p0 p1]
    refine ⟨fun q => ⟨⟨by omega, by omega⟩, ih k (i + 1) x (by omega) (by omega) (by rw [ySp2, if_neg q, ← hx, Int.add_zero]) h0 (by omega)⟩, fun q => ⟨⟨by omega, by omega⟩, ⟨by omega, by omega⟩, ih k (i + 1) _ (by omega) (by omega) (by rw [ySp2, if_pos q, ← hx]) (by omega) (by omega)⟩⟩
theorem s_count {st : Int} (h : rRi P S σ RA cl t M r A) (hN : yN A) (hF : 50 ≤ F) (hq : Q (ySp2 (fun p => if yS A (84 + 9 * p) = st then 1 else 0) (yS A 3).toNat) t M) : p_X14_count F n t r st M Q := by
  obtain ⟨n1, n2, n3, n4, n5, n6⟩ := id hN
  obtain ⟨b, b1, b2, b3, b4⟩ := rRi_pk h
  unfold p_X14_count
  refine ⟨b, b1, b2, ⟨by omega, by omega⟩, fun z hz => ?_⟩
  rw [b3] at hz; subst hz
  exact s_count_14 h hN b4 b3 hq (yS A 3).toNat F 0 0 (by omega) (by omega) rfl (by omega) (by omega)
/-- p stands before q -/
def yBf4 (A : yA) (p q : Int) : Prop := yS A (88 + 9 * p) < yS A (88 + 9 * q) ∨ (yS A (88 + 9 * p) = yS A (88 + 9 * q) ∧ p ≤ q)
def yFs (A : yA) (RA : Int → Nat) (g f : Int) (i : Nat) (o : Option Nat) : Prop := (o = none ∧ ∀ p : Int, 0 ≤ p → p < i → ¬ yMb A g f p) ∨ ∃ q : Int, 0 ≤ q ∧ q < i ∧ yMb A g f q ∧ o = some (RA (81 + 9 * q)) ∧ ∀ p : Int, 0 ≤ p → p < i → yMb A g f p → yBf4 A q p
theorem s_first_16 {Q : Option Nat → xTh → xMe → Prop} (h : rRi P S σ RA cl t M r A) (hI : yI A) {b : Nat} (b4 : ∀ p, 0 ≤ p → p < yS A 3 → xr t b p.toNat = some (RA (81 + 9 * p)) ∧ xk t (RA (81 + 9 * p)) = 14 ∧ xn t (RA (81 + 9 * p)) = 8) (b3 : (xn t b : Int) = yS A 3) (hq : ∀ o, yFs A RA g f (yS A 3).toNat o → Q o t M) :
    ∀ (d k i : Nat) (o : Option Nat), (i : Int) + d = yS A 3 → d < k → yFs A RA g f i o → p_X14_first_16 F Q k n r g f o b (yS A 3) (i : Int) t M := by
  obtain ⟨n1, n2, n3, n4, n5, n6⟩ := id hI.1.1
  intro d
  induction d with
  | zero =>
    intro k i o hi hk ho
    obtain ⟨k, rfl⟩ : ∃ k', k = k' + 1 := ⟨k - 1, by omega⟩
    unfold p_X14_first_16
    refine ⟨fun _ => hq o ?_, fun q => absurd q (by omega)⟩
    rw [show (yS A 3).toNat = i by omega]
    exact ho
  | succ d ih =>
    intro k i o hi hk ho
    obtain ⟨k, rfl⟩ : ∃ k', k = k' + 1 := ⟨k - 1, by omega⟩
    have p0 : (0 : Int) ≤ i := by omega
    have p1 : (i : Int) < yS A 3 := by omega
    obtain ⟨c1, c2, c3⟩ := b4 _ p0 p1
    have no : ¬ yMb A g f i → xR ((i : Int) + 1) ∧ p_X14_first_16 F Q k n r g f o b (yS A 3) ((i : Int) + 1) t M := fun q => by
      refine ⟨⟨by omega, by omega⟩, ih k (i + 1) o (by omega) (by omega) ?_⟩
      rcases ho with ⟨ho, h2⟩ | ⟨u, u0, u1, u2, u3, u4⟩
      · exact Or.inl ⟨ho, fun p a c z => by
          by_cases e : p = i
          · exact q (e ▸ z)
          · exact h2 p a (by omega) z⟩
      · exact Or.inr ⟨u, u0, by omega, u2, u3, fun p a c z => by
          by_cases e : p = i
          · exact absurd (e ▸ z) q
          · exact u4 p a (by omega) z⟩
    unfold p_X14_first_16
    refine ⟨fun q => absurd q (by omega), fun _ => ⟨⟨by omega, by omega⟩, _, c1, c2, ⟨by omega, by omega⟩, ?_⟩⟩
    rw [rRi_p3 h p0 p1, rRi_p0 h p0 p1]
    refine ⟨fun q => no (fun z => q z.1), fun q1 => ⟨⟨by omega, by omega⟩, fun q => no (fun z => q z.2.1), fun q2 => ⟨0, by omega, ?_⟩⟩⟩
    have hg := yGt_ok hI.1 hI.2.2.1 p0 p1 (by omega)
    refine s_gateOf h p0 p1 hg.1 hg.2.1 hg.2.2.1 hg.2.2.2.1 ⟨fun q => no (fun z => q z.2.2), fun q3 => ?_⟩
    have me : yMb A g f i := ⟨q1, q2, q3⟩
    refine ⟨fun e => ⟨⟨by omega, by omega⟩, ih k (i + 1) _ (by omega) (by omega) ?_⟩, fun b57 e => ?_⟩
    · refine Or.inr ⟨i, p0, by omega, me, rfl, fun p a c z => ?_⟩
      by_cases e2 : p = i
      · exact Or.inr ⟨by rw [e2], by omega⟩
      · rcases ho with ⟨ho, h2⟩ | ⟨u, u0, u1, u2, u3, u4⟩
        · exact absurd z (h2 p a (by omega))
        · rw [e] at u3; cases u3
    · rcases ho with ⟨ho, h2⟩ | ⟨u, u0, u1, u2, u3, u4⟩
      · rw [ho] at e; cases e
      · rw [e] at u3
        cases u3
        obtain ⟨d1, d2, d3⟩ := b4 u u0 (by omega)
        rw [rRi_p7 h p0 p1, rRi_p7 h u0 (by omega)]
        refine ⟨⟨by omega, by omega⟩, ⟨by omega, by omega⟩, fun q => ⟨⟨by omega, by omega⟩, ih k (i + 1) _ (by omega) (by omega) (Or.inr ⟨u, u0, by omega, u2, rfl, fun p a c z => ?_⟩)⟩, fun q => ⟨⟨by omega, by omega⟩, ih k (i + 1) _ (by omega) (by omega) (Or.inr ⟨i, p0, by omega, me, rfl, fun p a c z => ?_⟩)⟩⟩
        · by_cases e2 : p = i
          · subst e2; unfold yBf4; omega
          · exact u4 p a (by omega) z
        · by_cases e2 : p = i
          · subst e2; exact Or.inr ⟨rfl, by omega⟩
          · have := u4 p a (by omega) z
            unfold yBf4 at this ⊢
            omega
theorem s_first {Q : Option Nat → xTh → xMe → Prop} (h : rRi P S σ RA cl t M r A) (hI : yI A) (hx : yQx A) (hF : 50 ≤ F) (f0 : 0 ≤ f) (f1 : f < yS A 2) (h0 : yQ A (6 * g + f) = [] → Q none t M) (h1 : ∀ p l, yQ A (6 * g + f) = p :: l → Q (some (RA (81 + 9 * p))) t M) : p_X14_first F n t r g f M Q := by
  obtain ⟨n1, n2, n3, n4, n5, n6⟩ := id hI.1.1
  obtain ⟨b, b1, b2, b3, b4⟩ := rRi_pk h
  unfold p_X14_first
  refine ⟨b, b1, b2, ⟨by omega, by omega⟩, fun z hz => ?_⟩
  rw [b3] at hz; subst hz
  refine s_first_16 h hI b4 b3 (fun o ho => ?_) (yS A 3).toNat F 0 none (by omega) (by omega) (Or.inl ⟨rfl, fun p a c => by omega⟩)
  have e3 : ((yS A 3).toNat : Int) = yS A 3 := by omega
  cases hl : yQ A (6 * g + f) with
  | nil =>
    rcases ho with ⟨rfl, -⟩ | ⟨u, u0, u1, u2, -⟩
    · exact h0 hl
    · have := (yMb_i hI hx f0 f1 u0 (by omega)).mpr u2
      rw [hl] at this; cases this
  | cons p l =>
    have hp : p ∈ yQ A (6 * g + f) := by rw [hl]; exact List.mem_cons_self
    obtain ⟨p0, p1, -⟩ := hI.2.2.2.1.2 _ p hp
    have pm := (yMb_i hI hx f0 f1 p0 p1).mp hp
    rcases ho with ⟨-, h2⟩ | ⟨u, u0, u1, u2, rfl, u4⟩
    · exact absurd pm (h2 p p0 (by omega))
    · have hu := (yMb_i hI hx f0 f1 u0 (by omega)).mpr u2
      have := u4 p p0 (by omega) pm
      have hs := hx.2 (6 * g + f)
      rw [hl] at hs hu
      rw [List.pairwise_cons] at hs
      have e : u = p := by
        rcases List.mem_cons.mp hu with q | q
        · exact q
        · have := hs.1 u q
          unfold yBf4 at *
          omega
      rw [e]
      exact h1 p l hl
theorem s_told (h : rRi P S σ RA cl t M r A) (hI : yI A) (hF : 50 ≤ F) (w0 : 0 ≤ w) (w1 : w < 10) (hq : Q (yAs A w) t M) : p_X14_told F n t r w M Q := by
  obtain ⟨n1, n2, n3, n4, n5, n6⟩ := id hI.1.1
  obtain ⟨s1, s2, s3, s4, s5, s6⟩ := h.2.1
  have i5 := hI.2.2.2.2.1.1
  obtain ⟨i1, i2, -⟩ := hI.2.2.2.2.2.2.2
  unfold yAs at hq
  unfold p_X14_told
  refine ⟨fun _ => ⟨fun _ => ⟨fun _ => ⟨fun _ => ⟨fun _ => ⟨fun _ => ⟨fun _ => ⟨fun _ => ⟨fun _ => ?_, ?_⟩, ?_⟩, ?_⟩, ?_⟩, ?_⟩, ?_⟩, ?_⟩, ?_⟩, ?_⟩
  · rw [if_neg (by omega), show w = 9 by omega] at hq; rw [s4]; exact hq
  · rintro rfl; rw [if_neg (by omega)] at hq; rw [s3]; exact hq
  · rintro rfl; rw [if_neg (by omega)] at hq; rw [s2]; exact hq
  · rintro rfl; rw [if_neg (by omega), i2] at hq; exact ⟨0, by omega, s_count h hI.1.1 hF hq⟩
  · rintro rfl; rw [if_neg (by omega), i1] at hq; exact ⟨0, by omega, s_count h hI.1.1 hF hq⟩
  · rintro rfl
    rw [if_pos rfl] at hq
    obtain ⟨b, b1, b2, b3, -⟩ := rRi_co h
    refine ⟨b, b1, b2, ⟨by omega, by omega⟩, ?_⟩
    rw [b3]; exact hq
  · rintro rfl
    rw [if_neg (by omega)] at hq
    obtain ⟨b, b1, b2, b3, -⟩ := rRi_pk h
    refine ⟨b, b1, b2, ⟨by omega, by omega⟩, ?_⟩
    rw [b3]; exact hq
  · rintro rfl
    rw [if_neg (by omega)] at hq
    obtain ⟨b, b1, b2, b3, -⟩ := rRi_fl h
    refine ⟨b, b1, b2, ⟨by omega, by omega⟩, ?_⟩
    rw [b3]; exact hq
  · rintro rfl
    rw [if_neg (by omega)] at hq
    obtain ⟨b, b1, b2, b3, -⟩ := rRi_ga h
    refine ⟨b, b1, b2, ⟨by omega, by omega⟩, ?_⟩
    rw [b3]; exact hq
  · rintro rfl
    rw [if_neg (by omega)] at hq
    rw [s1]; exact hq
theorem s_flow_16 {K : Nat → Nat → Int → Int → Int → xTh → xMe → Prop} (h : rRi P S σ RA cl t M r A) {b : Nat} (hC : (yC A).length ≤ 30) (b3 : xn t b = (yC A).length) (b4 : ∀ (i : Nat) (v : yCo), (yC A)[i]? = some v → ∃ c, xr t b i = some c ∧ cl[i]? = some c ∧ xk t c = 14 ∧ xn t c = 4 ∧ M c 0 = v.1 ∧ M c 1 = v.2.1 ∧ M c 2 = v.2.2.1 ∧ M c 3 = v.2.2.2) (hq : K n r f w (yCnt f (yC A)) t M) :
    ∀ (L2 L1 : List yCo) (k : Nat) (x : Int), yC A = L1 ++ L2 → L2.length < k → 0 ≤ x → x ≤ L1.length → x + yCnt f L2 = yCnt f (yC A) → p_X14_flow_16 F Q K k n r f w x b ((yC A).length : Int) (L1.length : Int) t M := by
  intro L2
  induction L2 with
  | nil =>
    intro L1 k x hL hk h0 h1 hs
    obtain ⟨k, rfl⟩ : ∃ k', k = k' + 1 := ⟨k - 1, by omega⟩
    unfold p_X14_flow_16
    refine ⟨fun _ => ?_, fun q => absurd q (by rw [hL]; simp)⟩
    rw [← hs] at hq
    simpa [yCnt] using hq
  | cons c L2 ih =>
    intro L1 k x hL hk h0 h1 hs
    obtain ⟨k, rfl⟩ : ∃ k', k = k' + 1 := ⟨k - 1, by omega⟩
    have hi : (yC A)[L1.length]? = some c := by rw [hL]; exact yat
    have hlen : (yC A).length = L1.length + (L2.length + 1) := by rw [hL]; simp
    obtain ⟨a, a1, -, a2, a3, a4, a5, -⟩ := b4 _ c hi
    have e1 : ((L1 ++ [c]).length : Int) = (L1.length : Int) + 1 := by simp
    unfold p_X14_flow_16
    refine ⟨fun q => absurd q (by omega), fun _ => ⟨⟨by omega, by omega⟩, a, by rw [Int.toNat_natCast]; exact a1, a2, ⟨by omega, by omega⟩, ?_⟩⟩
    rw [a4]
    simp only [List.length_cons] at hk
    refine ⟨fun q => ⟨⟨by omega, by omega⟩, ?_⟩, fun q => ⟨⟨by omega, by omega⟩, ⟨by omega, by omega⟩, ?_⟩⟩
    · have := ih (L1 ++ [c]) k x (by rw [hL]; simp) (by omega) h0 (by omega) (by rw [← hs, yCnt, if_neg q]; omega)
      rw [e1] at this; exact this
    · have := ih (L1 ++ [c]) k (x + 1) (by rw [hL]; simp) (by omega) (by omega) (by omega) (by rw [← hs, yCnt, if_pos q]; omega)
      rw [e1] at this; exact this
theorem s_flow (h : rRi P S σ RA cl t M r A) (hI : yI A) (hF : 50 ≤ F) (f0 : 0 ≤ f) (f1 : f < yS A 2) (w0 : 0 ≤ w) (w1 : w < 6) (hq : Q (yAf A f w) t M) : p_X14_flow F n t r f w M Q := by
  obtain ⟨n1, n2, n3, n4, n5, n6⟩ := id hI.1.1
  have i5 := hI.2.2.2.2.1
  obtain ⟨b, b1, b2, b3, b4⟩ := rRi_co h
  obtain ⟨a, a1, a2, a3, a4⟩ := rRi_fl h
  obtain ⟨d1, d2, d3, d4, d5, d6⟩ := a4 f f0 f1
  obtain ⟨o, o1, o2, o3, o4⟩ := rRi_ro h
  obtain ⟨m1, m2, m3, -⟩ := o4 f f0 f1
  have hr := (hI.1.2.2.1 f f0 f1)
  have := i5.1
  unfold p_X14_flow
  refine ⟨b, b1, b2, ⟨by omega, by omega⟩, fun z hz => ?_⟩
  rw [b3] at hz; subst hz
  refine s_flow_16 h i5.1 b3 b4 ?_ (yC A) [] F 0 rfl (by omega) (by omega) (by simp) (by omega)
  unfold yAf at hq
  unfold p_X14_flow_47
  refine ⟨fun _ => ⟨fun _ => ⟨fun _ => ⟨fun _ => ⟨fun _ => ?_, ?_⟩, ?_⟩, ?_⟩, ?_⟩, ?_⟩
  · rw [if_neg (by omega), if_neg (by omega), if_pos (by omega)] at hq
    refine ⟨a, a1, a2, ⟨f0, by omega⟩, _, d1, d2, ⟨by omega, by omega⟩, ?_⟩
    rw [d6]; exact hq
  · rintro rfl
    rw [if_neg (by omega), if_pos rfl] at hq
    exact ⟨0, by omega, s_sum h (yI5_v i5) hF hq⟩
  · rintro rfl
    rw [if_pos rfl] at hq
    exact hq
  · rintro rfl
    rw [if_neg (by omega), if_neg (by omega), if_neg (by omega), show 33 + 8 * f + 2 = 35 + 8 * f by omega] at hq
    refine ⟨a, a1, a2, ⟨f0, by omega⟩, _, d1, d2, ⟨by omega, by omega⟩, ?_⟩
    rw [d5]; exact hq
  · rintro rfl
    rw [if_neg (by omega), if_neg (by omega), if_neg (by omega), show 33 + 8 * f + 1 = 34 + 8 * f by omega] at hq
    refine ⟨a, a1, a2, ⟨f0, by omega⟩, _, d1, d2, ⟨by omega, by omega⟩, ?_⟩
    rw [d4]; exact hq
  · rintro rfl
    rw [if_neg (by omega), if_neg (by omega), if_neg (by omega), Int.add_zero] at hq
    refine ⟨o, o1, o2, ⟨f0, by omega⟩, _, m1, m2, ⟨by omega, by omega⟩, ?_⟩
    rw [m3]; exact hq
theorem s_packet (h : rRi P S σ RA cl t M r A) (hI : yI A) (p0 : 0 ≤ p) (p1 : p < yS A 3) (w0 : 0 ≤ w) (w1 : w < 7) (hq : Q (yAp A p w) t M) : p_X14_packet F n t r p w M Q := by
  obtain ⟨n1, n2, n3, n4, n5, n6⟩ := id hI.1.1
  obtain ⟨a, a1, a2, a3, a4⟩ := rRi_pk h
  obtain ⟨d1, d2, d3⟩ := a4 p p0 p1
  have hv := fun j a b => (h.2.2.2.2.2.1.2 p p0 p1).2.2.2.2 j a b
  dsimp only at hv
  unfold yAp at hq
  unfold p_X14_packet
  refine ⟨a, a1, a2, ⟨p0, by omega⟩, _, d1, d2, fun q => ⟨fun q1 => ⟨fun q2 => ⟨⟨by omega, by omega⟩, ?_⟩, fun q2 => ⟨⟨by omega, by omega⟩, ?_⟩⟩, fun q1 => ?_⟩, fun q => ⟨⟨w0, by omega⟩, ?_⟩⟩
  · rw [if_neg (by omega), show w = 6 by omega] at hq
    rw [rRi_p6 h p0 p1, show 87 + 9 * p = 81 + 9 * p + 6 by omega]; exact hq
  · rw [if_neg (by omega), q2] at hq
    rw [rRi_p5 h p0 p1, show 86 + 9 * p = 81 + 9 * p + 5 by omega]; exact hq
  · rw [if_pos q1] at hq
    rw [rRi_p3 h p0 p1]
    refine ⟨⟨by omega, by omega⟩, fun q2 => ⟨0, by omega, ?_⟩, fun q2 => ⟨⟨by omega, by omega⟩, fun q3 => ?_, fun q3 => ⟨0, by omega, ?_⟩⟩⟩
    · have hg := yGt_ok hI.1 hI.2.2.1 p0 p1 (by omega)
      rw [if_pos (Or.inl q2)] at hq
      exact s_gateOf h p0 p1 hg.1 hg.2.1 hg.2.2.1 hg.2.2.2.1 hq
    · rw [if_neg (by omega)] at hq; exact hq
    · have hg := yGt_ok hI.1 hI.2.2.1 p0 p1 (by omega)
      rw [if_pos (Or.inr q3)] at hq
      exact s_gateOf h p0 p1 hg.1 hg.2.1 hg.2.2.1 hg.2.2.2.1 hq
  · rw [if_neg (by omega)] at hq
    rw [hv w w0 (by omega)]; exact hq
end RT
