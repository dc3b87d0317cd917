/-! LAYER 2, load: the statements packet and coupon -/
section ZPK
variable {b : Nat → Int} {n x m F : Nat} {B M M' : xMe} {s s' : zS} {Q : xMe → Prop} {R : Int → xMe → Prop} {d f T z k v e : Int} {A A' : yA}
theorem zSn_3 : yS (ySnd A f T z) 3 = yS A 3 + 1 := by
  unfold ySnd
  rfl
theorem zSn_c {c : Int} (h : 0 ≤ yS A 3) (c0 : 0 ≤ c) (c9 : c < 9) : yS (ySnd A f T z) (81 + 9 * yS A 3 + c) = yPq f T z c := by
  show (if _ then _ else if _ then _ else _) = _
  rw [if_neg (by omega), if_pos (by omega), show 81 + 9 * yS A 3 + c - (81 + 9 * yS A 3) = c by omega]
theorem zSn_n (h1 : k ≠ 3) (h2 : ¬ (81 + 9 * yS A 3 ≤ k ∧ k < 90 + 9 * yS A 3)) : yS (ySnd A f T z) k = yS A k := by
  show (if _ then _ else if _ then _ else _) = _
  rw [if_neg h1, if_neg h2]
theorem zI_sn (h : zI A) (h6 : yS A 3 < 40) (f0 : 0 ≤ f ∧ f < yS A 2) (T0 : 0 ≤ T ∧ T ≤ 999) (z0 : 1 ≤ z ∧ z ≤ 999) : zI (ySnd A f T z) := by
  obtain ⟨h1, h2, h3, h4, h5, h6', h7, h8, h9, h10, h11⟩ := h
  obtain ⟨n1, n2, n3, n4, n5, n6⟩ := id h1
  have e1 : yS (ySnd A f T z) 3 = yS A 3 + 1 := zSn_3
  have ec : ∀ c, 0 ≤ c → c < 9 → yS (ySnd A f T z) (81 + 9 * yS A 3 + c) = yPq f T z c := fun c c0 c9 => zSn_c n5 c0 c9
  have e : ∀ k, k ≠ 3 → ¬ (81 + 9 * yS A 3 ≤ k ∧ k < 90 + 9 * yS A 3) → yS (ySnd A f T z) k = yS A k := fun k c1 c2 => zSn_n c1 c2
  have eC : yC (ySnd A f T z) = yC A := rfl
  have eP : yP (ySnd A f T z) = yP A := rfl
  have eQ : yQ (ySnd A f T z) = yQ A := rfl
  generalize ySnd A f T z = A' at *
  refine ⟨?_, fun g g0 g1 => ?_, fun g g0 g1 => ?_, fun p p0 p1 => ?_, ?_, ?_, fun f f0 f1 => ?_, fun k hk => ?_, ?_, eP.trans h10, eQ.trans h11⟩
  · unfold yN; rw [e1, e 1 (by decide) (by omega), e 2 (by decide) (by omega)]; omega
  · rw [e 1 (by decide) (by omega)] at g1
    rw [e _ (by omega) (by omega), e _ (by omega) (by omega), e _ (by omega) (by omega)]; exact h2 g g0 g1
  · rw [e 2 (by decide) (by omega)] at g1
    rw [e (33 + 8 * g) (by omega) (by omega), e (34 + 8 * g) (by omega) (by omega), e 1 (by decide) (by omega)]
    obtain ⟨a1, a2, a3, a4, a5⟩ := h3 g g0 g1
    exact ⟨a1, a2, a3, a4, fun j j0 j1 => by rw [e _ (by omega) (by omega)]; exact a5 j j0 j1⟩
  · rw [e1] at p1
    rw [e 2 (by decide) (by omega)]
    by_cases c : p = yS A 3
    · have k0 := ec 0 (by decide) (by decide)
      have k1 := ec 1 (by decide) (by decide)
      have k2 := ec 2 (by decide) (by decide)
      have k3 := ec 3 (by decide) (by decide)
      have k4 := ec 4 (by decide) (by decide)
      have k5 := ec 5 (by decide) (by decide)
      have k6 := ec 6 (by decide) (by decide)
      have k7 := ec 7 (by decide) (by decide)
      rw [c, show 81 + 9 * yS A 3 = 81 + 9 * yS A 3 + 0 by omega, k0, show 82 + 9 * yS A 3 = 81 + 9 * yS A 3 + 1 by omega, k1, show 83 + 9 * yS A 3 = 81 + 9 * yS A 3 + 2 by omega, k2, show 84 + 9 * yS A 3 = 81 + 9 * yS A 3 + 3 by omega, k3, show 85 + 9 * yS A 3 = 81 + 9 * yS A 3 + 4 by omega, k4, show 86 + 9 * yS A 3 = 81 + 9 * yS A 3 + 5 by omega, k5, show 87 + 9 * yS A 3 = 81 + 9 * yS A 3 + 6 by omega, k6, show 88 + 9 * yS A 3 = 81 + 9 * yS A 3 + 7 by omega, k7]
      exact ⟨f0.1, f0.2, T0.1, T0.2, z0.1, z0.2, rfl, rfl, rfl, rfl, rfl⟩
    · rw [e (81 + 9 * p) (by omega) (by omega), e (82 + 9 * p) (by omega) (by omega), e (83 + 9 * p) (by omega) (by omega), e (84 + 9 * p) (by omega) (by omega), e (85 + 9 * p) (by omega) (by omega), e (86 + 9 * p) (by omega) (by omega), e (87 + 9 * p) (by omega) (by omega), e (88 + 9 * p) (by omega) (by omega)]; exact h4 p p0 (by omega)
  · rw [e 9 (by decide) (by omega), e 10 (by decide) (by omega), e 11 (by decide) (by omega)]; exact h5
  · rw [e 0 (by decide) (by omega), e 5 (by decide) (by omega), e 6 (by decide) (by omega), e 7 (by decide) (by omega), e 8 (by decide) (by omega)]; exact h6'
  · rw [e (35 + 8 * f) (by omega) (by omega), e (36 + 8 * f) (by omega) (by omega), e (34 + 8 * f) (by omega) (by omega), e 2 (by decide) (by omega)]; exact h7 f f0 f1
  · rw [e _ (by omega) (by omega)]; exact h8 k hk
  · rw [eC, e 2 (by decide) (by omega)]; exact h9
theorem zR_yR {w : Nat} (hI : zI A) (h : zR w M A) : yR w (xw0 M (w + 11)) A := fun o i k hl => by
  show (if w + o = w + 11 then 0 else M (w + o) i.toNat) = _
  by_cases c : o = 11
  · rw [if_pos (by omega)]
    subst c
    obtain ⟨g, f, a1, a2, a3, a4, a5, a6⟩ := hl
    exact (hI.2.2.2.2.2.2.2.1 k (by omega)).symm
  · rw [if_neg (by omega)]; exact h o i k c hl
theorem yR_zR {w : Nat} (h : yR w (xw0 M (w + 11)) A) : zR w M A := fun o i k ho hl => by
  have a := h o i k hl
  have e : xw0 M (w + 11) (w + o) i.toNat = M (w + o) i.toNat := if_neg (by omega)
  rw [← e]; exact a
theorem zC_pk {N : Nat} (hI : zI A) (hN : yS A 3 = (N : Int)) (h6 : N < 40) (h : zR (x + 4) M A) (hq : ∀ M', zR (x + 4) M' (ySnd A f T z) → (∀ c, ¬ (x + 20 ≤ c ∧ c ≤ x + 28) → M' c = M c) → Q M') : p_X5_add (x + 20) f T z M Q := by
  have k8 : M (x + 20) 8 = (N : Int) := by rw [← hN]; exact h 16 8 3 (by decide) yl16
  refine s_X5_add k8 h6 (fun M' g8 g1 g2 g3 g4 g5 g6 g7 g9 gg gb g16 => hq M' (yR_zR ?_) (fun c hc => gb c (by omega)))
  have e0 : ∀ (M : xMe) b j, b ≠ x + 15 → xw0 M (x + 4 + 11) b j = M b j := fun M b j hb => if_neg (by omega)
  refine yR_snd (w := x + 4) (M := xw0 M (x + 4 + 11)) hI.1 (zR_yR hI h) hN ?_ ?_ ?_ ?_ ?_ ?_ ?_ ?_ ?_ (fun b j hj hb => ?_) (fun b hb => ?_) (fun j hj => ?_)
  · rw [e0 _ _ _ (by omega)]; exact g8
  · rw [e0 _ _ _ (by omega)]; exact g1
  · rw [e0 _ _ _ (by omega)]; exact g2
  · rw [e0 _ _ _ (by omega)]; exact g3
  · rw [e0 _ _ _ (by omega)]; exact g4
  · rw [e0 _ _ _ (by omega)]; exact g5
  · rw [e0 _ _ _ (by omega)]; exact g6
  · rw [e0 _ _ _ (by omega)]; exact g7
  · rw [e0 _ _ _ (by omega)]; exact g9
  · by_cases c : b = x + 15
    · subst c
      exact (if_pos rfl).trans (if_pos rfl).symm
    · rw [e0 _ _ _ c, e0 _ _ _ c]; exact gg b j hj hb
  · funext j
    by_cases c : b = x + 15
    · subst c
      exact (if_pos rfl).trans (if_pos rfl).symm
    · rw [e0 _ _ _ c, e0 _ _ _ c, gb b (by omega)]
  · rw [e0 _ _ _ (by omega), e0 _ _ _ (by omega)]; exact g16 j hj
theorem zD_pk {c N : Nat} (hI : zI A) (hN : yS A 3 = (N : Int)) (h6 : N < 40) (h : zD c M A) (g3 : M' c 3 = (N : Int) + 1) (go : ∀ j, j ≠ 3 → ¬ (81 + 9 * N ≤ j ∧ j < 90 + 9 * N) → M' c j = M c j) (gc : ∀ i : Nat, i < 9 → M' c (81 + 9 * N + i) = yPq f T z i) : zD c M' (ySnd A f T z) := by
  obtain ⟨d1, d2, d3, d4, d5⟩ := h
  refine ⟨fun k hk => ?_, ⟨by rw [go _ (by omega) (by omega)]; exact d2.1, fun i w hw => ?_⟩, by rw [go _ (by omega) (by omega)]; exact d3, fun g g0 g1 => by rw [go _ (by omega) (by omega)]; exact d4 g g0 g1, by rw [go _ (by omega) (by omega)]; exact d5.1, fun j w hw => by rw [go _ (by omega) (by omega)]; exact d5.2 j w hw⟩
  · have hk' := hk
    unfold yG at hk'
    by_cases c1 : k = 3
    · subst c1; rw [zSn_3, hN]; exact g3
    · by_cases c2 : 81 + 9 * yS A 3 ≤ k ∧ k < 90 + 9 * yS A 3
      · obtain ⟨i, hi⟩ : ∃ i : Nat, k = 81 + 9 * yS A 3 + (i : Int) := ⟨(k - (81 + 9 * yS A 3)).toNat, by omega⟩
        rw [hi, zSn_c (by omega) (by omega) (by omega), hN, show (81 + 9 * (N : Int) + (i : Int)).toNat = 81 + 9 * N + i by omega]
        exact gc i (by omega)
      · rw [zSn_n c1 c2, go _ (by omega) (by omega)]; exact d1 k hk
  · have a := d2.2 i w hw
    have l := (List.getElem?_eq_some_iff.mp hw).1
    have l2 := hI.2.2.2.2.2.2.2.2.1.1
    have l3 : i < (yC A).length := l
    rw [go _ (by omega) (by omega), go _ (by omega) (by omega), go _ (by omega) (by omega), go _ (by omega) (by omega)]; exact a
theorem zC_numE {lo hi : Int} (hn : n ≤ 700) (hF : 702 ≤ F) (hlo : lo ≤ 1) (hhi : hi ≤ 9999) (h0 : s.e ≠ 0) (h : zC b n x B s M) (hR : R (-1) M) : p_X8_takeNumber F (x + 1) lo hi M R := zC_num hn hF hlo hhi h (fun _ => hR) (fun q => absurd q h0) (fun q => absurd q h0) (fun q => absurd q h0)
theorem zM_numE {lo hi : Int} (h0 : s.e ≠ 0) (h : zM b n m B d s M) (hR : R 0 M) : p_X12_number F m lo hi M R := by
  unfold p_X12_number
  exact zM_good h (fun q => absurd q h0) (fun _ => ⟨fun q => absurd rfl q, fun _ => hR⟩)
theorem z_packet (hn : n ≤ 700) (hF : 702 ≤ F) (hb : ∀ j, j < n → 0 ≤ b j ∧ b j ≤ 255) (h0 : s.e = 0) (hT : zT n s) (hp : s.p < n) : ∃ s', zTo n s s' ∧ (∀ (B M : xMe) (Q : xMe → Prop), zC b n x B s M → (∀ M', zC b n x B s' M' → Q M') → p_X8_readPacket F (x + 1) M Q) ∧ (∀ (B : xMe) (d : Int) (M : xMe) (Q : xMe → Prop), zM b n m B d (zG b n s) M → (∀ M', zM b n m B d s' M' → Q M') → p_X12_readPacket F m (s.p : Int) M Q) := by
  obtain ⟨t1, t2, t3, t4, t5, t6⟩ := hT
  obtain ⟨n1, n2, n3, n4, n5, n6⟩ := id t2.1
  by_cases c : yS s.A 3 < 40
  · obtain ⟨s2, v2, b1, b2, b3⟩ := z_N (x := x) (m := m) (lo := 0) (hi := yS s.A 2 - 1) hn hF hb (by decide) (by decide) (by omega) (zG b n s)
    obtain ⟨s3, v3, c1, c2, c3⟩ := z_N (x := x) (m := m) (lo := 0) (hi := 999) hn hF hb (by decide) (by decide) (by decide) s2
    obtain ⟨s4, v4, d1, d2, d3⟩ := z_N (x := x) (m := m) (lo := 1) (hi := 999) hn hF hb (by decide) (by decide) (by decide) s3
    have cb : ∀ (B M : xMe) (Q : xMe → Prop), zC b n x B s M → (∀ M4 r2 r3 r4, (s4.e = 0 → r2 = v2 ∧ r3 = v3 ∧ r4 = v4) → zC b n x B s4 M4 → (M4 (x + 1) 2 ≠ 0 → Q M4) ∧ (M4 (x + 1) 2 = 0 → p_X5_add (x + 20) r2 r3 r4 M4 (fun M69 => Q M69))) → p_X8_readPacket F (x + 1) M Q := fun B M Q h hq => by
      unfold p_X8_readPacket p_X8_takeCounted
      have k1 : M (x + 1 + 19) 8 = yS s.A 3 := (zC_cnt h0 h).2.2.1
      rw [k1]
      refine ⟨fun _ => zC_mv hn hF h0 h (fun M1 h1 => ?_), fun q => by omega⟩
      have k2 : M1 (x + 1 + 8) 4 = yS s.A 2 := (zC_cnt (s := zG b n s) h0 h1).2.1
      dsimp only
      rw [k2]
      refine ⟨⟨by omega, by omega⟩, ?_⟩
      refine b2 B M1 _ h1 (fun M2 r2' g2 h2 => ?_)
      refine c2 B M2 _ h2 (fun M3 r3' g3 h3 => ?_)
      refine d2 B M3 _ h3 (fun M4 r4' g4 h4 => ?_)
      exact hq M4 r2' r3' r4' (fun e4 => ⟨g2 (c1 (d1 e4).1).1, g3 (d1 e4).1, g4 e4⟩) h4
    have mb : ∀ (B : xMe) (d : Int) (M : xMe) (Q : xMe → Prop), zM b n m B d (zG b n s) M → (∀ M4 r2 r3 r4, (s4.e = 0 → r2 = v2 ∧ r3 = v3 ∧ r4 = v4) → zM b n m B d s4 M4 → p_X12_isGood m M4 (fun r52 M52 => ((r52 = 0 → Q M52) ∧ (r52 ≠ 0 → p_X12_putPacket F (m + 3) 2105 r2 r3 r4 M52 (fun M66 => Q M66))))) → p_X12_readPacket F m (s.p : Int) M Q := fun B d M Q h hq => by
      unfold p_X12_readPacket
      have k1 : M (m + 3) 3 = yS s.A 3 := (zM_cnt (s := zG b n s) h0 h).2.2.1
      have k2 : M (m + 3) 2 = yS s.A 2 := (zM_cnt (s := zG b n s) h0 h).2.1
      rw [k1, k2]
      refine ⟨⟨by decide, by decide⟩, fun _ => ⟨⟨by decide, by decide⟩, ⟨by omega, by omega⟩, ?_⟩, fun q => by omega⟩
      refine b3 B d M _ h (fun M2 r2' g2 _ _ h2 => ?_)
      refine c3 B d M2 _ h2 (fun M3 r3' g3 _ _ h3 => ?_)
      refine d3 B d M3 _ h3 (fun M4 r4' g4 _ _ h4 => ?_)
      exact hq M4 r2' r3' r4' (fun e4 => ⟨g2 (c1 (d1 e4).1).1, g3 (d1 e4).1, g4 e4⟩) h4
    by_cases e4 : s4.e = 0
    · obtain ⟨q1, q2, q3, q4, q5⟩ := d1 e4
      obtain ⟨r1, r2, r3, r4, r5⟩ := c1 q1
      obtain ⟨u1, u2, u3, u4, u5⟩ := b1 r1
      have eA : s4.A = s.A := by rw [q4, r4, u4]; rfl
      have eu : s4.u = s.u := by rw [q4, r4, u4]; rfl
      have p1 : (zG b n s).p ≤ n ∧ s.p < (zG b n s).p := ⟨znx_le t1, znx_gt hp⟩
      have p2 : s2.p ≤ n ∧ (zG b n s).p ≤ s2.p := by rw [u4]; exact ⟨znx_le p1.1, znx_ge⟩
      have p3 : s3.p ≤ n ∧ s2.p ≤ s3.p := by rw [r4]; exact ⟨znx_le p2.1, znx_ge⟩
      have p4 : s4.p ≤ n ∧ s3.p ≤ s4.p := by rw [q4]; exact ⟨znx_le p3.1, znx_ge⟩
      obtain ⟨N, hN⟩ : ∃ N : Nat, yS s.A 3 = (N : Int) := ⟨(yS s.A 3).toNat, by omega⟩
      have hI' : zI (ySnd s.A v2 v3 v4) := zI_sn t2 c ⟨u2, by omega⟩ ⟨r2, r3⟩ ⟨q2, q3⟩
      refine ⟨zX s4 (ySnd s.A v2 v3 v4) s4.u, fun _ => ⟨⟨p4.1, hI', by rw [show (zX s4 (ySnd s.A v2 v3 v4) s4.u).u = s.u from eu]; exact t3, ?_, by rw [show (zX s4 (ySnd s.A v2 v3 v4) s4.u).u = s.u from eu]; exact t5, by rw [show (zX s4 (ySnd s.A v2 v3 v4) s4.u).u = s.u from eu]; exact t6⟩, ?_⟩, fun B M Q h hq => cb B M Q h (fun M4 x2 x3 x4 hx h4 => ⟨fun q => absurd (h4.1.1.trans e4) q, fun _ => ?_⟩), fun B d M Q h hq => mb B d M Q h (fun M4 x2 x3 x4 hx h4 => zM_good h4 (fun _ => ⟨fun q => absurd q (by decide), fun _ => ?_⟩) (fun q => absurd e4 q))⟩
      · show (yK s.A).length ≤ s4.p
        omega
      · show s.p < s4.p
        omega
      · obtain ⟨y2, y3, y4⟩ := hx e4
        rw [y2, y3, y4]
        obtain ⟨o1, o2, o3⟩ := h4.2.2.2.2.2 e4
        rw [eA] at o3
        exact zC_pk t2 hN (by omega) o3.1 (fun M5 hR fB => hq M5 (zC_dr h4 ⟨by rw [fB _ (by omega)], by rw [fB _ (by omega)]⟩ (fB _ (by omega)) (fun c hc => fB c (by omega)) hI'.1 (zCd_dr o3 hR (yU_row o3.2.1 (fun b b1 b2 => fB b (by omega))) rfl (fB _ (by omega)) (fB _ (by omega)) (fB _ (by omega)))))
      · obtain ⟨y2, y3, y4⟩ := hx e4
        rw [y2, y3, y4]
        have k5 : M4 (m + 3) 3 = (N : Int) := by rw [← hN, ← eA]; exact (zM_cnt e4 h4).2.2.1
        have z4 := (h4.2.2.2.2.2.2.2 e4).2.1
        rw [eA] at z4
        exact s_X12_putPacket (by omega) k5 (by omega) (fun M5 fB g3 go gc => hq M5 (zM_dr e4 h4 fB hI'.1 (zD_pk t2 hN (by omega) z4 g3 go gc)))
    · refine ⟨s4, fun q => absurd q e4, fun B M Q h hq => cb B M Q h (fun M4 x2 x3 x4 hx h4 => ⟨fun _ => hq M4 h4, fun q => absurd (h4.1.1.symm.trans q) e4⟩), fun B d M Q h hq => mb B d M Q h (fun M4 x2 x3 x4 hx h4 => zM_good h4 (fun q => absurd q e4) (fun _ => ⟨fun _ => hq M4 h4, fun q => absurd rfl q⟩))⟩
  · have z5 : (zE s (-5)).e ≠ 0 := show ¬ ((-5 : Int)) = 0 by decide
    refine ⟨zE s (-5), fun q => absurd q z5, fun B M Q h hq => ?_, fun B d M Q h hq => ?_⟩
    · unfold p_X8_readPacket p_X8_takeCounted
      have k1 : M (x + 1 + 19) 8 = yS s.A 3 := (zC_cnt h0 h).2.2.1
      rw [k1]
      refine ⟨fun q => by omega, fun _ => zC_fail (by decide) h0 h (fun M1 h1 => ?_)⟩
      have k2 : 0 ≤ M1 (x + 1 + 8) 4 ∧ M1 (x + 1 + 8) 4 ≤ 6 := h1.2.2.2.1
      refine ⟨⟨by omega, by omega⟩, zC_numE hn hF (by decide) (by omega) z5 h1 (zC_numE hn hF (by decide) (by decide) z5 h1 (zC_numE hn hF (by decide) (by decide) z5 h1 ⟨fun _ => hq M1 h1, fun q => absurd (h1.1.1.symm.trans q) z5⟩))⟩
    · unfold p_X12_readPacket
      have k1 : M (m + 3) 3 = yS s.A 3 := (zM_cnt (s := zG b n s) h0 h).2.2.1
      rw [k1]
      refine ⟨⟨by decide, by decide⟩, fun q => by omega, fun _ => zM_repG (by decide) h0 rfl h (fun M1 h1 => ?_)⟩
      have k2 := h1.2.2.2.2.1
      exact ⟨⟨by decide, by decide⟩, ⟨by omega, by omega⟩, zM_numE z5 h1 (zM_numE z5 h1 (zM_numE z5 h1 (zM_good h1 (fun q => absurd q z5) (fun _ => ⟨fun _ => hq M1 h1, fun q => absurd rfl q⟩))))⟩
end ZPK
