/-! LAYER 2, load: the statement coupon -/
def zCo (A : yA) (f v e : Int) : yA := yCw A (yC A ++ [(f, v, e, 0)])
section ZCO
variable {b : Nat → Int} {n x m F : Nat} {B M M' : xMe} {s s' : zS} {Q : xMe → Prop} {R : Int → xMe → Prop} {d f T z k v e : Int} {A A' : yA}
theorem zI_co (h : zI A) (hl : (yC A).length < 30) (f0 : 0 ≤ f ∧ f < yS A 2) (v0 : 1 ≤ v ∧ v ≤ 9999) (e0 : 1 ≤ e ∧ e ≤ 9999) : zI (zCo A f v e) := by
  obtain ⟨h1, h2, h3, h4, h5, h6', h7, h8, h9, h10, h11⟩ := h
  refine ⟨h1, h2, h3, h4, h5, h6', h7, h8, ⟨?_, fun c hc => ?_⟩, h10, h11⟩
  · show (yC A ++ [(f, v, e, 0)]).length ≤ 30
    rw [List.length_append]
    simp only [List.length_singleton]
    omega
  · have hc' : c ∈ yC A ++ [(f, v, e, 0)] := hc
    rcases List.mem_append.mp hc' with q | q
    · exact h9.2 c q
    · rw [List.mem_singleton.mp q]
      exact ⟨f0.1, f0.2, v0.1, v0.2, e0.1, e0.2, rfl⟩
theorem zD_co {c : Nat} (h : zD c M A) (hV : yV c M' (yC A ++ [(f, v, e, 0)])) (f4 : yF4 c M M') : zD c M' (zCo A f v e) := by
  obtain ⟨d1, d2, d3, d4, d5⟩ := h
  refine ⟨fun k hk => ?_, hV, by rw [f4 _ (by omega) (by omega)]; exact d3, fun g g0 g1 => by rw [f4 _ (by omega) (by omega)]; exact d4 g g0 g1, by rw [f4 _ (by omega) (by omega)]; exact d5.1, fun j w hw => by rw [f4 _ (by omega) (by omega)]; exact d5.2 j w hw⟩
  have hk' := hk
  unfold yG at hk'
  rw [f4 _ (by omega) (by omega)]; exact d1 k hk
theorem z_coupon (hn : n ≤ 700) (hF : 702 ≤ F) (hb : ∀ j, j < n → 0 ≤ b j ∧ b j ≤ 255) (h0 : s.e = 0) (hT : zT n s) (hp : s.p < n) : ∃ s', zTo n s s' ∧ (∀ (B M : xMe) (Q : xMe → Prop), zC b n x B s M → (∀ M', zC b n x B s' M' → Q M') → p_X8_readCoupon F (x + 1) M Q) ∧ (∀ (B : xMe) (d : Int) (M : xMe) (Q : xMe → Prop), zM b n m B d (zG b n s) M → (∀ M', zM b n m B d s' M' → Q M') → p_X12_readCoupon F m (s.p : Int) M Q) := by
  obtain ⟨t1, t2, t3, t4, t5, t6⟩ := hT
  obtain ⟨n1, n2, n3, n4, n5, n6⟩ := id t2.1
  have l30 := t2.2.2.2.2.2.2.2.2.1.1
  by_cases c : (yC s.A).length < 30
  · obtain ⟨s2, v2, b1, b2, b3⟩ := z_N (x := x) (m := m) (lo := 0) (hi := yS s.A 2 - 1) hn hF hb (by decide) (by decide) (by omega) (zG b n s)
    obtain ⟨s3, v3, c1, c2, c3⟩ := z_N (x := x) (m := m) (lo := 1) (hi := 9999) hn hF hb (by decide) (by decide) (by decide) s2
    obtain ⟨s4, v4, d1, d2, d3⟩ := z_N (x := x) (m := m) (lo := 1) (hi := 9999) hn hF hb (by decide) (by decide) (by decide) s3
    have cb : ∀ (B M : xMe) (Q : xMe → Prop), zC b n x B s M → (∀ M4 r2 r3 r4, (s4.e = 0 → r2 = v2 ∧ r3 = v3 ∧ r4 = v4) → zC b n x B s4 M4 → (M4 (x + 1) 2 ≠ 0 → Q M4) ∧ (M4 (x + 1) 2 = 0 → p_X0_add (x + 29) r2 r3 r4 M4 (fun M69 => Q M69))) → p_X8_readCoupon F (x + 1) M Q := fun B M Q h hq => by
      unfold p_X8_readCoupon p_X8_takeCounted
      have k1 : M (x + 1 + 28) 4 = ((yC s.A).length : Int) := (zC_cnt h0 h).2.2.2
      rw [k1]
      refine ⟨fun _ => zC_mv hn hF h0 h (fun M1 h1 => ?_), fun q => by omega⟩
      have k2 : M1 (x + 1 + 8) 4 = yS s.A 2 := (zC_cnt (s := zG b n s) h0 h1).2.1
      dsimp only
      rw [k2]
      refine ⟨⟨by omega, by omega⟩, ?_⟩
      refine b2 B M1 _ h1 (fun M2 r2' g2 h2 => ?_)
      refine c2 B M2 _ h2 (fun M3 r3' g3 h3 => ?_)
      refine d2 B M3 _ h3 (fun M4 r4' g4 h4 => ?_)
      exact hq M4 r2' r3' r4' (fun e4 => ⟨g2 (c1 (d1 e4).1).1, g3 (d1 e4).1, g4 e4⟩) h4
    have mb : ∀ (B : xMe) (d : Int) (M : xMe) (Q : xMe → Prop), zM b n m B d (zG b n s) M → (∀ M4 r2 r3 r4, (s4.e = 0 → r2 = v2 ∧ r3 = v3 ∧ r4 = v4) → zM b n m B d s4 M4 → p_X12_isGood m M4 (fun r52 M52 => ((r52 = 0 → Q M52) ∧ (r52 ≠ 0 → p_X12_putCoupon (m + 3) 2105 r2 r3 r4 M52 (fun M66 => Q M66))))) → p_X12_readCoupon F m (s.p : Int) M Q := fun B d M Q h hq => by
      unfold p_X12_readCoupon
      have k1 : M (m + 3) 4 = ((yC s.A).length : Int) := (zM_cnt (s := zG b n s) h0 h).2.2.2
      have k2 : M (m + 3) 2 = yS s.A 2 := (zM_cnt (s := zG b n s) h0 h).2.1
      rw [k1, k2]
      refine ⟨⟨by decide, by decide⟩, fun _ => ⟨⟨by decide, by decide⟩, ⟨by omega, by omega⟩, ?_⟩, fun q => by omega⟩
      refine b3 B d M _ h (fun M2 r2' g2 _ _ h2 => ?_)
      refine c3 B d M2 _ h2 (fun M3 r3' g3 _ _ h3 => ?_)
      refine d3 B d M3 _ h3 (fun M4 r4' g4 _ _ h4 => ?_)
      exact hq M4 r2' r3' r4' (fun e4 => ⟨g2 (c1 (d1 e4).1).1, g3 (d1 e4).1, g4 e4⟩) h4
    by_cases e4 : s4.e = 0
    · obtain ⟨q1, q2, q3, q4, q5⟩ := d1 e4
      obtain ⟨r1, r2, r3, r4, r5⟩ := c1 q1
      obtain ⟨u1, u2, u3, u4, u5⟩ := b1 r1
      have eA : s4.A = s.A := by rw [q4, r4, u4]; rfl
      have eu : s4.u = s.u := by rw [q4, r4, u4]; rfl
      have p1 : (zG b n s).p ≤ n ∧ s.p < (zG b n s).p := ⟨znx_le t1, znx_gt hp⟩
      have p2 : s2.p ≤ n ∧ (zG b n s).p ≤ s2.p := by rw [u4]; exact ⟨znx_le p1.1, znx_ge⟩
      have p3 : s3.p ≤ n ∧ s2.p ≤ s3.p := by rw [r4]; exact ⟨znx_le p2.1, znx_ge⟩
      have p4 : s4.p ≤ n ∧ s3.p ≤ s4.p := by rw [q4]; exact ⟨znx_le p3.1, znx_ge⟩
      have hI' : zI (zCo s.A v2 v3 v4) := zI_co t2 c ⟨u2, by omega⟩ ⟨r2, r3⟩ ⟨q2, q3⟩
      refine ⟨zX s4 (zCo s.A v2 v3 v4) s4.u, fun _ => ⟨⟨p4.1, hI', by rw [show (zX s4 (zCo s.A v2 v3 v4) s4.u).u = s.u from eu]; exact t3, ?_, by rw [show (zX s4 (zCo s.A v2 v3 v4) s4.u).u = s.u from eu]; exact t5, by rw [show (zX s4 (zCo s.A v2 v3 v4) s4.u).u = s.u from eu]; exact t6⟩, ?_⟩, fun B M Q h hq => cb B M Q h (fun M4 x2 x3 x4 hx h4 => ⟨fun q => absurd (h4.1.1.trans e4) q, fun _ => ?_⟩), fun B d M Q h hq => mb B d M Q h (fun M4 x2 x3 x4 hx h4 => zM_good h4 (fun _ => ⟨fun q => absurd q (by decide), fun _ => ?_⟩) (fun q => absurd e4 q))⟩
      · show (yK s.A).length ≤ s4.p
        omega
      · show s.p < s4.p
        omega
      · obtain ⟨y2, y3, y4⟩ := hx e4
        rw [y2, y3, y4]
        obtain ⟨o1, o2, o3⟩ := h4.2.2.2.2.2 e4
        rw [eA] at o3
        exact s_X0_add o3.2.1 c (fun M5 hU fB => hq M5 (zC_dr h4 ⟨by rw [fB _ (by omega)], by rw [fB _ (by omega)]⟩ (fB _ (by omega)) (fun c hc => fB c (by omega)) hI'.1 (zCd_dr o3 (zR_s o3.1 (fun o i k _ hl => ⟨yL_S (A := s.A) rfl rfl rfl (fun _ _ _ => rfl) hl, rfl⟩) (fun b b1 b2 => fB b (by omega)) t2.1) hU rfl (fB _ (by omega)) (fB _ (by omega)) (fB _ (by omega)))))
      · obtain ⟨y2, y3, y4⟩ := hx e4
        rw [y2, y3, y4]
        have z4 := (h4.2.2.2.2.2.2.2 e4).2.1
        rw [eA] at z4
        exact s_X12_putCoupon z4.2.1 c (fun M5 hV fB f4 => hq M5 (zM_dr e4 h4 fB hI'.1 (zD_co z4 hV f4)))
    · refine ⟨s4, fun q => absurd q e4, fun B M Q h hq => cb B M Q h (fun M4 x2 x3 x4 hx h4 => ⟨fun _ => hq M4 h4, fun q => absurd (h4.1.1.symm.trans q) e4⟩), fun B d M Q h hq => mb B d M Q h (fun M4 x2 x3 x4 hx h4 => zM_good h4 (fun q => absurd q e4) (fun _ => ⟨fun _ => hq M4 h4, fun q => absurd rfl q⟩))⟩
  · have z5 : (zE s (-5)).e ≠ 0 := show ¬ ((-5 : Int)) = 0 by decide
    refine ⟨zE s (-5), fun q => absurd q z5, fun B M Q h hq => ?_, fun B d M Q h hq => ?_⟩
    · unfold p_X8_readCoupon p_X8_takeCounted
      have k1 : M (x + 1 + 28) 4 = ((yC s.A).length : Int) := (zC_cnt h0 h).2.2.2
      rw [k1]
      refine ⟨fun q => by omega, fun _ => zC_fail (by decide) h0 h (fun M1 h1 => ?_)⟩
      have k2 : 0 ≤ M1 (x + 1 + 8) 4 ∧ M1 (x + 1 + 8) 4 ≤ 6 := h1.2.2.2.1
      refine ⟨⟨by omega, by omega⟩, zC_numE hn hF (by decide) (by omega) z5 h1 (zC_numE hn hF (by decide) (by decide) z5 h1 (zC_numE hn hF (by decide) (by decide) z5 h1 ⟨fun _ => hq M1 h1, fun q => absurd (h1.1.1.symm.trans q) z5⟩))⟩
    · unfold p_X12_readCoupon
      have k1 : M (m + 3) 4 = ((yC s.A).length : Int) := (zM_cnt (s := zG b n s) h0 h).2.2.2
      rw [k1]
      refine ⟨⟨by decide, by decide⟩, fun q => by omega, fun _ => zM_repG (by decide) h0 rfl h (fun M1 h1 => ?_)⟩
      have k2 := h1.2.2.2.2.1
      exact ⟨⟨by decide, by decide⟩, ⟨by omega, by omega⟩, zM_numE z5 h1 (zM_numE z5 h1 (zM_numE z5 h1 (zM_good h1 (fun q => absurd q z5) (fun _ => ⟨fun _ => hq M1 h1, fun q => absurd rfl q⟩))))⟩
end ZCO
