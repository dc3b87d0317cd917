/-! LAYER 2, load: the statement flow, joined; fee, refund, price -/
section ZFJ
variable {b : Nat → Int} {n x m F N many : Nat} {B M M' : xMe} {s s' : zS} {Q : xMe → Prop} {R : Int → xMe → Prop} {d g k v th : Int} {A A' : yA}
theorem z_flow (hn : n ≤ 700) (hF : 702 ≤ F) (hb : ∀ j, j < n → 0 ≤ b j ∧ b j ≤ 255) (h0 : s.e = 0) (hT : zT n s) (hp : s.p < n) : ∃ s', zTo n s s' ∧ (∀ (B M : xMe) (Q : xMe → Prop), zC b n x B s M → (∀ M', zC b n x B s' M' → Q M') → p_X8_readFlow F (x + 1) M Q) ∧ (∀ (B : xMe) (d : Int) (M : xMe) (Q : xMe → Prop), zM b n m B d (zG b n s) M → (∀ M', zM b n m B d s' M' → Q M') → p_X12_readFlow F m (s.p : Int) M Q) := by
  obtain ⟨t1, t2, t3, t4, t5, t6⟩ := hT
  obtain ⟨n1, n2, n3, n4, n5, n6⟩ := id t2.1
  obtain ⟨N, hN⟩ : ∃ N : Nat, yS s.A 2 = (N : Int) := ⟨(yS s.A 2).toNat, by omega⟩
  obtain ⟨f, rfl⟩ : ∃ k', F = k' + 1 := ⟨F - 1, by omega⟩
  -- the class's end behind an error
  have ce : ∀ (s1 : zS) (B M : xMe) (Q : xMe → Prop) (i : Int), s1.e ≠ 0 → zC b n x B s1 M → (∀ M', zC b n x B s1 M' → Q M') → p_X8_readFlow_33 (f + 1) (x + 1) Q (zFc (f + 1) (x + 1) Q) (f + 1) i M := fun s1 B M Q i e1 h1 hq => by
    have z : zFc (f + 1) (x + 1) Q M := ⟨fun _ => ⟨fun _ => hq M h1, fun q => absurd (h1.1.1.symm.trans q) e1⟩, fun q => absurd (h1.1.1.symm.trans q) e1⟩
    unfold p_X8_readFlow_33
    exact ⟨fun _ => z, fun _ => ⟨fun _ => z, fun q => absurd (h1.1.1.symm.trans q) e1⟩⟩
  have me : ∀ (s1 : zS) (B : xMe) (d : Int) (M : xMe) (Q : xMe → Prop) (i j : Int), s1.e ≠ 0 → zM b n m B d s1 M → Q M → zFk (f + 1) m Q i j M := fun s1 B d M Q i j e1 h1 hq => by
    unfold zFk
    exact zM_good h1 (fun q => absurd q e1) (fun _ => ⟨fun q => absurd rfl q, fun _ => hq⟩)
  by_cases c : yS s.A 2 < 6
  · have hR0 : zRp N 0 s.A := ⟨hN, by omega, by omega, fun j hj => absurd hj (by omega)⟩
    obtain ⟨s1, f1, f2, f3⟩ := z_place (s := zG b n s) (x := x) (m := m) hn hF hb h0 t2 hR0
    -- behind the first gate
    have rest : ∃ s', zTo n s s' ∧ (∀ (B M : xMe) (Q : xMe → Prop), zC b n x B s1 M → (s1.e = 0 → zRo x N 1 s1.A M) → (∀ M', zC b n x B s' M' → Q M') → p_X8_readFlow_33 (f + 1) (x + 1) Q (zFc (f + 1) (x + 1) Q) (f + 1) 1 M) ∧ (∀ (B : xMe) (d : Int) (M : xMe) (Q : xMe → Prop), zM b n m B d s1 M → (∀ M', zM b n m B d s' M' → Q M') → (s1.e ≠ 0 → Q M) ∧ (s1.e = 0 → p_X12_readFlow_27 (f + 1) m Q (zFk (f + 1) m Q) f (N : Int) 1 M)) := by
      by_cases e1 : s1.e = 0
      · obtain ⟨g1, g2, g, g3, g4, g5⟩ := f1 e1
        obtain ⟨r1, r2, r3, r4⟩ := hR0
        have A1 : s1.A = yw s.A (37 + 8 * (N : Int) + ((0 : Nat) : Int)) g := by rw [g5]; rfl
        have p1 : s1.p = znx b n (znx b n s.p) := by rw [g5]; rfl
        have u1 : s1.u = s.u := by rw [g5]; rfl
        have I1 : zI s1.A := by rw [A1]; exact zI_rt t2 r1 r2 g1
        have R1 : zRp N 1 s1.A := by
          rw [A1]
          refine ⟨(yup_n (by omega)).trans r1, r2, by omega, fun j hj => ?_⟩
          have c : j = 0 := by omega
          subst c
          rw [show yS (yw s.A (37 + 8 * (N : Int) + ((0 : Nat) : Int)) g) (37 + 8 * (N : Int) + ((0 : Nat) : Int)) = g from yup_s, show yS (yw s.A (37 + 8 * (N : Int) + ((0 : Nat) : Int)) g) 1 = yS s.A 1 from yup_n (by omega)]; exact ⟨g3, g4⟩
        have p0 := znx_gt (b := b) hp
        have p2 := znx_ge (b := b) (n := n) (p := znx b n s.p)
        obtain ⟨s2, many, i1, i2, i3⟩ := z_route (N := N) (x := x) (m := m) hn hF hb 3 1 s1 (by omega) (by omega) e1 (by rw [p1]; exact znx_le (znx_le t1)) I1 R1
        by_cases e2 : s2.e = 0
        · obtain ⟨j1, j2, j3, j4, j5, j6, j7, j8⟩ := i1 e2
          obtain ⟨s3, l1, l2, l3⟩ := z_thr (x := x) (m := m) hn hF hb e2 j5 j2 j3 j1
          refine ⟨s3, fun q => ?_, fun B M Q h hro hq => i2 B M Q _ (f + 1) h (hro e1) (by omega) (fun M2 h2 o2 => l2 B M2 Q h2 (o2 e2) hq), fun B d M Q h hq => ⟨fun q => absurd e1 q, fun _ => i3 B d M Q _ f h (by omega) (fun q => absurd e2 q) (fun q => absurd e2 q) (fun _ M2 h2 => l3 B d M2 Q h2 hq)⟩⟩
          obtain ⟨k1, k2, k3, k4, k5⟩ := l1 q
          have eu : s3.u = s.u := k4.trans (j6.trans u1)
          have eK : yK s3.A = yK s.A := k5.trans (j7.trans (by rw [A1]; rfl))
          refine ⟨⟨k3, k1, by rw [eu, eK]; exact t3, by rw [eK]; omega, by rw [eu]; exact t5, by rw [eu]; exact t6⟩, by omega⟩
        · refine ⟨s2, fun q => absurd q e2, fun B M Q h hro hq => i2 B M Q _ (f + 1) h (hro e1) (by omega) (fun M2 h2 _ => ⟨fun _ => ⟨fun _ => hq M2 h2, fun q => absurd (h2.1.1.symm.trans q) e2⟩, fun q => absurd (h2.1.1.symm.trans q) e2⟩), fun B d M Q h hq => ⟨fun q => absurd e1 q, fun _ => i3 B d M Q _ f h (by omega) (fun _ M2 h2 => hq M2 h2) (fun _ M2 h2 => me s2 B d M2 Q _ _ e2 h2 (hq M2 h2)) (fun q => absurd q e2)⟩⟩
      · exact ⟨s1, fun q => absurd q e1, fun B M Q h _ hq => ce s1 B M Q 1 e1 h hq, fun B d M Q h hq => ⟨fun _ => hq M h, fun q => absurd q e1⟩⟩
    obtain ⟨s', a1, a2, a3⟩ := rest
    refine ⟨s', a1, fun B M Q h hq => ?_, fun B d M Q h hq => ?_⟩
    · unfold p_X8_readFlow p_X8_takeCounted
      have k1 : M (x + 1 + 8) 4 = yS s.A 2 := (zC_cnt h0 h).2.1
      rw [k1]
      refine ⟨fun _ => zC_mv hn hF h0 h (fun M1 h1 => ?_), fun q => by omega⟩
      dsimp only
      have k2 : M1 (x + 1 + 8) 4 = (N : Int) := by rw [← hN]; exact (zC_cnt (s := zG b n s) h0 h1).2.1
      unfold p_X1_open
      rw [k2, Int.toNat_natCast]
      refine ⟨fun q => by omega, fun _ => ⟨fun q => by omega, fun _ => ⟨⟨by omega, by omega⟩, fun M2 e2 => ?_⟩⟩⟩
      have eo : ∀ c, c ≠ x + 11 → M2 c = M1 c := fun c c1 => by rw [e2, xw_B (by omega)]
      have e11 : ∀ j, j ≠ N → M2 (x + 11) j = M1 (x + 11) j := fun j hj => by rw [e2]; exact xw_j hj
      obtain ⟨o1, o2, o3⟩ := h1.2.2.2.2.2 h0
      have h2 : zC b n x B (zG b n s) M2 := zC_dr (s := zG b n s) h1 ⟨by rw [eo _ (by omega)], by rw [eo _ (by omega)]⟩ (eo _ (by omega)) (fun c hc => eo c (by omega)) t2.1 (zCd_dr o3 (zR_rt (w := x + 4) t2 hN o3.1 (fun o i k ho hl => ⟨hl, rfl⟩) (fun c c1 c2 => eo c c2) (fun j hj => by rw [eo _ (by omega)]) (fun j hj => e11 j (by omega))) (yU_row o3.2.1 (fun b b1 b2 => eo b (by omega))) rfl (eo _ (by omega)) (eo _ (by omega)) (eo _ (by omega)))
      have ro : zRo x N 0 (zG b n s).A M2 := ⟨by rw [e2]; exact xw_s, fun j hj => absurd hj (by omega)⟩
      exact f2 B M2 _ h2 ro (fun M3 h3 o3 => a2 B M3 Q h3 o3 hq)
    · unfold p_X12_readFlow
      have k1 : M (m + 3) 2 = yS s.A 2 := (zM_cnt (s := zG b n s) h0 h).2.1
      rw [k1]
      refine ⟨⟨by decide, by decide⟩, fun _ => ⟨⟨by decide, by decide⟩, fun z ez => ?_⟩, fun q => by omega⟩
      have ez' : z = (N : Int) := ez.trans hN
      subst ez'
      unfold p_X12_readFlow_27
      refine zM_good h (fun _ => ⟨fun q => absurd q (by decide), fun _ => ⟨fun _ => ?_, fun q => absurd rfl q⟩⟩) (fun q => absurd h0 q)
      exact f3 B d M Q (zFk (f + 1) m Q) f h (fun e1 M1 h1 => (a3 B d M1 Q h1 hq).1 e1) (fun e1 M1 h1 => (a3 B d M1 Q h1 hq).2 e1)
  · have z5 : (zE s (-5)).e ≠ 0 := show ¬ ((-5 : Int)) = 0 by decide
    refine ⟨zE s (-5), fun q => absurd q z5, fun B M Q h hq => ?_, fun B d M Q h hq => ?_⟩
    · unfold p_X8_readFlow p_X8_takeCounted
      have k1 : M (x + 1 + 8) 4 = yS s.A 2 := (zC_cnt h0 h).2.1
      rw [k1]
      refine ⟨fun q => by omega, fun _ => zC_fail (by decide) h0 h (fun M1 h1 => ?_)⟩
      -- readPlace behind the error, from any state
      have rp : ∀ M2, zC b n x B (zE s (-5)) M2 → p_X8_readPlace (f + 1) (x + 1) 0 M2 (fun M28 => p_X8_readFlow_33 (f + 1) (x + 1) Q (zFc (f + 1) (x + 1) Q) (f + 1) 1 M28) := fun M2 h2 => by
        unfold p_X8_readPlace
        have k2 : 0 ≤ M2 (x + 1 + 4) 3 ∧ M2 (x + 1 + 4) 3 ≤ 6 := h2.2.2.1
        refine ⟨⟨by omega, by omega⟩, zC_stands (by decide) (by omega) h2 (fun _ => ⟨fun q => absurd rfl q, fun _ => ce _ B M2 Q 1 z5 h2 hq⟩) (fun q => absurd q z5) (fun q => absurd q z5) (fun q => absurd q z5)⟩
      unfold p_X1_open
      refine ⟨fun _ => rp M1 h1, fun q0 => ⟨fun _ => rp M1 h1, fun q6 => ⟨⟨q0, q6⟩, fun M2 e2 => rp M2 ?_⟩⟩⟩
      have eo : ∀ c, c ≠ x + 11 → M2 c = M1 c := fun c c1 => by rw [e2, xw_B (by omega)]
      exact zC_f h1 ⟨by rw [eo _ (by omega)], by rw [eo _ (by omega)]⟩ (by rw [eo _ (by omega)]) (by rw [eo _ (by omega)]; exact h1.2.2.1) (by rw [eo _ (by omega)]; exact h1.2.2.2.1) (fun c hc => eo c (by omega)) rfl rfl (fun q => absurd q z5)
    · unfold p_X12_readFlow
      have k1 : M (m + 3) 2 = yS s.A 2 := (zM_cnt (s := zG b n s) h0 h).2.1
      rw [k1]
      refine ⟨⟨by decide, by decide⟩, fun q => by omega, fun _ => zM_repG (by decide) h0 rfl h (fun M1 h1 => ⟨⟨by decide, by decide⟩, fun z _ => ?_⟩)⟩
      unfold p_X12_readFlow_27
      exact zM_good h1 (fun q => absurd q z5) (fun _ => ⟨fun _ => me _ B d M1 Q _ _ z5 h1 (hq M1 h1), fun q => absurd rfl q⟩)
end ZFJ
