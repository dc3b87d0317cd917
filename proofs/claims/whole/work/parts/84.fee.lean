/-! LAYER 2, load: fee, refund, price, the statement: both sides -/
section ZST
variable {b : Nat → Int} {n x m F N many : Nat} {B M M' : xMe} {s s' : zS} {Q : xMe → Prop} {R : Int → xMe → Prop} {d g k v th z9 : Int} {A A' : yA}
theorem zu3 (hT : zT n s) : s.u.2.2 = 0 ∨ s.u.2.2 = 1 := by
  rcases hT.2.2.1 with a | a
  · exact Or.inl a.1
  · exact Or.inr a.1
theorem z_fee (hn : n ≤ 700) (hF : 702 ≤ F) (hb : ∀ j, j < n → 0 ≤ b j ∧ b j ≤ 255) (h0 : s.e = 0) (hT : zT n s) (hp : s.p < n) : ∃ s', zTo n s s' ∧ (∀ (B M : xMe) (Q : xMe → Prop), zC b n x B s M → (∀ M', zC b n x B s' M' → Q M') → (s.u.1 ≠ 0 → p_X8_fail (x + 1) (-2) M Q) ∧ (s.u.1 = 0 → zCfe F (x + 1) M Q)) ∧ (∀ (B : xMe) (d : Int) (M : xMe) (Q : xMe → Prop), zM b n m B d (zG b n s) M → (∀ M', zM b n m B d s' M' → p_X12_expect F m 59 M' Q) → zMfe F m (s.p : Int) M Q) := by
  have h3 := zu3 hT
  obtain ⟨t1, t2, t3, t4, t5, t6⟩ := hT
  have z2 : (zE s (-2)).e ≠ 0 := show ¬ ((-2 : Int)) = 0 by decide
  by_cases u1 : s.u.1 = 0
  · obtain ⟨s2, v, b1, b2, b3⟩ := z_N (x := x) (m := m) (lo := 0) (hi := 99) hn hF hb (by decide) (by decide) (by decide) (zX (zG b n s) s.A (1, s.u.2.1, s.u.2.2))
    have cb : ∀ (B M : xMe) (Q : xMe → Prop), zC b n x B s M → (∀ M' r, (s2.e = 0 → r = v) → zC b n x B s2 M' → Q (xw M' (x + 4) 8 r)) → zCfe F (x + 1) M Q := fun B M Q h hq => by
      unfold zCfe
      intro M1 e1
      have h1 : zC b n x B (zX s s.A (1, s.u.2.1, s.u.2.2)) M1 := by rw [e1]; exact zC_u h0 t2.1 h (Or.inl ⟨rfl, rfl⟩)
      refine zC_mv (s := zX s s.A (1, s.u.2.1, s.u.2.2)) hn hF h0 h1 (fun M2 h2 => ?_)
      refine b2 B M2 _ h2 (fun M3 r g3 h3' M4 e4 => ?_)
      rw [e4]
      exact hq M3 r g3 h3'
    have mb : ∀ (B : xMe) (d : Int) (M : xMe) (Q : xMe → Prop), zM b n m B d (zG b n s) M → (∀ M' r, (s2.e = 0 → r = v) → zM b n m B d s2 M' → p_X12_expect F m 59 (xw M' (m + 3) 9 r) Q) → zMfe F m (s.p : Int) M Q := fun B d M Q h hq => by
      unfold zMfe
      refine zM_once0 h0 rfl h t5 t6 h3 (fun _ M1 h1 => ?_) (fun q => by omega)
      refine b3 B d M1 _ h1 (fun M2 r g2 _ _ h2 => ⟨⟨by decide, by decide⟩, fun M3 e3 => ?_⟩)
      rw [e3]
      exact hq M2 r g2 h2
    by_cases e2 : s2.e = 0
    · obtain ⟨u0, ul, uh, us, up⟩ := b1 e2
      have eA : s2.A = s.A := by rw [us]; rfl
      have eu : s2.u = (1, s.u.2.1, s.u.2.2) := by rw [us]; rfl
      have ep : s2.p = znx b n (znx b n s.p) := by rw [us]; rfl
      have p0 := znx_gt (b := b) hp
      have p1 := znx_ge (b := b) (n := n) (p := znx b n s.p)
      refine ⟨zX s2 (yw s2.A 9 v) s2.u, fun _ => ⟨⟨by show s2.p ≤ n; rw [ep]; exact znx_le (znx_le t1), zI_pr (by rw [eA]; exact t2) (Or.inl ⟨rfl, ul, uh⟩), ?_, ?_, Or.inr (by rw [show (zX s2 (yw s2.A 9 v) s2.u).u = s2.u from rfl, eu]), ?_⟩, by show s.p < s2.p; omega⟩, fun B M Q h hq => ⟨fun q => absurd u1 q, fun _ => cb B M Q h (fun M' r hr h' => ?_)⟩, fun B d M Q h hq => mb B d M Q h (fun M' r hr h' => ?_)⟩
      · show (s2.u.2.2 = 0 ∧ yK s2.A = []) ∨ (s2.u.2.2 = 1 ∧ zKd (yK s2.A) 1)
        rw [eu, eA]; exact t3
      · show (yK s2.A).length ≤ s2.p
        rw [eA]; omega
      · rw [show (zX s2 (yw s2.A 9 v) s2.u).u = s2.u from rfl, eu]; exact t6
      · rw [hr e2]
        exact hq _ (zC_pr e2 (by rw [eA]; exact t2) h' (Or.inl ⟨rfl, rfl⟩))
      · rw [hr e2]
        exact hq _ (zM_w (k := 9) e2 h' (by omega))
    · refine ⟨s2, fun q => absurd q e2, fun B M Q h hq => ⟨fun q => absurd u1 q, fun _ => cb B M Q h (fun M' r hr h' => hq _ (zC_we e2 h'))⟩, fun B d M Q h hq => mb B d M Q h (fun M' r hr h' => hq _ (zM_we e2 h' (Or.inl (by decide))))⟩
  · refine ⟨zE s (-2), fun q => absurd q z2, fun B M Q h hq => ⟨fun _ => zC_fail (by decide) h0 h hq, fun q => absurd q u1⟩, fun B d M Q h hq => ?_⟩
    unfold zMfe
    exact zM_once0 h0 rfl h t5 t6 h3 (fun q => absurd q u1) (fun _ M1 h1 => zM_numE z2 h1 ⟨⟨by decide, by decide⟩, fun M2 e2 => by rw [e2]; exact hq _ (zM_we z2 h1 (Or.inl (by decide)))⟩)
theorem z_refund (hn : n ≤ 700) (hF : 702 ≤ F) (hb : ∀ j, j < n → 0 ≤ b j ∧ b j ≤ 255) (h0 : s.e = 0) (hT : zT n s) (hp : s.p < n) : ∃ s', zTo n s s' ∧ (∀ (B M : xMe) (Q : xMe → Prop), zC b n x B s M → (∀ M', zC b n x B s' M' → Q M') → (s.u.2.1 ≠ 0 → p_X8_fail (x + 1) (-2) M Q) ∧ (s.u.2.1 = 0 → zCre F (x + 1) M Q)) ∧ (∀ (B : xMe) (d : Int) (M : xMe) (Q : xMe → Prop), zM b n m B d (zG b n s) M → (∀ M', zM b n m B d s' M' → p_X12_expect F m 59 M' Q) → zMre F m (s.p : Int) M Q) := by
  have h3 := zu3 hT
  obtain ⟨t1, t2, t3, t4, t5, t6⟩ := hT
  have z2 : (zE s (-2)).e ≠ 0 := show ¬ ((-2 : Int)) = 0 by decide
  by_cases u1 : s.u.2.1 = 0
  · obtain ⟨s2, v, b1, b2, b3⟩ := z_N (x := x) (m := m) (lo := 0) (hi := 100) hn hF hb (by decide) (by decide) (by decide) (zX (zG b n s) s.A (s.u.1, 1, s.u.2.2))
    have cb : ∀ (B M : xMe) (Q : xMe → Prop), zC b n x B s M → (∀ M' r, (s2.e = 0 → r = v) → zC b n x B s2 M' → p_X8_takeNumber F (x + 1) 1 999 (xw M' (x + 4) 9 r) (fun r178 M178 => (∀ M181 : xMe, M181 = xw M178 (x + 4) 10 r178 → Q M181))) → zCre F (x + 1) M Q := fun B M Q h hq => by
      unfold zCre
      intro M1 e1
      have h1 : zC b n x B (zX s s.A (s.u.1, 1, s.u.2.2)) M1 := by rw [e1]; exact zC_u h0 t2.1 h (Or.inr ⟨rfl, rfl⟩)
      refine zC_mv (s := zX s s.A (s.u.1, 1, s.u.2.2)) hn hF h0 h1 (fun M2 h2 => ?_)
      refine b2 B M2 _ h2 (fun M3 r g3 h3' M4 e4 => ?_)
      rw [e4]
      exact hq M3 r g3 h3'
    have mb : ∀ (B : xMe) (d : Int) (M : xMe) (Q : xMe → Prop), zM b n m B d (zG b n s) M → (∀ M' r, (s2.e = 0 → r = v) → zM b n m B d s2 M' → p_X12_number F m 1 999 (xw M' (m + 3) 10 r) (fun r150 M150 => ((0 : Int) ≤ 11 ∧ (11 : Int) < 2105) ∧ (∀ M153 : xMe, M153 = xw M150 (m + 3) 11 r150 → p_X12_expect F m 59 M153 (fun M197 => Q M197)))) → zMre F m (s.p : Int) M Q := fun B d M Q h hq => by
      unfold zMre
      refine zM_once1 h0 rfl h t5 t6 h3 (fun _ M1 h1 => ?_) (fun q => by omega)
      refine b3 B d M1 _ h1 (fun M2 r g2 _ _ h2 => ⟨⟨by decide, by decide⟩, fun M3 e3 => ?_⟩)
      rw [e3]
      exact hq M2 r g2 h2
    by_cases e2 : s2.e = 0
    · obtain ⟨u0, ul, uh, us, up⟩ := b1 e2
      have eA : s2.A = s.A := by rw [us]; rfl
      have eu : s2.u = (s.u.1, 1, s.u.2.2) := by rw [us]; rfl
      have ep : s2.p = znx b n (znx b n s.p) := by rw [us]; rfl
      have p0 := znx_gt (b := b) hp
      have p1 := znx_ge (b := b) (n := n) (p := znx b n s.p)
      have I2 : zI (yw s2.A 10 v) := zI_pr (by rw [eA]; exact t2) (Or.inr (Or.inl ⟨rfl, ul, uh⟩))
      obtain ⟨s3, w, c1, c2, c3⟩ := z_N (x := x) (m := m) (lo := 1) (hi := 999) hn hF hb (by decide) (by decide) (by decide) (zX s2 (yw s2.A 10 v) s2.u)
      have cb2 : ∀ (B M : xMe) (Q : xMe → Prop), zC b n x B s M → (∀ M' r, (s3.e = 0 → r = w) → zC b n x B s3 M' → Q (xw M' (x + 4) 10 r)) → zCre F (x + 1) M Q := fun B M Q h hq => cb B M Q h (fun M' r hr h' => by
        rw [hr e2]
        refine c2 B _ _ (zC_pr e2 (by rw [eA]; exact t2) h' (Or.inr (Or.inl ⟨rfl, rfl⟩))) (fun M3 r3 g3 h3' M4 e4 => ?_)
        rw [e4]
        exact hq M3 r3 g3 h3')
      have mb2 : ∀ (B : xMe) (d : Int) (M : xMe) (Q : xMe → Prop), zM b n m B d (zG b n s) M → (∀ M' r, (s3.e = 0 → r = w) → zM b n m B d s3 M' → p_X12_expect F m 59 (xw M' (m + 3) 11 r) Q) → zMre F m (s.p : Int) M Q := fun B d M Q h hq => mb B d M Q h (fun M' r hr h' => by
        rw [hr e2]
        refine c3 B d _ _ (zM_w (k := 10) e2 h' (by omega)) (fun M3 r3 g3 _ _ h3' => ⟨⟨by decide, by decide⟩, fun M4 e4 => ?_⟩)
        rw [e4]
        exact hq M3 r3 g3 h3')
      by_cases e3 : s3.e = 0
      · obtain ⟨v0, vl, vh, vs, vp⟩ := c1 e3
        have fA : s3.A = yw s2.A 10 v := by rw [vs]; rfl
        have fu : s3.u = s2.u := by rw [vs]; rfl
        have fp : s3.p = znx b n s2.p := by rw [vs]; rfl
        have p2 := znx_ge (b := b) (n := n) (p := s2.p)
        refine ⟨zX s3 (yw s3.A 11 w) s3.u, fun _ => ⟨⟨by show s3.p ≤ n; rw [fp, ep]; exact znx_le (znx_le (znx_le t1)), zI_pr (by rw [fA]; exact I2) (Or.inr (Or.inr ⟨rfl, vl, vh⟩)), ?_, ?_, ?_, ?_⟩, by show s.p < s3.p; omega⟩, fun B M Q h hq => ⟨fun q => absurd u1 q, fun _ => cb2 B M Q h (fun M' r hr h' => ?_)⟩, fun B d M Q h hq => mb2 B d M Q h (fun M' r hr h' => ?_)⟩
        · show (s3.u.2.2 = 0 ∧ yK s3.A = []) ∨ (s3.u.2.2 = 1 ∧ zKd (yK s3.A) 1)
          have eK : yK s3.A = yK s.A := by rw [fA, ← eA]; rfl
          rw [fu, eu, eK]; exact t3
        · show (yK s3.A).length ≤ s3.p
          have eK : yK s3.A = yK s.A := by rw [fA, ← eA]; rfl
          rw [eK]; omega
        · rw [show (zX s3 (yw s3.A 11 w) s3.u).u = s3.u from rfl, fu, eu]; exact t5
        · rw [show (zX s3 (yw s3.A 11 w) s3.u).u = s3.u from rfl, fu, eu]; exact Or.inr rfl
        · rw [hr e3]
          exact hq _ (zC_pr e3 (by rw [fA]; exact I2) h' (Or.inr (Or.inr ⟨rfl, rfl⟩)))
        · rw [hr e3]
          exact hq _ (zM_w (k := 11) e3 h' (by omega))
      · exact ⟨s3, fun q => absurd q e3, fun B M Q h hq => ⟨fun q => absurd u1 q, fun _ => cb2 B M Q h (fun M' r hr h' => hq _ (zC_we e3 h'))⟩, fun B d M Q h hq => mb2 B d M Q h (fun M' r hr h' => hq _ (zM_we e3 h' (Or.inl (by decide))))⟩
    · refine ⟨s2, fun q => absurd q e2, fun B M Q h hq => ⟨fun q => absurd u1 q, fun _ => cb B M Q h (fun M' r hr h' => ?_)⟩, fun B d M Q h hq => mb B d M Q h (fun M' r hr h' => ?_)⟩
      · exact zC_numE hn hF (by decide) (by decide) e2 (zC_we e2 h') (fun M4 e4 => by rw [e4]; exact hq _ (zC_we e2 (zC_we e2 h')))
      · exact zM_numE e2 (zM_we e2 h' (Or.inl (by decide))) ⟨⟨by decide, by decide⟩, fun M4 e4 => by rw [e4]; exact hq _ (zM_we e2 (zM_we e2 h' (Or.inl (by decide))) (Or.inl (by decide)))⟩
  · refine ⟨zE s (-2), fun q => absurd q z2, fun B M Q h hq => ⟨fun _ => zC_fail (by decide) h0 h hq, fun q => absurd q u1⟩, fun B d M Q h hq => ?_⟩
    unfold zMre
    exact zM_once1 h0 rfl h t5 t6 h3 (fun q => absurd q u1) (fun _ M1 h1 => zM_numE z2 h1 ⟨⟨by decide, by decide⟩, fun M2 e2 => by rw [e2]; exact zM_numE z2 (zM_we z2 h1 (Or.inl (by decide))) ⟨⟨by decide, by decide⟩, fun M4 e4 => by rw [e4]; exact hq _ (zM_we z2 (zM_we z2 h1 (Or.inl (by decide))) (Or.inl (by decide)))⟩⟩)
theorem zM_12 (h : zM b n m B d s M) : zM b n m B d s (xw M (m + 3) 12 1) := by
  have fB : ∀ c, c ≠ m + 3 → xw M (m + 3) 12 1 c = M c := fun c hc => xw_B hc
  refine zM_f h (by rw [fB _ (by omega)]; exact h.1.1) (by rw [fB _ (by omega)]; exact h.1.2) (by rw [fB _ (by omega)]; exact h.2.2.2.1) (by rw [xw_j (by decide)]; exact h.2.2.2.2.1) (fun c _ c2 => fB c c2) (fun j _ _ => by rw [fB _ (by omega)]) (fun q => ⟨by rw [fB _ (by omega)]; exact (h.2.2.2.2.2.2.2 q).1, ?_, by rw [fB _ (by omega)]; exact (h.2.2.2.2.2.2.2 q).2.2⟩) d (by rw [fB _ (by omega)]; exact h.2.2.1)
  obtain ⟨d1, d2, d3, d4, d5⟩ := (h.2.2.2.2.2.2.2 q).2.1
  refine ⟨fun k hk => ?_, ⟨by rw [xw_j (by omega)]; exact d2.1, fun i w hw => ?_⟩, by rw [xw_j (by omega)]; exact d3, fun g g0 g1 => by rw [xw_j (by omega)]; exact d4 g g0 g1, by rw [xw_j (by omega)]; exact d5.1, fun j w hw => by rw [xw_j (by omega)]; exact d5.2 j w hw⟩
  · have hk' := hk
    unfold yG at hk'
    rw [xw_j (by omega)]; exact d1 k hk
  · have a := d2.2 i w hw
    rw [xw_j (by omega), xw_j (by omega), xw_j (by omega), xw_j (by omega)]; exact a
theorem z_price (hn : n ≤ 700) (hF : 702 ≤ F) (hb : ∀ j, j < n → 0 ≤ b j ∧ b j ≤ 255) (h0 : s.e = 0) (hT : zT n s) (hp : s.p < n) : ∃ s', zTo n s s' ∧ (∀ (B M : xMe) (Q : xMe → Prop), zC b n x B s M → (∀ M', zC b n x B s' M' → Q M') → (s.u.2.2 ≠ 0 → p_X8_fail (x + 1) (-2) M Q) ∧ (s.u.2.2 = 0 → zCpr F (x + 1) M Q)) ∧ (∀ (B M : xMe) (Q : xMe → Prop), zM b n m B 0 (zG b n s) M → (∀ M', zM b n m B 0 s' M' → p_X12_expect F m 59 M' Q) → zMpr F m (s.p : Int) M Q) := by
  have h3 := zu3 hT
  obtain ⟨t1, t2, t3, t4, t5, t6⟩ := hT
  have z2 : (zE s (-2)).e ≠ 0 := show ¬ ((-2 : Int)) = 0 by decide
  by_cases u1 : s.u.2.2 = 0
  · have hK : yK s.A = [] := by
      rcases t3 with a | a
      · exact a.2
      · omega
    have J0 : zJ n (zX (zG b n s) s.A (s.u.1, s.u.2.1, 1)) 0 := ⟨rfl, by
      show zKd (yK s.A) 0
      rw [hK]
      exact ⟨fun K' h => h, rfl⟩, by show (yK s.A).length ≤ znx b n s.p; rw [hK]; exact Nat.zero_le _, t2, znx_le t1⟩
    obtain ⟨s1, f1, f2, f3⟩ := z_rec (x := x) (m := m) hn hF hb 4 0 0 8 8 (by decide) (by decide) (by decide) (by decide) (zX (zG b n s) s.A (s.u.1, s.u.2.1, 1)) h0 J0
    have p0 := znx_gt (b := b) hp
    refine ⟨s1, fun q => ?_, fun B M Q h hq => ⟨fun q => absurd u1 q, fun _ => ?_⟩, fun B M Q h hq => ?_⟩
    · obtain ⟨a1, a2, a3, a4⟩ := f1 q
      have a2' : znx b n s.p < s1.p := a2
      have eu : s1.u = (s.u.1, s.u.2.1, 1) := a4
      exact ⟨⟨a1.2.2.2.2, a1.2.2.2.1, Or.inr ⟨a1.1, a1.2.1⟩, a1.2.2.1, by rw [eu]; exact t5, by rw [eu]; exact t6⟩, by omega⟩
    · unfold zCpr
      intro M1 e1
      obtain ⟨o1, o2, o3⟩ := h.2.2.2.2.2 h0
      have fB : ∀ c, c ≠ x + 1 → M1 c = M c := fun c hc => by rw [e1]; exact xw_B hc
      refine z_mv (x := x) hn hF (zte_le t1) (zTx_f h.2.1 (by rw [fB _ (by omega)]) (fB _ (by omega))) (by rw [fB _ (by omega)]; exact o2.2.1) (fun M2 k1 k2 M3 e3 => ?_)
      have gB : ∀ c, c ≠ x + 1 → c ≠ x + 2 → M3 c = M c := fun c c1 c2 => by
        rw [e3, xw_B c1]; funext j; rw [k2 c j (by omega), fB c c1]
      have g1 : ∀ j, j ≠ 5 → j ≠ 8 → M3 (x + 1) j = M (x + 1) j := fun j j1 j2 => by rw [e3, xw_j j1, k2 _ _ (by omega), e1, xw_j j2]
      have g2 : ∀ j, M3 (x + 2) j = M2 (x + 2) j := fun j => by rw [e3, xw_b (by omega)]
      refine f2 B M3 Q (zC_f (s' := zX (zG b n s) s.A (s.u.1, s.u.2.1, 1)) h ⟨g1 _ (by decide) (by decide), g1 _ (by decide) (by decide)⟩ (by rw [g2, k2 _ _ (by omega), fB _ (by omega)]) (by rw [gB _ (by omega) (by omega)]; exact h.2.2.1) (by rw [gB _ (by omega) (by omega)]; exact h.2.2.2.1) (fun c hc => gB c (by omega) (by omega)) rfl rfl (fun _ => ⟨znx_le t1, ?_, ?_⟩)) hq
      · show zTk b n (znx b n s.p) x M3
        unfold zTk
        rw [g2, g2, g2, g2]; exact k1
      · obtain ⟨r1, r2, r3, r4, r5⟩ := o3
        refine ⟨zR_s r1 (fun o i k _ hl => ⟨hl, rfl⟩) (fun b b1 b2 => gB b (by omega) (by omega)) t2.1, yU_row r2 (fun b b1 b2 => gB b (by omega) (by omega)), by rw [gB _ (by omega) (by omega)]; exact r3, ⟨by rw [g1 _ (by decide) (by decide)]; exact r4.1, by rw [g1 _ (by decide) (by decide)]; exact r4.2.1, ?_⟩, fun _ => ⟨?_, fun i w hw => ?_⟩⟩
        · rw [e3, xw_j (by decide), k2 _ _ (by omega), e1]; exact xw_s
        · have l : (yK (zX (zG b n s) s.A (s.u.1, s.u.2.1, 1)).A).length = 0 := by
            show (yK s.A).length = 0
            rw [hK]; rfl
          rw [e3, xw_s, l]; rfl
        · have hw' : (yK s.A)[i]? = some w := hw
          rw [hK] at hw'
          cases hw'
    · unfold zMpr
      refine zM_once2 h0 rfl h t5 t6 h3 (fun _ M1 h1 => ⟨⟨by decide, by decide⟩, fun M2 e2 => ?_⟩) (fun q => by omega)
      rw [e2]
      exact f3 B _ _ (zM_12 h1) (fun M3 h3' => hq M3 h3')
  · refine ⟨zE s (-2), fun q => absurd q z2, fun B M Q h hq => ⟨fun _ => zC_fail (by decide) h0 h hq, fun q => absurd q u1⟩, fun B M Q h hq => ?_⟩
    unfold zMpr
    refine zM_once2 h0 rfl h t5 t6 h3 (fun q => absurd q u1) (fun _ M1 h1 => ⟨⟨by decide, by decide⟩, fun M2 e2 => ?_⟩)
    rw [e2]
    exact zM_sumE (by omega) z2 (zM_12 h1) (hq _ (zM_12 h1)) 8 (by decide)
end ZST
