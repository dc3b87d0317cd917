/-! LAYER 2, load: the statement flow, whole -/
section ZFW
variable {b : Nat → Int} {n x m F N many : Nat} {B M M' : xMe} {s s' : zS} {Q : xMe → Prop} {R : Int → xMe → Prop} {d g k v th : Int} {A A' : yA}
theorem zC_num2 {lo hi : Int} (hn : n ≤ 700) (hF : 702 ≤ F) (hlo : lo ≤ 1) (hhi : hi ≤ 9999) (h0 : s.e = 0) (h : zC b n x B s M) (h2 : ∀ M' k, k ≠ 0 → zC b n x B (zE s k) M' → ((zkd b n s.p ≠ 257 ∧ k = -2) ∨ (zkd b n s.p = 257 ∧ ¬ (lo ≤ znu b n s.p ∧ znu b n s.p ≤ hi) ∧ k = -3)) → R (-1) M') (h4 : zkd b n s.p = 257 → (lo ≤ znu b n s.p ∧ znu b n s.p ≤ hi) → ∀ M', zC b n x B (zG b n s) M' → (∀ c, c ≠ x + 2 → M' c = M c) → R (znu b n s.p) M') : p_X8_takeNumber F (x + 1) lo hi M R := by
  unfold p_X8_takeNumber
  refine zC_stands hlo hhi h (fun a => absurd h0 a) (fun a c M' hM => ⟨fun q => absurd rfl q, fun _ => h2 M' (-2) (by decide) hM (Or.inl ⟨c, rfl⟩)⟩) (fun a c e M' hM => ⟨fun q => absurd rfl q, fun _ => h2 M' (-3) (by decide) hM (Or.inr ⟨c, e, rfl⟩)⟩) (fun a c e g => ⟨fun _ z ez => ?_, fun q => absurd q (by decide)⟩)
  have ez' : z = znu b n s.p := ez.trans g
  rw [ez']
  exact zC_mv2 hn hF a h (fun M' hM f => h4 c e M' hM f)
theorem zFl_0 (h : yS A (34 + 8 * (N : Int)) = 0) : yw (yw A (33 + 8 * (N : Int)) many) 2 ((N : Int) + 1) = zFl A N many 0 := by
  unfold zFl yw
  refine Prod.ext ?_ rfl
  funext k
  show yup (yup A.1 (33 + 8 * (N : Int)) many) 2 ((N : Int) + 1) k = yup (yup (yup A.1 (33 + 8 * (N : Int)) many) (34 + 8 * (N : Int)) 0) 2 ((N : Int) + 1) k
  by_cases c : k = 2
  · rw [c, yup_s, yup_s]
  · rw [yup_n c, yup_n c]
    by_cases c2 : k = 34 + 8 * (N : Int)
    · rw [c2, yup_s, yup_n (by omega)]; exact h
    · rw [yup_n c2]
theorem zRo_f (h : zRo x N many A M) (f : ∀ c, c ≠ x + 2 → M' c = M c) : zRo x N many A M' := by
  unfold zRo at *
  rw [f (x + 11) (by omega), f (x + 10) (by omega)]; exact h
theorem zC_fl2 (h0 : s.e = 0) (hI : zI s.A) (hr : zRp N many s.A) (hm : 1 ≤ many) (t0 : 0 ≤ th ∧ th ≤ 99) (h : zC b n x B s M) (hro : zRo x N many s.A M) (hq : ∀ M', zC b n x B (zX s (zFl s.A N many th) s.u) M' → Q M') : p_X1_close (x + 9) th M Q := by
  obtain ⟨o1, o2, o3⟩ := h.2.2.2.2.2 h0
  exact zC_fl hI hr hro o3.1 (fun M5 hR fB => hq M5 (zC_dr h ⟨by rw [fB _ (by omega)], by rw [fB _ (by omega)]⟩ (fB _ (by omega)) (fun c hc => fB c (by omega)) (zI_fl hI hr hm t0).1 (zCd_dr o3 hR (yU_row o3.2.1 (fun b b1 b2 => fB b (by omega))) rfl (fB _ (by omega)) (fB _ (by omega)) (fB _ (by omega)))))
theorem z_thr (hn : n ≤ 700) (hF : 702 ≤ F) (hb : ∀ j, j < n → 0 ≤ b j ∧ b j ≤ 255) (h0 : s.e = 0) (hp : s.p ≤ n) (hI : zI s.A) (hR : zRp N many s.A) (hm : 1 ≤ many) : ∃ s', (s'.e = 0 → zI s'.A ∧ s.p ≤ s'.p ∧ s'.p ≤ n ∧ s'.u = s.u ∧ yK s'.A = yK s.A) ∧ (∀ (B M : xMe) (Q : xMe → Prop), zC b n x B s M → zRo x N many s.A M → (∀ M', zC b n x B s' M' → Q M') → zFc F (x + 1) Q M) ∧ (∀ (B : xMe) (d : Int) (M : xMe) (Q : xMe → Prop), zM b n m B d s M → (∀ M', zM b n m B d s' M' → Q M') → zFk F m Q (N : Int) (many : Int) M) := by
  obtain ⟨w0, w1, w2, w3, w4, w5, w6, w7, w8, w9, w10, w11⟩ := zw0
  obtain ⟨r1, r2, r3, r4⟩ := id hR
  -- the model's beginning
  have mb : ∀ (B : xMe) (d : Int) (M : xMe) (Q : xMe → Prop), zM b n m B d s M → (zIw b n 8 s.p → ∀ M', zM b n m B d (zG b n (zX s (yw s.A (33 + 8 * (N : Int)) many) s.u)) M' → p_X12_number F m 0 99 M' (fun r198 M198 => ((0 : Int) ≤ ((33 + (8 * (N : Int))) + 1) ∧ (((33 + (8 * (N : Int))) + 1) : Int) < 2105) ∧ (∀ M201 : xMe, M201 = xw M198 (m + 3) ((33 + (8 * (N : Int))) + 1).toNat r198 → ((0 : Int) ≤ 2 ∧ (2 : Int) < 2105) ∧ (xR ((M201 (m + 3) 2) + 1)) ∧ ((0 : Int) ≤ 2 ∧ (2 : Int) < 2105) ∧ (∀ M211 : xMe, M211 = xw M201 (m + 3) 2 ((M201 (m + 3) 2) + 1) → Q M211)))) → (¬ zIw b n 8 s.p → ∀ M', zM b n m B d (zX s (zFl s.A N many 0) s.u) M' → Q M') → zFk F m Q (N : Int) (many : Int) M := fun B d M Q h c1 c2 => by
    unfold zFk
    refine zM_good h (fun _ => ⟨fun _ => ⟨⟨by omega, by omega⟩, ⟨by omega, by omega⟩, ⟨by omega, by omega⟩, ⟨by omega, by omega⟩, fun M1 e1 => ?_⟩, fun q => absurd q (by decide)⟩) (fun q => absurd h0 q)
    rw [show 33 + 8 * (N : Int) + 0 = 33 + 8 * (N : Int) by omega] at e1
    have h1 : zM b n m B d (zX s (yw s.A (33 + 8 * (N : Int)) many) s.u) M1 := by rw [e1]; exact zM_w h0 h (by omega)
    refine zM_tw (s := zX s (yw s.A (33 + 8 * (N : Int)) many) s.u) hn hF w8 h1 (fun q => absurd h0 q) (fun _ q M2 h2 => ⟨fun r => absurd r (by decide), fun _ => ⟨⟨by omega, by omega⟩, ⟨by omega, by omega⟩, ⟨by omega, by omega⟩, c1 q M2 h2⟩⟩) (fun _ q M2 h2 => ⟨fun _ => ?_, fun r => absurd rfl r⟩)
    have k2 : M2 (m + 3) 2 = (N : Int) := ((zM_cnt (s := zX s (yw s.A (33 + 8 * (N : Int)) many) s.u) h0 h2).2.1).trans ((yup_n (by omega)).trans r1)
    rw [k2]
    refine ⟨⟨by decide, by decide⟩, ⟨by omega, by omega⟩, ⟨by decide, by decide⟩, fun M3 e3 => c2 q M3 ?_⟩
    rw [e3, ← zFl_0 ((hI.2.2.2.2.2.2.1 (N : Int) (by omega) (by omega)).2.2 (by omega))]
    exact zM_w (s := zX s (yw s.A (33 + 8 * (N : Int)) many) s.u) (k := 2) h0 h2 (by omega)
  have cb : ∀ (B M : xMe) (Q : xMe → Prop), zC b n x B s M → zRo x N many s.A M → (zIw b n 8 s.p → ∀ M', zC b n x B (zG b n s) M' → zRo x N many s.A M' → p_X8_takeNumber F (x + 1) 0 99 M' (fun r101 M101 => (((M101 (x + 1) 2) ≠ 0 → Q M101) ∧ ((M101 (x + 1) 2) = 0 → p_X1_close (x + 9) r101 M101 (fun M120 => Q M120))))) → (¬ zIw b n 8 s.p → ∀ M', zC b n x B (zX s (zFl s.A N many 0) s.u) M' → Q M') → zFc F (x + 1) Q M := fun B M Q h hro c1 c2 => by
    unfold zFc
    refine ⟨fun q => absurd (h.1.1.trans h0) q, fun _ => ?_⟩
    refine zC_isw hn hF w8 h0 h (fun q => ⟨fun r => absurd r (by decide), fun _ => ?_⟩) (fun q => ⟨fun _ => ⟨fun r => absurd (h.1.1.trans h0) r, fun _ => ?_⟩, fun r => absurd rfl r⟩)
    · exact zC_mv2 hn hF h0 h (fun M1 h1 f1 => c1 q M1 h1 (zRo_f hro f1))
    · exact zC_fl2 h0 hI hR hm ⟨by decide, by decide⟩ h hro (c2 q)
  by_cases q8 : zIw b n 8 s.p
  · have er : ∀ k : Int, k ≠ 0 → ((zkd b n (znx b n s.p) ≠ 257 ∧ k = -2) ∨ (zkd b n (znx b n s.p) = 257 ∧ ¬ (0 ≤ znu b n (znx b n s.p) ∧ znu b n (znx b n s.p) ≤ 99) ∧ k = -3)) → ∃ s', (s'.e = 0 → zI s'.A ∧ s.p ≤ s'.p ∧ s'.p ≤ n ∧ s'.u = s.u ∧ yK s'.A = yK s.A) ∧ (∀ (B M : xMe) (Q : xMe → Prop), zC b n x B s M → zRo x N many s.A M → (∀ M', zC b n x B s' M' → Q M') → zFc F (x + 1) Q M) ∧ (∀ (B : xMe) (d : Int) (M : xMe) (Q : xMe → Prop), zM b n m B d s M → (∀ M', zM b n m B d s' M' → Q M') → zFk F m Q (N : Int) (many : Int) M) := fun k hk hc => by
      have uniq : ∀ k' : Int, ((zkd b n (znx b n s.p) ≠ 257 ∧ k' = -2) ∨ (zkd b n (znx b n s.p) = 257 ∧ ¬ (0 ≤ znu b n (znx b n s.p) ∧ znu b n (znx b n s.p) ≤ 99) ∧ k' = -3)) → k' = k := fun k' hk' => by
        rcases hc with ⟨a1, a2⟩ | ⟨a1, a2, a3⟩ <;> rcases hk' with ⟨b1, b2⟩ | ⟨b1, b2, b3⟩
        · omega
        · exact absurd b1 a1
        · exact absurd a1 b1
        · omega
      have nok : zkd b n (znx b n s.p) = 257 → ¬ (0 ≤ znu b n (znx b n s.p) ∧ znu b n (znx b n s.p) ≤ 99) := fun a => by
        rcases hc with ⟨a1, a2⟩ | ⟨a1, a2, a3⟩
        · exact absurd a a1
        · exact a2
      have zk : (zE (zG b n s) k).e ≠ 0 := hk
      refine ⟨zE (zG b n s) k, fun q => absurd q zk, fun B M Q h hro hq => cb B M Q h hro (fun _ M1 h1 hro1 => ?_) (fun q => absurd q8 q), fun B d M Q h hq => mb B d M Q h (fun _ M1 h1 => ?_) (fun q => absurd q8 q)⟩
      · refine zC_num2 (s := zG b n s) hn hF (by decide) (by decide) h0 h1 (fun M2 k' _ h2 hk' => ?_) (fun a c => absurd c (nok a))
        rw [uniq k' hk'] at h2
        exact ⟨fun _ => hq M2 h2, fun q => absurd (h2.1.1.symm.trans q) zk⟩
      · have k2 : M1 (m + 3) 2 = (N : Int) := ((zM_cnt (s := zG b n (zX s (yw s.A (33 + 8 * (N : Int)) many) s.u)) h0 h1).2.1).trans ((yup_n (by omega)).trans r1)
        refine zM_num2 (s := zG b n (zX s (yw s.A (33 + 8 * (N : Int)) many) s.u)) hn hF (by decide) (by decide) hb h0 h1 (fun M2 r k' _ h2 hk' f2 => ?_) (fun a c => absurd c (nok a))
        rw [uniq k' hk'] at h2
        refine ⟨⟨by omega, by omega⟩, fun M3 e3 => ?_⟩
        have k3 : M3 (m + 3) 2 = (N : Int) := by rw [e3, xw_j (by omega), f2]; exact k2
        rw [k3]
        have zk' : (zE (zG b n (zX s (yw s.A (33 + 8 * (N : Int)) many) s.u)) k).e ≠ 0 := hk
        have h3 := zM_we (v := r) (j := (33 + 8 * (N : Int) + 1).toNat) zk' h2 (Or.inl (by omega))
        rw [← e3] at h3
        refine ⟨⟨by decide, by decide⟩, ⟨by omega, by omega⟩, ⟨by decide, by decide⟩, fun M4 e4 => hq M4 ?_⟩
        have h4 := zM_we (v := (N : Int) + 1) (j := 2) zk' h3 (Or.inr ⟨by omega, by omega⟩)
        rw [← e4] at h4
        obtain ⟨y1, y2, y3, y4, y5, y6, y7, y8⟩ := h4
        exact ⟨y1, y2, y3, y4, y5, y6, y7, fun q => absurd q hk⟩
    by_cases k257 : zkd b n (znx b n s.p) = 257
    · by_cases hr : 0 ≤ znu b n (znx b n s.p) ∧ znu b n (znx b n s.p) ≤ 99
      · refine ⟨zX (zG b n (zG b n s)) (zFl s.A N many (znu b n (znx b n s.p))) s.u, fun _ => ⟨zI_fl hI hR hm hr, Nat.le_trans znx_ge znx_ge, znx_le (znx_le hp), rfl, rfl⟩, fun B M Q h hro hq => cb B M Q h hro (fun _ M1 h1 hro1 => ?_) (fun q => absurd q8 q), fun B d M Q h hq => mb B d M Q h (fun _ M1 h1 => ?_) (fun q => absurd q8 q)⟩
        · refine zC_num2 (s := zG b n s) hn hF (by decide) (by decide) h0 h1 (fun M2 k' _ h2 hk' => ?_) (fun _ _ M2 h2 f2 => ⟨fun q => absurd (h2.1.1.trans h0) q, fun _ => zC_fl2 (s := zG b n (zG b n s)) h0 hI hR hm hr h2 (zRo_f hro1 f2) hq⟩)
          rcases hk' with ⟨b1, b2⟩ | ⟨b1, b2, b3⟩
          · exact absurd k257 b1
          · exact absurd hr b2
        · refine zM_num2 (s := zG b n (zX s (yw s.A (33 + 8 * (N : Int)) many) s.u)) hn hF (by decide) (by decide) hb h0 h1 (fun M2 r k' _ h2 hk' f2 => ?_) (fun _ _ M2 h2 => ?_)
          · rcases hk' with ⟨b1, b2⟩ | ⟨b1, b2, b3⟩
            · exact absurd k257 b1
            · exact absurd hr b2
          · refine ⟨⟨by omega, by omega⟩, fun M3 e3 => ?_⟩
            rw [show 33 + 8 * (N : Int) + 1 = 34 + 8 * (N : Int) by omega] at e3
            have h3 := zM_w (s := zG b n (zG b n (zX s (yw s.A (33 + 8 * (N : Int)) many) s.u))) (k := 34 + 8 * (N : Int)) (v := znu b n (znx b n s.p)) h0 h2 (by omega)
            have e3' : M3 = xw M2 (m + 3) (34 + 8 * (N : Int)).toNat (znu b n (znx b n s.p)) := e3
            rw [← e3'] at h3
            have k3 : M3 (m + 3) 2 = (N : Int) := ((zM_cnt (s := zX (zG b n (zG b n (zX s (yw s.A (33 + 8 * (N : Int)) many) s.u))) _ _) h0 h3).2.1).trans ((yup_n (by omega)).trans ((yup_n (by omega)).trans r1))
            rw [k3]
            refine ⟨⟨by decide, by decide⟩, ⟨by omega, by omega⟩, ⟨by decide, by decide⟩, fun M4 e4 => hq M4 ?_⟩
            rw [e4]
            exact zM_w (s := zX (zG b n (zG b n (zX s (yw s.A (33 + 8 * (N : Int)) many) s.u))) (yw (yw s.A (33 + 8 * (N : Int)) many) (34 + 8 * (N : Int)) (znu b n (znx b n s.p))) s.u) (k := 2) h0 h3 (by omega)
      · exact er (-3) (by decide) (Or.inr ⟨k257, hr, rfl⟩)
    · exact er (-2) (by decide) (Or.inl ⟨k257, rfl⟩)
  · refine ⟨zX s (zFl s.A N many 0) s.u, fun _ => ⟨zI_fl hI hR hm ⟨by decide, by decide⟩, Nat.le_refl _, hp, rfl, rfl⟩, fun B M Q h hro hq => cb B M Q h hro (fun q => absurd q q8) (fun _ => hq), fun B d M Q h hq => mb B d M Q h (fun q => absurd q q8) (fun _ => hq)⟩
end ZFW
