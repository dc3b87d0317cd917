/-! LAYER 2, load: the statement flow, whole -/
section ZFW
variable {b : Nat → Int} {n x m F N many : Nat} {B M M' : xMe} {s s' : zS} {Q : xMe → Prop} {R : Int → xMe → Prop} {d g k v th : Int} {A A' : yA}
theorem zC_num2 {lo hi : Int} (hn : n ≤ 700) (hF : 702 ≤ F) (hlo : lo ≤ 1) (hhi : hi ≤ 9999) (h0 : s.e = 0) (h : zC b n x B s M) (h2 : ∀ M' k, k ≠ 0 → zC b n x B (zE s k) M' → ((zkd b n s.p ≠ 257 ∧ k = -2) ∨ (zkd b n s.p = 257 ∧ ¬ (lo ≤ znu b n s.p ∧ znu b n s.p ≤ hi) ∧ k = -3)) → R (-1) M') (h4 : zkd b n s.p = 257 → (lo ≤ znu b n s.p ∧ znu b n s.p ≤ hi) → ∀ M', zC b n x B (zG b n s) M' → (∀ c, c ≠ x + 2 → M' c = M c) → R (znu b n s.p) M') : p_X8_takeNumber F (x + 1) lo hi M R := by
  unfold p_X8_takeNumber
  refine zC_stands hlo hhi h (fun a => absurd h0 a) (fun a c M' hM => ⟨fun q => absurd rfl q, fun _ => h2 M' (-2) (by decide) hM (Or.inl ⟨c, rfl⟩)⟩) (fun a c e M' hM => ⟨fun q => absurd rfl q, fun _ => h2 M' (-3) (by decide) hM (Or.inr ⟨c, e, rfl⟩)⟩) (fun a c e g => ⟨fun _ z ez => ?_, fun q => absurd q (by decide)⟩)
  have ez' : z = znu b n s.p := ez.trans g
  rw [ez']
  exact zC_mv2 hn hF a h (fun M' hM f => h4 c e M' hM f)
theorem zFl_0 (h : yS A (34 + 8 * (N : Int)) = 0) : yw (yw A (33 + 8 * (N : Int)) many) 2 ((N : Int) + 1) = zFl A N many 0 := by
  unfold zFl yw
  refine Prod.ext ?_ rfl
  funext k
  show yup (yup A.1 (33 + 8 * (N : Int)) many) 2 ((N : Int) + 1) k = yup (yup (yup A.1 (33 + 8 * (N : Int)) many) (34 + 8 * (N : Int)) 0) 2 ((N : Int) + 1) k
  by_cases c : k = 2
  · rw [c, yup_s, yup_s]
  · rw [yup_n c, yup_n c]
    by_cases c2 : k = 34 + 8 * (N : Int)
    · rw [c2, yup_s, yup_n (by omega)]; exact h
    · rw [yup_n c2]
theorem zRo_f (h : zRo x N many A M) (f : ∀ c, c ≠ x + 2 → M' c = M c) : zRo x N many A M' := by
  unfold zRo at *
  rw [f (x + 11) (by omega), f (x + 10) (by omega)]; exact h
theorem zC_fl2 (h0 : s.e = 0) (hI : zI s.A) (hr : zRp N many s.A) (hm : 1 ≤ many) (t0 : 0 ≤ th ∧ th ≤ 99) (h : zC b n x B s M) (hro : zRo x N many s.A M) (hq : ∀ M', zC b n x B (zX s (zFl s.A N many th) s.u) M' → Q M') : p_X1_close (x + 9) th M Q := by
  obtain ⟨o1, o2, o3⟩ := h.2.2.2.2.2 h0
  exact zC_fl hI hr hro o3.1 (fun M5 hR fB => hq M5 (zC_dr h ⟨by rw [fB _ (by omega)], by rw [fB _ (by omega)]⟩ (fB _ (by omega)) (fun c hc => fB c (by omega)) (zI_fl hI hr hm t0).1 (zCd_dr o3 hR (yU_row o3.2.1 (fun b b1 b2 => fB b (by omega))) rfl (fB _ (by omega)) (fB _ (by omega)) (fB _ (by omega)))))
end ZFW
