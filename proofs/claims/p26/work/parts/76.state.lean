/-! LAYER 2, load: statements: gate, packet, coupon -/
def zT (n : Nat) (s : zS) : Prop := s.p ≤ n ∧ zI s.A ∧ ((s.u.2.2 = 0 ∧ yK s.A = []) ∨ (s.u.2.2 = 1 ∧ zKd (yK s.A) 1)) ∧ (yK s.A).length ≤ s.p ∧ (s.u.1 = 0 ∨ s.u.1 = 1) ∧ (s.u.2.1 = 0 ∨ s.u.2.1 = 1)
def zTo (n : Nat) (s s' : zS) : Prop := s'.e = 0 → zT n s' ∧ s.p < s'.p
section ZU
variable {b : Nat → Int} {n x m F : Nat} {B M M' : xMe} {s s' : zS} {Q : xMe → Prop} {R : Int → xMe → Prop} {d k v : Int} {A A' : yA}
theorem zD_w {c : Nat} (h : zD c M A) (hk : (9 ≤ k ∧ k ≤ 11) ∨ (15 ≤ k ∧ k < 81) ∨ (1 ≤ k ∧ k ≤ 2)) : zD c (xw M c k.toNat v) (yw A k v) := by
  obtain ⟨d1, d2, d3, d4, d5⟩ := h
  refine ⟨yD_w d1 (by omega), ⟨by rw [xw_j (by omega)]; exact d2.1, fun i w hw => ?_⟩, by rw [xw_j (by omega)]; exact d3, fun g g0 g1 => by rw [xw_j (by omega)]; exact d4 g g0 g1, by rw [xw_j (by omega)]; exact d5.1, fun j w hw => by rw [xw_j (by omega)]; exact d5.2 j w hw⟩
  have a := d2.2 i w hw
  rw [xw_j (by omega), xw_j (by omega), xw_j (by omega), xw_j (by omega)]; exact a
theorem zM_w (h0 : s.e = 0) (h : zM b n m B d s M) (hk : (9 ≤ k ∧ k ≤ 11) ∨ (15 ≤ k ∧ k < 81) ∨ k = 1 ∨ (k = 2 ∧ 0 ≤ v ∧ v ≤ 6)) : zM b n m B d (zX s (yw s.A k v) s.u) (xw M (m + 3) k.toNat v) := by
  obtain ⟨a1, a2, a3⟩ := h.2.2.2.2.2.2.2 h0
  have fB : ∀ c, c ≠ m + 3 → xw M (m + 3) k.toNat v c = M c := fun c hc => xw_B hc
  refine zM_f (s' := zX s (yw s.A k v) s.u) h (by rw [fB _ (by omega)]; exact h.1.1) (by rw [fB _ (by omega)]; exact h.1.2) (by rw [fB _ (by omega)]; exact h.2.2.2.1) ?_ (fun c _ c2 => fB c c2) (fun j _ _ => by rw [fB _ (by omega)]) (fun _ => ⟨by rw [fB _ (by omega)]; exact a1, zD_w a2 (by omega), by rw [fB _ (by omega)]; exact a3⟩) d (by rw [fB _ (by omega)]; exact h.2.2.1)
  by_cases q : k = 2
  · rw [q, show (2 : Int).toNat = 2 from rfl, xw_s]; omega
  · rw [xw_j (by omega)]; exact h.2.2.2.2.1
/-- a write of the model behind an error -/
theorem zM_we {j : Nat} (h0 : s.e ≠ 0) (h : zM b n m B d s M) (hj : j ≠ 2 ∨ (0 ≤ v ∧ v ≤ 6)) : zM b n m B d s (xw M (m + 3) j v) := by
  have fB : ∀ c, c ≠ m + 3 → xw M (m + 3) j v c = M c := fun c hc => xw_B hc
  refine zM_f h (by rw [fB _ (by omega)]; exact h.1.1) (by rw [fB _ (by omega)]; exact h.1.2) (by rw [fB _ (by omega)]; exact h.2.2.2.1) ?_ (fun c _ c2 => fB c c2) (fun j _ _ => by rw [fB _ (by omega)]) (fun q => absurd q h0) d (by rw [fB _ (by omega)]; exact h.2.2.1)
  by_cases q : j = 2
  · rw [q, xw_s]; omega
  · rw [xw_j (by omega)]; exact h.2.2.2.2.1
theorem zC_cnt (h0 : s.e = 0) (h : zC b n x B s M) : M (x + 5) 3 = yS s.A 1 ∧ M (x + 9) 4 = yS s.A 2 ∧ M (x + 20) 8 = yS s.A 3 ∧ M (x + 29) 4 = ((yC s.A).length : Int) := by
  obtain ⟨p1, p2, p3⟩ := h.2.2.2.2.2 h0
  exact ⟨p3.1 1 3 1 (by decide) yl1, p3.1 5 4 2 (by decide) yl5, p3.1 16 8 3 (by decide) yl16, p3.2.1.1⟩
theorem zM_cnt (h0 : s.e = 0) (h : zM b n m B d s M) : M (m + 3) 1 = yS s.A 1 ∧ M (m + 3) 2 = yS s.A 2 ∧ M (m + 3) 3 = yS s.A 3 ∧ M (m + 3) 4 = ((yC s.A).length : Int) := by
  obtain ⟨a1, a2, a3⟩ := h.2.2.2.2.2.2.2 h0
  exact ⟨a2.1 1 (by unfold yG; omega), a2.1 2 (by unfold yG; omega), a2.1 3 (by unfold yG; omega), a2.2.1.1⟩
/-- a change of the draft by the class -/
theorem zC_dr {u : Int × Int × Int} (h : zC b n x B s M) (f1 : M' (x + 1) 2 = M (x + 1) 2 ∧ M' (x + 1) 3 = M (x + 1) 3) (f2 : M' (x + 2) = M (x + 2)) (fr : ∀ c, ¬ (x + 1 ≤ c ∧ c ≤ x + 43 ∧ c ≠ x + 3) → M' c = M c) (hN : yN A') (hd : zCd x A' u M') : zC b n x B (zX s A' u) M' := by
  obtain ⟨n1, n2, n3, n4, n5, n6⟩ := hN
  have e1 : M' (x + 5) 3 = yS A' 1 := hd.1 1 3 1 (by decide) yl1
  have e2 : M' (x + 9) 4 = yS A' 2 := hd.1 5 4 2 (by decide) yl5
  refine zC_f (s' := zX s A' u) h f1 (by rw [f2]) (by omega) (by omega) fr rfl rfl (fun q => ⟨(h.2.2.2.2.2 q).1, ?_, hd⟩)
  have t := (h.2.2.2.2.2 q).2.1
  unfold zTk at *
  rw [f2]; exact t
end ZU
