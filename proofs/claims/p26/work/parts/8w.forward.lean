/-! A COUPON IS FORWARDED, on the Road's side -/
section RFW
variable {P S : Nat → Prop} {σ : Nat → Int} {RA : Int → Nat} {cl : List Nat} {t : xTh} {M : xMe} {r : Nat} {A : yA}
theorem rCp_all {C : List yCo} {i c : Nat} {u w : yCo} {M' : xMe} (h : rCp P σ t M r cl C) (hc : cl[i]? = some c) (hv : C[i]? = some u) (ho : ∀ a, a ≠ c → M' a = M a) (e0 : M' c 0 = w.1) (e1 : M' c 1 = w.2.1) (e2 : M' c 2 = w.2.2.1) (e3 : M' c 3 = w.2.2.2) : rCp P σ t M' r cl (C.set i w) := by
  obtain ⟨h1, h2, h3, h4⟩ := h
  refine ⟨h1, by rw [List.length_set]; exact h2, h3, fun j a b ha hb => ?_⟩
  by_cases e : j = i
  · subst e
    rw [hc] at ha; cases ha
    rw [List.getElem?_set_self (List.getElem?_eq_some_iff.mp hv).1] at hb
    cases hb
    obtain ⟨q1, q2, q3, q4, -⟩ := h4 j c u hc hv
    exact ⟨q1, q2, q3, q4, e0, e1, e2, e3⟩
  · rw [List.getElem?_set_ne (fun q => e q.symm)] at hb
    obtain ⟨q1, q2, q3, q4, q5⟩ := h4 j a b ha hb
    have hne : a ≠ c := fun z => by
      subst z
      obtain ⟨l1, g1⟩ := List.getElem?_eq_some_iff.mp ha
      obtain ⟨l2, g2⟩ := List.getElem?_eq_some_iff.mp hc
      exact e ((List.getElem_inj h3).mp (g1.trans g2.symm))
    rw [ho a hne]
    exact ⟨q1, q2, q3, q4, q5⟩
theorem rRi_call {i c : Nat} {u w : yCo} {v0 v1 v3 : Int} (h : rRi P S σ RA cl t M r A) (hc : cl[i]? = some c) (hv : (yC A)[i]? = some u) (hw : w = (v0, v1, u.2.2.1, v3)) : rRi P S σ RA cl t (xw (xw (xw M c 0 v0) c 1 v1) c 3 v3) r (yCw A ((yC A).set i w)) := by
  obtain ⟨h1, h2, h3, h4, h5, h6, h7, h8, h9⟩ := id h
  obtain ⟨q1, q2, q3, q4, q5, q6, q7, q8⟩ := h8.2.2.2 i c u hc hv
  have hr := rSc_ne h q3
  have b : ∀ {P k n s0 d len}, 0 < s0 → 0 ≤ d → rBl P σ RA t M (yS A) r k n s0 d len → rBl P σ RA t (xw (xw (xw M c 0 v0) c 1 v1) c 3 v3) (yS A) r k n s0 d len := fun {P k n s0 d len} a b g => rBl_o (rBl_o (rBl_o g q1 a b) q1 a b) q1 a b
  subst hw
  refine ⟨h1, ?_, b (by decide) (by decide) h3, b (by decide) (by decide) h4, b (by decide) (by decide) h5, b (by decide) (by decide) h6, rTk_o (rTk_o (rTk_o h7 q1) q1) q1, rCp_all h8 hc hv (fun a ha => by rw [xw_B ha, xw_B ha, xw_B ha]) ?_ ?_ ?_ ?_, rTm_w (rTm_w (rTm_w h9 (by omega)) (by omega)) (by omega)⟩
  · unfold rSc; rw [xw_B hr, xw_B hr, xw_B hr]; exact h2
  · rw [xw_j (by decide), xw_j (by decide), xw_s]
  · rw [xw_j (by decide), xw_s]
  · rw [xw_j (by decide), xw_j (by decide), xw_j (by decide)]; exact q7
  · exact xw_s
theorem set_take {α : Type} : ∀ (C : List α) (i : Nat) (w : α), i < C.length → C.set i w = C.take i ++ w :: C.drop (i + 1)
  | [], _, _, h => absurd h (Nat.not_lt_zero _)
  | _ :: _, 0, _, _ => rfl
  | c :: C, i + 1, w, h => by
    show c :: C.set i w = c :: (C.take i ++ w :: C.drop (i + 1))
    rw [set_take C i w (Nat.lt_of_succ_lt_succ h)]
end RFW
