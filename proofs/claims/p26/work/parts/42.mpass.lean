/-! THE MODEL'S PASSAGE -/
def yFm (m : Nat) (M M' : xMe) : Prop := ∀ b, b ≠ m + 2 → b ≠ m + 15 → M' b = M b
theorem yFm_refl (m : Nat) (M : xMe) : yFm m M M := fun _ _ _ => rfl
theorem yFm_trans {m : Nat} {M M' N : xMe} (h : yFm m M M') (g : yFm m M' N) : yFm m M N := fun b h1 h2 => (g b h1 h2).trans (h b h1 h2)
theorem yFm_of {m : Nat} {M M' : xMe} (h : ∀ b, b ≠ m + 2 → M' b = M b) : yFm m M M' := fun b h1 _ => h b h1
theorem yup_yup {S : Int → Int} {k v w : Int} : yup (yup S k v) k w = yup S k w := by
  funext j; unfold yup; split <;> rfl
theorem yup_comm {S : Int → Int} {k k' v w : Int} (h : k ≠ k') : yup (yup S k v) k' w = yup (yup S k' w) k v := by
  funext j; unfold yup
  by_cases e : j = k
  · rw [if_neg (by omega), if_pos e, if_pos e]
  · by_cases e' : j = k'
    · rw [if_pos e', if_neg e, if_pos e']
    · rw [if_neg e', if_neg e, if_neg e, if_neg e']
theorem yup_same {S : Int → Int} {k v : Int} (h : v = S k) : yup S k v = S := by
  funext j; unfold yup
  split
  · rename_i e; rw [h, e]
  · rfl
theorem yQok_tl {q : Int → List Int} {s p : Int} {l : List Int} (h : yQok q) (hl : q s = p :: l) : yQok (yqu q s l) := by
  obtain ⟨h1, h2⟩ := h
  have hsub : ∀ s' r, r ∈ yqu q s l s' → r ∈ q s' := fun s' r hr => by
    unfold yqu at hr
    split at hr
    · rename_i e; rw [e, hl]; exact List.mem_cons_of_mem _ hr
    · exact hr
  refine ⟨fun s' => ⟨?_, ?_, fun r hr => (h1 s').2.2 r (hsub s' r hr)⟩, fun s' s'' r a b => h2 s' s'' r (hsub _ _ a) (hsub _ _ b)⟩
  · unfold yqu
    split
    · have := (h1 s).1; rw [hl] at this; exact (List.nodup_cons.mp this).2
    · exact (h1 s').1
  · unfold yqu
    split
    · have := (h1 s).2.1; rw [hl] at this; simp at this; omega
    · exact (h1 s').2.1
/-- A behind the tokens, the queue, the coupons -/
def yP3 (p g f : Int) (A : yA) : yA := (yup (yup (yS A) (561 + 4 * (6 * g + f)) (yS A (561 + 4 * (6 * g + f)) - (yS A (83 + 9 * p) - yPe p g f A))) 8 (yS A 8 + yPe p g f A), (fun j => if j = 6 * g + f then (yQ A (6 * g + f)).tail else yQ A j), ySp f 30 (yPe p g f A) (yC A), yP A, yK A)
