theorem y_main : xMain := fun N xs G z b _ => ⟨4000, by
  unfold p_L_law
  exact k_4 (by decide) (fun _ _ => rfl) 2 4000 114084 0 _ _ rfl (by decide) (by decide) (fun c (hc : 99 ≤ 22) => absurd hc (by decide))⟩
