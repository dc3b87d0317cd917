section RLT
variable {x rn bf r : Nat} {D P S Ow : Nat → Prop} {t t' : xTh} {M M' : xMe} {A A' : yA} {H H' HB : List yA}
theorem oX11_w {w : Nat} (h : oX11 t x) (hw : xWo x w) : xk t w = 10 := by
  rcases hw with rfl | rfl | rfl | ⟨i, hi, rfl⟩
  · exact h.2.2.1.2.2.2.2.1.1
  · exact h.2.2.2.2.1.1
  · exact h.2.2.2.2.2.2.1.1
  · exact (h.2.2.2.2.2.2.2.2.2.2.2.2 i hi).2.1
theorem oX11_qw (h : oX11 t x ∧ oXQ t x) (hs : xqw t t') : oX11 t' x ∧ oXQ t' x := by
  obtain ⟨z, u, rfl, hle, hq, -⟩ := hs
  have h1 : oX11 u x ∧ oXQ u x := ⟨oX11_le hle h.1, fun w hw => hq w (oX11_w h.1 hw) (h.2 w hw)⟩
  exact oX11_z h1 rfl
theorem rLC_cls (h : rLC x D t M A H) (hs : xqw t t') (f : yFc x D M M') (hc : yCs x t' M' D A' H') (hg : yHg H') : rLC x D t' M' A' H' := by
  obtain ⟨h1, h2, h3, h4⟩ := h
  refine ⟨hc, hg, oX11_qw h3 hs, ?_⟩
  rw [f (x + 2) (by omega) (by omega) (by omega) (fun q hq => by have := (h1.2.2.2.1 q hq).2.1; omega)]
  exact h4
/-- a refused call: nothing but the place of new cells changes -/
theorem rLC_z (h : rLC x D t M A H) (e : t'.2 = t.2) : rLC x D t' M A H := by
  obtain ⟨z, u⟩ := t
  obtain ⟨z', u'⟩ := t'
  have e : u' = u := e
  subst e
  exact h
theorem rFr_z (hl : xlive t') (e : t'.2 = t.2) : rFr Ow t M t' M := by
  obtain ⟨z, u⟩ := t
  obtain ⟨z', u'⟩ := t'
  have e : u' = u := e
  subst e
  exact ⟨hl, fun a _ => ⟨rfl, rfl, fun _ => ⟨rfl, rfl⟩, fun _ _ _ => rfl⟩⟩
end RLT
