/-! the beginning, and the whole -/
section ZMN
variable {x : Nat} {t : xTh} {M : xMe}
theorem z_start (h : xST x t M) : xJn x t M := by
  obtain ⟨⟨o1, o2, o3, o4⟩, h2, h3, h4, h5, ⟨i1, ⟨i2, i3, -⟩, i4, i5⟩, ⟨d1, d2, d3⟩, -, -⟩ := h
  obtain ⟨w1, w2, w3, w4, w5, w6, w7, w8, w9, w10, w11, w12, w13, w14, w15⟩ := i4
  have fg : yG0 (zFin zA0) := zFin_g (s := zmk 0 0 0 zA0 (0, 0, 0)) zI_0 (Or.inl ⟨rfl, rfl⟩) (Nat.zero_le _)
  have z1 : yS zA0 1 = 0 := rfl
  have z2 : yS zA0 2 = 0 := rfl
  have z3 : yS zA0 3 = 0 := rfl
  have hR : zR (x + 44) M zA0 := by
    intro o i k ho hl
    unfold yL at hl
    rw [z1, z2, z3] at hl
    split at hl
    · rcases hl with q | q | q | q | q | q <;> obtain ⟨rfl, rfl⟩ := q
      · exact w6
      · exact w7
      · exact w8
      · exact w9
      · exact w10
      · exact w11
    · obtain ⟨rfl, rfl⟩ := hl; exact w1 _
    · omega
    · omega
    · omega
    · obtain ⟨rfl, rfl⟩ := hl; exact w2 _
    · obtain ⟨f, j, a1, a2, a3⟩ := hl; omega
    · omega
    · omega
    · omega
    · exact absurd rfl ho
    · obtain ⟨rfl, rfl⟩ := hl; exact w3 _
    all_goals first | omega | exact hl.elim
  have hC : yCR (x + 44) M (zFin zA0) := by
    refine ⟨yR_fin zI_0 hR (fun g f g0 g1 => by rw [z1] at g1; omega), ⟨w4 _, fun i v hv => by cases hv⟩, ⟨[], 0, w5 _, w5 _, Nat.zero_le _, by omega, fun _ => rfl, fun i v hv => (by cases hv), rfl⟩, fun s s0 s1 => ⟨w15 _, fun p hp => (by cases hp), fun p hp => (by cases hp), trivial⟩⟩
  have eK : yK (zFin zA0) = [-5] := rfl
  have oq := (o2 (x + 44) (Or.inr (Or.inl rfl))).2
  rw [o3] at oq
  have hD : yDR (x + 436 + 2) M (zFin zA0) := by
    refine zD_fin zI_0 (zD_0 (fun j hj => ?_)) (fun i j i1 j1 => by rw [z1] at i1; omega) (fun _ _ => rfl) (Nat.zero_le _)
    rw [d3 j hj]; rfl
  refine yJn_of (D := fun q => q = x + 80) (A := zFin zA0) (H := []) ⟨⟨hC, o3, by rw [eK]; exact o4, fun i v hv => ?_⟩, w12, by rw [w13]; decide, fun q hq => ?_, ⟨i5 1, 0, by omega, i5 2, fun i B hB => (by cases hB)⟩⟩ hD ⟨d1 13 (by decide), fun i B hB => (by cases hB)⟩ ⟨Nat.zero_le _, fun i B hB => (by cases hB)⟩ fg ⟨?_, ?_, ?_, fun j hj => ?_⟩ (i1.trans d2.symm)
  · rw [eK] at hv
    rcases i with _ | i
    · have hv' : (-5 : Int) = v := Option.some.inj hv
      rw [← hv', o3]; exact w14
    · cases hv
  · have hq' : q = x + 80 := hq
    subst hq'
    refine ⟨⟨by rw [oq.2.2.1]; decide, by rw [oq.2.2.2.2.2.1]; decide⟩, Or.inl rfl, fun q' hq' => ?_⟩
    have hq2 : q' = x + 80 := hq'
    omega
  · have a : M (x + 2) 1 = 0 := i3 1
    rw [a]; exact d1 2 (by decide)
  · have a : M (x + 2) 1 = 0 := i3 1
    rw [a]; decide
  · have a : M (x + 2) 1 = 0 := i3 1
    rw [a]; decide
  · have a : M (x + 2) 1 = 0 := i3 1
    rw [a] at hj; omega
end ZMN
theorem z_main : xMain := fun x => ⟨xJn x, fun t M h => z_start h, fun t M hj hG _ hl p1 p2 p3 p4 p5 r1 r2 r3 r4 r5 =>
  ⟨⟨3200, 3200, q1_append (by decide) (by decide) hj⟩,
   ⟨3200, 3200, q1_load (by decide) hl hG hj⟩,
   q1_errorOffset hj,
   ⟨3200, q1_state (by decide) hj⟩,
   q1_gate hj,
   ⟨3200, 3200, q1_flow (by decide) (by decide) hj⟩,
   q1_route r2 hj,
   q1_tokens hj,
   q1_queue hj,
   q1_packet hj,
   q1_coupon hj,
   ⟨3200, 3200, q1_loadOver (by decide) (by decide) hj⟩,
   q1_curve hj,
   ⟨3200, 3200, q1_endsAt (by decide) (by decide) hj⟩,
   ⟨3200, 3200, q1_billAfter (by decide) (by decide) hj⟩,
   ⟨3200, 3200, q1_help (by decide) (by decide) hj⟩,
   ⟨3200, 3200, q1_pass (by decide) (by decide) r1 hj⟩,
   ⟨3200, q1_forward (by decide) hj⟩,
   ⟨3200, q1_grant (by decide) hj⟩,
   ⟨3200, q1_send (by decide) hj⟩,
   ⟨3200, q1_setThrift (by decide) hj⟩,
   ⟨3200, q1_undo (by decide) hj⟩,
   ⟨3200, 3200, q1_checksum (by decide) (by decide) hj⟩⟩⟩
