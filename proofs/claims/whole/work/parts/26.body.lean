/-! THE LAW'S BODY -/
/-- where the law's objects lie -/
def xLG (t : xTh) (x m o : Nat) : Prop := oX11 t x ∧ oXQ t x ∧ oX12 t m ∧ xk t o = 15 ∧ xn t o = 1
theorem xLG_qs {t t' : xTh} {x m o : Nat} (h : xqs t t') (g : xLG t x m o) : xLG t' x m o := ⟨oX11_le h.1 g.1, oXQ_le h g.1 g.2.1, oX12_le h.1 g.2.2.1, xle_k h.1 g.2.2.2.1 (by decide), xle_n h.1 g.2.2.2.1 (by decide) g.2.2.2.2⟩
theorem xLG_z {t : xTh} {x m o : Nat} (z : Nat) (g : xLG t x m o) : xLG (z, t.2) x m o := g
theorem xLG_qw {t t' : xTh} {x m o : Nat} (h : xqw t t') (g : xLG t x m o) : xLG t' x m o := by
  obtain ⟨z, u, rfl, hs⟩ := h
  exact xLG_z z (xLG_qs hs g)
/-- the script, as the law's start found it -/
def xScr (X : xCx) (b L : Nat) (xs : Nat → Int32) : Prop := match X with
  | (p, l, e, R, s, m, args, below, meth, c, G, Po, Px, mc, ms) => va_X b L xs s s.heap ∧ b < s.heap.size ∧ ¬ xA G b
section XLW
variable {X : xCx} {own nm : String} {cc : ByteArray} {n d : Nat} {r : Option FieldType} {G : xGx} {cells slots mc ms : Nat} {t : xTh} {M : xMe} {pc : Nat} {L st : List Value} {Po : Option Value → xTh → xMe → Prop} {Px : String → xTh → xMe → Prop} {b N : Nat} {xs : Nat → Int32}
theorem xJ_scr {j : Int} (h : xC X own nm cc n r d G) (hS : xScr X b N xs) (hN : N ≤ 3072) (dd : decode cc pc = .ok (.iaload, 1)) (h0 : 0 ≤ j) (h1 : j < N) (k : xJ X cells slots t M (pc + 1) L (vi (xs j.toNat).toInt :: st)) : xJ X cells slots t M pc L (vi j :: vr b :: st) := by
  obtain ⟨p, l, e, R, s, m, args, below, meth, c, G9, Po9, Px9, mc9, ms9⟩ := X
  obtain ⟨hx, hb, hml, hown, hts, hr, hlk, hKn, hSs, hnm, rfl, rfl, hst⟩ := h
  intro H locs ls a1 a2 a3
  obtain ⟨e1, e2⟩ := xI_ti (j := j) h0 (by omega)
  refine va_sld hx hb hS.1 hS.2.1 hS.2.2 (xSw hSs a1 a2.1) ?_ dd ?_
  · rintro (q | q)
    · exact e2 q
    · rw [e1] at q; omega
  · rw [e1]
    have k' := k H locs ls a1 a2 a3
    rw [show vi (xs j.toNat).toInt = Value.int (xs j.toNat) from congrArg Value.int (Int32.ofInt_toInt _)] at k'
    exact k'
theorem xJ_scl (h : xC X own nm cc n r d G) (hS : xScr X b N xs) (dd : decode cc pc = .ok (.arraylength, 1)) (k : xJ X cells slots t M (pc + 1) L (vi (N : Int) :: st)) : xJ X cells slots t M pc L (vr b :: st) := by
  obtain ⟨p, l, e, R, s, m, args, below, meth, c, G9, Po9, Px9, mc9, ms9⟩ := X
  obtain ⟨hx, hb, hml, hown, hts, hr, hlk, hKn, hSs, hnm, rfl, rfl, hst⟩ := h
  intro H locs ls a1 a2 a3
  refine va_slen hx hb hS.1 hS.2.1 hS.2.2 (xSw hSs a1 a2.1) dd ?_
  have k' := k H locs ls a1 a2 a3
  rw [show vi (N : Int) = Value.int (Int32.ofNat N) from congrArg Value.int Int32.ofInt_eq_ofNat] at k'
  exact k'
theorem xJ_lcmpE {x y : Int} (h : xC X own nm cc n r d G) (dd : decode cc pc = .ok (.lcmp, 1)) (he : x = y) (k : xJ X cells slots t M (pc + 1) L (vi 0 :: st)) : xJ X cells slots t M pc L (vl y :: vl x :: st) := by
  subst he
  obtain ⟨p, l, e, R, s, m, args, below, meth, c, G9, Po9, Px9, mc9, ms9⟩ := X
  obtain ⟨hx, hb, hml, hown, hts, hr, hlk, hKn, hSs, hnm, rfl, rfl, hst⟩ := h
  intro H locs ls a1 a2 a3
  have k' := k H locs ls a1 a2 a3
  rw [show vi 0 = Value.int (lg_cmp (Int64.ofInt x) (Int64.ofInt x)) from congrArg Value.int (by unfold lg_cmp; rw [if_neg (Int64.lt_irrefl), if_pos rfl]; rfl)] at k'
  exact W.lcmp hx hb dd k'
end XLW
theorem xR_32 (x : Int32) : xR x.toInt := ⟨Int32.le_toInt x, Int32.toInt_lt x⟩
def q_append (F : Nat) (K : Nat) (t : xTh) (x m o : Nat) (p1 : Int) (p2 : Int) (p3 : Int) (p4 : Int) (p5 : Int) (M : xMe) (Q : xTh → xMe → Prop) : Prop :=
  p_X11_append F x p1 p2 p3 p4 p5 M (fun k M1 => p_X12_append K m p1 p2 p3 p4 p5 M1 (fun b M2 => k = b ∧ Q t M2))
def q_load (F : Nat) (K : Nat) (t : xTh) (x m o : Nat) (p1 : Int) (M : xMe) (Q : xTh → xMe → Prop) : Prop :=
  p_L_load F t x p1 o M (fun k t1 M1 => p_X12_load K m p1 M1 (fun b M2 => p_X12_thrown m M2 (fun h M3 => h = k ∧ (k = 0 → M3 o 0 = b) ∧ Q t1 M3)))
def q_errorOffset (t : xTh) (x m o : Nat) (M : xMe) (Q : xTh → xMe → Prop) : Prop :=
  p_X11_errorOffset x M (fun k M1 => p_X12_errorOffset m M1 (fun b M2 => k = b ∧ Q t M2))
def q_state (F : Nat) (t : xTh) (x m o : Nat) (p1 : Int) (M : xMe) (Q : xTh → xMe → Prop) : Prop :=
  p_L_state F t x p1 o M (fun k t1 M1 => p_X12_state m p1 M1 (fun b M2 => p_X12_thrown m M2 (fun h M3 => h = k ∧ (k = 0 → M3 o 0 = b) ∧ Q t1 M3)))
def q_gate (t : xTh) (x m o : Nat) (p1 : Int) (p2 : Int) (M : xMe) (Q : xTh → xMe → Prop) : Prop :=
  p_L_gate t x p1 p2 o M (fun k t1 M1 => p_X12_gate m p1 p2 M1 (fun b M2 => p_X12_thrown m M2 (fun h M3 => h = k ∧ (k = 0 → M3 o 0 = b) ∧ Q t1 M3)))
def q_flow (F : Nat) (K : Nat) (t : xTh) (x m o : Nat) (p1 : Int) (p2 : Int) (M : xMe) (Q : xTh → xMe → Prop) : Prop :=
  p_L_flow F t x p1 p2 o M (fun k t1 M1 => p_X12_flow K m p1 p2 M1 (fun b M2 => p_X12_thrown m M2 (fun h M3 => h = k ∧ (k = 0 → M3 o 0 = b) ∧ Q t1 M3)))
def q_route (t : xTh) (x m o : Nat) (p1 : Int) (p2 : Int) (M : xMe) (Q : xTh → xMe → Prop) : Prop :=
  p_L_route t x p1 p2 o M (fun k t1 M1 => p_X12_route m p1 p2 M1 (fun b M2 => p_X12_thrown m M2 (fun h M3 => h = k ∧ (k = 0 → M3 o 0 = b) ∧ Q t1 M3)))
def q_tokens (t : xTh) (x m o : Nat) (p1 : Int) (p2 : Int) (M : xMe) (Q : xTh → xMe → Prop) : Prop :=
  p_L_tokens t x p1 p2 o M (fun k t1 M1 => p_X12_tokens m p1 p2 M1 (fun b M2 => p_X12_thrown m M2 (fun h M3 => h = k ∧ (k = 0 → M3 o 0 = b) ∧ Q t1 M3)))
def q_queue (t : xTh) (x m o : Nat) (p1 : Int) (p2 : Int) (M : xMe) (Q : xTh → xMe → Prop) : Prop :=
  p_L_queue t x p1 p2 o M (fun k t1 M1 => p_X12_queue m p1 p2 M1 (fun b M2 => p_X12_thrown m M2 (fun h M3 => h = k ∧ (k = 0 → M3 o 0 = b) ∧ Q t1 M3)))
def q_packet (t : xTh) (x m o : Nat) (p1 : Int) (p2 : Int) (M : xMe) (Q : xTh → xMe → Prop) : Prop :=
  p_L_packet t x p1 p2 o M (fun k t1 M1 => p_X12_packet m p1 p2 M1 (fun b M2 => p_X12_thrown m M2 (fun h M3 => h = k ∧ (k = 0 → M3 o 0 = b) ∧ Q t1 M3)))
def q_coupon (t : xTh) (x m o : Nat) (p1 : Int) (p2 : Int) (M : xMe) (Q : xTh → xMe → Prop) : Prop :=
  p_L_coupon t x p1 p2 o M (fun k t1 M1 => p_X12_coupon m p1 p2 M1 (fun b M2 => p_X12_thrown m M2 (fun h M3 => h = k ∧ (k = 0 → M3 o 0 = b) ∧ Q t1 M3)))
def q_loadOver (F : Nat) (K : Nat) (t : xTh) (x m o : Nat) (p1 : Int) (p2 : Int) (p3 : Int) (M : xMe) (Q : xTh → xMe → Prop) : Prop :=
  p_L_loadOver F t x p1 p2 p3 o M (fun k t1 M1 => p_X12_loadOver K m p1 p2 p3 M1 (fun b M2 => p_X12_thrown m M2 (fun h M3 => h = k ∧ (k = 0 → M3 o 0 = b) ∧ Q t1 M3)))
def q_curve (t : xTh) (x m o : Nat) (p1 : Int) (p2 : Int) (M : xMe) (Q : xTh → xMe → Prop) : Prop :=
  p_L_curve t x p1 p2 o M (fun k t1 M1 => p_X12_curve m p1 p2 M1 (fun b M2 => p_X12_thrown m M2 (fun h M3 => h = k ∧ (k = 0 → M3 o 0 = b) ∧ Q t1 M3)))
def q_endsAt (F : Nat) (K : Nat) (t : xTh) (x m o : Nat) (p1 : Int) (M : xMe) (Q : xTh → xMe → Prop) : Prop :=
  p_L_endsAt F t x p1 o M (fun k t1 M1 => p_X12_endsAt K m p1 M1 (fun b M2 => p_X12_thrown m M2 (fun h M3 => h = k ∧ (k = 0 → M3 o 0 = b) ∧ Q t1 M3)))
def q_billAfter (F : Nat) (K : Nat) (t : xTh) (x m o : Nat) (p1 : Int) (p2 : Int) (M : xMe) (Q : xTh → xMe → Prop) : Prop :=
  p_L_billAfter F t x p1 p2 o M (fun k t1 M1 => p_X12_billAfter K m p1 p2 M1 (fun b M2 => p_X12_thrown m M2 (fun h M3 => h = k ∧ (k = 0 → M3 o 0 = b) ∧ Q t1 M3)))
def q_help (F : Nat) (K : Nat) (t : xTh) (x m o : Nat) (p1 : Int) (M : xMe) (Q : xTh → xMe → Prop) : Prop :=
  p_L_help F t x p1 o M (fun k t1 M1 => p_X12_help K m p1 M1 (fun b M2 => p_X12_thrown m M2 (fun h M3 => h = k ∧ (k = 0 → M3 o 0 = b) ∧ Q t1 M3)))
def q_pass (F : Nat) (K : Nat) (t : xTh) (x m o : Nat) (p1 : Int) (M : xMe) (Q : xTh → xMe → Prop) : Prop :=
  p_L_pass F t x p1 o M (fun k t1 M1 => p_X12_pass K m p1 M1 (fun b M2 => p_X12_thrown m M2 (fun h M3 => h = k ∧ (k = 0 → M3 o 0 = b) ∧ Q t1 M3)))
def q_forward (K : Nat) (t : xTh) (x m o : Nat) (p1 : Int) (p2 : Int) (M : xMe) (Q : xTh → xMe → Prop) : Prop :=
  p_L_forward t x p1 p2 o M (fun k t1 M1 => p_X12_forward K m p1 p2 M1 (fun b M2 => p_X12_thrown m M2 (fun h M3 => h = k ∧ (k = 0 → M3 o 0 = b) ∧ Q t1 M3)))
def q_grant (K : Nat) (t : xTh) (x m o : Nat) (p1 : Int) (p2 : Int) (p3 : Int) (M : xMe) (Q : xTh → xMe → Prop) : Prop :=
  p_L_grant t x p1 p2 p3 o M (fun k t1 M1 => p_X12_grant K m p1 p2 p3 M1 (fun b M2 => p_X12_thrown m M2 (fun h M3 => h = k ∧ (k = 0 → M3 o 0 = b) ∧ Q t1 M3)))
def q_send (K : Nat) (t : xTh) (x m o : Nat) (p1 : Int) (p2 : Int) (M : xMe) (Q : xTh → xMe → Prop) : Prop :=
  p_L_send t x p1 p2 o M (fun k t1 M1 => p_X12_send K m p1 p2 M1 (fun b M2 => p_X12_thrown m M2 (fun h M3 => h = k ∧ (k = 0 → M3 o 0 = b) ∧ Q t1 M3)))
def q_setThrift (K : Nat) (t : xTh) (x m o : Nat) (p1 : Int) (p2 : Int) (M : xMe) (Q : xTh → xMe → Prop) : Prop :=
  p_L_setThrift t x p1 p2 o M (fun k t1 M1 => p_X12_setThrift K m p1 p2 M1 (fun b M2 => p_X12_thrown m M2 (fun h M3 => h = k ∧ (k = 0 → M3 o 0 = b) ∧ Q t1 M3)))
def q_undo (K : Nat) (t : xTh) (x m o : Nat) (M : xMe) (Q : xTh → xMe → Prop) : Prop :=
  p_X11_undo t x M (fun k t1 M1 => p_X12_undo K m M1 (fun b M2 => k = b ∧ Q t1 M2))
def q_checksum (F : Nat) (K : Nat) (t : xTh) (x m o : Nat) (M : xMe) (Q : xTh → xMe → Prop) : Prop :=
  p_X11_checksum F x M (fun k M1 => p_X12_checksum K m M1 (fun b M2 => k = b ∧ Q t M2))
set_option maxHeartbeats 4000000 in
theorem w_append {X : xCx} {G : xGx} {cells slots : Nat} {t : xTh} {M : xMe} {Po : Option Value → xTh → xMe → Prop} {Px : String → xTh → xMe → Prop} {b N x m o : Nat} {xs : Nat → Int32} {i : Int} {u5 u6 : Value} {F : Nat} {K : Nat} {Q : xTh → xMe → Prop} (hX : xC X RL "law" cL_law 7 (some .boolean) 1312 G) (hB : xB X 601024 7293034 Po Px) (hS : xScr X b N xs) (hN : N ≤ 3072) (hg : xLG t x m o) (hM : xMR M) (h0 : 0 ≤ i) (h6 : i + 6 ≤ N) (hc : cells + 6 ≤ 601024) (hs : slots + 1027 ≤ 7293034)
    (hq : q_append F K t x m o (xs (i + 1).toNat).toInt (xs (i + 2).toNat).toInt (xs (i + 3).toNat).toInt (xs (i + 4).toNat).toInt (xs (i + 5).toNat).toInt M Q) (kk : ∀ t' M' v5 v6, xqw t t' → xMR M' → Q t' M' → xJ X (cells + 6) (slots + 1027) t' M' 1517 [vr b, vr x, vr m, vr o, vi i, v5, v6] []) : xJ X cells slots t M 148 [vr b, vr x, vr m, vr o, vi i, u5, u6] [] := by
  replace kk : ∀ t' M' v5 v6, xqw t t' → xMR M' → Q t' M' → ∀ c s, c ≤ cells + 6 → s ≤ slots + 1027 → xJ X c s t' M' 1517 [vr b, vr x, vr m, vr o, vi i, v5, v6] [] := fun t' M' v5 v6 a1 a2 a3 c s a4 a5 => xJ_widen a4 a5 (kk t' M' v5 v6 a1 a2 a3)
  unfold q_append at hq
  refine xJ_aload_n hX dL_law_148 rfl ?_
  refine xJ_aload_n hX dL_law_149 rfl ?_
  refine xJ_iload hX dL_law_150 rfl ?_
  refine xJ_iconst hX dL_law_152 ?_
  refine xJ_iadd hX dL_law_153 ?_
  refine xJ_scr hX hS hN dL_law_154 (by omega) (by omega) ?_
  refine xJ_aload_n hX dL_law_155 rfl ?_
  refine xJ_iload hX dL_law_156 rfl ?_
  refine xJ_iconst hX dL_law_158 ?_
  refine xJ_iadd hX dL_law_159 ?_
  refine xJ_scr hX hS hN dL_law_160 (by omega) (by omega) ?_
  refine xJ_aload_n hX dL_law_161 rfl ?_
  refine xJ_iload hX dL_law_162 rfl ?_
  refine xJ_iconst hX dL_law_164 ?_
  refine xJ_iadd hX dL_law_165 ?_
  refine xJ_scr hX hS hN dL_law_166 (by omega) (by omega) ?_
  refine xJ_aload_n hX dL_law_167 rfl ?_
  refine xJ_iload hX dL_law_168 rfl ?_
  refine xJ_iconst hX dL_law_170 ?_
  refine xJ_iadd hX dL_law_171 ?_
  refine xJ_scr hX hS hN dL_law_172 (by omega) (by omega) ?_
  refine xJ_aload_n hX dL_law_173 rfl ?_
  refine xJ_iload hX dL_law_174 rfl ?_
  refine xJ_iconst hX dL_law_176 ?_
  refine xJ_iadd hX dL_law_177 ?_
  refine xJ_scr hX hS hN dL_law_178 (by omega) (by omega) ?_
  refine xJ_callV (As := [_, _, _, _, _]) hX hB dL_law_179 lk_L_81 im_X11_append se_X11_append rfl (by decide) (oX11_k hg.1) (c_X11_append hg.1 hM (xR_32 _) (xR_32 _) (xR_32 _) (xR_32 _) (xR_32 _) hq) (by decide) rfl rfl rfl (Nat.le_of_ble_eq_true rfl) (by omega) (by omega) (fun v t1 M1 hv => ?_) (fun _ _ _ q => q.elim)
  obtain ⟨k, rfl, hk, hM1, rfl, hq⟩ := hv
  dsimp only [Option.toList, List.cons_append, List.nil_append]
  refine xJ_aload_n hX dL_law_182 rfl ?_
  refine xJ_aload_n hX dL_law_183 rfl ?_
  refine xJ_iload hX dL_law_184 rfl ?_
  refine xJ_iconst hX dL_law_186 ?_
  refine xJ_iadd hX dL_law_187 ?_
  refine xJ_scr hX hS hN dL_law_188 (by omega) (by omega) ?_
  refine xJ_aload_n hX dL_law_189 rfl ?_
  refine xJ_iload hX dL_law_190 rfl ?_
  refine xJ_iconst hX dL_law_192 ?_
  refine xJ_iadd hX dL_law_193 ?_
  refine xJ_scr hX hS hN dL_law_194 (by omega) (by omega) ?_
  refine xJ_aload_n hX dL_law_195 rfl ?_
  refine xJ_iload hX dL_law_196 rfl ?_
  refine xJ_iconst hX dL_law_198 ?_
  refine xJ_iadd hX dL_law_199 ?_
  refine xJ_scr hX hS hN dL_law_200 (by omega) (by omega) ?_
  refine xJ_aload_n hX dL_law_201 rfl ?_
  refine xJ_iload hX dL_law_202 rfl ?_
  refine xJ_iconst hX dL_law_204 ?_
  refine xJ_iadd hX dL_law_205 ?_
  refine xJ_scr hX hS hN dL_law_206 (by omega) (by omega) ?_
  refine xJ_aload_n hX dL_law_207 rfl ?_
  refine xJ_iload hX dL_law_208 rfl ?_
  refine xJ_iconst hX dL_law_210 ?_
  refine xJ_iadd hX dL_law_211 ?_
  refine xJ_scr hX hS hN dL_law_212 (by omega) (by omega) ?_
  refine xJ_callV (As := [_, _, _, _, _]) hX hB dL_law_213 lk_L_85 im_X12_append se_X12_append rfl (by decide) (oX12_k hg.2.2.1) (c_X12_append hg.2.2.1 hM1 (xR_32 _) (xR_32 _) (xR_32 _) (xR_32 _) (xR_32 _) hq) (by decide) rfl rfl rfl (Nat.le_of_ble_eq_true rfl) (by omega) (by omega) (fun v t9 M2 hv => ?_) (fun _ _ _ q => q.elim)
  obtain ⟨b9, rfl, hb9, hM2, rfl, hq⟩ := hv
  dsimp only [Option.toList, List.cons_append, List.nil_append]
  obtain ⟨rfl, hq⟩ := hq
  refine xJ_icmp_eq hX dL_law_216 (tgt := 1517) (by decide) hk hk (fun _ => ?_) (fun q => absurd rfl q)
  exact kk _ _ _ _ (xqw_s (xqs_refl _)) hM2 hq _ _ (by omega) (by omega)
set_option maxHeartbeats 4000000 in
theorem w_load {X : xCx} {G : xGx} {cells slots : Nat} {t : xTh} {M : xMe} {Po : Option Value → xTh → xMe → Prop} {Px : String → xTh → xMe → Prop} {b N x m o : Nat} {xs : Nat → Int32} {i : Int} {u5 u6 : Value} {F : Nat} {K : Nat} {Q : xTh → xMe → Prop} (hX : xC X RL "law" cL_law 7 (some .boolean) 1312 G) (hB : xB X 601024 7293034 Po Px) (hS : xScr X b N xs) (hN : N ≤ 3072) (hg : xLG t x m o) (hM : xMR M) (h0 : 0 ≤ i) (h6 : i + 6 ≤ N) (hc : cells + 6 ≤ 601024) (hs : slots + 1027 ≤ 7293034)
    (hq : q_load F K t x m o (xs (i + 1).toNat).toInt M Q) (kk : ∀ t' M' v5 v6, xqw t t' → xMR M' → Q t' M' → xJ X (cells + 6) (slots + 1027) t' M' 1517 [vr b, vr x, vr m, vr o, vi i, v5, v6] []) : xJ X cells slots t M 221 [vr b, vr x, vr m, vr o, vi i, u5, u6] [] := by
  replace kk : ∀ t' M' v5 v6, xqw t t' → xMR M' → Q t' M' → ∀ c s, c ≤ cells + 6 → s ≤ slots + 1027 → xJ X c s t' M' 1517 [vr b, vr x, vr m, vr o, vi i, v5, v6] [] := fun t' M' v5 v6 a1 a2 a3 c s a4 a5 => xJ_widen a4 a5 (kk t' M' v5 v6 a1 a2 a3)
  unfold q_load at hq
  refine xJ_aload_n hX dL_law_221 rfl ?_
  refine xJ_aload_n hX dL_law_222 rfl ?_
  refine xJ_iload hX dL_law_223 rfl ?_
  refine xJ_iconst hX dL_law_225 ?_
  refine xJ_iadd hX dL_law_226 ?_
  refine xJ_scr hX hS hN dL_law_227 (by omega) (by omega) ?_
  refine xJ_aload_n hX dL_law_228 rfl ?_
  refine xJ_callSW (As := [_, _, _]) hX hB dL_law_229 lkw_L_load sm_L_load (c_L_load hg.1 hg.2.1 hg.2.2.2.1 hg.2.2.2.2 hM (xR_32 _) hq) (by decide) rfl rfl rfl (Nat.le_of_ble_eq_true rfl) (by omega) (by omega) (fun v t1 M1 hv => ?_)
  obtain ⟨k, rfl, hk, hM1, hw1, hq⟩ := hv
  have hg1 := xLG_qw hw1 hg
  dsimp only [Option.toList, List.cons_append, List.nil_append]
  refine xJ_istore hX dL_law_232 (Nat.le_of_ble_eq_true rfl) rfl ?_
  dsimp only [List.set]
  refine xJ_aload_n hX dL_law_234 rfl ?_
  refine xJ_aload_n hX dL_law_235 rfl ?_
  refine xJ_iload hX dL_law_236 rfl ?_
  refine xJ_iconst hX dL_law_238 ?_
  refine xJ_iadd hX dL_law_239 ?_
  refine xJ_scr hX hS hN dL_law_240 (by omega) (by omega) ?_
  refine xJ_callV (As := [_]) hX hB dL_law_241 lk_L_91 im_X12_load se_X12_load rfl (by decide) (oX12_k hg1.2.2.1) (c_X12_load hg1.2.2.1 hM1 (xR_32 _) hq) (by decide) rfl rfl rfl (Nat.le_of_ble_eq_true rfl) (by omega) (by omega) (fun v t9 M2 hv => ?_) (fun _ _ _ q => q.elim)
  obtain ⟨b9, rfl, hb9, hM2, rfl, hq⟩ := hv
  dsimp only [Option.toList, List.cons_append, List.nil_append]
  refine xJ_istore hX dL_law_244 (Nat.le_of_ble_eq_true rfl) rfl ?_
  dsimp only [List.set]
  refine xJ_aload_n hX dL_law_246 rfl ?_
  refine xJ_callV (As := []) hX hB dL_law_247 lk_L_92 im_X12_thrown se_X12_thrown rfl (by decide) (oX12_k hg1.2.2.1) (c_X12_thrown hg1.2.2.1 hM2  hq) (by decide) rfl rfl rfl (Nat.le_of_ble_eq_true rfl) (by omega) (by omega) (fun v t9 M3 hv => ?_) (fun _ _ _ q => q.elim)
  obtain ⟨h, rfl, hh, hM3, rfl, hq⟩ := hv
  dsimp only [Option.toList, List.cons_append, List.nil_append]
  refine xJ_iload hX dL_law_250 rfl ?_
  obtain ⟨rfl, hq⟩ := hq
  refine xJ_icmp_eq hX dL_law_252 (tgt := 257) (by decide) hk hk (fun _ => ?_) (fun q => absurd rfl q)
  refine xJ_iload hX dL_law_257 rfl ?_
  refine xJ_if_ne hX dL_law_259 (tgt := 274) (by decide) hk (fun _ => ?_) (fun hk0 => ?_)
  · refine xJ_goto hX dL_law_274 (tgt := 1517) (by decide) ?_
    exact kk _ _ _ _ (hw1) hM3 hq.2 _ _ (by omega) (by omega)
  refine xJ_aload_n hX dL_law_262 rfl ?_
  refine xJ_iconst hX dL_law_263 ?_
  refine xJ_lald hX dL_law_264 hg1.2.2.2.1 (by decide) (by rw [hg1.2.2.2.2]; decide) ?_
  refine xJ_iload hX dL_law_265 rfl ?_
  refine xJ_i2l hX dL_law_267 hb9 ?_
  refine xJ_lcmpE hX dL_law_268 (hq.1 hk0) ?_
  refine xJ_if_eq hX dL_law_269 (tgt := 274) (by decide) xR_0 (fun _ => ?_) (fun q => absurd rfl q)
  refine xJ_goto hX dL_law_274 (tgt := 1517) (by decide) ?_
  exact kk _ _ _ _ (hw1) hM3 hq.2 _ _ (by omega) (by omega)
set_option maxHeartbeats 4000000 in
theorem w_errorOffset {X : xCx} {G : xGx} {cells slots : Nat} {t : xTh} {M : xMe} {Po : Option Value → xTh → xMe → Prop} {Px : String → xTh → xMe → Prop} {b N x m o : Nat} {xs : Nat → Int32} {i : Int} {u5 u6 : Value} {Q : xTh → xMe → Prop} (hX : xC X RL "law" cL_law 7 (some .boolean) 1312 G) (hB : xB X 601024 7293034 Po Px) (hS : xScr X b N xs) (hN : N ≤ 3072) (hg : xLG t x m o) (hM : xMR M) (h0 : 0 ≤ i) (h6 : i + 6 ≤ N) (hc : cells + 6 ≤ 601024) (hs : slots + 1027 ≤ 7293034)
    (hq : q_errorOffset t x m o  M Q) (kk : ∀ t' M' v5 v6, xqw t t' → xMR M' → Q t' M' → xJ X (cells + 6) (slots + 1027) t' M' 1517 [vr b, vr x, vr m, vr o, vi i, v5, v6] []) : xJ X cells slots t M 277 [vr b, vr x, vr m, vr o, vi i, u5, u6] [] := by
  replace kk : ∀ t' M' v5 v6, xqw t t' → xMR M' → Q t' M' → ∀ c s, c ≤ cells + 6 → s ≤ slots + 1027 → xJ X c s t' M' 1517 [vr b, vr x, vr m, vr o, vi i, v5, v6] [] := fun t' M' v5 v6 a1 a2 a3 c s a4 a5 => xJ_widen a4 a5 (kk t' M' v5 v6 a1 a2 a3)
  unfold q_errorOffset at hq
  refine xJ_aload_n hX dL_law_277 rfl ?_
  refine xJ_callV (As := []) hX hB dL_law_278 lk_L_96 im_X11_errorOffset se_X11_errorOffset rfl (by decide) (oX11_k hg.1) (c_X11_errorOffset hg.1 hM  hq) (by decide) rfl rfl rfl (Nat.le_of_ble_eq_true rfl) (by omega) (by omega) (fun v t1 M1 hv => ?_) (fun _ _ _ q => q.elim)
  obtain ⟨k, rfl, hk, hM1, rfl, hq⟩ := hv
  dsimp only [Option.toList, List.cons_append, List.nil_append]
  refine xJ_aload_n hX dL_law_281 rfl ?_
  refine xJ_callV (As := []) hX hB dL_law_282 lk_L_99 im_X12_errorOffset se_X12_errorOffset rfl (by decide) (oX12_k hg.2.2.1) (c_X12_errorOffset hg.2.2.1 hM1  hq) (by decide) rfl rfl rfl (Nat.le_of_ble_eq_true rfl) (by omega) (by omega) (fun v t9 M2 hv => ?_) (fun _ _ _ q => q.elim)
  obtain ⟨b9, rfl, hb9, hM2, rfl, hq⟩ := hv
  dsimp only [Option.toList, List.cons_append, List.nil_append]
  obtain ⟨rfl, hq⟩ := hq
  refine xJ_icmp_eq hX dL_law_285 (tgt := 1517) (by decide) hk hk (fun _ => ?_) (fun q => absurd rfl q)
  exact kk _ _ _ _ (xqw_s (xqs_refl _)) hM2 hq _ _ (by omega) (by omega)
set_option maxHeartbeats 4000000 in
theorem w_state {X : xCx} {G : xGx} {cells slots : Nat} {t : xTh} {M : xMe} {Po : Option Value → xTh → xMe → Prop} {Px : String → xTh → xMe → Prop} {b N x m o : Nat} {xs : Nat → Int32} {i : Int} {u5 u6 : Value} {F : Nat} {Q : xTh → xMe → Prop} (hX : xC X RL "law" cL_law 7 (some .boolean) 1312 G) (hB : xB X 601024 7293034 Po Px) (hS : xScr X b N xs) (hN : N ≤ 3072) (hg : xLG t x m o) (hM : xMR M) (h0 : 0 ≤ i) (h6 : i + 6 ≤ N) (hc : cells + 6 ≤ 601024) (hs : slots + 1027 ≤ 7293034)
    (hq : q_state F t x m o (xs (i + 1).toNat).toInt M Q) (kk : ∀ t' M' v5 v6, xqw t t' → xMR M' → Q t' M' → xJ X (cells + 6) (slots + 1027) t' M' 1517 [vr b, vr x, vr m, vr o, vi i, v5, v6] []) : xJ X cells slots t M 290 [vr b, vr x, vr m, vr o, vi i, u5, u6] [] := by
  replace kk : ∀ t' M' v5 v6, xqw t t' → xMR M' → Q t' M' → ∀ c s, c ≤ cells + 6 → s ≤ slots + 1027 → xJ X c s t' M' 1517 [vr b, vr x, vr m, vr o, vi i, v5, v6] [] := fun t' M' v5 v6 a1 a2 a3 c s a4 a5 => xJ_widen a4 a5 (kk t' M' v5 v6 a1 a2 a3)
  unfold q_state at hq
  refine xJ_aload_n hX dL_law_290 rfl ?_
  refine xJ_aload_n hX dL_law_291 rfl ?_
  refine xJ_iload hX dL_law_292 rfl ?_
  refine xJ_iconst hX dL_law_294 ?_
  refine xJ_iadd hX dL_law_295 ?_
  refine xJ_scr hX hS hN dL_law_296 (by omega) (by omega) ?_
  refine xJ_aload_n hX dL_law_297 rfl ?_
  refine xJ_callSW (As := [_, _, _]) hX hB dL_law_298 lkw_L_state sm_L_state (c_L_state hg.1 hg.2.2.2.1 hg.2.2.2.2 hM (xR_32 _) hq) (by decide) rfl rfl rfl (Nat.le_of_ble_eq_true rfl) (by omega) (by omega) (fun v t1 M1 hv => ?_)
  obtain ⟨k, rfl, hk, hM1, hw1, hq⟩ := hv
  have hg1 := xLG_qw hw1 hg
  dsimp only [Option.toList, List.cons_append, List.nil_append]
  refine xJ_istore hX dL_law_301 (Nat.le_of_ble_eq_true rfl) rfl ?_
  dsimp only [List.set]
  refine xJ_aload_n hX dL_law_303 rfl ?_
  refine xJ_aload_n hX dL_law_304 rfl ?_
  refine xJ_iload hX dL_law_305 rfl ?_
  refine xJ_iconst hX dL_law_307 ?_
  refine xJ_iadd hX dL_law_308 ?_
  refine xJ_scr hX hS hN dL_law_309 (by omega) (by omega) ?_
  refine xJ_callV (As := [_]) hX hB dL_law_310 lk_L_102 im_X12_state se_X12_state rfl (by decide) (oX12_k hg1.2.2.1) (c_X12_state hg1.2.2.1 hM1 (xR_32 _) hq) (by decide) rfl rfl rfl (Nat.le_of_ble_eq_true rfl) (by omega) (by omega) (fun v t9 M2 hv => ?_) (fun _ _ _ q => q.elim)
  obtain ⟨b9, rfl, hb9, hM2, rfl, hq⟩ := hv
  dsimp only [Option.toList, List.cons_append, List.nil_append]
  refine xJ_istore hX dL_law_313 (Nat.le_of_ble_eq_true rfl) rfl ?_
  dsimp only [List.set]
  refine xJ_aload_n hX dL_law_315 rfl ?_
  refine xJ_callV (As := []) hX hB dL_law_316 lk_L_92 im_X12_thrown se_X12_thrown rfl (by decide) (oX12_k hg1.2.2.1) (c_X12_thrown hg1.2.2.1 hM2  hq) (by decide) rfl rfl rfl (Nat.le_of_ble_eq_true rfl) (by omega) (by omega) (fun v t9 M3 hv => ?_) (fun _ _ _ q => q.elim)
  obtain ⟨h, rfl, hh, hM3, rfl, hq⟩ := hv
  dsimp only [Option.toList, List.cons_append, List.nil_append]
  refine xJ_iload hX dL_law_319 rfl ?_
  obtain ⟨rfl, hq⟩ := hq
  refine xJ_icmp_eq hX dL_law_321 (tgt := 326) (by decide) hk hk (fun _ => ?_) (fun q => absurd rfl q)
  refine xJ_iload hX dL_law_326 rfl ?_
  refine xJ_if_ne hX dL_law_328 (tgt := 343) (by decide) hk (fun _ => ?_) (fun hk0 => ?_)
  · refine xJ_goto hX dL_law_343 (tgt := 1517) (by decide) ?_
    exact kk _ _ _ _ (hw1) hM3 hq.2 _ _ (by omega) (by omega)
  refine xJ_aload_n hX dL_law_331 rfl ?_
  refine xJ_iconst hX dL_law_332 ?_
  refine xJ_lald hX dL_law_333 hg1.2.2.2.1 (by decide) (by rw [hg1.2.2.2.2]; decide) ?_
  refine xJ_iload hX dL_law_334 rfl ?_
  refine xJ_i2l hX dL_law_336 hb9 ?_
  refine xJ_lcmpE hX dL_law_337 (hq.1 hk0) ?_
  refine xJ_if_eq hX dL_law_338 (tgt := 343) (by decide) xR_0 (fun _ => ?_) (fun q => absurd rfl q)
  refine xJ_goto hX dL_law_343 (tgt := 1517) (by decide) ?_
  exact kk _ _ _ _ (hw1) hM3 hq.2 _ _ (by omega) (by omega)
set_option maxHeartbeats 4000000 in
theorem w_gate {X : xCx} {G : xGx} {cells slots : Nat} {t : xTh} {M : xMe} {Po : Option Value → xTh → xMe → Prop} {Px : String → xTh → xMe → Prop} {b N x m o : Nat} {xs : Nat → Int32} {i : Int} {u5 u6 : Value} {Q : xTh → xMe → Prop} (hX : xC X RL "law" cL_law 7 (some .boolean) 1312 G) (hB : xB X 601024 7293034 Po Px) (hS : xScr X b N xs) (hN : N ≤ 3072) (hg : xLG t x m o) (hM : xMR M) (h0 : 0 ≤ i) (h6 : i + 6 ≤ N) (hc : cells + 6 ≤ 601024) (hs : slots + 1027 ≤ 7293034)
    (hq : q_gate t x m o (xs (i + 1).toNat).toInt (xs (i + 2).toNat).toInt M Q) (kk : ∀ t' M' v5 v6, xqw t t' → xMR M' → Q t' M' → xJ X (cells + 6) (slots + 1027) t' M' 1517 [vr b, vr x, vr m, vr o, vi i, v5, v6] []) : xJ X cells slots t M 346 [vr b, vr x, vr m, vr o, vi i, u5, u6] [] := by
  replace kk : ∀ t' M' v5 v6, xqw t t' → xMR M' → Q t' M' → ∀ c s, c ≤ cells + 6 → s ≤ slots + 1027 → xJ X c s t' M' 1517 [vr b, vr x, vr m, vr o, vi i, v5, v6] [] := fun t' M' v5 v6 a1 a2 a3 c s a4 a5 => xJ_widen a4 a5 (kk t' M' v5 v6 a1 a2 a3)
  unfold q_gate at hq
  refine xJ_aload_n hX dL_law_346 rfl ?_
  refine xJ_aload_n hX dL_law_347 rfl ?_
  refine xJ_iload hX dL_law_348 rfl ?_
  refine xJ_iconst hX dL_law_350 ?_
  refine xJ_iadd hX dL_law_351 ?_
  refine xJ_scr hX hS hN dL_law_352 (by omega) (by omega) ?_
  refine xJ_aload_n hX dL_law_353 rfl ?_
  refine xJ_iload hX dL_law_354 rfl ?_
  refine xJ_iconst hX dL_law_356 ?_
  refine xJ_iadd hX dL_law_357 ?_
  refine xJ_scr hX hS hN dL_law_358 (by omega) (by omega) ?_
  refine xJ_aload_n hX dL_law_359 rfl ?_
  refine xJ_callSW (As := [_, _, _, _]) hX hB dL_law_360 lkw_L_gate sm_L_gate (c_L_gate hg.1 hg.2.2.2.1 hg.2.2.2.2 hM (xR_32 _) (xR_32 _) hq) (by decide) rfl rfl rfl (Nat.le_of_ble_eq_true rfl) (by omega) (by omega) (fun v t1 M1 hv => ?_)
  obtain ⟨k, rfl, hk, hM1, hw1, hq⟩ := hv
  have hg1 := xLG_qw hw1 hg
  dsimp only [Option.toList, List.cons_append, List.nil_append]
  refine xJ_istore hX dL_law_363 (Nat.le_of_ble_eq_true rfl) rfl ?_
  dsimp only [List.set]
  refine xJ_aload_n hX dL_law_365 rfl ?_
  refine xJ_aload_n hX dL_law_366 rfl ?_
  refine xJ_iload hX dL_law_367 rfl ?_
  refine xJ_iconst hX dL_law_369 ?_
  refine xJ_iadd hX dL_law_370 ?_
  refine xJ_scr hX hS hN dL_law_371 (by omega) (by omega) ?_
  refine xJ_aload_n hX dL_law_372 rfl ?_
  refine xJ_iload hX dL_law_373 rfl ?_
  refine xJ_iconst hX dL_law_375 ?_
  refine xJ_iadd hX dL_law_376 ?_
  refine xJ_scr hX hS hN dL_law_377 (by omega) (by omega) ?_
  refine xJ_callV (As := [_, _]) hX hB dL_law_378 lk_L_106 im_X12_gate se_X12_gate rfl (by decide) (oX12_k hg1.2.2.1) (c_X12_gate hg1.2.2.1 hM1 (xR_32 _) (xR_32 _) hq) (by decide) rfl rfl rfl (Nat.le_of_ble_eq_true rfl) (by omega) (by omega) (fun v t9 M2 hv => ?_) (fun _ _ _ q => q.elim)
  obtain ⟨b9, rfl, hb9, hM2, rfl, hq⟩ := hv
  dsimp only [Option.toList, List.cons_append, List.nil_append]
  refine xJ_istore hX dL_law_381 (Nat.le_of_ble_eq_true rfl) rfl ?_
  dsimp only [List.set]
  refine xJ_aload_n hX dL_law_383 rfl ?_
  refine xJ_callV (As := []) hX hB dL_law_384 lk_L_92 im_X12_thrown se_X12_thrown rfl (by decide) (oX12_k hg1.2.2.1) (c_X12_thrown hg1.2.2.1 hM2  hq) (by decide) rfl rfl rfl (Nat.le_of_ble_eq_true rfl) (by omega) (by omega) (fun v t9 M3 hv => ?_) (fun _ _ _ q => q.elim)
  obtain ⟨h, rfl, hh, hM3, rfl, hq⟩ := hv
  dsimp only [Option.toList, List.cons_append, List.nil_append]
  refine xJ_iload hX dL_law_387 rfl ?_
  obtain ⟨rfl, hq⟩ := hq
  refine xJ_icmp_eq hX dL_law_389 (tgt := 394) (by decide) hk hk (fun _ => ?_) (fun q => absurd rfl q)
  refine xJ_iload hX dL_law_394 rfl ?_
  refine xJ_if_ne hX dL_law_396 (tgt := 411) (by decide) hk (fun _ => ?_) (fun hk0 => ?_)
  · refine xJ_goto hX dL_law_411 (tgt := 1517) (by decide) ?_
    exact kk _ _ _ _ (hw1) hM3 hq.2 _ _ (by omega) (by omega)
  refine xJ_aload_n hX dL_law_399 rfl ?_
  refine xJ_iconst hX dL_law_400 ?_
  refine xJ_lald hX dL_law_401 hg1.2.2.2.1 (by decide) (by rw [hg1.2.2.2.2]; decide) ?_
  refine xJ_iload hX dL_law_402 rfl ?_
  refine xJ_i2l hX dL_law_404 hb9 ?_
  refine xJ_lcmpE hX dL_law_405 (hq.1 hk0) ?_
  refine xJ_if_eq hX dL_law_406 (tgt := 411) (by decide) xR_0 (fun _ => ?_) (fun q => absurd rfl q)
  refine xJ_goto hX dL_law_411 (tgt := 1517) (by decide) ?_
  exact kk _ _ _ _ (hw1) hM3 hq.2 _ _ (by omega) (by omega)
set_option maxHeartbeats 4000000 in
theorem w_flow {X : xCx} {G : xGx} {cells slots : Nat} {t : xTh} {M : xMe} {Po : Option Value → xTh → xMe → Prop} {Px : String → xTh → xMe → Prop} {b N x m o : Nat} {xs : Nat → Int32} {i : Int} {u5 u6 : Value} {F : Nat} {K : Nat} {Q : xTh → xMe → Prop} (hX : xC X RL "law" cL_law 7 (some .boolean) 1312 G) (hB : xB X 601024 7293034 Po Px) (hS : xScr X b N xs) (hN : N ≤ 3072) (hg : xLG t x m o) (hM : xMR M) (h0 : 0 ≤ i) (h6 : i + 6 ≤ N) (hc : cells + 6 ≤ 601024) (hs : slots + 1027 ≤ 7293034)
    (hq : q_flow F K t x m o (xs (i + 1).toNat).toInt (xs (i + 2).toNat).toInt M Q) (kk : ∀ t' M' v5 v6, xqw t t' → xMR M' → Q t' M' → xJ X (cells + 6) (slots + 1027) t' M' 1517 [vr b, vr x, vr m, vr o, vi i, v5, v6] []) : xJ X cells slots t M 414 [vr b, vr x, vr m, vr o, vi i, u5, u6] [] := by
  replace kk : ∀ t' M' v5 v6, xqw t t' → xMR M' → Q t' M' → ∀ c s, c ≤ cells + 6 → s ≤ slots + 1027 → xJ X c s t' M' 1517 [vr b, vr x, vr m, vr o, vi i, v5, v6] [] := fun t' M' v5 v6 a1 a2 a3 c s a4 a5 => xJ_widen a4 a5 (kk t' M' v5 v6 a1 a2 a3)
  unfold q_flow at hq
  refine xJ_aload_n hX dL_law_414 rfl ?_
  refine xJ_aload_n hX dL_law_415 rfl ?_
  refine xJ_iload hX dL_law_416 rfl ?_
  refine xJ_iconst hX dL_law_418 ?_
  refine xJ_iadd hX dL_law_419 ?_
  refine xJ_scr hX hS hN dL_law_420 (by omega) (by omega) ?_
  refine xJ_aload_n hX dL_law_421 rfl ?_
  refine xJ_iload hX dL_law_422 rfl ?_
  refine xJ_iconst hX dL_law_424 ?_
  refine xJ_iadd hX dL_law_425 ?_
  refine xJ_scr hX hS hN dL_law_426 (by omega) (by omega) ?_
  refine xJ_aload_n hX dL_law_427 rfl ?_
  refine xJ_callSW (As := [_, _, _, _]) hX hB dL_law_428 lkw_L_flow sm_L_flow (c_L_flow hg.1 hg.2.2.2.1 hg.2.2.2.2 hM (xR_32 _) (xR_32 _) hq) (by decide) rfl rfl rfl (Nat.le_of_ble_eq_true rfl) (by omega) (by omega) (fun v t1 M1 hv => ?_)
  obtain ⟨k, rfl, hk, hM1, hw1, hq⟩ := hv
  have hg1 := xLG_qw hw1 hg
  dsimp only [Option.toList, List.cons_append, List.nil_append]
  refine xJ_istore hX dL_law_431 (Nat.le_of_ble_eq_true rfl) rfl ?_
  dsimp only [List.set]
  refine xJ_aload_n hX dL_law_433 rfl ?_
  refine xJ_aload_n hX dL_law_434 rfl ?_
  refine xJ_iload hX dL_law_435 rfl ?_
  refine xJ_iconst hX dL_law_437 ?_
  refine xJ_iadd hX dL_law_438 ?_
  refine xJ_scr hX hS hN dL_law_439 (by omega) (by omega) ?_
  refine xJ_aload_n hX dL_law_440 rfl ?_
  refine xJ_iload hX dL_law_441 rfl ?_
  refine xJ_iconst hX dL_law_443 ?_
  refine xJ_iadd hX dL_law_444 ?_
  refine xJ_scr hX hS hN dL_law_445 (by omega) (by omega) ?_
  refine xJ_callV (As := [_, _]) hX hB dL_law_446 lk_L_109 im_X12_flow se_X12_flow rfl (by decide) (oX12_k hg1.2.2.1) (c_X12_flow hg1.2.2.1 hM1 (xR_32 _) (xR_32 _) hq) (by decide) rfl rfl rfl (Nat.le_of_ble_eq_true rfl) (by omega) (by omega) (fun v t9 M2 hv => ?_) (fun _ _ _ q => q.elim)
  obtain ⟨b9, rfl, hb9, hM2, rfl, hq⟩ := hv
  dsimp only [Option.toList, List.cons_append, List.nil_append]
  refine xJ_istore hX dL_law_449 (Nat.le_of_ble_eq_true rfl) rfl ?_
  dsimp only [List.set]
  refine xJ_aload_n hX dL_law_451 rfl ?_
  refine xJ_callV (As := []) hX hB dL_law_452 lk_L_92 im_X12_thrown se_X12_thrown rfl (by decide) (oX12_k hg1.2.2.1) (c_X12_thrown hg1.2.2.1 hM2  hq) (by decide) rfl rfl rfl (Nat.le_of_ble_eq_true rfl) (by omega) (by omega) (fun v t9 M3 hv => ?_) (fun _ _ _ q => q.elim)
  obtain ⟨h, rfl, hh, hM3, rfl, hq⟩ := hv
  dsimp only [Option.toList, List.cons_append, List.nil_append]
  refine xJ_iload hX dL_law_455 rfl ?_
  obtain ⟨rfl, hq⟩ := hq
  refine xJ_icmp_eq hX dL_law_457 (tgt := 462) (by decide) hk hk (fun _ => ?_) (fun q => absurd rfl q)
  refine xJ_iload hX dL_law_462 rfl ?_
  refine xJ_if_ne hX dL_law_464 (tgt := 479) (by decide) hk (fun _ => ?_) (fun hk0 => ?_)
  · refine xJ_goto hX dL_law_479 (tgt := 1517) (by decide) ?_
    exact kk _ _ _ _ (hw1) hM3 hq.2 _ _ (by omega) (by omega)
  refine xJ_aload_n hX dL_law_467 rfl ?_
  refine xJ_iconst hX dL_law_468 ?_
  refine xJ_lald hX dL_law_469 hg1.2.2.2.1 (by decide) (by rw [hg1.2.2.2.2]; decide) ?_
  refine xJ_iload hX dL_law_470 rfl ?_
  refine xJ_i2l hX dL_law_472 hb9 ?_
  refine xJ_lcmpE hX dL_law_473 (hq.1 hk0) ?_
  refine xJ_if_eq hX dL_law_474 (tgt := 479) (by decide) xR_0 (fun _ => ?_) (fun q => absurd rfl q)
  refine xJ_goto hX dL_law_479 (tgt := 1517) (by decide) ?_
  exact kk _ _ _ _ (hw1) hM3 hq.2 _ _ (by omega) (by omega)
set_option maxHeartbeats 4000000 in
theorem w_route {X : xCx} {G : xGx} {cells slots : Nat} {t : xTh} {M : xMe} {Po : Option Value → xTh → xMe → Prop} {Px : String → xTh → xMe → Prop} {b N x m o : Nat} {xs : Nat → Int32} {i : Int} {u5 u6 : Value} {Q : xTh → xMe → Prop} (hX : xC X RL "law" cL_law 7 (some .boolean) 1312 G) (hB : xB X 601024 7293034 Po Px) (hS : xScr X b N xs) (hN : N ≤ 3072) (hg : xLG t x m o) (hM : xMR M) (h0 : 0 ≤ i) (h6 : i + 6 ≤ N) (hc : cells + 6 ≤ 601024) (hs : slots + 1027 ≤ 7293034)
    (hq : q_route t x m o (xs (i + 1).toNat).toInt (xs (i + 2).toNat).toInt M Q) (kk : ∀ t' M' v5 v6, xqw t t' → xMR M' → Q t' M' → xJ X (cells + 6) (slots + 1027) t' M' 1517 [vr b, vr x, vr m, vr o, vi i, v5, v6] []) : xJ X cells slots t M 482 [vr b, vr x, vr m, vr o, vi i, u5, u6] [] := by
  replace kk : ∀ t' M' v5 v6, xqw t t' → xMR M' → Q t' M' → ∀ c s, c ≤ cells + 6 → s ≤ slots + 1027 → xJ X c s t' M' 1517 [vr b, vr x, vr m, vr o, vi i, v5, v6] [] := fun t' M' v5 v6 a1 a2 a3 c s a4 a5 => xJ_widen a4 a5 (kk t' M' v5 v6 a1 a2 a3)
  unfold q_route at hq
  refine xJ_aload_n hX dL_law_482 rfl ?_
  refine xJ_aload_n hX dL_law_483 rfl ?_
  refine xJ_iload hX dL_law_484 rfl ?_
  refine xJ_iconst hX dL_law_486 ?_
  refine xJ_iadd hX dL_law_487 ?_
  refine xJ_scr hX hS hN dL_law_488 (by omega) (by omega) ?_
  refine xJ_aload_n hX dL_law_489 rfl ?_
  refine xJ_iload hX dL_law_490 rfl ?_
  refine xJ_iconst hX dL_law_492 ?_
  refine xJ_iadd hX dL_law_493 ?_
  refine xJ_scr hX hS hN dL_law_494 (by omega) (by omega) ?_
  refine xJ_aload_n hX dL_law_495 rfl ?_
  refine xJ_callSW (As := [_, _, _, _]) hX hB dL_law_496 lkw_L_route sm_L_route (c_L_route hg.1 hg.2.2.2.1 hg.2.2.2.2 hM (xR_32 _) (xR_32 _) hq) (by decide) rfl rfl rfl (Nat.le_of_ble_eq_true rfl) (by omega) (by omega) (fun v t1 M1 hv => ?_)
  obtain ⟨k, rfl, hk, hM1, hw1, hq⟩ := hv
  have hg1 := xLG_qw hw1 hg
  dsimp only [Option.toList, List.cons_append, List.nil_append]
  refine xJ_istore hX dL_law_499 (Nat.le_of_ble_eq_true rfl) rfl ?_
  dsimp only [List.set]
  refine xJ_aload_n hX dL_law_501 rfl ?_
  refine xJ_aload_n hX dL_law_502 rfl ?_
  refine xJ_iload hX dL_law_503 rfl ?_
  refine xJ_iconst hX dL_law_505 ?_
  refine xJ_iadd hX dL_law_506 ?_
  refine xJ_scr hX hS hN dL_law_507 (by omega) (by omega) ?_
  refine xJ_aload_n hX dL_law_508 rfl ?_
  refine xJ_iload hX dL_law_509 rfl ?_
  refine xJ_iconst hX dL_law_511 ?_
  refine xJ_iadd hX dL_law_512 ?_
  refine xJ_scr hX hS hN dL_law_513 (by omega) (by omega) ?_
  refine xJ_callV (As := [_, _]) hX hB dL_law_514 lk_L_112 im_X12_route se_X12_route rfl (by decide) (oX12_k hg1.2.2.1) (c_X12_route hg1.2.2.1 hM1 (xR_32 _) (xR_32 _) hq) (by decide) rfl rfl rfl (Nat.le_of_ble_eq_true rfl) (by omega) (by omega) (fun v t9 M2 hv => ?_) (fun _ _ _ q => q.elim)
  obtain ⟨b9, rfl, hb9, hM2, rfl, hq⟩ := hv
  dsimp only [Option.toList, List.cons_append, List.nil_append]
  refine xJ_istore hX dL_law_517 (Nat.le_of_ble_eq_true rfl) rfl ?_
  dsimp only [List.set]
  refine xJ_aload_n hX dL_law_519 rfl ?_
  refine xJ_callV (As := []) hX hB dL_law_520 lk_L_92 im_X12_thrown se_X12_thrown rfl (by decide) (oX12_k hg1.2.2.1) (c_X12_thrown hg1.2.2.1 hM2  hq) (by decide) rfl rfl rfl (Nat.le_of_ble_eq_true rfl) (by omega) (by omega) (fun v t9 M3 hv => ?_) (fun _ _ _ q => q.elim)
  obtain ⟨h, rfl, hh, hM3, rfl, hq⟩ := hv
  dsimp only [Option.toList, List.cons_append, List.nil_append]
  refine xJ_iload hX dL_law_523 rfl ?_
  obtain ⟨rfl, hq⟩ := hq
  refine xJ_icmp_eq hX dL_law_525 (tgt := 530) (by decide) hk hk (fun _ => ?_) (fun q => absurd rfl q)
  refine xJ_iload hX dL_law_530 rfl ?_
  refine xJ_if_ne hX dL_law_532 (tgt := 547) (by decide) hk (fun _ => ?_) (fun hk0 => ?_)
  · refine xJ_goto hX dL_law_547 (tgt := 1517) (by decide) ?_
    exact kk _ _ _ _ (hw1) hM3 hq.2 _ _ (by omega) (by omega)
  refine xJ_aload_n hX dL_law_535 rfl ?_
  refine xJ_iconst hX dL_law_536 ?_
  refine xJ_lald hX dL_law_537 hg1.2.2.2.1 (by decide) (by rw [hg1.2.2.2.2]; decide) ?_
  refine xJ_iload hX dL_law_538 rfl ?_
  refine xJ_i2l hX dL_law_540 hb9 ?_
  refine xJ_lcmpE hX dL_law_541 (hq.1 hk0) ?_
  refine xJ_if_eq hX dL_law_542 (tgt := 547) (by decide) xR_0 (fun _ => ?_) (fun q => absurd rfl q)
  refine xJ_goto hX dL_law_547 (tgt := 1517) (by decide) ?_
  exact kk _ _ _ _ (hw1) hM3 hq.2 _ _ (by omega) (by omega)
set_option maxHeartbeats 4000000 in
theorem w_tokens {X : xCx} {G : xGx} {cells slots : Nat} {t : xTh} {M : xMe} {Po : Option Value → xTh → xMe → Prop} {Px : String → xTh → xMe → Prop} {b N x m o : Nat} {xs : Nat → Int32} {i : Int} {u5 u6 : Value} {Q : xTh → xMe → Prop} (hX : xC X RL "law" cL_law 7 (some .boolean) 1312 G) (hB : xB X 601024 7293034 Po Px) (hS : xScr X b N xs) (hN : N ≤ 3072) (hg : xLG t x m o) (hM : xMR M) (h0 : 0 ≤ i) (h6 : i + 6 ≤ N) (hc : cells + 6 ≤ 601024) (hs : slots + 1027 ≤ 7293034)
    (hq : q_tokens t x m o (xs (i + 1).toNat).toInt (xs (i + 2).toNat).toInt M Q) (kk : ∀ t' M' v5 v6, xqw t t' → xMR M' → Q t' M' → xJ X (cells + 6) (slots + 1027) t' M' 1517 [vr b, vr x, vr m, vr o, vi i, v5, v6] []) : xJ X cells slots t M 550 [vr b, vr x, vr m, vr o, vi i, u5, u6] [] := by
  replace kk : ∀ t' M' v5 v6, xqw t t' → xMR M' → Q t' M' → ∀ c s, c ≤ cells + 6 → s ≤ slots + 1027 → xJ X c s t' M' 1517 [vr b, vr x, vr m, vr o, vi i, v5, v6] [] := fun t' M' v5 v6 a1 a2 a3 c s a4 a5 => xJ_widen a4 a5 (kk t' M' v5 v6 a1 a2 a3)
  unfold q_tokens at hq
  refine xJ_aload_n hX dL_law_550 rfl ?_
  refine xJ_aload_n hX dL_law_551 rfl ?_
  refine xJ_iload hX dL_law_552 rfl ?_
  refine xJ_iconst hX dL_law_554 ?_
  refine xJ_iadd hX dL_law_555 ?_
  refine xJ_scr hX hS hN dL_law_556 (by omega) (by omega) ?_
  refine xJ_aload_n hX dL_law_557 rfl ?_
  refine xJ_iload hX dL_law_558 rfl ?_
  refine xJ_iconst hX dL_law_560 ?_
  refine xJ_iadd hX dL_law_561 ?_
  refine xJ_scr hX hS hN dL_law_562 (by omega) (by omega) ?_
  refine xJ_aload_n hX dL_law_563 rfl ?_
  refine xJ_callSW (As := [_, _, _, _]) hX hB dL_law_564 lkw_L_tokens sm_L_tokens (c_L_tokens hg.1 hg.2.2.2.1 hg.2.2.2.2 hM (xR_32 _) (xR_32 _) hq) (by decide) rfl rfl rfl (Nat.le_of_ble_eq_true rfl) (by omega) (by omega) (fun v t1 M1 hv => ?_)
  obtain ⟨k, rfl, hk, hM1, hw1, hq⟩ := hv
  have hg1 := xLG_qw hw1 hg
  dsimp only [Option.toList, List.cons_append, List.nil_append]
  refine xJ_istore hX dL_law_567 (Nat.le_of_ble_eq_true rfl) rfl ?_
  dsimp only [List.set]
  refine xJ_aload_n hX dL_law_569 rfl ?_
  refine xJ_aload_n hX dL_law_570 rfl ?_
  refine xJ_iload hX dL_law_571 rfl ?_
  refine xJ_iconst hX dL_law_573 ?_
  refine xJ_iadd hX dL_law_574 ?_
  refine xJ_scr hX hS hN dL_law_575 (by omega) (by omega) ?_
  refine xJ_aload_n hX dL_law_576 rfl ?_
  refine xJ_iload hX dL_law_577 rfl ?_
  refine xJ_iconst hX dL_law_579 ?_
  refine xJ_iadd hX dL_law_580 ?_
  refine xJ_scr hX hS hN dL_law_581 (by omega) (by omega) ?_
  refine xJ_callV (As := [_, _]) hX hB dL_law_582 lk_L_115 im_X12_tokens se_X12_tokens rfl (by decide) (oX12_k hg1.2.2.1) (c_X12_tokens hg1.2.2.1 hM1 (xR_32 _) (xR_32 _) hq) (by decide) rfl rfl rfl (Nat.le_of_ble_eq_true rfl) (by omega) (by omega) (fun v t9 M2 hv => ?_) (fun _ _ _ q => q.elim)
  obtain ⟨b9, rfl, hb9, hM2, rfl, hq⟩ := hv
  dsimp only [Option.toList, List.cons_append, List.nil_append]
  refine xJ_istore hX dL_law_585 (Nat.le_of_ble_eq_true rfl) rfl ?_
  dsimp only [List.set]
  refine xJ_aload_n hX dL_law_587 rfl ?_
  refine xJ_callV (As := []) hX hB dL_law_588 lk_L_92 im_X12_thrown se_X12_thrown rfl (by decide) (oX12_k hg1.2.2.1) (c_X12_thrown hg1.2.2.1 hM2  hq) (by decide) rfl rfl rfl (Nat.le_of_ble_eq_true rfl) (by omega) (by omega) (fun v t9 M3 hv => ?_) (fun _ _ _ q => q.elim)
  obtain ⟨h, rfl, hh, hM3, rfl, hq⟩ := hv
  dsimp only [Option.toList, List.cons_append, List.nil_append]
  refine xJ_iload hX dL_law_591 rfl ?_
  obtain ⟨rfl, hq⟩ := hq
  refine xJ_icmp_eq hX dL_law_593 (tgt := 598) (by decide) hk hk (fun _ => ?_) (fun q => absurd rfl q)
  refine xJ_iload hX dL_law_598 rfl ?_
  refine xJ_if_ne hX dL_law_600 (tgt := 615) (by decide) hk (fun _ => ?_) (fun hk0 => ?_)
  · refine xJ_goto hX dL_law_615 (tgt := 1517) (by decide) ?_
    exact kk _ _ _ _ (hw1) hM3 hq.2 _ _ (by omega) (by omega)
  refine xJ_aload_n hX dL_law_603 rfl ?_
  refine xJ_iconst hX dL_law_604 ?_
  refine xJ_lald hX dL_law_605 hg1.2.2.2.1 (by decide) (by rw [hg1.2.2.2.2]; decide) ?_
  refine xJ_iload hX dL_law_606 rfl ?_
  refine xJ_i2l hX dL_law_608 hb9 ?_
  refine xJ_lcmpE hX dL_law_609 (hq.1 hk0) ?_
  refine xJ_if_eq hX dL_law_610 (tgt := 615) (by decide) xR_0 (fun _ => ?_) (fun q => absurd rfl q)
  refine xJ_goto hX dL_law_615 (tgt := 1517) (by decide) ?_
  exact kk _ _ _ _ (hw1) hM3 hq.2 _ _ (by omega) (by omega)
set_option maxHeartbeats 4000000 in
theorem w_queue {X : xCx} {G : xGx} {cells slots : Nat} {t : xTh} {M : xMe} {Po : Option Value → xTh → xMe → Prop} {Px : String → xTh → xMe → Prop} {b N x m o : Nat} {xs : Nat → Int32} {i : Int} {u5 u6 : Value} {Q : xTh → xMe → Prop} (hX : xC X RL "law" cL_law 7 (some .boolean) 1312 G) (hB : xB X 601024 7293034 Po Px) (hS : xScr X b N xs) (hN : N ≤ 3072) (hg : xLG t x m o) (hM : xMR M) (h0 : 0 ≤ i) (h6 : i + 6 ≤ N) (hc : cells + 6 ≤ 601024) (hs : slots + 1027 ≤ 7293034)
    (hq : q_queue t x m o (xs (i + 1).toNat).toInt (xs (i + 2).toNat).toInt M Q) (kk : ∀ t' M' v5 v6, xqw t t' → xMR M' → Q t' M' → xJ X (cells + 6) (slots + 1027) t' M' 1517 [vr b, vr x, vr m, vr o, vi i, v5, v6] []) : xJ X cells slots t M 618 [vr b, vr x, vr m, vr o, vi i, u5, u6] [] := by
  replace kk : ∀ t' M' v5 v6, xqw t t' → xMR M' → Q t' M' → ∀ c s, c ≤ cells + 6 → s ≤ slots + 1027 → xJ X c s t' M' 1517 [vr b, vr x, vr m, vr o, vi i, v5, v6] [] := fun t' M' v5 v6 a1 a2 a3 c s a4 a5 => xJ_widen a4 a5 (kk t' M' v5 v6 a1 a2 a3)
  unfold q_queue at hq
  refine xJ_aload_n hX dL_law_618 rfl ?_
  refine xJ_aload_n hX dL_law_619 rfl ?_
  refine xJ_iload hX dL_law_620 rfl ?_
  refine xJ_iconst hX dL_law_622 ?_
  refine xJ_iadd hX dL_law_623 ?_
  refine xJ_scr hX hS hN dL_law_624 (by omega) (by omega) ?_
  refine xJ_aload_n hX dL_law_625 rfl ?_
  refine xJ_iload hX dL_law_626 rfl ?_
  refine xJ_iconst hX dL_law_628 ?_
  refine xJ_iadd hX dL_law_629 ?_
  refine xJ_scr hX hS hN dL_law_630 (by omega) (by omega) ?_
  refine xJ_aload_n hX dL_law_631 rfl ?_
  refine xJ_callSW (As := [_, _, _, _]) hX hB dL_law_632 lkw_L_queue sm_L_queue (c_L_queue hg.1 hg.2.2.2.1 hg.2.2.2.2 hM (xR_32 _) (xR_32 _) hq) (by decide) rfl rfl rfl (Nat.le_of_ble_eq_true rfl) (by omega) (by omega) (fun v t1 M1 hv => ?_)
  obtain ⟨k, rfl, hk, hM1, hw1, hq⟩ := hv
  have hg1 := xLG_qw hw1 hg
  dsimp only [Option.toList, List.cons_append, List.nil_append]
  refine xJ_istore hX dL_law_635 (Nat.le_of_ble_eq_true rfl) rfl ?_
  dsimp only [List.set]
  refine xJ_aload_n hX dL_law_637 rfl ?_
  refine xJ_aload_n hX dL_law_638 rfl ?_
  refine xJ_iload hX dL_law_639 rfl ?_
  refine xJ_iconst hX dL_law_641 ?_
  refine xJ_iadd hX dL_law_642 ?_
  refine xJ_scr hX hS hN dL_law_643 (by omega) (by omega) ?_
  refine xJ_aload_n hX dL_law_644 rfl ?_
  refine xJ_iload hX dL_law_645 rfl ?_
  refine xJ_iconst hX dL_law_647 ?_
  refine xJ_iadd hX dL_law_648 ?_
  refine xJ_scr hX hS hN dL_law_649 (by omega) (by omega) ?_
  refine xJ_callV (As := [_, _]) hX hB dL_law_650 lk_L_118 im_X12_queue se_X12_queue rfl (by decide) (oX12_k hg1.2.2.1) (c_X12_queue hg1.2.2.1 hM1 (xR_32 _) (xR_32 _) hq) (by decide) rfl rfl rfl (Nat.le_of_ble_eq_true rfl) (by omega) (by omega) (fun v t9 M2 hv => ?_) (fun _ _ _ q => q.elim)
  obtain ⟨b9, rfl, hb9, hM2, rfl, hq⟩ := hv
  dsimp only [Option.toList, List.cons_append, List.nil_append]
  refine xJ_istore hX dL_law_653 (Nat.le_of_ble_eq_true rfl) rfl ?_
  dsimp only [List.set]
  refine xJ_aload_n hX dL_law_655 rfl ?_
  refine xJ_callV (As := []) hX hB dL_law_656 lk_L_92 im_X12_thrown se_X12_thrown rfl (by decide) (oX12_k hg1.2.2.1) (c_X12_thrown hg1.2.2.1 hM2  hq) (by decide) rfl rfl rfl (Nat.le_of_ble_eq_true rfl) (by omega) (by omega) (fun v t9 M3 hv => ?_) (fun _ _ _ q => q.elim)
  obtain ⟨h, rfl, hh, hM3, rfl, hq⟩ := hv
  dsimp only [Option.toList, List.cons_append, List.nil_append]
  refine xJ_iload hX dL_law_659 rfl ?_
  obtain ⟨rfl, hq⟩ := hq
  refine xJ_icmp_eq hX dL_law_661 (tgt := 666) (by decide) hk hk (fun _ => ?_) (fun q => absurd rfl q)
  refine xJ_iload hX dL_law_666 rfl ?_
  refine xJ_if_ne hX dL_law_668 (tgt := 683) (by decide) hk (fun _ => ?_) (fun hk0 => ?_)
  · refine xJ_goto hX dL_law_683 (tgt := 1517) (by decide) ?_
    exact kk _ _ _ _ (hw1) hM3 hq.2 _ _ (by omega) (by omega)
  refine xJ_aload_n hX dL_law_671 rfl ?_
  refine xJ_iconst hX dL_law_672 ?_
  refine xJ_lald hX dL_law_673 hg1.2.2.2.1 (by decide) (by rw [hg1.2.2.2.2]; decide) ?_
  refine xJ_iload hX dL_law_674 rfl ?_
  refine xJ_i2l hX dL_law_676 hb9 ?_
  refine xJ_lcmpE hX dL_law_677 (hq.1 hk0) ?_
  refine xJ_if_eq hX dL_law_678 (tgt := 683) (by decide) xR_0 (fun _ => ?_) (fun q => absurd rfl q)
  refine xJ_goto hX dL_law_683 (tgt := 1517) (by decide) ?_
  exact kk _ _ _ _ (hw1) hM3 hq.2 _ _ (by omega) (by omega)
set_option maxHeartbeats 4000000 in
theorem w_packet {X : xCx} {G : xGx} {cells slots : Nat} {t : xTh} {M : xMe} {Po : Option Value → xTh → xMe → Prop} {Px : String → xTh → xMe → Prop} {b N x m o : Nat} {xs : Nat → Int32} {i : Int} {u5 u6 : Value} {Q : xTh → xMe → Prop} (hX : xC X RL "law" cL_law 7 (some .boolean) 1312 G) (hB : xB X 601024 7293034 Po Px) (hS : xScr X b N xs) (hN : N ≤ 3072) (hg : xLG t x m o) (hM : xMR M) (h0 : 0 ≤ i) (h6 : i + 6 ≤ N) (hc : cells + 6 ≤ 601024) (hs : slots + 1027 ≤ 7293034)
    (hq : q_packet t x m o (xs (i + 1).toNat).toInt (xs (i + 2).toNat).toInt M Q) (kk : ∀ t' M' v5 v6, xqw t t' → xMR M' → Q t' M' → xJ X (cells + 6) (slots + 1027) t' M' 1517 [vr b, vr x, vr m, vr o, vi i, v5, v6] []) : xJ X cells slots t M 686 [vr b, vr x, vr m, vr o, vi i, u5, u6] [] := by
  replace kk : ∀ t' M' v5 v6, xqw t t' → xMR M' → Q t' M' → ∀ c s, c ≤ cells + 6 → s ≤ slots + 1027 → xJ X c s t' M' 1517 [vr b, vr x, vr m, vr o, vi i, v5, v6] [] := fun t' M' v5 v6 a1 a2 a3 c s a4 a5 => xJ_widen a4 a5 (kk t' M' v5 v6 a1 a2 a3)
  unfold q_packet at hq
  refine xJ_aload_n hX dL_law_686 rfl ?_
  refine xJ_aload_n hX dL_law_687 rfl ?_
  refine xJ_iload hX dL_law_688 rfl ?_
  refine xJ_iconst hX dL_law_690 ?_
  refine xJ_iadd hX dL_law_691 ?_
  refine xJ_scr hX hS hN dL_law_692 (by omega) (by omega) ?_
  refine xJ_aload_n hX dL_law_693 rfl ?_
  refine xJ_iload hX dL_law_694 rfl ?_
  refine xJ_iconst hX dL_law_696 ?_
  refine xJ_iadd hX dL_law_697 ?_
  refine xJ_scr hX hS hN dL_law_698 (by omega) (by omega) ?_
  refine xJ_aload_n hX dL_law_699 rfl ?_
  refine xJ_callSW (As := [_, _, _, _]) hX hB dL_law_700 lkw_L_packet sm_L_packet (c_L_packet hg.1 hg.2.2.2.1 hg.2.2.2.2 hM (xR_32 _) (xR_32 _) hq) (by decide) rfl rfl rfl (Nat.le_of_ble_eq_true rfl) (by omega) (by omega) (fun v t1 M1 hv => ?_)
  obtain ⟨k, rfl, hk, hM1, hw1, hq⟩ := hv
  have hg1 := xLG_qw hw1 hg
  dsimp only [Option.toList, List.cons_append, List.nil_append]
  refine xJ_istore hX dL_law_703 (Nat.le_of_ble_eq_true rfl) rfl ?_
  dsimp only [List.set]
  refine xJ_aload_n hX dL_law_705 rfl ?_
  refine xJ_aload_n hX dL_law_706 rfl ?_
  refine xJ_iload hX dL_law_707 rfl ?_
  refine xJ_iconst hX dL_law_709 ?_
  refine xJ_iadd hX dL_law_710 ?_
  refine xJ_scr hX hS hN dL_law_711 (by omega) (by omega) ?_
  refine xJ_aload_n hX dL_law_712 rfl ?_
  refine xJ_iload hX dL_law_713 rfl ?_
  refine xJ_iconst hX dL_law_715 ?_
  refine xJ_iadd hX dL_law_716 ?_
  refine xJ_scr hX hS hN dL_law_717 (by omega) (by omega) ?_
  refine xJ_callV (As := [_, _]) hX hB dL_law_718 lk_L_121 im_X12_packet se_X12_packet rfl (by decide) (oX12_k hg1.2.2.1) (c_X12_packet hg1.2.2.1 hM1 (xR_32 _) (xR_32 _) hq) (by decide) rfl rfl rfl (Nat.le_of_ble_eq_true rfl) (by omega) (by omega) (fun v t9 M2 hv => ?_) (fun _ _ _ q => q.elim)
  obtain ⟨b9, rfl, hb9, hM2, rfl, hq⟩ := hv
  dsimp only [Option.toList, List.cons_append, List.nil_append]
  refine xJ_istore hX dL_law_721 (Nat.le_of_ble_eq_true rfl) rfl ?_
  dsimp only [List.set]
  refine xJ_aload_n hX dL_law_723 rfl ?_
  refine xJ_callV (As := []) hX hB dL_law_724 lk_L_92 im_X12_thrown se_X12_thrown rfl (by decide) (oX12_k hg1.2.2.1) (c_X12_thrown hg1.2.2.1 hM2  hq) (by decide) rfl rfl rfl (Nat.le_of_ble_eq_true rfl) (by omega) (by omega) (fun v t9 M3 hv => ?_) (fun _ _ _ q => q.elim)
  obtain ⟨h, rfl, hh, hM3, rfl, hq⟩ := hv
  dsimp only [Option.toList, List.cons_append, List.nil_append]
  refine xJ_iload hX dL_law_727 rfl ?_
  obtain ⟨rfl, hq⟩ := hq
  refine xJ_icmp_eq hX dL_law_729 (tgt := 734) (by decide) hk hk (fun _ => ?_) (fun q => absurd rfl q)
  refine xJ_iload hX dL_law_734 rfl ?_
  refine xJ_if_ne hX dL_law_736 (tgt := 751) (by decide) hk (fun _ => ?_) (fun hk0 => ?_)
  · refine xJ_goto hX dL_law_751 (tgt := 1517) (by decide) ?_
    exact kk _ _ _ _ (hw1) hM3 hq.2 _ _ (by omega) (by omega)
  refine xJ_aload_n hX dL_law_739 rfl ?_
  refine xJ_iconst hX dL_law_740 ?_
  refine xJ_lald hX dL_law_741 hg1.2.2.2.1 (by decide) (by rw [hg1.2.2.2.2]; decide) ?_
  refine xJ_iload hX dL_law_742 rfl ?_
  refine xJ_i2l hX dL_law_744 hb9 ?_
  refine xJ_lcmpE hX dL_law_745 (hq.1 hk0) ?_
  refine xJ_if_eq hX dL_law_746 (tgt := 751) (by decide) xR_0 (fun _ => ?_) (fun q => absurd rfl q)
  refine xJ_goto hX dL_law_751 (tgt := 1517) (by decide) ?_
  exact kk _ _ _ _ (hw1) hM3 hq.2 _ _ (by omega) (by omega)
set_option maxHeartbeats 4000000 in
theorem w_coupon {X : xCx} {G : xGx} {cells slots : Nat} {t : xTh} {M : xMe} {Po : Option Value → xTh → xMe → Prop} {Px : String → xTh → xMe → Prop} {b N x m o : Nat} {xs : Nat → Int32} {i : Int} {u5 u6 : Value} {Q : xTh → xMe → Prop} (hX : xC X RL "law" cL_law 7 (some .boolean) 1312 G) (hB : xB X 601024 7293034 Po Px) (hS : xScr X b N xs) (hN : N ≤ 3072) (hg : xLG t x m o) (hM : xMR M) (h0 : 0 ≤ i) (h6 : i + 6 ≤ N) (hc : cells + 6 ≤ 601024) (hs : slots + 1027 ≤ 7293034)
    (hq : q_coupon t x m o (xs (i + 1).toNat).toInt (xs (i + 2).toNat).toInt M Q) (kk : ∀ t' M' v5 v6, xqw t t' → xMR M' → Q t' M' → xJ X (cells + 6) (slots + 1027) t' M' 1517 [vr b, vr x, vr m, vr o, vi i, v5, v6] []) : xJ X cells slots t M 754 [vr b, vr x, vr m, vr o, vi i, u5, u6] [] := by
  replace kk : ∀ t' M' v5 v6, xqw t t' → xMR M' → Q t' M' → ∀ c s, c ≤ cells + 6 → s ≤ slots + 1027 → xJ X c s t' M' 1517 [vr b, vr x, vr m, vr o, vi i, v5, v6] [] := fun t' M' v5 v6 a1 a2 a3 c s a4 a5 => xJ_widen a4 a5 (kk t' M' v5 v6 a1 a2 a3)
  unfold q_coupon at hq
  refine xJ_aload_n hX dL_law_754 rfl ?_
  refine xJ_aload_n hX dL_law_755 rfl ?_
  refine xJ_iload hX dL_law_756 rfl ?_
  refine xJ_iconst hX dL_law_758 ?_
  refine xJ_iadd hX dL_law_759 ?_
  refine xJ_scr hX hS hN dL_law_760 (by omega) (by omega) ?_
  refine xJ_aload_n hX dL_law_761 rfl ?_
  refine xJ_iload hX dL_law_762 rfl ?_
  refine xJ_iconst hX dL_law_764 ?_
  refine xJ_iadd hX dL_law_765 ?_
  refine xJ_scr hX hS hN dL_law_766 (by omega) (by omega) ?_
  refine xJ_aload_n hX dL_law_767 rfl ?_
  refine xJ_callSW (As := [_, _, _, _]) hX hB dL_law_768 lkw_L_coupon sm_L_coupon (c_L_coupon hg.1 hg.2.2.2.1 hg.2.2.2.2 hM (xR_32 _) (xR_32 _) hq) (by decide) rfl rfl rfl (Nat.le_of_ble_eq_true rfl) (by omega) (by omega) (fun v t1 M1 hv => ?_)
  obtain ⟨k, rfl, hk, hM1, hw1, hq⟩ := hv
  have hg1 := xLG_qw hw1 hg
  dsimp only [Option.toList, List.cons_append, List.nil_append]
  refine xJ_istore hX dL_law_771 (Nat.le_of_ble_eq_true rfl) rfl ?_
  dsimp only [List.set]
  refine xJ_aload_n hX dL_law_773 rfl ?_
  refine xJ_aload_n hX dL_law_774 rfl ?_
  refine xJ_iload hX dL_law_775 rfl ?_
  refine xJ_iconst hX dL_law_777 ?_
  refine xJ_iadd hX dL_law_778 ?_
  refine xJ_scr hX hS hN dL_law_779 (by omega) (by omega) ?_
  refine xJ_aload_n hX dL_law_780 rfl ?_
  refine xJ_iload hX dL_law_781 rfl ?_
  refine xJ_iconst hX dL_law_783 ?_
  refine xJ_iadd hX dL_law_784 ?_
  refine xJ_scr hX hS hN dL_law_785 (by omega) (by omega) ?_
  refine xJ_callV (As := [_, _]) hX hB dL_law_786 lk_L_124 im_X12_coupon se_X12_coupon rfl (by decide) (oX12_k hg1.2.2.1) (c_X12_coupon hg1.2.2.1 hM1 (xR_32 _) (xR_32 _) hq) (by decide) rfl rfl rfl (Nat.le_of_ble_eq_true rfl) (by omega) (by omega) (fun v t9 M2 hv => ?_) (fun _ _ _ q => q.elim)
  obtain ⟨b9, rfl, hb9, hM2, rfl, hq⟩ := hv
  dsimp only [Option.toList, List.cons_append, List.nil_append]
  refine xJ_istore hX dL_law_789 (Nat.le_of_ble_eq_true rfl) rfl ?_
  dsimp only [List.set]
  refine xJ_aload_n hX dL_law_791 rfl ?_
  refine xJ_callV (As := []) hX hB dL_law_792 lk_L_92 im_X12_thrown se_X12_thrown rfl (by decide) (oX12_k hg1.2.2.1) (c_X12_thrown hg1.2.2.1 hM2  hq) (by decide) rfl rfl rfl (Nat.le_of_ble_eq_true rfl) (by omega) (by omega) (fun v t9 M3 hv => ?_) (fun _ _ _ q => q.elim)
  obtain ⟨h, rfl, hh, hM3, rfl, hq⟩ := hv
  dsimp only [Option.toList, List.cons_append, List.nil_append]
  refine xJ_iload hX dL_law_795 rfl ?_
  obtain ⟨rfl, hq⟩ := hq
  refine xJ_icmp_eq hX dL_law_797 (tgt := 802) (by decide) hk hk (fun _ => ?_) (fun q => absurd rfl q)
  refine xJ_iload hX dL_law_802 rfl ?_
  refine xJ_if_ne hX dL_law_804 (tgt := 819) (by decide) hk (fun _ => ?_) (fun hk0 => ?_)
  · refine xJ_goto hX dL_law_819 (tgt := 1517) (by decide) ?_
    exact kk _ _ _ _ (hw1) hM3 hq.2 _ _ (by omega) (by omega)
  refine xJ_aload_n hX dL_law_807 rfl ?_
  refine xJ_iconst hX dL_law_808 ?_
  refine xJ_lald hX dL_law_809 hg1.2.2.2.1 (by decide) (by rw [hg1.2.2.2.2]; decide) ?_
  refine xJ_iload hX dL_law_810 rfl ?_
  refine xJ_i2l hX dL_law_812 hb9 ?_
  refine xJ_lcmpE hX dL_law_813 (hq.1 hk0) ?_
  refine xJ_if_eq hX dL_law_814 (tgt := 819) (by decide) xR_0 (fun _ => ?_) (fun q => absurd rfl q)
  refine xJ_goto hX dL_law_819 (tgt := 1517) (by decide) ?_
  exact kk _ _ _ _ (hw1) hM3 hq.2 _ _ (by omega) (by omega)
set_option maxHeartbeats 4000000 in
theorem w_loadOver {X : xCx} {G : xGx} {cells slots : Nat} {t : xTh} {M : xMe} {Po : Option Value → xTh → xMe → Prop} {Px : String → xTh → xMe → Prop} {b N x m o : Nat} {xs : Nat → Int32} {i : Int} {u5 u6 : Value} {F : Nat} {K : Nat} {Q : xTh → xMe → Prop} (hX : xC X RL "law" cL_law 7 (some .boolean) 1312 G) (hB : xB X 601024 7293034 Po Px) (hS : xScr X b N xs) (hN : N ≤ 3072) (hg : xLG t x m o) (hM : xMR M) (h0 : 0 ≤ i) (h6 : i + 6 ≤ N) (hc : cells + 6 ≤ 601024) (hs : slots + 1027 ≤ 7293034)
    (hq : q_loadOver F K t x m o (xs (i + 1).toNat).toInt (xs (i + 2).toNat).toInt (xs (i + 3).toNat).toInt M Q) (kk : ∀ t' M' v5 v6, xqw t t' → xMR M' → Q t' M' → xJ X (cells + 6) (slots + 1027) t' M' 1517 [vr b, vr x, vr m, vr o, vi i, v5, v6] []) : xJ X cells slots t M 822 [vr b, vr x, vr m, vr o, vi i, u5, u6] [] := by
  replace kk : ∀ t' M' v5 v6, xqw t t' → xMR M' → Q t' M' → ∀ c s, c ≤ cells + 6 → s ≤ slots + 1027 → xJ X c s t' M' 1517 [vr b, vr x, vr m, vr o, vi i, v5, v6] [] := fun t' M' v5 v6 a1 a2 a3 c s a4 a5 => xJ_widen a4 a5 (kk t' M' v5 v6 a1 a2 a3)
  unfold q_loadOver at hq
  refine xJ_aload_n hX dL_law_822 rfl ?_
  refine xJ_aload_n hX dL_law_823 rfl ?_
  refine xJ_iload hX dL_law_824 rfl ?_
  refine xJ_iconst hX dL_law_826 ?_
  refine xJ_iadd hX dL_law_827 ?_
  refine xJ_scr hX hS hN dL_law_828 (by omega) (by omega) ?_
  refine xJ_aload_n hX dL_law_829 rfl ?_
  refine xJ_iload hX dL_law_830 rfl ?_
  refine xJ_iconst hX dL_law_832 ?_
  refine xJ_iadd hX dL_law_833 ?_
  refine xJ_scr hX hS hN dL_law_834 (by omega) (by omega) ?_
  refine xJ_aload_n hX dL_law_835 rfl ?_
  refine xJ_iload hX dL_law_836 rfl ?_
  refine xJ_iconst hX dL_law_838 ?_
  refine xJ_iadd hX dL_law_839 ?_
  refine xJ_scr hX hS hN dL_law_840 (by omega) (by omega) ?_
  refine xJ_aload_n hX dL_law_841 rfl ?_
  refine xJ_callSW (As := [_, _, _, _, _]) hX hB dL_law_842 lkw_L_loadOver sm_L_loadOver (c_L_loadOver hg.1 hg.2.2.2.1 hg.2.2.2.2 hM (xR_32 _) (xR_32 _) (xR_32 _) hq) (by decide) rfl rfl rfl (Nat.le_of_ble_eq_true rfl) (by omega) (by omega) (fun v t1 M1 hv => ?_)
  obtain ⟨k, rfl, hk, hM1, hw1, hq⟩ := hv
  have hg1 := xLG_qw hw1 hg
  dsimp only [Option.toList, List.cons_append, List.nil_append]
  refine xJ_istore hX dL_law_845 (Nat.le_of_ble_eq_true rfl) rfl ?_
  dsimp only [List.set]
  refine xJ_aload_n hX dL_law_847 rfl ?_
  refine xJ_aload_n hX dL_law_848 rfl ?_
  refine xJ_iload hX dL_law_849 rfl ?_
  refine xJ_iconst hX dL_law_851 ?_
  refine xJ_iadd hX dL_law_852 ?_
  refine xJ_scr hX hS hN dL_law_853 (by omega) (by omega) ?_
  refine xJ_aload_n hX dL_law_854 rfl ?_
  refine xJ_iload hX dL_law_855 rfl ?_
  refine xJ_iconst hX dL_law_857 ?_
  refine xJ_iadd hX dL_law_858 ?_
  refine xJ_scr hX hS hN dL_law_859 (by omega) (by omega) ?_
  refine xJ_aload_n hX dL_law_860 rfl ?_
  refine xJ_iload hX dL_law_861 rfl ?_
  refine xJ_iconst hX dL_law_863 ?_
  refine xJ_iadd hX dL_law_864 ?_
  refine xJ_scr hX hS hN dL_law_865 (by omega) (by omega) ?_
  refine xJ_callV (As := [_, _, _]) hX hB dL_law_866 lk_L_128 im_X12_loadOver se_X12_loadOver rfl (by decide) (oX12_k hg1.2.2.1) (c_X12_loadOver hg1.2.2.1 hM1 (xR_32 _) (xR_32 _) (xR_32 _) hq) (by decide) rfl rfl rfl (Nat.le_of_ble_eq_true rfl) (by omega) (by omega) (fun v t9 M2 hv => ?_) (fun _ _ _ q => q.elim)
  obtain ⟨b9, rfl, hb9, hM2, rfl, hq⟩ := hv
  dsimp only [Option.toList, List.cons_append, List.nil_append]
  refine xJ_istore hX dL_law_869 (Nat.le_of_ble_eq_true rfl) rfl ?_
  dsimp only [List.set]
  refine xJ_aload_n hX dL_law_871 rfl ?_
  refine xJ_callV (As := []) hX hB dL_law_872 lk_L_92 im_X12_thrown se_X12_thrown rfl (by decide) (oX12_k hg1.2.2.1) (c_X12_thrown hg1.2.2.1 hM2  hq) (by decide) rfl rfl rfl (Nat.le_of_ble_eq_true rfl) (by omega) (by omega) (fun v t9 M3 hv => ?_) (fun _ _ _ q => q.elim)
  obtain ⟨h, rfl, hh, hM3, rfl, hq⟩ := hv
  dsimp only [Option.toList, List.cons_append, List.nil_append]
  refine xJ_iload hX dL_law_875 rfl ?_
  obtain ⟨rfl, hq⟩ := hq
  refine xJ_icmp_eq hX dL_law_877 (tgt := 882) (by decide) hk hk (fun _ => ?_) (fun q => absurd rfl q)
  refine xJ_iload hX dL_law_882 rfl ?_
  refine xJ_if_ne hX dL_law_884 (tgt := 899) (by decide) hk (fun _ => ?_) (fun hk0 => ?_)
  · refine xJ_goto hX dL_law_899 (tgt := 1517) (by decide) ?_
    exact kk _ _ _ _ (hw1) hM3 hq.2 _ _ (by omega) (by omega)
  refine xJ_aload_n hX dL_law_887 rfl ?_
  refine xJ_iconst hX dL_law_888 ?_
  refine xJ_lald hX dL_law_889 hg1.2.2.2.1 (by decide) (by rw [hg1.2.2.2.2]; decide) ?_
  refine xJ_iload hX dL_law_890 rfl ?_
  refine xJ_i2l hX dL_law_892 hb9 ?_
  refine xJ_lcmpE hX dL_law_893 (hq.1 hk0) ?_
  refine xJ_if_eq hX dL_law_894 (tgt := 899) (by decide) xR_0 (fun _ => ?_) (fun q => absurd rfl q)
  refine xJ_goto hX dL_law_899 (tgt := 1517) (by decide) ?_
  exact kk _ _ _ _ (hw1) hM3 hq.2 _ _ (by omega) (by omega)
set_option maxHeartbeats 4000000 in
theorem w_curve {X : xCx} {G : xGx} {cells slots : Nat} {t : xTh} {M : xMe} {Po : Option Value → xTh → xMe → Prop} {Px : String → xTh → xMe → Prop} {b N x m o : Nat} {xs : Nat → Int32} {i : Int} {u5 u6 : Value} {Q : xTh → xMe → Prop} (hX : xC X RL "law" cL_law 7 (some .boolean) 1312 G) (hB : xB X 601024 7293034 Po Px) (hS : xScr X b N xs) (hN : N ≤ 3072) (hg : xLG t x m o) (hM : xMR M) (h0 : 0 ≤ i) (h6 : i + 6 ≤ N) (hc : cells + 6 ≤ 601024) (hs : slots + 1027 ≤ 7293034)
    (hq : q_curve t x m o (xs (i + 1).toNat).toInt (xs (i + 2).toNat).toInt M Q) (kk : ∀ t' M' v5 v6, xqw t t' → xMR M' → Q t' M' → xJ X (cells + 6) (slots + 1027) t' M' 1517 [vr b, vr x, vr m, vr o, vi i, v5, v6] []) : xJ X cells slots t M 902 [vr b, vr x, vr m, vr o, vi i, u5, u6] [] := by
  replace kk : ∀ t' M' v5 v6, xqw t t' → xMR M' → Q t' M' → ∀ c s, c ≤ cells + 6 → s ≤ slots + 1027 → xJ X c s t' M' 1517 [vr b, vr x, vr m, vr o, vi i, v5, v6] [] := fun t' M' v5 v6 a1 a2 a3 c s a4 a5 => xJ_widen a4 a5 (kk t' M' v5 v6 a1 a2 a3)
  unfold q_curve at hq
  refine xJ_aload_n hX dL_law_902 rfl ?_
  refine xJ_aload_n hX dL_law_903 rfl ?_
  refine xJ_iload hX dL_law_904 rfl ?_
  refine xJ_iconst hX dL_law_906 ?_
  refine xJ_iadd hX dL_law_907 ?_
  refine xJ_scr hX hS hN dL_law_908 (by omega) (by omega) ?_
  refine xJ_aload_n hX dL_law_909 rfl ?_
  refine xJ_iload hX dL_law_910 rfl ?_
  refine xJ_iconst hX dL_law_912 ?_
  refine xJ_iadd hX dL_law_913 ?_
  refine xJ_scr hX hS hN dL_law_914 (by omega) (by omega) ?_
  refine xJ_aload_n hX dL_law_915 rfl ?_
  refine xJ_callSW (As := [_, _, _, _]) hX hB dL_law_916 lkw_L_curve sm_L_curve (c_L_curve hg.1 hg.2.2.2.1 hg.2.2.2.2 hM (xR_32 _) (xR_32 _) hq) (by decide) rfl rfl rfl (Nat.le_of_ble_eq_true rfl) (by omega) (by omega) (fun v t1 M1 hv => ?_)
  obtain ⟨k, rfl, hk, hM1, hw1, hq⟩ := hv
  have hg1 := xLG_qw hw1 hg
  dsimp only [Option.toList, List.cons_append, List.nil_append]
  refine xJ_istore hX dL_law_919 (Nat.le_of_ble_eq_true rfl) rfl ?_
  dsimp only [List.set]
  refine xJ_aload_n hX dL_law_921 rfl ?_
  refine xJ_aload_n hX dL_law_922 rfl ?_
  refine xJ_iload hX dL_law_923 rfl ?_
  refine xJ_iconst hX dL_law_925 ?_
  refine xJ_iadd hX dL_law_926 ?_
  refine xJ_scr hX hS hN dL_law_927 (by omega) (by omega) ?_
  refine xJ_aload_n hX dL_law_928 rfl ?_
  refine xJ_iload hX dL_law_929 rfl ?_
  refine xJ_iconst hX dL_law_931 ?_
  refine xJ_iadd hX dL_law_932 ?_
  refine xJ_scr hX hS hN dL_law_933 (by omega) (by omega) ?_
  refine xJ_callV (As := [_, _]) hX hB dL_law_934 lk_L_131 im_X12_curve se_X12_curve rfl (by decide) (oX12_k hg1.2.2.1) (c_X12_curve hg1.2.2.1 hM1 (xR_32 _) (xR_32 _) hq) (by decide) rfl rfl rfl (Nat.le_of_ble_eq_true rfl) (by omega) (by omega) (fun v t9 M2 hv => ?_) (fun _ _ _ q => q.elim)
  obtain ⟨b9, rfl, hb9, hM2, rfl, hq⟩ := hv
  dsimp only [Option.toList, List.cons_append, List.nil_append]
  refine xJ_istore hX dL_law_937 (Nat.le_of_ble_eq_true rfl) rfl ?_
  dsimp only [List.set]
  refine xJ_aload_n hX dL_law_939 rfl ?_
  refine xJ_callV (As := []) hX hB dL_law_940 lk_L_92 im_X12_thrown se_X12_thrown rfl (by decide) (oX12_k hg1.2.2.1) (c_X12_thrown hg1.2.2.1 hM2  hq) (by decide) rfl rfl rfl (Nat.le_of_ble_eq_true rfl) (by omega) (by omega) (fun v t9 M3 hv => ?_) (fun _ _ _ q => q.elim)
  obtain ⟨h, rfl, hh, hM3, rfl, hq⟩ := hv
  dsimp only [Option.toList, List.cons_append, List.nil_append]
  refine xJ_iload hX dL_law_943 rfl ?_
  obtain ⟨rfl, hq⟩ := hq
  refine xJ_icmp_eq hX dL_law_945 (tgt := 950) (by decide) hk hk (fun _ => ?_) (fun q => absurd rfl q)
  refine xJ_iload hX dL_law_950 rfl ?_
  refine xJ_if_ne hX dL_law_952 (tgt := 967) (by decide) hk (fun _ => ?_) (fun hk0 => ?_)
  · refine xJ_goto hX dL_law_967 (tgt := 1517) (by decide) ?_
    exact kk _ _ _ _ (hw1) hM3 hq.2 _ _ (by omega) (by omega)
  refine xJ_aload_n hX dL_law_955 rfl ?_
  refine xJ_iconst hX dL_law_956 ?_
  refine xJ_lald hX dL_law_957 hg1.2.2.2.1 (by decide) (by rw [hg1.2.2.2.2]; decide) ?_
  refine xJ_iload hX dL_law_958 rfl ?_
  refine xJ_i2l hX dL_law_960 hb9 ?_
  refine xJ_lcmpE hX dL_law_961 (hq.1 hk0) ?_
  refine xJ_if_eq hX dL_law_962 (tgt := 967) (by decide) xR_0 (fun _ => ?_) (fun q => absurd rfl q)
  refine xJ_goto hX dL_law_967 (tgt := 1517) (by decide) ?_
  exact kk _ _ _ _ (hw1) hM3 hq.2 _ _ (by omega) (by omega)
set_option maxHeartbeats 4000000 in
theorem w_endsAt {X : xCx} {G : xGx} {cells slots : Nat} {t : xTh} {M : xMe} {Po : Option Value → xTh → xMe → Prop} {Px : String → xTh → xMe → Prop} {b N x m o : Nat} {xs : Nat → Int32} {i : Int} {u5 u6 : Value} {F : Nat} {K : Nat} {Q : xTh → xMe → Prop} (hX : xC X RL "law" cL_law 7 (some .boolean) 1312 G) (hB : xB X 601024 7293034 Po Px) (hS : xScr X b N xs) (hN : N ≤ 3072) (hg : xLG t x m o) (hM : xMR M) (h0 : 0 ≤ i) (h6 : i + 6 ≤ N) (hc : cells + 6 ≤ 601024) (hs : slots + 1027 ≤ 7293034)
    (hq : q_endsAt F K t x m o (xs (i + 1).toNat).toInt M Q) (kk : ∀ t' M' v5 v6, xqw t t' → xMR M' → Q t' M' → xJ X (cells + 6) (slots + 1027) t' M' 1517 [vr b, vr x, vr m, vr o, vi i, v5, v6] []) : xJ X cells slots t M 970 [vr b, vr x, vr m, vr o, vi i, u5, u6] [] := by
  replace kk : ∀ t' M' v5 v6, xqw t t' → xMR M' → Q t' M' → ∀ c s, c ≤ cells + 6 → s ≤ slots + 1027 → xJ X c s t' M' 1517 [vr b, vr x, vr m, vr o, vi i, v5, v6] [] := fun t' M' v5 v6 a1 a2 a3 c s a4 a5 => xJ_widen a4 a5 (kk t' M' v5 v6 a1 a2 a3)
  unfold q_endsAt at hq
  refine xJ_aload_n hX dL_law_970 rfl ?_
  refine xJ_aload_n hX dL_law_971 rfl ?_
  refine xJ_iload hX dL_law_972 rfl ?_
  refine xJ_iconst hX dL_law_974 ?_
  refine xJ_iadd hX dL_law_975 ?_
  refine xJ_scr hX hS hN dL_law_976 (by omega) (by omega) ?_
  refine xJ_aload_n hX dL_law_977 rfl ?_
  refine xJ_callSW (As := [_, _, _]) hX hB dL_law_978 lkw_L_endsAt sm_L_endsAt (c_L_endsAt hg.1 hg.2.1 hg.2.2.2.1 hg.2.2.2.2 hM (xR_32 _) hq) (by decide) rfl rfl rfl (Nat.le_of_ble_eq_true rfl) (by omega) (by omega) (fun v t1 M1 hv => ?_)
  obtain ⟨k, rfl, hk, hM1, hw1, hq⟩ := hv
  have hg1 := xLG_qw hw1 hg
  dsimp only [Option.toList, List.cons_append, List.nil_append]
  refine xJ_istore hX dL_law_981 (Nat.le_of_ble_eq_true rfl) rfl ?_
  dsimp only [List.set]
  refine xJ_aload_n hX dL_law_983 rfl ?_
  refine xJ_aload_n hX dL_law_984 rfl ?_
  refine xJ_iload hX dL_law_985 rfl ?_
  refine xJ_iconst hX dL_law_987 ?_
  refine xJ_iadd hX dL_law_988 ?_
  refine xJ_scr hX hS hN dL_law_989 (by omega) (by omega) ?_
  refine xJ_callV (As := [_]) hX hB dL_law_990 lk_L_134 im_X12_endsAt se_X12_endsAt rfl (by decide) (oX12_k hg1.2.2.1) (c_X12_endsAt hg1.2.2.1 hM1 (xR_32 _) hq) (by decide) rfl rfl rfl (Nat.le_of_ble_eq_true rfl) (by omega) (by omega) (fun v t9 M2 hv => ?_) (fun _ _ _ q => q.elim)
  obtain ⟨b9, rfl, hb9, hM2, rfl, hq⟩ := hv
  dsimp only [Option.toList, List.cons_append, List.nil_append]
  refine xJ_istore hX dL_law_993 (Nat.le_of_ble_eq_true rfl) rfl ?_
  dsimp only [List.set]
  refine xJ_aload_n hX dL_law_995 rfl ?_
  refine xJ_callV (As := []) hX hB dL_law_996 lk_L_92 im_X12_thrown se_X12_thrown rfl (by decide) (oX12_k hg1.2.2.1) (c_X12_thrown hg1.2.2.1 hM2  hq) (by decide) rfl rfl rfl (Nat.le_of_ble_eq_true rfl) (by omega) (by omega) (fun v t9 M3 hv => ?_) (fun _ _ _ q => q.elim)
  obtain ⟨h, rfl, hh, hM3, rfl, hq⟩ := hv
  dsimp only [Option.toList, List.cons_append, List.nil_append]
  refine xJ_iload hX dL_law_999 rfl ?_
  obtain ⟨rfl, hq⟩ := hq
  refine xJ_icmp_eq hX dL_law_1001 (tgt := 1006) (by decide) hk hk (fun _ => ?_) (fun q => absurd rfl q)
  refine xJ_iload hX dL_law_1006 rfl ?_
  refine xJ_if_ne hX dL_law_1008 (tgt := 1023) (by decide) hk (fun _ => ?_) (fun hk0 => ?_)
  · refine xJ_goto hX dL_law_1023 (tgt := 1517) (by decide) ?_
    exact kk _ _ _ _ (hw1) hM3 hq.2 _ _ (by omega) (by omega)
  refine xJ_aload_n hX dL_law_1011 rfl ?_
  refine xJ_iconst hX dL_law_1012 ?_
  refine xJ_lald hX dL_law_1013 hg1.2.2.2.1 (by decide) (by rw [hg1.2.2.2.2]; decide) ?_
  refine xJ_iload hX dL_law_1014 rfl ?_
  refine xJ_i2l hX dL_law_1016 hb9 ?_
  refine xJ_lcmpE hX dL_law_1017 (hq.1 hk0) ?_
  refine xJ_if_eq hX dL_law_1018 (tgt := 1023) (by decide) xR_0 (fun _ => ?_) (fun q => absurd rfl q)
  refine xJ_goto hX dL_law_1023 (tgt := 1517) (by decide) ?_
  exact kk _ _ _ _ (hw1) hM3 hq.2 _ _ (by omega) (by omega)
set_option maxHeartbeats 4000000 in
theorem w_billAfter {X : xCx} {G : xGx} {cells slots : Nat} {t : xTh} {M : xMe} {Po : Option Value → xTh → xMe → Prop} {Px : String → xTh → xMe → Prop} {b N x m o : Nat} {xs : Nat → Int32} {i : Int} {u5 u6 : Value} {F : Nat} {K : Nat} {Q : xTh → xMe → Prop} (hX : xC X RL "law" cL_law 7 (some .boolean) 1312 G) (hB : xB X 601024 7293034 Po Px) (hS : xScr X b N xs) (hN : N ≤ 3072) (hg : xLG t x m o) (hM : xMR M) (h0 : 0 ≤ i) (h6 : i + 6 ≤ N) (hc : cells + 6 ≤ 601024) (hs : slots + 1027 ≤ 7293034)
    (hq : q_billAfter F K t x m o (xs (i + 1).toNat).toInt (xs (i + 2).toNat).toInt M Q) (kk : ∀ t' M' v5 v6, xqw t t' → xMR M' → Q t' M' → xJ X (cells + 6) (slots + 1027) t' M' 1517 [vr b, vr x, vr m, vr o, vi i, v5, v6] []) : xJ X cells slots t M 1026 [vr b, vr x, vr m, vr o, vi i, u5, u6] [] := by
  replace kk : ∀ t' M' v5 v6, xqw t t' → xMR M' → Q t' M' → ∀ c s, c ≤ cells + 6 → s ≤ slots + 1027 → xJ X c s t' M' 1517 [vr b, vr x, vr m, vr o, vi i, v5, v6] [] := fun t' M' v5 v6 a1 a2 a3 c s a4 a5 => xJ_widen a4 a5 (kk t' M' v5 v6 a1 a2 a3)
  unfold q_billAfter at hq
  refine xJ_aload_n hX dL_law_1026 rfl ?_
  refine xJ_aload_n hX dL_law_1027 rfl ?_
  refine xJ_iload hX dL_law_1028 rfl ?_
  refine xJ_iconst hX dL_law_1030 ?_
  refine xJ_iadd hX dL_law_1031 ?_
  refine xJ_scr hX hS hN dL_law_1032 (by omega) (by omega) ?_
  refine xJ_aload_n hX dL_law_1033 rfl ?_
  refine xJ_iload hX dL_law_1034 rfl ?_
  refine xJ_iconst hX dL_law_1036 ?_
  refine xJ_iadd hX dL_law_1037 ?_
  refine xJ_scr hX hS hN dL_law_1038 (by omega) (by omega) ?_
  refine xJ_aload_n hX dL_law_1039 rfl ?_
  refine xJ_callSW (As := [_, _, _, _]) hX hB dL_law_1040 lkw_L_billAfter sm_L_billAfter (c_L_billAfter hg.1 hg.2.1 hg.2.2.2.1 hg.2.2.2.2 hM (xR_32 _) (xR_32 _) hq) (by decide) rfl rfl rfl (Nat.le_of_ble_eq_true rfl) (by omega) (by omega) (fun v t1 M1 hv => ?_)
  obtain ⟨k, rfl, hk, hM1, hw1, hq⟩ := hv
  have hg1 := xLG_qw hw1 hg
  dsimp only [Option.toList, List.cons_append, List.nil_append]
  refine xJ_istore hX dL_law_1043 (Nat.le_of_ble_eq_true rfl) rfl ?_
  dsimp only [List.set]
  refine xJ_aload_n hX dL_law_1045 rfl ?_
  refine xJ_aload_n hX dL_law_1046 rfl ?_
  refine xJ_iload hX dL_law_1047 rfl ?_
  refine xJ_iconst hX dL_law_1049 ?_
  refine xJ_iadd hX dL_law_1050 ?_
  refine xJ_scr hX hS hN dL_law_1051 (by omega) (by omega) ?_
  refine xJ_aload_n hX dL_law_1052 rfl ?_
  refine xJ_iload hX dL_law_1053 rfl ?_
  refine xJ_iconst hX dL_law_1055 ?_
  refine xJ_iadd hX dL_law_1056 ?_
  refine xJ_scr hX hS hN dL_law_1057 (by omega) (by omega) ?_
  refine xJ_callV (As := [_, _]) hX hB dL_law_1058 lk_L_137 im_X12_billAfter se_X12_billAfter rfl (by decide) (oX12_k hg1.2.2.1) (c_X12_billAfter hg1.2.2.1 hM1 (xR_32 _) (xR_32 _) hq) (by decide) rfl rfl rfl (Nat.le_of_ble_eq_true rfl) (by omega) (by omega) (fun v t9 M2 hv => ?_) (fun _ _ _ q => q.elim)
  obtain ⟨b9, rfl, hb9, hM2, rfl, hq⟩ := hv
  dsimp only [Option.toList, List.cons_append, List.nil_append]
  refine xJ_istore hX dL_law_1061 (Nat.le_of_ble_eq_true rfl) rfl ?_
  dsimp only [List.set]
  refine xJ_aload_n hX dL_law_1063 rfl ?_
  refine xJ_callV (As := []) hX hB dL_law_1064 lk_L_92 im_X12_thrown se_X12_thrown rfl (by decide) (oX12_k hg1.2.2.1) (c_X12_thrown hg1.2.2.1 hM2  hq) (by decide) rfl rfl rfl (Nat.le_of_ble_eq_true rfl) (by omega) (by omega) (fun v t9 M3 hv => ?_) (fun _ _ _ q => q.elim)
  obtain ⟨h, rfl, hh, hM3, rfl, hq⟩ := hv
  dsimp only [Option.toList, List.cons_append, List.nil_append]
  refine xJ_iload hX dL_law_1067 rfl ?_
  obtain ⟨rfl, hq⟩ := hq
  refine xJ_icmp_eq hX dL_law_1069 (tgt := 1074) (by decide) hk hk (fun _ => ?_) (fun q => absurd rfl q)
  refine xJ_iload hX dL_law_1074 rfl ?_
  refine xJ_if_ne hX dL_law_1076 (tgt := 1091) (by decide) hk (fun _ => ?_) (fun hk0 => ?_)
  · refine xJ_goto hX dL_law_1091 (tgt := 1517) (by decide) ?_
    exact kk _ _ _ _ (hw1) hM3 hq.2 _ _ (by omega) (by omega)
  refine xJ_aload_n hX dL_law_1079 rfl ?_
  refine xJ_iconst hX dL_law_1080 ?_
  refine xJ_lald hX dL_law_1081 hg1.2.2.2.1 (by decide) (by rw [hg1.2.2.2.2]; decide) ?_
  refine xJ_iload hX dL_law_1082 rfl ?_
  refine xJ_i2l hX dL_law_1084 hb9 ?_
  refine xJ_lcmpE hX dL_law_1085 (hq.1 hk0) ?_
  refine xJ_if_eq hX dL_law_1086 (tgt := 1091) (by decide) xR_0 (fun _ => ?_) (fun q => absurd rfl q)
  refine xJ_goto hX dL_law_1091 (tgt := 1517) (by decide) ?_
  exact kk _ _ _ _ (hw1) hM3 hq.2 _ _ (by omega) (by omega)
set_option maxHeartbeats 4000000 in
theorem w_help {X : xCx} {G : xGx} {cells slots : Nat} {t : xTh} {M : xMe} {Po : Option Value → xTh → xMe → Prop} {Px : String → xTh → xMe → Prop} {b N x m o : Nat} {xs : Nat → Int32} {i : Int} {u5 u6 : Value} {F : Nat} {K : Nat} {Q : xTh → xMe → Prop} (hX : xC X RL "law" cL_law 7 (some .boolean) 1312 G) (hB : xB X 601024 7293034 Po Px) (hS : xScr X b N xs) (hN : N ≤ 3072) (hg : xLG t x m o) (hM : xMR M) (h0 : 0 ≤ i) (h6 : i + 6 ≤ N) (hc : cells + 6 ≤ 601024) (hs : slots + 1027 ≤ 7293034)
    (hq : q_help F K t x m o (xs (i + 1).toNat).toInt M Q) (kk : ∀ t' M' v5 v6, xqw t t' → xMR M' → Q t' M' → xJ X (cells + 6) (slots + 1027) t' M' 1517 [vr b, vr x, vr m, vr o, vi i, v5, v6] []) : xJ X cells slots t M 1094 [vr b, vr x, vr m, vr o, vi i, u5, u6] [] := by
  replace kk : ∀ t' M' v5 v6, xqw t t' → xMR M' → Q t' M' → ∀ c s, c ≤ cells + 6 → s ≤ slots + 1027 → xJ X c s t' M' 1517 [vr b, vr x, vr m, vr o, vi i, v5, v6] [] := fun t' M' v5 v6 a1 a2 a3 c s a4 a5 => xJ_widen a4 a5 (kk t' M' v5 v6 a1 a2 a3)
  unfold q_help at hq
  refine xJ_aload_n hX dL_law_1094 rfl ?_
  refine xJ_aload_n hX dL_law_1095 rfl ?_
  refine xJ_iload hX dL_law_1096 rfl ?_
  refine xJ_iconst hX dL_law_1098 ?_
  refine xJ_iadd hX dL_law_1099 ?_
  refine xJ_scr hX hS hN dL_law_1100 (by omega) (by omega) ?_
  refine xJ_aload_n hX dL_law_1101 rfl ?_
  refine xJ_callSW (As := [_, _, _]) hX hB dL_law_1102 lkw_L_help sm_L_help (c_L_help hg.1 hg.2.1 hg.2.2.2.1 hg.2.2.2.2 hM (xR_32 _) hq) (by decide) rfl rfl rfl (Nat.le_of_ble_eq_true rfl) (by omega) (by omega) (fun v t1 M1 hv => ?_)
  obtain ⟨k, rfl, hk, hM1, hw1, hq⟩ := hv
  have hg1 := xLG_qw hw1 hg
  dsimp only [Option.toList, List.cons_append, List.nil_append]
  refine xJ_istore hX dL_law_1105 (Nat.le_of_ble_eq_true rfl) rfl ?_
  dsimp only [List.set]
  refine xJ_aload_n hX dL_law_1107 rfl ?_
  refine xJ_aload_n hX dL_law_1108 rfl ?_
  refine xJ_iload hX dL_law_1109 rfl ?_
  refine xJ_iconst hX dL_law_1111 ?_
  refine xJ_iadd hX dL_law_1112 ?_
  refine xJ_scr hX hS hN dL_law_1113 (by omega) (by omega) ?_
  refine xJ_callV (As := [_]) hX hB dL_law_1114 lk_L_140 im_X12_help se_X12_help rfl (by decide) (oX12_k hg1.2.2.1) (c_X12_help hg1.2.2.1 hM1 (xR_32 _) hq) (by decide) rfl rfl rfl (Nat.le_of_ble_eq_true rfl) (by omega) (by omega) (fun v t9 M2 hv => ?_) (fun _ _ _ q => q.elim)
  obtain ⟨b9, rfl, hb9, hM2, rfl, hq⟩ := hv
  dsimp only [Option.toList, List.cons_append, List.nil_append]
  refine xJ_istore hX dL_law_1117 (Nat.le_of_ble_eq_true rfl) rfl ?_
  dsimp only [List.set]
  refine xJ_aload_n hX dL_law_1119 rfl ?_
  refine xJ_callV (As := []) hX hB dL_law_1120 lk_L_92 im_X12_thrown se_X12_thrown rfl (by decide) (oX12_k hg1.2.2.1) (c_X12_thrown hg1.2.2.1 hM2  hq) (by decide) rfl rfl rfl (Nat.le_of_ble_eq_true rfl) (by omega) (by omega) (fun v t9 M3 hv => ?_) (fun _ _ _ q => q.elim)
  obtain ⟨h, rfl, hh, hM3, rfl, hq⟩ := hv
  dsimp only [Option.toList, List.cons_append, List.nil_append]
  refine xJ_iload hX dL_law_1123 rfl ?_
  obtain ⟨rfl, hq⟩ := hq
  refine xJ_icmp_eq hX dL_law_1125 (tgt := 1130) (by decide) hk hk (fun _ => ?_) (fun q => absurd rfl q)
  refine xJ_iload hX dL_law_1130 rfl ?_
  refine xJ_if_ne hX dL_law_1132 (tgt := 1147) (by decide) hk (fun _ => ?_) (fun hk0 => ?_)
  · refine xJ_goto hX dL_law_1147 (tgt := 1517) (by decide) ?_
    exact kk _ _ _ _ (hw1) hM3 hq.2 _ _ (by omega) (by omega)
  refine xJ_aload_n hX dL_law_1135 rfl ?_
  refine xJ_iconst hX dL_law_1136 ?_
  refine xJ_lald hX dL_law_1137 hg1.2.2.2.1 (by decide) (by rw [hg1.2.2.2.2]; decide) ?_
  refine xJ_iload hX dL_law_1138 rfl ?_
  refine xJ_i2l hX dL_law_1140 hb9 ?_
  refine xJ_lcmpE hX dL_law_1141 (hq.1 hk0) ?_
  refine xJ_if_eq hX dL_law_1142 (tgt := 1147) (by decide) xR_0 (fun _ => ?_) (fun q => absurd rfl q)
  refine xJ_goto hX dL_law_1147 (tgt := 1517) (by decide) ?_
  exact kk _ _ _ _ (hw1) hM3 hq.2 _ _ (by omega) (by omega)
set_option maxHeartbeats 4000000 in
theorem w_pass {X : xCx} {G : xGx} {cells slots : Nat} {t : xTh} {M : xMe} {Po : Option Value → xTh → xMe → Prop} {Px : String → xTh → xMe → Prop} {b N x m o : Nat} {xs : Nat → Int32} {i : Int} {u5 u6 : Value} {F : Nat} {K : Nat} {Q : xTh → xMe → Prop} (hX : xC X RL "law" cL_law 7 (some .boolean) 1312 G) (hB : xB X 601024 7293034 Po Px) (hS : xScr X b N xs) (hN : N ≤ 3072) (hg : xLG t x m o) (hM : xMR M) (h0 : 0 ≤ i) (h6 : i + 6 ≤ N) (hc : cells + 6 ≤ 601024) (hs : slots + 1027 ≤ 7293034)
    (hq : q_pass F K t x m o (xs (i + 1).toNat).toInt M Q) (kk : ∀ t' M' v5 v6, xqw t t' → xMR M' → Q t' M' → xJ X (cells + 6) (slots + 1027) t' M' 1517 [vr b, vr x, vr m, vr o, vi i, v5, v6] []) : xJ X cells slots t M 1150 [vr b, vr x, vr m, vr o, vi i, u5, u6] [] := by
  replace kk : ∀ t' M' v5 v6, xqw t t' → xMR M' → Q t' M' → ∀ c s, c ≤ cells + 6 → s ≤ slots + 1027 → xJ X c s t' M' 1517 [vr b, vr x, vr m, vr o, vi i, v5, v6] [] := fun t' M' v5 v6 a1 a2 a3 c s a4 a5 => xJ_widen a4 a5 (kk t' M' v5 v6 a1 a2 a3)
  unfold q_pass at hq
  refine xJ_aload_n hX dL_law_1150 rfl ?_
  refine xJ_aload_n hX dL_law_1151 rfl ?_
  refine xJ_iload hX dL_law_1152 rfl ?_
  refine xJ_iconst hX dL_law_1154 ?_
  refine xJ_iadd hX dL_law_1155 ?_
  refine xJ_scr hX hS hN dL_law_1156 (by omega) (by omega) ?_
  refine xJ_aload_n hX dL_law_1157 rfl ?_
  refine xJ_callSW (As := [_, _, _]) hX hB dL_law_1158 lkw_L_pass sm_L_pass (c_L_pass hg.1 hg.2.1 hg.2.2.2.1 hg.2.2.2.2 hM (xR_32 _) hq) (by decide) rfl rfl rfl (Nat.le_of_ble_eq_true rfl) (by omega) (by omega) (fun v t1 M1 hv => ?_)
  obtain ⟨k, rfl, hk, hM1, hw1, hq⟩ := hv
  have hg1 := xLG_qw hw1 hg
  dsimp only [Option.toList, List.cons_append, List.nil_append]
  refine xJ_istore hX dL_law_1161 (Nat.le_of_ble_eq_true rfl) rfl ?_
  dsimp only [List.set]
  refine xJ_aload_n hX dL_law_1163 rfl ?_
  refine xJ_aload_n hX dL_law_1164 rfl ?_
  refine xJ_iload hX dL_law_1165 rfl ?_
  refine xJ_iconst hX dL_law_1167 ?_
  refine xJ_iadd hX dL_law_1168 ?_
  refine xJ_scr hX hS hN dL_law_1169 (by omega) (by omega) ?_
  refine xJ_callV (As := [_]) hX hB dL_law_1170 lk_L_143 im_X12_pass se_X12_pass rfl (by decide) (oX12_k hg1.2.2.1) (c_X12_pass hg1.2.2.1 hM1 (xR_32 _) hq) (by decide) rfl rfl rfl (Nat.le_of_ble_eq_true rfl) (by omega) (by omega) (fun v t9 M2 hv => ?_) (fun _ _ _ q => q.elim)
  obtain ⟨b9, rfl, hb9, hM2, rfl, hq⟩ := hv
  dsimp only [Option.toList, List.cons_append, List.nil_append]
  refine xJ_istore hX dL_law_1173 (Nat.le_of_ble_eq_true rfl) rfl ?_
  dsimp only [List.set]
  refine xJ_aload_n hX dL_law_1175 rfl ?_
  refine xJ_callV (As := []) hX hB dL_law_1176 lk_L_92 im_X12_thrown se_X12_thrown rfl (by decide) (oX12_k hg1.2.2.1) (c_X12_thrown hg1.2.2.1 hM2  hq) (by decide) rfl rfl rfl (Nat.le_of_ble_eq_true rfl) (by omega) (by omega) (fun v t9 M3 hv => ?_) (fun _ _ _ q => q.elim)
  obtain ⟨h, rfl, hh, hM3, rfl, hq⟩ := hv
  dsimp only [Option.toList, List.cons_append, List.nil_append]
  refine xJ_iload hX dL_law_1179 rfl ?_
  obtain ⟨rfl, hq⟩ := hq
  refine xJ_icmp_eq hX dL_law_1181 (tgt := 1186) (by decide) hk hk (fun _ => ?_) (fun q => absurd rfl q)
  refine xJ_iload hX dL_law_1186 rfl ?_
  refine xJ_if_ne hX dL_law_1188 (tgt := 1203) (by decide) hk (fun _ => ?_) (fun hk0 => ?_)
  · refine xJ_goto hX dL_law_1203 (tgt := 1517) (by decide) ?_
    exact kk _ _ _ _ (hw1) hM3 hq.2 _ _ (by omega) (by omega)
  refine xJ_aload_n hX dL_law_1191 rfl ?_
  refine xJ_iconst hX dL_law_1192 ?_
  refine xJ_lald hX dL_law_1193 hg1.2.2.2.1 (by decide) (by rw [hg1.2.2.2.2]; decide) ?_
  refine xJ_iload hX dL_law_1194 rfl ?_
  refine xJ_i2l hX dL_law_1196 hb9 ?_
  refine xJ_lcmpE hX dL_law_1197 (hq.1 hk0) ?_
  refine xJ_if_eq hX dL_law_1198 (tgt := 1203) (by decide) xR_0 (fun _ => ?_) (fun q => absurd rfl q)
  refine xJ_goto hX dL_law_1203 (tgt := 1517) (by decide) ?_
  exact kk _ _ _ _ (hw1) hM3 hq.2 _ _ (by omega) (by omega)
set_option maxHeartbeats 4000000 in
theorem w_forward {X : xCx} {G : xGx} {cells slots : Nat} {t : xTh} {M : xMe} {Po : Option Value → xTh → xMe → Prop} {Px : String → xTh → xMe → Prop} {b N x m o : Nat} {xs : Nat → Int32} {i : Int} {u5 u6 : Value} {K : Nat} {Q : xTh → xMe → Prop} (hX : xC X RL "law" cL_law 7 (some .boolean) 1312 G) (hB : xB X 601024 7293034 Po Px) (hS : xScr X b N xs) (hN : N ≤ 3072) (hg : xLG t x m o) (hM : xMR M) (h0 : 0 ≤ i) (h6 : i + 6 ≤ N) (hc : cells + 6 ≤ 601024) (hs : slots + 1027 ≤ 7293034)
    (hq : q_forward K t x m o (xs (i + 1).toNat).toInt (xs (i + 2).toNat).toInt M Q) (kk : ∀ t' M' v5 v6, xqw t t' → xMR M' → Q t' M' → xJ X (cells + 6) (slots + 1027) t' M' 1517 [vr b, vr x, vr m, vr o, vi i, v5, v6] []) : xJ X cells slots t M 1206 [vr b, vr x, vr m, vr o, vi i, u5, u6] [] := by
  replace kk : ∀ t' M' v5 v6, xqw t t' → xMR M' → Q t' M' → ∀ c s, c ≤ cells + 6 → s ≤ slots + 1027 → xJ X c s t' M' 1517 [vr b, vr x, vr m, vr o, vi i, v5, v6] [] := fun t' M' v5 v6 a1 a2 a3 c s a4 a5 => xJ_widen a4 a5 (kk t' M' v5 v6 a1 a2 a3)
  unfold q_forward at hq
  refine xJ_aload_n hX dL_law_1206 rfl ?_
  refine xJ_aload_n hX dL_law_1207 rfl ?_
  refine xJ_iload hX dL_law_1208 rfl ?_
  refine xJ_iconst hX dL_law_1210 ?_
  refine xJ_iadd hX dL_law_1211 ?_
  refine xJ_scr hX hS hN dL_law_1212 (by omega) (by omega) ?_
  refine xJ_aload_n hX dL_law_1213 rfl ?_
  refine xJ_iload hX dL_law_1214 rfl ?_
  refine xJ_iconst hX dL_law_1216 ?_
  refine xJ_iadd hX dL_law_1217 ?_
  refine xJ_scr hX hS hN dL_law_1218 (by omega) (by omega) ?_
  refine xJ_aload_n hX dL_law_1219 rfl ?_
  refine xJ_callSW (As := [_, _, _, _]) hX hB dL_law_1220 lkw_L_forward sm_L_forward (c_L_forward hg.1 hg.2.1 hg.2.2.2.1 hg.2.2.2.2 hM (xR_32 _) (xR_32 _) hq) (by decide) rfl rfl rfl (Nat.le_of_ble_eq_true rfl) (by omega) (by omega) (fun v t1 M1 hv => ?_)
  obtain ⟨k, rfl, hk, hM1, hw1, hq⟩ := hv
  have hg1 := xLG_qw hw1 hg
  dsimp only [Option.toList, List.cons_append, List.nil_append]
  refine xJ_istore hX dL_law_1223 (Nat.le_of_ble_eq_true rfl) rfl ?_
  dsimp only [List.set]
  refine xJ_aload_n hX dL_law_1225 rfl ?_
  refine xJ_aload_n hX dL_law_1226 rfl ?_
  refine xJ_iload hX dL_law_1227 rfl ?_
  refine xJ_iconst hX dL_law_1229 ?_
  refine xJ_iadd hX dL_law_1230 ?_
  refine xJ_scr hX hS hN dL_law_1231 (by omega) (by omega) ?_
  refine xJ_aload_n hX dL_law_1232 rfl ?_
  refine xJ_iload hX dL_law_1233 rfl ?_
  refine xJ_iconst hX dL_law_1235 ?_
  refine xJ_iadd hX dL_law_1236 ?_
  refine xJ_scr hX hS hN dL_law_1237 (by omega) (by omega) ?_
  refine xJ_callV (As := [_, _]) hX hB dL_law_1238 lk_L_146 im_X12_forward se_X12_forward rfl (by decide) (oX12_k hg1.2.2.1) (c_X12_forward hg1.2.2.1 hM1 (xR_32 _) (xR_32 _) hq) (by decide) rfl rfl rfl (Nat.le_of_ble_eq_true rfl) (by omega) (by omega) (fun v t9 M2 hv => ?_) (fun _ _ _ q => q.elim)
  obtain ⟨b9, rfl, hb9, hM2, rfl, hq⟩ := hv
  dsimp only [Option.toList, List.cons_append, List.nil_append]
  refine xJ_istore hX dL_law_1241 (Nat.le_of_ble_eq_true rfl) rfl ?_
  dsimp only [List.set]
  refine xJ_aload_n hX dL_law_1243 rfl ?_
  refine xJ_callV (As := []) hX hB dL_law_1244 lk_L_92 im_X12_thrown se_X12_thrown rfl (by decide) (oX12_k hg1.2.2.1) (c_X12_thrown hg1.2.2.1 hM2  hq) (by decide) rfl rfl rfl (Nat.le_of_ble_eq_true rfl) (by omega) (by omega) (fun v t9 M3 hv => ?_) (fun _ _ _ q => q.elim)
  obtain ⟨h, rfl, hh, hM3, rfl, hq⟩ := hv
  dsimp only [Option.toList, List.cons_append, List.nil_append]
  refine xJ_iload hX dL_law_1247 rfl ?_
  obtain ⟨rfl, hq⟩ := hq
  refine xJ_icmp_eq hX dL_law_1249 (tgt := 1254) (by decide) hk hk (fun _ => ?_) (fun q => absurd rfl q)
  refine xJ_iload hX dL_law_1254 rfl ?_
  refine xJ_if_ne hX dL_law_1256 (tgt := 1271) (by decide) hk (fun _ => ?_) (fun hk0 => ?_)
  · refine xJ_goto hX dL_law_1271 (tgt := 1517) (by decide) ?_
    exact kk _ _ _ _ (hw1) hM3 hq.2 _ _ (by omega) (by omega)
  refine xJ_aload_n hX dL_law_1259 rfl ?_
  refine xJ_iconst hX dL_law_1260 ?_
  refine xJ_lald hX dL_law_1261 hg1.2.2.2.1 (by decide) (by rw [hg1.2.2.2.2]; decide) ?_
  refine xJ_iload hX dL_law_1262 rfl ?_
  refine xJ_i2l hX dL_law_1264 hb9 ?_
  refine xJ_lcmpE hX dL_law_1265 (hq.1 hk0) ?_
  refine xJ_if_eq hX dL_law_1266 (tgt := 1271) (by decide) xR_0 (fun _ => ?_) (fun q => absurd rfl q)
  refine xJ_goto hX dL_law_1271 (tgt := 1517) (by decide) ?_
  exact kk _ _ _ _ (hw1) hM3 hq.2 _ _ (by omega) (by omega)
set_option maxHeartbeats 4000000 in
theorem w_grant {X : xCx} {G : xGx} {cells slots : Nat} {t : xTh} {M : xMe} {Po : Option Value → xTh → xMe → Prop} {Px : String → xTh → xMe → Prop} {b N x m o : Nat} {xs : Nat → Int32} {i : Int} {u5 u6 : Value} {K : Nat} {Q : xTh → xMe → Prop} (hX : xC X RL "law" cL_law 7 (some .boolean) 1312 G) (hB : xB X 601024 7293034 Po Px) (hS : xScr X b N xs) (hN : N ≤ 3072) (hg : xLG t x m o) (hM : xMR M) (h0 : 0 ≤ i) (h6 : i + 6 ≤ N) (hc : cells + 6 ≤ 601024) (hs : slots + 1027 ≤ 7293034)
    (hq : q_grant K t x m o (xs (i + 1).toNat).toInt (xs (i + 2).toNat).toInt (xs (i + 3).toNat).toInt M Q) (kk : ∀ t' M' v5 v6, xqw t t' → xMR M' → Q t' M' → xJ X (cells + 6) (slots + 1027) t' M' 1517 [vr b, vr x, vr m, vr o, vi i, v5, v6] []) : xJ X cells slots t M 1274 [vr b, vr x, vr m, vr o, vi i, u5, u6] [] := by
  replace kk : ∀ t' M' v5 v6, xqw t t' → xMR M' → Q t' M' → ∀ c s, c ≤ cells + 6 → s ≤ slots + 1027 → xJ X c s t' M' 1517 [vr b, vr x, vr m, vr o, vi i, v5, v6] [] := fun t' M' v5 v6 a1 a2 a3 c s a4 a5 => xJ_widen a4 a5 (kk t' M' v5 v6 a1 a2 a3)
  unfold q_grant at hq
  refine xJ_aload_n hX dL_law_1274 rfl ?_
  refine xJ_aload_n hX dL_law_1275 rfl ?_
  refine xJ_iload hX dL_law_1276 rfl ?_
  refine xJ_iconst hX dL_law_1278 ?_
  refine xJ_iadd hX dL_law_1279 ?_
  refine xJ_scr hX hS hN dL_law_1280 (by omega) (by omega) ?_
  refine xJ_aload_n hX dL_law_1281 rfl ?_
  refine xJ_iload hX dL_law_1282 rfl ?_
  refine xJ_iconst hX dL_law_1284 ?_
  refine xJ_iadd hX dL_law_1285 ?_
  refine xJ_scr hX hS hN dL_law_1286 (by omega) (by omega) ?_
  refine xJ_aload_n hX dL_law_1287 rfl ?_
  refine xJ_iload hX dL_law_1288 rfl ?_
  refine xJ_iconst hX dL_law_1290 ?_
  refine xJ_iadd hX dL_law_1291 ?_
  refine xJ_scr hX hS hN dL_law_1292 (by omega) (by omega) ?_
  refine xJ_aload_n hX dL_law_1293 rfl ?_
  refine xJ_callSW (As := [_, _, _, _, _]) hX hB dL_law_1294 lkw_L_grant sm_L_grant (c_L_grant hg.1 hg.2.1 hg.2.2.2.1 hg.2.2.2.2 hM (xR_32 _) (xR_32 _) (xR_32 _) hq) (by decide) rfl rfl rfl (Nat.le_of_ble_eq_true rfl) (by omega) (by omega) (fun v t1 M1 hv => ?_)
  obtain ⟨k, rfl, hk, hM1, hw1, hq⟩ := hv
  have hg1 := xLG_qw hw1 hg
  dsimp only [Option.toList, List.cons_append, List.nil_append]
  refine xJ_istore hX dL_law_1297 (Nat.le_of_ble_eq_true rfl) rfl ?_
  dsimp only [List.set]
  refine xJ_aload_n hX dL_law_1299 rfl ?_
  refine xJ_aload_n hX dL_law_1300 rfl ?_
  refine xJ_iload hX dL_law_1301 rfl ?_
  refine xJ_iconst hX dL_law_1303 ?_
  refine xJ_iadd hX dL_law_1304 ?_
  refine xJ_scr hX hS hN dL_law_1305 (by omega) (by omega) ?_
  refine xJ_aload_n hX dL_law_1306 rfl ?_
  refine xJ_iload hX dL_law_1307 rfl ?_
  refine xJ_iconst hX dL_law_1309 ?_
  refine xJ_iadd hX dL_law_1310 ?_
  refine xJ_scr hX hS hN dL_law_1311 (by omega) (by omega) ?_
  refine xJ_aload_n hX dL_law_1312 rfl ?_
  refine xJ_iload hX dL_law_1313 rfl ?_
  refine xJ_iconst hX dL_law_1315 ?_
  refine xJ_iadd hX dL_law_1316 ?_
  refine xJ_scr hX hS hN dL_law_1317 (by omega) (by omega) ?_
  refine xJ_callV (As := [_, _, _]) hX hB dL_law_1318 lk_L_149 im_X12_grant se_X12_grant rfl (by decide) (oX12_k hg1.2.2.1) (c_X12_grant hg1.2.2.1 hM1 (xR_32 _) (xR_32 _) (xR_32 _) hq) (by decide) rfl rfl rfl (Nat.le_of_ble_eq_true rfl) (by omega) (by omega) (fun v t9 M2 hv => ?_) (fun _ _ _ q => q.elim)
  obtain ⟨b9, rfl, hb9, hM2, rfl, hq⟩ := hv
  dsimp only [Option.toList, List.cons_append, List.nil_append]
  refine xJ_istore hX dL_law_1321 (Nat.le_of_ble_eq_true rfl) rfl ?_
  dsimp only [List.set]
  refine xJ_aload_n hX dL_law_1323 rfl ?_
  refine xJ_callV (As := []) hX hB dL_law_1324 lk_L_92 im_X12_thrown se_X12_thrown rfl (by decide) (oX12_k hg1.2.2.1) (c_X12_thrown hg1.2.2.1 hM2  hq) (by decide) rfl rfl rfl (Nat.le_of_ble_eq_true rfl) (by omega) (by omega) (fun v t9 M3 hv => ?_) (fun _ _ _ q => q.elim)
  obtain ⟨h, rfl, hh, hM3, rfl, hq⟩ := hv
  dsimp only [Option.toList, List.cons_append, List.nil_append]
  refine xJ_iload hX dL_law_1327 rfl ?_
  obtain ⟨rfl, hq⟩ := hq
  refine xJ_icmp_eq hX dL_law_1329 (tgt := 1334) (by decide) hk hk (fun _ => ?_) (fun q => absurd rfl q)
  refine xJ_iload hX dL_law_1334 rfl ?_
  refine xJ_if_ne hX dL_law_1336 (tgt := 1351) (by decide) hk (fun _ => ?_) (fun hk0 => ?_)
  · refine xJ_goto hX dL_law_1351 (tgt := 1517) (by decide) ?_
    exact kk _ _ _ _ (hw1) hM3 hq.2 _ _ (by omega) (by omega)
  refine xJ_aload_n hX dL_law_1339 rfl ?_
  refine xJ_iconst hX dL_law_1340 ?_
  refine xJ_lald hX dL_law_1341 hg1.2.2.2.1 (by decide) (by rw [hg1.2.2.2.2]; decide) ?_
  refine xJ_iload hX dL_law_1342 rfl ?_
  refine xJ_i2l hX dL_law_1344 hb9 ?_
  refine xJ_lcmpE hX dL_law_1345 (hq.1 hk0) ?_
  refine xJ_if_eq hX dL_law_1346 (tgt := 1351) (by decide) xR_0 (fun _ => ?_) (fun q => absurd rfl q)
  refine xJ_goto hX dL_law_1351 (tgt := 1517) (by decide) ?_
  exact kk _ _ _ _ (hw1) hM3 hq.2 _ _ (by omega) (by omega)
set_option maxHeartbeats 4000000 in
theorem w_send {X : xCx} {G : xGx} {cells slots : Nat} {t : xTh} {M : xMe} {Po : Option Value → xTh → xMe → Prop} {Px : String → xTh → xMe → Prop} {b N x m o : Nat} {xs : Nat → Int32} {i : Int} {u5 u6 : Value} {K : Nat} {Q : xTh → xMe → Prop} (hX : xC X RL "law" cL_law 7 (some .boolean) 1312 G) (hB : xB X 601024 7293034 Po Px) (hS : xScr X b N xs) (hN : N ≤ 3072) (hg : xLG t x m o) (hM : xMR M) (h0 : 0 ≤ i) (h6 : i + 6 ≤ N) (hc : cells + 6 ≤ 601024) (hs : slots + 1027 ≤ 7293034)
    (hq : q_send K t x m o (xs (i + 1).toNat).toInt (xs (i + 2).toNat).toInt M Q) (kk : ∀ t' M' v5 v6, xqw t t' → xMR M' → Q t' M' → xJ X (cells + 6) (slots + 1027) t' M' 1517 [vr b, vr x, vr m, vr o, vi i, v5, v6] []) : xJ X cells slots t M 1354 [vr b, vr x, vr m, vr o, vi i, u5, u6] [] := by
  replace kk : ∀ t' M' v5 v6, xqw t t' → xMR M' → Q t' M' → ∀ c s, c ≤ cells + 6 → s ≤ slots + 1027 → xJ X c s t' M' 1517 [vr b, vr x, vr m, vr o, vi i, v5, v6] [] := fun t' M' v5 v6 a1 a2 a3 c s a4 a5 => xJ_widen a4 a5 (kk t' M' v5 v6 a1 a2 a3)
  unfold q_send at hq
  refine xJ_aload_n hX dL_law_1354 rfl ?_
  refine xJ_aload_n hX dL_law_1355 rfl ?_
  refine xJ_iload hX dL_law_1356 rfl ?_
  refine xJ_iconst hX dL_law_1358 ?_
  refine xJ_iadd hX dL_law_1359 ?_
  refine xJ_scr hX hS hN dL_law_1360 (by omega) (by omega) ?_
  refine xJ_aload_n hX dL_law_1361 rfl ?_
  refine xJ_iload hX dL_law_1362 rfl ?_
  refine xJ_iconst hX dL_law_1364 ?_
  refine xJ_iadd hX dL_law_1365 ?_
  refine xJ_scr hX hS hN dL_law_1366 (by omega) (by omega) ?_
  refine xJ_aload_n hX dL_law_1367 rfl ?_
  refine xJ_callSW (As := [_, _, _, _]) hX hB dL_law_1368 lkw_L_send sm_L_send (c_L_send hg.1 hg.2.1 hg.2.2.2.1 hg.2.2.2.2 hM (xR_32 _) (xR_32 _) hq) (by decide) rfl rfl rfl (Nat.le_of_ble_eq_true rfl) (by omega) (by omega) (fun v t1 M1 hv => ?_)
  obtain ⟨k, rfl, hk, hM1, hw1, hq⟩ := hv
  have hg1 := xLG_qw hw1 hg
  dsimp only [Option.toList, List.cons_append, List.nil_append]
  refine xJ_istore hX dL_law_1371 (Nat.le_of_ble_eq_true rfl) rfl ?_
  dsimp only [List.set]
  refine xJ_aload_n hX dL_law_1373 rfl ?_
  refine xJ_aload_n hX dL_law_1374 rfl ?_
  refine xJ_iload hX dL_law_1375 rfl ?_
  refine xJ_iconst hX dL_law_1377 ?_
  refine xJ_iadd hX dL_law_1378 ?_
  refine xJ_scr hX hS hN dL_law_1379 (by omega) (by omega) ?_
  refine xJ_aload_n hX dL_law_1380 rfl ?_
  refine xJ_iload hX dL_law_1381 rfl ?_
  refine xJ_iconst hX dL_law_1383 ?_
  refine xJ_iadd hX dL_law_1384 ?_
  refine xJ_scr hX hS hN dL_law_1385 (by omega) (by omega) ?_
  refine xJ_callV (As := [_, _]) hX hB dL_law_1386 lk_L_152 im_X12_send se_X12_send rfl (by decide) (oX12_k hg1.2.2.1) (c_X12_send hg1.2.2.1 hM1 (xR_32 _) (xR_32 _) hq) (by decide) rfl rfl rfl (Nat.le_of_ble_eq_true rfl) (by omega) (by omega) (fun v t9 M2 hv => ?_) (fun _ _ _ q => q.elim)
  obtain ⟨b9, rfl, hb9, hM2, rfl, hq⟩ := hv
  dsimp only [Option.toList, List.cons_append, List.nil_append]
  refine xJ_istore hX dL_law_1389 (Nat.le_of_ble_eq_true rfl) rfl ?_
  dsimp only [List.set]
  refine xJ_aload_n hX dL_law_1391 rfl ?_
  refine xJ_callV (As := []) hX hB dL_law_1392 lk_L_92 im_X12_thrown se_X12_thrown rfl (by decide) (oX12_k hg1.2.2.1) (c_X12_thrown hg1.2.2.1 hM2  hq) (by decide) rfl rfl rfl (Nat.le_of_ble_eq_true rfl) (by omega) (by omega) (fun v t9 M3 hv => ?_) (fun _ _ _ q => q.elim)
  obtain ⟨h, rfl, hh, hM3, rfl, hq⟩ := hv
  dsimp only [Option.toList, List.cons_append, List.nil_append]
  refine xJ_iload hX dL_law_1395 rfl ?_
  obtain ⟨rfl, hq⟩ := hq
  refine xJ_icmp_eq hX dL_law_1397 (tgt := 1402) (by decide) hk hk (fun _ => ?_) (fun q => absurd rfl q)
  refine xJ_iload hX dL_law_1402 rfl ?_
  refine xJ_if_ne hX dL_law_1404 (tgt := 1419) (by decide) hk (fun _ => ?_) (fun hk0 => ?_)
  · refine xJ_goto hX dL_law_1419 (tgt := 1517) (by decide) ?_
    exact kk _ _ _ _ (hw1) hM3 hq.2 _ _ (by omega) (by omega)
  refine xJ_aload_n hX dL_law_1407 rfl ?_
  refine xJ_iconst hX dL_law_1408 ?_
  refine xJ_lald hX dL_law_1409 hg1.2.2.2.1 (by decide) (by rw [hg1.2.2.2.2]; decide) ?_
  refine xJ_iload hX dL_law_1410 rfl ?_
  refine xJ_i2l hX dL_law_1412 hb9 ?_
  refine xJ_lcmpE hX dL_law_1413 (hq.1 hk0) ?_
  refine xJ_if_eq hX dL_law_1414 (tgt := 1419) (by decide) xR_0 (fun _ => ?_) (fun q => absurd rfl q)
  refine xJ_goto hX dL_law_1419 (tgt := 1517) (by decide) ?_
  exact kk _ _ _ _ (hw1) hM3 hq.2 _ _ (by omega) (by omega)
set_option maxHeartbeats 4000000 in
theorem w_setThrift {X : xCx} {G : xGx} {cells slots : Nat} {t : xTh} {M : xMe} {Po : Option Value → xTh → xMe → Prop} {Px : String → xTh → xMe → Prop} {b N x m o : Nat} {xs : Nat → Int32} {i : Int} {u5 u6 : Value} {K : Nat} {Q : xTh → xMe → Prop} (hX : xC X RL "law" cL_law 7 (some .boolean) 1312 G) (hB : xB X 601024 7293034 Po Px) (hS : xScr X b N xs) (hN : N ≤ 3072) (hg : xLG t x m o) (hM : xMR M) (h0 : 0 ≤ i) (h6 : i + 6 ≤ N) (hc : cells + 6 ≤ 601024) (hs : slots + 1027 ≤ 7293034)
    (hq : q_setThrift K t x m o (xs (i + 1).toNat).toInt (xs (i + 2).toNat).toInt M Q) (kk : ∀ t' M' v5 v6, xqw t t' → xMR M' → Q t' M' → xJ X (cells + 6) (slots + 1027) t' M' 1517 [vr b, vr x, vr m, vr o, vi i, v5, v6] []) : xJ X cells slots t M 1422 [vr b, vr x, vr m, vr o, vi i, u5, u6] [] := by
  replace kk : ∀ t' M' v5 v6, xqw t t' → xMR M' → Q t' M' → ∀ c s, c ≤ cells + 6 → s ≤ slots + 1027 → xJ X c s t' M' 1517 [vr b, vr x, vr m, vr o, vi i, v5, v6] [] := fun t' M' v5 v6 a1 a2 a3 c s a4 a5 => xJ_widen a4 a5 (kk t' M' v5 v6 a1 a2 a3)
  unfold q_setThrift at hq
  refine xJ_aload_n hX dL_law_1422 rfl ?_
  refine xJ_aload_n hX dL_law_1423 rfl ?_
  refine xJ_iload hX dL_law_1424 rfl ?_
  refine xJ_iconst hX dL_law_1426 ?_
  refine xJ_iadd hX dL_law_1427 ?_
  refine xJ_scr hX hS hN dL_law_1428 (by omega) (by omega) ?_
  refine xJ_aload_n hX dL_law_1429 rfl ?_
  refine xJ_iload hX dL_law_1430 rfl ?_
  refine xJ_iconst hX dL_law_1432 ?_
  refine xJ_iadd hX dL_law_1433 ?_
  refine xJ_scr hX hS hN dL_law_1434 (by omega) (by omega) ?_
  refine xJ_aload_n hX dL_law_1435 rfl ?_
  refine xJ_callSW (As := [_, _, _, _]) hX hB dL_law_1436 lkw_L_setThrift sm_L_setThrift (c_L_setThrift hg.1 hg.2.1 hg.2.2.2.1 hg.2.2.2.2 hM (xR_32 _) (xR_32 _) hq) (by decide) rfl rfl rfl (Nat.le_of_ble_eq_true rfl) (by omega) (by omega) (fun v t1 M1 hv => ?_)
  obtain ⟨k, rfl, hk, hM1, hw1, hq⟩ := hv
  have hg1 := xLG_qw hw1 hg
  dsimp only [Option.toList, List.cons_append, List.nil_append]
  refine xJ_istore hX dL_law_1439 (Nat.le_of_ble_eq_true rfl) rfl ?_
  dsimp only [List.set]
  refine xJ_aload_n hX dL_law_1441 rfl ?_
  refine xJ_aload_n hX dL_law_1442 rfl ?_
  refine xJ_iload hX dL_law_1443 rfl ?_
  refine xJ_iconst hX dL_law_1445 ?_
  refine xJ_iadd hX dL_law_1446 ?_
  refine xJ_scr hX hS hN dL_law_1447 (by omega) (by omega) ?_
  refine xJ_aload_n hX dL_law_1448 rfl ?_
  refine xJ_iload hX dL_law_1449 rfl ?_
  refine xJ_iconst hX dL_law_1451 ?_
  refine xJ_iadd hX dL_law_1452 ?_
  refine xJ_scr hX hS hN dL_law_1453 (by omega) (by omega) ?_
  refine xJ_callV (As := [_, _]) hX hB dL_law_1454 lk_L_155 im_X12_setThrift se_X12_setThrift rfl (by decide) (oX12_k hg1.2.2.1) (c_X12_setThrift hg1.2.2.1 hM1 (xR_32 _) (xR_32 _) hq) (by decide) rfl rfl rfl (Nat.le_of_ble_eq_true rfl) (by omega) (by omega) (fun v t9 M2 hv => ?_) (fun _ _ _ q => q.elim)
  obtain ⟨b9, rfl, hb9, hM2, rfl, hq⟩ := hv
  dsimp only [Option.toList, List.cons_append, List.nil_append]
  refine xJ_istore hX dL_law_1457 (Nat.le_of_ble_eq_true rfl) rfl ?_
  dsimp only [List.set]
  refine xJ_aload_n hX dL_law_1459 rfl ?_
  refine xJ_callV (As := []) hX hB dL_law_1460 lk_L_92 im_X12_thrown se_X12_thrown rfl (by decide) (oX12_k hg1.2.2.1) (c_X12_thrown hg1.2.2.1 hM2  hq) (by decide) rfl rfl rfl (Nat.le_of_ble_eq_true rfl) (by omega) (by omega) (fun v t9 M3 hv => ?_) (fun _ _ _ q => q.elim)
  obtain ⟨h, rfl, hh, hM3, rfl, hq⟩ := hv
  dsimp only [Option.toList, List.cons_append, List.nil_append]
  refine xJ_iload hX dL_law_1463 rfl ?_
  obtain ⟨rfl, hq⟩ := hq
  refine xJ_icmp_eq hX dL_law_1465 (tgt := 1470) (by decide) hk hk (fun _ => ?_) (fun q => absurd rfl q)
  refine xJ_iload hX dL_law_1470 rfl ?_
  refine xJ_if_ne hX dL_law_1472 (tgt := 1487) (by decide) hk (fun _ => ?_) (fun hk0 => ?_)
  · refine xJ_goto hX dL_law_1487 (tgt := 1517) (by decide) ?_
    exact kk _ _ _ _ (hw1) hM3 hq.2 _ _ (by omega) (by omega)
  refine xJ_aload_n hX dL_law_1475 rfl ?_
  refine xJ_iconst hX dL_law_1476 ?_
  refine xJ_lald hX dL_law_1477 hg1.2.2.2.1 (by decide) (by rw [hg1.2.2.2.2]; decide) ?_
  refine xJ_iload hX dL_law_1478 rfl ?_
  refine xJ_i2l hX dL_law_1480 hb9 ?_
  refine xJ_lcmpE hX dL_law_1481 (hq.1 hk0) ?_
  refine xJ_if_eq hX dL_law_1482 (tgt := 1487) (by decide) xR_0 (fun _ => ?_) (fun q => absurd rfl q)
  refine xJ_goto hX dL_law_1487 (tgt := 1517) (by decide) ?_
  exact kk _ _ _ _ (hw1) hM3 hq.2 _ _ (by omega) (by omega)
set_option maxHeartbeats 4000000 in
theorem w_undo {X : xCx} {G : xGx} {cells slots : Nat} {t : xTh} {M : xMe} {Po : Option Value → xTh → xMe → Prop} {Px : String → xTh → xMe → Prop} {b N x m o : Nat} {xs : Nat → Int32} {i : Int} {u5 u6 : Value} {K : Nat} {Q : xTh → xMe → Prop} (hX : xC X RL "law" cL_law 7 (some .boolean) 1312 G) (hB : xB X 601024 7293034 Po Px) (hS : xScr X b N xs) (hN : N ≤ 3072) (hg : xLG t x m o) (hM : xMR M) (h0 : 0 ≤ i) (h6 : i + 6 ≤ N) (hc : cells + 6 ≤ 601024) (hs : slots + 1027 ≤ 7293034)
    (hq : q_undo K t x m o  M Q) (kk : ∀ t' M' v5 v6, xqw t t' → xMR M' → Q t' M' → xJ X (cells + 6) (slots + 1027) t' M' 1517 [vr b, vr x, vr m, vr o, vi i, v5, v6] []) : xJ X cells slots t M 1490 [vr b, vr x, vr m, vr o, vi i, u5, u6] [] := by
  replace kk : ∀ t' M' v5 v6, xqw t t' → xMR M' → Q t' M' → ∀ c s, c ≤ cells + 6 → s ≤ slots + 1027 → xJ X c s t' M' 1517 [vr b, vr x, vr m, vr o, vi i, v5, v6] [] := fun t' M' v5 v6 a1 a2 a3 c s a4 a5 => xJ_widen a4 a5 (kk t' M' v5 v6 a1 a2 a3)
  unfold q_undo at hq
  refine xJ_aload_n hX dL_law_1490 rfl ?_
  refine xJ_callV (As := []) hX hB dL_law_1491 lk_L_156 im_X11_undo se_X11_undo rfl (by decide) (oX11_k hg.1) (c_X11_undo hg.1 hg.2.1 hM  hq) (by decide) rfl rfl rfl (Nat.le_of_ble_eq_true rfl) (by omega) (by omega) (fun v t1 M1 hv => ?_) (fun _ _ _ q => q.elim)
  obtain ⟨k, rfl, hk, hM1, hs1, -, hq⟩ := hv
  dsimp only [Option.toList, List.cons_append, List.nil_append]
  refine xJ_aload_n hX dL_law_1494 rfl ?_
  refine xJ_callV (As := []) hX hB dL_law_1495 lk_L_159 im_X12_undo se_X12_undo rfl (by decide) (oX12_k (xLG_qs hs1 hg).2.2.1) (c_X12_undo (xLG_qs hs1 hg).2.2.1 hM1  hq) (by decide) rfl rfl rfl (Nat.le_of_ble_eq_true rfl) (by omega) (by omega) (fun v t9 M2 hv => ?_) (fun _ _ _ q => q.elim)
  obtain ⟨b9, rfl, hb9, hM2, rfl, hq⟩ := hv
  dsimp only [Option.toList, List.cons_append, List.nil_append]
  obtain ⟨rfl, hq⟩ := hq
  refine xJ_icmp_eq hX dL_law_1498 (tgt := 1517) (by decide) hk hk (fun _ => ?_) (fun q => absurd rfl q)
  exact kk _ _ _ _ (xqw_s hs1) hM2 hq _ _ (by omega) (by omega)
set_option maxHeartbeats 4000000 in
theorem w_checksum {X : xCx} {G : xGx} {cells slots : Nat} {t : xTh} {M : xMe} {Po : Option Value → xTh → xMe → Prop} {Px : String → xTh → xMe → Prop} {b N x m o : Nat} {xs : Nat → Int32} {i : Int} {u5 u6 : Value} {F : Nat} {K : Nat} {Q : xTh → xMe → Prop} (hX : xC X RL "law" cL_law 7 (some .boolean) 1312 G) (hB : xB X 601024 7293034 Po Px) (hS : xScr X b N xs) (hN : N ≤ 3072) (hg : xLG t x m o) (hM : xMR M) (h0 : 0 ≤ i) (h6 : i + 6 ≤ N) (hc : cells + 6 ≤ 601024) (hs : slots + 1027 ≤ 7293034)
    (hq : q_checksum F K t x m o  M Q) (kk : ∀ t' M' v5 v6, xqw t t' → xMR M' → Q t' M' → xJ X (cells + 6) (slots + 1027) t' M' 1517 [vr b, vr x, vr m, vr o, vi i, v5, v6] []) : xJ X cells slots t M 1503 [vr b, vr x, vr m, vr o, vi i, u5, u6] [] := by
  replace kk : ∀ t' M' v5 v6, xqw t t' → xMR M' → Q t' M' → ∀ c s, c ≤ cells + 6 → s ≤ slots + 1027 → xJ X c s t' M' 1517 [vr b, vr x, vr m, vr o, vi i, v5, v6] [] := fun t' M' v5 v6 a1 a2 a3 c s a4 a5 => xJ_widen a4 a5 (kk t' M' v5 v6 a1 a2 a3)
  unfold q_checksum at hq
  refine xJ_aload_n hX dL_law_1503 rfl ?_
  refine xJ_callV (As := []) hX hB dL_law_1504 lk_L_160 im_X11_checksum se_X11_checksum rfl (by decide) (oX11_k hg.1) (c_X11_checksum hg.1 hM  hq) (by decide) rfl rfl rfl (Nat.le_of_ble_eq_true rfl) (by omega) (by omega) (fun v t1 M1 hv => ?_) (fun _ _ _ q => q.elim)
  obtain ⟨k, rfl, hM1, rfl, hq⟩ := hv
  dsimp only [Option.toList, List.cons_append, List.nil_append]
  refine xJ_aload_n hX dL_law_1507 rfl ?_
  refine xJ_callV (As := []) hX hB dL_law_1508 lk_L_164 im_X12_checksum se_X12_checksum rfl (by decide) (oX12_k hg.2.2.1) (c_X12_checksum hg.2.2.1 hM1  hq) (by decide) rfl rfl rfl (Nat.le_of_ble_eq_true rfl) (by omega) (by omega) (fun v t9 M2 hv => ?_) (fun _ _ _ q => q.elim)
  obtain ⟨b9, rfl, hM2, rfl, hq⟩ := hv
  dsimp only [Option.toList, List.cons_append, List.nil_append]
  obtain ⟨rfl, hq⟩ := hq
  refine xJ_lcmpE hX dL_law_1511 rfl ?_
  refine xJ_if_eq hX dL_law_1512 (tgt := 1517) (by decide) xR_0 (fun _ => ?_) (fun q => absurd rfl q)
  exact kk _ _ _ _ (xqw_s (xqs_refl _)) hM2 hq _ _ (by omega) (by omega)
