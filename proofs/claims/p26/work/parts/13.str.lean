theorem fs_value : Cond.fieldLink RJ0 9 "java/lang/String" "value" "[B" ∈ xT := List.mem_filter.mpr ⟨List.mem_append_right _ (List.mem_of_getElem? (i := 1451) (by decide +kernel)), by decide +kernel⟩
theorem fs_coder : Cond.fieldLink RJ0 15 "java/lang/String" "coder" "B" ∈ xT := List.mem_filter.mpr ⟨List.mem_append_right _ (List.mem_of_getElem? (i := 1452) (by decide +kernel)), by decide +kernel⟩
theorem fs_compact : Cond.fieldLink RJ0 38 "java/lang/String" "COMPACT_STRINGS" "Z" ∈ xT := List.mem_filter.mpr ⟨List.mem_append_right _ (List.mem_of_getElem? (i := 752) (by decide +kernel)), by decide +kernel⟩
theorem fs_sioobe : Cond.fieldLink RJ0 1053 "jdk/internal/util/Preconditions" "SIOOBE_FORMATTER" "Ljava/util/function/BiFunction;" ∈ xT := List.mem_filter.mpr ⟨List.mem_append_right _ (List.mem_of_getElem? (i := 768) (by decide +kernel)), by decide +kernel⟩
/-! LITERALS: String.length and String.charAt of the texts of xTx; their bytes lie where nothing is changed -/
theorem xSw {G : xGx} {s : State} {H : Heap} {locs : List Loc} (h1 : va_S (xA G) G.2.2.1 s.heap []) (a1 : s.heap.size ≤ H.size) (h2 : va_S (xA G) G.2.2.1 H locs) : va_S (xA G) s.heap H locs := ⟨a1, fun a _ ha => xold h1 h2 a ha, h2.2.2⟩
theorem xSb {s9 j : Nat} (hs : s9 < 31) (hj : (j : Int) < xSl s9) : 32 ≤ xSc s9 j ∧ xSc s9 j < 127 := by
  have h1 := List.all_eq_true.mp (xS_all ⟨s9, hs⟩).2
  have hl : xLe.getD s9 0 = (xBy.getD s9 []).length := by
    unfold xLe
    rw [List.getD_eq_getElem?_getD, List.getD_eq_getElem?_getD, List.getElem?_map]
    cases xBy[s9]? <;> rfl
  have h2 : j < (xBy.getD s9 []).length := by
    rw [← hl]
    exact Int.ofNat_lt.mp hj
  have h3 := h1 ((xBy.getD s9 []).getD j 0) (by rw [List.getD_eq_getElem?_getD (l := xBy.getD s9 []), List.getElem?_eq_getElem h2]; exact List.getElem_mem h2)
  exact of_decide_eq_true h3
theorem xI_chr : ∀ i : Fin 127, ((Int32.ofInt ((i : Nat) : Int)).toUInt32.toUInt16.toUInt32.toInt32 = Int32.ofInt ((i : Nat) : Int)) := by decide +kernel
theorem xI_ch {x : Int} (h0 : 32 ≤ x) (h1 : x < 127) : (Int32.ofInt x).toUInt32.toUInt16.toUInt32.toInt32 = Int32.ofInt x := by
  obtain ⟨k, rfl⟩ := Int.eq_ofNat_of_zero_le (show 0 ≤ x by omega)
  exact xI_chr ⟨k, by omega⟩
section XSTR
variable {X : xCx} {own nm : String} {cc : ByteArray} {n d : Nat} {r : Option FieldType} {G : xGx} {cells slots mc ms : Nat} {t : xTh} {M : xMe} {pc : Nat} {L st : List Value} {Po : Option Value → xTh → xMe → Prop} {Px : String → xTh → xMe → Prop} {s9 : Nat}
theorem xJ_i2c {x : Int} (h : xC X own nm cc n r d G) (dd : decode cc pc = .ok (.i2c, 1)) (h0 : 32 ≤ x) (h1 : x < 127) (k : xJ X cells slots t M (pc + 1) L (vi x :: st)) : xJ X cells slots t M pc L (vi x :: st) := by
  obtain ⟨p, l, e, R, s, m, args, below, meth, c, G9, Po9, Px9, mc9, ms9⟩ := X
  obtain ⟨hx, hb, hml, hown, hts, hr, hlk, hKn, hSs, hnm, rfl, rfl, hst⟩ := h
  intro H locs ls a1 a2 a3 T hT Y
  obtain ⟨u, a, b⟩ := k H locs ls a1 a2 a3 T hT Y
  refine ⟨u, ?_, b⟩
  unfold vi at a ⊢
  rw [← xI_ch h0 h1] at a
  rw [← xI_ch h0 h1, xI_ch h0 h1]
  jvm_step Y.here [Y.here.top, hx, hb, dd]
  exact a
theorem xJ_gcomp (h : xC X own nm cc n r d G) (ho : own = RJ0) (dd : decode cc pc = .ok (.getstatic 38, 3)) (k : xJ X cells slots t M (pc + 3) L (vi 1 :: st)) : xJ X cells slots t M pc L st := by
  subst ho
  obtain ⟨p, l, e, R, s, m, args, below, meth, c, G9, Po9, Px9, mc9, ms9⟩ := X
  obtain ⟨hx, hb, hml, hown, hts, hr, hlk, hKn, hSs, hnm, rfl, rfl, hst⟩ := h
  intro H locs ls a1 a2 a3
  exact va_gets hx hb hKn.2.2.2.2.2.2.2.2.1.1 (xSw hSs a1 a2.1) hown (hts _ fs_compact) (fun _ h => h) dd (k H locs ls a1 a2 a3)
theorem xJ_gsio (h : xC X own nm cc n r d G) (ho : own = RJ0) (dd : decode cc pc = .ok (.getstatic 1053, 3)) (k : ∀ v, v = .null ∨ (∃ a, v = vr a) → xJ X cells slots t M (pc + 3) L (v :: st)) : xJ X cells slots t M pc L st := by
  subst ho
  obtain ⟨p, l, e, R, s, m, args, below, meth, c, G9, Po9, Px9, mc9, ms9⟩ := X
  obtain ⟨hx, hb, hml, hown, hts, hr, hlk, hKn, hSs, hnm, rfl, rfl, hst⟩ := h
  intro H locs ls a1 a2 a3
  rcases hKn.2.2.2.2.2.2.2.2.1.2.1 with z | ⟨q, z⟩
  · exact va_gets hx hb z (xSw hSs a1 a2.1) hown (hts _ fs_sioobe) (fun _ h => h) dd (k _ (Or.inl rfl) H locs ls a1 a2 a3)
  · exact va_gets hx hb z (xSw hSs a1 a2.1) hown (hts _ fs_sioobe) (fun _ h => h) dd (k _ (Or.inr ⟨q, rfl⟩) H locs ls a1 a2 a3)
theorem xJ_sfC (h : xC X own nm cc n r d G) (ho : own = RJ0) (hs : s9 < 31) (dd : decode cc pc = .ok (.getfield 15, 3)) (k : xJ X cells slots t M (pc + 3) L (vi 0 :: st)) : xJ X cells slots t M pc L (vr (G.2.2.2.1 s9) :: st) := by
  subst ho
  obtain ⟨p, l, e, R, s, m, args, below, meth, c, G9, Po9, Px9, mc9, ms9⟩ := X
  obtain ⟨hx, hb, hml, hown, hts, hr, hlk, hKn, hSs, hnm, rfl, rfl, hst⟩ := h
  intro H locs ls a1 a2 a3
  exact vk_getf hx hb (hKn.2.2.2.2.2.2.2.2.2.1.1 s9 hs).2.1 (xSw hSs a1 a2.1) hown (hts _ fs_coder) (fun _ h => h) dd (k H locs ls a1 a2 a3)
theorem xJ_sfV (h : xC X own nm cc n r d G) (ho : own = RJ0) (hs : s9 < 31) (dd : decode cc pc = .ok (.getfield 9, 3)) (k : xJ X cells slots t M (pc + 3) L (vr (G.2.2.2.2 s9) :: st)) : xJ X cells slots t M pc L (vr (G.2.2.2.1 s9) :: st) := by
  subst ho
  obtain ⟨p, l, e, R, s, m, args, below, meth, c, G9, Po9, Px9, mc9, ms9⟩ := X
  obtain ⟨hx, hb, hml, hown, hts, hr, hlk, hKn, hSs, hnm, rfl, rfl, hst⟩ := h
  intro H locs ls a1 a2 a3
  exact vk_getf hx hb (hKn.2.2.2.2.2.2.2.2.2.1.1 s9 hs).2.2.1 (xSw hSs a1 a2.1) hown (hts _ fs_value) (fun _ h => h) dd (k H locs ls a1 a2 a3)
theorem xJ_slen (h : xC X own nm cc n r d G) (hs : s9 < 31) (dd : decode cc pc = .ok (.arraylength, 1)) (k : xJ X cells slots t M (pc + 1) L (vi (xSl s9) :: st)) : xJ X cells slots t M pc L (vr (G.2.2.2.2 s9) :: st) := by
  obtain ⟨p, l, e, R, s, m, args, below, meth, c, G9, Po9, Px9, mc9, ms9⟩ := X
  obtain ⟨hx, hb, hml, hown, hts, hr, hlk, hKn, hSs, hnm, rfl, rfl, hst⟩ := h
  intro H locs ls a1 a2 a3
  exact va_tlen hx hb (hKn.2.2.2.2.2.2.2.2.2.1.1 s9 hs).2.2.2 (xSw hSs a1 a2.1) (v := Int32.ofInt (xSl s9)) (Int32.ofInt_eq_ofNat).symm dd (k H locs ls a1 a2 a3)
theorem xJ_sbal {j : Int} (h : xC X own nm cc n r d G) (hs : s9 < 31) (dd : decode cc pc = .ok (.baload, 1)) (h0 : 0 ≤ j) (h1 : j < xSl s9) (k : xJ X cells slots t M (pc + 1) L (vi (xSc s9 j.toNat) :: st)) : xJ X cells slots t M pc L (vi j :: vr (G.2.2.2.2 s9) :: st) := by
  obtain ⟨p, l, e, R, s, m, args, below, meth, c, G9, Po9, Px9, mc9, ms9⟩ := X
  obtain ⟨hx, hb, hml, hown, hts, hr, hlk, hKn, hSs, hnm, rfl, rfl, hst⟩ := h
  intro H locs ls a1 a2 a3
  have hj := (xSl_R s9).2
  obtain ⟨e1, e2⟩ := xI_ti (j := j) h0 (by omega)
  refine va_tb hx hb (hKn.2.2.2.2.2.2.2.2.2.1.1 s9 hs).2.2.2 (xSw hSs a1 a2.1) (v := vi (xSc s9 j.toNat)) ?_ ?_ dd (k H locs ls a1 a2 a3)
  · rintro (q | q)
    · exact e2 q
    · rw [e1] at q
      unfold xSl at h1
      omega
  · show Value.int _ = _
    rw [e1]
    unfold vi xSc
    rw [Int32.ofInt_toInt]
theorem xJ_callL {idx : Nat} {y : MethodName} {cc' : ByteArray} {n' : Nat} {r' : Option FieldType} {d' k9 : Nat} {As stk : List Value} {Po' : Option Value → xTh → xMe → Prop} (h : xC X own nm cc n r d G) (hB : xB X mc ms Po Px) (dd : decode cc pc = .ok (.invokevirtual idx, 3)) (hl : xLk own idx y cc' n' r' k9) (hi : Cond.instanceMethod y ∈ xT) (hse : Cond.selects y.cls y y ∈ xT) (hcl : y.cls = "java/lang/String") (hs9 : s9 < 31)
    (hM : xCt G y cc' n' r' d' 0 0 (vr (G.2.2.2.1 s9) :: As) t M Po' (fun _ _ _ => False)) (hd : d' < d) (hLn : L.length = n) (hk9 : As.length = k9) (hsk : stk = As.reverse ++ vr (G.2.2.2.1 s9) :: st) (hst8 : (st.map fun v => v.category).sum ≤ 8) (hc : cells ≤ mc) (hs : slots ≤ ms)
    (kk : ∀ v t' M', Po' v t' M' → xJ X cells slots t' M' (pc + 3) L (v.toList ++ st)) : xJ X cells slots t M pc L stk := by
  obtain ⟨p, l, e, R, s, m, args, below, meth, c, G9, Po9, Px9, mc9, ms9⟩ := X
  obtain ⟨hx, hb, hml, hown, hts, hr, hlk, hKn, hSs, hnm, rfl, rfl, hst⟩ := h
  obtain ⟨rfl, rfl, rfl, rfl, hnil⟩ := hB
  intro H locs ls a1 a2 a3
  exact xJ_back hlk hnil a3 a2.1.2.2 (vx_runV (C := y.cls) (As := As) (rest := st) (b := G9.2.2.2.1 s9) ⟨hx, hb, hml, hown, hts⟩ (hM l hst) ⟨xCB hts hl hd, hts _ hi, hts _ hse⟩
    ⟨xPc_blind, by rw [hcl]; exact vk_recv hKn.2.2.2.2.2.2.2.2.2.1 hs9 (xSw hSs a1 a2.1), fun U hU hW => ⟨rfl, by rw [hU]; exact xRp_nil a2, xKn_go hW (fun a ha hn => by rw [hU]; exact xold hSs a2.1 a hn) hKn⟩⟩ rfl hk9 (a3.1.trans hLn) hsk (lv_room hst8) dd ⟨hc, hs⟩) hc hs kk (fun _ _ _ q => q.elim)
end XSTR
section XSTC
variable {G : xGx} {t : xTh} {M : xMe} {s9 : Nat}
theorem c_J0_coder (hs : s9 < 31) : xCt G yJ0_coder_7d493 cJ0_coder_7d493 1 (some .byte) 0 0 0 [vr (G.2.2.2.1 s9)] t M (fun v t' M' => v = some (vi 0) ∧ t' = t ∧ M' = M) (fun _ _ _ => False) := by
  refine xCt_of (L0 := [vr (G.2.2.2.1 s9)]) (by decide +kernel) (Nat.le_of_ble_eq_true rfl) rfl ?_
  intro X hX hB
  refine xJ_gcomp hX rfl dJ0_coder_7d493_0 ?_
  refine xJ_if_eq hX dJ0_coder_7d493_3 (tgt := 13) (by decide) ⟨by decide, by decide⟩ (fun q => absurd q (by decide)) (fun _ => ?_)
  refine xJ_aload_n hX dJ0_coder_7d493_6 rfl ?_
  refine xJ_sfC hX rfl hs dJ0_coder_7d493_7 ?_
  refine xJ_goto hX dJ0_coder_7d493_10 (tgt := 14) (by decide) ?_
  exact xJ_zret hX hB dJ0_coder_7d493_14 rfl (Nat.le_refl _) (Nat.le_refl _) ⟨rfl, rfl, rfl⟩
theorem c_J0_isLatin1 (hs : s9 < 31) : xCt G yJ0_isLatin1_aae02 cJ0_isLatin1_aae02 1 (some .boolean) 0 0 0 [vr (G.2.2.2.1 s9)] t M (fun v t' M' => v = some (vi 1) ∧ t' = t ∧ M' = M) (fun _ _ _ => False) := by
  refine xCt_of (L0 := [vr (G.2.2.2.1 s9)]) (by decide +kernel) (Nat.le_of_ble_eq_true rfl) rfl ?_
  intro X hX hB
  refine xJ_gcomp hX rfl dJ0_isLatin1_aae02_0 ?_
  refine xJ_if_eq hX dJ0_isLatin1_aae02_3 (tgt := 17) (by decide) ⟨by decide, by decide⟩ (fun q => absurd q (by decide)) (fun _ => ?_)
  refine xJ_aload_n hX dJ0_isLatin1_aae02_6 rfl ?_
  refine xJ_sfC hX rfl hs dJ0_isLatin1_aae02_7 ?_
  refine xJ_if_ne hX dJ0_isLatin1_aae02_10 (tgt := 17) (by decide) ⟨by decide, by decide⟩ (fun q => absurd rfl q) (fun _ => ?_)
  refine xJ_iconst hX dJ0_isLatin1_aae02_13 ?_
  refine xJ_goto hX dJ0_isLatin1_aae02_14 (tgt := 18) (by decide) ?_
  exact xJ_zret hX hB dJ0_isLatin1_aae02_18 rfl (Nat.le_refl _) (Nat.le_refl _) ⟨rfl, rfl, rfl⟩
theorem c_J0_length (hs : s9 < 31) : xCt G yJ0_length_8abf5 cJ0_length_8abf5 1 (some .int) 1 0 0 [vr (G.2.2.2.1 s9)] t M (fun v t' M' => v = some (vi (xSl s9)) ∧ t' = t ∧ M' = M) (fun _ _ _ => False) := by
  refine xCt_of (L0 := [vr (G.2.2.2.1 s9)]) (by decide +kernel) (Nat.le_of_ble_eq_true rfl) rfl ?_
  intro X hX hB
  refine xJ_aload_n hX dJ0_length_8abf5_0 rfl ?_
  refine xJ_sfV hX rfl hs dJ0_length_8abf5_1 ?_
  refine xJ_slen hX hs dJ0_length_8abf5_4 ?_
  refine xJ_aload_n hX dJ0_length_8abf5_5 rfl ?_
  refine xJ_callL (As := []) hX hB dJ0_length_8abf5_6 lk_J0_335 im_J0_coder_7d493 se_J0_coder_7d493 rfl hs (c_J0_coder hs) (by decide) rfl rfl rfl (Nat.le_of_ble_eq_true rfl) (Nat.le_refl _) (Nat.le_refl _) ?_
  rintro v t' M' ⟨rfl, rfl, rfl⟩
  refine xJ_ishrI hX dJ0_length_8abf5_9 (xSl_R s9) (by decide) (by decide) ?_
  refine xJ_iret hX hB dJ0_length_8abf5_10 (Nat.le_refl _) (Nat.le_refl _) ⟨?_, rfl, rfl⟩
  show some (vi (xSl s9 / 2 ^ 0)) = _
  rw [show (2 : Int) ^ 0 = 1 from rfl, Int.ediv_one]
theorem c_J3_checkIndex {i nn : Int} {v : Value} (hi : xR i) (hn : xR nn) (h0 : 0 ≤ i) (h1 : i < nn) (hv : v = .null ∨ ∃ a, v = vr a) : xCt G yJ3_checkIndex_8e157 cJ3_checkIndex_8e157 3 (some .int) 0 0 0 [vi i, vi nn, v] t M (fun v t' M' => v = some (vi i) ∧ t' = t ∧ M' = M) (fun _ _ _ => False) := by
  have hL : xsl [vi i, vi nn, v] ++ List.replicate (3 - (xsl [vi i, vi nn, v]).length) vU = [vi i, vi nn, v] := by rcases hv with rfl | ⟨a, rfl⟩ <;> rfl
  have hl : (lg_sl [vi i, vi nn, v]).length ≤ 3 := by rcases hv with rfl | ⟨a, rfl⟩ <;> exact Nat.le_of_ble_eq_true rfl
  refine xCt_of (by decide +kernel) hl hL ?_
  intro X hX hB
  refine xJ_iload_n hX dJ3_checkIndex_8e157_0 rfl ?_
  refine xJ_if_lt hX dJ3_checkIndex_8e157_1 (tgt := 9) (by decide) hi (fun q => absurd q (by omega)) (fun _ => ?_)
  refine xJ_iload_n hX dJ3_checkIndex_8e157_4 rfl ?_
  refine xJ_iload_n hX dJ3_checkIndex_8e157_5 rfl ?_
  refine xJ_icmp_lt hX dJ3_checkIndex_8e157_6 (tgt := 16) (by decide) hi hn (fun _ => ?_) (fun q => absurd q (by omega))
  refine xJ_iload_n hX dJ3_checkIndex_8e157_16 rfl ?_
  exact xJ_iret hX hB dJ3_checkIndex_8e157_17 (Nat.le_refl _) (Nat.le_refl _) ⟨rfl, rfl, rfl⟩
theorem c_J0_checkIndex {i nn : Int} (hi : xR i) (hn : xR nn) (h0 : 0 ≤ i) (h1 : i < nn) : xCt G yJ0_checkIndex_df160 cJ0_checkIndex_df160 2 none 1 0 0 [vi i, vi nn] t M (fun v t' M' => v = none ∧ t' = t ∧ M' = M) (fun _ _ _ => False) := by
  refine xCt_of (L0 := [vi i, vi nn]) (by decide +kernel) (Nat.le_of_ble_eq_true rfl) rfl ?_
  intro X hX hB
  refine xJ_iload_n hX dJ0_checkIndex_df160_0 rfl ?_
  refine xJ_iload_n hX dJ0_checkIndex_df160_1 rfl ?_
  refine xJ_gsio hX rfl dJ0_checkIndex_df160_2 (fun v hv => ?_)
  refine xJ_callS (As := [vi i, vi nn, v]) hX hB dJ0_checkIndex_df160_5 lk_J0_1059 sm_J3_checkIndex_8e157 (c_J3_checkIndex hi hn h0 h1 hv) (by decide) rfl rfl rfl (Nat.le_of_ble_eq_true rfl) (Nat.le_refl _) (Nat.le_refl _) ?_ (fun _ _ _ q => q.elim)
  rintro v t' M' ⟨rfl, rfl, rfl⟩
  refine xJ_pop hX dJ0_checkIndex_df160_8 rfl ?_
  exact xJ_vret hX hB dJ0_checkIndex_df160_9 (Nat.le_refl _) (Nat.le_refl _) ⟨rfl, rfl, rfl⟩
theorem c_J1_charAt {i : Int} (hs : s9 < 31) (hi : xR i) (h0 : 0 ≤ i) (h1 : i < xSl s9) : xCt G yJ1_charAt_3b067 cJ1_charAt_3b067 2 (some .char) 2 0 0 [vr (G.2.2.2.2 s9), vi i] t M (fun v t' M' => v = some (vi (xSc s9 i.toNat)) ∧ t' = t ∧ M' = M) (fun _ _ _ => False) := by
  have hb := xSb (j := i.toNat) hs (by omega)
  refine xCt_of (L0 := [vr (G.2.2.2.2 s9), vi i]) (by decide +kernel) (Nat.le_of_ble_eq_true rfl) rfl ?_
  intro X hX hB
  refine xJ_iload_n hX dJ1_charAt_3b067_0 rfl ?_
  refine xJ_aload_n hX dJ1_charAt_3b067_1 rfl ?_
  refine xJ_slen hX hs dJ1_charAt_3b067_2 ?_
  refine xJ_callS (As := [vi i, vi (xSl s9)]) hX hB dJ1_charAt_3b067_3 lk_J1_9 sm_J0_checkIndex_df160 (c_J0_checkIndex hi (xSl_R s9) h0 h1) (by decide) rfl rfl rfl (Nat.le_of_ble_eq_true rfl) (Nat.le_refl _) (Nat.le_refl _) ?_ (fun _ _ _ q => q.elim)
  rintro v t' M' ⟨rfl, rfl, rfl⟩
  refine xJ_aload_n hX dJ1_charAt_3b067_6 rfl ?_
  refine xJ_iload_n hX dJ1_charAt_3b067_7 rfl ?_
  refine xJ_sbal hX hs dJ1_charAt_3b067_8 h0 h1 ?_
  refine xJ_sipush hX dJ1_charAt_3b067_9 rfl ?_
  refine xJ_iand 8 hX dJ1_charAt_3b067_12 (by decide) (by decide) ?_
  rw [show xSc s9 i.toNat % 2 ^ 8 = xSc s9 i.toNat from Int.emod_eq_of_lt (by omega) (by omega)]
  refine xJ_i2c hX dJ1_charAt_3b067_13 hb.1 hb.2 ?_
  refine xJ_zret hX hB dJ1_charAt_3b067_14 ?_ (Nat.le_refl _) (Nat.le_refl _) ⟨rfl, rfl, rfl⟩
  show Value.int (Int32.ofInt _).toUInt32.toUInt16.toUInt32.toInt32 = _
  rw [xI_ch hb.1 hb.2]
  rfl
theorem c_J0_charAt {i : Int} (hs : s9 < 31) (hi : xR i) (h0 : 0 ≤ i) (h1 : i < xSl s9) : xCt G yJ0_charAt_5068e cJ0_charAt_5068e 2 (some .char) 3 0 0 [vr (G.2.2.2.1 s9), vi i] t M (fun v t' M' => v = some (vi (xSc s9 i.toNat)) ∧ t' = t ∧ M' = M) (fun _ _ _ => False) := by
  have hb := xSb (j := i.toNat) hs (by omega)
  refine xCt_of (L0 := [vr (G.2.2.2.1 s9), vi i]) (by decide +kernel) (Nat.le_of_ble_eq_true rfl) rfl ?_
  intro X hX hB
  refine xJ_aload_n hX dJ0_charAt_5068e_0 rfl ?_
  refine xJ_callL (As := []) hX hB dJ0_charAt_5068e_1 lk_J0_492 im_J0_isLatin1_aae02 se_J0_isLatin1_aae02 rfl hs (c_J0_isLatin1 hs) (by decide) rfl rfl rfl (Nat.le_of_ble_eq_true rfl) (Nat.le_refl _) (Nat.le_refl _) ?_
  rintro v t' M' ⟨rfl, rfl, rfl⟩
  refine xJ_if_eq hX dJ0_charAt_5068e_4 (tgt := 16) (by decide) ⟨by decide, by decide⟩ (fun q => absurd q (by decide)) (fun _ => ?_)
  refine xJ_aload_n hX dJ0_charAt_5068e_7 rfl ?_
  refine xJ_sfV hX rfl hs dJ0_charAt_5068e_8 ?_
  refine xJ_iload_n hX dJ0_charAt_5068e_11 rfl ?_
  refine xJ_callS (As := [vr (G.2.2.2.2 s9), vi i]) hX hB dJ0_charAt_5068e_12 lk_J0_495 sm_J1_charAt_3b067 (c_J1_charAt hs hi h0 h1) (by decide) rfl rfl rfl (Nat.le_of_ble_eq_true rfl) (Nat.le_refl _) (Nat.le_refl _) ?_ (fun _ _ _ q => q.elim)
  rintro v t' M' ⟨rfl, rfl, rfl⟩
  refine xJ_zret hX hB dJ0_charAt_5068e_15 ?_ (Nat.le_refl _) (Nat.le_refl _) ⟨rfl, rfl, rfl⟩
  show Value.int (Int32.ofInt _).toUInt32.toUInt16.toUInt32.toInt32 = _
  rw [xI_ch hb.1 hb.2]
  rfl
end XSTC
section XST
variable {X : xCx} {own nm : String} {cc : ByteArray} {n d : Nat} {r : Option FieldType} {G : xGx} {cells slots mc ms : Nat} {t : xTh} {M : xMe} {pc : Nat} {L st : List Value} {Po : Option Value → xTh → xMe → Prop} {Px : String → xTh → xMe → Prop}
theorem xJ_strlen {idx s : Nat} (h : xC X own nm cc n r d G) (hB : xB X mc ms Po Px) (dd : decode cc pc = .ok (.invokevirtual idx, 3)) (hl : xLk own idx yJ0_length_8abf5 cJ0_length_8abf5 1 (some .int) 0) (hLn : L.length = n) (hd : 8 ≤ d) (hst8 : (st.map fun v => v.category).sum ≤ 8) (hs : s < 31) (hc : cells ≤ mc) (hs' : slots ≤ ms) (k : xJ X cells slots t M (pc + 3) L (vi (xSl s) :: st)) : xJ X cells slots t M pc L (vr (G.2.2.2.1 s) :: st) := by
  refine xJ_callL (As := []) h hB dd hl im_J0_length_8abf5 se_J0_length_8abf5 rfl hs (c_J0_length hs) (by omega) hLn rfl rfl hst8 hc hs' ?_
  rintro v t' M' ⟨rfl, rfl, rfl⟩
  exact k
theorem xJ_charAt {idx s : Nat} {i : Int} (h : xC X own nm cc n r d G) (hB : xB X mc ms Po Px) (dd : decode cc pc = .ok (.invokevirtual idx, 3)) (hl : xLk own idx yJ0_charAt_5068e cJ0_charAt_5068e 2 (some .char) 1) (hLn : L.length = n) (hd : 8 ≤ d) (hst8 : (st.map fun v => v.category).sum ≤ 8) (hs : s < 31) (hc : cells ≤ mc) (hs' : slots ≤ ms) (hi : xR i) (h0 : 0 ≤ i) (h1 : i < xSl s) (k : xJ X cells slots t M (pc + 3) L (vi (xSc s i.toNat) :: st)) : xJ X cells slots t M pc L (vi i :: vr (G.2.2.2.1 s) :: st) := by
  refine xJ_callL (As := [vi i]) h hB dd hl im_J0_charAt_5068e se_J0_charAt_5068e rfl hs (c_J0_charAt hs hi h0 h1) (by omega) hLn rfl rfl hst8 hc hs' ?_
  rintro v t' M' ⟨rfl, rfl, rfl⟩
  exact k
end XST
