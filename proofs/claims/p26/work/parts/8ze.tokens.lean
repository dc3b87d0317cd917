/-! TOKENS OF A TEXT THAT IS KNOWN -/
/-- the text L stands at place p -/
def zAt (b : Nat → Int) (p : Nat) (L : List Int) : Prop := ∀ i v, L[i]? = some v → b (p + i) = v
/-- the first place from e on without a space -/
def zps (b : Nat → Int) (n e : Nat) : Nat := zru zsp b n e
def zst (b : Nat → Int) (n e : Nat) (A : yA) (u : Int × Int × Int) : zS := zmk 0 (-1) (zps b n e) A u
section ZTK
variable {b : Nat → Int} {n x e F : Nat} {B M M' : xMe} {A A' : yA} {u u' : Int × Int × Int} {Q : xMe → Prop} {R : Int → xMe → Prop} {L L' : List Int} {c v : Int}
theorem zAt_app (h : zAt b e (L ++ L')) : zAt b e L ∧ zAt b (e + L.length) L' := by
  refine ⟨fun i v hv => h i v (by rw [List.getElem?_append_left (List.getElem?_eq_some_iff.mp hv).1]; exact hv), fun i v hv => ?_⟩
  rw [show e + L.length + i = e + (L.length + i) by omega]
  refine h _ v ?_
  rw [List.getElem?_append_right (by omega), show L.length + i - L.length = i by omega]; exact hv
theorem zAt_cons (h : zAt b e (v :: L)) : b e = v ∧ zAt b (e + 1) L := ⟨h 0 v rfl, fun i w hw => by rw [show e + 1 + i = e + (i + 1) by omega]; exact h (i + 1) w hw⟩
theorem zps_sp (h : b e = 32) (hn : e < n) : zps b n e = zps b n (e + 1) := by
  unfold zps
  refine zru_eq (Nat.le_trans (Nat.le_succ e) zru_ge) (fun j j1 j2 => ?_) (fun q => zru_end q) (zru_le (by omega))
  by_cases q : j = e
  · subst q; exact ⟨hn, zsp_t.mpr h⟩
  · exact zru_in (show e + 1 ≤ j by omega) j2
theorem zps_no (h : b e ≠ 32) (hn : e ≤ n) : zps b n e = e := zru_eq (Nat.le_refl _) (fun j j1 j2 => absurd j1 (by omega)) (fun _ => zsp_f.mpr h) hn
theorem zps_end : zps b n n = n := zru_eq (Nat.le_refl _) (fun j j1 j2 => absurd j1 (by omega)) (fun q => absurd q (Nat.lt_irrefl _)) (Nat.le_refl _)
theorem zps_le (h : e ≤ n) : zps b n e ≤ n := zru_le h
/-- a sign -/
theorem tk_sign (hc : 0 ≤ c ∧ c < 48 ∨ 58 ≤ c ∧ c < 97) (h : b e = c) (hn : e < n) : zkd b n e = c ∧ znx b n e = zps b n (e + 1) := by
  unfold znx zps
  have k : zkd b n e = c := by unfold zkd; rw [if_neg (by omega), if_neg (by omega), if_neg (by omega)]; exact h
  exact ⟨k, by rw [(zkd_sg hc k).2]⟩
/-- digits -/
theorem tk_num (h : zAt b e (rNu v ++ c :: L)) (v0 : 0 ≤ v) (v1 : v < 10000) (hc : ¬ (48 ≤ c ∧ c ≤ 57)) (hn : e + (rNu v).length + 1 ≤ n) : zkd b n e = 257 ∧ znx b n e = zps b n (e + (rNu v).length) ∧ znu b n e = v := by
  obtain ⟨h1, h2⟩ := zAt_app h
  have hb := (zAt_cons h2).1
  have l1 := (rNu_len v).2
  have dg : ∀ j, e ≤ j → j < e + (rNu v).length → 48 ≤ b j ∧ b j ≤ 57 := fun j j1 j2 => by
    have hj : j - e < (rNu v).length := by omega
    have q := h1 (j - e) _ (List.getElem?_eq_getElem hj)
    rw [show e + (j - e) = j by omega] at q
    rw [q]
    have all : ∀ d ∈ rNu v, 48 ≤ d ∧ d ≤ 57 := fun d hd => by
      unfold rNu at hd
      split at hd
      · simp at hd; omega
      · split at hd
        · simp at hd; omega
        · split at hd <;> (simp at hd; omega)
    exact all _ (List.getElem_mem hj)
  have d0 := dg e (Nat.le_refl _) (by omega)
  have te : zte b n e = e + (rNu v).length := by
    unfold zte
    rw [if_neg (by omega), if_pos d0]
    exact zru_eq (by omega) (fun j j1 j2 => ⟨by omega, zdg_t.mpr (dg j j1 j2)⟩) (fun _ => zdg_f.mpr (by rw [hb]; exact hc)) (by omega)
  refine ⟨by unfold zkd; rw [if_neg (by omega), if_pos d0], by unfold znx zps; rw [te], ?_⟩
  unfold znu
  rw [te, show e + (rNu v).length - e = (rNu v).length by omega]
  have g : ∀ i w, (rNu v)[i]? = some w → b (e + i) = w := h1
  unfold rNu at g ⊢
  by_cases c1 : v < 10
  · rw [if_pos c1] at g ⊢
    have g0 := g 0 _ rfl
    show 10 * 0 + (b (e + 0) - 48) = v
    omega
  rw [if_neg c1] at g ⊢
  by_cases c2 : v < 100
  · rw [if_pos c2] at g ⊢
    have g0 := g 0 _ rfl
    have g1 := g 1 _ rfl
    show 10 * (10 * 0 + (b (e + 0) - 48)) + (b (e + 1) - 48) = v
    omega
  rw [if_neg c2] at g ⊢
  by_cases c3 : v < 1000
  · rw [if_pos c3] at g ⊢
    have g0 := g 0 _ rfl
    have g1 := g 1 _ rfl
    have g2 := g 2 _ rfl
    show 10 * (10 * (10 * 0 + (b (e + 0) - 48)) + (b (e + 1) - 48)) + (b (e + 2) - 48) = v
    omega
  rw [if_neg c3] at g ⊢
  have g0 := g 0 _ rfl
  have g1 := g 1 _ rfl
  have g2 := g 2 _ rfl
  have g3 := g 3 _ rfl
  show 10 * (10 * (10 * (10 * 0 + (b (e + 0) - 48)) + (b (e + 1) - 48)) + (b (e + 2) - 48)) + (b (e + 3) - 48) = v
  omega
theorem rLt_len (s : Nat) : ((rLt s).length : Int) = xSl s := by
  have : 0 ≤ xSl s := by unfold xSl; omega
  unfold rLt; rw [List.length_map, List.length_range]; omega
theorem rLt_get {s i : Nat} (h : (i : Int) < xSl s) : (rLt s)[i]? = some (xSc s i) := by
  unfold rLt
  rw [List.getElem?_map, List.getElem?_range (by omega)]; rfl
/-- a word -/
theorem tk_word {s : Nat} (hw : zWd s) (h : zAt b e (rLt s ++ c :: L)) (hc : ¬ (97 ≤ c ∧ c ≤ 122)) (hn : e + (rLt s).length + 1 ≤ n) : zIw b n s e ∧ znx b n e = zps b n (e + (rLt s).length) ∧ zkd b n e = 256 := by
  obtain ⟨h1, h2⟩ := zAt_app h
  have hb := (zAt_cons h2).1
  have ln := rLt_len s
  obtain ⟨w1, w2, w3, w4⟩ := hw
  have lt : ∀ j, e ≤ j → j < e + (rLt s).length → 97 ≤ b j ∧ b j ≤ 122 := fun j j1 j2 => by
    have q := h1 (j - e) _ (rLt_get (s := s) (i := j - e) (by omega))
    rw [show e + (j - e) = j by omega] at q
    rw [q]; exact w4 _ (by omega)
  have d0 := lt e (Nat.le_refl _) (by omega)
  have te : zte b n e = e + (rLt s).length := by
    unfold zte
    rw [if_neg (by omega), if_neg (by omega), if_pos d0]
    exact zru_eq (by omega) (fun j j1 j2 => ⟨by omega, zlt_t.mpr (lt j j1 j2)⟩) (fun _ => zlt_f.mpr (by rw [hb]; exact hc)) (by omega)
  have k : zkd b n e = 256 := by unfold zkd; rw [if_neg (by omega), if_neg (by omega), if_pos d0]
  exact ⟨⟨k, by rw [te]; omega, fun i hi => h1 i _ (rLt_get hi)⟩, by unfold znx zps; rw [te], k⟩
/-! the class's steps on it -/
/-- a number that stands behind a space -/
theorem n_num {lo hi : Int} (hn : n ≤ 700) (hF : 702 ≤ F) (h : zAt b e (32 :: rNu v ++ c :: L)) (v0 : 0 ≤ v) (v1 : v < 10000) (hc : ¬ (48 ≤ c ∧ c ≤ 57)) (he : e + 1 + (rNu v).length + 1 ≤ n) (hlo : lo ≤ 1) (hhi : hi ≤ 9999) (hv : lo ≤ v ∧ v ≤ hi) (hC : zC b n x B (zst b n e A u) M) (hq : ∀ M', zC b n x B (zst b n (e + 1 + (rNu v).length) A u) M' → R v M') : p_X8_takeNumber F (x + 1) lo hi M R := by
  obtain ⟨h1, h2⟩ := zAt_cons h
  obtain ⟨k1, k2, k3⟩ := tk_num h2 v0 v1 hc he
  have d0 : b (e + 1) ≠ 32 := fun q => by
    unfold zkd at k1
    rw [if_neg (by omega), if_neg (by omega), if_neg (by omega)] at k1; omega
  have hp : (zst b n e A u).p = e + 1 := by
    show zps b n e = _
    rw [zps_sp h1 (by omega), zps_no d0 (by omega)]
  refine zC_num hn hF hlo hhi hC (fun q => absurd rfl q) (fun _ q => absurd (by rw [hp]; exact k1) q) (fun _ _ q => absurd (by rw [hp, k3]; exact hv) q) (fun _ _ _ M' h' => ?_)
  rw [hp, k3]
  have eG : zG b n (zst b n e A u) = zst b n (e + 1 + (rNu v).length) A u := by
    unfold zG zst
    rw [show (zmk 0 (-1) (zps b n e) A u).p = e + 1 from hp, k2]; rfl
  rw [eG] at h'
  exact hq M' h'
/-- a word is left behind -/
theorem n_mv {s : Nat} (hn : n ≤ 700) (hF : 702 ≤ F) (hw : zWd s) (h : zAt b e (rLt s ++ c :: L)) (hc : ¬ (97 ≤ c ∧ c ≤ 122)) (he : e + (rLt s).length + 1 ≤ n) (hC : zC b n x B (zst b n e A u) M) (hq : ∀ M', zC b n x B (zst b n (e + (rLt s).length) A u) M' → (∀ c, c ≠ x + 2 → M' c = M c) → Q M') : p_X9_moveOn F (x + 2) M Q := by
  obtain ⟨k1, k2, k3⟩ := tk_word hw h hc he
  have hp : (zst b n e A u).p = e := by
    show zps b n e = _
    refine zps_no (fun q => ?_) (by omega)
    unfold zkd at k3
    rw [if_neg (by omega), if_neg (by omega), if_neg (by omega)] at k3; omega
  refine zC_mv2 hn hF rfl hC (fun M' h' f => hq M' ?_ f)
  have eG : zG b n (zst b n e A u) = zst b n (e + (rLt s).length) A u := by
    unfold zG zst
    rw [show (zmk 0 (-1) (zps b n e) A u).p = e from hp, k2]; rfl
  rw [eG] at h'
  exact h'
theorem n_p {s : Nat} (hw : zWd s) (h : zAt b e (rLt s ++ c :: L)) (hc : ¬ (97 ≤ c ∧ c ≤ 122)) (he : e + (rLt s).length + 1 ≤ n) : (zst b n e A u).p = e ∧ zIw b n s (zst b n e A u).p := by
  obtain ⟨k1, k2, k3⟩ := tk_word hw h hc he
  have hp : (zst b n e A u).p = e := by
    show zps b n e = _
    refine zps_no (fun q => ?_) (by omega)
    unfold zkd at k3
    rw [if_neg (by omega), if_neg (by omega), if_neg (by omega)] at k3; omega
  exact ⟨hp, by rw [hp]; exact k1⟩
/-- a sign is taken, a space may stand before it -/
theorem n_sign (hn : n ≤ 700) (hF : 702 ≤ F) (hc : 0 ≤ c ∧ c < 48 ∨ 58 ≤ c ∧ c < 97) (hc2 : c ≠ 32) (h : zAt b e (c :: L)) (he : e < n) (hC : zC b n x B (zst b n e A u) M) (hq : ∀ M', zC b n x B (zst b n (e + 1) A u) M' → Q M') : p_X8_takeSign F (x + 1) c M Q := by
  have h1 := (zAt_cons h).1
  obtain ⟨k1, k2⟩ := tk_sign hc h1 he
  have hp : (zst b n e A u).p = e := zps_no (by rw [h1]; exact hc2) (by omega)
  refine zC_sign hn hF hC (fun q => absurd rfl q) (fun _ _ M' h' => hq M' ?_) (fun _ q => absurd (by rw [hp]; exact k1) q)
  have eG : zG b n (zst b n e A u) = zst b n (e + 1) A u := by
    unfold zG zst
    rw [show (zmk 0 (-1) (zps b n e) A u).p = e from hp, k2]; rfl
  rw [eG] at h'
  exact h'
theorem zst_sp (h : b e = 32) (hn : e < n) : zst b n e A u = zst b n (e + 1) A u := by unfold zst; rw [zps_sp h hn]
end ZTK
