/-! THE LAW'S ROAD, against the abstract state: A's scalars, rows, lists -/
/-- what is live at t stays as it was, but what Ow names -/
def rFr (Ow : Nat → Prop) (t : xTh) (M : xMe) (t' : xTh) (M' : xMe) : Prop := xlive t' ∧ ∀ a, xk t a ≤ 22 → xk t' a = xk t a ∧ xn t' a = xn t a ∧ (¬ Ow a → M' a = M a ∧ xr t' a = xr t a) ∧ (xk t a ≠ 20 → xk t a ≠ 10 → xk t a ≠ 18 → xr t' a = xr t a)
def rNo : Nat → Prop := fun _ => False
section RFR
variable {Ow Ow' : Nat → Prop} {t t' t'' : xTh} {M M' M'' : xMe}
theorem rFr_refl (h : xlive t) : rFr Ow t M t M := ⟨h, fun _ _ => ⟨rfl, rfl, fun _ => ⟨rfl, rfl⟩, fun _ _ _ => rfl⟩⟩
theorem rFr_trans (h : rFr Ow t M t' M') (g : rFr Ow t' M' t'' M'') : rFr Ow t M t'' M'' := ⟨g.1, fun a ha => by
  obtain ⟨h1, h2, h3, h4⟩ := h.2 a ha
  obtain ⟨g1, g2, g3, g4⟩ := g.2 a (by omega)
  exact ⟨g1.trans h1, g2.trans h2, fun q => ⟨(g3 q).1.trans (h3 q).1, (g3 q).2.trans (h3 q).2⟩, fun q q' q'' => (g4 (by rw [h1]; exact q) (by rw [h1]; exact q') (by rw [h1]; exact q'')).trans (h4 q q' q'')⟩⟩
theorem rFr_mono (h : rFr Ow t M t' M') (hO : ∀ a, Ow a → Ow' a) : rFr Ow' t M t' M' := ⟨h.1, fun a ha => ⟨(h.2 a ha).1, (h.2 a ha).2.1, fun q => (h.2 a ha).2.2.1 (fun z => q (hO a z)), (h.2 a ha).2.2.2⟩⟩
theorem rFr_of (h : rFr rNo t M t' M') : rFr Ow t M t' M' := rFr_mono h (fun _ z => z.elim)
theorem rFr_w (h : rFr Ow t M t' M') {a k : Nat} {v : Int} (ha : 22 < xk t a ∨ Ow a) : rFr Ow t M t' (xw M' a k v) := ⟨h.1, fun b hb => ⟨(h.2 b hb).1, (h.2 b hb).2.1, fun q => ⟨by
  have e : b ≠ a := fun e => by subst e; exact ha.elim (fun z => by omega) q
  rw [xw_B e]; exact ((h.2 b hb).2.2.1 q).1, ((h.2 b hb).2.2.1 q).2⟩, (h.2 b hb).2.2.2⟩⟩
theorem xr_wrn {a b k : Nat} {v : Option Nat} (e : b ≠ a) : xr (xwr t a k v) b = xr t b := by
  funext j
  show (if b = a ∧ j = k then v else xr t b j) = xr t b j
  rw [if_neg (fun q => e q.1)]
theorem rFr_r (h : rFr Ow t M t' M') {a k : Nat} {v : Option Nat} (ha : 22 < xk t a ∨ (Ow a ∧ (xk t a = 20 ∨ xk t a = 18))) : rFr Ow t M (xwr t' a k v) M' := ⟨h.1, fun b hb => ⟨(h.2 b hb).1, (h.2 b hb).2.1, fun q => ⟨((h.2 b hb).2.2.1 q).1, by
  have e : b ≠ a := fun e => by subst e; exact ha.elim (fun z => by omega) (fun z => q z.1)
  rw [xr_wrn e]; exact ((h.2 b hb).2.2.1 q).2⟩, fun q q' q'' => by
  have e : b ≠ a := fun e => by subst e; exact ha.elim (fun z => by omega) (fun z => z.2.elim q q'')
  rw [xr_wrn e]; exact (h.2 b hb).2.2.2 q q' q''⟩⟩
theorem rFr_20 (h : rFr Ow t M t' M') {a k : Nat} {v : Option Nat} (ha : Ow a) (hk : xk t a = 20) : rFr Ow t M (xwr t' a k v) M' := rFr_r h (Or.inr ⟨ha, Or.inl hk⟩)
theorem xk_nw {k n b : Nat} : xk (xnw t k n) b = if b = xz t then k else xk t b := rfl
theorem xn_nw {k n b : Nat} : xn (xnw t k n) b = if b = xz t then n else xn t b := rfl
theorem xr_nw {k n b : Nat} (e : b ≠ xz t) : xr (xnw t k n) b = xr t b := by
  funext j
  show (if b = xz t then none else xr t b j) = xr t b j
  rw [if_neg e]
theorem xz_nw {k n : Nat} : xz (xnw t k n) = xz t + 1 := rfl
theorem xw0_B {a b : Nat} (e : b ≠ a) : xw0 M a b = M b := by funext j; unfold xw0; rw [if_neg e]
theorem xlive_z (h : xlive t) : 22 < xk t (xz t) := by
  by_cases e : xk t (xz t) ≤ 22
  · exact absurd (h _ e) (Nat.lt_irrefl _)
  · omega
theorem rFr_n (h : rFr Ow t M t' M') {k n : Nat} : rFr Ow t M (xnw t' k n) (xw0 M' (xz t')) := ⟨xlive_new h.1, fun b hb => by
  obtain ⟨h1, h2, h3, h4⟩ := h.2 b hb
  have e : b ≠ xz t' := fun e => by have := h.1 b (by omega); omega
  exact ⟨by rw [xk_nw, if_neg e]; exact h1, by rw [xn_nw, if_neg e]; exact h2, fun q => ⟨by rw [xw0_B e]; exact (h3 q).1, by rw [xr_nw e]; exact (h3 q).2⟩, fun q q' q'' => by rw [xr_nw e]; exact h4 q q' q''⟩⟩
theorem rFr_17 (h : rFr Ow t M t' M') {a : Nat} (hk : xk t a = 17) : xr t' a = xr t a := (h.2 a (by omega)).2.2.2 (by omega) (by omega) (by omega)
/-- what is live later and was dead before -/
theorem rFr_dead (h : rFr Ow t M t' M') {a : Nat} (ha : 22 < xk t' a) : 22 < xk t a := by
  by_cases e : xk t a ≤ 22
  · have := (h.2 a e).1; omega
  · omega
/-- dead cells above a live one are the Road's to take -/
def rDd (P : Nat → Prop) (t : xTh) : Prop := ∃ c, xk t c ≤ 22 ∧ ∀ a, 22 < xk t a → c < a → P a
theorem rDd_z {P : Nat → Prop} (h : rDd P t) (hl : xlive t) : P (xz t) := by
  obtain ⟨c, h1, h2⟩ := h
  exact h2 _ (xlive_z hl) (hl c h1)
theorem rDd_fr {P : Nat → Prop} (h : rDd P t) (f : rFr Ow t M t' M') : rDd P t' := by
  obtain ⟨c, h1, h2⟩ := h
  exact ⟨c, by rw [(f.2 c h1).1]; exact h1, fun a ha hc => h2 a (rFr_dead f ha) hc⟩
end RFR
section RWI
variable {t : xTh} {M : xMe} {F n b c : Nat} {Q : Nat → xTh → xMe → Prop}
theorem s_with_10 (hl : xlive t) (kb : xk t b = 17) {m : Nat} (nb : xn t b = m) (hm : m ≤ 62) (rb : ∀ i, i < m → ∃ d, xr t b i = some d ∧ xk t d = 14) (hq : ∀ t', rFr rNo t M t' (xw0 M (xz t)) → xk t' (xz t) = 17 → xn t' (xz t) = m + 1 → (∀ i, i < m → xr t' (xz t) i = xr t b i) → xr t' (xz t) m = some c → xz t' = xz t + 1 → Q (xz t) t' (xw0 M (xz t))) :
    ∀ (d k i : Nat) (t' : xTh), i + d = m → d < k → xz t' = xz t + 1 → rFr rNo t M t' (xw0 M (xz t)) → xk t' (xz t) = 17 → xn t' (xz t) = m + 1 → (∀ j, j < i → xr t' (xz t) j = xr t b j) → p_L_with_10 F Q (p_L_with_28 F Q) k n b c (xz t) (i : Int) t' (xw0 M (xz t)) := by
  intro d
  have hb : b ≠ xz t := fun e => by have := hl b (by omega); omega
  induction d with
  | zero =>
    intro k i t' hi hk hz f k1 n1 r1
    obtain ⟨k, rfl⟩ : ∃ k', k = k' + 1 := ⟨k - 1, by omega⟩
    obtain ⟨f1, f2, f3, -⟩ := f.2 b (by omega)
    obtain ⟨-, f5⟩ := f3 id
    unfold p_L_with_10
    refine ⟨⟨by omega, by omega⟩, fun _ => ?_, fun h => absurd h (by omega)⟩
    unfold p_L_with_28
    refine ⟨⟨by omega, by omega⟩, ⟨by omega, by omega⟩, fun t32 ht => ?_⟩
    have em : ((xn t' b : Nat) : Int).toNat = m := by omega
    rw [em] at ht
    subst ht
    refine hq _ (rFr_r f (Or.inl (xlive_z hl))) k1 n1 (fun j hj => ?_) (if_pos ⟨rfl, rfl⟩) hz
    rw [xr_wr, if_neg (by omega)]
    exact r1 j (by omega)
  | succ d ih =>
    intro k i t' hi hk hz f k1 n1 r1
    obtain ⟨k, rfl⟩ : ∃ k', k = k' + 1 := ⟨k - 1, by omega⟩
    obtain ⟨f1, f2, f3, -⟩ := f.2 b (by omega)
    obtain ⟨-, f5⟩ := f3 id
    obtain ⟨e, he, ke⟩ := rb i (by omega)
    unfold p_L_with_10
    refine ⟨⟨by omega, by omega⟩, fun h => absurd h (by omega), fun _ => ⟨⟨by omega, by omega⟩, e, ?_, ?_, ⟨by omega, by omega⟩, fun t21 ht => ⟨⟨by omega, by omega⟩, ?_⟩⟩⟩
    · rw [f5, Int.toNat_natCast]; exact he
    · exact (f.2 e (by omega)).1.trans ke
    · rw [Int.toNat_natCast] at ht
      subst ht
      refine ih k (i + 1) _ (by omega) (by omega) hz (rFr_r f (Or.inl (xlive_z hl))) k1 n1 (fun j hj => ?_)
      rw [xr_wr]
      split
      · rename_i q; rw [q.2]; exact he.symm
      · exact r1 j (by omega)
theorem s_with (hl : xlive t) (kb : xk t b = 17) (hm : xn t b ≤ 62) (rb : ∀ i, i < xn t b → ∃ d, xr t b i = some d ∧ xk t d = 14) (hF : xn t b < F) (hn : 1 ≤ n) (hq : ∀ t', rFr rNo t M t' (xw0 M (xz t)) → xk t' (xz t) = 17 → xn t' (xz t) = xn t b + 1 → (∀ i, i < xn t b → xr t' (xz t) i = xr t b i) → xr t' (xz t) (xn t b) = some c → xz t' = xz t + 1 → Q (xz t) t' (xw0 M (xz t))) : p_L_with F n t b c M Q := by
  unfold p_L_with
  refine ⟨⟨by omega, by omega⟩, ⟨by omega, by omega⟩, ⟨by omega, by omega⟩, hn, fun a4 t4 M4 ea et eM => ?_⟩
  have e : (((xn t b : Nat) : Int) + 1).toNat = xn t b + 1 := by omega
  rw [e] at et
  subst ea et eM
  exact s_with_10 hl kb rfl hm rb hq (xn t b) F 0 _ (by omega) hF rfl (rFr_n (rFr_refl hl)) (if_pos rfl) (if_pos rfl) (fun j hj => by omega)
theorem s_without_10 (hl : xlive t) (kb : xk t b = 17) {m at_ : Nat} (nb : xn t b = m + 1) (hm : m ≤ 62) (ha : at_ ≤ m) (rb : ∀ i, i < m + 1 → ∃ d, xr t b i = some d ∧ xk t d = 14) (hq : ∀ t', rFr rNo t M t' (xw0 M (xz t)) → xk t' (xz t) = 17 → xn t' (xz t) = m → (∀ i, i < m → xr t' (xz t) i = xr t b (if i < at_ then i else i + 1)) → xz t' = xz t + 1 → Q (xz t) t' (xw0 M (xz t))) :
    ∀ (d k i : Nat) (t' : xTh), i + d = m → d < k → xz t' = xz t + 1 → rFr rNo t M t' (xw0 M (xz t)) → xk t' (xz t) = 17 → xn t' (xz t) = m → (∀ j, j < i → xr t' (xz t) j = xr t b (if j < at_ then j else j + 1)) → p_L_without_10 F Q k n b (at_ : Int) (xz t) (i : Int) t' (xw0 M (xz t)) := by
  intro d
  have hb : b ≠ xz t := fun e => by have := hl b (by omega); omega
  induction d with
  | zero =>
    intro k i t' hi hk hz f k1 n1 r1
    obtain ⟨k, rfl⟩ : ∃ k', k = k' + 1 := ⟨k - 1, by omega⟩
    unfold p_L_without_10
    refine ⟨⟨by omega, by omega⟩, fun _ => hq t' f k1 n1 (fun j hj => r1 j (by omega)) hz, fun h => absurd h (by omega)⟩
  | succ d ih =>
    intro k i t' hi hk hz f k1 n1 r1
    obtain ⟨k, rfl⟩ : ∃ k', k = k' + 1 := ⟨k - 1, by omega⟩
    obtain ⟨f1, f2, f3, -⟩ := f.2 b (by omega)
    obtain ⟨-, f5⟩ := f3 id
    have step : ∀ e, xr t b (if i < at_ then i else i + 1) = some e → ∀ t32, t32 = xwr t' (xz t) ((i : Int)).toNat (some e) → (xR ((i : Int) + 1)) ∧ p_L_without_10 F Q k n b (at_ : Int) (xz t) ((i : Int) + 1) t32 (xw0 M (xz t)) := by
      intro e he t32 ht
      rw [Int.toNat_natCast] at ht
      subst ht
      refine ⟨⟨by omega, by omega⟩, ih k (i + 1) _ (by omega) (by omega) hz (rFr_r f (Or.inl (xlive_z hl))) k1 n1 (fun j hj => ?_)⟩
      rw [xr_wr]
      split
      · rename_i q; rw [q.2]; exact he.symm
      · exact r1 j (by omega)
    unfold p_L_without_10
    refine ⟨⟨by omega, by omega⟩, fun h => absurd h (by omega), fun _ => ⟨fun q => ?_, fun q => ?_⟩⟩
    · obtain ⟨e, he, ke⟩ := rb (i + 1) (by omega)
      refine ⟨⟨by omega, by omega⟩, ⟨by omega, by omega⟩, e, ?_, (f.2 e (by omega)).1.trans ke, ⟨by omega, by omega⟩, step e (by rw [if_neg (by omega)]; exact he)⟩
      rw [f5, show ((i : Int) + 1).toNat = i + 1 by omega]; exact he
    · obtain ⟨e, he, ke⟩ := rb i (by omega)
      refine ⟨⟨by omega, by omega⟩, e, ?_, (f.2 e (by omega)).1.trans ke, ⟨by omega, by omega⟩, step e (by rw [if_pos (by omega)]; exact he)⟩
      rw [f5, Int.toNat_natCast]; exact he
theorem s_without (hl : xlive t) (kb : xk t b = 17) {m at_ : Nat} {x : Int} (hx : x = (at_ : Int)) (nb : xn t b = m + 1) (hm : m ≤ 62) (ha : at_ ≤ m) (rb : ∀ i, i < m + 1 → ∃ d, xr t b i = some d ∧ xk t d = 14) (hF : m < F) (hn : 1 ≤ n) (hq : ∀ t', rFr rNo t M t' (xw0 M (xz t)) → xk t' (xz t) = 17 → xn t' (xz t) = m → (∀ i, i < m → xr t' (xz t) i = xr t b (if i < at_ then i else i + 1)) → xz t' = xz t + 1 → Q (xz t) t' (xw0 M (xz t))) : p_L_without F n t b x M Q := by
  subst hx
  unfold p_L_without
  refine ⟨⟨by omega, by omega⟩, ⟨by omega, by omega⟩, ⟨by omega, by omega⟩, hn, fun a4 t4 M4 ea et eM => ?_⟩
  have e : (((xn t b : Nat) : Int) - 1).toNat = m := by omega
  rw [e] at et
  subst ea et eM
  exact s_without_10 hl kb nb hm ha rb hq m F 0 _ (by omega) hF rfl (rFr_n (rFr_refl hl)) (if_pos rfl) (if_pos rfl) (fun j hj => by omega)
theorem xcl_B {a z b : Nat} (e : b ≠ z) : xcl M a z b = M b := by funext j; unfold xcl; rw [if_neg e]
theorem xcl_z {a z : Nat} : xcl M a z z = M a := by funext j; unfold xcl; rw [if_pos rfl]
theorem rFr_c {Ow : Nat → Prop} {t' : xTh} {M' : xMe} (h : rFr Ow t M t' M') {k n a : Nat} : rFr Ow t M (xnw t' k n) (xcl M' a (xz t')) := ⟨xlive_new h.1, fun b hb => by
  obtain ⟨h1, h2, h3, h4⟩ := h.2 b hb
  have e : b ≠ xz t' := fun e => by have := h.1 b (by omega); omega
  exact ⟨by rw [xk_nw, if_neg e]; exact h1, by rw [xn_nw, if_neg e]; exact h2, fun q => ⟨by rw [xcl_B e]; exact (h3 q).1, by rw [xr_nw e]; exact (h3 q).2⟩, fun q q' q'' => by rw [xr_nw e]; exact h4 q q' q''⟩⟩
theorem s_copied_8 (hl : xlive t) (kb : xk t b = 17) {m : Nat} (nb : xn t b = m) (hm : m ≤ 62) (rb : ∀ i, i < m → ∃ d, xr t b i = some d ∧ xk t d = 14 ∧ xn t d ≤ 64) (hq : ∀ t' M', rFr rNo t M t' M' → xz t' = xz t + 1 + m → xk t' (xz t) = 17 → xn t' (xz t) = m → (∀ i, i < m → xr t' (xz t) i = some (xz t + 1 + i)) → (∀ i d, i < m → xr t b i = some d → xk t' (xz t + 1 + i) = 14 ∧ xn t' (xz t + 1 + i) = xn t d ∧ M' (xz t + 1 + i) = M d) → Q (xz t) t' M') :
    ∀ (d k i n : Nat) (t' : xTh) (M' : xMe), i + d = m → d < k → d ≤ n → xz t' = xz t + 1 + i → rFr rNo t M t' M' → xk t' (xz t) = 17 → xn t' (xz t) = m → (∀ j, j < i → xr t' (xz t) j = some (xz t + 1 + j)) → (∀ j d, j < i → xr t b j = some d → xk t' (xz t + 1 + j) = 14 ∧ xn t' (xz t + 1 + j) = xn t d ∧ M' (xz t + 1 + j) = M d) → p_L_copied_8 F Q k n b (xz t) (i : Int) t' M' := by
  intro d
  have hb : b ≠ xz t := fun e => by have := hl b (by omega); omega
  induction d with
  | zero =>
    intro k i n t' M' hi hk hn hz f k1 n1 r1 c1
    obtain ⟨k, rfl⟩ : ∃ k', k = k' + 1 := ⟨k - 1, by omega⟩
    obtain ⟨f1, f2, f3, -⟩ := f.2 b (by omega)
    unfold p_L_copied_8
    refine ⟨⟨by omega, by omega⟩, fun _ => hq t' M' f (by omega) k1 n1 (fun j hj => r1 j (by omega)) (fun j d hj => c1 j d (by omega)), fun h => absurd h (by omega)⟩
  | succ d ih =>
    intro k i n t' M' hi hk hn hz f k1 n1 r1 c1
    obtain ⟨k, rfl⟩ : ∃ k', k = k' + 1 := ⟨k - 1, by omega⟩
    obtain ⟨f1, f2, f3, -⟩ := f.2 b (by omega)
    obtain ⟨-, f5⟩ := f3 id
    obtain ⟨e, he, ke, ne⟩ := rb i (by omega)
    obtain ⟨g1, g2, g3, -⟩ := f.2 e (by omega)
    obtain ⟨g4, -⟩ := g3 id
    unfold p_L_copied_8
    refine ⟨⟨by omega, by omega⟩, fun h => absurd h (by omega), fun _ => ⟨⟨by omega, by omega⟩, e, ?_, g1.trans ke, ⟨by omega, by omega⟩, fun a19 t19 M19 ea et eM => ?_⟩⟩
    · rw [f5, Int.toNat_natCast]; exact he
    · subst ea et eM
      have hza : xz t ≠ xz t' := by omega
      refine ⟨⟨by omega, by rw [xn_nw, if_neg hza, n1]; omega⟩, fun t25 ht => ⟨⟨by omega, by omega⟩, ?_⟩⟩
      rw [Int.toNat_natCast] at ht
      subst ht
      refine ih k (i + 1) _ _ _ (by omega) (by omega) (by omega) ?_ (rFr_r (rFr_c f) (Or.inl (xlive_z hl))) ?_ ?_ (fun j hj => ?_) (fun j d' hj hd' => ?_)
      · show xz t' + 1 = _; omega
      · show xk (xnw t' 14 (xn t' e)) (xz t) = 17; rw [xk_nw, if_neg hza]; exact k1
      · show xn (xnw t' 14 (xn t' e)) (xz t) = m; rw [xn_nw, if_neg hza]; exact n1
      · rw [xr_wr]
        split
        · rename_i q; rw [q.2, hz]
        · rw [xr_nw hza]; exact r1 j (by omega)
      · show xk (xnw t' 14 (xn t' e)) _ = 14 ∧ xn (xnw t' 14 (xn t' e)) _ = _ ∧ _
        rw [xk_nw, xn_nw]
        by_cases ej : j = i
        · subst ej
          rw [he] at hd'
          cases hd'
          rw [if_pos (by omega), if_pos (by omega)]
          refine ⟨rfl, g2, ?_⟩
          rw [show xz t + 1 + j = xz t' by omega, xcl_z, g4]
        · rw [if_neg (by omega), if_neg (by omega), xcl_B (by omega)]
          exact c1 j d' (by omega) hd'
theorem s_copied (hl : xlive t) (kb : xk t b = 17) {m : Nat} (nb : xn t b = m) (hm : m ≤ 62) (rb : ∀ i, i < m → ∃ d, xr t b i = some d ∧ xk t d = 14 ∧ xn t d ≤ 64) (hF : m < F) (hn : 1 + m ≤ n) (hq : ∀ t' M', rFr rNo t M t' M' → xz t' = xz t + 1 + m → xk t' (xz t) = 17 → xn t' (xz t) = m → (∀ i, i < m → xr t' (xz t) i = some (xz t + 1 + i)) → (∀ i d, i < m → xr t b i = some d → xk t' (xz t + 1 + i) = 14 ∧ xn t' (xz t + 1 + i) = xn t d ∧ M' (xz t + 1 + i) = M d) → Q (xz t) t' M') : p_L_copied F n t b M Q := by
  unfold p_L_copied
  refine ⟨⟨by omega, by omega⟩, ⟨by omega, by omega⟩, by omega, fun a4 t4 M4 ea et eM => ?_⟩
  have e : (((xn t b : Nat) : Int)).toNat = m := by omega
  rw [e] at et
  subst ea et eM
  exact s_copied_8 hl kb nb hm rb hq m F 0 _ _ _ (by omega) hF (by omega) rfl (rFr_n (rFr_refl hl)) (if_pos rfl) (if_pos rfl) (fun j hj => by omega) (fun j d hj => by omega)
end RWI
