/-! A NEW ROAD, A COPY -/
section RNW
variable {t : xTh} {M : xMe} {r F n : Nat}
theorem xk_mn {n k b : Nat} : xk (xmn t n k) b = if b = xz t then 17 else if xz t < b ∧ b ≤ xz t + n then 14 else xk t b := rfl
theorem xn_mn {n k b : Nat} : xn (xmn t n k) b = if b = xz t then n else if xz t < b ∧ b ≤ xz t + n then k else xn t b := rfl
theorem xr_mn {n k b : Nat} (h : b < xz t) : xr (xmn t n k) b = xr t b := by
  funext j
  show (if b = xz t then (if j < n then some (xz t + 1 + j) else none) else if xz t < b ∧ b ≤ xz t + n then none else xr t b j) = xr t b j
  rw [if_neg (by omega), if_neg (by omega)]
theorem rFr_m {Ow : Nat → Prop} {t' : xTh} {M' : xMe} (h : rFr Ow t M t' M') {k n : Nat} : rFr Ow t M (xmn t' n k) (xm0 M' (xz t') n) := by
  have key : ∀ b, xk t b ≤ 22 → b < xz t' := fun b hb => h.1 b (by have := (h.2 b hb).1; omega)
  refine ⟨fun b hb => ?_, fun b hb => ?_⟩
  · rw [xk_mn] at hb
    show b < xz t' + 1 + n
    by_cases e1 : b = xz t'
    · omega
    · rw [if_neg e1] at hb
      by_cases e2 : xz t' < b ∧ b ≤ xz t' + n
      · omega
      · rw [if_neg e2] at hb
        have := h.1 b hb; omega
  · obtain ⟨h1, h2, h3, h4⟩ := h.2 b hb
    have hlt := key b hb
    have eM : xm0 M' (xz t') n b = M' b := by funext j; unfold xm0; rw [if_neg (by omega)]
    exact ⟨by rw [xk_mn, if_neg (by omega), if_neg (by omega)]; exact h1, by rw [xn_mn, if_neg (by omega), if_neg (by omega)]; exact h2, fun q => ⟨by rw [eM]; exact (h3 q).1, by rw [xr_mn hlt]; exact (h3 q).2⟩, fun q q' q'' => by rw [xr_mn hlt]; exact h4 q q' q''⟩
/-- the constructor: six empty arrays, six buckets for six gates -/
theorem s_init {Q : xTh → xMe → Prop} (hl : xlive t) (hr : xk t r = 20) (hn : 13 ≤ n) (hq : ∀ t' M', rFr (fun a => a = r) t M t' M' → xz t' = xz t + 13 → (∀ k, 1 ≤ k → k ≤ 6 → xr t' r k = some (xz t + k - 1) ∧ xk t' (xz t + k - 1) = 17 ∧ xn t' (xz t + k - 1) = 0) → xr t' r 7 = some (xz t + 6) → xk t' (xz t + 6) = 17 → xn t' (xz t + 6) = 6 → (∀ g, g < 6 → xr t' (xz t + 6) g = some (xz t + 7 + g) ∧ xk t' (xz t + 7 + g) = 14 ∧ xn t' (xz t + 7 + g) = 6 ∧ ∀ j, M' (xz t + 7 + g) j = 0) → xr t' r 13 = xr t r 13 → M' r 10 = 1 → M' r 11 = 50 → M' r 12 = 10 → (∀ j, j < 10 → M' r j = M r j) → Q t' M') : p_X14_init F n t r M Q := by
  have hrz : r < xz t := hl r (by omega)
  unfold p_X14_init
  refine ⟨by omega, fun a6 t6 M6 e1 e2 e3 t9 e4 => ⟨by omega, fun a14 t14 M14 e5 e6 e7 t17 e8 => ⟨by omega, fun a22 t22 M22 e9 e10 e11 t25 e12 => ⟨by omega, fun a30 t30 M30 e13 e14 e15 t33 e16 => ⟨by omega, fun a38 t38 M38 e17 e18 e19 t41 e20 => ⟨by omega, fun a46 t46 M46 e21 e22 e23 t49 e24 => ⟨by omega, fun a57 t57 M57 e25 e26 e27 t61 e28 M66 e29 M72 e30 M78 e31 => ?_⟩⟩⟩⟩⟩⟩⟩
  have z6 : xz t9 = xz t + 1 := by rw [e4, e2]; rfl
  have z14 : xz t17 = xz t + 2 := by rw [e8, e6]; show xz t9 + 1 = _; omega
  have z22 : xz t25 = xz t + 3 := by rw [e12, e10]; show xz t17 + 1 = _; omega
  have z30 : xz t33 = xz t + 4 := by rw [e16, e14]; show xz t25 + 1 = _; omega
  have z38 : xz t41 = xz t + 5 := by rw [e20, e18]; show xz t33 + 1 = _; omega
  have z46 : xz t49 = xz t + 6 := by rw [e24, e22]; show xz t41 + 1 = _; omega
  have z57 : xz t61 = xz t + 13 := by rw [e28, e26]; show xz t49 + 1 + 6 = _; omega
  have or : 22 < xk t r ∨ ((fun a => a = r) r ∧ (xk t r = 20 ∨ xk t r = 18)) := Or.inr ⟨rfl, Or.inl hr⟩
  have f0 : rFr (fun a => a = r) t M t M := rFr_refl hl
  have f6 : rFr (fun a => a = r) t M t9 M6 := by rw [e4, e3, e2, e1]; exact rFr_r (rFr_n f0) or
  have f14 : rFr (fun a => a = r) t M t17 M14 := by rw [e8, e7, e6, e5]; exact rFr_r (rFr_n f6) or
  have f22 : rFr (fun a => a = r) t M t25 M22 := by rw [e12, e11, e10, e9]; exact rFr_r (rFr_n f14) or
  have f30 : rFr (fun a => a = r) t M t33 M30 := by rw [e16, e15, e14, e13]; exact rFr_r (rFr_n f22) or
  have f38 : rFr (fun a => a = r) t M t41 M38 := by rw [e20, e19, e18, e17]; exact rFr_r (rFr_n f30) or
  have f46 : rFr (fun a => a = r) t M t49 M46 := by rw [e24, e23, e22, e21]; exact rFr_r (rFr_n f38) or
  have f57 : rFr (fun a => a = r) t M t61 M57 := by rw [e28, e27, e26, e25]; exact rFr_r (rFr_m f46) or
  have f78 : rFr (fun a => a = r) t M t61 M78 := by rw [e31, e30, e29]; exact rFr_w (rFr_w (rFr_w f57 (Or.inr rfl)) (Or.inr rfl)) (Or.inr rfl)
  have ek : ∀ b, xk t61 b = if b = xz t + 6 then 17 else if xz t + 6 < b ∧ b ≤ xz t + 6 + 6 then 14 else if xz t ≤ b ∧ b < xz t + 6 then 17 else xk t b := fun b => by
    rw [e28]; show xk t57 b = _; rw [e26, xk_mn, z46, e24]; show (if b = xz t + 6 then 17 else if xz t + 6 < b ∧ b ≤ xz t + 6 + 6 then 14 else xk t46 b) = _
    rw [e22, xk_nw, z38, e20]; show (if b = xz t + 6 then 17 else if xz t + 6 < b ∧ b ≤ xz t + 6 + 6 then 14 else if b = xz t + 5 then 17 else xk t38 b) = _
    rw [e18, xk_nw, z30, e16]; show (if b = xz t + 6 then 17 else if xz t + 6 < b ∧ b ≤ xz t + 6 + 6 then 14 else if b = xz t + 5 then 17 else if b = xz t + 4 then 17 else xk t30 b) = _
    rw [e14, xk_nw, z22, e12]; show (if b = xz t + 6 then 17 else if xz t + 6 < b ∧ b ≤ xz t + 6 + 6 then 14 else if b = xz t + 5 then 17 else if b = xz t + 4 then 17 else if b = xz t + 3 then 17 else xk t22 b) = _
    rw [e10, xk_nw, z14, e8]; show (if b = xz t + 6 then 17 else if xz t + 6 < b ∧ b ≤ xz t + 6 + 6 then 14 else if b = xz t + 5 then 17 else if b = xz t + 4 then 17 else if b = xz t + 3 then 17 else if b = xz t + 2 then 17 else xk t14 b) = _
    rw [e6, xk_nw, z6, e4]; show (if b = xz t + 6 then 17 else if xz t + 6 < b ∧ b ≤ xz t + 6 + 6 then 14 else if b = xz t + 5 then 17 else if b = xz t + 4 then 17 else if b = xz t + 3 then 17 else if b = xz t + 2 then 17 else if b = xz t + 1 then 17 else xk t6 b) = _
    rw [e2, xk_nw]
    repeat' split
    all_goals first | rfl | omega
  have en : ∀ b, xn t61 b = if b = xz t + 6 then 6 else if xz t + 6 < b ∧ b ≤ xz t + 6 + 6 then 6 else if xz t ≤ b ∧ b < xz t + 6 then 0 else xn t b := fun b => by
    rw [e28]; show xn t57 b = _; rw [e26, xn_mn, z46, e24]; show (if b = xz t + 6 then 6 else if xz t + 6 < b ∧ b ≤ xz t + 6 + 6 then 6 else xn t46 b) = _
    rw [e22, xn_nw, z38, e20]; show (if b = xz t + 6 then 6 else if xz t + 6 < b ∧ b ≤ xz t + 6 + 6 then 6 else if b = xz t + 5 then 0 else xn t38 b) = _
    rw [e18, xn_nw, z30, e16]; show (if b = xz t + 6 then 6 else if xz t + 6 < b ∧ b ≤ xz t + 6 + 6 then 6 else if b = xz t + 5 then 0 else if b = xz t + 4 then 0 else xn t30 b) = _
    rw [e14, xn_nw, z22, e12]; show (if b = xz t + 6 then 6 else if xz t + 6 < b ∧ b ≤ xz t + 6 + 6 then 6 else if b = xz t + 5 then 0 else if b = xz t + 4 then 0 else if b = xz t + 3 then 0 else xn t22 b) = _
    rw [e10, xn_nw, z14, e8]; show (if b = xz t + 6 then 6 else if xz t + 6 < b ∧ b ≤ xz t + 6 + 6 then 6 else if b = xz t + 5 then 0 else if b = xz t + 4 then 0 else if b = xz t + 3 then 0 else if b = xz t + 2 then 0 else xn t14 b) = _
    rw [e6, xn_nw, z6, e4]; show (if b = xz t + 6 then 6 else if xz t + 6 < b ∧ b ≤ xz t + 6 + 6 then 6 else if b = xz t + 5 then 0 else if b = xz t + 4 then 0 else if b = xz t + 3 then 0 else if b = xz t + 2 then 0 else if b = xz t + 1 then 0 else xn t6 b) = _
    rw [e2, xn_nw]
    repeat' split
    all_goals first | rfl | omega
  have er : ∀ k, xr t61 r k = if k = 7 then some (xz t + 6) else if k = 6 then some (xz t + 5) else if k = 5 then some (xz t + 4) else if k = 4 then some (xz t + 3) else if k = 3 then some (xz t + 2) else if k = 2 then some (xz t + 1) else if k = 1 then some (xz t) else xr t r k := fun k => by
    have w : ∀ (u : xTh) (j : Nat) (o : Option Nat), xr (xwr u r j o) r k = if k = j then o else xr u r k := fun u j o => by
      rw [xr_wr]; by_cases e : k = j
      · rw [if_pos ⟨rfl, e⟩, if_pos e]
      · rw [if_neg (fun q => e q.2), if_neg e]
    rw [e28, w, e26, xr_mn (by rw [z46]; omega), e25, z46, e24, w, e22, xr_nw (by rw [z38]; omega), e21, z38, e20, w, e18, xr_nw (by rw [z30]; omega), e17, z30, e16, w, e14, xr_nw (by rw [z22]; omega), e13, z22, e12, w, e10, xr_nw (by rw [z14]; omega), e9, z14, e8, w, e6, xr_nw (by rw [z6]; omega), e5, z6, e4, w, e2, xr_nw (by omega), e1]
  have eM : ∀ j, M78 r j = if j = 12 then 10 else if j = 11 then 50 else if j = 10 then 1 else M r j := fun j => by
    have w : ∀ (N : xMe) (i : Nat) (v : Int), xw N r i v r j = if j = i then v else N r j := fun N i v => by
      by_cases e : j = i
      · rw [if_pos e, e]; exact xw_s
      · rw [if_neg e]; exact xw_j e
    have w0 : ∀ (N : xMe) (a : Nat), r ≠ a → xw0 N a r j = N r j := fun N a h => by rw [xw0_B h]
    rw [e31, w, e30, w, e29, w, e27]
    have em : xm0 M46 a57 6 r j = M46 r j := by unfold xm0; rw [if_neg (by rw [e25, z46]; omega)]
    rw [em, e23, w0 _ _ (by rw [e21, z38]; omega), e19, w0 _ _ (by rw [e17, z30]; omega), e15, w0 _ _ (by rw [e13, z22]; omega), e11, w0 _ _ (by rw [e9, z14]; omega), e7, w0 _ _ (by rw [e5, z6]; omega), e3, w0 _ _ (by rw [e1]; omega)]
  refine hq t61 M78 f78 z57 (fun k k0 k1 => ⟨?_, ?_, ?_⟩) (by rw [er, if_pos rfl]) (by rw [ek, if_pos rfl]) (by rw [en, if_pos rfl]) (fun g hg => ⟨?_, ?_, ?_, fun j => ?_⟩) (by rw [er]; rfl) (by rw [eM]; rfl) (by rw [eM]; rfl) (by rw [eM]; rfl) (fun j hj => by rw [eM, if_neg (by omega), if_neg (by omega), if_neg (by omega)])
  · rw [er]
    have : k = 1 ∨ k = 2 ∨ k = 3 ∨ k = 4 ∨ k = 5 ∨ k = 6 := by omega
    rcases this with rfl | rfl | rfl | rfl | rfl | rfl <;> rfl
  · rw [ek, if_neg (by omega), if_neg (by omega), if_pos (by omega)]
  · rw [en, if_neg (by omega), if_neg (by omega), if_pos (by omega)]
  · have hne : xz t + 6 ≠ r := by omega
    rw [e28, xr_wrn hne, e26]
    show (if xz t + 6 = xz t49 then (if g < 6 then some (xz t49 + 1 + g) else none) else _) = _
    rw [z46, if_pos rfl, if_pos hg]
  · rw [ek, if_neg (by omega), if_pos (by omega)]
  · rw [en, if_neg (by omega), if_pos (by omega)]
  · rw [e31, xw_b (by omega), e30, xw_b (by omega), e29, xw_b (by omega), e27]
    unfold xm0
    rw [if_pos (by rw [e25, z46]; omega)]
end RNW
