def p_L_agrees_345 (F : Nat) (Q : Int → xTh → xMe → Prop) (n : Nat) (x0 : Nat) (x1 : Nat) (x2 : Int) (t : xTh) (M : xMe) : Prop :=
    ((x2 = 0 → Q 0 t M) ∧ (x2 ≠ 0 → (∃ b351 : Nat, xr t x1 1 = some b351 ∧ xk t b351 = 17 ∧ (xR ((xn t b351 : Nat) : Int)) ∧ (2 ≤ n ∧ oX11 t x0 ∧ oXQ t x0) ∧ p_L_gate t x0 (((xn t b351 : Nat) : Int)) 0 M (fun r356 t356 M356 => xqw t t356 → xlive t356 → ((r356 ≠ ((-2000000097)) → Q 0 t356 M356) ∧ (r356 = ((-2000000097)) → (∃ b366 : Nat, xr t356 x1 2 = some b366 ∧ xk t356 b366 = 17 ∧ (xR ((xn t356 b366 : Nat) : Int)) ∧ (2 ≤ (n - 2) ∧ oX11 t356 x0 ∧ oXQ t356 x0) ∧ p_L_flow F t356 x0 (((xn t356 b366 : Nat) : Int)) 0 M356 (fun r371 t371 M371 => xqw t356 t371 → xlive t371 → ((r371 ≠ ((-2000000097)) → Q 0 t371 M371) ∧ (r371 = ((-2000000097)) → (∃ b381 : Nat, xr t371 x1 4 = some b381 ∧ xk t371 b381 = 17 ∧ (xR ((xn t371 b381 : Nat) : Int)) ∧ (2 ≤ ((n - 2) - 2) ∧ oX11 t371 x0 ∧ oXQ t371 x0) ∧ p_L_packet t371 x0 (((xn t371 b381 : Nat) : Int)) 0 M371 (fun r386 t386 M386 => xqw t371 t386 → xlive t386 → ((r386 ≠ ((-2000000097)) → Q 0 t386 M386) ∧ (r386 = ((-2000000097)) → (∃ b396 : Nat, xr t386 x1 5 = some b396 ∧ xk t386 b396 = 17 ∧ (xR ((xn t386 b396 : Nat) : Int)) ∧ (2 ≤ (((n - 2) - 2) - 2) ∧ oX11 t386 x0 ∧ oXQ t386 x0) ∧ p_L_coupon t386 x0 (((xn t386 b396 : Nat) : Int)) 0 M386 (fun r401 t401 M401 => xqw t386 t401 → xlive t401 → ((r401 ≠ ((-2000000097)) → Q 0 t401 M401) ∧ (r401 = ((-2000000097)) → Q 1 t401 M401))))))))))))))))))
def p_L_agrees_339 (F : Nat) (Q : Int → xTh → xMe → Prop) (K261 : Nat → Nat → Nat → Int → Int → xTh → xMe → Prop) (K345 : Nat → Nat → Nat → Int → xTh → xMe → Prop) (n : Nat) (x0 : Nat) (x1 : Nat) (x2 : Int) (x3 : Int) (t : xTh) (M : xMe) : Prop :=
    (xR (x3 + 1)) ∧ K261 n x0 x1 x2 (x3 + 1) t M
def p_L_agrees_277 (F : Nat) (Q : Int → xTh → xMe → Prop) (K261 : Nat → Nat → Nat → Int → Int → xTh → xMe → Prop) (K339 : Nat → Nat → Nat → Int → Int → xTh → xMe → Prop) (K345 : Nat → Nat → Nat → Int → xTh → xMe → Prop) : Nat → Nat → Nat → Nat → Int → Int → Int → xTh → xMe → Prop
  | 0, _, _, _, _, _, _, _, _ => False
  | k + 1, n, x0, x1, x2, x3, x4, t, M =>
    (∃ b280 : Nat, xr t x1 2 = some b280 ∧ xk t b280 = 17 ∧ (xR ((xn t b280 : Nat) : Int)) ∧ (((((xn t b280 : Nat) : Int)) ≤ x4 → K339 n x0 x1 x2 x3 t M) ∧ (x4 < (((xn t b280 : Nat) : Int)) → ((x2 = 0 → K339 n x0 x1 x2 x3 t M) ∧ (x2 ≠ 0 → (2 ≤ n ∧ oX11 t x0 ∧ oXQ t x0) ∧ p_L_tokens t x0 x3 x4 M (fun r295 t295 M295 => xqw t t295 → xlive t295 → (∃ b299 : Nat, xr t295 x1 7 = some b299 ∧ xk t295 b299 = 17 ∧ ((0 : Int) ≤ x3 ∧ x3 < (xn t295 b299 : Int)) ∧ (∃ b303 : Nat, xr t295 b299 x3.toNat = some b303 ∧ xk t295 b303 = 14 ∧ ((0 : Int) ≤ x4 ∧ x4 < (xn t295 b303 : Int)) ∧ ((r295 ≠ (M295 b303 x4.toNat) → (xR (x4 + 1)) ∧ p_L_agrees_277 F Q K261 K339 K345 k ((n - 2)) x0 x1 0 x3 (x4 + 1) t295 M295) ∧ (r295 = (M295 b303 x4.toNat) → (2 ≤ (n - 2) ∧ oX11 t295 x0 ∧ oXQ t295 x0) ∧ p_L_queue t295 x0 x3 x4 M295 (fun r314 t314 M314 => xqw t295 t314 → xlive t314 → (∃ k321 : Nat, k321 ≤ ((n - 2) - 2) ∧ p_X14_queue F k321 t314 x1 x3 x4 M314 (fun r321 t321 M321 => ((r314 ≠ r321 → (xR (x4 + 1)) ∧ p_L_agrees_277 F Q K261 K339 K345 k ((((n - 2) - 2) - k321)) x0 x1 0 x3 (x4 + 1) t321 M321) ∧ (r314 = r321 → (xR (x4 + 1)) ∧ p_L_agrees_277 F Q K261 K339 K345 k ((((n - 2) - 2) - k321)) x0 x1 1 x3 (x4 + 1) t321 M321)))))))))))))))
def p_L_agrees_261 (F : Nat) (Q : Int → xTh → xMe → Prop) (K345 : Nat → Nat → Nat → Int → xTh → xMe → Prop) : Nat → Nat → Nat → Nat → Int → Int → xTh → xMe → Prop
  | 0, _, _, _, _, _, _, _ => False
  | k + 1, n, x0, x1, x2, x3, t, M =>
    (∃ b263 : Nat, xr t x1 1 = some b263 ∧ xk t b263 = 17 ∧ (xR ((xn t b263 : Nat) : Int)) ∧ (((((xn t b263 : Nat) : Int)) ≤ x3 → K345 n x0 x1 x2 t M) ∧ (x3 < (((xn t b263 : Nat) : Int)) → ((x2 = 0 → K345 n x0 x1 x2 t M) ∧ (x2 ≠ 0 → p_L_agrees_277 F Q (p_L_agrees_261 F Q K345 k) (p_L_agrees_339 F Q (p_L_agrees_261 F Q K345 k) K345) K345 F n x0 x1 x2 x3 0 t M)))))
def p_L_agrees_259 (F : Nat) (Q : Int → xTh → xMe → Prop) (n : Nat) (x0 : Nat) (x1 : Nat) (x2 : Int) (t : xTh) (M : xMe) : Prop :=
    p_L_agrees_261 F Q (p_L_agrees_345 F Q) F n x0 x1 x2 0 t M
def p_L_agrees_253 (F : Nat) (Q : Int → xTh → xMe → Prop) (K196 : Nat → Nat → Nat → Int → Int → xTh → xMe → Prop) (K259 : Nat → Nat → Nat → Int → xTh → xMe → Prop) (n : Nat) (x0 : Nat) (x1 : Nat) (x2 : Int) (x3 : Int) (t : xTh) (M : xMe) : Prop :=
    (xR (x3 + 1)) ∧ K196 n x0 x1 x2 (x3 + 1) t M
def p_L_agrees_212 (F : Nat) (Q : Int → xTh → xMe → Prop) (K196 : Nat → Nat → Nat → Int → Int → xTh → xMe → Prop) (K253 : Nat → Nat → Nat → Int → Int → xTh → xMe → Prop) (K259 : Nat → Nat → Nat → Int → xTh → xMe → Prop) : Nat → Nat → Nat → Nat → Int → Int → Int → xTh → xMe → Prop
  | 0, _, _, _, _, _, _, _, _ => False
  | k + 1, n, x0, x1, x2, x3, x4, t, M =>
    ((4 ≤ x4 → K253 n x0 x1 x2 x3 t M) ∧ (x4 < 4 → ((x2 = 0 → K253 n x0 x1 x2 x3 t M) ∧ (x2 ≠ 0 → (2 ≤ n ∧ oX11 t x0 ∧ oXQ t x0) ∧ p_L_coupon t x0 x3 x4 M (fun r226 t226 M226 => xqw t t226 → xlive t226 → (∃ b230 : Nat, xr t226 x1 5 = some b230 ∧ xk t226 b230 = 17 ∧ ((0 : Int) ≤ x3 ∧ x3 < (xn t226 b230 : Int)) ∧ (∃ b234 : Nat, xr t226 b230 x3.toNat = some b234 ∧ xk t226 b234 = 14 ∧ ((0 : Int) ≤ x4 ∧ x4 < (xn t226 b234 : Int)) ∧ ((r226 ≠ (M226 b234 x4.toNat) → (xR (x4 + 1)) ∧ p_L_agrees_212 F Q K196 K253 K259 k ((n - 2)) x0 x1 0 x3 (x4 + 1) t226 M226) ∧ (r226 = (M226 b234 x4.toNat) → (xR (x4 + 1)) ∧ p_L_agrees_212 F Q K196 K253 K259 k ((n - 2)) x0 x1 1 x3 (x4 + 1) t226 M226)))))))))
def p_L_agrees_196 (F : Nat) (Q : Int → xTh → xMe → Prop) (K259 : Nat → Nat → Nat → Int → xTh → xMe → Prop) : Nat → Nat → Nat → Nat → Int → Int → xTh → xMe → Prop
  | 0, _, _, _, _, _, _, _ => False
  | k + 1, n, x0, x1, x2, x3, t, M =>
    (∃ b198 : Nat, xr t x1 5 = some b198 ∧ xk t b198 = 17 ∧ (xR ((xn t b198 : Nat) : Int)) ∧ (((((xn t b198 : Nat) : Int)) ≤ x3 → K259 n x0 x1 x2 t M) ∧ (x3 < (((xn t b198 : Nat) : Int)) → ((x2 = 0 → K259 n x0 x1 x2 t M) ∧ (x2 ≠ 0 → p_L_agrees_212 F Q (p_L_agrees_196 F Q K259 k) (p_L_agrees_253 F Q (p_L_agrees_196 F Q K259 k) K259) K259 F n x0 x1 x2 x3 0 t M)))))
def p_L_agrees_194 (F : Nat) (Q : Int → xTh → xMe → Prop) (n : Nat) (x0 : Nat) (x1 : Nat) (x2 : Int) (t : xTh) (M : xMe) : Prop :=
    p_L_agrees_196 F Q (p_L_agrees_259 F Q) F n x0 x1 x2 0 t M
def p_L_agrees_188 (F : Nat) (Q : Int → xTh → xMe → Prop) (K132 : Nat → Nat → Nat → Int → Int → xTh → xMe → Prop) (K194 : Nat → Nat → Nat → Int → xTh → xMe → Prop) (n : Nat) (x0 : Nat) (x1 : Nat) (x2 : Int) (x3 : Int) (t : xTh) (M : xMe) : Prop :=
    (xR (x3 + 1)) ∧ K132 n x0 x1 x2 (x3 + 1) t M
def p_L_agrees_148 (F : Nat) (Q : Int → xTh → xMe → Prop) (K132 : Nat → Nat → Nat → Int → Int → xTh → xMe → Prop) (K188 : Nat → Nat → Nat → Int → Int → xTh → xMe → Prop) (K194 : Nat → Nat → Nat → Int → xTh → xMe → Prop) : Nat → Nat → Nat → Nat → Int → Int → Int → xTh → xMe → Prop
  | 0, _, _, _, _, _, _, _, _ => False
  | k + 1, n, x0, x1, x2, x3, x4, t, M =>
    ((7 ≤ x4 → K188 n x0 x1 x2 x3 t M) ∧ (x4 < 7 → ((x2 = 0 → K188 n x0 x1 x2 x3 t M) ∧ (x2 ≠ 0 → (2 ≤ n ∧ oX11 t x0 ∧ oXQ t x0) ∧ p_L_packet t x0 x3 x4 M (fun r163 t163 M163 => xqw t t163 → xlive t163 → (∃ k170 : Nat, k170 ≤ (n - 2) ∧ p_X14_packet F k170 t163 x1 x3 x4 M163 (fun r170 t170 M170 => ((r163 ≠ r170 → (xR (x4 + 1)) ∧ p_L_agrees_148 F Q K132 K188 K194 k (((n - 2) - k170)) x0 x1 0 x3 (x4 + 1) t170 M170) ∧ (r163 = r170 → (xR (x4 + 1)) ∧ p_L_agrees_148 F Q K132 K188 K194 k (((n - 2) - k170)) x0 x1 1 x3 (x4 + 1) t170 M170)))))))))
def p_L_agrees_132 (F : Nat) (Q : Int → xTh → xMe → Prop) (K194 : Nat → Nat → Nat → Int → xTh → xMe → Prop) : Nat → Nat → Nat → Nat → Int → Int → xTh → xMe → Prop
  | 0, _, _, _, _, _, _, _ => False
  | k + 1, n, x0, x1, x2, x3, t, M =>
    (∃ b134 : Nat, xr t x1 4 = some b134 ∧ xk t b134 = 17 ∧ (xR ((xn t b134 : Nat) : Int)) ∧ (((((xn t b134 : Nat) : Int)) ≤ x3 → K194 n x0 x1 x2 t M) ∧ (x3 < (((xn t b134 : Nat) : Int)) → ((x2 = 0 → K194 n x0 x1 x2 t M) ∧ (x2 ≠ 0 → p_L_agrees_148 F Q (p_L_agrees_132 F Q K194 k) (p_L_agrees_188 F Q (p_L_agrees_132 F Q K194 k) K194) K194 F n x0 x1 x2 x3 0 t M)))))
def p_L_agrees_130 (F : Nat) (Q : Int → xTh → xMe → Prop) (n : Nat) (x0 : Nat) (x1 : Nat) (x2 : Int) (t : xTh) (M : xMe) : Prop :=
    p_L_agrees_132 F Q (p_L_agrees_194 F Q) F n x0 x1 x2 0 t M
def p_L_agrees_124 (F : Nat) (Q : Int → xTh → xMe → Prop) (K68 : Nat → Nat → Nat → Int → Int → xTh → xMe → Prop) (K130 : Nat → Nat → Nat → Int → xTh → xMe → Prop) (n : Nat) (x0 : Nat) (x1 : Nat) (x2 : Int) (x3 : Int) (t : xTh) (M : xMe) : Prop :=
    (xR (x3 + 1)) ∧ K68 n x0 x1 x2 (x3 + 1) t M
def p_L_agrees_84 (F : Nat) (Q : Int → xTh → xMe → Prop) (K68 : Nat → Nat → Nat → Int → Int → xTh → xMe → Prop) (K124 : Nat → Nat → Nat → Int → Int → xTh → xMe → Prop) (K130 : Nat → Nat → Nat → Int → xTh → xMe → Prop) : Nat → Nat → Nat → Nat → Int → Int → Int → xTh → xMe → Prop
  | 0, _, _, _, _, _, _, _, _ => False
  | k + 1, n, x0, x1, x2, x3, x4, t, M =>
    ((6 ≤ x4 → K124 n x0 x1 x2 x3 t M) ∧ (x4 < 6 → ((x2 = 0 → K124 n x0 x1 x2 x3 t M) ∧ (x2 ≠ 0 → (2 ≤ n ∧ oX11 t x0 ∧ oXQ t x0) ∧ p_L_flow F t x0 x3 x4 M (fun r99 t99 M99 => xqw t t99 → xlive t99 → (∃ k106 : Nat, k106 ≤ (n - 2) ∧ p_X14_flow F k106 t99 x1 x3 x4 M99 (fun r106 t106 M106 => ((r99 ≠ r106 → (xR (x4 + 1)) ∧ p_L_agrees_84 F Q K68 K124 K130 k (((n - 2) - k106)) x0 x1 0 x3 (x4 + 1) t106 M106) ∧ (r99 = r106 → (xR (x4 + 1)) ∧ p_L_agrees_84 F Q K68 K124 K130 k (((n - 2) - k106)) x0 x1 1 x3 (x4 + 1) t106 M106)))))))))
def p_L_agrees_68 (F : Nat) (Q : Int → xTh → xMe → Prop) (K130 : Nat → Nat → Nat → Int → xTh → xMe → Prop) : Nat → Nat → Nat → Nat → Int → Int → xTh → xMe → Prop
  | 0, _, _, _, _, _, _, _ => False
  | k + 1, n, x0, x1, x2, x3, t, M =>
    (∃ b70 : Nat, xr t x1 2 = some b70 ∧ xk t b70 = 17 ∧ (xR ((xn t b70 : Nat) : Int)) ∧ (((((xn t b70 : Nat) : Int)) ≤ x3 → K130 n x0 x1 x2 t M) ∧ (x3 < (((xn t b70 : Nat) : Int)) → ((x2 = 0 → K130 n x0 x1 x2 t M) ∧ (x2 ≠ 0 → p_L_agrees_84 F Q (p_L_agrees_68 F Q K130 k) (p_L_agrees_124 F Q (p_L_agrees_68 F Q K130 k) K130) K130 F n x0 x1 x2 x3 0 t M)))))
def p_L_agrees_66 (F : Nat) (Q : Int → xTh → xMe → Prop) (n : Nat) (x0 : Nat) (x1 : Nat) (x2 : Int) (t : xTh) (M : xMe) : Prop :=
    p_L_agrees_68 F Q (p_L_agrees_130 F Q) F n x0 x1 x2 0 t M
def p_L_agrees_31 (F : Nat) (Q : Int → xTh → xMe → Prop) (K66 : Nat → Nat → Nat → Int → xTh → xMe → Prop) : Nat → Nat → Nat → Nat → Int → Int → xTh → xMe → Prop
  | 0, _, _, _, _, _, _, _ => False
  | k + 1, n, x0, x1, x2, x3, t, M =>
    ((10 ≤ x3 → K66 n x0 x1 x2 t M) ∧ (x3 < 10 → ((x2 = 0 → K66 n x0 x1 x2 t M) ∧ (x2 ≠ 0 → (1 ≤ n ∧ oX11 t x0 ∧ oXQ t x0) ∧ p_L_state F t x0 x3 M (fun r43 t43 M43 => xqw t t43 → xlive t43 → (∃ k48 : Nat, k48 ≤ (n - 1) ∧ p_X14_told F k48 t43 x1 x3 M43 (fun r48 t48 M48 => ((r43 ≠ r48 → (xR (x3 + 1)) ∧ p_L_agrees_31 F Q K66 k (((n - 1) - k48)) x0 x1 0 (x3 + 1) t48 M48) ∧ (r43 = r48 → (xR (x3 + 1)) ∧ p_L_agrees_31 F Q K66 k (((n - 1) - k48)) x0 x1 1 (x3 + 1) t48 M48)))))))))
def p_L_agrees_28 (F : Nat) (Q : Int → xTh → xMe → Prop) (n : Nat) (x0 : Nat) (x1 : Nat) (y0 : Int) (t : xTh) (M : xMe) : Prop :=
    p_L_agrees_31 F Q (p_L_agrees_66 F Q) F n x0 x1 y0 0 t M
def p_L_agrees (F : Nat) (n : Nat) (tE : xTh) (x0 : Nat) (x1 : Nat) (ME : xMe) (Q : Int → xTh → xMe → Prop) : Prop :=
  (oX11 tE x0 ∧ oXQ tE x0) ∧ p_X11_checksum F x0 ME (fun r1 M1 => (∃ k5 : Nat, k5 ≤ n ∧ p_X14_checksum F k5 tE x1 M1 (fun r5 t5 M5 => (r1 = r5) ∧ (1 ≤ (n - k5) ∧ oX11 t5 x0 ∧ oXQ t5 x0) ∧ p_L_state F t5 x0 10 M5 (fun r15 t15 M15 => xqw t5 t15 → xlive t15 → ((r15 ≠ ((-2000000098)) → p_L_agrees_28 F Q (((n - k5) - 1)) x0 x1 0 t15 M15) ∧ (r15 = ((-2000000098)) → p_L_agrees_28 F Q (((n - k5) - 1)) x0 x1 1 t15 M15))))))
set_option maxHeartbeats 8000000 in
set_option maxRecDepth 100000 in
theorem c_L_agrees {G : xGx} {tE : xTh} {ME : xMe} {F nE : Nat} {x0 : Nat} {x1 : Nat} {Q : Int → xTh → xMe → Prop} (hME : xMR ME) (hkx1 : xk tE x1 = 20)  (hp : p_L_agrees F nE tE x0 x1 ME Q) : xCt G yL_agrees cL_agrees 5 (some .boolean) 10 nE (64 * nE) [vr x0, vr x1] tE ME (fun v t' M' => ∃ r, v = some (vi r) ∧ xR r ∧ xMR M' ∧ xke tE t' ∧ Q r t' M') (fun _ _ _ => False) := by
  refine xCt_of (L0 := [vr x0, vr x1, vU, vU, vU]) (by decide +kernel) (Nat.le_of_ble_eq_true rfl) rfl ?_
  intro X hX hB
  unfold p_L_agrees at hp
  refine xJ_aload_n hX dL_agrees_0 rfl ?_
  obtain ⟨hw1, hp⟩ := hp
  refine xJ_callV (As := []) hX hB dL_agrees_1 lk_L_201 im_X11_checksum se_X11_checksum rfl (by decide) (oX11_k hw1.1) (c_X11_checksum hw1.1 hME  hp) (by decide) rfl rfl rfl (Nat.le_of_ble_eq_true rfl) (by omega) (by omega) (fun v t1 M1 hv => ?_) (fun _ _ _ q => q.elim)
  clear hp
  obtain ⟨r1, rfl, hM1, ht9, hp⟩ := hv
  replace ht9 := ht9.symm
  subst ht9
  dsimp only [Option.toList, List.cons_append, List.nil_append]
  refine xJ_aload_n hX dL_agrees_4 rfl ?_
  obtain ⟨k5, hn5, hp⟩ := hp
  refine xJ_callV (As := []) hX hB dL_agrees_5 lk_L_205 im_X14_checksum se_X14_checksum rfl (by decide) hkx1 (c_X14_checksum hM1 hkx1 hp) (by decide) rfl rfl rfl (Nat.le_of_ble_eq_true rfl) (by omega) (by omega) (fun v t5 M5 hv => ?_) (fun _ _ _ q => q.elim)
  clear hp
  obtain ⟨r5, rfl, hM5, hq5, hp⟩ := hv
  dsimp only [Option.toList, List.cons_append, List.nil_append]
  obtain ⟨h8, hp⟩ := hp
  refine xJ_lcmpE hX dL_agrees_8 h8 ?_
  have l28 : ∀ (c s n : Nat) (x0 : Nat) (x1 : Nat) (y0 : Int) (t : xTh) (M : xMe) (hc : c + n ≤ nE) (hs : s + 64 * n ≤ 64 * nE) (hM : xMR M) (hqE : xke tE t) (hkx1 : xk t x1 = 20) (hy0 : xR y0) (hp : p_L_agrees_28 F Q n x0 x1 y0 t M), xJ X c s t M 28 [vr x0, vr x1, vU, vU, vU] [vi y0] := by
    intro c s n x0 x1 y0 t M hc hs hM hqE hkx1 hy0 hp
    unfold p_L_agrees_28 at hp
    refine xJ_istore_n hX dL_agrees_28 (Nat.le_of_ble_eq_true rfl) rfl ?_
    dsimp only [List.set]
    refine xJ_iconst hX dL_agrees_29 ?_
    refine xJ_istore_n hX dL_agrees_30 (Nat.le_of_ble_eq_true rfl) rfl ?_
    dsimp only [List.set]
    have l66 : ∀ (c s n : Nat) (x0 : Nat) (x1 : Nat) (x2 : Int) (t : xTh) (M : xMe) (hc : c + n ≤ nE) (hs : s + 64 * n ≤ 64 * nE) (hM : xMR M) (hqE : xke tE t) (hkx1 : xk t x1 = 20) (hx2 : xR x2) (hp : p_L_agrees_66 F Q n x0 x1 x2 t M), xJ X c s t M 66 [vr x0, vr x1, vi x2, vU, vU] [] := by
      intro c s n x0 x1 x2 t M hc hs hM hqE hkx1 hx2 hp
      unfold p_L_agrees_66 at hp
      refine xJ_iconst hX dL_agrees_66 ?_
      refine xJ_istore_n hX dL_agrees_67 (Nat.le_of_ble_eq_true rfl) rfl ?_
      dsimp only [List.set]
      have l130 : ∀ (c s n : Nat) (x0 : Nat) (x1 : Nat) (x2 : Int) (t : xTh) (M : xMe) (hc : c + n ≤ nE) (hs : s + 64 * n ≤ 64 * nE) (hM : xMR M) (hqE : xke tE t) (hkx1 : xk t x1 = 20) (hx2 : xR x2) (hp : p_L_agrees_130 F Q n x0 x1 x2 t M), xJ X c s t M 130 [vr x0, vr x1, vi x2, vU, vU] [] := by
        intro c s n x0 x1 x2 t M hc hs hM hqE hkx1 hx2 hp
        unfold p_L_agrees_130 at hp
        refine xJ_iconst hX dL_agrees_130 ?_
        refine xJ_istore_n hX dL_agrees_131 (Nat.le_of_ble_eq_true rfl) rfl ?_
        dsimp only [List.set]
        have l194 : ∀ (c s n : Nat) (x0 : Nat) (x1 : Nat) (x2 : Int) (t : xTh) (M : xMe) (hc : c + n ≤ nE) (hs : s + 64 * n ≤ 64 * nE) (hM : xMR M) (hqE : xke tE t) (hkx1 : xk t x1 = 20) (hx2 : xR x2) (hp : p_L_agrees_194 F Q n x0 x1 x2 t M), xJ X c s t M 194 [vr x0, vr x1, vi x2, vU, vU] [] := by
          intro c s n x0 x1 x2 t M hc hs hM hqE hkx1 hx2 hp
          unfold p_L_agrees_194 at hp
          refine xJ_iconst hX dL_agrees_194 ?_
          refine xJ_istore_n hX dL_agrees_195 (Nat.le_of_ble_eq_true rfl) rfl ?_
          dsimp only [List.set]
          have l259 : ∀ (c s n : Nat) (x0 : Nat) (x1 : Nat) (x2 : Int) (t : xTh) (M : xMe) (hc : c + n ≤ nE) (hs : s + 64 * n ≤ 64 * nE) (hM : xMR M) (hqE : xke tE t) (hkx1 : xk t x1 = 20) (hx2 : xR x2) (hp : p_L_agrees_259 F Q n x0 x1 x2 t M), xJ X c s t M 259 [vr x0, vr x1, vi x2, vU, vU] [] := by
            intro c s n x0 x1 x2 t M hc hs hM hqE hkx1 hx2 hp
            unfold p_L_agrees_259 at hp
            refine xJ_iconst hX dL_agrees_259 ?_
            refine xJ_istore_n hX dL_agrees_260 (Nat.le_of_ble_eq_true rfl) rfl ?_
            dsimp only [List.set]
            have l345 : ∀ (c s n : Nat) (x0 : Nat) (x1 : Nat) (x2 : Int) (t : xTh) (M : xMe) (hc : c + n ≤ nE) (hs : s + 64 * n ≤ 64 * nE) (hM : xMR M) (hqE : xke tE t) (hkx1 : xk t x1 = 20) (hx2 : xR x2) (hp : p_L_agrees_345 F Q n x0 x1 x2 t M), xJ X c s t M 345 [vr x0, vr x1, vi x2, vU, vU] [] := by
              intro c s n x0 x1 x2 t M hc hs hM hqE hkx1 hx2 hp
              unfold p_L_agrees_345 at hp
              refine xJ_iload_n hX dL_agrees_345 rfl ?_
              refine xJ_if_eq hX dL_agrees_346 (tgt := 413) (by decide) hx2 (fun c346 => ?_) (fun c346 => ?_)
              · replace hp := hp.1 c346
                refine xJ_iconst hX dL_agrees_413 ?_
                exact xJ_zret hX hB dL_agrees_414 rfl (by omega) (by omega) ⟨_, rfl, ⟨by decide, by decide⟩, hM, hqE, hp⟩
              · replace hp := hp.2 c346
                refine xJ_aload_n hX dL_agrees_349 rfl ?_
                refine xJ_aload_n hX dL_agrees_350 rfl ?_
                obtain ⟨b351, e351, hkb351, hp⟩ := hp
                refine xJ_getR (b := b351) hX dL_agrees_351 fd_L_133 rfl hkx1 e351 ?_
                refine xJ_alen hX dL_agrees_354 (by rw [hkb351]; decide) (by rw [hkb351]; decide) ?_
                obtain ⟨h354, hp⟩ := hp
                refine xJ_iconst hX dL_agrees_355 ?_
                obtain ⟨hw356, hp⟩ := hp
                have hn356 := hw356.1
                refine xJ_callSW (As := [_, _, _]) hX hB dL_agrees_356 lkw_L_gate sm_L_gate (c_L_gate hw356.2.1 hM h354 ⟨by decide, by decide⟩ hp) (by decide) rfl rfl rfl (Nat.le_of_ble_eq_true rfl) (by omega) (by omega) (fun v t356 M356 hv => ?_)
                clear hp
                obtain ⟨r356, rfl, h356, hM356, hqw356, hp⟩ := hv
                have hq356 := xke_qw hqw356
                refine xJ_live fun hlv356 => ?_
                replace hp := hp hqw356 hlv356
                dsimp only [Option.toList, List.cons_append, List.nil_append]
                refine xJ_ldc (-2000000097) hX dL_agrees_359 kc_L_52 ?_
                refine xJ_icmp_ne hX dL_agrees_361 (tgt := 413) (by decide) h356 ⟨by decide, by decide⟩ (fun c361 => ?_) (fun c361 => ?_)
                · replace hp := hp.1 c361
                  refine xJ_iconst hX dL_agrees_413 ?_
                  exact xJ_zret hX hB dL_agrees_414 rfl (by omega) (by omega) ⟨_, rfl, ⟨by decide, by decide⟩, hM356, (xke_trans hqE hq356), hp⟩
                · replace hp := hp.2 c361
                  refine xJ_aload_n hX dL_agrees_364 rfl ?_
                  refine xJ_aload_n hX dL_agrees_365 rfl ?_
                  obtain ⟨b366, e366, hkb366, hp⟩ := hp
                  refine xJ_getR (b := b366) hX dL_agrees_366 fd_L_151 rfl (xke_k hq356 hkx1 (by decide)) e366 ?_
                  refine xJ_alen hX dL_agrees_369 (by rw [hkb366]; decide) (by rw [hkb366]; decide) ?_
                  obtain ⟨h369, hp⟩ := hp
                  refine xJ_iconst hX dL_agrees_370 ?_
                  obtain ⟨hw371, hp⟩ := hp
                  have hn371 := hw371.1
                  refine xJ_callSW (As := [_, _, _]) hX hB dL_agrees_371 lkw_L_flow sm_L_flow (c_L_flow hw371.2.1 hM356 h369 ⟨by decide, by decide⟩ hp) (by decide) rfl rfl rfl (Nat.le_of_ble_eq_true rfl) (by omega) (by omega) (fun v t371 M371 hv => ?_)
                  clear hp
                  obtain ⟨r371, rfl, h371, hM371, hqw371, hp⟩ := hv
                  have hq371 := xke_qw hqw371
                  refine xJ_live fun hlv371 => ?_
                  replace hp := hp hqw371 hlv371
                  dsimp only [Option.toList, List.cons_append, List.nil_append]
                  refine xJ_ldc (-2000000097) hX dL_agrees_374 kc_L_52 ?_
                  refine xJ_icmp_ne hX dL_agrees_376 (tgt := 413) (by decide) h371 ⟨by decide, by decide⟩ (fun c376 => ?_) (fun c376 => ?_)
                  · replace hp := hp.1 c376
                    refine xJ_iconst hX dL_agrees_413 ?_
                    exact xJ_zret hX hB dL_agrees_414 rfl (by omega) (by omega) ⟨_, rfl, ⟨by decide, by decide⟩, hM371, (xke_trans (xke_trans hqE hq356) hq371), hp⟩
                  · replace hp := hp.2 c376
                    refine xJ_aload_n hX dL_agrees_379 rfl ?_
                    refine xJ_aload_n hX dL_agrees_380 rfl ?_
                    obtain ⟨b381, e381, hkb381, hp⟩ := hp
                    refine xJ_getR (b := b381) hX dL_agrees_381 fd_L_157 rfl (xke_k hq371 (xke_k hq356 hkx1 (by decide)) (by decide)) e381 ?_
                    refine xJ_alen hX dL_agrees_384 (by rw [hkb381]; decide) (by rw [hkb381]; decide) ?_
                    obtain ⟨h384, hp⟩ := hp
                    refine xJ_iconst hX dL_agrees_385 ?_
                    obtain ⟨hw386, hp⟩ := hp
                    have hn386 := hw386.1
                    refine xJ_callSW (As := [_, _, _]) hX hB dL_agrees_386 lkw_L_packet sm_L_packet (c_L_packet hw386.2.1 hM371 h384 ⟨by decide, by decide⟩ hp) (by decide) rfl rfl rfl (Nat.le_of_ble_eq_true rfl) (by omega) (by omega) (fun v t386 M386 hv => ?_)
                    clear hp
                    obtain ⟨r386, rfl, h386, hM386, hqw386, hp⟩ := hv
                    have hq386 := xke_qw hqw386
                    refine xJ_live fun hlv386 => ?_
                    replace hp := hp hqw386 hlv386
                    dsimp only [Option.toList, List.cons_append, List.nil_append]
                    refine xJ_ldc (-2000000097) hX dL_agrees_389 kc_L_52 ?_
                    refine xJ_icmp_ne hX dL_agrees_391 (tgt := 413) (by decide) h386 ⟨by decide, by decide⟩ (fun c391 => ?_) (fun c391 => ?_)
                    · replace hp := hp.1 c391
                      refine xJ_iconst hX dL_agrees_413 ?_
                      exact xJ_zret hX hB dL_agrees_414 rfl (by omega) (by omega) ⟨_, rfl, ⟨by decide, by decide⟩, hM386, (xke_trans (xke_trans (xke_trans hqE hq356) hq371) hq386), hp⟩
                    · replace hp := hp.2 c391
                      refine xJ_aload_n hX dL_agrees_394 rfl ?_
                      refine xJ_aload_n hX dL_agrees_395 rfl ?_
                      obtain ⟨b396, e396, hkb396, hp⟩ := hp
                      refine xJ_getR (b := b396) hX dL_agrees_396 fd_L_161 rfl (xke_k hq386 (xke_k hq371 (xke_k hq356 hkx1 (by decide)) (by decide)) (by decide)) e396 ?_
                      refine xJ_alen hX dL_agrees_399 (by rw [hkb396]; decide) (by rw [hkb396]; decide) ?_
                      obtain ⟨h399, hp⟩ := hp
                      refine xJ_iconst hX dL_agrees_400 ?_
                      obtain ⟨hw401, hp⟩ := hp
                      have hn401 := hw401.1
                      refine xJ_callSW (As := [_, _, _]) hX hB dL_agrees_401 lkw_L_coupon sm_L_coupon (c_L_coupon hw401.2.1 hM386 h399 ⟨by decide, by decide⟩ hp) (by decide) rfl rfl rfl (Nat.le_of_ble_eq_true rfl) (by omega) (by omega) (fun v t401 M401 hv => ?_)
                      clear hp
                      obtain ⟨r401, rfl, h401, hM401, hqw401, hp⟩ := hv
                      have hq401 := xke_qw hqw401
                      refine xJ_live fun hlv401 => ?_
                      replace hp := hp hqw401 hlv401
                      dsimp only [Option.toList, List.cons_append, List.nil_append]
                      refine xJ_ldc (-2000000097) hX dL_agrees_404 kc_L_52 ?_
                      refine xJ_icmp_ne hX dL_agrees_406 (tgt := 413) (by decide) h401 ⟨by decide, by decide⟩ (fun c406 => ?_) (fun c406 => ?_)
                      · replace hp := hp.1 c406
                        refine xJ_iconst hX dL_agrees_413 ?_
                        exact xJ_zret hX hB dL_agrees_414 rfl (by omega) (by omega) ⟨_, rfl, ⟨by decide, by decide⟩, hM401, (xke_trans (xke_trans (xke_trans (xke_trans hqE hq356) hq371) hq386) hq401), hp⟩
                      · replace hp := hp.2 c406
                        refine xJ_iconst hX dL_agrees_409 ?_
                        refine xJ_goto hX dL_agrees_410 (tgt := 414) (by decide) ?_
                        exact xJ_zret hX hB dL_agrees_414 rfl (by omega) (by omega) ⟨_, rfl, ⟨by decide, by decide⟩, hM401, (xke_trans (xke_trans (xke_trans (xke_trans hqE hq356) hq371) hq386) hq401), hp⟩
            have l261 : ∀ (k261 : Nat) (c s n : Nat) (x0 : Nat) (x1 : Nat) (x2 : Int) (x3 : Int) (t : xTh) (M : xMe) (hc : c + n ≤ nE) (hs : s + 64 * n ≤ 64 * nE) (hM : xMR M) (hqE : xke tE t) (hkx1 : xk t x1 = 20) (hx2 : xR x2) (hx3 : xR x3) (hp : p_L_agrees_261 F Q (p_L_agrees_345 F Q) k261 n x0 x1 x2 x3 t M), xJ X c s t M 261 [vr x0, vr x1, vi x2, vi x3, vU] [] := by
              intro k261
              induction k261 with
              | zero => intro c s n x0 x1 x2 x3 t M hc hs hM hqE hkx1 hx2 hx3 hp; exact hp.elim
              | succ k261 ih261 =>
                intro c s n x0 x1 x2 x3 t M hc hs hM hqE hkx1 hx2 hx3 hp
                unfold p_L_agrees_261 at hp
                refine xJ_iload_n hX dL_agrees_261 rfl ?_
                refine xJ_aload_n hX dL_agrees_262 rfl ?_
                obtain ⟨b263, e263, hkb263, hp⟩ := hp
                refine xJ_getR (b := b263) hX dL_agrees_263 fd_L_133 rfl hkx1 e263 ?_
                refine xJ_alen hX dL_agrees_266 (by rw [hkb263]; decide) (by rw [hkb263]; decide) ?_
                obtain ⟨h266, hp⟩ := hp
                refine xJ_icmp_ge hX dL_agrees_267 (tgt := 345) (by decide) hx3 h266 (fun c267 => ?_) (fun c267 => ?_)
                · replace hp := hp.1 c267
                  refine xJ_fg 3 ?_
                  dsimp only [List.set]
                  exact l345 _ _ _ _ _ _ _ _ (by omega) (by omega) hM hqE hkx1 hx2 hp
                · replace hp := hp.2 c267
                  refine xJ_iload_n hX dL_agrees_270 rfl ?_
                  refine xJ_if_eq hX dL_agrees_271 (tgt := 345) (by decide) hx2 (fun c271 => ?_) (fun c271 => ?_)
                  · replace hp := hp.1 c271
                    refine xJ_fg 3 ?_
                    dsimp only [List.set]
                    exact l345 _ _ _ _ _ _ _ _ (by omega) (by omega) hM hqE hkx1 hx2 hp
                  · replace hp := hp.2 c271
                    refine xJ_iconst hX dL_agrees_274 ?_
                    refine xJ_istore hX dL_agrees_275 (Nat.le_of_ble_eq_true rfl) rfl ?_
                    dsimp only [List.set]
                    have l339 : ∀ (c s n : Nat) (x0 : Nat) (x1 : Nat) (x2 : Int) (x3 : Int) (t : xTh) (M : xMe) (hc : c + n ≤ nE) (hs : s + 64 * n ≤ 64 * nE) (hM : xMR M) (hqE : xke tE t) (hkx1 : xk t x1 = 20) (hx2 : xR x2) (hx3 : xR x3) (hp : p_L_agrees_339 F Q (p_L_agrees_261 F Q (p_L_agrees_345 F Q) k261) (p_L_agrees_345 F Q) n x0 x1 x2 x3 t M), xJ X c s t M 339 [vr x0, vr x1, vi x2, vi x3, vU] [] := by
                      intro c s n x0 x1 x2 x3 t M hc hs hM hqE hkx1 hx2 hx3 hp
                      unfold p_L_agrees_339 at hp
                      refine xJ_iinc hX dL_agrees_339 rfl rfl ?_
                      dsimp only [List.set]
                      obtain ⟨h339, hp⟩ := hp
                      refine xJ_goto hX dL_agrees_342 (tgt := 261) (by decide) ?_
                      exact ih261 _ _ _ _ _ _ _ _ _ (by omega) (by omega) hM hqE hkx1 hx2 h339 hp
                    have l277 : ∀ (k277 : Nat) (c s n : Nat) (x0 : Nat) (x1 : Nat) (x2 : Int) (x3 : Int) (x4 : Int) (t : xTh) (M : xMe) (hc : c + n ≤ nE) (hs : s + 64 * n ≤ 64 * nE) (hM : xMR M) (hqE : xke tE t) (hkx1 : xk t x1 = 20) (hx2 : xR x2) (hx3 : xR x3) (hx4 : xR x4) (hp : p_L_agrees_277 F Q (p_L_agrees_261 F Q (p_L_agrees_345 F Q) k261) (p_L_agrees_339 F Q (p_L_agrees_261 F Q (p_L_agrees_345 F Q) k261) (p_L_agrees_345 F Q)) (p_L_agrees_345 F Q) k277 n x0 x1 x2 x3 x4 t M), xJ X c s t M 277 [vr x0, vr x1, vi x2, vi x3, vi x4] [] := by
                      intro k277
                      induction k277 with
                      | zero => intro c s n x0 x1 x2 x3 x4 t M hc hs hM hqE hkx1 hx2 hx3 hx4 hp; exact hp.elim
                      | succ k277 ih277 =>
                        intro c s n x0 x1 x2 x3 x4 t M hc hs hM hqE hkx1 hx2 hx3 hx4 hp
                        unfold p_L_agrees_277 at hp
                        refine xJ_iload hX dL_agrees_277 rfl ?_
                        refine xJ_aload_n hX dL_agrees_279 rfl ?_
                        obtain ⟨b280, e280, hkb280, hp⟩ := hp
                        refine xJ_getR (b := b280) hX dL_agrees_280 fd_L_151 rfl hkx1 e280 ?_
                        refine xJ_alen hX dL_agrees_283 (by rw [hkb280]; decide) (by rw [hkb280]; decide) ?_
                        obtain ⟨h283, hp⟩ := hp
                        refine xJ_icmp_ge hX dL_agrees_284 (tgt := 339) (by decide) hx4 h283 (fun c284 => ?_) (fun c284 => ?_)
                        · replace hp := hp.1 c284
                          refine xJ_fg 4 ?_
                          dsimp only [List.set]
                          exact l339 _ _ _ _ _ _ _ _ _ (by omega) (by omega) hM hqE hkx1 hx2 hx3 hp
                        · replace hp := hp.2 c284
                          refine xJ_iload_n hX dL_agrees_287 rfl ?_
                          refine xJ_if_eq hX dL_agrees_288 (tgt := 339) (by decide) hx2 (fun c288 => ?_) (fun c288 => ?_)
                          · replace hp := hp.1 c288
                            refine xJ_fg 4 ?_
                            dsimp only [List.set]
                            exact l339 _ _ _ _ _ _ _ _ _ (by omega) (by omega) hM hqE hkx1 hx2 hx3 hp
                          · replace hp := hp.2 c288
                            refine xJ_aload_n hX dL_agrees_291 rfl ?_
                            refine xJ_iload_n hX dL_agrees_292 rfl ?_
                            refine xJ_iload hX dL_agrees_293 rfl ?_
                            obtain ⟨hw295, hp⟩ := hp
                            have hn295 := hw295.1
                            refine xJ_callSW (As := [_, _, _]) hX hB dL_agrees_295 lkw_L_tokens sm_L_tokens (c_L_tokens hw295.2.1 hM hx3 hx4 hp) (by decide) rfl rfl rfl (Nat.le_of_ble_eq_true rfl) (by omega) (by omega) (fun v t295 M295 hv => ?_)
                            clear hp
                            obtain ⟨r295, rfl, h295, hM295, hqw295, hp⟩ := hv
                            have hq295 := xke_qw hqw295
                            refine xJ_live fun hlv295 => ?_
                            replace hp := hp hqw295 hlv295
                            dsimp only [Option.toList, List.cons_append, List.nil_append]
                            refine xJ_aload_n hX dL_agrees_298 rfl ?_
                            obtain ⟨b299, e299, hkb299, hp⟩ := hp
                            refine xJ_getR (b := b299) hX dL_agrees_299 fd_L_195 rfl (xke_k hq295 hkx1 (by decide)) e299 ?_
                            refine xJ_iload_n hX dL_agrees_302 rfl ?_
                            obtain ⟨h303, hp⟩ := hp
                            obtain ⟨b303, e303, hkb303, hp⟩ := hp
                            refine xJ_aaldOb hX dL_agrees_303 hkb299 h303.1 h303.2 e303 ?_
                            refine xJ_iload hX dL_agrees_304 rfl ?_
                            obtain ⟨h306, hp⟩ := hp
                            refine xJ_iald hX dL_agrees_306 hkb303 h306.1 h306.2 ?_
                            refine xJ_icmp_ne hX dL_agrees_307 (tgt := 331) (by decide) h295 (hM295 _ _) (fun c307 => ?_) (fun c307 => ?_)
                            · replace hp := hp.1 c307
                              refine xJ_iconst hX dL_agrees_331 ?_
                              refine xJ_istore_n hX dL_agrees_332 (Nat.le_of_ble_eq_true rfl) rfl ?_
                              dsimp only [List.set]
                              refine xJ_iinc hX dL_agrees_333 rfl rfl ?_
                              dsimp only [List.set]
                              obtain ⟨h333, hp⟩ := hp
                              refine xJ_goto hX dL_agrees_336 (tgt := 277) (by decide) ?_
                              exact ih277 _ _ _ _ _ _ _ _ _ _ (by omega) (by omega) hM295 (xke_trans hqE hq295) (xke_k hq295 hkx1 (by decide)) ⟨by decide, by decide⟩ hx3 h333 hp
                            · replace hp := hp.2 c307
                              refine xJ_aload_n hX dL_agrees_310 rfl ?_
                              refine xJ_iload_n hX dL_agrees_311 rfl ?_
                              refine xJ_iload hX dL_agrees_312 rfl ?_
                              obtain ⟨hw314, hp⟩ := hp
                              have hn314 := hw314.1
                              refine xJ_callSW (As := [_, _, _]) hX hB dL_agrees_314 lkw_L_queue sm_L_queue (c_L_queue hw314.2.1 hM295 hx3 hx4 hp) (by decide) rfl rfl rfl (Nat.le_of_ble_eq_true rfl) (by omega) (by omega) (fun v t314 M314 hv => ?_)
                              clear hp
                              obtain ⟨r314, rfl, h314, hM314, hqw314, hp⟩ := hv
                              have hq314 := xke_qw hqw314
                              refine xJ_live fun hlv314 => ?_
                              replace hp := hp hqw314 hlv314
                              dsimp only [Option.toList, List.cons_append, List.nil_append]
                              refine xJ_aload_n hX dL_agrees_317 rfl ?_
                              refine xJ_iload_n hX dL_agrees_318 rfl ?_
                              refine xJ_iload hX dL_agrees_319 rfl ?_
                              obtain ⟨k321, hn321, hp⟩ := hp
                              refine xJ_callV (As := [_, _]) hX hB dL_agrees_321 lk_L_224 im_X14_queue se_X14_queue rfl (by decide) (xke_k hq314 (xke_k hq295 hkx1 (by decide)) (by decide)) (c_X14_queue hM314 (xke_k hq314 (xke_k hq295 hkx1 (by decide)) (by decide)) hx3 hx4 hp) (by decide) rfl rfl rfl (Nat.le_of_ble_eq_true rfl) (by omega) (by omega) (fun v t321 M321 hv => ?_) (fun _ _ _ q => q.elim)
                              clear hp
                              obtain ⟨r321, rfl, h321, hM321, hq321, hp⟩ := hv
                              dsimp only [Option.toList, List.cons_append, List.nil_append]
                              refine xJ_icmp_ne hX dL_agrees_324 (tgt := 331) (by decide) h314 h321 (fun c324 => ?_) (fun c324 => ?_)
                              · replace hp := hp.1 c324
                                refine xJ_iconst hX dL_agrees_331 ?_
                                refine xJ_istore_n hX dL_agrees_332 (Nat.le_of_ble_eq_true rfl) rfl ?_
                                dsimp only [List.set]
                                refine xJ_iinc hX dL_agrees_333 rfl rfl ?_
                                dsimp only [List.set]
                                obtain ⟨h333, hp⟩ := hp
                                refine xJ_goto hX dL_agrees_336 (tgt := 277) (by decide) ?_
                                exact ih277 _ _ _ _ _ _ _ _ _ _ (by omega) (by omega) hM321 (xke_trans (xke_trans (xke_trans hqE hq295) hq314) hq321) (xke_k hq321 (xke_k hq314 (xke_k hq295 hkx1 (by decide)) (by decide)) (by decide)) ⟨by decide, by decide⟩ hx3 h333 hp
                              · replace hp := hp.2 c324
                                refine xJ_iconst hX dL_agrees_327 ?_
                                refine xJ_goto hX dL_agrees_328 (tgt := 332) (by decide) ?_
                                refine xJ_istore_n hX dL_agrees_332 (Nat.le_of_ble_eq_true rfl) rfl ?_
                                dsimp only [List.set]
                                refine xJ_iinc hX dL_agrees_333 rfl rfl ?_
                                dsimp only [List.set]
                                obtain ⟨h333, hp⟩ := hp
                                refine xJ_goto hX dL_agrees_336 (tgt := 277) (by decide) ?_
                                exact ih277 _ _ _ _ _ _ _ _ _ _ (by omega) (by omega) hM321 (xke_trans (xke_trans (xke_trans hqE hq295) hq314) hq321) (xke_k hq321 (xke_k hq314 (xke_k hq295 hkx1 (by decide)) (by decide)) (by decide)) ⟨by decide, by decide⟩ hx3 h333 hp
                    exact l277 F _ _ _ _ _ _ _ _ _ _ (by omega) (by omega) hM hqE hkx1 hx2 hx3 ⟨by decide, by decide⟩ hp
            exact l261 F _ _ _ _ _ _ _ _ _ (by omega) (by omega) hM hqE hkx1 hx2 ⟨by decide, by decide⟩ hp
          have l196 : ∀ (k196 : Nat) (c s n : Nat) (x0 : Nat) (x1 : Nat) (x2 : Int) (x3 : Int) (t : xTh) (M : xMe) (hc : c + n ≤ nE) (hs : s + 64 * n ≤ 64 * nE) (hM : xMR M) (hqE : xke tE t) (hkx1 : xk t x1 = 20) (hx2 : xR x2) (hx3 : xR x3) (hp : p_L_agrees_196 F Q (p_L_agrees_259 F Q) k196 n x0 x1 x2 x3 t M), xJ X c s t M 196 [vr x0, vr x1, vi x2, vi x3, vU] [] := by
            intro k196
            induction k196 with
            | zero => intro c s n x0 x1 x2 x3 t M hc hs hM hqE hkx1 hx2 hx3 hp; exact hp.elim
            | succ k196 ih196 =>
              intro c s n x0 x1 x2 x3 t M hc hs hM hqE hkx1 hx2 hx3 hp
              unfold p_L_agrees_196 at hp
              refine xJ_iload_n hX dL_agrees_196 rfl ?_
              refine xJ_aload_n hX dL_agrees_197 rfl ?_
              obtain ⟨b198, e198, hkb198, hp⟩ := hp
              refine xJ_getR (b := b198) hX dL_agrees_198 fd_L_161 rfl hkx1 e198 ?_
              refine xJ_alen hX dL_agrees_201 (by rw [hkb198]; decide) (by rw [hkb198]; decide) ?_
              obtain ⟨h201, hp⟩ := hp
              refine xJ_icmp_ge hX dL_agrees_202 (tgt := 259) (by decide) hx3 h201 (fun c202 => ?_) (fun c202 => ?_)
              · replace hp := hp.1 c202
                refine xJ_fg 3 ?_
                dsimp only [List.set]
                exact l259 _ _ _ _ _ _ _ _ (by omega) (by omega) hM hqE hkx1 hx2 hp
              · replace hp := hp.2 c202
                refine xJ_iload_n hX dL_agrees_205 rfl ?_
                refine xJ_if_eq hX dL_agrees_206 (tgt := 259) (by decide) hx2 (fun c206 => ?_) (fun c206 => ?_)
                · replace hp := hp.1 c206
                  refine xJ_fg 3 ?_
                  dsimp only [List.set]
                  exact l259 _ _ _ _ _ _ _ _ (by omega) (by omega) hM hqE hkx1 hx2 hp
                · replace hp := hp.2 c206
                  refine xJ_iconst hX dL_agrees_209 ?_
                  refine xJ_istore hX dL_agrees_210 (Nat.le_of_ble_eq_true rfl) rfl ?_
                  dsimp only [List.set]
                  have l253 : ∀ (c s n : Nat) (x0 : Nat) (x1 : Nat) (x2 : Int) (x3 : Int) (t : xTh) (M : xMe) (hc : c + n ≤ nE) (hs : s + 64 * n ≤ 64 * nE) (hM : xMR M) (hqE : xke tE t) (hkx1 : xk t x1 = 20) (hx2 : xR x2) (hx3 : xR x3) (hp : p_L_agrees_253 F Q (p_L_agrees_196 F Q (p_L_agrees_259 F Q) k196) (p_L_agrees_259 F Q) n x0 x1 x2 x3 t M), xJ X c s t M 253 [vr x0, vr x1, vi x2, vi x3, vU] [] := by
                    intro c s n x0 x1 x2 x3 t M hc hs hM hqE hkx1 hx2 hx3 hp
                    unfold p_L_agrees_253 at hp
                    refine xJ_iinc hX dL_agrees_253 rfl rfl ?_
                    dsimp only [List.set]
                    obtain ⟨h253, hp⟩ := hp
                    refine xJ_goto hX dL_agrees_256 (tgt := 196) (by decide) ?_
                    exact ih196 _ _ _ _ _ _ _ _ _ (by omega) (by omega) hM hqE hkx1 hx2 h253 hp
                  have l212 : ∀ (k212 : Nat) (c s n : Nat) (x0 : Nat) (x1 : Nat) (x2 : Int) (x3 : Int) (x4 : Int) (t : xTh) (M : xMe) (hc : c + n ≤ nE) (hs : s + 64 * n ≤ 64 * nE) (hM : xMR M) (hqE : xke tE t) (hkx1 : xk t x1 = 20) (hx2 : xR x2) (hx3 : xR x3) (hx4 : xR x4) (hp : p_L_agrees_212 F Q (p_L_agrees_196 F Q (p_L_agrees_259 F Q) k196) (p_L_agrees_253 F Q (p_L_agrees_196 F Q (p_L_agrees_259 F Q) k196) (p_L_agrees_259 F Q)) (p_L_agrees_259 F Q) k212 n x0 x1 x2 x3 x4 t M), xJ X c s t M 212 [vr x0, vr x1, vi x2, vi x3, vi x4] [] := by
                    intro k212
                    induction k212 with
                    | zero => intro c s n x0 x1 x2 x3 x4 t M hc hs hM hqE hkx1 hx2 hx3 hx4 hp; exact hp.elim
                    | succ k212 ih212 =>
                      intro c s n x0 x1 x2 x3 x4 t M hc hs hM hqE hkx1 hx2 hx3 hx4 hp
                      unfold p_L_agrees_212 at hp
                      refine xJ_iload hX dL_agrees_212 rfl ?_
                      refine xJ_iconst hX dL_agrees_214 ?_
                      refine xJ_icmp_ge hX dL_agrees_215 (tgt := 253) (by decide) hx4 ⟨by decide, by decide⟩ (fun c215 => ?_) (fun c215 => ?_)
                      · replace hp := hp.1 c215
                        refine xJ_fg 4 ?_
                        dsimp only [List.set]
                        exact l253 _ _ _ _ _ _ _ _ _ (by omega) (by omega) hM hqE hkx1 hx2 hx3 hp
                      · replace hp := hp.2 c215
                        refine xJ_iload_n hX dL_agrees_218 rfl ?_
                        refine xJ_if_eq hX dL_agrees_219 (tgt := 253) (by decide) hx2 (fun c219 => ?_) (fun c219 => ?_)
                        · replace hp := hp.1 c219
                          refine xJ_fg 4 ?_
                          dsimp only [List.set]
                          exact l253 _ _ _ _ _ _ _ _ _ (by omega) (by omega) hM hqE hkx1 hx2 hx3 hp
                        · replace hp := hp.2 c219
                          refine xJ_aload_n hX dL_agrees_222 rfl ?_
                          refine xJ_iload_n hX dL_agrees_223 rfl ?_
                          refine xJ_iload hX dL_agrees_224 rfl ?_
                          obtain ⟨hw226, hp⟩ := hp
                          have hn226 := hw226.1
                          refine xJ_callSW (As := [_, _, _]) hX hB dL_agrees_226 lkw_L_coupon sm_L_coupon (c_L_coupon hw226.2.1 hM hx3 hx4 hp) (by decide) rfl rfl rfl (Nat.le_of_ble_eq_true rfl) (by omega) (by omega) (fun v t226 M226 hv => ?_)
                          clear hp
                          obtain ⟨r226, rfl, h226, hM226, hqw226, hp⟩ := hv
                          have hq226 := xke_qw hqw226
                          refine xJ_live fun hlv226 => ?_
                          replace hp := hp hqw226 hlv226
                          dsimp only [Option.toList, List.cons_append, List.nil_append]
                          refine xJ_aload_n hX dL_agrees_229 rfl ?_
                          obtain ⟨b230, e230, hkb230, hp⟩ := hp
                          refine xJ_getR (b := b230) hX dL_agrees_230 fd_L_161 rfl (xke_k hq226 hkx1 (by decide)) e230 ?_
                          refine xJ_iload_n hX dL_agrees_233 rfl ?_
                          obtain ⟨h234, hp⟩ := hp
                          obtain ⟨b234, e234, hkb234, hp⟩ := hp
                          refine xJ_aaldOb hX dL_agrees_234 hkb230 h234.1 h234.2 e234 ?_
                          refine xJ_iload hX dL_agrees_235 rfl ?_
                          obtain ⟨h237, hp⟩ := hp
                          refine xJ_iald hX dL_agrees_237 hkb234 h237.1 h237.2 ?_
                          refine xJ_icmp_ne hX dL_agrees_238 (tgt := 245) (by decide) h226 (hM226 _ _) (fun c238 => ?_) (fun c238 => ?_)
                          · replace hp := hp.1 c238
                            refine xJ_iconst hX dL_agrees_245 ?_
                            refine xJ_istore_n hX dL_agrees_246 (Nat.le_of_ble_eq_true rfl) rfl ?_
                            dsimp only [List.set]
                            refine xJ_iinc hX dL_agrees_247 rfl rfl ?_
                            dsimp only [List.set]
                            obtain ⟨h247, hp⟩ := hp
                            refine xJ_goto hX dL_agrees_250 (tgt := 212) (by decide) ?_
                            exact ih212 _ _ _ _ _ _ _ _ _ _ (by omega) (by omega) hM226 (xke_trans hqE hq226) (xke_k hq226 hkx1 (by decide)) ⟨by decide, by decide⟩ hx3 h247 hp
                          · replace hp := hp.2 c238
                            refine xJ_iconst hX dL_agrees_241 ?_
                            refine xJ_goto hX dL_agrees_242 (tgt := 246) (by decide) ?_
                            refine xJ_istore_n hX dL_agrees_246 (Nat.le_of_ble_eq_true rfl) rfl ?_
                            dsimp only [List.set]
                            refine xJ_iinc hX dL_agrees_247 rfl rfl ?_
                            dsimp only [List.set]
                            obtain ⟨h247, hp⟩ := hp
                            refine xJ_goto hX dL_agrees_250 (tgt := 212) (by decide) ?_
                            exact ih212 _ _ _ _ _ _ _ _ _ _ (by omega) (by omega) hM226 (xke_trans hqE hq226) (xke_k hq226 hkx1 (by decide)) ⟨by decide, by decide⟩ hx3 h247 hp
                  exact l212 F _ _ _ _ _ _ _ _ _ _ (by omega) (by omega) hM hqE hkx1 hx2 hx3 ⟨by decide, by decide⟩ hp
          exact l196 F _ _ _ _ _ _ _ _ _ (by omega) (by omega) hM hqE hkx1 hx2 ⟨by decide, by decide⟩ hp
        have l132 : ∀ (k132 : Nat) (c s n : Nat) (x0 : Nat) (x1 : Nat) (x2 : Int) (x3 : Int) (t : xTh) (M : xMe) (hc : c + n ≤ nE) (hs : s + 64 * n ≤ 64 * nE) (hM : xMR M) (hqE : xke tE t) (hkx1 : xk t x1 = 20) (hx2 : xR x2) (hx3 : xR x3) (hp : p_L_agrees_132 F Q (p_L_agrees_194 F Q) k132 n x0 x1 x2 x3 t M), xJ X c s t M 132 [vr x0, vr x1, vi x2, vi x3, vU] [] := by
          intro k132
          induction k132 with
          | zero => intro c s n x0 x1 x2 x3 t M hc hs hM hqE hkx1 hx2 hx3 hp; exact hp.elim
          | succ k132 ih132 =>
            intro c s n x0 x1 x2 x3 t M hc hs hM hqE hkx1 hx2 hx3 hp
            unfold p_L_agrees_132 at hp
            refine xJ_iload_n hX dL_agrees_132 rfl ?_
            refine xJ_aload_n hX dL_agrees_133 rfl ?_
            obtain ⟨b134, e134, hkb134, hp⟩ := hp
            refine xJ_getR (b := b134) hX dL_agrees_134 fd_L_157 rfl hkx1 e134 ?_
            refine xJ_alen hX dL_agrees_137 (by rw [hkb134]; decide) (by rw [hkb134]; decide) ?_
            obtain ⟨h137, hp⟩ := hp
            refine xJ_icmp_ge hX dL_agrees_138 (tgt := 194) (by decide) hx3 h137 (fun c138 => ?_) (fun c138 => ?_)
            · replace hp := hp.1 c138
              refine xJ_fg 3 ?_
              dsimp only [List.set]
              exact l194 _ _ _ _ _ _ _ _ (by omega) (by omega) hM hqE hkx1 hx2 hp
            · replace hp := hp.2 c138
              refine xJ_iload_n hX dL_agrees_141 rfl ?_
              refine xJ_if_eq hX dL_agrees_142 (tgt := 194) (by decide) hx2 (fun c142 => ?_) (fun c142 => ?_)
              · replace hp := hp.1 c142
                refine xJ_fg 3 ?_
                dsimp only [List.set]
                exact l194 _ _ _ _ _ _ _ _ (by omega) (by omega) hM hqE hkx1 hx2 hp
              · replace hp := hp.2 c142
                refine xJ_iconst hX dL_agrees_145 ?_
                refine xJ_istore hX dL_agrees_146 (Nat.le_of_ble_eq_true rfl) rfl ?_
                dsimp only [List.set]
                have l188 : ∀ (c s n : Nat) (x0 : Nat) (x1 : Nat) (x2 : Int) (x3 : Int) (t : xTh) (M : xMe) (hc : c + n ≤ nE) (hs : s + 64 * n ≤ 64 * nE) (hM : xMR M) (hqE : xke tE t) (hkx1 : xk t x1 = 20) (hx2 : xR x2) (hx3 : xR x3) (hp : p_L_agrees_188 F Q (p_L_agrees_132 F Q (p_L_agrees_194 F Q) k132) (p_L_agrees_194 F Q) n x0 x1 x2 x3 t M), xJ X c s t M 188 [vr x0, vr x1, vi x2, vi x3, vU] [] := by
                  intro c s n x0 x1 x2 x3 t M hc hs hM hqE hkx1 hx2 hx3 hp
                  unfold p_L_agrees_188 at hp
                  refine xJ_iinc hX dL_agrees_188 rfl rfl ?_
                  dsimp only [List.set]
                  obtain ⟨h188, hp⟩ := hp
                  refine xJ_goto hX dL_agrees_191 (tgt := 132) (by decide) ?_
                  exact ih132 _ _ _ _ _ _ _ _ _ (by omega) (by omega) hM hqE hkx1 hx2 h188 hp
                have l148 : ∀ (k148 : Nat) (c s n : Nat) (x0 : Nat) (x1 : Nat) (x2 : Int) (x3 : Int) (x4 : Int) (t : xTh) (M : xMe) (hc : c + n ≤ nE) (hs : s + 64 * n ≤ 64 * nE) (hM : xMR M) (hqE : xke tE t) (hkx1 : xk t x1 = 20) (hx2 : xR x2) (hx3 : xR x3) (hx4 : xR x4) (hp : p_L_agrees_148 F Q (p_L_agrees_132 F Q (p_L_agrees_194 F Q) k132) (p_L_agrees_188 F Q (p_L_agrees_132 F Q (p_L_agrees_194 F Q) k132) (p_L_agrees_194 F Q)) (p_L_agrees_194 F Q) k148 n x0 x1 x2 x3 x4 t M), xJ X c s t M 148 [vr x0, vr x1, vi x2, vi x3, vi x4] [] := by
                  intro k148
                  induction k148 with
                  | zero => intro c s n x0 x1 x2 x3 x4 t M hc hs hM hqE hkx1 hx2 hx3 hx4 hp; exact hp.elim
                  | succ k148 ih148 =>
                    intro c s n x0 x1 x2 x3 x4 t M hc hs hM hqE hkx1 hx2 hx3 hx4 hp
                    unfold p_L_agrees_148 at hp
                    refine xJ_iload hX dL_agrees_148 rfl ?_
                    refine xJ_bipush hX dL_agrees_150 rfl ?_
                    refine xJ_icmp_ge hX dL_agrees_152 (tgt := 188) (by decide) hx4 ⟨by decide, by decide⟩ (fun c152 => ?_) (fun c152 => ?_)
                    · replace hp := hp.1 c152
                      refine xJ_fg 4 ?_
                      dsimp only [List.set]
                      exact l188 _ _ _ _ _ _ _ _ _ (by omega) (by omega) hM hqE hkx1 hx2 hx3 hp
                    · replace hp := hp.2 c152
                      refine xJ_iload_n hX dL_agrees_155 rfl ?_
                      refine xJ_if_eq hX dL_agrees_156 (tgt := 188) (by decide) hx2 (fun c156 => ?_) (fun c156 => ?_)
                      · replace hp := hp.1 c156
                        refine xJ_fg 4 ?_
                        dsimp only [List.set]
                        exact l188 _ _ _ _ _ _ _ _ _ (by omega) (by omega) hM hqE hkx1 hx2 hx3 hp
                      · replace hp := hp.2 c156
                        refine xJ_aload_n hX dL_agrees_159 rfl ?_
                        refine xJ_iload_n hX dL_agrees_160 rfl ?_
                        refine xJ_iload hX dL_agrees_161 rfl ?_
                        obtain ⟨hw163, hp⟩ := hp
                        have hn163 := hw163.1
                        refine xJ_callSW (As := [_, _, _]) hX hB dL_agrees_163 lkw_L_packet sm_L_packet (c_L_packet hw163.2.1 hM hx3 hx4 hp) (by decide) rfl rfl rfl (Nat.le_of_ble_eq_true rfl) (by omega) (by omega) (fun v t163 M163 hv => ?_)
                        clear hp
                        obtain ⟨r163, rfl, h163, hM163, hqw163, hp⟩ := hv
                        have hq163 := xke_qw hqw163
                        refine xJ_live fun hlv163 => ?_
                        replace hp := hp hqw163 hlv163
                        dsimp only [Option.toList, List.cons_append, List.nil_append]
                        refine xJ_aload_n hX dL_agrees_166 rfl ?_
                        refine xJ_iload_n hX dL_agrees_167 rfl ?_
                        refine xJ_iload hX dL_agrees_168 rfl ?_
                        obtain ⟨k170, hn170, hp⟩ := hp
                        refine xJ_callV (As := [_, _]) hX hB dL_agrees_170 lk_L_217 im_X14_packet se_X14_packet rfl (by decide) (xke_k hq163 hkx1 (by decide)) (c_X14_packet hM163 (xke_k hq163 hkx1 (by decide)) hx3 hx4 hp) (by decide) rfl rfl rfl (Nat.le_of_ble_eq_true rfl) (by omega) (by omega) (fun v t170 M170 hv => ?_) (fun _ _ _ q => q.elim)
                        clear hp
                        obtain ⟨r170, rfl, h170, hM170, hq170, hp⟩ := hv
                        dsimp only [Option.toList, List.cons_append, List.nil_append]
                        refine xJ_icmp_ne hX dL_agrees_173 (tgt := 180) (by decide) h163 h170 (fun c173 => ?_) (fun c173 => ?_)
                        · replace hp := hp.1 c173
                          refine xJ_iconst hX dL_agrees_180 ?_
                          refine xJ_istore_n hX dL_agrees_181 (Nat.le_of_ble_eq_true rfl) rfl ?_
                          dsimp only [List.set]
                          refine xJ_iinc hX dL_agrees_182 rfl rfl ?_
                          dsimp only [List.set]
                          obtain ⟨h182, hp⟩ := hp
                          refine xJ_goto hX dL_agrees_185 (tgt := 148) (by decide) ?_
                          exact ih148 _ _ _ _ _ _ _ _ _ _ (by omega) (by omega) hM170 (xke_trans (xke_trans hqE hq163) hq170) (xke_k hq170 (xke_k hq163 hkx1 (by decide)) (by decide)) ⟨by decide, by decide⟩ hx3 h182 hp
                        · replace hp := hp.2 c173
                          refine xJ_iconst hX dL_agrees_176 ?_
                          refine xJ_goto hX dL_agrees_177 (tgt := 181) (by decide) ?_
                          refine xJ_istore_n hX dL_agrees_181 (Nat.le_of_ble_eq_true rfl) rfl ?_
                          dsimp only [List.set]
                          refine xJ_iinc hX dL_agrees_182 rfl rfl ?_
                          dsimp only [List.set]
                          obtain ⟨h182, hp⟩ := hp
                          refine xJ_goto hX dL_agrees_185 (tgt := 148) (by decide) ?_
                          exact ih148 _ _ _ _ _ _ _ _ _ _ (by omega) (by omega) hM170 (xke_trans (xke_trans hqE hq163) hq170) (xke_k hq170 (xke_k hq163 hkx1 (by decide)) (by decide)) ⟨by decide, by decide⟩ hx3 h182 hp
                exact l148 F _ _ _ _ _ _ _ _ _ _ (by omega) (by omega) hM hqE hkx1 hx2 hx3 ⟨by decide, by decide⟩ hp
        exact l132 F _ _ _ _ _ _ _ _ _ (by omega) (by omega) hM hqE hkx1 hx2 ⟨by decide, by decide⟩ hp
      have l68 : ∀ (k68 : Nat) (c s n : Nat) (x0 : Nat) (x1 : Nat) (x2 : Int) (x3 : Int) (t : xTh) (M : xMe) (hc : c + n ≤ nE) (hs : s + 64 * n ≤ 64 * nE) (hM : xMR M) (hqE : xke tE t) (hkx1 : xk t x1 = 20) (hx2 : xR x2) (hx3 : xR x3) (hp : p_L_agrees_68 F Q (p_L_agrees_130 F Q) k68 n x0 x1 x2 x3 t M), xJ X c s t M 68 [vr x0, vr x1, vi x2, vi x3, vU] [] := by
        intro k68
        induction k68 with
        | zero => intro c s n x0 x1 x2 x3 t M hc hs hM hqE hkx1 hx2 hx3 hp; exact hp.elim
        | succ k68 ih68 =>
          intro c s n x0 x1 x2 x3 t M hc hs hM hqE hkx1 hx2 hx3 hp
          unfold p_L_agrees_68 at hp
          refine xJ_iload_n hX dL_agrees_68 rfl ?_
          refine xJ_aload_n hX dL_agrees_69 rfl ?_
          obtain ⟨b70, e70, hkb70, hp⟩ := hp
          refine xJ_getR (b := b70) hX dL_agrees_70 fd_L_151 rfl hkx1 e70 ?_
          refine xJ_alen hX dL_agrees_73 (by rw [hkb70]; decide) (by rw [hkb70]; decide) ?_
          obtain ⟨h73, hp⟩ := hp
          refine xJ_icmp_ge hX dL_agrees_74 (tgt := 130) (by decide) hx3 h73 (fun c74 => ?_) (fun c74 => ?_)
          · replace hp := hp.1 c74
            refine xJ_fg 3 ?_
            dsimp only [List.set]
            exact l130 _ _ _ _ _ _ _ _ (by omega) (by omega) hM hqE hkx1 hx2 hp
          · replace hp := hp.2 c74
            refine xJ_iload_n hX dL_agrees_77 rfl ?_
            refine xJ_if_eq hX dL_agrees_78 (tgt := 130) (by decide) hx2 (fun c78 => ?_) (fun c78 => ?_)
            · replace hp := hp.1 c78
              refine xJ_fg 3 ?_
              dsimp only [List.set]
              exact l130 _ _ _ _ _ _ _ _ (by omega) (by omega) hM hqE hkx1 hx2 hp
            · replace hp := hp.2 c78
              refine xJ_iconst hX dL_agrees_81 ?_
              refine xJ_istore hX dL_agrees_82 (Nat.le_of_ble_eq_true rfl) rfl ?_
              dsimp only [List.set]
              have l124 : ∀ (c s n : Nat) (x0 : Nat) (x1 : Nat) (x2 : Int) (x3 : Int) (t : xTh) (M : xMe) (hc : c + n ≤ nE) (hs : s + 64 * n ≤ 64 * nE) (hM : xMR M) (hqE : xke tE t) (hkx1 : xk t x1 = 20) (hx2 : xR x2) (hx3 : xR x3) (hp : p_L_agrees_124 F Q (p_L_agrees_68 F Q (p_L_agrees_130 F Q) k68) (p_L_agrees_130 F Q) n x0 x1 x2 x3 t M), xJ X c s t M 124 [vr x0, vr x1, vi x2, vi x3, vU] [] := by
                intro c s n x0 x1 x2 x3 t M hc hs hM hqE hkx1 hx2 hx3 hp
                unfold p_L_agrees_124 at hp
                refine xJ_iinc hX dL_agrees_124 rfl rfl ?_
                dsimp only [List.set]
                obtain ⟨h124, hp⟩ := hp
                refine xJ_goto hX dL_agrees_127 (tgt := 68) (by decide) ?_
                exact ih68 _ _ _ _ _ _ _ _ _ (by omega) (by omega) hM hqE hkx1 hx2 h124 hp
              have l84 : ∀ (k84 : Nat) (c s n : Nat) (x0 : Nat) (x1 : Nat) (x2 : Int) (x3 : Int) (x4 : Int) (t : xTh) (M : xMe) (hc : c + n ≤ nE) (hs : s + 64 * n ≤ 64 * nE) (hM : xMR M) (hqE : xke tE t) (hkx1 : xk t x1 = 20) (hx2 : xR x2) (hx3 : xR x3) (hx4 : xR x4) (hp : p_L_agrees_84 F Q (p_L_agrees_68 F Q (p_L_agrees_130 F Q) k68) (p_L_agrees_124 F Q (p_L_agrees_68 F Q (p_L_agrees_130 F Q) k68) (p_L_agrees_130 F Q)) (p_L_agrees_130 F Q) k84 n x0 x1 x2 x3 x4 t M), xJ X c s t M 84 [vr x0, vr x1, vi x2, vi x3, vi x4] [] := by
                intro k84
                induction k84 with
                | zero => intro c s n x0 x1 x2 x3 x4 t M hc hs hM hqE hkx1 hx2 hx3 hx4 hp; exact hp.elim
                | succ k84 ih84 =>
                  intro c s n x0 x1 x2 x3 x4 t M hc hs hM hqE hkx1 hx2 hx3 hx4 hp
                  unfold p_L_agrees_84 at hp
                  refine xJ_iload hX dL_agrees_84 rfl ?_
                  refine xJ_bipush hX dL_agrees_86 rfl ?_
                  refine xJ_icmp_ge hX dL_agrees_88 (tgt := 124) (by decide) hx4 ⟨by decide, by decide⟩ (fun c88 => ?_) (fun c88 => ?_)
                  · replace hp := hp.1 c88
                    refine xJ_fg 4 ?_
                    dsimp only [List.set]
                    exact l124 _ _ _ _ _ _ _ _ _ (by omega) (by omega) hM hqE hkx1 hx2 hx3 hp
                  · replace hp := hp.2 c88
                    refine xJ_iload_n hX dL_agrees_91 rfl ?_
                    refine xJ_if_eq hX dL_agrees_92 (tgt := 124) (by decide) hx2 (fun c92 => ?_) (fun c92 => ?_)
                    · replace hp := hp.1 c92
                      refine xJ_fg 4 ?_
                      dsimp only [List.set]
                      exact l124 _ _ _ _ _ _ _ _ _ (by omega) (by omega) hM hqE hkx1 hx2 hx3 hp
                    · replace hp := hp.2 c92
                      refine xJ_aload_n hX dL_agrees_95 rfl ?_
                      refine xJ_iload_n hX dL_agrees_96 rfl ?_
                      refine xJ_iload hX dL_agrees_97 rfl ?_
                      obtain ⟨hw99, hp⟩ := hp
                      have hn99 := hw99.1
                      refine xJ_callSW (As := [_, _, _]) hX hB dL_agrees_99 lkw_L_flow sm_L_flow (c_L_flow hw99.2.1 hM hx3 hx4 hp) (by decide) rfl rfl rfl (Nat.le_of_ble_eq_true rfl) (by omega) (by omega) (fun v t99 M99 hv => ?_)
                      clear hp
                      obtain ⟨r99, rfl, h99, hM99, hqw99, hp⟩ := hv
                      have hq99 := xke_qw hqw99
                      refine xJ_live fun hlv99 => ?_
                      replace hp := hp hqw99 hlv99
                      dsimp only [Option.toList, List.cons_append, List.nil_append]
                      refine xJ_aload_n hX dL_agrees_102 rfl ?_
                      refine xJ_iload_n hX dL_agrees_103 rfl ?_
                      refine xJ_iload hX dL_agrees_104 rfl ?_
                      obtain ⟨k106, hn106, hp⟩ := hp
                      refine xJ_callV (As := [_, _]) hX hB dL_agrees_106 lk_L_214 im_X14_flow se_X14_flow rfl (by decide) (xke_k hq99 hkx1 (by decide)) (c_X14_flow hM99 (xke_k hq99 hkx1 (by decide)) hx3 hx4 hp) (by decide) rfl rfl rfl (Nat.le_of_ble_eq_true rfl) (by omega) (by omega) (fun v t106 M106 hv => ?_) (fun _ _ _ q => q.elim)
                      clear hp
                      obtain ⟨r106, rfl, h106, hM106, hq106, hp⟩ := hv
                      dsimp only [Option.toList, List.cons_append, List.nil_append]
                      refine xJ_icmp_ne hX dL_agrees_109 (tgt := 116) (by decide) h99 h106 (fun c109 => ?_) (fun c109 => ?_)
                      · replace hp := hp.1 c109
                        refine xJ_iconst hX dL_agrees_116 ?_
                        refine xJ_istore_n hX dL_agrees_117 (Nat.le_of_ble_eq_true rfl) rfl ?_
                        dsimp only [List.set]
                        refine xJ_iinc hX dL_agrees_118 rfl rfl ?_
                        dsimp only [List.set]
                        obtain ⟨h118, hp⟩ := hp
                        refine xJ_goto hX dL_agrees_121 (tgt := 84) (by decide) ?_
                        exact ih84 _ _ _ _ _ _ _ _ _ _ (by omega) (by omega) hM106 (xke_trans (xke_trans hqE hq99) hq106) (xke_k hq106 (xke_k hq99 hkx1 (by decide)) (by decide)) ⟨by decide, by decide⟩ hx3 h118 hp
                      · replace hp := hp.2 c109
                        refine xJ_iconst hX dL_agrees_112 ?_
                        refine xJ_goto hX dL_agrees_113 (tgt := 117) (by decide) ?_
                        refine xJ_istore_n hX dL_agrees_117 (Nat.le_of_ble_eq_true rfl) rfl ?_
                        dsimp only [List.set]
                        refine xJ_iinc hX dL_agrees_118 rfl rfl ?_
                        dsimp only [List.set]
                        obtain ⟨h118, hp⟩ := hp
                        refine xJ_goto hX dL_agrees_121 (tgt := 84) (by decide) ?_
                        exact ih84 _ _ _ _ _ _ _ _ _ _ (by omega) (by omega) hM106 (xke_trans (xke_trans hqE hq99) hq106) (xke_k hq106 (xke_k hq99 hkx1 (by decide)) (by decide)) ⟨by decide, by decide⟩ hx3 h118 hp
              exact l84 F _ _ _ _ _ _ _ _ _ _ (by omega) (by omega) hM hqE hkx1 hx2 hx3 ⟨by decide, by decide⟩ hp
      exact l68 F _ _ _ _ _ _ _ _ _ (by omega) (by omega) hM hqE hkx1 hx2 ⟨by decide, by decide⟩ hp
    have l31 : ∀ (k31 : Nat) (c s n : Nat) (x0 : Nat) (x1 : Nat) (x2 : Int) (x3 : Int) (t : xTh) (M : xMe) (hc : c + n ≤ nE) (hs : s + 64 * n ≤ 64 * nE) (hM : xMR M) (hqE : xke tE t) (hkx1 : xk t x1 = 20) (hx2 : xR x2) (hx3 : xR x3) (hp : p_L_agrees_31 F Q (p_L_agrees_66 F Q) k31 n x0 x1 x2 x3 t M), xJ X c s t M 31 [vr x0, vr x1, vi x2, vi x3, vU] [] := by
      intro k31
      induction k31 with
      | zero => intro c s n x0 x1 x2 x3 t M hc hs hM hqE hkx1 hx2 hx3 hp; exact hp.elim
      | succ k31 ih31 =>
        intro c s n x0 x1 x2 x3 t M hc hs hM hqE hkx1 hx2 hx3 hp
        unfold p_L_agrees_31 at hp
        refine xJ_iload_n hX dL_agrees_31 rfl ?_
        refine xJ_bipush hX dL_agrees_32 rfl ?_
        refine xJ_icmp_ge hX dL_agrees_34 (tgt := 66) (by decide) hx3 ⟨by decide, by decide⟩ (fun c34 => ?_) (fun c34 => ?_)
        · replace hp := hp.1 c34
          refine xJ_fg 3 ?_
          dsimp only [List.set]
          exact l66 _ _ _ _ _ _ _ _ (by omega) (by omega) hM hqE hkx1 hx2 hp
        · replace hp := hp.2 c34
          refine xJ_iload_n hX dL_agrees_37 rfl ?_
          refine xJ_if_eq hX dL_agrees_38 (tgt := 66) (by decide) hx2 (fun c38 => ?_) (fun c38 => ?_)
          · replace hp := hp.1 c38
            refine xJ_fg 3 ?_
            dsimp only [List.set]
            exact l66 _ _ _ _ _ _ _ _ (by omega) (by omega) hM hqE hkx1 hx2 hp
          · replace hp := hp.2 c38
            refine xJ_aload_n hX dL_agrees_41 rfl ?_
            refine xJ_iload_n hX dL_agrees_42 rfl ?_
            obtain ⟨hw43, hp⟩ := hp
            have hn43 := hw43.1
            refine xJ_callSW (As := [_, _]) hX hB dL_agrees_43 lkw_L_state sm_L_state (c_L_state hw43.2.1 hM hx3 hp) (by decide) rfl rfl rfl (Nat.le_of_ble_eq_true rfl) (by omega) (by omega) (fun v t43 M43 hv => ?_)
            clear hp
            obtain ⟨r43, rfl, h43, hM43, hqw43, hp⟩ := hv
            have hq43 := xke_qw hqw43
            refine xJ_live fun hlv43 => ?_
            replace hp := hp hqw43 hlv43
            dsimp only [Option.toList, List.cons_append, List.nil_append]
            refine xJ_aload_n hX dL_agrees_46 rfl ?_
            refine xJ_iload_n hX dL_agrees_47 rfl ?_
            obtain ⟨k48, hn48, hp⟩ := hp
            refine xJ_callV (As := [_]) hX hB dL_agrees_48 lk_L_208 im_X14_told se_X14_told rfl (by decide) (xke_k hq43 hkx1 (by decide)) (c_X14_told hM43 (xke_k hq43 hkx1 (by decide)) hx3 hp) (by decide) rfl rfl rfl (Nat.le_of_ble_eq_true rfl) (by omega) (by omega) (fun v t48 M48 hv => ?_) (fun _ _ _ q => q.elim)
            clear hp
            obtain ⟨r48, rfl, h48, hM48, hq48, hp⟩ := hv
            dsimp only [Option.toList, List.cons_append, List.nil_append]
            refine xJ_icmp_ne hX dL_agrees_51 (tgt := 58) (by decide) h43 h48 (fun c51 => ?_) (fun c51 => ?_)
            · replace hp := hp.1 c51
              refine xJ_iconst hX dL_agrees_58 ?_
              refine xJ_istore_n hX dL_agrees_59 (Nat.le_of_ble_eq_true rfl) rfl ?_
              dsimp only [List.set]
              refine xJ_iinc hX dL_agrees_60 rfl rfl ?_
              dsimp only [List.set]
              obtain ⟨h60, hp⟩ := hp
              refine xJ_goto hX dL_agrees_63 (tgt := 31) (by decide) ?_
              exact ih31 _ _ _ _ _ _ _ _ _ (by omega) (by omega) hM48 (xke_trans (xke_trans hqE hq43) hq48) (xke_k hq48 (xke_k hq43 hkx1 (by decide)) (by decide)) ⟨by decide, by decide⟩ h60 hp
            · replace hp := hp.2 c51
              refine xJ_iconst hX dL_agrees_54 ?_
              refine xJ_goto hX dL_agrees_55 (tgt := 59) (by decide) ?_
              refine xJ_istore_n hX dL_agrees_59 (Nat.le_of_ble_eq_true rfl) rfl ?_
              dsimp only [List.set]
              refine xJ_iinc hX dL_agrees_60 rfl rfl ?_
              dsimp only [List.set]
              obtain ⟨h60, hp⟩ := hp
              refine xJ_goto hX dL_agrees_63 (tgt := 31) (by decide) ?_
              exact ih31 _ _ _ _ _ _ _ _ _ (by omega) (by omega) hM48 (xke_trans (xke_trans hqE hq43) hq48) (xke_k hq48 (xke_k hq43 hkx1 (by decide)) (by decide)) ⟨by decide, by decide⟩ h60 hp
    exact l31 F _ _ _ _ _ _ _ _ _ (by omega) (by omega) hM hqE hkx1 hy0 ⟨by decide, by decide⟩ hp
  refine xJ_if_ne hX dL_agrees_9 (tgt := 27) (by decide) ⟨by decide, by decide⟩ (fun c9 => ?_) (fun c9 => ?_)
  · exact absurd c9 (by decide)
  refine xJ_aload_n hX dL_agrees_12 rfl ?_
  refine xJ_bipush hX dL_agrees_13 rfl ?_
  obtain ⟨hw15, hp⟩ := hp
  have hn15 := hw15.1
  refine xJ_callSW (As := [_, _]) hX hB dL_agrees_15 lkw_L_state sm_L_state (c_L_state hw15.2.1 hM5 ⟨by decide, by decide⟩ hp) (by decide) rfl rfl rfl (Nat.le_of_ble_eq_true rfl) (by omega) (by omega) (fun v t15 M15 hv => ?_)
  clear hp
  obtain ⟨r15, rfl, h15, hM15, hqw15, hp⟩ := hv
  have hq15 := xke_qw hqw15
  refine xJ_live fun hlv15 => ?_
  replace hp := hp hqw15 hlv15
  dsimp only [Option.toList, List.cons_append, List.nil_append]
  refine xJ_ldc (-2000000098) hX dL_agrees_18 kc_L_42 ?_
  refine xJ_icmp_ne hX dL_agrees_20 (tgt := 27) (by decide) h15 ⟨by decide, by decide⟩ (fun c20 => ?_) (fun c20 => ?_)
  · replace hp := hp.1 c20
    refine xJ_iconst hX dL_agrees_27 ?_
    exact l28 _ _ _ _ _ _ _ _ (by omega) (by omega) hM15 (xke_trans (xke_trans (xke_refl _) hq5) hq15) (xke_k hq15 (xke_k hq5 hkx1 (by decide)) (by decide)) ⟨by decide, by decide⟩ hp
  · replace hp := hp.2 c20
    refine xJ_iconst hX dL_agrees_23 ?_
    refine xJ_goto hX dL_agrees_24 (tgt := 28) (by decide) ?_
    exact l28 _ _ _ _ _ _ _ _ (by omega) (by omega) hM15 (xke_trans (xke_trans (xke_refl _) hq5) hq15) (xke_k hq15 (xke_k hq5 hkx1 (by decide)) (by decide)) ⟨by decide, by decide⟩ hp
