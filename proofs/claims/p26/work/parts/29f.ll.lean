def p_L_law_1161 (F : Nat) (G : xGx) (N : Nat) (xs : Nat → Int32) (Q : Int → xTh → xMe → Prop) (K4 : Nat → Int → Int → xTh → xMe → Prop) (n : Nat) (x1 : Int) (x2 : Int) (x3 : Nat) (t : xTh) (M : xMe) : Prop :=
    ((x1 = 0 → (xR (x2 + 1)) ∧ K4 n 0 (x2 + 1) t M) ∧ (x1 ≠ 0 → (17 ≤ n ∧ oX11 t x3 ∧ oXQ t x3) ∧ p_L_load F t x3 1 M (fun r1167 t1167 M1167 => xqw t t1167 → xlive t1167 → ((r1167 ≠ ((-2000000098)) → (xR (x2 + 1)) ∧ K4 ((n - 17)) 0 (x2 + 1) t1167 M1167) ∧ (r1167 = ((-2000000098)) → (2 ≤ (n - 17) ∧ oX11 t1167 x3 ∧ oXQ t1167 x3) ∧ p_L_route t1167 x3 ((-1)) 0 M1167 (fun r1178 t1178 M1178 => xqw t1167 t1178 → xlive t1178 → ((r1178 ≠ ((-2000000097)) → (xR (x2 + 1)) ∧ K4 (((n - 17) - 2)) 0 (x2 + 1) t1178 M1178) ∧ (r1178 = ((-2000000097)) → (2 ≤ ((n - 17) - 2) ∧ oX11 t1178 x3 ∧ oXQ t1178 x3) ∧ p_L_curve t1178 x3 6 0 M1178 (fun r1190 t1190 M1190 => xqw t1178 t1190 → xlive t1190 → ((r1190 ≠ ((-2000000097)) → (xR (x2 + 1)) ∧ K4 ((((n - 17) - 2) - 2)) 0 (x2 + 1) t1190 M1190) ∧ (r1190 = ((-2000000097)) → (1 ≤ (((n - 17) - 2) - 2) ∧ oX11 t1190 x3 ∧ oXQ t1190 x3) ∧ p_L_endsAt F t1190 x3 ((-1)) M1190 (fun r1200 t1200 M1200 => xqw t1190 t1200 → xlive t1200 → ((r1200 ≠ ((-2000000097)) → (xR (x2 + 1)) ∧ K4 (((((n - 17) - 2) - 2) - 1)) 0 (x2 + 1) t1200 M1200) ∧ (r1200 = ((-2000000097)) → (1 ≤ ((((n - 17) - 2) - 2) - 1) ∧ oX11 t1200 x3 ∧ oXQ t1200 x3) ∧ p_L_help F t1200 x3 40 M1200 (fun r1211 t1211 M1211 => xqw t1200 t1211 → xlive t1211 → ((r1211 ≠ ((-2000000097)) → (xR (x2 + 1)) ∧ K4 ((((((n - 17) - 2) - 2) - 1) - 1)) 0 (x2 + 1) t1211 M1211) ∧ (r1211 = ((-2000000097)) → (xR (x2 + 1)) ∧ K4 ((((((n - 17) - 2) - 2) - 1) - 1)) 1 (x2 + 1) t1211 M1211)))))))))))))))))
def p_L_law_1112 (F : Nat) (G : xGx) (N : Nat) (xs : Nat → Int32) (Q : Int → xTh → xMe → Prop) (K4 : Nat → Int → Int → xTh → xMe → Prop) (K1161 : Nat → Int → Int → Nat → xTh → xMe → Prop) : Nat → Nat → Int → Int → Nat → Nat → Int → Int → xTh → xMe → Prop
  | 0, _, _, _, _, _, _, _, _, _ => False
  | k + 1, n, x1, x2, x3, x7, x8, x9, t, M =>
    ((8 ≤ x9 → K1161 n x1 x2 x3 t M) ∧ (x9 < 8 → ((x8 ≤ x9 → K1161 n x1 x2 x3 t M) ∧ (x9 < x8 → ((x1 = 0 → K1161 n x1 x2 x3 t M) ∧ (x1 ≠ 0 → (oX11 t x3 ∧ oXQ t x3) ∧ p_X11_undo t x3 M (fun r1131 t1131 M1131 => xqw t t1131 → xlive t1131 → ((r1131 < 0 → (xR (x9 + 1)) ∧ p_L_law_1112 F G N xs Q K4 K1161 k n 0 x2 x3 x7 x8 (x9 + 1) t1131 M1131) ∧ (0 ≤ r1131 → ((0 : Int) ≤ x9 ∧ x9 < (xn t1131 x7 : Int)) ∧ (∀ b, xr t1131 x7 x9.toNat = some b → xk t1131 b = 20) ∧ (∃ bo1143 : Nat, xr t1131 x7 x9.toNat = some bo1143 ∧ (∃ k1143 : Nat, k1143 ≤ n ∧ p_L_agrees F k1143 t1131 x3 bo1143 M1131 (fun r1143 t1143 M1143 => ((r1143 = 0 → (xR (x9 + 1)) ∧ p_L_law_1112 F G N xs Q K4 K1161 k ((n - k1143)) 0 x2 x3 x7 x8 (x9 + 1) t1143 M1143) ∧ (r1143 ≠ 0 → (xR (x9 + 1)) ∧ p_L_law_1112 F G N xs Q K4 K1161 k ((n - k1143)) 1 x2 x3 x7 x8 (x9 + 1) t1143 M1143))))))))))))))
def p_L_law_1109 (F : Nat) (G : xGx) (N : Nat) (xs : Nat → Int32) (Q : Int → xTh → xMe → Prop) (K4 : Nat → Int → Int → xTh → xMe → Prop) (n : Nat) (x1 : Int) (x2 : Int) (x3 : Nat) (x7 : Nat) (x8 : Int) (t : xTh) (M : xMe) : Prop :=
    p_L_law_1112 F G N xs Q K4 (p_L_law_1161 F G N xs Q K4) F n x1 x2 x3 x7 x8 0 t M
def p_L_law_1084 (F : Nat) (G : xGx) (N : Nat) (xs : Nat → Int32) (Q : Int → xTh → xMe → Prop) (K4 : Nat → Int → Int → xTh → xMe → Prop) (K181 : Nat → Int → Int → Nat → Nat → Nat → Nat → Int → Int → xTh → xMe → Prop) (K1109 : Nat → Int → Int → Nat → Nat → Int → xTh → xMe → Prop) (n : Nat) (x1 : Int) (x2 : Int) (x3 : Nat) (x5 : Nat) (x6 : Nat) (x7 : Nat) (x8 : Int) (x9 : Int) (t : xTh) (M : xMe) : Prop :=
    ((x1 = 0 → (xR (x9 + 1)) ∧ K181 n 0 x2 x3 x5 x6 x7 x8 (x9 + 1) t M) ∧ (x1 ≠ 0 → (∃ k1091 : Nat, k1091 ≤ n ∧ p_L_agrees F k1091 t x3 x6 M (fun r1091 t1091 M1091 => ((r1091 = 0 → (xR (x9 + 1)) ∧ K181 ((n - k1091)) 0 x2 x3 x5 x6 x7 x8 (x9 + 1) t1091 M1091) ∧ (r1091 ≠ 0 → (xR (x9 + 1)) ∧ K181 ((n - k1091)) 1 x2 x3 x5 x6 x7 x8 (x9 + 1) t1091 M1091))))))
def p_L_law_1075 (F : Nat) (G : xGx) (N : Nat) (xs : Nat → Int32) (Q : Int → xTh → xMe → Prop) (K4 : Nat → Int → Int → xTh → xMe → Prop) (K181 : Nat → Int → Int → Nat → Nat → Nat → Nat → Int → Int → xTh → xMe → Prop) (K1084 : Nat → Int → Int → Nat → Nat → Nat → Nat → Int → Int → xTh → xMe → Prop) (K1109 : Nat → Int → Int → Nat → Nat → Int → xTh → xMe → Prop) (n : Nat) (x1 : Int) (x2 : Int) (x3 : Nat) (x5 : Nat) (x6 : Nat) (x7 : Nat) (x8 : Int) (x9 : Int) (x10 : Nat) (t : xTh) (M : xMe) : Prop :=
    ((0 : Int) ≤ 0 ∧ 0 < (xn t x7 : Int)) ∧ (∀ t1080 : xTh, t1080 = xwr t x7 0 (some x10) → (xR (x8 + 1)) ∧ K1084 n x1 x2 x3 x5 x6 x7 (x8 + 1) x9 t1080 M)
def p_L_law_1052 (F : Nat) (G : xGx) (N : Nat) (xs : Nat → Int32) (Q : Int → xTh → xMe → Prop) (K4 : Nat → Int → Int → xTh → xMe → Prop) (K181 : Nat → Int → Int → Nat → Nat → Nat → Nat → Int → Int → xTh → xMe → Prop) (K1075 : Nat → Int → Int → Nat → Nat → Nat → Nat → Int → Int → Nat → xTh → xMe → Prop) (K1084 : Nat → Int → Int → Nat → Nat → Nat → Nat → Int → Int → xTh → xMe → Prop) (K1109 : Nat → Int → Int → Nat → Nat → Int → xTh → xMe → Prop) : Nat → Nat → Int → Int → Nat → Nat → Nat → Nat → Int → Int → Nat → Int → xTh → xMe → Prop
  | 0, _, _, _, _, _, _, _, _, _, _, _, _, _ => False
  | k + 1, n, x1, x2, x3, x5, x6, x7, x8, x9, x10, x16, t, M =>
    ((x16 ≤ 0 → K1075 n x1 x2 x3 x5 x6 x7 x8 x9 x10 t M) ∧ (0 < x16 → (xR (x16 - 1)) ∧ ((0 : Int) ≤ (x16 - 1) ∧ (x16 - 1) < (xn t x7 : Int)) ∧ (∀ b, xr t x7 (x16 - 1).toNat = some b → xk t b = 20) ∧ ((0 : Int) ≤ x16 ∧ x16 < (xn t x7 : Int)) ∧ (∀ t1068 : xTh, t1068 = xwr t x7 x16.toNat (xr t x7 (x16 - 1).toNat) → (xR (x16 + (-1))) ∧ p_L_law_1052 F G N xs Q K4 K181 K1075 K1084 K1109 k n x1 x2 x3 x5 x6 x7 x8 x9 x10 (x16 + (-1)) t1068 M)))
def p_L_law_1043 (F : Nat) (G : xGx) (N : Nat) (xs : Nat → Int32) (Q : Int → xTh → xMe → Prop) (K4 : Nat → Int → Int → xTh → xMe → Prop) (K181 : Nat → Int → Int → Nat → Nat → Nat → Nat → Int → Int → xTh → xMe → Prop) (K1109 : Nat → Int → Int → Nat → Nat → Int → xTh → xMe → Prop) (n : Nat) (x1 : Int) (x2 : Int) (x3 : Nat) (x5 : Nat) (x6 : Nat) (x7 : Nat) (x8 : Int) (x9 : Int) (x10 : Nat) (x11 : Int) (t : xTh) (M : xMe) : Prop :=
    ((x11 = 0 → p_L_law_1084 F G N xs Q K4 K181 K1109 n x1 x2 x3 x5 x6 x7 x8 x9 t M) ∧ (x11 ≠ 0 → p_L_law_1052 F G N xs Q K4 K181 (p_L_law_1075 F G N xs Q K4 K181 (p_L_law_1084 F G N xs Q K4 K181 K1109) K1109) (p_L_law_1084 F G N xs Q K4 K181 K1109) K1109 F n x1 x2 x3 x5 x6 x7 x8 x9 x10 8 t M))
def p_L_law_1009 (F : Nat) (G : xGx) (N : Nat) (xs : Nat → Int32) (Q : Int → xTh → xMe → Prop) (K4 : Nat → Int → Int → xTh → xMe → Prop) (K181 : Nat → Int → Int → Nat → Nat → Nat → Nat → Int → Int → xTh → xMe → Prop) (K1043 : Nat → Int → Int → Nat → Nat → Nat → Nat → Int → Int → Nat → Int → xTh → xMe → Prop) (K1109 : Nat → Int → Int → Nat → Nat → Int → xTh → xMe → Prop) (n : Nat) (x2 : Int) (x3 : Nat) (x5 : Nat) (x6 : Nat) (x7 : Nat) (x8 : Int) (x9 : Int) (x10 : Nat) (x11 : Int) (x23 : Int) (x24 : Int) (t : xTh) (M : xMe) : Prop :=
    (2 ≤ n ∧ oX11 t x3 ∧ oXQ t x3) ∧ p_L_pass F t x3 x23 M (fun r1012 t1012 M1012 => xqw t t1012 → xlive t1012 → ((x11 = 0 → ((r1012 ≠ ((-2000000098)) → K1043 ((n - 2)) 0 x2 x3 x5 x6 x7 x8 x9 x10 x11 t1012 M1012) ∧ (r1012 = ((-2000000098)) → K1043 ((n - 2)) 1 x2 x3 x5 x6 x7 x8 x9 x10 x11 t1012 M1012))) ∧ (x11 ≠ 0 → (∃ k1023 : Nat, k1023 ≤ (n - 2) ∧ p_X14_count F k1023 t1012 x6 3 M1012 (fun r1023 t1023 M1023 => (xR (r1023 - x24)) ∧ ((r1012 ≠ (r1023 - x24) → K1043 (((n - 2) - k1023)) 0 x2 x3 x5 x6 x7 x8 x9 x10 x11 t1023 M1023) ∧ (r1012 = (r1023 - x24) → K1043 (((n - 2) - k1023)) 1 x2 x3 x5 x6 x7 x8 x9 x10 x11 t1023 M1023)))))))
def p_L_law_991 (F : Nat) (G : xGx) (N : Nat) (xs : Nat → Int32) (Q : Int → xTh → xMe → Prop) (K4 : Nat → Int → Int → xTh → xMe → Prop) (K181 : Nat → Int → Int → Nat → Nat → Nat → Nat → Int → Int → xTh → xMe → Prop) (K1009 : Nat → Int → Nat → Nat → Nat → Nat → Int → Int → Nat → Int → Int → Int → xTh → xMe → Prop) (K1043 : Nat → Int → Int → Nat → Nat → Nat → Nat → Int → Int → Nat → Int → xTh → xMe → Prop) (K1109 : Nat → Int → Int → Nat → Nat → Int → xTh → xMe → Prop) : Nat → Nat → Int → Nat → Nat → Nat → Nat → Int → Int → Nat → Int → Int → Int → Int → xTh → xMe → Prop
  | 0, _, _, _, _, _, _, _, _, _, _, _, _, _, _, _ => False
  | k + 1, n, x2, x3, x5, x6, x7, x8, x9, x10, x11, x23, x24, x25, t, M =>
    ((x23 ≤ x25 → K1009 n x2 x3 x5 x6 x7 x8 x9 x10 x11 x23 x24 t M) ∧ (x25 < x23 → (∃ k1000 : Nat, k1000 ≤ n ∧ p_X14_tick F k1000 t x6 M (fun t1000 M1000 => (xR (x25 + 1)) ∧ p_L_law_991 F G N xs Q K4 K181 K1009 K1043 K1109 k ((n - k1000)) x2 x3 x5 x6 x7 x8 x9 x10 x11 x23 x24 (x25 + 1) t1000 M1000))))
def p_L_law_978 (F : Nat) (G : xGx) (N : Nat) (xs : Nat → Int32) (Q : Int → xTh → xMe → Prop) (K4 : Nat → Int → Int → xTh → xMe → Prop) (K181 : Nat → Int → Int → Nat → Nat → Nat → Nat → Int → Int → xTh → xMe → Prop) (K1043 : Nat → Int → Int → Nat → Nat → Nat → Nat → Int → Int → Nat → Int → xTh → xMe → Prop) (K1109 : Nat → Int → Int → Nat → Nat → Int → xTh → xMe → Prop) (n : Nat) (x2 : Int) (x3 : Nat) (x5 : Nat) (x6 : Nat) (x7 : Nat) (x8 : Int) (x9 : Int) (x10 : Nat) (x23 : Int) (y0 : Int) (t : xTh) (M : xMe) : Prop :=
    (∃ k983 : Nat, k983 ≤ n ∧ p_X14_count F k983 t x6 3 M (fun r983 t983 M983 => p_L_law_991 F G N xs Q K4 K181 (p_L_law_1009 F G N xs Q K4 K181 K1043 K1109) K1043 K1109 F ((n - k983)) x2 x3 x5 x6 x7 x8 x9 x10 y0 x23 r983 0 t983 M983))
def p_L_law_963 (F : Nat) (G : xGx) (N : Nat) (xs : Nat → Int32) (Q : Int → xTh → xMe → Prop) (K4 : Nat → Int → Int → xTh → xMe → Prop) (K181 : Nat → Int → Int → Nat → Nat → Nat → Nat → Int → Int → xTh → xMe → Prop) (K1043 : Nat → Int → Int → Nat → Nat → Nat → Nat → Int → Int → Nat → Int → xTh → xMe → Prop) (K1109 : Nat → Int → Int → Nat → Nat → Int → xTh → xMe → Prop) (n : Nat) (x2 : Int) (x3 : Nat) (x5 : Nat) (x6 : Nat) (x7 : Nat) (x8 : Int) (x9 : Int) (x10 : Nat) (y0 : Int) (y1 : Nat) (t : xTh) (M : xMe) : Prop :=
    (∃ k963 : Nat, k963 ≤ n ∧ p_X13_below F k963 t y1 y0 M (fun r963 t963 M963 => ((r963 ≤ 0 → p_L_law_978 F G N xs Q K4 K181 K1043 K1109 ((n - k963)) x2 x3 x5 x6 x7 x8 x9 x10 r963 0 t963 M963) ∧ (0 < r963 → p_L_law_978 F G N xs Q K4 K181 K1043 K1109 ((n - k963)) x2 x3 x5 x6 x7 x8 x9 x10 r963 1 t963 M963))))
def p_L_law_387 (F : Nat) (G : xGx) (N : Nat) (xs : Nat → Int32) (Q : Int → xTh → xMe → Prop) (K4 : Nat → Int → Int → xTh → xMe → Prop) (K181 : Nat → Int → Int → Nat → Nat → Nat → Nat → Int → Int → xTh → xMe → Prop) (K1043 : Nat → Int → Int → Nat → Nat → Nat → Nat → Int → Int → Nat → Int → xTh → xMe → Prop) (K1109 : Nat → Int → Int → Nat → Nat → Int → xTh → xMe → Prop) (n : Nat) (x2 : Int) (x3 : Nat) (x5 : Nat) (x6 : Nat) (x7 : Nat) (x8 : Int) (x9 : Int) (x10 : Nat) (x11 : Int) (x12 : Int) (x14 : Int) (x16 : Int) (t : xTh) (M : xMe) : Prop :=
    (2 ≤ n ∧ oX11 t x3 ∧ oXQ t x3) ∧ p_L_setThrift t x3 x14 x16 M (fun r392 t392 M392 => xqw t t392 → xlive t392 → ((r392 ≠ x12 → K1043 ((n - 2)) 0 x2 x3 x5 x6 x7 x8 x9 x10 x11 t392 M392) ∧ (r392 = x12 → K1043 ((n - 2)) 1 x2 x3 x5 x6 x7 x8 x9 x10 x11 t392 M392)))
def p_L_law_370 (F : Nat) (G : xGx) (N : Nat) (xs : Nat → Int32) (Q : Int → xTh → xMe → Prop) (K4 : Nat → Int → Int → xTh → xMe → Prop) (K181 : Nat → Int → Int → Nat → Nat → Nat → Nat → Int → Int → xTh → xMe → Prop) (K1043 : Nat → Int → Int → Nat → Nat → Nat → Nat → Int → Int → Nat → Int → xTh → xMe → Prop) (K1109 : Nat → Int → Int → Nat → Nat → Int → xTh → xMe → Prop) (n : Nat) (x2 : Int) (x3 : Nat) (x5 : Nat) (x6 : Nat) (x7 : Nat) (x8 : Int) (x9 : Int) (x10 : Nat) (x11 : Int) (x12 : Int) (x14 : Int) (x16 : Int) (t : xTh) (M : xMe) : Prop :=
    ((x11 = 0 → p_L_law_387 F G N xs Q K4 K181 K1043 K1109 n x2 x3 x5 x6 x7 x8 x9 x10 x11 x12 x14 x16 t M) ∧ (x11 ≠ 0 → (∃ b377 : Nat, xr t x6 2 = some b377 ∧ xk t b377 = 17 ∧ ((0 : Int) ≤ x14 ∧ x14 < (xn t b377 : Int)) ∧ (∃ b382 : Nat, xr t b377 x14.toNat = some b382 ∧ xk t b382 = 14 ∧ ((0 : Int) ≤ 0 ∧ 0 < (xn t b382 : Int)) ∧ (∀ M386 : xMe, M386 = xw M b382 0 x16 → p_L_law_387 F G N xs Q K4 K181 K1043 K1109 n x2 x3 x5 x6 x7 x8 x9 x10 x11 x12 x14 x16 t M386)))))
def p_L_law_341 (F : Nat) (G : xGx) (N : Nat) (xs : Nat → Int32) (Q : Int → xTh → xMe → Prop) (K4 : Nat → Int → Int → xTh → xMe → Prop) (K181 : Nat → Int → Int → Nat → Nat → Nat → Nat → Int → Int → xTh → xMe → Prop) (K1043 : Nat → Int → Int → Nat → Nat → Nat → Nat → Int → Int → Nat → Int → xTh → xMe → Prop) (K1109 : Nat → Int → Int → Nat → Nat → Int → xTh → xMe → Prop) (n : Nat) (x2 : Int) (x3 : Nat) (x5 : Nat) (x6 : Nat) (x7 : Nat) (x8 : Int) (x9 : Int) (x10 : Nat) (x12 : Int) (x14 : Int) (x15 : Int) (x16 : Int) (y0 : Int) (t : xTh) (M : xMe) : Prop :=
    ((x15 = 0 → p_L_law_370 F G N xs Q K4 K181 K1043 K1109 n x2 x3 x5 x6 x7 x8 x9 x10 y0 x12 x14 x16 t M) ∧ (x15 ≠ 0 → ((y0 = 0 → p_L_law_370 F G N xs Q K4 K181 K1043 K1109 n x2 x3 x5 x6 x7 x8 x9 x10 y0 ((-2000000098)) x14 x16 t M) ∧ (y0 ≠ 0 → (∃ b355 : Nat, xr t x6 2 = some b355 ∧ xk t b355 = 17 ∧ ((0 : Int) ≤ x14 ∧ x14 < (xn t b355 : Int)) ∧ (∃ b360 : Nat, xr t b355 x14.toNat = some b360 ∧ xk t b360 = 14 ∧ ((0 : Int) ≤ 0 ∧ 0 < (xn t b360 : Int)) ∧ (∀ z368 : Int, z368 = M b360 0 → p_L_law_370 F G N xs Q K4 K181 K1043 K1109 n x2 x3 x5 x6 x7 x8 x9 x10 y0 z368 x14 x16 t M)))))))
def p_L_law_319 (F : Nat) (G : xGx) (N : Nat) (xs : Nat → Int32) (Q : Int → xTh → xMe → Prop) (K4 : Nat → Int → Int → xTh → xMe → Prop) (K181 : Nat → Int → Int → Nat → Nat → Nat → Nat → Int → Int → xTh → xMe → Prop) (K1043 : Nat → Int → Int → Nat → Nat → Nat → Nat → Int → Int → Nat → Int → xTh → xMe → Prop) (K1109 : Nat → Int → Int → Nat → Nat → Int → xTh → xMe → Prop) (n : Nat) (x2 : Int) (x3 : Nat) (x5 : Nat) (x6 : Nat) (x7 : Nat) (x8 : Int) (x9 : Int) (x10 : Nat) (x12 : Int) (x14 : Int) (x15 : Int) (y0 : Int) (y1 : Nat) (t : xTh) (M : xMe) : Prop :=
    (∃ k319 : Nat, k319 ≤ n ∧ p_X13_below F k319 t y1 y0 M (fun r319 t319 M319 => ((x15 = 0 → p_L_law_341 F G N xs Q K4 K181 K1043 K1109 ((n - k319)) x2 x3 x5 x6 x7 x8 x9 x10 x12 x14 x15 r319 0 t319 M319) ∧ (x15 ≠ 0 → ((100 ≤ r319 → p_L_law_341 F G N xs Q K4 K181 K1043 K1109 ((n - k319)) x2 x3 x5 x6 x7 x8 x9 x10 x12 x14 x15 r319 0 t319 M319) ∧ (r319 < 100 → p_L_law_341 F G N xs Q K4 K181 K1043 K1109 ((n - k319)) x2 x3 x5 x6 x7 x8 x9 x10 x12 x14 x15 r319 1 t319 M319))))))
def p_L_law_577 (F : Nat) (G : xGx) (N : Nat) (xs : Nat → Int32) (Q : Int → xTh → xMe → Prop) (K4 : Nat → Int → Int → xTh → xMe → Prop) (K181 : Nat → Int → Int → Nat → Nat → Nat → Nat → Int → Int → xTh → xMe → Prop) (K1043 : Nat → Int → Int → Nat → Nat → Nat → Nat → Int → Int → Nat → Int → xTh → xMe → Prop) (K1109 : Nat → Int → Int → Nat → Nat → Int → xTh → xMe → Prop) (n : Nat) (x2 : Int) (x3 : Nat) (x5 : Nat) (x6 : Nat) (x7 : Nat) (x8 : Int) (x9 : Int) (x10 : Nat) (x11 : Int) (x12 : Int) (x14 : Int) (x17 : Int) (t : xTh) (M : xMe) : Prop :=
    (3 ≤ n ∧ oX11 t x3 ∧ oXQ t x3) ∧ p_L_send t x3 x14 x17 M (fun r582 t582 M582 => xqw t t582 → xlive t582 → ((r582 ≠ x12 → K1043 ((n - 3)) 0 x2 x3 x5 x6 x7 x8 x9 x10 x11 t582 M582) ∧ (r582 = x12 → K1043 ((n - 3)) 1 x2 x3 x5 x6 x7 x8 x9 x10 x11 t582 M582)))
def p_L_law_515 (F : Nat) (G : xGx) (N : Nat) (xs : Nat → Int32) (Q : Int → xTh → xMe → Prop) (K4 : Nat → Int → Int → xTh → xMe → Prop) (K181 : Nat → Int → Int → Nat → Nat → Nat → Nat → Int → Int → xTh → xMe → Prop) (K1043 : Nat → Int → Int → Nat → Nat → Nat → Nat → Int → Int → Nat → Int → xTh → xMe → Prop) (K1109 : Nat → Int → Int → Nat → Nat → Int → xTh → xMe → Prop) (n : Nat) (x2 : Int) (x3 : Nat) (x5 : Nat) (x6 : Nat) (x7 : Nat) (x8 : Int) (x9 : Int) (x10 : Nat) (x11 : Int) (x12 : Int) (x14 : Int) (x17 : Int) (t : xTh) (M : xMe) : Prop :=
    ((x11 = 0 → p_L_law_577 F G N xs Q K4 K181 K1043 K1109 n x2 x3 x5 x6 x7 x8 x9 x10 x11 x12 x14 x17 t M) ∧ (x11 ≠ 0 → (∃ b524 : Nat, xr t x6 4 = some b524 ∧ xk t b524 = 17 ∧ (1 ≤ n) ∧ (∀ (a529 : Nat) (t529 : xTh) (M529 : xMe), a529 = xz t → t529 = xnw t 14 8 → M529 = xw0 M a529 → ((0 : Int) ≤ 0 ∧ 0 < (xn t529 a529 : Int)) ∧ (∀ M535 : xMe, M535 = xw M529 a529 0 x14 → ((0 : Int) ≤ 1 ∧ 1 < (xn t529 a529 : Int)) ∧ (∀ M543 : xMe, M543 = xw M535 a529 1 (M535 x6 0) → ((0 : Int) ≤ 2 ∧ 2 < (xn t529 a529 : Int)) ∧ (∀ M548 : xMe, M548 = xw M543 a529 2 x17 → ((0 : Int) ≤ 3 ∧ 3 < (xn t529 a529 : Int)) ∧ (∀ M552 : xMe, M552 = xw M548 a529 3 0 → ((0 : Int) ≤ 4 ∧ 4 < (xn t529 a529 : Int)) ∧ (∀ M556 : xMe, M556 = xw M552 a529 4 0 → ((0 : Int) ≤ 5 ∧ 5 < (xn t529 a529 : Int)) ∧ (∀ M560 : xMe, M560 = xw M556 a529 5 0 → ((0 : Int) ≤ 6 ∧ 6 < (xn t529 a529 : Int)) ∧ (∀ M565 : xMe, M565 = xw M560 a529 6 ((-1)) → ((0 : Int) ≤ 7 ∧ 7 < (xn t529 a529 : Int)) ∧ (∀ M570 : xMe, M570 = xw M565 a529 7 0 → (∃ k571 : Nat, k571 ≤ (n - 1) ∧ p_L_with F k571 t529 b524 a529 M570 (fun r571 t571 M571 => (∀ t574 : xTh, t574 = xwr t571 x6 4 (some r571) → p_L_law_577 F G N xs Q K4 K181 K1043 K1109 (((n - 1) - k571)) x2 x3 x5 x6 x7 x8 x9 x10 x11 x12 x14 x17 t574 M571)))))))))))))))
def p_L_law_480 (F : Nat) (G : xGx) (N : Nat) (xs : Nat → Int32) (Q : Int → xTh → xMe → Prop) (K4 : Nat → Int → Int → xTh → xMe → Prop) (K181 : Nat → Int → Int → Nat → Nat → Nat → Nat → Int → Int → xTh → xMe → Prop) (K1043 : Nat → Int → Int → Nat → Nat → Nat → Nat → Int → Int → Nat → Int → xTh → xMe → Prop) (K1109 : Nat → Int → Int → Nat → Nat → Int → xTh → xMe → Prop) (n : Nat) (x2 : Int) (x3 : Nat) (x5 : Nat) (x6 : Nat) (x7 : Nat) (x8 : Int) (x9 : Int) (x10 : Nat) (x12 : Int) (x14 : Int) (x15 : Int) (x17 : Int) (x18 : Int) (y0 : Int) (t : xTh) (M : xMe) : Prop :=
    ((x15 = 0 → p_L_law_515 F G N xs Q K4 K181 K1043 K1109 n x2 x3 x5 x6 x7 x8 x9 x10 y0 x12 x14 x17 t M) ∧ (x15 ≠ 0 → ((x18 ≠ 0 → ((y0 = 0 → p_L_law_515 F G N xs Q K4 K181 K1043 K1109 n x2 x3 x5 x6 x7 x8 x9 x10 y0 ((-2000000099)) x14 x17 t M) ∧ (y0 ≠ 0 → (∃ b504 : Nat, xr t x6 4 = some b504 ∧ xk t b504 = 17 ∧ (xR ((xn t b504 : Nat) : Int)) ∧ (∀ z513 : Int, z513 = ((xn t b504 : Nat) : Int) → p_L_law_515 F G N xs Q K4 K181 K1043 K1109 n x2 x3 x5 x6 x7 x8 x9 x10 y0 z513 x14 x17 t M))))) ∧ (x18 = 0 → p_L_law_515 F G N xs Q K4 K181 K1043 K1109 n x2 x3 x5 x6 x7 x8 x9 x10 y0 ((-2000000098)) x14 x17 t M))))
def p_L_law_452 (F : Nat) (G : xGx) (N : Nat) (xs : Nat → Int32) (Q : Int → xTh → xMe → Prop) (K4 : Nat → Int → Int → xTh → xMe → Prop) (K181 : Nat → Int → Int → Nat → Nat → Nat → Nat → Int → Int → xTh → xMe → Prop) (K1043 : Nat → Int → Int → Nat → Nat → Nat → Nat → Int → Int → Nat → Int → xTh → xMe → Prop) (K1109 : Nat → Int → Int → Nat → Nat → Int → xTh → xMe → Prop) (n : Nat) (x2 : Int) (x3 : Nat) (x5 : Nat) (x6 : Nat) (x7 : Nat) (x8 : Int) (x9 : Int) (x10 : Nat) (x12 : Int) (x14 : Int) (x15 : Int) (x17 : Int) (y0 : Int) (t : xTh) (M : xMe) : Prop :=
    ((x15 = 0 → p_L_law_480 F G N xs Q K4 K181 K1043 K1109 n x2 x3 x5 x6 x7 x8 x9 x10 x12 x14 x15 x17 y0 0 t M) ∧ (x15 ≠ 0 → ((y0 = 0 → p_L_law_480 F G N xs Q K4 K181 K1043 K1109 n x2 x3 x5 x6 x7 x8 x9 x10 x12 x14 x15 x17 y0 0 t M) ∧ (y0 ≠ 0 → (∃ b466 : Nat, xr t x6 4 = some b466 ∧ xk t b466 = 17 ∧ (xR ((xn t b466 : Nat) : Int)) ∧ ((40 ≤ (((xn t b466 : Nat) : Int)) → p_L_law_480 F G N xs Q K4 K181 K1043 K1109 n x2 x3 x5 x6 x7 x8 x9 x10 x12 x14 x15 x17 y0 0 t M) ∧ ((((xn t b466 : Nat) : Int)) < 40 → p_L_law_480 F G N xs Q K4 K181 K1043 K1109 n x2 x3 x5 x6 x7 x8 x9 x10 x12 x14 x15 x17 y0 1 t M)))))))
def p_L_law_429 (F : Nat) (G : xGx) (N : Nat) (xs : Nat → Int32) (Q : Int → xTh → xMe → Prop) (K4 : Nat → Int → Int → xTh → xMe → Prop) (K181 : Nat → Int → Int → Nat → Nat → Nat → Nat → Int → Int → xTh → xMe → Prop) (K1043 : Nat → Int → Int → Nat → Nat → Nat → Nat → Int → Int → Nat → Int → xTh → xMe → Prop) (K1109 : Nat → Int → Int → Nat → Nat → Int → xTh → xMe → Prop) (n : Nat) (x2 : Int) (x3 : Nat) (x5 : Nat) (x6 : Nat) (x7 : Nat) (x8 : Int) (x9 : Int) (x10 : Nat) (x12 : Int) (x14 : Int) (x15 : Int) (y0 : Int) (y1 : Nat) (t : xTh) (M : xMe) : Prop :=
    (∃ k429 : Nat, k429 ≤ n ∧ p_X13_below F k429 t y1 y0 M (fun r429 t429 M429 => ((r429 ≤ 0 → p_L_law_452 F G N xs Q K4 K181 K1043 K1109 ((n - k429)) x2 x3 x5 x6 x7 x8 x9 x10 x12 x14 x15 r429 0 t429 M429) ∧ (0 < r429 → ((1000 ≤ r429 → p_L_law_452 F G N xs Q K4 K181 K1043 K1109 ((n - k429)) x2 x3 x5 x6 x7 x8 x9 x10 x12 x14 x15 r429 0 t429 M429) ∧ (r429 < 1000 → p_L_law_452 F G N xs Q K4 K181 K1043 K1109 ((n - k429)) x2 x3 x5 x6 x7 x8 x9 x10 x12 x14 x15 r429 1 t429 M429))))))
def p_L_law_765 (F : Nat) (G : xGx) (N : Nat) (xs : Nat → Int32) (Q : Int → xTh → xMe → Prop) (K4 : Nat → Int → Int → xTh → xMe → Prop) (K181 : Nat → Int → Int → Nat → Nat → Nat → Nat → Int → Int → xTh → xMe → Prop) (K1043 : Nat → Int → Int → Nat → Nat → Nat → Nat → Int → Int → Nat → Int → xTh → xMe → Prop) (K1109 : Nat → Int → Int → Nat → Nat → Int → xTh → xMe → Prop) (n : Nat) (x2 : Int) (x3 : Nat) (x5 : Nat) (x6 : Nat) (x7 : Nat) (x8 : Int) (x9 : Int) (x10 : Nat) (x11 : Int) (x12 : Int) (x14 : Int) (x19 : Int) (x20 : Int) (t : xTh) (M : xMe) : Prop :=
    (4 ≤ n ∧ oX11 t x3 ∧ oXQ t x3) ∧ p_L_grant t x3 x14 x19 x20 M (fun r772 t772 M772 => xqw t t772 → xlive t772 → ((r772 ≠ x12 → K1043 ((n - 4)) 0 x2 x3 x5 x6 x7 x8 x9 x10 x11 t772 M772) ∧ (r772 = x12 → K1043 ((n - 4)) 1 x2 x3 x5 x6 x7 x8 x9 x10 x11 t772 M772)))
def p_L_law_719 (F : Nat) (G : xGx) (N : Nat) (xs : Nat → Int32) (Q : Int → xTh → xMe → Prop) (K4 : Nat → Int → Int → xTh → xMe → Prop) (K181 : Nat → Int → Int → Nat → Nat → Nat → Nat → Int → Int → xTh → xMe → Prop) (K1043 : Nat → Int → Int → Nat → Nat → Nat → Nat → Int → Int → Nat → Int → xTh → xMe → Prop) (K1109 : Nat → Int → Int → Nat → Nat → Int → xTh → xMe → Prop) (n : Nat) (x2 : Int) (x3 : Nat) (x5 : Nat) (x6 : Nat) (x7 : Nat) (x8 : Int) (x9 : Int) (x10 : Nat) (x11 : Int) (x12 : Int) (x14 : Int) (x19 : Int) (x20 : Int) (t : xTh) (M : xMe) : Prop :=
    ((x11 = 0 → p_L_law_765 F G N xs Q K4 K181 K1043 K1109 n x2 x3 x5 x6 x7 x8 x9 x10 x11 x12 x14 x19 x20 t M) ∧ (x11 ≠ 0 → (∃ b728 : Nat, xr t x6 5 = some b728 ∧ xk t b728 = 17 ∧ (1 ≤ n) ∧ (∀ (a732 : Nat) (t732 : xTh) (M732 : xMe), a732 = xz t → t732 = xnw t 14 4 → M732 = xw0 M a732 → ((0 : Int) ≤ 0 ∧ 0 < (xn t732 a732 : Int)) ∧ (∀ M738 : xMe, M738 = xw M732 a732 0 x14 → ((0 : Int) ≤ 1 ∧ 1 < (xn t732 a732 : Int)) ∧ (∀ M743 : xMe, M743 = xw M738 a732 1 x19 → (xR ((M743 x6 0) + x20)) ∧ ((0 : Int) ≤ 2 ∧ 2 < (xn t732 a732 : Int)) ∧ (∀ M754 : xMe, M754 = xw M743 a732 2 ((M743 x6 0) + x20) → ((0 : Int) ≤ 3 ∧ 3 < (xn t732 a732 : Int)) ∧ (∀ M758 : xMe, M758 = xw M754 a732 3 0 → (∃ k759 : Nat, k759 ≤ (n - 1) ∧ p_L_with F k759 t732 b728 a732 M758 (fun r759 t759 M759 => (∀ t762 : xTh, t762 = xwr t759 x6 5 (some r759) → p_L_law_765 F G N xs Q K4 K181 K1043 K1109 (((n - 1) - k759)) x2 x3 x5 x6 x7 x8 x9 x10 x11 x12 x14 x19 x20 t762 M759)))))))))))
def p_L_law_684 (F : Nat) (G : xGx) (N : Nat) (xs : Nat → Int32) (Q : Int → xTh → xMe → Prop) (K4 : Nat → Int → Int → xTh → xMe → Prop) (K181 : Nat → Int → Int → Nat → Nat → Nat → Nat → Int → Int → xTh → xMe → Prop) (K1043 : Nat → Int → Int → Nat → Nat → Nat → Nat → Int → Int → Nat → Int → xTh → xMe → Prop) (K1109 : Nat → Int → Int → Nat → Nat → Int → xTh → xMe → Prop) (n : Nat) (x2 : Int) (x3 : Nat) (x5 : Nat) (x6 : Nat) (x7 : Nat) (x8 : Int) (x9 : Int) (x10 : Nat) (x12 : Int) (x14 : Int) (x15 : Int) (x19 : Int) (x20 : Int) (x21 : Int) (y0 : Int) (t : xTh) (M : xMe) : Prop :=
    ((x15 = 0 → p_L_law_719 F G N xs Q K4 K181 K1043 K1109 n x2 x3 x5 x6 x7 x8 x9 x10 y0 x12 x14 x19 x20 t M) ∧ (x15 ≠ 0 → ((x21 ≠ 0 → ((y0 = 0 → p_L_law_719 F G N xs Q K4 K181 K1043 K1109 n x2 x3 x5 x6 x7 x8 x9 x10 y0 ((-2000000099)) x14 x19 x20 t M) ∧ (y0 ≠ 0 → (∃ b708 : Nat, xr t x6 5 = some b708 ∧ xk t b708 = 17 ∧ (xR ((xn t b708 : Nat) : Int)) ∧ (∀ z717 : Int, z717 = ((xn t b708 : Nat) : Int) → p_L_law_719 F G N xs Q K4 K181 K1043 K1109 n x2 x3 x5 x6 x7 x8 x9 x10 y0 z717 x14 x19 x20 t M))))) ∧ (x21 = 0 → p_L_law_719 F G N xs Q K4 K181 K1043 K1109 n x2 x3 x5 x6 x7 x8 x9 x10 y0 ((-2000000098)) x14 x19 x20 t M))))
def p_L_law_656 (F : Nat) (G : xGx) (N : Nat) (xs : Nat → Int32) (Q : Int → xTh → xMe → Prop) (K4 : Nat → Int → Int → xTh → xMe → Prop) (K181 : Nat → Int → Int → Nat → Nat → Nat → Nat → Int → Int → xTh → xMe → Prop) (K1043 : Nat → Int → Int → Nat → Nat → Nat → Nat → Int → Int → Nat → Int → xTh → xMe → Prop) (K1109 : Nat → Int → Int → Nat → Nat → Int → xTh → xMe → Prop) (n : Nat) (x2 : Int) (x3 : Nat) (x5 : Nat) (x6 : Nat) (x7 : Nat) (x8 : Int) (x9 : Int) (x10 : Nat) (x12 : Int) (x14 : Int) (x15 : Int) (x19 : Int) (x20 : Int) (y0 : Int) (t : xTh) (M : xMe) : Prop :=
    ((x15 = 0 → p_L_law_684 F G N xs Q K4 K181 K1043 K1109 n x2 x3 x5 x6 x7 x8 x9 x10 x12 x14 x15 x19 x20 y0 0 t M) ∧ (x15 ≠ 0 → ((y0 = 0 → p_L_law_684 F G N xs Q K4 K181 K1043 K1109 n x2 x3 x5 x6 x7 x8 x9 x10 x12 x14 x15 x19 x20 y0 0 t M) ∧ (y0 ≠ 0 → (∃ b670 : Nat, xr t x6 5 = some b670 ∧ xk t b670 = 17 ∧ (xR ((xn t b670 : Nat) : Int)) ∧ ((30 ≤ (((xn t b670 : Nat) : Int)) → p_L_law_684 F G N xs Q K4 K181 K1043 K1109 n x2 x3 x5 x6 x7 x8 x9 x10 x12 x14 x15 x19 x20 y0 0 t M) ∧ ((((xn t b670 : Nat) : Int)) < 30 → p_L_law_684 F G N xs Q K4 K181 K1043 K1109 n x2 x3 x5 x6 x7 x8 x9 x10 x12 x14 x15 x19 x20 y0 1 t M)))))))
def p_L_law_628 (F : Nat) (G : xGx) (N : Nat) (xs : Nat → Int32) (Q : Int → xTh → xMe → Prop) (K4 : Nat → Int → Int → xTh → xMe → Prop) (K181 : Nat → Int → Int → Nat → Nat → Nat → Nat → Int → Int → xTh → xMe → Prop) (K1043 : Nat → Int → Int → Nat → Nat → Nat → Nat → Int → Int → Nat → Int → xTh → xMe → Prop) (K1109 : Nat → Int → Int → Nat → Nat → Int → xTh → xMe → Prop) (n : Nat) (x2 : Int) (x3 : Nat) (x5 : Nat) (x6 : Nat) (x7 : Nat) (x8 : Int) (x9 : Int) (x10 : Nat) (x12 : Int) (x14 : Int) (x15 : Int) (x19 : Int) (y0 : Int) (y1 : Nat) (t : xTh) (M : xMe) : Prop :=
    (∃ k628 : Nat, k628 ≤ n ∧ p_X13_below F k628 t y1 y0 M (fun r628 t628 M628 => ((x19 ≤ 0 → p_L_law_656 F G N xs Q K4 K181 K1043 K1109 ((n - k628)) x2 x3 x5 x6 x7 x8 x9 x10 x12 x14 x15 x19 r628 0 t628 M628) ∧ (0 < x19 → ((r628 ≤ 0 → p_L_law_656 F G N xs Q K4 K181 K1043 K1109 ((n - k628)) x2 x3 x5 x6 x7 x8 x9 x10 x12 x14 x15 x19 r628 0 t628 M628) ∧ (0 < r628 → ((10000 ≤ r628 → p_L_law_656 F G N xs Q K4 K181 K1043 K1109 ((n - k628)) x2 x3 x5 x6 x7 x8 x9 x10 x12 x14 x15 x19 r628 0 t628 M628) ∧ (r628 < 10000 → p_L_law_656 F G N xs Q K4 K181 K1043 K1109 ((n - k628)) x2 x3 x5 x6 x7 x8 x9 x10 x12 x14 x15 x19 r628 1 t628 M628))))))))
def p_L_law_924 (F : Nat) (G : xGx) (N : Nat) (xs : Nat → Int32) (Q : Int → xTh → xMe → Prop) (K4 : Nat → Int → Int → xTh → xMe → Prop) (K181 : Nat → Int → Int → Nat → Nat → Nat → Nat → Int → Int → xTh → xMe → Prop) (K1043 : Nat → Int → Int → Nat → Nat → Nat → Nat → Int → Int → Nat → Int → xTh → xMe → Prop) (K1109 : Nat → Int → Int → Nat → Nat → Int → xTh → xMe → Prop) (n : Nat) (x2 : Int) (x3 : Nat) (x5 : Nat) (x6 : Nat) (x7 : Nat) (x8 : Int) (x9 : Int) (x10 : Nat) (x11 : Int) (x12 : Int) (x14 : Int) (x22 : Int) (t : xTh) (M : xMe) : Prop :=
    (2 ≤ n ∧ oX11 t x3 ∧ oXQ t x3) ∧ p_L_forward t x3 x22 x14 M (fun r929 t929 M929 => xqw t t929 → xlive t929 → ((r929 ≠ x12 → K1043 ((n - 2)) 0 x2 x3 x5 x6 x7 x8 x9 x10 x11 t929 M929) ∧ (r929 = x12 → K1043 ((n - 2)) 1 x2 x3 x5 x6 x7 x8 x9 x10 x11 t929 M929)))
def p_L_law_909 (F : Nat) (G : xGx) (N : Nat) (xs : Nat → Int32) (Q : Int → xTh → xMe → Prop) (K4 : Nat → Int → Int → xTh → xMe → Prop) (K181 : Nat → Int → Int → Nat → Nat → Nat → Nat → Int → Int → xTh → xMe → Prop) (K924 : Nat → Int → Nat → Nat → Nat → Nat → Int → Int → Nat → Int → Int → Int → Int → xTh → xMe → Prop) (K1043 : Nat → Int → Int → Nat → Nat → Nat → Nat → Int → Int → Nat → Int → xTh → xMe → Prop) (K1109 : Nat → Int → Int → Nat → Nat → Int → xTh → xMe → Prop) (n : Nat) (x2 : Int) (x3 : Nat) (x5 : Nat) (x6 : Nat) (x7 : Nat) (x8 : Int) (x9 : Int) (x10 : Nat) (x11 : Int) (x14 : Int) (x22 : Int) (x23 : Nat) (x24 : Int) (t : xTh) (M : xMe) : Prop :=
    ((x24 = 0 → ((0 : Int) ≤ 1 ∧ 1 < (xn t x23 : Int)) ∧ (∀ z922 : Int, z922 = M x23 1 → K924 n x2 x3 x5 x6 x7 x8 x9 x10 x11 z922 x14 x22 t M)) ∧ (x24 ≠ 0 → K924 n x2 x3 x5 x6 x7 x8 x9 x10 x11 ((-1)) x14 x22 t M))
def p_L_law_876 (F : Nat) (G : xGx) (N : Nat) (xs : Nat → Int32) (Q : Int → xTh → xMe → Prop) (K4 : Nat → Int → Int → xTh → xMe → Prop) (K181 : Nat → Int → Int → Nat → Nat → Nat → Nat → Int → Int → xTh → xMe → Prop) (K924 : Nat → Int → Nat → Nat → Nat → Nat → Int → Int → Nat → Int → Int → Int → Int → xTh → xMe → Prop) (K1043 : Nat → Int → Int → Nat → Nat → Nat → Nat → Int → Int → Nat → Int → xTh → xMe → Prop) (K1109 : Nat → Int → Int → Nat → Nat → Int → xTh → xMe → Prop) (n : Nat) (x2 : Int) (x3 : Nat) (x5 : Nat) (x6 : Nat) (x7 : Nat) (x8 : Int) (x9 : Int) (x10 : Nat) (x11 : Int) (x14 : Int) (x22 : Int) (x23 : Nat) (y0 : Int) (t : xTh) (M : xMe) : Prop :=
    ((y0 ≠ 0 → p_L_law_909 F G N xs Q K4 K181 K924 K1043 K1109 n x2 x3 x5 x6 x7 x8 x9 x10 x11 x14 x22 x23 y0 t M) ∧ (y0 = 0 → ((0 : Int) ≤ 0 ∧ 0 < (xn t x23 : Int)) ∧ (∀ M888 : xMe, M888 = xw M x23 0 x14 → ((0 : Int) ≤ 1 ∧ 1 < (xn t x23 : Int)) ∧ (xR ((M888 x23 1) - (M888 x6 10))) ∧ ((0 : Int) ≤ 1 ∧ 1 < (xn t x23 : Int)) ∧ (∀ M900 : xMe, M900 = xw M888 x23 1 ((M888 x23 1) - (M888 x6 10)) → ((0 : Int) ≤ 3 ∧ 3 < (xn t x23 : Int)) ∧ (xR ((M900 x23 3) + 1)) ∧ ((0 : Int) ≤ 3 ∧ 3 < (xn t x23 : Int)) ∧ (∀ M908 : xMe, M908 = xw M900 x23 3 ((M900 x23 3) + 1) → p_L_law_909 F G N xs Q K4 K181 K924 K1043 K1109 n x2 x3 x5 x6 x7 x8 x9 x10 x11 x14 x22 x23 y0 t M908)))))
def p_L_law_825 (F : Nat) (G : xGx) (N : Nat) (xs : Nat → Int32) (Q : Int → xTh → xMe → Prop) (K4 : Nat → Int → Int → xTh → xMe → Prop) (K181 : Nat → Int → Int → Nat → Nat → Nat → Nat → Int → Int → xTh → xMe → Prop) (K1043 : Nat → Int → Int → Nat → Nat → Nat → Nat → Int → Int → Nat → Int → xTh → xMe → Prop) (K1109 : Nat → Int → Int → Nat → Nat → Int → xTh → xMe → Prop) (n : Nat) (x2 : Int) (x3 : Nat) (x5 : Nat) (x6 : Nat) (x7 : Nat) (x8 : Int) (x9 : Int) (x10 : Nat) (x12 : Int) (x14 : Int) (x22 : Int) (y0 : Int) (t : xTh) (M : xMe) : Prop :=
    ((y0 = 0 → p_L_law_924 F G N xs Q K4 K181 K1043 K1109 n x2 x3 x5 x6 x7 x8 x9 x10 y0 x12 x14 x22 t M) ∧ (y0 ≠ 0 → (∃ b834 : Nat, xr t x6 5 = some b834 ∧ xk t b834 = 17 ∧ ((0 : Int) ≤ x22 ∧ x22 < (xn t b834 : Int)) ∧ (∃ b839 : Nat, xr t b834 x22.toNat = some b839 ∧ xk t b839 = 14 ∧ ((0 : Int) ≤ 0 ∧ 0 < (xn t b839 : Int)) ∧ (((M b839 0) = x14 → p_L_law_876 F G N xs Q K4 K181 (p_L_law_924 F G N xs Q K4 K181 K1043 K1109) K1043 K1109 n x2 x3 x5 x6 x7 x8 x9 x10 y0 x14 x22 b839 1 t M) ∧ ((M b839 0) ≠ x14 → ((0 : Int) ≤ 3 ∧ 3 < (xn t b839 : Int)) ∧ (((M b839 3) = 2 → p_L_law_876 F G N xs Q K4 K181 (p_L_law_924 F G N xs Q K4 K181 K1043 K1109) K1043 K1109 n x2 x3 x5 x6 x7 x8 x9 x10 y0 x14 x22 b839 1 t M) ∧ ((M b839 3) ≠ 2 → ((0 : Int) ≤ 1 ∧ 1 < (xn t b839 : Int)) ∧ (((M x6 10) < (M b839 1) → p_L_law_876 F G N xs Q K4 K181 (p_L_law_924 F G N xs Q K4 K181 K1043 K1109) K1043 K1109 n x2 x3 x5 x6 x7 x8 x9 x10 y0 x14 x22 b839 0 t M) ∧ ((M b839 1) ≤ (M x6 10) → p_L_law_876 F G N xs Q K4 K181 (p_L_law_924 F G N xs Q K4 K181 K1043 K1109) K1043 K1109 n x2 x3 x5 x6 x7 x8 x9 x10 y0 x14 x22 b839 1 t M))))))))))
def p_L_law_256 (F : Nat) (G : xGx) (N : Nat) (xs : Nat → Int32) (Q : Int → xTh → xMe → Prop) (K4 : Nat → Int → Int → xTh → xMe → Prop) (K181 : Nat → Int → Int → Nat → Nat → Nat → Nat → Int → Int → xTh → xMe → Prop) (K1109 : Nat → Int → Int → Nat → Nat → Int → xTh → xMe → Prop) (n : Nat) (x2 : Int) (x3 : Nat) (x5 : Nat) (x6 : Nat) (x7 : Nat) (x8 : Int) (x9 : Int) (x10 : Nat) (x12 : Int) (x14 : Int) (y0 : Int) (t : xTh) (M : xMe) : Prop :=
    (∃ k262 : Nat, k262 ≤ n ∧ p_X13_below F k262 t x5 9 M (fun r262 t262 M262 => ((r262 < 0 ∨ 4 < r262 → (∃ k951 : Nat, k951 ≤ (n - k262) ∧ p_X13_below F k951 t262 x5 5 M262 (fun r951 t951 M951 => ((r951 ≠ 0 → p_L_law_963 F G N xs Q K4 K181 (p_L_law_1043 F G N xs Q K4 K181 K1109) K1109 (((n - k262) - k951)) x2 x3 x5 x6 x7 x8 x9 x10 4 x5 t951 M951) ∧ (r951 = 0 → p_L_law_963 F G N xs Q K4 K181 (p_L_law_1043 F G N xs Q K4 K181 K1109) K1109 (((n - k262) - k951)) x2 x3 x5 x6 x7 x8 x9 x10 20 x5 t951 M951))))) ∧ (r262 = 0 → (∃ k306 : Nat, k306 ≤ (n - k262) ∧ p_X13_below F k306 t262 x5 6 M262 (fun r306 t306 M306 => ((r306 ≠ 0 → p_L_law_319 F G N xs Q K4 K181 (p_L_law_1043 F G N xs Q K4 K181 K1109) K1109 (((n - k262) - k306)) x2 x3 x5 x6 x7 x8 x9 x10 x12 x14 y0 8 x5 t306 M306) ∧ (r306 = 0 → p_L_law_319 F G N xs Q K4 K181 (p_L_law_1043 F G N xs Q K4 K181 K1109) K1109 (((n - k262) - k306)) x2 x3 x5 x6 x7 x8 x9 x10 x12 x14 y0 120 x5 t306 M306))))) ∧ (r262 = 1 → (∃ k415 : Nat, k415 ≤ (n - k262) ∧ p_X13_below F k415 t262 x5 6 M262 (fun r415 t415 M415 => ((r415 ≠ 0 → p_L_law_429 F G N xs Q K4 K181 (p_L_law_1043 F G N xs Q K4 K181 K1109) K1109 (((n - k262) - k415)) x2 x3 x5 x6 x7 x8 x9 x10 x12 x14 y0 25 x5 t415 M415) ∧ (r415 = 0 → p_L_law_429 F G N xs Q K4 K181 (p_L_law_1043 F G N xs Q K4 K181 K1109) K1109 (((n - k262) - k415)) x2 x3 x5 x6 x7 x8 x9 x10 x12 x14 y0 1100 x5 t415 M415))))) ∧ (r262 = 2 → (∃ k415 : Nat, k415 ≤ (n - k262) ∧ p_X13_below F k415 t262 x5 6 M262 (fun r415 t415 M415 => ((r415 ≠ 0 → p_L_law_429 F G N xs Q K4 K181 (p_L_law_1043 F G N xs Q K4 K181 K1109) K1109 (((n - k262) - k415)) x2 x3 x5 x6 x7 x8 x9 x10 x12 x14 y0 25 x5 t415 M415) ∧ (r415 = 0 → p_L_law_429 F G N xs Q K4 K181 (p_L_law_1043 F G N xs Q K4 K181 K1109) K1109 (((n - k262) - k415)) x2 x3 x5 x6 x7 x8 x9 x10 x12 x14 y0 1100 x5 t415 M415))))) ∧ (r262 = 3 → (∃ k603 : Nat, k603 ≤ (n - k262) ∧ p_X13_below F k603 t262 x5 40 M262 (fun r603 t603 M603 => (∃ k614 : Nat, k614 ≤ ((n - k262) - k603) ∧ p_X13_below F k614 t603 x5 9 M603 (fun r614 t614 M614 => ((r614 ≠ 0 → p_L_law_628 F G N xs Q K4 K181 (p_L_law_1043 F G N xs Q K4 K181 K1109) K1109 ((((n - k262) - k603) - k614)) x2 x3 x5 x6 x7 x8 x9 x10 x12 x14 y0 r603 12 x5 t614 M614) ∧ (r614 = 0 → p_L_law_628 F G N xs Q K4 K181 (p_L_law_1043 F G N xs Q K4 K181 K1109) K1109 ((((n - k262) - k603) - k614)) x2 x3 x5 x6 x7 x8 x9 x10 x12 x14 y0 r603 10050 x5 t614 M614))))))) ∧ (r262 = 4 → (∃ b793 : Nat, xr t262 x6 5 = some b793 ∧ xk t262 b793 = 17 ∧ (xR ((xn t262 b793 : Nat) : Int)) ∧ (xR ((((xn t262 b793 : Nat) : Int)) + 1)) ∧ (∃ k799 : Nat, k799 ≤ (n - k262) ∧ p_X13_below F k799 t262 x5 ((((xn t262 b793 : Nat) : Int)) + 1) M262 (fun r799 t799 M799 => ((y0 = 0 → p_L_law_825 F G N xs Q K4 K181 (p_L_law_1043 F G N xs Q K4 K181 K1109) K1109 (((n - k262) - k799)) x2 x3 x5 x6 x7 x8 x9 x10 x12 x14 r799 0 t799 M799) ∧ (y0 ≠ 0 → (∃ b813 : Nat, xr t799 x6 5 = some b813 ∧ xk t799 b813 = 17 ∧ (xR ((xn t799 b813 : Nat) : Int)) ∧ (((((xn t799 b813 : Nat) : Int)) ≤ r799 → p_L_law_825 F G N xs Q K4 K181 (p_L_law_1043 F G N xs Q K4 K181 K1109) K1109 (((n - k262) - k799)) x2 x3 x5 x6 x7 x8 x9 x10 x12 x14 r799 0 t799 M799) ∧ (r799 < (((xn t799 b813 : Nat) : Int)) → p_L_law_825 F G N xs Q K4 K181 (p_L_law_1043 F G N xs Q K4 K181 K1109) K1109 (((n - k262) - k799)) x2 x3 x5 x6 x7 x8 x9 x10 x12 x14 r799 1 t799 M799))))))))))))
def p_L_law_238 (F : Nat) (G : xGx) (N : Nat) (xs : Nat → Int32) (Q : Int → xTh → xMe → Prop) (K4 : Nat → Int → Int → xTh → xMe → Prop) (K181 : Nat → Int → Int → Nat → Nat → Nat → Nat → Int → Int → xTh → xMe → Prop) (K1109 : Nat → Int → Int → Nat → Nat → Int → xTh → xMe → Prop) (n : Nat) (x2 : Int) (x3 : Nat) (x5 : Nat) (x6 : Nat) (x7 : Nat) (x8 : Int) (x9 : Int) (x10 : Nat) (x12 : Int) (x13 : Int) (y0 : Int) (y1 : Int) (y2 : Nat) (t : xTh) (M : xMe) : Prop :=
    (xR (y1 + y0)) ∧ (∃ k239 : Nat, k239 ≤ n ∧ p_X13_below F k239 t y2 (y1 + y0) M (fun r239 t239 M239 => ((x13 ≤ r239 → p_L_law_256 F G N xs Q K4 K181 K1109 ((n - k239)) x2 x3 x5 x6 x7 x8 x9 x10 x12 r239 0 t239 M239) ∧ (r239 < x13 → p_L_law_256 F G N xs Q K4 K181 K1109 ((n - k239)) x2 x3 x5 x6 x7 x8 x9 x10 x12 r239 1 t239 M239))))
def p_L_law_181 (F : Nat) (G : xGx) (N : Nat) (xs : Nat → Int32) (Q : Int → xTh → xMe → Prop) (K4 : Nat → Int → Int → xTh → xMe → Prop) (K1109 : Nat → Int → Int → Nat → Nat → Int → xTh → xMe → Prop) : Nat → Nat → Int → Int → Nat → Nat → Nat → Nat → Int → Int → xTh → xMe → Prop
  | 0, _, _, _, _, _, _, _, _, _, _, _ => False
  | k + 1, n, x1, x2, x3, x5, x6, x7, x8, x9, t, M =>
    ((35 ≤ x9 → K1109 n x1 x2 x3 x7 x8 t M) ∧ (x9 < 35 → ((x1 = 0 → K1109 n x1 x2 x3 x7 x8 t M) ∧ (x1 ≠ 0 → (∃ k194 : Nat, k194 ≤ n ∧ p_X14_copy F k194 t x6 M (fun r194 t194 M194 => (∃ b208 : Nat, xr t194 x6 2 = some b208 ∧ xk t194 b208 = 17 ∧ (xR ((xn t194 b208 : Nat) : Int)) ∧ (∀ z212 : Int, z212 = ((xn t194 b208 : Nat) : Int) → (∃ k222 : Nat, k222 ≤ (n - k194) ∧ p_X13_below F k222 t194 x5 12 M194 (fun r222 t222 M222 => ((r222 = 0 → p_L_law_238 F G N xs Q K4 (p_L_law_181 F G N xs Q K4 K1109 k) K1109 (((n - k194) - k222)) x2 x3 x5 x6 x7 x8 x9 r194 ((-2000000097)) z212 1 z212 x5 t222 M222) ∧ (r222 ≠ 0 → ((z212 ≠ 0 → p_L_law_238 F G N xs Q K4 (p_L_law_181 F G N xs Q K4 K1109 k) K1109 (((n - k194) - k222)) x2 x3 x5 x6 x7 x8 x9 r194 ((-2000000097)) z212 0 z212 x5 t222 M222) ∧ (z212 = 0 → p_L_law_238 F G N xs Q K4 (p_L_law_181 F G N xs Q K4 K1109 k) K1109 (((n - k194) - k222)) x2 x3 x5 x6 x7 x8 x9 r194 ((-2000000097)) z212 1 z212 x5 t222 M222))))))))))))))
def p_L_law_167 (F : Nat) (G : xGx) (N : Nat) (xs : Nat → Int32) (Q : Int → xTh → xMe → Prop) (K4 : Nat → Int → Int → xTh → xMe → Prop) (n : Nat) (x2 : Int) (x3 : Nat) (x5 : Nat) (x6 : Nat) (y0 : Int) (t : xTh) (M : xMe) : Prop :=
    (1 ≤ n) ∧ (∀ (a170 : Nat) (t170 : xTh) (M170 : xMe), a170 = xz t → t170 = xnw t 18 9 → M170 = xw0 M a170 → p_L_law_181 F G N xs Q K4 (p_L_law_1109 F G N xs Q K4) F ((n - 1)) y0 x2 x3 x5 x6 a170 0 0 t170 M170)
def p_L_law_131 (F : Nat) (G : xGx) (N : Nat) (xs : Nat → Int32) (Q : Int → xTh → xMe → Prop) (K4 : Nat → Int → Int → xTh → xMe → Prop) (n : Nat) (x2 : Int) (x3 : Nat) (x4 : Nat) (x5 : Nat) (y0 : Int) (t : xTh) (M : xMe) : Prop :=
    (∃ k137 : Nat, k137 ≤ n ∧ p_L_randomRoad F G k137 t x3 x4 x5 M (fun r137 t137 M137 => ((r137 = none → Q 0 t137 M137) ∧ (∀ b144 : Nat, r137 = some b144 → ((y0 = 0 → p_L_law_167 F G N xs Q K4 ((n - k137)) x2 x3 x5 b144 0 t137 M137) ∧ (y0 ≠ 0 → (∃ k156 : Nat, k156 ≤ (n - k137) ∧ p_L_agrees F k156 t137 x3 b144 M137 (fun r156 t156 M156 => ((r156 = 0 → p_L_law_167 F G N xs Q K4 (((n - k137) - k156)) x2 x3 x5 b144 0 t156 M156) ∧ (r156 ≠ 0 → p_L_law_167 F G N xs Q K4 (((n - k137) - k156)) x2 x3 x5 b144 1 t156 M156))))))))))
def p_L_law_4 (F : Nat) (G : xGx) (N : Nat) (xs : Nat → Int32) (Q : Int → xTh → xMe → Prop) : Nat → Nat → Int → Int → xTh → xMe → Prop
  | 0, _, _, _, _, _ => False
  | k + 1, n, x1, x2, t, M =>
    ((((N : Int)) ≤ x2 → (x1 = 0 ∨ x1 = 1) ∧ Q x1 t M) ∧ (x2 < ((N : Int)) → ((2 ≤ x2 → (x1 = 0 ∨ x1 = 1) ∧ Q x1 t M) ∧ (x2 < 2 → ((x1 = 0 → (x1 = 0 ∨ x1 = 1) ∧ Q x1 t M) ∧ (x1 ≠ 0 → (1 ≤ n) ∧ (∀ (a19 : Nat) (t19 : xTh) (M19 : xMe), a19 = xz t → t19 = xnw t 11 0 → M19 = xw0 M a19 → (435 ≤ (n - 1) ∧ xz t19 = a19 + 1 ∧ ∀ j, M19 a19 j = 0) ∧ (∀ (t23 : xTh) (M23 : xMe), oX11W t23 a19 → xz t23 = a19 + 436 → xsm t19 t23 0 a19 → (∀ b, b < a19 → M23 b = M19 b) → xTI M23 a19 → xlive t23 → (1 ≤ ((n - 1) - 435)) ∧ (∀ (a29 : Nat) (t29 : xTh) (M29 : xMe), a29 = xz t23 → t29 = xnw t23 14 8 → M29 = xw0 M23 a29 → (1 ≤ (((n - 1) - 435) - 1)) ∧ (∀ (a33 : Nat) (t33 : xTh) (M33 : xMe), a33 = xz t29 → t33 = xnw t29 19 0 → M33 = xw0 M29 a33 → ((0 : Int) ≤ x2 ∧ x2 < (N : Int)) ∧ (∃ k40 : Nat, k40 ≤ ((((n - 1) - 435) - 1) - 1) ∧ p_X13_init F k40 t33 a33 ((xs x2.toNat).toInt) M33 (fun t40 M40 => (1 ≤ (((((n - 1) - 435) - 1) - 1) - k40)) ∧ (∀ (a46 : Nat) (t46 : xTh) (M46 : xMe), a46 = xz t40 → t46 = xnw t40 20 0 → M46 = xw0 M40 a46 → (∃ k50 : Nat, k50 ≤ ((((((n - 1) - 435) - 1) - 1) - k40) - 1) ∧ p_X14_init F k50 t46 a46 M46 (fun t50 M50 => (∃ k53 : Nat, k53 ≤ (((((((n - 1) - 435) - 1) - 1) - k40) - 1) - k50) ∧ p_L_agrees F k53 t50 a19 a46 M50 (fun r53 t53 M53 => ((r53 = 0 → p_L_law_131 F G N xs Q (p_L_law_4 F G N xs Q k) (((((((((n - 1) - 435) - 1) - 1) - k40) - 1) - k50) - k53)) x2 a19 a29 a33 0 t53 M53) ∧ (r53 ≠ 0 → (oX11 t53 a19 ∧ oXQ t53 a19) ∧ p_X11_errorOffset a19 M53 (fun r60 M60 => ((r60 ≠ ((-1)) → p_L_law_131 F G N xs Q (p_L_law_4 F G N xs Q k) (((((((((n - 1) - 435) - 1) - 1) - k40) - 1) - k50) - k53)) x2 a19 a29 a33 0 t53 M60) ∧ (r60 = ((-1)) → (oX11 t53 a19 ∧ oXQ t53 a19) ∧ p_X11_undo t53 a19 M60 (fun r68 t68 M68 => xqw t53 t68 → xlive t68 → ((r68 ≠ ((-1)) → p_L_law_131 F G N xs Q (p_L_law_4 F G N xs Q k) (((((((((n - 1) - 435) - 1) - 1) - k40) - 1) - k50) - k53)) x2 a19 a29 a33 0 t68 M68) ∧ (r68 = ((-1)) → (2 ≤ ((((((((n - 1) - 435) - 1) - 1) - k40) - 1) - k50) - k53) ∧ oX11 t68 a19 ∧ oXQ t68 a19) ∧ p_L_pass F t68 a19 201 M68 (fun r79 t79 M79 => xqw t68 t79 → xlive t79 → ((r79 ≠ ((-2000000098)) → p_L_law_131 F G N xs Q (p_L_law_4 F G N xs Q k) ((((((((((n - 1) - 435) - 1) - 1) - k40) - 1) - k50) - k53) - 2)) x2 a19 a29 a33 0 t79 M79) ∧ (r79 = ((-2000000098)) → (2 ≤ (((((((((n - 1) - 435) - 1) - 1) - k40) - 1) - k50) - k53) - 2) ∧ oX11 t79 a19 ∧ oXQ t79 a19) ∧ p_L_pass F t79 a19 7 M79 (fun r90 t90 M90 => xqw t79 t90 → xlive t90 → ((r90 ≠ 0 → p_L_law_131 F G N xs Q (p_L_law_4 F G N xs Q k) (((((((((((n - 1) - 435) - 1) - 1) - k40) - 1) - k50) - k53) - 2) - 2)) x2 a19 a29 a33 0 t90 M90) ∧ (r90 = 0 → (oX11 t90 a19 ∧ oXQ t90 a19) ∧ p_X11_undo t90 a19 M90 (fun r97 t97 M97 => xqw t90 t97 → xlive t97 → ((r97 ≠ 0 → p_L_law_131 F G N xs Q (p_L_law_4 F G N xs Q k) (((((((((((n - 1) - 435) - 1) - 1) - k40) - 1) - k50) - k53) - 2) - 2)) x2 a19 a29 a33 0 t97 M97) ∧ (r97 = 0 → (3 ≤ ((((((((((n - 1) - 435) - 1) - 1) - k40) - 1) - k50) - k53) - 2) - 2) ∧ oX11 t97 a19 ∧ oXQ t97 a19) ∧ p_L_send t97 a19 0 1 M97 (fun r106 t106 M106 => xqw t97 t106 → xlive t106 → ((r106 ≠ ((-2000000097)) → p_L_law_131 F G N xs Q (p_L_law_4 F G N xs Q k) ((((((((((((n - 1) - 435) - 1) - 1) - k40) - 1) - k50) - k53) - 2) - 2) - 3)) x2 a19 a29 a33 0 t106 M106) ∧ (r106 = ((-2000000097)) → (4 ≤ (((((((((((n - 1) - 435) - 1) - 1) - k40) - 1) - k50) - k53) - 2) - 2) - 3) ∧ oX11 t106 a19 ∧ oXQ t106 a19) ∧ p_L_grant t106 a19 0 0 0 M106 (fun r118 t118 M118 => xqw t106 t118 → xlive t118 → ((r118 ≠ ((-2000000097)) → p_L_law_131 F G N xs Q (p_L_law_4 F G N xs Q k) (((((((((((((n - 1) - 435) - 1) - 1) - k40) - 1) - k50) - k53) - 2) - 2) - 3) - 4)) x2 a19 a29 a33 0 t118 M118) ∧ (r118 = ((-2000000097)) → p_L_law_131 F G N xs Q (p_L_law_4 F G N xs Q k) (((((((((((((n - 1) - 435) - 1) - 1) - k40) - 1) - k50) - k53) - 2) - 2) - 3) - 4)) x2 a19 a29 a33 1 t118 M118))))))))))))))))))))))))))))))))))))))))
def p_L_law (F : Nat) (G : xGx) (N : Nat) (xs : Nat → Int32) (n : Nat) (tE : xTh) (x0 : Nat) (ME : xMe) (Q : Int → xTh → xMe → Prop) : Prop :=
  p_L_law_4 F G N xs Q F n 1 0 tE ME
set_option maxHeartbeats 16000000 in
set_option maxRecDepth 100000 in
theorem w_law {X : xCx} {G : xGx} {Po : Option Value → xTh → xMe → Prop} {Px : String → xTh → xMe → Prop} {tE : xTh} {ME : xMe} {F nE mc ms x0 N : Nat} {xs : Nat → Int32} {Q : Int → xTh → xMe → Prop} (hX : xC X RL "law" cL_law 26 (some .boolean) 1312 G) (hB : xB X mc ms Po Px) (hmc : nE ≤ mc) (hms : 64 * nE ≤ ms) (hS : xScr X x0 N xs) (hN : N ≤ 260) (hPo : ∀ r t M, Q r t M → Po (some (vi r)) t M) (hME : xMR ME) (hp : p_L_law F G N xs nE tE x0 ME Q) : xJ X 0 0 tE ME 0 [vr x0, vU, vU, vU, vU, vU, vU, vU, vU, vU, vU, vU, vU, vU, vU, vU, vU, vU, vU, vU, vU, vU, vU, vU, vU, vU] [] := by
  unfold p_L_law at hp
  refine xJ_iconst hX dL_law_0 ?_
  refine xJ_istore_n hX dL_law_1 (Nat.le_of_ble_eq_true rfl) rfl ?_
  dsimp only [List.set]
  refine xJ_iconst hX dL_law_2 ?_
  refine xJ_istore_n hX dL_law_3 (Nat.le_of_ble_eq_true rfl) rfl ?_
  dsimp only [List.set]
  have l4 : ∀ (k4 : Nat) (c s n : Nat) (x1 : Int) (x2 : Int) (t : xTh) (M : xMe) (hc : c + n ≤ nE) (hs : s + 64 * n ≤ 64 * nE) (hM : xMR M) (hqE : xke tE t) (hx1 : xR x1) (hx2 : xR x2) (hp : p_L_law_4 F G N xs Q k4 n x1 x2 t M), xJ X c s t M 4 [vr x0, vi x1, vi x2, vU, vU, vU, vU, vU, vU, vU, vU, vU, vU, vU, vU, vU, vU, vU, vU, vU, vU, vU, vU, vU, vU, vU] [] := by
    intro k4
    induction k4 with
    | zero => intro c s n x1 x2 t M hc hs hM hqE hx1 hx2 hp; exact hp.elim
    | succ k4 ih4 =>
      intro c s n x1 x2 t M hc hs hM hqE hx1 hx2 hp
      unfold p_L_law_4 at hp
      refine xJ_iload_n hX dL_law_4 rfl ?_
      refine xJ_aload_n hX dL_law_5 rfl ?_
      refine xJ_scl hX hS dL_law_6 ?_
      refine xJ_icmp_ge hX dL_law_7 (tgt := 1231) (by decide) hx2 ⟨by omega, by omega⟩ (fun c7 => ?_) (fun c7 => ?_)
      · replace hp := hp.1 c7
        refine xJ_iload_n hX dL_law_1231 rfl ?_
        obtain ⟨h1232, hp⟩ := hp
        exact xJ_zret hX hB dL_law_1232 (xnz h1232) (by omega) (by omega) (hPo _ _ _ hp)
      · replace hp := hp.2 c7
        refine xJ_iload_n hX dL_law_10 rfl ?_
        refine xJ_iconst hX dL_law_11 ?_
        refine xJ_icmp_ge hX dL_law_12 (tgt := 1231) (by decide) hx2 ⟨by decide, by decide⟩ (fun c12 => ?_) (fun c12 => ?_)
        · replace hp := hp.1 c12
          refine xJ_iload_n hX dL_law_1231 rfl ?_
          obtain ⟨h1232, hp⟩ := hp
          exact xJ_zret hX hB dL_law_1232 (xnz h1232) (by omega) (by omega) (hPo _ _ _ hp)
        · replace hp := hp.2 c12
          refine xJ_iload_n hX dL_law_15 rfl ?_
          refine xJ_if_eq hX dL_law_16 (tgt := 1231) (by decide) hx1 (fun c16 => ?_) (fun c16 => ?_)
          · replace hp := hp.1 c16
            refine xJ_iload_n hX dL_law_1231 rfl ?_
            obtain ⟨h1232, hp⟩ := hp
            exact xJ_zret hX hB dL_law_1232 (xnz h1232) (by omega) (by omega) (hPo _ _ _ hp)
          · replace hp := hp.2 c16
            obtain ⟨hn19, hp⟩ := hp
            refine xJ_newE (ci := 11) hX hB hM dL_law_19 rfl (by decide) ft_X11 uw_X11 kl_L_14 is_X11 in_X11 rfl (by decide) (by omega) (by omega) (fun a19 t19 M19 ea19 et19 e19 hM19 hq19 hka19 => ?_)
            replace hp := hp a19 t19 M19 ea19 et19 e19
            refine xJ_dup hX dL_law_22 rfl ?_
            obtain ⟨hw23, hp⟩ := hp
            have hn23 := hw23.1
            refine xJ_live fun hlo23 => ?_
            refine xJ_callI (As := []) hX hB dL_law_23 lk_L_227 im_X11_init rfl (c_X11_init hka19 hw23.2.1 hM19 hw23.2.2) (by decide) rfl rfl rfl (Nat.le_of_ble_eq_true rfl) (by omega) (by omega) (fun v t23 M23 hv => ?_)
            obtain ⟨rfl, hM23, hz23, hsm23, hW23, hb23, hJ23⟩ := hv
            dsimp only [Option.toList, List.cons_append, List.nil_append]
            refine xJ_live fun hlv23 => ?_
            replace hp := hp t23 M23 hW23 hz23 hsm23 hb23 hJ23 hlv23
            have hq23 := xke_ini hlo23 hsm23 hw23.2.1 hka19 hW23
            refine xJ_astore_n hX dL_law_26 (Nat.le_of_ble_eq_true rfl) rfl ?_
            dsimp only [List.set]
            refine xJ_bipush hX dL_law_27 rfl ?_
            obtain ⟨hn29, hp⟩ := hp
            refine xJ_newIE hX hB hM23 dL_law_29 ac_int (by decide) (by decide) (by omega) (by omega) (fun a29 t29 M29 ea29 et29 e29 hM29 hq29 hka29 => ?_)
            replace hp := hp a29 t29 M29 ea29 et29 e29
            refine xJ_astore hX dL_law_31 (Nat.le_of_ble_eq_true rfl) rfl ?_
            dsimp only [List.set]
            obtain ⟨hn33, hp⟩ := hp
            refine xJ_newE (ci := 19) hX hB hM29 dL_law_33 rfl (by decide) ft_X13 uw_X13 kl_L_129 is_X13 in_X13 rfl (by decide) (by omega) (by omega) (fun a33 t33 M33 ea33 et33 e33 hM33 hq33 hka33 => ?_)
            replace hp := hp a33 t33 M33 ea33 et33 e33
            refine xJ_dup hX dL_law_36 rfl ?_
            refine xJ_aload_n hX dL_law_37 rfl ?_
            refine xJ_iload_n hX dL_law_38 rfl ?_
            obtain ⟨h39, hp⟩ := hp
            refine xJ_scr hX hS hN dL_law_39 h39.1 h39.2 ?_
            obtain ⟨k40, hn40, hp⟩ := hp
            refine xJ_callI (As := [_]) hX hB dL_law_40 lk_L_228 im_X13_init rfl (c_X13_init hM33 hka33 (xR_32 _) hp) (by decide) rfl rfl rfl (Nat.le_of_ble_eq_true rfl) (by omega) (by omega) (fun v t40 M40 hv => ?_)
            clear hp
            obtain ⟨rfl, hM40, hq40, hp⟩ := hv
            dsimp only [Option.toList, List.cons_append, List.nil_append]
            refine xJ_astore hX dL_law_43 (Nat.le_of_ble_eq_true rfl) rfl ?_
            dsimp only [List.set]
            refine xJ_aload_n hX dL_law_45 rfl ?_
            obtain ⟨hn46, hp⟩ := hp
            refine xJ_newE (ci := 20) hX hB hM40 dL_law_46 rfl (by decide) ft_X14 uw_X14 kl_L_123 is_X14 in_X14 rfl (by decide) (by omega) (by omega) (fun a46 t46 M46 ea46 et46 e46 hM46 hq46 hka46 => ?_)
            replace hp := hp a46 t46 M46 ea46 et46 e46
            refine xJ_dup hX dL_law_49 rfl ?_
            obtain ⟨k50, hn50, hp⟩ := hp
            refine xJ_callIN (As := []) hX hB dL_law_50 ln_L_125 im_X14_init rfl (c_X14_init hM46 hka46 hp) (by decide) rfl rfl rfl (Nat.le_of_ble_eq_true rfl) (by omega) (by omega) (fun v t50 M50 hv => ?_)
            clear hp
            obtain ⟨rfl, hM50, hq50, hp⟩ := hv
            dsimp only [Option.toList, List.cons_append, List.nil_append]
            obtain ⟨k53, hn53, hp⟩ := hp
            refine xJ_callS (As := [_, _]) hX hB dL_law_53 lk_L_231 sm_L_agrees (c_L_agrees hM50 (xke_k hq50 hka46 (by decide)) hp) (by decide) rfl rfl rfl (Nat.le_of_ble_eq_true rfl) (by omega) (by omega) (fun v t53 M53 hv => ?_) (fun _ _ _ q => q.elim)
            clear hp
            obtain ⟨r53, rfl, h53, hM53, hq53, hp⟩ := hv
            dsimp only [Option.toList, List.cons_append, List.nil_append]
            have l131 : ∀ (c s n : Nat) (x2 : Int) (x3 : Nat) (x4 : Nat) (x5 : Nat) (y0 : Int) (t : xTh) (M : xMe) (hc : c + n ≤ nE) (hs : s + 64 * n ≤ 64 * nE) (hM : xMR M) (hqE : xke tE t) (hx2 : xR x2) (hkx4 : xk t x4 = 14) (hkx5 : xk t x5 = 19) (hy0 : xR y0) (hp : p_L_law_131 F G N xs Q (p_L_law_4 F G N xs Q k4) n x2 x3 x4 x5 y0 t M), xJ X c s t M 131 [vr x0, vU, vi x2, vr x3, vr x4, vr x5, vU, vU, vU, vU, vU, vU, vU, vU, vU, vU, vU, vU, vU, vU, vU, vU, vU, vU, vU, vU] [vi y0] := by
              intro c s n x2 x3 x4 x5 y0 t M hc hs hM hqE hx2 hkx4 hkx5 hy0 hp
              unfold p_L_law_131 at hp
              refine xJ_istore_n hX dL_law_131 (Nat.le_of_ble_eq_true rfl) rfl ?_
              dsimp only [List.set]
              refine xJ_aload_n hX dL_law_132 rfl ?_
              refine xJ_aload hX dL_law_133 rfl ?_
              refine xJ_aload hX dL_law_135 rfl ?_
              obtain ⟨k137, hn137, hp⟩ := hp
              refine xJ_callS (As := [_, _, _]) hX hB dL_law_137 lk_L_248 sm_L_randomRoad (c_L_randomRoad hM hkx4 hkx5 hp) (by decide) rfl rfl rfl (Nat.le_of_ble_eq_true rfl) (by omega) (by omega) (fun v t137 M137 hv => ?_) (fun _ _ _ q => q.elim)
              clear hp
              obtain ⟨r137, rfl, hk137, hM137, hq137, hp⟩ := hv
              dsimp only [Option.toList, List.cons_append, List.nil_append]
              refine xJ_astoreO hX dL_law_140 (Nat.le_of_ble_eq_true rfl) rfl ?_
              dsimp only [List.set]
              refine xJ_aloadO hX dL_law_142 rfl ?_
              refine xJ_ifnonnullO hX dL_law_144 (tgt := 149) (by decide) (fun e144 => ?_) (fun b144 e144 => ?_)
              · replace hp := hp.1 e144
                refine xJ_iconst hX dL_law_147 ?_
                exact xJ_zret hX hB dL_law_148 rfl (by omega) (by omega) (hPo _ _ _ hp)
              · replace hp := hp.2 b144 e144
                have hkb144 := hk137 b144 e144
                subst e144
                refine xJ_iload_n hX dL_law_149 rfl ?_
                have l167 : ∀ (c s n : Nat) (x2 : Int) (x3 : Nat) (x5 : Nat) (x6 : Nat) (y0 : Int) (t : xTh) (M : xMe) (hc : c + n ≤ nE) (hs : s + 64 * n ≤ 64 * nE) (hM : xMR M) (hqE : xke tE t) (hx2 : xR x2) (hkx5 : xk t x5 = 19) (hkx6 : xk t x6 = 20) (hy0 : xR y0) (hp : p_L_law_167 F G N xs Q (p_L_law_4 F G N xs Q k4) n x2 x3 x5 x6 y0 t M), xJ X c s t M 167 [vr x0, vU, vi x2, vr x3, vU, vr x5, vr x6, vU, vU, vU, vU, vU, vU, vU, vU, vU, vU, vU, vU, vU, vU, vU, vU, vU, vU, vU] [vi y0] := by
                  intro c s n x2 x3 x5 x6 y0 t M hc hs hM hqE hx2 hkx5 hkx6 hy0 hp
                  unfold p_L_law_167 at hp
                  refine xJ_istore_n hX dL_law_167 (Nat.le_of_ble_eq_true rfl) rfl ?_
                  dsimp only [List.set]
                  refine xJ_bipush hX dL_law_168 rfl ?_
                  obtain ⟨hn170, hp⟩ := hp
                  refine xJ_newDE hX hB hM dL_law_170 kl_L_123 (by decide) (by decide) (by omega) (by omega) (fun a170 t170 M170 ea170 et170 e170 hM170 hq170 hka170 => ?_)
                  replace hp := hp a170 t170 M170 ea170 et170 e170
                  refine xJ_astore hX dL_law_173 (Nat.le_of_ble_eq_true rfl) rfl ?_
                  dsimp only [List.set]
                  refine xJ_iconst hX dL_law_175 ?_
                  refine xJ_istore hX dL_law_176 (Nat.le_of_ble_eq_true rfl) rfl ?_
                  dsimp only [List.set]
                  refine xJ_iconst hX dL_law_178 ?_
                  refine xJ_istore hX dL_law_179 (Nat.le_of_ble_eq_true rfl) rfl ?_
                  dsimp only [List.set]
                  have l1109 : ∀ (c s n : Nat) (x1 : Int) (x2 : Int) (x3 : Nat) (x7 : Nat) (x8 : Int) (t : xTh) (M : xMe) (hc : c + n ≤ nE) (hs : s + 64 * n ≤ 64 * nE) (hM : xMR M) (hqE : xke tE t) (hx1 : xR x1) (hx2 : xR x2) (hkx7 : xk t x7 = 18) (hx8 : xR x8) (hp : p_L_law_1109 F G N xs Q (p_L_law_4 F G N xs Q k4) n x1 x2 x3 x7 x8 t M), xJ X c s t M 1109 [vr x0, vi x1, vi x2, vr x3, vU, vU, vU, vr x7, vi x8, vU, vU, vU, vU, vU, vU, vU, vU, vU, vU, vU, vU, vU, vU, vU, vU, vU] [] := by
                    intro c s n x1 x2 x3 x7 x8 t M hc hs hM hqE hx1 hx2 hkx7 hx8 hp
                    unfold p_L_law_1109 at hp
                    refine xJ_iconst hX dL_law_1109 ?_
                    refine xJ_istore hX dL_law_1110 (Nat.le_of_ble_eq_true rfl) rfl ?_
                    dsimp only [List.set]
                    have l1161 : ∀ (c s n : Nat) (x1 : Int) (x2 : Int) (x3 : Nat) (t : xTh) (M : xMe) (hc : c + n ≤ nE) (hs : s + 64 * n ≤ 64 * nE) (hM : xMR M) (hqE : xke tE t) (hx1 : xR x1) (hx2 : xR x2) (hp : p_L_law_1161 F G N xs Q (p_L_law_4 F G N xs Q k4) n x1 x2 x3 t M), xJ X c s t M 1161 [vr x0, vi x1, vi x2, vr x3, vU, vU, vU, vU, vU, vU, vU, vU, vU, vU, vU, vU, vU, vU, vU, vU, vU, vU, vU, vU, vU, vU] [] := by
                      intro c s n x1 x2 x3 t M hc hs hM hqE hx1 hx2 hp
                      unfold p_L_law_1161 at hp
                      refine xJ_iload_n hX dL_law_1161 rfl ?_
                      refine xJ_if_eq hX dL_law_1162 (tgt := 1223) (by decide) hx1 (fun c1162 => ?_) (fun c1162 => ?_)
                      · replace hp := hp.1 c1162
                        refine xJ_iconst hX dL_law_1223 ?_
                        refine xJ_istore_n hX dL_law_1224 (Nat.le_of_ble_eq_true rfl) rfl ?_
                        dsimp only [List.set]
                        refine xJ_iinc hX dL_law_1225 rfl rfl ?_
                        dsimp only [List.set]
                        obtain ⟨h1225, hp⟩ := hp
                        refine xJ_goto hX dL_law_1228 (tgt := 4) (by decide) ?_
                        refine xJ_fg 3 ?_
                        dsimp only [List.set]
                        exact ih4 _ _ _ _ _ _ _ (by omega) (by omega) hM hqE ⟨by decide, by decide⟩ h1225 hp
                      · replace hp := hp.2 c1162
                        refine xJ_aload_n hX dL_law_1165 rfl ?_
                        refine xJ_iconst hX dL_law_1166 ?_
                        obtain ⟨hw1167, hp⟩ := hp
                        have hn1167 := hw1167.1
                        refine xJ_callSW (As := [_, _]) hX hB dL_law_1167 lkw_L_load sm_L_load (c_L_load hw1167.2.1 hw1167.2.2 hM ⟨by decide, by decide⟩ hp) (by decide) rfl rfl rfl (Nat.le_of_ble_eq_true rfl) (by omega) (by omega) (fun v t1167 M1167 hv => ?_)
                        clear hp
                        obtain ⟨r1167, rfl, h1167, hM1167, hqw1167, hp⟩ := hv
                        have hq1167 := xke_qw hqw1167
                        refine xJ_live fun hlv1167 => ?_
                        replace hp := hp hqw1167 hlv1167
                        dsimp only [Option.toList, List.cons_append, List.nil_append]
                        refine xJ_ldc (-2000000098) hX dL_law_1170 kc_L_42 ?_
                        refine xJ_icmp_ne hX dL_law_1172 (tgt := 1223) (by decide) h1167 ⟨by decide, by decide⟩ (fun c1172 => ?_) (fun c1172 => ?_)
                        · replace hp := hp.1 c1172
                          refine xJ_iconst hX dL_law_1223 ?_
                          refine xJ_istore_n hX dL_law_1224 (Nat.le_of_ble_eq_true rfl) rfl ?_
                          dsimp only [List.set]
                          refine xJ_iinc hX dL_law_1225 rfl rfl ?_
                          dsimp only [List.set]
                          obtain ⟨h1225, hp⟩ := hp
                          refine xJ_goto hX dL_law_1228 (tgt := 4) (by decide) ?_
                          refine xJ_fg 3 ?_
                          dsimp only [List.set]
                          exact ih4 _ _ _ _ _ _ _ (by omega) (by omega) hM1167 (xke_trans hqE hq1167) ⟨by decide, by decide⟩ h1225 hp
                        · replace hp := hp.2 c1172
                          refine xJ_aload_n hX dL_law_1175 rfl ?_
                          refine xJ_iconst hX dL_law_1176 ?_
                          refine xJ_iconst hX dL_law_1177 ?_
                          obtain ⟨hw1178, hp⟩ := hp
                          have hn1178 := hw1178.1
                          refine xJ_callSW (As := [_, _, _]) hX hB dL_law_1178 lkw_L_route sm_L_route (c_L_route hw1178.2.1 hM1167 ⟨by decide, by decide⟩ ⟨by decide, by decide⟩ hp) (by decide) rfl rfl rfl (Nat.le_of_ble_eq_true rfl) (by omega) (by omega) (fun v t1178 M1178 hv => ?_)
                          clear hp
                          obtain ⟨r1178, rfl, h1178, hM1178, hqw1178, hp⟩ := hv
                          have hq1178 := xke_qw hqw1178
                          refine xJ_live fun hlv1178 => ?_
                          replace hp := hp hqw1178 hlv1178
                          dsimp only [Option.toList, List.cons_append, List.nil_append]
                          refine xJ_ldc (-2000000097) hX dL_law_1181 kc_L_52 ?_
                          refine xJ_icmp_ne hX dL_law_1183 (tgt := 1223) (by decide) h1178 ⟨by decide, by decide⟩ (fun c1183 => ?_) (fun c1183 => ?_)
                          · replace hp := hp.1 c1183
                            refine xJ_iconst hX dL_law_1223 ?_
                            refine xJ_istore_n hX dL_law_1224 (Nat.le_of_ble_eq_true rfl) rfl ?_
                            dsimp only [List.set]
                            refine xJ_iinc hX dL_law_1225 rfl rfl ?_
                            dsimp only [List.set]
                            obtain ⟨h1225, hp⟩ := hp
                            refine xJ_goto hX dL_law_1228 (tgt := 4) (by decide) ?_
                            refine xJ_fg 3 ?_
                            dsimp only [List.set]
                            exact ih4 _ _ _ _ _ _ _ (by omega) (by omega) hM1178 (xke_trans (xke_trans hqE hq1167) hq1178) ⟨by decide, by decide⟩ h1225 hp
                          · replace hp := hp.2 c1183
                            refine xJ_aload_n hX dL_law_1186 rfl ?_
                            refine xJ_bipush hX dL_law_1187 rfl ?_
                            refine xJ_iconst hX dL_law_1189 ?_
                            obtain ⟨hw1190, hp⟩ := hp
                            have hn1190 := hw1190.1
                            refine xJ_callSW (As := [_, _, _]) hX hB dL_law_1190 lkw_L_curve sm_L_curve (c_L_curve hw1190.2.1 hM1178 ⟨by decide, by decide⟩ ⟨by decide, by decide⟩ hp) (by decide) rfl rfl rfl (Nat.le_of_ble_eq_true rfl) (by omega) (by omega) (fun v t1190 M1190 hv => ?_)
                            clear hp
                            obtain ⟨r1190, rfl, h1190, hM1190, hqw1190, hp⟩ := hv
                            have hq1190 := xke_qw hqw1190
                            refine xJ_live fun hlv1190 => ?_
                            replace hp := hp hqw1190 hlv1190
                            dsimp only [Option.toList, List.cons_append, List.nil_append]
                            refine xJ_ldc (-2000000097) hX dL_law_1193 kc_L_52 ?_
                            refine xJ_icmp_ne hX dL_law_1195 (tgt := 1223) (by decide) h1190 ⟨by decide, by decide⟩ (fun c1195 => ?_) (fun c1195 => ?_)
                            · replace hp := hp.1 c1195
                              refine xJ_iconst hX dL_law_1223 ?_
                              refine xJ_istore_n hX dL_law_1224 (Nat.le_of_ble_eq_true rfl) rfl ?_
                              dsimp only [List.set]
                              refine xJ_iinc hX dL_law_1225 rfl rfl ?_
                              dsimp only [List.set]
                              obtain ⟨h1225, hp⟩ := hp
                              refine xJ_goto hX dL_law_1228 (tgt := 4) (by decide) ?_
                              refine xJ_fg 3 ?_
                              dsimp only [List.set]
                              exact ih4 _ _ _ _ _ _ _ (by omega) (by omega) hM1190 (xke_trans (xke_trans (xke_trans hqE hq1167) hq1178) hq1190) ⟨by decide, by decide⟩ h1225 hp
                            · replace hp := hp.2 c1195
                              refine xJ_aload_n hX dL_law_1198 rfl ?_
                              refine xJ_iconst hX dL_law_1199 ?_
                              obtain ⟨hw1200, hp⟩ := hp
                              have hn1200 := hw1200.1
                              refine xJ_callSW (As := [_, _]) hX hB dL_law_1200 lkw_L_endsAt sm_L_endsAt (c_L_endsAt hw1200.2.1 hw1200.2.2 hM1190 ⟨by decide, by decide⟩ hp) (by decide) rfl rfl rfl (Nat.le_of_ble_eq_true rfl) (by omega) (by omega) (fun v t1200 M1200 hv => ?_)
                              clear hp
                              obtain ⟨r1200, rfl, h1200, hM1200, hqw1200, hp⟩ := hv
                              have hq1200 := xke_qw hqw1200
                              refine xJ_live fun hlv1200 => ?_
                              replace hp := hp hqw1200 hlv1200
                              dsimp only [Option.toList, List.cons_append, List.nil_append]
                              refine xJ_ldc (-2000000097) hX dL_law_1203 kc_L_52 ?_
                              refine xJ_icmp_ne hX dL_law_1205 (tgt := 1223) (by decide) h1200 ⟨by decide, by decide⟩ (fun c1205 => ?_) (fun c1205 => ?_)
                              · replace hp := hp.1 c1205
                                refine xJ_iconst hX dL_law_1223 ?_
                                refine xJ_istore_n hX dL_law_1224 (Nat.le_of_ble_eq_true rfl) rfl ?_
                                dsimp only [List.set]
                                refine xJ_iinc hX dL_law_1225 rfl rfl ?_
                                dsimp only [List.set]
                                obtain ⟨h1225, hp⟩ := hp
                                refine xJ_goto hX dL_law_1228 (tgt := 4) (by decide) ?_
                                refine xJ_fg 3 ?_
                                dsimp only [List.set]
                                exact ih4 _ _ _ _ _ _ _ (by omega) (by omega) hM1200 (xke_trans (xke_trans (xke_trans (xke_trans hqE hq1167) hq1178) hq1190) hq1200) ⟨by decide, by decide⟩ h1225 hp
                              · replace hp := hp.2 c1205
                                refine xJ_aload_n hX dL_law_1208 rfl ?_
                                refine xJ_bipush hX dL_law_1209 rfl ?_
                                obtain ⟨hw1211, hp⟩ := hp
                                have hn1211 := hw1211.1
                                refine xJ_callSW (As := [_, _]) hX hB dL_law_1211 lkw_L_help sm_L_help (c_L_help hw1211.2.1 hw1211.2.2 hM1200 ⟨by decide, by decide⟩ hp) (by decide) rfl rfl rfl (Nat.le_of_ble_eq_true rfl) (by omega) (by omega) (fun v t1211 M1211 hv => ?_)
                                clear hp
                                obtain ⟨r1211, rfl, h1211, hM1211, hqw1211, hp⟩ := hv
                                have hq1211 := xke_qw hqw1211
                                refine xJ_live fun hlv1211 => ?_
                                replace hp := hp hqw1211 hlv1211
                                dsimp only [Option.toList, List.cons_append, List.nil_append]
                                refine xJ_ldc (-2000000097) hX dL_law_1214 kc_L_52 ?_
                                refine xJ_icmp_ne hX dL_law_1216 (tgt := 1223) (by decide) h1211 ⟨by decide, by decide⟩ (fun c1216 => ?_) (fun c1216 => ?_)
                                · replace hp := hp.1 c1216
                                  refine xJ_iconst hX dL_law_1223 ?_
                                  refine xJ_istore_n hX dL_law_1224 (Nat.le_of_ble_eq_true rfl) rfl ?_
                                  dsimp only [List.set]
                                  refine xJ_iinc hX dL_law_1225 rfl rfl ?_
                                  dsimp only [List.set]
                                  obtain ⟨h1225, hp⟩ := hp
                                  refine xJ_goto hX dL_law_1228 (tgt := 4) (by decide) ?_
                                  refine xJ_fg 3 ?_
                                  dsimp only [List.set]
                                  exact ih4 _ _ _ _ _ _ _ (by omega) (by omega) hM1211 (xke_trans (xke_trans (xke_trans (xke_trans (xke_trans hqE hq1167) hq1178) hq1190) hq1200) hq1211) ⟨by decide, by decide⟩ h1225 hp
                                · replace hp := hp.2 c1216
                                  refine xJ_iconst hX dL_law_1219 ?_
                                  refine xJ_goto hX dL_law_1220 (tgt := 1224) (by decide) ?_
                                  refine xJ_istore_n hX dL_law_1224 (Nat.le_of_ble_eq_true rfl) rfl ?_
                                  dsimp only [List.set]
                                  refine xJ_iinc hX dL_law_1225 rfl rfl ?_
                                  dsimp only [List.set]
                                  obtain ⟨h1225, hp⟩ := hp
                                  refine xJ_goto hX dL_law_1228 (tgt := 4) (by decide) ?_
                                  refine xJ_fg 3 ?_
                                  dsimp only [List.set]
                                  exact ih4 _ _ _ _ _ _ _ (by omega) (by omega) hM1211 (xke_trans (xke_trans (xke_trans (xke_trans (xke_trans hqE hq1167) hq1178) hq1190) hq1200) hq1211) ⟨by decide, by decide⟩ h1225 hp
                    have l1112 : ∀ (k1112 : Nat) (c s n : Nat) (x1 : Int) (x2 : Int) (x3 : Nat) (x7 : Nat) (x8 : Int) (x9 : Int) (t : xTh) (M : xMe) (hc : c + n ≤ nE) (hs : s + 64 * n ≤ 64 * nE) (hM : xMR M) (hqE : xke tE t) (hx1 : xR x1) (hx2 : xR x2) (hkx7 : xk t x7 = 18) (hx8 : xR x8) (hx9 : xR x9) (hp : p_L_law_1112 F G N xs Q (p_L_law_4 F G N xs Q k4) (p_L_law_1161 F G N xs Q (p_L_law_4 F G N xs Q k4)) k1112 n x1 x2 x3 x7 x8 x9 t M), xJ X c s t M 1112 [vr x0, vi x1, vi x2, vr x3, vU, vU, vU, vr x7, vi x8, vi x9, vU, vU, vU, vU, vU, vU, vU, vU, vU, vU, vU, vU, vU, vU, vU, vU] [] := by
                      intro k1112
                      induction k1112 with
                      | zero => intro c s n x1 x2 x3 x7 x8 x9 t M hc hs hM hqE hx1 hx2 hkx7 hx8 hx9 hp; exact hp.elim
                      | succ k1112 ih1112 =>
                        intro c s n x1 x2 x3 x7 x8 x9 t M hc hs hM hqE hx1 hx2 hkx7 hx8 hx9 hp
                        unfold p_L_law_1112 at hp
                        refine xJ_iload hX dL_law_1112 rfl ?_
                        refine xJ_bipush hX dL_law_1114 rfl ?_
                        refine xJ_icmp_ge hX dL_law_1116 (tgt := 1161) (by decide) hx9 ⟨by decide, by decide⟩ (fun c1116 => ?_) (fun c1116 => ?_)
                        · replace hp := hp.1 c1116
                          refine xJ_fg 7 ?_
                          dsimp only [List.set]
                          refine xJ_fg 8 ?_
                          dsimp only [List.set]
                          refine xJ_fg 9 ?_
                          dsimp only [List.set]
                          exact l1161 _ _ _ _ _ _ _ _ (by omega) (by omega) hM hqE hx1 hx2 hp
                        · replace hp := hp.2 c1116
                          refine xJ_iload hX dL_law_1119 rfl ?_
                          refine xJ_iload hX dL_law_1121 rfl ?_
                          refine xJ_icmp_ge hX dL_law_1123 (tgt := 1161) (by decide) hx9 hx8 (fun c1123 => ?_) (fun c1123 => ?_)
                          · replace hp := hp.1 c1123
                            refine xJ_fg 7 ?_
                            dsimp only [List.set]
                            refine xJ_fg 8 ?_
                            dsimp only [List.set]
                            refine xJ_fg 9 ?_
                            dsimp only [List.set]
                            exact l1161 _ _ _ _ _ _ _ _ (by omega) (by omega) hM hqE hx1 hx2 hp
                          · replace hp := hp.2 c1123
                            refine xJ_iload_n hX dL_law_1126 rfl ?_
                            refine xJ_if_eq hX dL_law_1127 (tgt := 1161) (by decide) hx1 (fun c1127 => ?_) (fun c1127 => ?_)
                            · replace hp := hp.1 c1127
                              refine xJ_fg 7 ?_
                              dsimp only [List.set]
                              refine xJ_fg 8 ?_
                              dsimp only [List.set]
                              refine xJ_fg 9 ?_
                              dsimp only [List.set]
                              exact l1161 _ _ _ _ _ _ _ _ (by omega) (by omega) hM hqE hx1 hx2 hp
                            · replace hp := hp.2 c1127
                              refine xJ_aload_n hX dL_law_1130 rfl ?_
                              obtain ⟨hw1131, hp⟩ := hp
                              refine xJ_callV (As := []) hX hB dL_law_1131 lk_L_238 im_X11_undo se_X11_undo rfl (by decide) (oX11_k hw1131.1) (c_X11_undo hw1131.1 hw1131.2 hM  hp) (by decide) rfl rfl rfl (Nat.le_of_ble_eq_true rfl) (by omega) (by omega) (fun v t1131 M1131 hv => ?_) (fun _ _ _ q => q.elim)
                              clear hp
                              obtain ⟨r1131, rfl, h1131, hM1131, hqs1131, -, hp⟩ := hv
                              have hqw1131 := xqw_s hqs1131
                              have hq1131 := xke_qw hqw1131
                              refine xJ_live fun hlv1131 => ?_
                              replace hp := hp hqw1131 hlv1131
                              dsimp only [Option.toList, List.cons_append, List.nil_append]
                              refine xJ_if_lt hX dL_law_1134 (tgt := 1153) (by decide) h1131 (fun c1134 => ?_) (fun c1134 => ?_)
                              · replace hp := hp.1 c1134
                                refine xJ_iconst hX dL_law_1153 ?_
                                refine xJ_istore_n hX dL_law_1154 (Nat.le_of_ble_eq_true rfl) rfl ?_
                                dsimp only [List.set]
                                refine xJ_iinc hX dL_law_1155 rfl rfl ?_
                                dsimp only [List.set]
                                obtain ⟨h1155, hp⟩ := hp
                                refine xJ_goto hX dL_law_1158 (tgt := 1112) (by decide) ?_
                                exact ih1112 _ _ _ _ _ _ _ _ _ _ _ (by omega) (by omega) hM1131 (xke_trans hqE hq1131) ⟨by decide, by decide⟩ hx2 (xke_k hq1131 hkx7 (by decide)) hx8 h1155 hp
                              · replace hp := hp.2 c1134
                                refine xJ_aload_n hX dL_law_1137 rfl ?_
                                refine xJ_aload hX dL_law_1138 rfl ?_
                                refine xJ_iload hX dL_law_1140 rfl ?_
                                obtain ⟨h1142, hp⟩ := hp
                                obtain ⟨hk1142, hp⟩ := hp
                                refine xJ_aaldD hX dL_law_1142 (xke_k hq1131 hkx7 (by decide)) h1142.1 h1142.2 ?_
                                obtain ⟨bo1143, eo1143, hp⟩ := hp
                                have hkbo1143 := hk1142 bo1143 eo1143
                                rw [eo1143]
                                obtain ⟨k1143, hn1143, hp⟩ := hp
                                refine xJ_callS (As := [_, _]) hX hB dL_law_1143 lk_L_231 sm_L_agrees (c_L_agrees hM1131 hkbo1143 hp) (by decide) rfl rfl rfl (Nat.le_of_ble_eq_true rfl) (by omega) (by omega) (fun v t1143 M1143 hv => ?_) (fun _ _ _ q => q.elim)
                                clear hp
                                obtain ⟨r1143, rfl, h1143, hM1143, hq1143, hp⟩ := hv
                                dsimp only [Option.toList, List.cons_append, List.nil_append]
                                refine xJ_if_eq hX dL_law_1146 (tgt := 1153) (by decide) h1143 (fun c1146 => ?_) (fun c1146 => ?_)
                                · replace hp := hp.1 c1146
                                  refine xJ_iconst hX dL_law_1153 ?_
                                  refine xJ_istore_n hX dL_law_1154 (Nat.le_of_ble_eq_true rfl) rfl ?_
                                  dsimp only [List.set]
                                  refine xJ_iinc hX dL_law_1155 rfl rfl ?_
                                  dsimp only [List.set]
                                  obtain ⟨h1155, hp⟩ := hp
                                  refine xJ_goto hX dL_law_1158 (tgt := 1112) (by decide) ?_
                                  exact ih1112 _ _ _ _ _ _ _ _ _ _ _ (by omega) (by omega) hM1143 (xke_trans (xke_trans hqE hq1131) hq1143) ⟨by decide, by decide⟩ hx2 (xke_k hq1143 (xke_k hq1131 hkx7 (by decide)) (by decide)) hx8 h1155 hp
                                · replace hp := hp.2 c1146
                                  refine xJ_iconst hX dL_law_1149 ?_
                                  refine xJ_goto hX dL_law_1150 (tgt := 1154) (by decide) ?_
                                  refine xJ_istore_n hX dL_law_1154 (Nat.le_of_ble_eq_true rfl) rfl ?_
                                  dsimp only [List.set]
                                  refine xJ_iinc hX dL_law_1155 rfl rfl ?_
                                  dsimp only [List.set]
                                  obtain ⟨h1155, hp⟩ := hp
                                  refine xJ_goto hX dL_law_1158 (tgt := 1112) (by decide) ?_
                                  exact ih1112 _ _ _ _ _ _ _ _ _ _ _ (by omega) (by omega) hM1143 (xke_trans (xke_trans hqE hq1131) hq1143) ⟨by decide, by decide⟩ hx2 (xke_k hq1143 (xke_k hq1131 hkx7 (by decide)) (by decide)) hx8 h1155 hp
                    exact l1112 F _ _ _ _ _ _ _ _ _ _ _ (by omega) (by omega) hM hqE hx1 hx2 hkx7 hx8 ⟨by decide, by decide⟩ hp
                  have l181 : ∀ (k181 : Nat) (c s n : Nat) (x1 : Int) (x2 : Int) (x3 : Nat) (x5 : Nat) (x6 : Nat) (x7 : Nat) (x8 : Int) (x9 : Int) (t : xTh) (M : xMe) (hc : c + n ≤ nE) (hs : s + 64 * n ≤ 64 * nE) (hM : xMR M) (hqE : xke tE t) (hx1 : xR x1) (hx2 : xR x2) (hkx5 : xk t x5 = 19) (hkx6 : xk t x6 = 20) (hkx7 : xk t x7 = 18) (hx8 : xR x8) (hx9 : xR x9) (hp : p_L_law_181 F G N xs Q (p_L_law_4 F G N xs Q k4) (p_L_law_1109 F G N xs Q (p_L_law_4 F G N xs Q k4)) k181 n x1 x2 x3 x5 x6 x7 x8 x9 t M), xJ X c s t M 181 [vr x0, vi x1, vi x2, vr x3, vU, vr x5, vr x6, vr x7, vi x8, vi x9, vU, vU, vU, vU, vU, vU, vU, vU, vU, vU, vU, vU, vU, vU, vU, vU] [] := by
                    intro k181
                    induction k181 with
                    | zero => intro c s n x1 x2 x3 x5 x6 x7 x8 x9 t M hc hs hM hqE hx1 hx2 hkx5 hkx6 hkx7 hx8 hx9 hp; exact hp.elim
                    | succ k181 ih181 =>
                      intro c s n x1 x2 x3 x5 x6 x7 x8 x9 t M hc hs hM hqE hx1 hx2 hkx5 hkx6 hkx7 hx8 hx9 hp
                      unfold p_L_law_181 at hp
                      refine xJ_iload hX dL_law_181 rfl ?_
                      refine xJ_bipush hX dL_law_183 rfl ?_
                      refine xJ_icmp_ge hX dL_law_185 (tgt := 1109) (by decide) hx9 ⟨by decide, by decide⟩ (fun c185 => ?_) (fun c185 => ?_)
                      · replace hp := hp.1 c185
                        refine xJ_fg 5 ?_
                        dsimp only [List.set]
                        refine xJ_fg 6 ?_
                        dsimp only [List.set]
                        refine xJ_fg 9 ?_
                        dsimp only [List.set]
                        exact l1109 _ _ _ _ _ _ _ _ _ _ (by omega) (by omega) hM hqE hx1 hx2 hkx7 hx8 hp
                      · replace hp := hp.2 c185
                        refine xJ_iload_n hX dL_law_188 rfl ?_
                        refine xJ_if_eq hX dL_law_189 (tgt := 1109) (by decide) hx1 (fun c189 => ?_) (fun c189 => ?_)
                        · replace hp := hp.1 c189
                          refine xJ_fg 5 ?_
                          dsimp only [List.set]
                          refine xJ_fg 6 ?_
                          dsimp only [List.set]
                          refine xJ_fg 9 ?_
                          dsimp only [List.set]
                          exact l1109 _ _ _ _ _ _ _ _ _ _ (by omega) (by omega) hM hqE hx1 hx2 hkx7 hx8 hp
                        · replace hp := hp.2 c189
                          refine xJ_aload hX dL_law_192 rfl ?_
                          obtain ⟨k194, hn194, hp⟩ := hp
                          refine xJ_callV (As := []) hX hB dL_law_194 lk_L_252 im_X14_copy se_X14_copy rfl (by decide) hkx6 (c_X14_copy hM hkx6 hp) (by decide) rfl rfl rfl (Nat.le_of_ble_eq_true rfl) (by omega) (by omega) (fun v t194 M194 hv => ?_) (fun _ _ _ q => q.elim)
                          clear hp
                          obtain ⟨r194, rfl, hk194, hM194, hq194, hp⟩ := hv
                          dsimp only [Option.toList, List.cons_append, List.nil_append]
                          refine xJ_astore hX dL_law_197 (Nat.le_of_ble_eq_true rfl) rfl ?_
                          dsimp only [List.set]
                          refine xJ_iconst hX dL_law_199 ?_
                          refine xJ_istore hX dL_law_200 (Nat.le_of_ble_eq_true rfl) rfl ?_
                          dsimp only [List.set]
                          refine xJ_ldc (-2000000097) hX dL_law_202 kc_L_52 ?_
                          refine xJ_istore hX dL_law_204 (Nat.le_of_ble_eq_true rfl) rfl ?_
                          dsimp only [List.set]
                          refine xJ_aload hX dL_law_206 rfl ?_
                          obtain ⟨b208, e208, hkb208, hp⟩ := hp
                          refine xJ_getR (b := b208) hX dL_law_208 fd_L_151 rfl (xke_k hq194 hkx6 (by decide)) e208 ?_
                          refine xJ_alen hX dL_law_211 (by rw [hkb208]; decide) (by rw [hkb208]; decide) ?_
                          obtain ⟨h211, hp⟩ := hp
                          refine xJ_istore hX dL_law_212 (Nat.le_of_ble_eq_true rfl) rfl ?_
                          dsimp only [List.set]
                          replace hp := hp _ rfl
                          refine xJ_aload hX dL_law_214 rfl ?_
                          refine xJ_iload hX dL_law_216 rfl ?_
                          refine xJ_aload hX dL_law_218 rfl ?_
                          refine xJ_bipush hX dL_law_220 rfl ?_
                          obtain ⟨k222, hn222, hp⟩ := hp
                          refine xJ_callV (As := [_]) hX hB dL_law_222 lk_L_128 im_X13_below se_X13_below rfl (by decide) (xke_k hq194 hkx5 (by decide)) (c_X13_below hM194 (xke_k hq194 hkx5 (by decide)) ⟨by decide, by decide⟩ hp) (by decide) rfl rfl rfl (Nat.le_of_ble_eq_true rfl) (by omega) (by omega) (fun v t222 M222 hv => ?_) (fun _ _ _ q => q.elim)
                          clear hp
                          obtain ⟨r222, rfl, h222, hM222, hq222, hp⟩ := hv
                          dsimp only [Option.toList, List.cons_append, List.nil_append]
                          have l238 : ∀ (c s n : Nat) (x2 : Int) (x3 : Nat) (x5 : Nat) (x6 : Nat) (x7 : Nat) (x8 : Int) (x9 : Int) (x10 : Nat) (x12 : Int) (x13 : Int) (y0 : Int) (y1 : Int) (y2 : Nat) (t : xTh) (M : xMe) (hc : c + n ≤ nE) (hs : s + 64 * n ≤ 64 * nE) (hM : xMR M) (hqE : xke tE t) (hx2 : xR x2) (hkx5 : xk t x5 = 19) (hkx6 : xk t x6 = 20) (hkx7 : xk t x7 = 18) (hx8 : xR x8) (hx9 : xR x9) (hkx10 : xk t x10 = 20) (hx12 : xR x12) (hx13 : xR x13) (hy0 : xR y0) (hy1 : xR y1) (hky2 : xk t y2 = 19) (hp : p_L_law_238 F G N xs Q (p_L_law_4 F G N xs Q k4) (p_L_law_181 F G N xs Q (p_L_law_4 F G N xs Q k4) (p_L_law_1109 F G N xs Q (p_L_law_4 F G N xs Q k4)) k181) (p_L_law_1109 F G N xs Q (p_L_law_4 F G N xs Q k4)) n x2 x3 x5 x6 x7 x8 x9 x10 x12 x13 y0 y1 y2 t M), xJ X c s t M 238 [vr x0, vU, vi x2, vr x3, vU, vr x5, vr x6, vr x7, vi x8, vi x9, vr x10, vU, vi x12, vi x13, vU, vU, vU, vU, vU, vU, vU, vU, vU, vU, vU, vU] [vi y0, vi y1, vr y2] := by
                            intro c s n x2 x3 x5 x6 x7 x8 x9 x10 x12 x13 y0 y1 y2 t M hc hs hM hqE hx2 hkx5 hkx6 hkx7 hx8 hx9 hkx10 hx12 hx13 hy0 hy1 hky2 hp
                            unfold p_L_law_238 at hp
                            refine xJ_iadd hX dL_law_238 ?_
                            obtain ⟨h238, hp⟩ := hp
                            obtain ⟨k239, hn239, hp⟩ := hp
                            refine xJ_callV (As := [_]) hX hB dL_law_239 lk_L_128 im_X13_below se_X13_below rfl (by decide) hky2 (c_X13_below hM hky2 h238 hp) (by decide) rfl rfl rfl (Nat.le_of_ble_eq_true rfl) (by omega) (by omega) (fun v t239 M239 hv => ?_) (fun _ _ _ q => q.elim)
                            clear hp
                            obtain ⟨r239, rfl, h239, hM239, hq239, hp⟩ := hv
                            dsimp only [Option.toList, List.cons_append, List.nil_append]
                            refine xJ_istore hX dL_law_242 (Nat.le_of_ble_eq_true rfl) rfl ?_
                            dsimp only [List.set]
                            refine xJ_iload hX dL_law_244 rfl ?_
                            refine xJ_iload hX dL_law_246 rfl ?_
                            have l256 : ∀ (c s n : Nat) (x2 : Int) (x3 : Nat) (x5 : Nat) (x6 : Nat) (x7 : Nat) (x8 : Int) (x9 : Int) (x10 : Nat) (x12 : Int) (x14 : Int) (y0 : Int) (t : xTh) (M : xMe) (hc : c + n ≤ nE) (hs : s + 64 * n ≤ 64 * nE) (hM : xMR M) (hqE : xke tE t) (hx2 : xR x2) (hkx5 : xk t x5 = 19) (hkx6 : xk t x6 = 20) (hkx7 : xk t x7 = 18) (hx8 : xR x8) (hx9 : xR x9) (hkx10 : xk t x10 = 20) (hx12 : xR x12) (hx14 : xR x14) (hy0 : xR y0) (hp : p_L_law_256 F G N xs Q (p_L_law_4 F G N xs Q k4) (p_L_law_181 F G N xs Q (p_L_law_4 F G N xs Q k4) (p_L_law_1109 F G N xs Q (p_L_law_4 F G N xs Q k4)) k181) (p_L_law_1109 F G N xs Q (p_L_law_4 F G N xs Q k4)) n x2 x3 x5 x6 x7 x8 x9 x10 x12 x14 y0 t M), xJ X c s t M 256 [vr x0, vU, vi x2, vr x3, vU, vr x5, vr x6, vr x7, vi x8, vi x9, vr x10, vU, vi x12, vU, vi x14, vU, vU, vU, vU, vU, vU, vU, vU, vU, vU, vU] [vi y0] := by
                              intro c s n x2 x3 x5 x6 x7 x8 x9 x10 x12 x14 y0 t M hc hs hM hqE hx2 hkx5 hkx6 hkx7 hx8 hx9 hkx10 hx12 hx14 hy0 hp
                              unfold p_L_law_256 at hp
                              refine xJ_istore hX dL_law_256 (Nat.le_of_ble_eq_true rfl) rfl ?_
                              dsimp only [List.set]
                              refine xJ_aload hX dL_law_258 rfl ?_
                              refine xJ_bipush hX dL_law_260 rfl ?_
                              obtain ⟨k262, hn262, hp⟩ := hp
                              refine xJ_callV (As := [_]) hX hB dL_law_262 lk_L_128 im_X13_below se_X13_below rfl (by decide) hkx5 (c_X13_below hM hkx5 ⟨by decide, by decide⟩ hp) (by decide) rfl rfl rfl (Nat.le_of_ble_eq_true rfl) (by omega) (by omega) (fun v t262 M262 hv => ?_) (fun _ _ _ q => q.elim)
                              clear hp
                              obtain ⟨r262, rfl, h262, hM262, hq262, hp⟩ := hv
                              dsimp only [Option.toList, List.cons_append, List.nil_append]
                              have l1043 : ∀ (c s n : Nat) (x1 : Int) (x2 : Int) (x3 : Nat) (x5 : Nat) (x6 : Nat) (x7 : Nat) (x8 : Int) (x9 : Int) (x10 : Nat) (x11 : Int) (t : xTh) (M : xMe) (hc : c + n ≤ nE) (hs : s + 64 * n ≤ 64 * nE) (hM : xMR M) (hqE : xke tE t) (hx1 : xR x1) (hx2 : xR x2) (hkx5 : xk t x5 = 19) (hkx6 : xk t x6 = 20) (hkx7 : xk t x7 = 18) (hx8 : xR x8) (hx9 : xR x9) (hkx10 : xk t x10 = 20) (hx11 : xR x11) (hp : p_L_law_1043 F G N xs Q (p_L_law_4 F G N xs Q k4) (p_L_law_181 F G N xs Q (p_L_law_4 F G N xs Q k4) (p_L_law_1109 F G N xs Q (p_L_law_4 F G N xs Q k4)) k181) (p_L_law_1109 F G N xs Q (p_L_law_4 F G N xs Q k4)) n x1 x2 x3 x5 x6 x7 x8 x9 x10 x11 t M), xJ X c s t M 1043 [vr x0, vi x1, vi x2, vr x3, vU, vr x5, vr x6, vr x7, vi x8, vi x9, vr x10, vi x11, vU, vU, vU, vU, vU, vU, vU, vU, vU, vU, vU, vU, vU, vU] [] := by
                                intro c s n x1 x2 x3 x5 x6 x7 x8 x9 x10 x11 t M hc hs hM hqE hx1 hx2 hkx5 hkx6 hkx7 hx8 hx9 hkx10 hx11 hp
                                unfold p_L_law_1043 at hp
                                refine xJ_iload hX dL_law_1043 rfl ?_
                                have l1084 : ∀ (c s n : Nat) (x1 : Int) (x2 : Int) (x3 : Nat) (x5 : Nat) (x6 : Nat) (x7 : Nat) (x8 : Int) (x9 : Int) (t : xTh) (M : xMe) (hc : c + n ≤ nE) (hs : s + 64 * n ≤ 64 * nE) (hM : xMR M) (hqE : xke tE t) (hx1 : xR x1) (hx2 : xR x2) (hkx5 : xk t x5 = 19) (hkx6 : xk t x6 = 20) (hkx7 : xk t x7 = 18) (hx8 : xR x8) (hx9 : xR x9) (hp : p_L_law_1084 F G N xs Q (p_L_law_4 F G N xs Q k4) (p_L_law_181 F G N xs Q (p_L_law_4 F G N xs Q k4) (p_L_law_1109 F G N xs Q (p_L_law_4 F G N xs Q k4)) k181) (p_L_law_1109 F G N xs Q (p_L_law_4 F G N xs Q k4)) n x1 x2 x3 x5 x6 x7 x8 x9 t M), xJ X c s t M 1084 [vr x0, vi x1, vi x2, vr x3, vU, vr x5, vr x6, vr x7, vi x8, vi x9, vU, vU, vU, vU, vU, vU, vU, vU, vU, vU, vU, vU, vU, vU, vU, vU] [] := by
                                  intro c s n x1 x2 x3 x5 x6 x7 x8 x9 t M hc hs hM hqE hx1 hx2 hkx5 hkx6 hkx7 hx8 hx9 hp
                                  unfold p_L_law_1084 at hp
                                  refine xJ_iload_n hX dL_law_1084 rfl ?_
                                  refine xJ_if_eq hX dL_law_1085 (tgt := 1101) (by decide) hx1 (fun c1085 => ?_) (fun c1085 => ?_)
                                  · replace hp := hp.1 c1085
                                    refine xJ_iconst hX dL_law_1101 ?_
                                    refine xJ_istore_n hX dL_law_1102 (Nat.le_of_ble_eq_true rfl) rfl ?_
                                    dsimp only [List.set]
                                    refine xJ_iinc hX dL_law_1103 rfl rfl ?_
                                    dsimp only [List.set]
                                    obtain ⟨h1103, hp⟩ := hp
                                    refine xJ_goto hX dL_law_1106 (tgt := 181) (by decide) ?_
                                    exact ih181 _ _ _ _ _ _ _ _ _ _ _ _ _ (by omega) (by omega) hM hqE ⟨by decide, by decide⟩ hx2 hkx5 hkx6 hkx7 hx8 h1103 hp
                                  · replace hp := hp.2 c1085
                                    refine xJ_aload_n hX dL_law_1088 rfl ?_
                                    refine xJ_aload hX dL_law_1089 rfl ?_
                                    obtain ⟨k1091, hn1091, hp⟩ := hp
                                    refine xJ_callS (As := [_, _]) hX hB dL_law_1091 lk_L_231 sm_L_agrees (c_L_agrees hM hkx6 hp) (by decide) rfl rfl rfl (Nat.le_of_ble_eq_true rfl) (by omega) (by omega) (fun v t1091 M1091 hv => ?_) (fun _ _ _ q => q.elim)
                                    clear hp
                                    obtain ⟨r1091, rfl, h1091, hM1091, hq1091, hp⟩ := hv
                                    dsimp only [Option.toList, List.cons_append, List.nil_append]
                                    refine xJ_if_eq hX dL_law_1094 (tgt := 1101) (by decide) h1091 (fun c1094 => ?_) (fun c1094 => ?_)
                                    · replace hp := hp.1 c1094
                                      refine xJ_iconst hX dL_law_1101 ?_
                                      refine xJ_istore_n hX dL_law_1102 (Nat.le_of_ble_eq_true rfl) rfl ?_
                                      dsimp only [List.set]
                                      refine xJ_iinc hX dL_law_1103 rfl rfl ?_
                                      dsimp only [List.set]
                                      obtain ⟨h1103, hp⟩ := hp
                                      refine xJ_goto hX dL_law_1106 (tgt := 181) (by decide) ?_
                                      exact ih181 _ _ _ _ _ _ _ _ _ _ _ _ _ (by omega) (by omega) hM1091 (xke_trans hqE hq1091) ⟨by decide, by decide⟩ hx2 (xke_k hq1091 hkx5 (by decide)) (xke_k hq1091 hkx6 (by decide)) (xke_k hq1091 hkx7 (by decide)) hx8 h1103 hp
                                    · replace hp := hp.2 c1094
                                      refine xJ_iconst hX dL_law_1097 ?_
                                      refine xJ_goto hX dL_law_1098 (tgt := 1102) (by decide) ?_
                                      refine xJ_istore_n hX dL_law_1102 (Nat.le_of_ble_eq_true rfl) rfl ?_
                                      dsimp only [List.set]
                                      refine xJ_iinc hX dL_law_1103 rfl rfl ?_
                                      dsimp only [List.set]
                                      obtain ⟨h1103, hp⟩ := hp
                                      refine xJ_goto hX dL_law_1106 (tgt := 181) (by decide) ?_
                                      exact ih181 _ _ _ _ _ _ _ _ _ _ _ _ _ (by omega) (by omega) hM1091 (xke_trans hqE hq1091) ⟨by decide, by decide⟩ hx2 (xke_k hq1091 hkx5 (by decide)) (xke_k hq1091 hkx6 (by decide)) (xke_k hq1091 hkx7 (by decide)) hx8 h1103 hp
                                refine xJ_if_eq hX dL_law_1045 (tgt := 1084) (by decide) hx11 (fun c1045 => ?_) (fun c1045 => ?_)
                                · replace hp := hp.1 c1045
                                  refine xJ_fg 10 ?_
                                  dsimp only [List.set]
                                  refine xJ_fg 11 ?_
                                  dsimp only [List.set]
                                  exact l1084 _ _ _ _ _ _ _ _ _ _ _ _ _ (by omega) (by omega) hM hqE hx1 hx2 hkx5 hkx6 hkx7 hx8 hx9 hp
                                · replace hp := hp.2 c1045
                                  refine xJ_bipush hX dL_law_1048 rfl ?_
                                  refine xJ_istore hX dL_law_1050 (Nat.le_of_ble_eq_true rfl) rfl ?_
                                  dsimp only [List.set]
                                  have l1075 : ∀ (c s n : Nat) (x1 : Int) (x2 : Int) (x3 : Nat) (x5 : Nat) (x6 : Nat) (x7 : Nat) (x8 : Int) (x9 : Int) (x10 : Nat) (t : xTh) (M : xMe) (hc : c + n ≤ nE) (hs : s + 64 * n ≤ 64 * nE) (hM : xMR M) (hqE : xke tE t) (hx1 : xR x1) (hx2 : xR x2) (hkx5 : xk t x5 = 19) (hkx6 : xk t x6 = 20) (hkx7 : xk t x7 = 18) (hx8 : xR x8) (hx9 : xR x9) (hkx10 : xk t x10 = 20) (hp : p_L_law_1075 F G N xs Q (p_L_law_4 F G N xs Q k4) (p_L_law_181 F G N xs Q (p_L_law_4 F G N xs Q k4) (p_L_law_1109 F G N xs Q (p_L_law_4 F G N xs Q k4)) k181) (p_L_law_1084 F G N xs Q (p_L_law_4 F G N xs Q k4) (p_L_law_181 F G N xs Q (p_L_law_4 F G N xs Q k4) (p_L_law_1109 F G N xs Q (p_L_law_4 F G N xs Q k4)) k181) (p_L_law_1109 F G N xs Q (p_L_law_4 F G N xs Q k4))) (p_L_law_1109 F G N xs Q (p_L_law_4 F G N xs Q k4)) n x1 x2 x3 x5 x6 x7 x8 x9 x10 t M), xJ X c s t M 1075 [vr x0, vi x1, vi x2, vr x3, vU, vr x5, vr x6, vr x7, vi x8, vi x9, vr x10, vU, vU, vU, vU, vU, vU, vU, vU, vU, vU, vU, vU, vU, vU, vU] [] := by
                                    intro c s n x1 x2 x3 x5 x6 x7 x8 x9 x10 t M hc hs hM hqE hx1 hx2 hkx5 hkx6 hkx7 hx8 hx9 hkx10 hp
                                    unfold p_L_law_1075 at hp
                                    refine xJ_aload hX dL_law_1075 rfl ?_
                                    refine xJ_iconst hX dL_law_1077 ?_
                                    refine xJ_aload hX dL_law_1078 rfl ?_
                                    obtain ⟨h1080, hp⟩ := hp
                                    refine xJ_aastDE (x := (some x10)) hX dL_law_1080 hkx7 (fun b e => by cases e; exact hkx10) h1080.1 h1080.2 (fun t1080 et1080 hq1080 => ?_)
                                    replace hp := hp t1080 et1080
                                    refine xJ_iinc hX dL_law_1081 rfl rfl ?_
                                    dsimp only [List.set]
                                    obtain ⟨h1081, hp⟩ := hp
                                    refine xJ_fg 10 ?_
                                    dsimp only [List.set]
                                    exact l1084 _ _ _ _ _ _ _ _ _ _ _ _ _ (by omega) (by omega) hM (xke_trans hqE hq1080) hx1 hx2 (xke_k hq1080 hkx5 (by decide)) (xke_k hq1080 hkx6 (by decide)) (xke_k hq1080 hkx7 (by decide)) h1081 hx9 hp
                                  have l1052 : ∀ (k1052 : Nat) (c s n : Nat) (x1 : Int) (x2 : Int) (x3 : Nat) (x5 : Nat) (x6 : Nat) (x7 : Nat) (x8 : Int) (x9 : Int) (x10 : Nat) (x16 : Int) (t : xTh) (M : xMe) (hc : c + n ≤ nE) (hs : s + 64 * n ≤ 64 * nE) (hM : xMR M) (hqE : xke tE t) (hx1 : xR x1) (hx2 : xR x2) (hkx5 : xk t x5 = 19) (hkx6 : xk t x6 = 20) (hkx7 : xk t x7 = 18) (hx8 : xR x8) (hx9 : xR x9) (hkx10 : xk t x10 = 20) (hx16 : xR x16) (hp : p_L_law_1052 F G N xs Q (p_L_law_4 F G N xs Q k4) (p_L_law_181 F G N xs Q (p_L_law_4 F G N xs Q k4) (p_L_law_1109 F G N xs Q (p_L_law_4 F G N xs Q k4)) k181) (p_L_law_1075 F G N xs Q (p_L_law_4 F G N xs Q k4) (p_L_law_181 F G N xs Q (p_L_law_4 F G N xs Q k4) (p_L_law_1109 F G N xs Q (p_L_law_4 F G N xs Q k4)) k181) (p_L_law_1084 F G N xs Q (p_L_law_4 F G N xs Q k4) (p_L_law_181 F G N xs Q (p_L_law_4 F G N xs Q k4) (p_L_law_1109 F G N xs Q (p_L_law_4 F G N xs Q k4)) k181) (p_L_law_1109 F G N xs Q (p_L_law_4 F G N xs Q k4))) (p_L_law_1109 F G N xs Q (p_L_law_4 F G N xs Q k4))) (p_L_law_1084 F G N xs Q (p_L_law_4 F G N xs Q k4) (p_L_law_181 F G N xs Q (p_L_law_4 F G N xs Q k4) (p_L_law_1109 F G N xs Q (p_L_law_4 F G N xs Q k4)) k181) (p_L_law_1109 F G N xs Q (p_L_law_4 F G N xs Q k4))) (p_L_law_1109 F G N xs Q (p_L_law_4 F G N xs Q k4)) k1052 n x1 x2 x3 x5 x6 x7 x8 x9 x10 x16 t M), xJ X c s t M 1052 [vr x0, vi x1, vi x2, vr x3, vU, vr x5, vr x6, vr x7, vi x8, vi x9, vr x10, vU, vU, vU, vU, vU, vi x16, vU, vU, vU, vU, vU, vU, vU, vU, vU] [] := by
                                    intro k1052
                                    induction k1052 with
                                    | zero => intro c s n x1 x2 x3 x5 x6 x7 x8 x9 x10 x16 t M hc hs hM hqE hx1 hx2 hkx5 hkx6 hkx7 hx8 hx9 hkx10 hx16 hp; exact hp.elim
                                    | succ k1052 ih1052 =>
                                      intro c s n x1 x2 x3 x5 x6 x7 x8 x9 x10 x16 t M hc hs hM hqE hx1 hx2 hkx5 hkx6 hkx7 hx8 hx9 hkx10 hx16 hp
                                      unfold p_L_law_1052 at hp
                                      refine xJ_iload hX dL_law_1052 rfl ?_
                                      refine xJ_if_le hX dL_law_1054 (tgt := 1075) (by decide) hx16 (fun c1054 => ?_) (fun c1054 => ?_)
                                      · replace hp := hp.1 c1054
                                        refine xJ_fg 16 ?_
                                        dsimp only [List.set]
                                        exact l1075 _ _ _ _ _ _ _ _ _ _ _ _ _ _ (by omega) (by omega) hM hqE hx1 hx2 hkx5 hkx6 hkx7 hx8 hx9 hkx10 hp
                                      · replace hp := hp.2 c1054
                                        refine xJ_aload hX dL_law_1057 rfl ?_
                                        refine xJ_iload hX dL_law_1059 rfl ?_
                                        refine xJ_aload hX dL_law_1061 rfl ?_
                                        refine xJ_iload hX dL_law_1063 rfl ?_
                                        refine xJ_iconst hX dL_law_1065 ?_
                                        refine xJ_isub hX dL_law_1066 ?_
                                        obtain ⟨h1066, hp⟩ := hp
                                        obtain ⟨h1067, hp⟩ := hp
                                        obtain ⟨hk1067, hp⟩ := hp
                                        refine xJ_aaldD hX dL_law_1067 hkx7 h1067.1 h1067.2 ?_
                                        obtain ⟨h1068, hp⟩ := hp
                                        refine xJ_aastDE (x := (xr t x7 (x16 - 1).toNat)) hX dL_law_1068 hkx7 hk1067 h1068.1 h1068.2 (fun t1068 et1068 hq1068 => ?_)
                                        replace hp := hp t1068 et1068
                                        refine xJ_iinc hX dL_law_1069 rfl rfl ?_
                                        dsimp only [List.set]
                                        obtain ⟨h1069, hp⟩ := hp
                                        refine xJ_goto hX dL_law_1072 (tgt := 1052) (by decide) ?_
                                        exact ih1052 _ _ _ _ _ _ _ _ _ _ _ _ _ _ _ (by omega) (by omega) hM (xke_trans hqE hq1068) hx1 hx2 (xke_k hq1068 hkx5 (by decide)) (xke_k hq1068 hkx6 (by decide)) (xke_k hq1068 hkx7 (by decide)) hx8 hx9 (xke_k hq1068 hkx10 (by decide)) h1069 hp
                                  refine xJ_fg 11 ?_
                                  dsimp only [List.set]
                                  exact l1052 F _ _ _ _ _ _ _ _ _ _ _ _ _ _ _ (by omega) (by omega) hM hqE hx1 hx2 hkx5 hkx6 hkx7 hx8 hx9 hkx10 ⟨by decide, by decide⟩ hp
                              obtain ⟨hpo, hp⟩ := hp
                              by_cases hsw265 : r262 < 0 ∨ 4 < r262
                              · refine xJ_tOut hX dL_law_265 h262 hsw265 (tgt := 946) (by decide) ?_
                                replace hp := hpo hsw265
                                refine xJ_aload hX dL_law_946 rfl ?_
                                refine xJ_aload hX dL_law_948 rfl ?_
                                refine xJ_iconst hX dL_law_950 ?_
                                obtain ⟨k951, hn951, hp⟩ := hp
                                refine xJ_callV (As := [_]) hX hB dL_law_951 lk_L_128 im_X13_below se_X13_below rfl (by decide) (xke_k hq262 hkx5 (by decide)) (c_X13_below hM262 (xke_k hq262 hkx5 (by decide)) ⟨by decide, by decide⟩ hp) (by decide) rfl rfl rfl (Nat.le_of_ble_eq_true rfl) (by omega) (by omega) (fun v t951 M951 hv => ?_) (fun _ _ _ q => q.elim)
                                clear hp
                                obtain ⟨r951, rfl, h951, hM951, hq951, hp⟩ := hv
                                dsimp only [Option.toList, List.cons_append, List.nil_append]
                                have l963 : ∀ (c s n : Nat) (x2 : Int) (x3 : Nat) (x5 : Nat) (x6 : Nat) (x7 : Nat) (x8 : Int) (x9 : Int) (x10 : Nat) (y0 : Int) (y1 : Nat) (t : xTh) (M : xMe) (hc : c + n ≤ nE) (hs : s + 64 * n ≤ 64 * nE) (hM : xMR M) (hqE : xke tE t) (hx2 : xR x2) (hkx5 : xk t x5 = 19) (hkx6 : xk t x6 = 20) (hkx7 : xk t x7 = 18) (hx8 : xR x8) (hx9 : xR x9) (hkx10 : xk t x10 = 20) (hy0 : xR y0) (hky1 : xk t y1 = 19) (hp : p_L_law_963 F G N xs Q (p_L_law_4 F G N xs Q k4) (p_L_law_181 F G N xs Q (p_L_law_4 F G N xs Q k4) (p_L_law_1109 F G N xs Q (p_L_law_4 F G N xs Q k4)) k181) (p_L_law_1043 F G N xs Q (p_L_law_4 F G N xs Q k4) (p_L_law_181 F G N xs Q (p_L_law_4 F G N xs Q k4) (p_L_law_1109 F G N xs Q (p_L_law_4 F G N xs Q k4)) k181) (p_L_law_1109 F G N xs Q (p_L_law_4 F G N xs Q k4))) (p_L_law_1109 F G N xs Q (p_L_law_4 F G N xs Q k4)) n x2 x3 x5 x6 x7 x8 x9 x10 y0 y1 t M), xJ X c s t M 963 [vr x0, vU, vi x2, vr x3, vU, vr x5, vr x6, vr x7, vi x8, vi x9, vr x10, vU, vU, vU, vU, vU, vU, vU, vU, vU, vU, vU, vU, vU, vU, vU] [vi y0, vr y1] := by
                                  intro c s n x2 x3 x5 x6 x7 x8 x9 x10 y0 y1 t M hc hs hM hqE hx2 hkx5 hkx6 hkx7 hx8 hx9 hkx10 hy0 hky1 hp
                                  unfold p_L_law_963 at hp
                                  obtain ⟨k963, hn963, hp⟩ := hp
                                  refine xJ_callV (As := [_]) hX hB dL_law_963 lk_L_128 im_X13_below se_X13_below rfl (by decide) hky1 (c_X13_below hM hky1 hy0 hp) (by decide) rfl rfl rfl (Nat.le_of_ble_eq_true rfl) (by omega) (by omega) (fun v t963 M963 hv => ?_) (fun _ _ _ q => q.elim)
                                  clear hp
                                  obtain ⟨r963, rfl, h963, hM963, hq963, hp⟩ := hv
                                  dsimp only [Option.toList, List.cons_append, List.nil_append]
                                  refine xJ_istore hX dL_law_966 (Nat.le_of_ble_eq_true rfl) rfl ?_
                                  dsimp only [List.set]
                                  refine xJ_iload hX dL_law_968 rfl ?_
                                  have l978 : ∀ (c s n : Nat) (x2 : Int) (x3 : Nat) (x5 : Nat) (x6 : Nat) (x7 : Nat) (x8 : Int) (x9 : Int) (x10 : Nat) (x23 : Int) (y0 : Int) (t : xTh) (M : xMe) (hc : c + n ≤ nE) (hs : s + 64 * n ≤ 64 * nE) (hM : xMR M) (hqE : xke tE t) (hx2 : xR x2) (hkx5 : xk t x5 = 19) (hkx6 : xk t x6 = 20) (hkx7 : xk t x7 = 18) (hx8 : xR x8) (hx9 : xR x9) (hkx10 : xk t x10 = 20) (hx23 : xR x23) (hy0 : xR y0) (hp : p_L_law_978 F G N xs Q (p_L_law_4 F G N xs Q k4) (p_L_law_181 F G N xs Q (p_L_law_4 F G N xs Q k4) (p_L_law_1109 F G N xs Q (p_L_law_4 F G N xs Q k4)) k181) (p_L_law_1043 F G N xs Q (p_L_law_4 F G N xs Q k4) (p_L_law_181 F G N xs Q (p_L_law_4 F G N xs Q k4) (p_L_law_1109 F G N xs Q (p_L_law_4 F G N xs Q k4)) k181) (p_L_law_1109 F G N xs Q (p_L_law_4 F G N xs Q k4))) (p_L_law_1109 F G N xs Q (p_L_law_4 F G N xs Q k4)) n x2 x3 x5 x6 x7 x8 x9 x10 x23 y0 t M), xJ X c s t M 978 [vr x0, vU, vi x2, vr x3, vU, vr x5, vr x6, vr x7, vi x8, vi x9, vr x10, vU, vU, vU, vU, vU, vU, vU, vU, vU, vU, vU, vU, vi x23, vU, vU] [vi y0] := by
                                    intro c s n x2 x3 x5 x6 x7 x8 x9 x10 x23 y0 t M hc hs hM hqE hx2 hkx5 hkx6 hkx7 hx8 hx9 hkx10 hx23 hy0 hp
                                    unfold p_L_law_978 at hp
                                    refine xJ_istore hX dL_law_978 (Nat.le_of_ble_eq_true rfl) rfl ?_
                                    dsimp only [List.set]
                                    refine xJ_aload hX dL_law_980 rfl ?_
                                    refine xJ_iconst hX dL_law_982 ?_
                                    obtain ⟨k983, hn983, hp⟩ := hp
                                    refine xJ_callV (As := [_]) hX hB dL_law_983 lk_L_263 im_X14_count se_X14_count rfl (by decide) hkx6 (c_X14_count hM hkx6 ⟨by decide, by decide⟩ hp) (by decide) rfl rfl rfl (Nat.le_of_ble_eq_true rfl) (by omega) (by omega) (fun v t983 M983 hv => ?_) (fun _ _ _ q => q.elim)
                                    clear hp
                                    obtain ⟨r983, rfl, h983, hM983, hq983, hp⟩ := hv
                                    dsimp only [Option.toList, List.cons_append, List.nil_append]
                                    refine xJ_istore hX dL_law_986 (Nat.le_of_ble_eq_true rfl) rfl ?_
                                    dsimp only [List.set]
                                    refine xJ_iconst hX dL_law_988 ?_
                                    refine xJ_istore hX dL_law_989 (Nat.le_of_ble_eq_true rfl) rfl ?_
                                    dsimp only [List.set]
                                    have l1009 : ∀ (c s n : Nat) (x2 : Int) (x3 : Nat) (x5 : Nat) (x6 : Nat) (x7 : Nat) (x8 : Int) (x9 : Int) (x10 : Nat) (x11 : Int) (x23 : Int) (x24 : Int) (t : xTh) (M : xMe) (hc : c + n ≤ nE) (hs : s + 64 * n ≤ 64 * nE) (hM : xMR M) (hqE : xke tE t) (hx2 : xR x2) (hkx5 : xk t x5 = 19) (hkx6 : xk t x6 = 20) (hkx7 : xk t x7 = 18) (hx8 : xR x8) (hx9 : xR x9) (hkx10 : xk t x10 = 20) (hx11 : xR x11) (hx23 : xR x23) (hx24 : xR x24) (hp : p_L_law_1009 F G N xs Q (p_L_law_4 F G N xs Q k4) (p_L_law_181 F G N xs Q (p_L_law_4 F G N xs Q k4) (p_L_law_1109 F G N xs Q (p_L_law_4 F G N xs Q k4)) k181) (p_L_law_1043 F G N xs Q (p_L_law_4 F G N xs Q k4) (p_L_law_181 F G N xs Q (p_L_law_4 F G N xs Q k4) (p_L_law_1109 F G N xs Q (p_L_law_4 F G N xs Q k4)) k181) (p_L_law_1109 F G N xs Q (p_L_law_4 F G N xs Q k4))) (p_L_law_1109 F G N xs Q (p_L_law_4 F G N xs Q k4)) n x2 x3 x5 x6 x7 x8 x9 x10 x11 x23 x24 t M), xJ X c s t M 1009 [vr x0, vU, vi x2, vr x3, vU, vr x5, vr x6, vr x7, vi x8, vi x9, vr x10, vi x11, vU, vU, vU, vU, vU, vU, vU, vU, vU, vU, vU, vi x23, vi x24, vU] [] := by
                                      intro c s n x2 x3 x5 x6 x7 x8 x9 x10 x11 x23 x24 t M hc hs hM hqE hx2 hkx5 hkx6 hkx7 hx8 hx9 hkx10 hx11 hx23 hx24 hp
                                      unfold p_L_law_1009 at hp
                                      refine xJ_aload_n hX dL_law_1009 rfl ?_
                                      refine xJ_iload hX dL_law_1010 rfl ?_
                                      obtain ⟨hw1012, hp⟩ := hp
                                      have hn1012 := hw1012.1
                                      refine xJ_callSW (As := [_, _]) hX hB dL_law_1012 lkw_L_pass sm_L_pass (c_L_pass hw1012.2.1 hw1012.2.2 hM hx23 hp) (by decide) rfl rfl rfl (Nat.le_of_ble_eq_true rfl) (by omega) (by omega) (fun v t1012 M1012 hv => ?_)
                                      clear hp
                                      obtain ⟨r1012, rfl, h1012, hM1012, hqw1012, hp⟩ := hv
                                      have hq1012 := xke_qw hqw1012
                                      refine xJ_live fun hlv1012 => ?_
                                      replace hp := hp hqw1012 hlv1012
                                      dsimp only [Option.toList, List.cons_append, List.nil_append]
                                      refine xJ_iload hX dL_law_1015 rfl ?_
                                      refine xJ_if_eq hX dL_law_1017 (tgt := 1032) (by decide) hx11 (fun c1017 => ?_) (fun c1017 => ?_)
                                      · replace hp := hp.1 c1017
                                        refine xJ_ldc (-2000000098) hX dL_law_1032 kc_L_42 ?_
                                        refine xJ_icmp_ne hX dL_law_1034 (tgt := 1041) (by decide) h1012 ⟨by decide, by decide⟩ (fun c1034 => ?_) (fun c1034 => ?_)
                                        · replace hp := hp.1 c1034
                                          refine xJ_iconst hX dL_law_1041 ?_
                                          refine xJ_istore_n hX dL_law_1042 (Nat.le_of_ble_eq_true rfl) rfl ?_
                                          dsimp only [List.set]
                                          refine xJ_fg 23 ?_
                                          dsimp only [List.set]
                                          refine xJ_fg 24 ?_
                                          dsimp only [List.set]
                                          exact l1043 _ _ _ _ _ _ _ _ _ _ _ _ _ _ _ (by omega) (by omega) hM1012 (xke_trans hqE hq1012) ⟨by decide, by decide⟩ hx2 (xke_k hq1012 hkx5 (by decide)) (xke_k hq1012 hkx6 (by decide)) (xke_k hq1012 hkx7 (by decide)) hx8 hx9 (xke_k hq1012 hkx10 (by decide)) hx11 hp
                                        · replace hp := hp.2 c1034
                                          refine xJ_iconst hX dL_law_1037 ?_
                                          refine xJ_goto hX dL_law_1038 (tgt := 1042) (by decide) ?_
                                          refine xJ_istore_n hX dL_law_1042 (Nat.le_of_ble_eq_true rfl) rfl ?_
                                          dsimp only [List.set]
                                          refine xJ_fg 23 ?_
                                          dsimp only [List.set]
                                          refine xJ_fg 24 ?_
                                          dsimp only [List.set]
                                          exact l1043 _ _ _ _ _ _ _ _ _ _ _ _ _ _ _ (by omega) (by omega) hM1012 (xke_trans hqE hq1012) ⟨by decide, by decide⟩ hx2 (xke_k hq1012 hkx5 (by decide)) (xke_k hq1012 hkx6 (by decide)) (xke_k hq1012 hkx7 (by decide)) hx8 hx9 (xke_k hq1012 hkx10 (by decide)) hx11 hp
                                      · replace hp := hp.2 c1017
                                        refine xJ_aload hX dL_law_1020 rfl ?_
                                        refine xJ_iconst hX dL_law_1022 ?_
                                        obtain ⟨k1023, hn1023, hp⟩ := hp
                                        refine xJ_callV (As := [_]) hX hB dL_law_1023 lk_L_263 im_X14_count se_X14_count rfl (by decide) (xke_k hq1012 hkx6 (by decide)) (c_X14_count hM1012 (xke_k hq1012 hkx6 (by decide)) ⟨by decide, by decide⟩ hp) (by decide) rfl rfl rfl (Nat.le_of_ble_eq_true rfl) (by omega) (by omega) (fun v t1023 M1023 hv => ?_) (fun _ _ _ q => q.elim)
                                        clear hp
                                        obtain ⟨r1023, rfl, h1023, hM1023, hq1023, hp⟩ := hv
                                        dsimp only [Option.toList, List.cons_append, List.nil_append]
                                        refine xJ_iload hX dL_law_1026 rfl ?_
                                        refine xJ_isub hX dL_law_1028 ?_
                                        obtain ⟨h1028, hp⟩ := hp
                                        refine xJ_goto hX dL_law_1029 (tgt := 1034) (by decide) ?_
                                        refine xJ_icmp_ne hX dL_law_1034 (tgt := 1041) (by decide) h1012 h1028 (fun c1034 => ?_) (fun c1034 => ?_)
                                        · replace hp := hp.1 c1034
                                          refine xJ_iconst hX dL_law_1041 ?_
                                          refine xJ_istore_n hX dL_law_1042 (Nat.le_of_ble_eq_true rfl) rfl ?_
                                          dsimp only [List.set]
                                          refine xJ_fg 23 ?_
                                          dsimp only [List.set]
                                          refine xJ_fg 24 ?_
                                          dsimp only [List.set]
                                          exact l1043 _ _ _ _ _ _ _ _ _ _ _ _ _ _ _ (by omega) (by omega) hM1023 (xke_trans (xke_trans hqE hq1012) hq1023) ⟨by decide, by decide⟩ hx2 (xke_k hq1023 (xke_k hq1012 hkx5 (by decide)) (by decide)) (xke_k hq1023 (xke_k hq1012 hkx6 (by decide)) (by decide)) (xke_k hq1023 (xke_k hq1012 hkx7 (by decide)) (by decide)) hx8 hx9 (xke_k hq1023 (xke_k hq1012 hkx10 (by decide)) (by decide)) hx11 hp
                                        · replace hp := hp.2 c1034
                                          refine xJ_iconst hX dL_law_1037 ?_
                                          refine xJ_goto hX dL_law_1038 (tgt := 1042) (by decide) ?_
                                          refine xJ_istore_n hX dL_law_1042 (Nat.le_of_ble_eq_true rfl) rfl ?_
                                          dsimp only [List.set]
                                          refine xJ_fg 23 ?_
                                          dsimp only [List.set]
                                          refine xJ_fg 24 ?_
                                          dsimp only [List.set]
                                          exact l1043 _ _ _ _ _ _ _ _ _ _ _ _ _ _ _ (by omega) (by omega) hM1023 (xke_trans (xke_trans hqE hq1012) hq1023) ⟨by decide, by decide⟩ hx2 (xke_k hq1023 (xke_k hq1012 hkx5 (by decide)) (by decide)) (xke_k hq1023 (xke_k hq1012 hkx6 (by decide)) (by decide)) (xke_k hq1023 (xke_k hq1012 hkx7 (by decide)) (by decide)) hx8 hx9 (xke_k hq1023 (xke_k hq1012 hkx10 (by decide)) (by decide)) hx11 hp
                                    have l991 : ∀ (k991 : Nat) (c s n : Nat) (x2 : Int) (x3 : Nat) (x5 : Nat) (x6 : Nat) (x7 : Nat) (x8 : Int) (x9 : Int) (x10 : Nat) (x11 : Int) (x23 : Int) (x24 : Int) (x25 : Int) (t : xTh) (M : xMe) (hc : c + n ≤ nE) (hs : s + 64 * n ≤ 64 * nE) (hM : xMR M) (hqE : xke tE t) (hx2 : xR x2) (hkx5 : xk t x5 = 19) (hkx6 : xk t x6 = 20) (hkx7 : xk t x7 = 18) (hx8 : xR x8) (hx9 : xR x9) (hkx10 : xk t x10 = 20) (hx11 : xR x11) (hx23 : xR x23) (hx24 : xR x24) (hx25 : xR x25) (hp : p_L_law_991 F G N xs Q (p_L_law_4 F G N xs Q k4) (p_L_law_181 F G N xs Q (p_L_law_4 F G N xs Q k4) (p_L_law_1109 F G N xs Q (p_L_law_4 F G N xs Q k4)) k181) (p_L_law_1009 F G N xs Q (p_L_law_4 F G N xs Q k4) (p_L_law_181 F G N xs Q (p_L_law_4 F G N xs Q k4) (p_L_law_1109 F G N xs Q (p_L_law_4 F G N xs Q k4)) k181) (p_L_law_1043 F G N xs Q (p_L_law_4 F G N xs Q k4) (p_L_law_181 F G N xs Q (p_L_law_4 F G N xs Q k4) (p_L_law_1109 F G N xs Q (p_L_law_4 F G N xs Q k4)) k181) (p_L_law_1109 F G N xs Q (p_L_law_4 F G N xs Q k4))) (p_L_law_1109 F G N xs Q (p_L_law_4 F G N xs Q k4))) (p_L_law_1043 F G N xs Q (p_L_law_4 F G N xs Q k4) (p_L_law_181 F G N xs Q (p_L_law_4 F G N xs Q k4) (p_L_law_1109 F G N xs Q (p_L_law_4 F G N xs Q k4)) k181) (p_L_law_1109 F G N xs Q (p_L_law_4 F G N xs Q k4))) (p_L_law_1109 F G N xs Q (p_L_law_4 F G N xs Q k4)) k991 n x2 x3 x5 x6 x7 x8 x9 x10 x11 x23 x24 x25 t M), xJ X c s t M 991 [vr x0, vU, vi x2, vr x3, vU, vr x5, vr x6, vr x7, vi x8, vi x9, vr x10, vi x11, vU, vU, vU, vU, vU, vU, vU, vU, vU, vU, vU, vi x23, vi x24, vi x25] [] := by
                                      intro k991
                                      induction k991 with
                                      | zero => intro c s n x2 x3 x5 x6 x7 x8 x9 x10 x11 x23 x24 x25 t M hc hs hM hqE hx2 hkx5 hkx6 hkx7 hx8 hx9 hkx10 hx11 hx23 hx24 hx25 hp; exact hp.elim
                                      | succ k991 ih991 =>
                                        intro c s n x2 x3 x5 x6 x7 x8 x9 x10 x11 x23 x24 x25 t M hc hs hM hqE hx2 hkx5 hkx6 hkx7 hx8 hx9 hkx10 hx11 hx23 hx24 hx25 hp
                                        unfold p_L_law_991 at hp
                                        refine xJ_iload hX dL_law_991 rfl ?_
                                        refine xJ_iload hX dL_law_993 rfl ?_
                                        refine xJ_icmp_ge hX dL_law_995 (tgt := 1009) (by decide) hx25 hx23 (fun c995 => ?_) (fun c995 => ?_)
                                        · replace hp := hp.1 c995
                                          refine xJ_fg 25 ?_
                                          dsimp only [List.set]
                                          exact l1009 _ _ _ _ _ _ _ _ _ _ _ _ _ _ _ _ (by omega) (by omega) hM hqE hx2 hkx5 hkx6 hkx7 hx8 hx9 hkx10 hx11 hx23 hx24 hp
                                        · replace hp := hp.2 c995
                                          refine xJ_aload hX dL_law_998 rfl ?_
                                          obtain ⟨k1000, hn1000, hp⟩ := hp
                                          refine xJ_callV (As := []) hX hB dL_law_1000 lk_L_266 im_X14_tick se_X14_tick rfl (by decide) hkx6 (c_X14_tick hM hkx6 hp) (by decide) rfl rfl rfl (Nat.le_of_ble_eq_true rfl) (by omega) (by omega) (fun v t1000 M1000 hv => ?_) (fun _ _ _ q => q.elim)
                                          clear hp
                                          obtain ⟨rfl, hM1000, hq1000, hp⟩ := hv
                                          dsimp only [Option.toList, List.cons_append, List.nil_append]
                                          refine xJ_iinc hX dL_law_1003 rfl rfl ?_
                                          dsimp only [List.set]
                                          obtain ⟨h1003, hp⟩ := hp
                                          refine xJ_goto hX dL_law_1006 (tgt := 991) (by decide) ?_
                                          exact ih991 _ _ _ _ _ _ _ _ _ _ _ _ _ _ _ _ _ (by omega) (by omega) hM1000 (xke_trans hqE hq1000) hx2 (xke_k hq1000 hkx5 (by decide)) (xke_k hq1000 hkx6 (by decide)) (xke_k hq1000 hkx7 (by decide)) hx8 hx9 (xke_k hq1000 hkx10 (by decide)) hx11 hx23 hx24 h1003 hp
                                    exact l991 F _ _ _ _ _ _ _ _ _ _ _ _ _ _ _ _ _ (by omega) (by omega) hM983 (xke_trans hqE hq983) hx2 (xke_k hq983 hkx5 (by decide)) (xke_k hq983 hkx6 (by decide)) (xke_k hq983 hkx7 (by decide)) hx8 hx9 (xke_k hq983 hkx10 (by decide)) hy0 hx23 h983 ⟨by decide, by decide⟩ hp
                                  refine xJ_if_le hX dL_law_970 (tgt := 977) (by decide) h963 (fun c970 => ?_) (fun c970 => ?_)
                                  · replace hp := hp.1 c970
                                    refine xJ_iconst hX dL_law_977 ?_
                                    exact l978 _ _ _ _ _ _ _ _ _ _ _ _ _ _ _ (by omega) (by omega) hM963 (xke_trans hqE hq963) hx2 (xke_k hq963 hkx5 (by decide)) (xke_k hq963 hkx6 (by decide)) (xke_k hq963 hkx7 (by decide)) hx8 hx9 (xke_k hq963 hkx10 (by decide)) h963 ⟨by decide, by decide⟩ hp
                                  · replace hp := hp.2 c970
                                    refine xJ_iconst hX dL_law_973 ?_
                                    refine xJ_goto hX dL_law_974 (tgt := 978) (by decide) ?_
                                    exact l978 _ _ _ _ _ _ _ _ _ _ _ _ _ _ _ (by omega) (by omega) hM963 (xke_trans hqE hq963) hx2 (xke_k hq963 hkx5 (by decide)) (xke_k hq963 hkx6 (by decide)) (xke_k hq963 hkx7 (by decide)) hx8 hx9 (xke_k hq963 hkx10 (by decide)) h963 ⟨by decide, by decide⟩ hp
                                refine xJ_if_ne hX dL_law_954 (tgt := 962) (by decide) h951 (fun c954 => ?_) (fun c954 => ?_)
                                · replace hp := hp.1 c954
                                  refine xJ_iconst hX dL_law_962 ?_
                                  refine xJ_fg 12 ?_
                                  dsimp only [List.set]
                                  refine xJ_fg 14 ?_
                                  dsimp only [List.set]
                                  refine xJ_fg 15 ?_
                                  dsimp only [List.set]
                                  exact l963 _ _ _ _ _ _ _ _ _ _ _ _ _ _ _ (by omega) (by omega) hM951 (xke_trans (xke_trans hqE hq262) hq951) hx2 (xke_k hq951 (xke_k hq262 hkx5 (by decide)) (by decide)) (xke_k hq951 (xke_k hq262 hkx6 (by decide)) (by decide)) (xke_k hq951 (xke_k hq262 hkx7 (by decide)) (by decide)) hx8 hx9 (xke_k hq951 (xke_k hq262 hkx10 (by decide)) (by decide)) ⟨by decide, by decide⟩ (xke_k hq951 (xke_k hq262 hkx5 (by decide)) (by decide)) hp
                                · replace hp := hp.2 c954
                                  refine xJ_bipush hX dL_law_957 rfl ?_
                                  refine xJ_goto hX dL_law_959 (tgt := 963) (by decide) ?_
                                  refine xJ_fg 12 ?_
                                  dsimp only [List.set]
                                  refine xJ_fg 14 ?_
                                  dsimp only [List.set]
                                  refine xJ_fg 15 ?_
                                  dsimp only [List.set]
                                  exact l963 _ _ _ _ _ _ _ _ _ _ _ _ _ _ _ (by omega) (by omega) hM951 (xke_trans (xke_trans hqE hq262) hq951) hx2 (xke_k hq951 (xke_k hq262 hkx5 (by decide)) (by decide)) (xke_k hq951 (xke_k hq262 hkx6 (by decide)) (by decide)) (xke_k hq951 (xke_k hq262 hkx7 (by decide)) (by decide)) hx8 hx9 (xke_k hq951 (xke_k hq262 hkx10 (by decide)) (by decide)) ⟨by decide, by decide⟩ (xke_k hq951 (xke_k hq262 hkx5 (by decide)) (by decide)) hp
                              · obtain hc265 | hc265 | hc265 | hc265 | hc265 : r262 = 0 ∨ r262 = 1 ∨ r262 = 2 ∨ r262 = 3 ∨ r262 = 4 := by omega
                                · refine xJ_tIn hX dL_law_265 h262 (by omega) (by omega) (off := 35) (by rw [hc265]; rfl) (tgt := 300) (by decide) ?_
                                  replace hp := hp.1 hc265
                                  refine xJ_aload hX dL_law_300 rfl ?_
                                  refine xJ_aload hX dL_law_302 rfl ?_
                                  refine xJ_bipush hX dL_law_304 rfl ?_
                                  obtain ⟨k306, hn306, hp⟩ := hp
                                  refine xJ_callV (As := [_]) hX hB dL_law_306 lk_L_128 im_X13_below se_X13_below rfl (by decide) (xke_k hq262 hkx5 (by decide)) (c_X13_below hM262 (xke_k hq262 hkx5 (by decide)) ⟨by decide, by decide⟩ hp) (by decide) rfl rfl rfl (Nat.le_of_ble_eq_true rfl) (by omega) (by omega) (fun v t306 M306 hv => ?_) (fun _ _ _ q => q.elim)
                                  clear hp
                                  obtain ⟨r306, rfl, h306, hM306, hq306, hp⟩ := hv
                                  dsimp only [Option.toList, List.cons_append, List.nil_append]
                                  have l319 : ∀ (c s n : Nat) (x2 : Int) (x3 : Nat) (x5 : Nat) (x6 : Nat) (x7 : Nat) (x8 : Int) (x9 : Int) (x10 : Nat) (x12 : Int) (x14 : Int) (x15 : Int) (y0 : Int) (y1 : Nat) (t : xTh) (M : xMe) (hc : c + n ≤ nE) (hs : s + 64 * n ≤ 64 * nE) (hM : xMR M) (hqE : xke tE t) (hx2 : xR x2) (hkx5 : xk t x5 = 19) (hkx6 : xk t x6 = 20) (hkx7 : xk t x7 = 18) (hx8 : xR x8) (hx9 : xR x9) (hkx10 : xk t x10 = 20) (hx12 : xR x12) (hx14 : xR x14) (hx15 : xR x15) (hy0 : xR y0) (hky1 : xk t y1 = 19) (hp : p_L_law_319 F G N xs Q (p_L_law_4 F G N xs Q k4) (p_L_law_181 F G N xs Q (p_L_law_4 F G N xs Q k4) (p_L_law_1109 F G N xs Q (p_L_law_4 F G N xs Q k4)) k181) (p_L_law_1043 F G N xs Q (p_L_law_4 F G N xs Q k4) (p_L_law_181 F G N xs Q (p_L_law_4 F G N xs Q k4) (p_L_law_1109 F G N xs Q (p_L_law_4 F G N xs Q k4)) k181) (p_L_law_1109 F G N xs Q (p_L_law_4 F G N xs Q k4))) (p_L_law_1109 F G N xs Q (p_L_law_4 F G N xs Q k4)) n x2 x3 x5 x6 x7 x8 x9 x10 x12 x14 x15 y0 y1 t M), xJ X c s t M 319 [vr x0, vU, vi x2, vr x3, vU, vr x5, vr x6, vr x7, vi x8, vi x9, vr x10, vU, vi x12, vU, vi x14, vi x15, vU, vU, vU, vU, vU, vU, vU, vU, vU, vU] [vi y0, vr y1] := by
                                    intro c s n x2 x3 x5 x6 x7 x8 x9 x10 x12 x14 x15 y0 y1 t M hc hs hM hqE hx2 hkx5 hkx6 hkx7 hx8 hx9 hkx10 hx12 hx14 hx15 hy0 hky1 hp
                                    unfold p_L_law_319 at hp
                                    obtain ⟨k319, hn319, hp⟩ := hp
                                    refine xJ_callV (As := [_]) hX hB dL_law_319 lk_L_128 im_X13_below se_X13_below rfl (by decide) hky1 (c_X13_below hM hky1 hy0 hp) (by decide) rfl rfl rfl (Nat.le_of_ble_eq_true rfl) (by omega) (by omega) (fun v t319 M319 hv => ?_) (fun _ _ _ q => q.elim)
                                    clear hp
                                    obtain ⟨r319, rfl, h319, hM319, hq319, hp⟩ := hv
                                    dsimp only [Option.toList, List.cons_append, List.nil_append]
                                    refine xJ_istore hX dL_law_322 (Nat.le_of_ble_eq_true rfl) rfl ?_
                                    dsimp only [List.set]
                                    refine xJ_iload hX dL_law_324 rfl ?_
                                    have l341 : ∀ (c s n : Nat) (x2 : Int) (x3 : Nat) (x5 : Nat) (x6 : Nat) (x7 : Nat) (x8 : Int) (x9 : Int) (x10 : Nat) (x12 : Int) (x14 : Int) (x15 : Int) (x16 : Int) (y0 : Int) (t : xTh) (M : xMe) (hc : c + n ≤ nE) (hs : s + 64 * n ≤ 64 * nE) (hM : xMR M) (hqE : xke tE t) (hx2 : xR x2) (hkx5 : xk t x5 = 19) (hkx6 : xk t x6 = 20) (hkx7 : xk t x7 = 18) (hx8 : xR x8) (hx9 : xR x9) (hkx10 : xk t x10 = 20) (hx12 : xR x12) (hx14 : xR x14) (hx15 : xR x15) (hx16 : xR x16) (hy0 : xR y0) (hp : p_L_law_341 F G N xs Q (p_L_law_4 F G N xs Q k4) (p_L_law_181 F G N xs Q (p_L_law_4 F G N xs Q k4) (p_L_law_1109 F G N xs Q (p_L_law_4 F G N xs Q k4)) k181) (p_L_law_1043 F G N xs Q (p_L_law_4 F G N xs Q k4) (p_L_law_181 F G N xs Q (p_L_law_4 F G N xs Q k4) (p_L_law_1109 F G N xs Q (p_L_law_4 F G N xs Q k4)) k181) (p_L_law_1109 F G N xs Q (p_L_law_4 F G N xs Q k4))) (p_L_law_1109 F G N xs Q (p_L_law_4 F G N xs Q k4)) n x2 x3 x5 x6 x7 x8 x9 x10 x12 x14 x15 x16 y0 t M), xJ X c s t M 341 [vr x0, vU, vi x2, vr x3, vU, vr x5, vr x6, vr x7, vi x8, vi x9, vr x10, vU, vi x12, vU, vi x14, vi x15, vi x16, vU, vU, vU, vU, vU, vU, vU, vU, vU] [vi y0] := by
                                      intro c s n x2 x3 x5 x6 x7 x8 x9 x10 x12 x14 x15 x16 y0 t M hc hs hM hqE hx2 hkx5 hkx6 hkx7 hx8 hx9 hkx10 hx12 hx14 hx15 hx16 hy0 hp
                                      unfold p_L_law_341 at hp
                                      refine xJ_istore hX dL_law_341 (Nat.le_of_ble_eq_true rfl) rfl ?_
                                      dsimp only [List.set]
                                      refine xJ_iload hX dL_law_343 rfl ?_
                                      have l370 : ∀ (c s n : Nat) (x2 : Int) (x3 : Nat) (x5 : Nat) (x6 : Nat) (x7 : Nat) (x8 : Int) (x9 : Int) (x10 : Nat) (x11 : Int) (x12 : Int) (x14 : Int) (x16 : Int) (t : xTh) (M : xMe) (hc : c + n ≤ nE) (hs : s + 64 * n ≤ 64 * nE) (hM : xMR M) (hqE : xke tE t) (hx2 : xR x2) (hkx5 : xk t x5 = 19) (hkx6 : xk t x6 = 20) (hkx7 : xk t x7 = 18) (hx8 : xR x8) (hx9 : xR x9) (hkx10 : xk t x10 = 20) (hx11 : xR x11) (hx12 : xR x12) (hx14 : xR x14) (hx16 : xR x16) (hp : p_L_law_370 F G N xs Q (p_L_law_4 F G N xs Q k4) (p_L_law_181 F G N xs Q (p_L_law_4 F G N xs Q k4) (p_L_law_1109 F G N xs Q (p_L_law_4 F G N xs Q k4)) k181) (p_L_law_1043 F G N xs Q (p_L_law_4 F G N xs Q k4) (p_L_law_181 F G N xs Q (p_L_law_4 F G N xs Q k4) (p_L_law_1109 F G N xs Q (p_L_law_4 F G N xs Q k4)) k181) (p_L_law_1109 F G N xs Q (p_L_law_4 F G N xs Q k4))) (p_L_law_1109 F G N xs Q (p_L_law_4 F G N xs Q k4)) n x2 x3 x5 x6 x7 x8 x9 x10 x11 x12 x14 x16 t M), xJ X c s t M 370 [vr x0, vU, vi x2, vr x3, vU, vr x5, vr x6, vr x7, vi x8, vi x9, vr x10, vi x11, vi x12, vU, vi x14, vU, vi x16, vU, vU, vU, vU, vU, vU, vU, vU, vU] [] := by
                                        intro c s n x2 x3 x5 x6 x7 x8 x9 x10 x11 x12 x14 x16 t M hc hs hM hqE hx2 hkx5 hkx6 hkx7 hx8 hx9 hkx10 hx11 hx12 hx14 hx16 hp
                                        unfold p_L_law_370 at hp
                                        refine xJ_iload hX dL_law_370 rfl ?_
                                        have l387 : ∀ (c s n : Nat) (x2 : Int) (x3 : Nat) (x5 : Nat) (x6 : Nat) (x7 : Nat) (x8 : Int) (x9 : Int) (x10 : Nat) (x11 : Int) (x12 : Int) (x14 : Int) (x16 : Int) (t : xTh) (M : xMe) (hc : c + n ≤ nE) (hs : s + 64 * n ≤ 64 * nE) (hM : xMR M) (hqE : xke tE t) (hx2 : xR x2) (hkx5 : xk t x5 = 19) (hkx6 : xk t x6 = 20) (hkx7 : xk t x7 = 18) (hx8 : xR x8) (hx9 : xR x9) (hkx10 : xk t x10 = 20) (hx11 : xR x11) (hx12 : xR x12) (hx14 : xR x14) (hx16 : xR x16) (hp : p_L_law_387 F G N xs Q (p_L_law_4 F G N xs Q k4) (p_L_law_181 F G N xs Q (p_L_law_4 F G N xs Q k4) (p_L_law_1109 F G N xs Q (p_L_law_4 F G N xs Q k4)) k181) (p_L_law_1043 F G N xs Q (p_L_law_4 F G N xs Q k4) (p_L_law_181 F G N xs Q (p_L_law_4 F G N xs Q k4) (p_L_law_1109 F G N xs Q (p_L_law_4 F G N xs Q k4)) k181) (p_L_law_1109 F G N xs Q (p_L_law_4 F G N xs Q k4))) (p_L_law_1109 F G N xs Q (p_L_law_4 F G N xs Q k4)) n x2 x3 x5 x6 x7 x8 x9 x10 x11 x12 x14 x16 t M), xJ X c s t M 387 [vr x0, vU, vi x2, vr x3, vU, vr x5, vr x6, vr x7, vi x8, vi x9, vr x10, vi x11, vi x12, vU, vi x14, vU, vi x16, vU, vU, vU, vU, vU, vU, vU, vU, vU] [] := by
                                          intro c s n x2 x3 x5 x6 x7 x8 x9 x10 x11 x12 x14 x16 t M hc hs hM hqE hx2 hkx5 hkx6 hkx7 hx8 hx9 hkx10 hx11 hx12 hx14 hx16 hp
                                          unfold p_L_law_387 at hp
                                          refine xJ_aload_n hX dL_law_387 rfl ?_
                                          refine xJ_iload hX dL_law_388 rfl ?_
                                          refine xJ_iload hX dL_law_390 rfl ?_
                                          obtain ⟨hw392, hp⟩ := hp
                                          have hn392 := hw392.1
                                          refine xJ_callSW (As := [_, _, _]) hX hB dL_law_392 lkw_L_setThrift sm_L_setThrift (c_L_setThrift hw392.2.1 hw392.2.2 hM hx14 hx16 hp) (by decide) rfl rfl rfl (Nat.le_of_ble_eq_true rfl) (by omega) (by omega) (fun v t392 M392 hv => ?_)
                                          clear hp
                                          obtain ⟨r392, rfl, h392, hM392, hqw392, hp⟩ := hv
                                          have hq392 := xke_qw hqw392
                                          refine xJ_live fun hlv392 => ?_
                                          replace hp := hp hqw392 hlv392
                                          dsimp only [Option.toList, List.cons_append, List.nil_append]
                                          refine xJ_iload hX dL_law_395 rfl ?_
                                          refine xJ_icmp_ne hX dL_law_397 (tgt := 404) (by decide) h392 hx12 (fun c397 => ?_) (fun c397 => ?_)
                                          · replace hp := hp.1 c397
                                            refine xJ_iconst hX dL_law_404 ?_
                                            refine xJ_istore_n hX dL_law_405 (Nat.le_of_ble_eq_true rfl) rfl ?_
                                            dsimp only [List.set]
                                            refine xJ_goto hX dL_law_406 (tgt := 1043) (by decide) ?_
                                            refine xJ_fg 12 ?_
                                            dsimp only [List.set]
                                            refine xJ_fg 14 ?_
                                            dsimp only [List.set]
                                            refine xJ_fg 16 ?_
                                            dsimp only [List.set]
                                            exact l1043 _ _ _ _ _ _ _ _ _ _ _ _ _ _ _ (by omega) (by omega) hM392 (xke_trans hqE hq392) ⟨by decide, by decide⟩ hx2 (xke_k hq392 hkx5 (by decide)) (xke_k hq392 hkx6 (by decide)) (xke_k hq392 hkx7 (by decide)) hx8 hx9 (xke_k hq392 hkx10 (by decide)) hx11 hp
                                          · replace hp := hp.2 c397
                                            refine xJ_iconst hX dL_law_400 ?_
                                            refine xJ_goto hX dL_law_401 (tgt := 405) (by decide) ?_
                                            refine xJ_istore_n hX dL_law_405 (Nat.le_of_ble_eq_true rfl) rfl ?_
                                            dsimp only [List.set]
                                            refine xJ_goto hX dL_law_406 (tgt := 1043) (by decide) ?_
                                            refine xJ_fg 12 ?_
                                            dsimp only [List.set]
                                            refine xJ_fg 14 ?_
                                            dsimp only [List.set]
                                            refine xJ_fg 16 ?_
                                            dsimp only [List.set]
                                            exact l1043 _ _ _ _ _ _ _ _ _ _ _ _ _ _ _ (by omega) (by omega) hM392 (xke_trans hqE hq392) ⟨by decide, by decide⟩ hx2 (xke_k hq392 hkx5 (by decide)) (xke_k hq392 hkx6 (by decide)) (xke_k hq392 hkx7 (by decide)) hx8 hx9 (xke_k hq392 hkx10 (by decide)) hx11 hp
                                        refine xJ_if_eq hX dL_law_372 (tgt := 387) (by decide) hx11 (fun c372 => ?_) (fun c372 => ?_)
                                        · replace hp := hp.1 c372
                                          exact l387 _ _ _ _ _ _ _ _ _ _ _ _ _ _ _ _ _ (by omega) (by omega) hM hqE hx2 hkx5 hkx6 hkx7 hx8 hx9 hkx10 hx11 hx12 hx14 hx16 hp
                                        · replace hp := hp.2 c372
                                          refine xJ_aload hX dL_law_375 rfl ?_
                                          obtain ⟨b377, e377, hkb377, hp⟩ := hp
                                          refine xJ_getR (b := b377) hX dL_law_377 fd_L_151 rfl hkx6 e377 ?_
                                          refine xJ_iload hX dL_law_380 rfl ?_
                                          obtain ⟨h382, hp⟩ := hp
                                          obtain ⟨b382, e382, hkb382, hp⟩ := hp
                                          refine xJ_aaldOb hX dL_law_382 hkb377 h382.1 h382.2 e382 ?_
                                          refine xJ_iconst hX dL_law_383 ?_
                                          refine xJ_iload hX dL_law_384 rfl ?_
                                          obtain ⟨h386, hp⟩ := hp
                                          refine xJ_iastM hX dL_law_386 hkb382 h386.1 h386.2 hM hx16 (fun M386 e386 hM386 => ?_)
                                          replace hp := hp M386 e386
                                          exact l387 _ _ _ _ _ _ _ _ _ _ _ _ _ _ _ _ _ (by omega) (by omega) hM386 hqE hx2 hkx5 hkx6 hkx7 hx8 hx9 hkx10 hx11 hx12 hx14 hx16 hp
                                      refine xJ_if_eq hX dL_law_345 (tgt := 370) (by decide) hx15 (fun c345 => ?_) (fun c345 => ?_)
                                      · replace hp := hp.1 c345
                                        refine xJ_fg 15 ?_
                                        dsimp only [List.set]
                                        exact l370 _ _ _ _ _ _ _ _ _ _ _ _ _ _ _ _ _ (by omega) (by omega) hM hqE hx2 hkx5 hkx6 hkx7 hx8 hx9 hkx10 hy0 hx12 hx14 hx16 hp
                                      · replace hp := hp.2 c345
                                        refine xJ_iload hX dL_law_348 rfl ?_
                                        refine xJ_if_eq hX dL_law_350 (tgt := 366) (by decide) hy0 (fun c350 => ?_) (fun c350 => ?_)
                                        · replace hp := hp.1 c350
                                          refine xJ_ldc (-2000000098) hX dL_law_366 kc_L_42 ?_
                                          refine xJ_istore hX dL_law_368 (Nat.le_of_ble_eq_true rfl) rfl ?_
                                          dsimp only [List.set]
                                          refine xJ_fg 15 ?_
                                          dsimp only [List.set]
                                          exact l370 _ _ _ _ _ _ _ _ _ _ _ _ _ _ _ _ _ (by omega) (by omega) hM hqE hx2 hkx5 hkx6 hkx7 hx8 hx9 hkx10 hy0 ⟨by decide, by decide⟩ hx14 hx16 hp
                                        · replace hp := hp.2 c350
                                          refine xJ_aload hX dL_law_353 rfl ?_
                                          obtain ⟨b355, e355, hkb355, hp⟩ := hp
                                          refine xJ_getR (b := b355) hX dL_law_355 fd_L_151 rfl hkx6 e355 ?_
                                          refine xJ_iload hX dL_law_358 rfl ?_
                                          obtain ⟨h360, hp⟩ := hp
                                          obtain ⟨b360, e360, hkb360, hp⟩ := hp
                                          refine xJ_aaldOb hX dL_law_360 hkb355 h360.1 h360.2 e360 ?_
                                          refine xJ_iconst hX dL_law_361 ?_
                                          obtain ⟨h362, hp⟩ := hp
                                          refine xJ_iald hX dL_law_362 hkb360 h362.1 h362.2 ?_
                                          refine xJ_goto hX dL_law_363 (tgt := 368) (by decide) ?_
                                          refine xJ_istore hX dL_law_368 (Nat.le_of_ble_eq_true rfl) rfl ?_
                                          dsimp only [List.set]
                                          replace hp := hp _ rfl
                                          refine xJ_fg 15 ?_
                                          dsimp only [List.set]
                                          exact l370 _ _ _ _ _ _ _ _ _ _ _ _ _ _ _ _ _ (by omega) (by omega) hM hqE hx2 hkx5 hkx6 hkx7 hx8 hx9 hkx10 hy0 (hM _ _) hx14 hx16 hp
                                    refine xJ_if_eq hX dL_law_326 (tgt := 340) (by decide) hx15 (fun c326 => ?_) (fun c326 => ?_)
                                    · replace hp := hp.1 c326
                                      refine xJ_iconst hX dL_law_340 ?_
                                      exact l341 _ _ _ _ _ _ _ _ _ _ _ _ _ _ _ _ _ _ (by omega) (by omega) hM319 (xke_trans hqE hq319) hx2 (xke_k hq319 hkx5 (by decide)) (xke_k hq319 hkx6 (by decide)) (xke_k hq319 hkx7 (by decide)) hx8 hx9 (xke_k hq319 hkx10 (by decide)) hx12 hx14 hx15 h319 ⟨by decide, by decide⟩ hp
                                    · replace hp := hp.2 c326
                                      refine xJ_iload hX dL_law_329 rfl ?_
                                      refine xJ_bipush hX dL_law_331 rfl ?_
                                      refine xJ_icmp_ge hX dL_law_333 (tgt := 340) (by decide) h319 ⟨by decide, by decide⟩ (fun c333 => ?_) (fun c333 => ?_)
                                      · replace hp := hp.1 c333
                                        refine xJ_iconst hX dL_law_340 ?_
                                        exact l341 _ _ _ _ _ _ _ _ _ _ _ _ _ _ _ _ _ _ (by omega) (by omega) hM319 (xke_trans hqE hq319) hx2 (xke_k hq319 hkx5 (by decide)) (xke_k hq319 hkx6 (by decide)) (xke_k hq319 hkx7 (by decide)) hx8 hx9 (xke_k hq319 hkx10 (by decide)) hx12 hx14 hx15 h319 ⟨by decide, by decide⟩ hp
                                      · replace hp := hp.2 c333
                                        refine xJ_iconst hX dL_law_336 ?_
                                        refine xJ_goto hX dL_law_337 (tgt := 341) (by decide) ?_
                                        exact l341 _ _ _ _ _ _ _ _ _ _ _ _ _ _ _ _ _ _ (by omega) (by omega) hM319 (xke_trans hqE hq319) hx2 (xke_k hq319 hkx5 (by decide)) (xke_k hq319 hkx6 (by decide)) (xke_k hq319 hkx7 (by decide)) hx8 hx9 (xke_k hq319 hkx10 (by decide)) hx12 hx14 hx15 h319 ⟨by decide, by decide⟩ hp
                                  refine xJ_if_ne hX dL_law_309 (tgt := 317) (by decide) h306 (fun c309 => ?_) (fun c309 => ?_)
                                  · replace hp := hp.1 c309
                                    refine xJ_bipush hX dL_law_317 rfl ?_
                                    exact l319 _ _ _ _ _ _ _ _ _ _ _ _ _ _ _ _ _ _ (by omega) (by omega) hM306 (xke_trans (xke_trans hqE hq262) hq306) hx2 (xke_k hq306 (xke_k hq262 hkx5 (by decide)) (by decide)) (xke_k hq306 (xke_k hq262 hkx6 (by decide)) (by decide)) (xke_k hq306 (xke_k hq262 hkx7 (by decide)) (by decide)) hx8 hx9 (xke_k hq306 (xke_k hq262 hkx10 (by decide)) (by decide)) hx12 hx14 hy0 ⟨by decide, by decide⟩ (xke_k hq306 (xke_k hq262 hkx5 (by decide)) (by decide)) hp
                                  · replace hp := hp.2 c309
                                    refine xJ_bipush hX dL_law_312 rfl ?_
                                    refine xJ_goto hX dL_law_314 (tgt := 319) (by decide) ?_
                                    exact l319 _ _ _ _ _ _ _ _ _ _ _ _ _ _ _ _ _ _ (by omega) (by omega) hM306 (xke_trans (xke_trans hqE hq262) hq306) hx2 (xke_k hq306 (xke_k hq262 hkx5 (by decide)) (by decide)) (xke_k hq306 (xke_k hq262 hkx6 (by decide)) (by decide)) (xke_k hq306 (xke_k hq262 hkx7 (by decide)) (by decide)) hx8 hx9 (xke_k hq306 (xke_k hq262 hkx10 (by decide)) (by decide)) hx12 hx14 hy0 ⟨by decide, by decide⟩ (xke_k hq306 (xke_k hq262 hkx5 (by decide)) (by decide)) hp
                                · refine xJ_tIn hX dL_law_265 h262 (by omega) (by omega) (off := 144) (by rw [hc265]; rfl) (tgt := 409) (by decide) ?_
                                  replace hp := hp.2.1 hc265
                                  refine xJ_aload hX dL_law_409 rfl ?_
                                  refine xJ_aload hX dL_law_411 rfl ?_
                                  refine xJ_bipush hX dL_law_413 rfl ?_
                                  obtain ⟨k415, hn415, hp⟩ := hp
                                  refine xJ_callV (As := [_]) hX hB dL_law_415 lk_L_128 im_X13_below se_X13_below rfl (by decide) (xke_k hq262 hkx5 (by decide)) (c_X13_below hM262 (xke_k hq262 hkx5 (by decide)) ⟨by decide, by decide⟩ hp) (by decide) rfl rfl rfl (Nat.le_of_ble_eq_true rfl) (by omega) (by omega) (fun v t415 M415 hv => ?_) (fun _ _ _ q => q.elim)
                                  clear hp
                                  obtain ⟨r415, rfl, h415, hM415, hq415, hp⟩ := hv
                                  dsimp only [Option.toList, List.cons_append, List.nil_append]
                                  have l429 : ∀ (c s n : Nat) (x2 : Int) (x3 : Nat) (x5 : Nat) (x6 : Nat) (x7 : Nat) (x8 : Int) (x9 : Int) (x10 : Nat) (x12 : Int) (x14 : Int) (x15 : Int) (y0 : Int) (y1 : Nat) (t : xTh) (M : xMe) (hc : c + n ≤ nE) (hs : s + 64 * n ≤ 64 * nE) (hM : xMR M) (hqE : xke tE t) (hx2 : xR x2) (hkx5 : xk t x5 = 19) (hkx6 : xk t x6 = 20) (hkx7 : xk t x7 = 18) (hx8 : xR x8) (hx9 : xR x9) (hkx10 : xk t x10 = 20) (hx12 : xR x12) (hx14 : xR x14) (hx15 : xR x15) (hy0 : xR y0) (hky1 : xk t y1 = 19) (hp : p_L_law_429 F G N xs Q (p_L_law_4 F G N xs Q k4) (p_L_law_181 F G N xs Q (p_L_law_4 F G N xs Q k4) (p_L_law_1109 F G N xs Q (p_L_law_4 F G N xs Q k4)) k181) (p_L_law_1043 F G N xs Q (p_L_law_4 F G N xs Q k4) (p_L_law_181 F G N xs Q (p_L_law_4 F G N xs Q k4) (p_L_law_1109 F G N xs Q (p_L_law_4 F G N xs Q k4)) k181) (p_L_law_1109 F G N xs Q (p_L_law_4 F G N xs Q k4))) (p_L_law_1109 F G N xs Q (p_L_law_4 F G N xs Q k4)) n x2 x3 x5 x6 x7 x8 x9 x10 x12 x14 x15 y0 y1 t M), xJ X c s t M 429 [vr x0, vU, vi x2, vr x3, vU, vr x5, vr x6, vr x7, vi x8, vi x9, vr x10, vU, vi x12, vU, vi x14, vi x15, vU, vU, vU, vU, vU, vU, vU, vU, vU, vU] [vi y0, vr y1] := by
                                    intro c s n x2 x3 x5 x6 x7 x8 x9 x10 x12 x14 x15 y0 y1 t M hc hs hM hqE hx2 hkx5 hkx6 hkx7 hx8 hx9 hkx10 hx12 hx14 hx15 hy0 hky1 hp
                                    unfold p_L_law_429 at hp
                                    obtain ⟨k429, hn429, hp⟩ := hp
                                    refine xJ_callV (As := [_]) hX hB dL_law_429 lk_L_128 im_X13_below se_X13_below rfl (by decide) hky1 (c_X13_below hM hky1 hy0 hp) (by decide) rfl rfl rfl (Nat.le_of_ble_eq_true rfl) (by omega) (by omega) (fun v t429 M429 hv => ?_) (fun _ _ _ q => q.elim)
                                    clear hp
                                    obtain ⟨r429, rfl, h429, hM429, hq429, hp⟩ := hv
                                    dsimp only [Option.toList, List.cons_append, List.nil_append]
                                    refine xJ_istore hX dL_law_432 (Nat.le_of_ble_eq_true rfl) rfl ?_
                                    dsimp only [List.set]
                                    refine xJ_iload hX dL_law_434 rfl ?_
                                    have l452 : ∀ (c s n : Nat) (x2 : Int) (x3 : Nat) (x5 : Nat) (x6 : Nat) (x7 : Nat) (x8 : Int) (x9 : Int) (x10 : Nat) (x12 : Int) (x14 : Int) (x15 : Int) (x17 : Int) (y0 : Int) (t : xTh) (M : xMe) (hc : c + n ≤ nE) (hs : s + 64 * n ≤ 64 * nE) (hM : xMR M) (hqE : xke tE t) (hx2 : xR x2) (hkx5 : xk t x5 = 19) (hkx6 : xk t x6 = 20) (hkx7 : xk t x7 = 18) (hx8 : xR x8) (hx9 : xR x9) (hkx10 : xk t x10 = 20) (hx12 : xR x12) (hx14 : xR x14) (hx15 : xR x15) (hx17 : xR x17) (hy0 : xR y0) (hp : p_L_law_452 F G N xs Q (p_L_law_4 F G N xs Q k4) (p_L_law_181 F G N xs Q (p_L_law_4 F G N xs Q k4) (p_L_law_1109 F G N xs Q (p_L_law_4 F G N xs Q k4)) k181) (p_L_law_1043 F G N xs Q (p_L_law_4 F G N xs Q k4) (p_L_law_181 F G N xs Q (p_L_law_4 F G N xs Q k4) (p_L_law_1109 F G N xs Q (p_L_law_4 F G N xs Q k4)) k181) (p_L_law_1109 F G N xs Q (p_L_law_4 F G N xs Q k4))) (p_L_law_1109 F G N xs Q (p_L_law_4 F G N xs Q k4)) n x2 x3 x5 x6 x7 x8 x9 x10 x12 x14 x15 x17 y0 t M), xJ X c s t M 452 [vr x0, vU, vi x2, vr x3, vU, vr x5, vr x6, vr x7, vi x8, vi x9, vr x10, vU, vi x12, vU, vi x14, vi x15, vU, vi x17, vU, vU, vU, vU, vU, vU, vU, vU] [vi y0] := by
                                      intro c s n x2 x3 x5 x6 x7 x8 x9 x10 x12 x14 x15 x17 y0 t M hc hs hM hqE hx2 hkx5 hkx6 hkx7 hx8 hx9 hkx10 hx12 hx14 hx15 hx17 hy0 hp
                                      unfold p_L_law_452 at hp
                                      refine xJ_istore hX dL_law_452 (Nat.le_of_ble_eq_true rfl) rfl ?_
                                      dsimp only [List.set]
                                      refine xJ_iload hX dL_law_454 rfl ?_
                                      have l480 : ∀ (c s n : Nat) (x2 : Int) (x3 : Nat) (x5 : Nat) (x6 : Nat) (x7 : Nat) (x8 : Int) (x9 : Int) (x10 : Nat) (x12 : Int) (x14 : Int) (x15 : Int) (x17 : Int) (x18 : Int) (y0 : Int) (t : xTh) (M : xMe) (hc : c + n ≤ nE) (hs : s + 64 * n ≤ 64 * nE) (hM : xMR M) (hqE : xke tE t) (hx2 : xR x2) (hkx5 : xk t x5 = 19) (hkx6 : xk t x6 = 20) (hkx7 : xk t x7 = 18) (hx8 : xR x8) (hx9 : xR x9) (hkx10 : xk t x10 = 20) (hx12 : xR x12) (hx14 : xR x14) (hx15 : xR x15) (hx17 : xR x17) (hx18 : xR x18) (hy0 : xR y0) (hp : p_L_law_480 F G N xs Q (p_L_law_4 F G N xs Q k4) (p_L_law_181 F G N xs Q (p_L_law_4 F G N xs Q k4) (p_L_law_1109 F G N xs Q (p_L_law_4 F G N xs Q k4)) k181) (p_L_law_1043 F G N xs Q (p_L_law_4 F G N xs Q k4) (p_L_law_181 F G N xs Q (p_L_law_4 F G N xs Q k4) (p_L_law_1109 F G N xs Q (p_L_law_4 F G N xs Q k4)) k181) (p_L_law_1109 F G N xs Q (p_L_law_4 F G N xs Q k4))) (p_L_law_1109 F G N xs Q (p_L_law_4 F G N xs Q k4)) n x2 x3 x5 x6 x7 x8 x9 x10 x12 x14 x15 x17 x18 y0 t M), xJ X c s t M 480 [vr x0, vU, vi x2, vr x3, vU, vr x5, vr x6, vr x7, vi x8, vi x9, vr x10, vU, vi x12, vU, vi x14, vi x15, vU, vi x17, vi x18, vU, vU, vU, vU, vU, vU, vU] [vi y0] := by
                                        intro c s n x2 x3 x5 x6 x7 x8 x9 x10 x12 x14 x15 x17 x18 y0 t M hc hs hM hqE hx2 hkx5 hkx6 hkx7 hx8 hx9 hkx10 hx12 hx14 hx15 hx17 hx18 hy0 hp
                                        unfold p_L_law_480 at hp
                                        refine xJ_istore hX dL_law_480 (Nat.le_of_ble_eq_true rfl) rfl ?_
                                        dsimp only [List.set]
                                        refine xJ_iload hX dL_law_482 rfl ?_
                                        have l515 : ∀ (c s n : Nat) (x2 : Int) (x3 : Nat) (x5 : Nat) (x6 : Nat) (x7 : Nat) (x8 : Int) (x9 : Int) (x10 : Nat) (x11 : Int) (x12 : Int) (x14 : Int) (x17 : Int) (t : xTh) (M : xMe) (hc : c + n ≤ nE) (hs : s + 64 * n ≤ 64 * nE) (hM : xMR M) (hqE : xke tE t) (hx2 : xR x2) (hkx5 : xk t x5 = 19) (hkx6 : xk t x6 = 20) (hkx7 : xk t x7 = 18) (hx8 : xR x8) (hx9 : xR x9) (hkx10 : xk t x10 = 20) (hx11 : xR x11) (hx12 : xR x12) (hx14 : xR x14) (hx17 : xR x17) (hp : p_L_law_515 F G N xs Q (p_L_law_4 F G N xs Q k4) (p_L_law_181 F G N xs Q (p_L_law_4 F G N xs Q k4) (p_L_law_1109 F G N xs Q (p_L_law_4 F G N xs Q k4)) k181) (p_L_law_1043 F G N xs Q (p_L_law_4 F G N xs Q k4) (p_L_law_181 F G N xs Q (p_L_law_4 F G N xs Q k4) (p_L_law_1109 F G N xs Q (p_L_law_4 F G N xs Q k4)) k181) (p_L_law_1109 F G N xs Q (p_L_law_4 F G N xs Q k4))) (p_L_law_1109 F G N xs Q (p_L_law_4 F G N xs Q k4)) n x2 x3 x5 x6 x7 x8 x9 x10 x11 x12 x14 x17 t M), xJ X c s t M 515 [vr x0, vU, vi x2, vr x3, vU, vr x5, vr x6, vr x7, vi x8, vi x9, vr x10, vi x11, vi x12, vU, vi x14, vU, vU, vi x17, vU, vU, vU, vU, vU, vU, vU, vU] [] := by
                                          intro c s n x2 x3 x5 x6 x7 x8 x9 x10 x11 x12 x14 x17 t M hc hs hM hqE hx2 hkx5 hkx6 hkx7 hx8 hx9 hkx10 hx11 hx12 hx14 hx17 hp
                                          unfold p_L_law_515 at hp
                                          refine xJ_iload hX dL_law_515 rfl ?_
                                          have l577 : ∀ (c s n : Nat) (x2 : Int) (x3 : Nat) (x5 : Nat) (x6 : Nat) (x7 : Nat) (x8 : Int) (x9 : Int) (x10 : Nat) (x11 : Int) (x12 : Int) (x14 : Int) (x17 : Int) (t : xTh) (M : xMe) (hc : c + n ≤ nE) (hs : s + 64 * n ≤ 64 * nE) (hM : xMR M) (hqE : xke tE t) (hx2 : xR x2) (hkx5 : xk t x5 = 19) (hkx6 : xk t x6 = 20) (hkx7 : xk t x7 = 18) (hx8 : xR x8) (hx9 : xR x9) (hkx10 : xk t x10 = 20) (hx11 : xR x11) (hx12 : xR x12) (hx14 : xR x14) (hx17 : xR x17) (hp : p_L_law_577 F G N xs Q (p_L_law_4 F G N xs Q k4) (p_L_law_181 F G N xs Q (p_L_law_4 F G N xs Q k4) (p_L_law_1109 F G N xs Q (p_L_law_4 F G N xs Q k4)) k181) (p_L_law_1043 F G N xs Q (p_L_law_4 F G N xs Q k4) (p_L_law_181 F G N xs Q (p_L_law_4 F G N xs Q k4) (p_L_law_1109 F G N xs Q (p_L_law_4 F G N xs Q k4)) k181) (p_L_law_1109 F G N xs Q (p_L_law_4 F G N xs Q k4))) (p_L_law_1109 F G N xs Q (p_L_law_4 F G N xs Q k4)) n x2 x3 x5 x6 x7 x8 x9 x10 x11 x12 x14 x17 t M), xJ X c s t M 577 [vr x0, vU, vi x2, vr x3, vU, vr x5, vr x6, vr x7, vi x8, vi x9, vr x10, vi x11, vi x12, vU, vi x14, vU, vU, vi x17, vU, vU, vU, vU, vU, vU, vU, vU] [] := by
                                            intro c s n x2 x3 x5 x6 x7 x8 x9 x10 x11 x12 x14 x17 t M hc hs hM hqE hx2 hkx5 hkx6 hkx7 hx8 hx9 hkx10 hx11 hx12 hx14 hx17 hp
                                            unfold p_L_law_577 at hp
                                            refine xJ_aload_n hX dL_law_577 rfl ?_
                                            refine xJ_iload hX dL_law_578 rfl ?_
                                            refine xJ_iload hX dL_law_580 rfl ?_
                                            obtain ⟨hw582, hp⟩ := hp
                                            have hn582 := hw582.1
                                            refine xJ_callSW (As := [_, _, _]) hX hB dL_law_582 lkw_L_send sm_L_send (c_L_send hw582.2.1 hw582.2.2 hM hx14 hx17 hp) (by decide) rfl rfl rfl (Nat.le_of_ble_eq_true rfl) (by omega) (by omega) (fun v t582 M582 hv => ?_)
                                            clear hp
                                            obtain ⟨r582, rfl, h582, hM582, hqw582, hp⟩ := hv
                                            have hq582 := xke_qw hqw582
                                            refine xJ_live fun hlv582 => ?_
                                            replace hp := hp hqw582 hlv582
                                            dsimp only [Option.toList, List.cons_append, List.nil_append]
                                            refine xJ_iload hX dL_law_585 rfl ?_
                                            refine xJ_icmp_ne hX dL_law_587 (tgt := 594) (by decide) h582 hx12 (fun c587 => ?_) (fun c587 => ?_)
                                            · replace hp := hp.1 c587
                                              refine xJ_iconst hX dL_law_594 ?_
                                              refine xJ_istore_n hX dL_law_595 (Nat.le_of_ble_eq_true rfl) rfl ?_
                                              dsimp only [List.set]
                                              refine xJ_goto hX dL_law_596 (tgt := 1043) (by decide) ?_
                                              refine xJ_fg 12 ?_
                                              dsimp only [List.set]
                                              refine xJ_fg 14 ?_
                                              dsimp only [List.set]
                                              refine xJ_fg 17 ?_
                                              dsimp only [List.set]
                                              exact l1043 _ _ _ _ _ _ _ _ _ _ _ _ _ _ _ (by omega) (by omega) hM582 (xke_trans hqE hq582) ⟨by decide, by decide⟩ hx2 (xke_k hq582 hkx5 (by decide)) (xke_k hq582 hkx6 (by decide)) (xke_k hq582 hkx7 (by decide)) hx8 hx9 (xke_k hq582 hkx10 (by decide)) hx11 hp
                                            · replace hp := hp.2 c587
                                              refine xJ_iconst hX dL_law_590 ?_
                                              refine xJ_goto hX dL_law_591 (tgt := 595) (by decide) ?_
                                              refine xJ_istore_n hX dL_law_595 (Nat.le_of_ble_eq_true rfl) rfl ?_
                                              dsimp only [List.set]
                                              refine xJ_goto hX dL_law_596 (tgt := 1043) (by decide) ?_
                                              refine xJ_fg 12 ?_
                                              dsimp only [List.set]
                                              refine xJ_fg 14 ?_
                                              dsimp only [List.set]
                                              refine xJ_fg 17 ?_
                                              dsimp only [List.set]
                                              exact l1043 _ _ _ _ _ _ _ _ _ _ _ _ _ _ _ (by omega) (by omega) hM582 (xke_trans hqE hq582) ⟨by decide, by decide⟩ hx2 (xke_k hq582 hkx5 (by decide)) (xke_k hq582 hkx6 (by decide)) (xke_k hq582 hkx7 (by decide)) hx8 hx9 (xke_k hq582 hkx10 (by decide)) hx11 hp
                                          refine xJ_if_eq hX dL_law_517 (tgt := 577) (by decide) hx11 (fun c517 => ?_) (fun c517 => ?_)
                                          · replace hp := hp.1 c517
                                            exact l577 _ _ _ _ _ _ _ _ _ _ _ _ _ _ _ _ _ (by omega) (by omega) hM hqE hx2 hkx5 hkx6 hkx7 hx8 hx9 hkx10 hx11 hx12 hx14 hx17 hp
                                          · replace hp := hp.2 c517
                                            refine xJ_aload hX dL_law_520 rfl ?_
                                            refine xJ_aload hX dL_law_522 rfl ?_
                                            obtain ⟨b524, e524, hkb524, hp⟩ := hp
                                            refine xJ_getR (b := b524) hX dL_law_524 fd_L_157 rfl hkx6 e524 ?_
                                            refine xJ_bipush hX dL_law_527 rfl ?_
                                            obtain ⟨hn529, hp⟩ := hp
                                            refine xJ_newIE hX hB hM dL_law_529 ac_int (by decide) (by decide) (by omega) (by omega) (fun a529 t529 M529 ea529 et529 e529 hM529 hq529 hka529 => ?_)
                                            replace hp := hp a529 t529 M529 ea529 et529 e529
                                            refine xJ_dup hX dL_law_531 rfl ?_
                                            refine xJ_iconst hX dL_law_532 ?_
                                            refine xJ_iload hX dL_law_533 rfl ?_
                                            obtain ⟨h535, hp⟩ := hp
                                            refine xJ_iastM hX dL_law_535 hka529 h535.1 h535.2 hM529 hx14 (fun M535 e535 hM535 => ?_)
                                            replace hp := hp M535 e535
                                            refine xJ_dup hX dL_law_536 rfl ?_
                                            refine xJ_iconst hX dL_law_537 ?_
                                            refine xJ_aload hX dL_law_538 rfl ?_
                                            refine xJ_getI hX dL_law_540 fd_L_258 rfl (xke_k hq529 hkx6 (by decide)) ?_
                                            obtain ⟨h543, hp⟩ := hp
                                            refine xJ_iastM hX dL_law_543 hka529 h543.1 h543.2 hM535 (hM535 _ _) (fun M543 e543 hM543 => ?_)
                                            replace hp := hp M543 e543
                                            refine xJ_dup hX dL_law_544 rfl ?_
                                            refine xJ_iconst hX dL_law_545 ?_
                                            refine xJ_iload hX dL_law_546 rfl ?_
                                            obtain ⟨h548, hp⟩ := hp
                                            refine xJ_iastM hX dL_law_548 hka529 h548.1 h548.2 hM543 hx17 (fun M548 e548 hM548 => ?_)
                                            replace hp := hp M548 e548
                                            refine xJ_dup hX dL_law_549 rfl ?_
                                            refine xJ_iconst hX dL_law_550 ?_
                                            refine xJ_iconst hX dL_law_551 ?_
                                            obtain ⟨h552, hp⟩ := hp
                                            refine xJ_iastM hX dL_law_552 hka529 h552.1 h552.2 hM548 ⟨by decide, by decide⟩ (fun M552 e552 hM552 => ?_)
                                            replace hp := hp M552 e552
                                            refine xJ_dup hX dL_law_553 rfl ?_
                                            refine xJ_iconst hX dL_law_554 ?_
                                            refine xJ_iconst hX dL_law_555 ?_
                                            obtain ⟨h556, hp⟩ := hp
                                            refine xJ_iastM hX dL_law_556 hka529 h556.1 h556.2 hM552 ⟨by decide, by decide⟩ (fun M556 e556 hM556 => ?_)
                                            replace hp := hp M556 e556
                                            refine xJ_dup hX dL_law_557 rfl ?_
                                            refine xJ_iconst hX dL_law_558 ?_
                                            refine xJ_iconst hX dL_law_559 ?_
                                            obtain ⟨h560, hp⟩ := hp
                                            refine xJ_iastM hX dL_law_560 hka529 h560.1 h560.2 hM556 ⟨by decide, by decide⟩ (fun M560 e560 hM560 => ?_)
                                            replace hp := hp M560 e560
                                            refine xJ_dup hX dL_law_561 rfl ?_
                                            refine xJ_bipush hX dL_law_562 rfl ?_
                                            refine xJ_iconst hX dL_law_564 ?_
                                            obtain ⟨h565, hp⟩ := hp
                                            refine xJ_iastM hX dL_law_565 hka529 h565.1 h565.2 hM560 ⟨by decide, by decide⟩ (fun M565 e565 hM565 => ?_)
                                            replace hp := hp M565 e565
                                            refine xJ_dup hX dL_law_566 rfl ?_
                                            refine xJ_bipush hX dL_law_567 rfl ?_
                                            refine xJ_iconst hX dL_law_569 ?_
                                            obtain ⟨h570, hp⟩ := hp
                                            refine xJ_iastM hX dL_law_570 hka529 h570.1 h570.2 hM565 ⟨by decide, by decide⟩ (fun M570 e570 hM570 => ?_)
                                            replace hp := hp M570 e570
                                            obtain ⟨k571, hn571, hp⟩ := hp
                                            refine xJ_callS (As := [_, _]) hX hB dL_law_571 lk_L_137 sm_L_with (c_L_with hM570 (xke_k hq529 hkb524 (by decide)) hka529 hp) (by decide) rfl rfl rfl (Nat.le_of_ble_eq_true rfl) (by omega) (by omega) (fun v t571 M571 hv => ?_) (fun _ _ _ q => q.elim)
                                            clear hp
                                            obtain ⟨r571, rfl, hk571, hM571, hq571, hp⟩ := hv
                                            dsimp only [Option.toList, List.cons_append, List.nil_append]
                                            refine xJ_putRE (x := (some r571)) hX dL_law_574 fd_L_157 ft_X14 rfl rfl rfl rfl (xke_k hq571 (xke_k hq529 hkx6 (by decide)) (by decide)) (fun t574 et574 hq574 => ?_)
                                            replace hp := hp t574 et574
                                            exact l577 _ _ _ _ _ _ _ _ _ _ _ _ _ _ _ _ _ (by omega) (by omega) hM571 (xke_trans (xke_trans (xke_trans hqE hq529) hq571) hq574) hx2 (xke_k hq574 (xke_k hq571 (xke_k hq529 hkx5 (by decide)) (by decide)) (by decide)) (xke_k hq574 (xke_k hq571 (xke_k hq529 hkx6 (by decide)) (by decide)) (by decide)) (xke_k hq574 (xke_k hq571 (xke_k hq529 hkx7 (by decide)) (by decide)) (by decide)) hx8 hx9 (xke_k hq574 (xke_k hq571 (xke_k hq529 hkx10 (by decide)) (by decide)) (by decide)) hx11 hx12 hx14 hx17 hp
                                        refine xJ_if_eq hX dL_law_484 (tgt := 515) (by decide) hx15 (fun c484 => ?_) (fun c484 => ?_)
                                        · replace hp := hp.1 c484
                                          refine xJ_fg 15 ?_
                                          dsimp only [List.set]
                                          refine xJ_fg 18 ?_
                                          dsimp only [List.set]
                                          exact l515 _ _ _ _ _ _ _ _ _ _ _ _ _ _ _ _ _ (by omega) (by omega) hM hqE hx2 hkx5 hkx6 hkx7 hx8 hx9 hkx10 hy0 hx12 hx14 hx17 hp
                                        · replace hp := hp.2 c484
                                          refine xJ_iload hX dL_law_487 rfl ?_
                                          refine xJ_if_ne hX dL_law_489 (tgt := 497) (by decide) hx18 (fun c489 => ?_) (fun c489 => ?_)
                                          · replace hp := hp.1 c489
                                            refine xJ_iload hX dL_law_497 rfl ?_
                                            refine xJ_if_eq hX dL_law_499 (tgt := 511) (by decide) hy0 (fun c499 => ?_) (fun c499 => ?_)
                                            · replace hp := hp.1 c499
                                              refine xJ_ldc (-2000000099) hX dL_law_511 kc_L_101 ?_
                                              refine xJ_istore hX dL_law_513 (Nat.le_of_ble_eq_true rfl) rfl ?_
                                              dsimp only [List.set]
                                              refine xJ_fg 15 ?_
                                              dsimp only [List.set]
                                              refine xJ_fg 18 ?_
                                              dsimp only [List.set]
                                              exact l515 _ _ _ _ _ _ _ _ _ _ _ _ _ _ _ _ _ (by omega) (by omega) hM hqE hx2 hkx5 hkx6 hkx7 hx8 hx9 hkx10 hy0 ⟨by decide, by decide⟩ hx14 hx17 hp
                                            · replace hp := hp.2 c499
                                              refine xJ_aload hX dL_law_502 rfl ?_
                                              obtain ⟨b504, e504, hkb504, hp⟩ := hp
                                              refine xJ_getR (b := b504) hX dL_law_504 fd_L_157 rfl hkx6 e504 ?_
                                              refine xJ_alen hX dL_law_507 (by rw [hkb504]; decide) (by rw [hkb504]; decide) ?_
                                              obtain ⟨h507, hp⟩ := hp
                                              refine xJ_goto hX dL_law_508 (tgt := 513) (by decide) ?_
                                              refine xJ_istore hX dL_law_513 (Nat.le_of_ble_eq_true rfl) rfl ?_
                                              dsimp only [List.set]
                                              replace hp := hp _ rfl
                                              refine xJ_fg 15 ?_
                                              dsimp only [List.set]
                                              refine xJ_fg 18 ?_
                                              dsimp only [List.set]
                                              exact l515 _ _ _ _ _ _ _ _ _ _ _ _ _ _ _ _ _ (by omega) (by omega) hM hqE hx2 hkx5 hkx6 hkx7 hx8 hx9 hkx10 hy0 h507 hx14 hx17 hp
                                          · replace hp := hp.2 c489
                                            refine xJ_ldc (-2000000098) hX dL_law_492 kc_L_42 ?_
                                            refine xJ_goto hX dL_law_494 (tgt := 513) (by decide) ?_
                                            refine xJ_istore hX dL_law_513 (Nat.le_of_ble_eq_true rfl) rfl ?_
                                            dsimp only [List.set]
                                            refine xJ_fg 15 ?_
                                            dsimp only [List.set]
                                            refine xJ_fg 18 ?_
                                            dsimp only [List.set]
                                            exact l515 _ _ _ _ _ _ _ _ _ _ _ _ _ _ _ _ _ (by omega) (by omega) hM hqE hx2 hkx5 hkx6 hkx7 hx8 hx9 hkx10 hy0 ⟨by decide, by decide⟩ hx14 hx17 hp
                                      refine xJ_if_eq hX dL_law_456 (tgt := 479) (by decide) hx15 (fun c456 => ?_) (fun c456 => ?_)
                                      · replace hp := hp.1 c456
                                        refine xJ_iconst hX dL_law_479 ?_
                                        exact l480 _ _ _ _ _ _ _ _ _ _ _ _ _ _ _ _ _ _ _ (by omega) (by omega) hM hqE hx2 hkx5 hkx6 hkx7 hx8 hx9 hkx10 hx12 hx14 hx15 hx17 hy0 ⟨by decide, by decide⟩ hp
                                      · replace hp := hp.2 c456
                                        refine xJ_iload hX dL_law_459 rfl ?_
                                        refine xJ_if_eq hX dL_law_461 (tgt := 479) (by decide) hy0 (fun c461 => ?_) (fun c461 => ?_)
                                        · replace hp := hp.1 c461
                                          refine xJ_iconst hX dL_law_479 ?_
                                          exact l480 _ _ _ _ _ _ _ _ _ _ _ _ _ _ _ _ _ _ _ (by omega) (by omega) hM hqE hx2 hkx5 hkx6 hkx7 hx8 hx9 hkx10 hx12 hx14 hx15 hx17 hy0 ⟨by decide, by decide⟩ hp
                                        · replace hp := hp.2 c461
                                          refine xJ_aload hX dL_law_464 rfl ?_
                                          obtain ⟨b466, e466, hkb466, hp⟩ := hp
                                          refine xJ_getR (b := b466) hX dL_law_466 fd_L_157 rfl hkx6 e466 ?_
                                          refine xJ_alen hX dL_law_469 (by rw [hkb466]; decide) (by rw [hkb466]; decide) ?_
                                          obtain ⟨h469, hp⟩ := hp
                                          refine xJ_bipush hX dL_law_470 rfl ?_
                                          refine xJ_icmp_ge hX dL_law_472 (tgt := 479) (by decide) h469 ⟨by decide, by decide⟩ (fun c472 => ?_) (fun c472 => ?_)
                                          · replace hp := hp.1 c472
                                            refine xJ_iconst hX dL_law_479 ?_
                                            exact l480 _ _ _ _ _ _ _ _ _ _ _ _ _ _ _ _ _ _ _ (by omega) (by omega) hM hqE hx2 hkx5 hkx6 hkx7 hx8 hx9 hkx10 hx12 hx14 hx15 hx17 hy0 ⟨by decide, by decide⟩ hp
                                          · replace hp := hp.2 c472
                                            refine xJ_iconst hX dL_law_475 ?_
                                            refine xJ_goto hX dL_law_476 (tgt := 480) (by decide) ?_
                                            exact l480 _ _ _ _ _ _ _ _ _ _ _ _ _ _ _ _ _ _ _ (by omega) (by omega) hM hqE hx2 hkx5 hkx6 hkx7 hx8 hx9 hkx10 hx12 hx14 hx15 hx17 hy0 ⟨by decide, by decide⟩ hp
                                    refine xJ_if_le hX dL_law_436 (tgt := 451) (by decide) h429 (fun c436 => ?_) (fun c436 => ?_)
                                    · replace hp := hp.1 c436
                                      refine xJ_iconst hX dL_law_451 ?_
                                      exact l452 _ _ _ _ _ _ _ _ _ _ _ _ _ _ _ _ _ _ (by omega) (by omega) hM429 (xke_trans hqE hq429) hx2 (xke_k hq429 hkx5 (by decide)) (xke_k hq429 hkx6 (by decide)) (xke_k hq429 hkx7 (by decide)) hx8 hx9 (xke_k hq429 hkx10 (by decide)) hx12 hx14 hx15 h429 ⟨by decide, by decide⟩ hp
                                    · replace hp := hp.2 c436
                                      refine xJ_iload hX dL_law_439 rfl ?_
                                      refine xJ_sipush hX dL_law_441 rfl ?_
                                      refine xJ_icmp_ge hX dL_law_444 (tgt := 451) (by decide) h429 ⟨by decide, by decide⟩ (fun c444 => ?_) (fun c444 => ?_)
                                      · replace hp := hp.1 c444
                                        refine xJ_iconst hX dL_law_451 ?_
                                        exact l452 _ _ _ _ _ _ _ _ _ _ _ _ _ _ _ _ _ _ (by omega) (by omega) hM429 (xke_trans hqE hq429) hx2 (xke_k hq429 hkx5 (by decide)) (xke_k hq429 hkx6 (by decide)) (xke_k hq429 hkx7 (by decide)) hx8 hx9 (xke_k hq429 hkx10 (by decide)) hx12 hx14 hx15 h429 ⟨by decide, by decide⟩ hp
                                      · replace hp := hp.2 c444
                                        refine xJ_iconst hX dL_law_447 ?_
                                        refine xJ_goto hX dL_law_448 (tgt := 452) (by decide) ?_
                                        exact l452 _ _ _ _ _ _ _ _ _ _ _ _ _ _ _ _ _ _ (by omega) (by omega) hM429 (xke_trans hqE hq429) hx2 (xke_k hq429 hkx5 (by decide)) (xke_k hq429 hkx6 (by decide)) (xke_k hq429 hkx7 (by decide)) hx8 hx9 (xke_k hq429 hkx10 (by decide)) hx12 hx14 hx15 h429 ⟨by decide, by decide⟩ hp
                                  refine xJ_if_ne hX dL_law_418 (tgt := 427) (by decide) h415 (fun c418 => ?_) (fun c418 => ?_)
                                  · replace hp := hp.1 c418
                                    refine xJ_bipush hX dL_law_427 rfl ?_
                                    exact l429 _ _ _ _ _ _ _ _ _ _ _ _ _ _ _ _ _ _ (by omega) (by omega) hM415 (xke_trans (xke_trans hqE hq262) hq415) hx2 (xke_k hq415 (xke_k hq262 hkx5 (by decide)) (by decide)) (xke_k hq415 (xke_k hq262 hkx6 (by decide)) (by decide)) (xke_k hq415 (xke_k hq262 hkx7 (by decide)) (by decide)) hx8 hx9 (xke_k hq415 (xke_k hq262 hkx10 (by decide)) (by decide)) hx12 hx14 hy0 ⟨by decide, by decide⟩ (xke_k hq415 (xke_k hq262 hkx5 (by decide)) (by decide)) hp
                                  · replace hp := hp.2 c418
                                    refine xJ_sipush hX dL_law_421 rfl ?_
                                    refine xJ_goto hX dL_law_424 (tgt := 429) (by decide) ?_
                                    exact l429 _ _ _ _ _ _ _ _ _ _ _ _ _ _ _ _ _ _ (by omega) (by omega) hM415 (xke_trans (xke_trans hqE hq262) hq415) hx2 (xke_k hq415 (xke_k hq262 hkx5 (by decide)) (by decide)) (xke_k hq415 (xke_k hq262 hkx6 (by decide)) (by decide)) (xke_k hq415 (xke_k hq262 hkx7 (by decide)) (by decide)) hx8 hx9 (xke_k hq415 (xke_k hq262 hkx10 (by decide)) (by decide)) hx12 hx14 hy0 ⟨by decide, by decide⟩ (xke_k hq415 (xke_k hq262 hkx5 (by decide)) (by decide)) hp
                                · refine xJ_tIn hX dL_law_265 h262 (by omega) (by omega) (off := 144) (by rw [hc265]; rfl) (tgt := 409) (by decide) ?_
                                  replace hp := hp.2.2.1 hc265
                                  refine xJ_aload hX dL_law_409 rfl ?_
                                  refine xJ_aload hX dL_law_411 rfl ?_
                                  refine xJ_bipush hX dL_law_413 rfl ?_
                                  obtain ⟨k415, hn415, hp⟩ := hp
                                  refine xJ_callV (As := [_]) hX hB dL_law_415 lk_L_128 im_X13_below se_X13_below rfl (by decide) (xke_k hq262 hkx5 (by decide)) (c_X13_below hM262 (xke_k hq262 hkx5 (by decide)) ⟨by decide, by decide⟩ hp) (by decide) rfl rfl rfl (Nat.le_of_ble_eq_true rfl) (by omega) (by omega) (fun v t415 M415 hv => ?_) (fun _ _ _ q => q.elim)
                                  clear hp
                                  obtain ⟨r415, rfl, h415, hM415, hq415, hp⟩ := hv
                                  dsimp only [Option.toList, List.cons_append, List.nil_append]
                                  have l429 : ∀ (c s n : Nat) (x2 : Int) (x3 : Nat) (x5 : Nat) (x6 : Nat) (x7 : Nat) (x8 : Int) (x9 : Int) (x10 : Nat) (x12 : Int) (x14 : Int) (x15 : Int) (y0 : Int) (y1 : Nat) (t : xTh) (M : xMe) (hc : c + n ≤ nE) (hs : s + 64 * n ≤ 64 * nE) (hM : xMR M) (hqE : xke tE t) (hx2 : xR x2) (hkx5 : xk t x5 = 19) (hkx6 : xk t x6 = 20) (hkx7 : xk t x7 = 18) (hx8 : xR x8) (hx9 : xR x9) (hkx10 : xk t x10 = 20) (hx12 : xR x12) (hx14 : xR x14) (hx15 : xR x15) (hy0 : xR y0) (hky1 : xk t y1 = 19) (hp : p_L_law_429 F G N xs Q (p_L_law_4 F G N xs Q k4) (p_L_law_181 F G N xs Q (p_L_law_4 F G N xs Q k4) (p_L_law_1109 F G N xs Q (p_L_law_4 F G N xs Q k4)) k181) (p_L_law_1043 F G N xs Q (p_L_law_4 F G N xs Q k4) (p_L_law_181 F G N xs Q (p_L_law_4 F G N xs Q k4) (p_L_law_1109 F G N xs Q (p_L_law_4 F G N xs Q k4)) k181) (p_L_law_1109 F G N xs Q (p_L_law_4 F G N xs Q k4))) (p_L_law_1109 F G N xs Q (p_L_law_4 F G N xs Q k4)) n x2 x3 x5 x6 x7 x8 x9 x10 x12 x14 x15 y0 y1 t M), xJ X c s t M 429 [vr x0, vU, vi x2, vr x3, vU, vr x5, vr x6, vr x7, vi x8, vi x9, vr x10, vU, vi x12, vU, vi x14, vi x15, vU, vU, vU, vU, vU, vU, vU, vU, vU, vU] [vi y0, vr y1] := by
                                    intro c s n x2 x3 x5 x6 x7 x8 x9 x10 x12 x14 x15 y0 y1 t M hc hs hM hqE hx2 hkx5 hkx6 hkx7 hx8 hx9 hkx10 hx12 hx14 hx15 hy0 hky1 hp
                                    unfold p_L_law_429 at hp
                                    obtain ⟨k429, hn429, hp⟩ := hp
                                    refine xJ_callV (As := [_]) hX hB dL_law_429 lk_L_128 im_X13_below se_X13_below rfl (by decide) hky1 (c_X13_below hM hky1 hy0 hp) (by decide) rfl rfl rfl (Nat.le_of_ble_eq_true rfl) (by omega) (by omega) (fun v t429 M429 hv => ?_) (fun _ _ _ q => q.elim)
                                    clear hp
                                    obtain ⟨r429, rfl, h429, hM429, hq429, hp⟩ := hv
                                    dsimp only [Option.toList, List.cons_append, List.nil_append]
                                    refine xJ_istore hX dL_law_432 (Nat.le_of_ble_eq_true rfl) rfl ?_
                                    dsimp only [List.set]
                                    refine xJ_iload hX dL_law_434 rfl ?_
                                    have l452 : ∀ (c s n : Nat) (x2 : Int) (x3 : Nat) (x5 : Nat) (x6 : Nat) (x7 : Nat) (x8 : Int) (x9 : Int) (x10 : Nat) (x12 : Int) (x14 : Int) (x15 : Int) (x17 : Int) (y0 : Int) (t : xTh) (M : xMe) (hc : c + n ≤ nE) (hs : s + 64 * n ≤ 64 * nE) (hM : xMR M) (hqE : xke tE t) (hx2 : xR x2) (hkx5 : xk t x5 = 19) (hkx6 : xk t x6 = 20) (hkx7 : xk t x7 = 18) (hx8 : xR x8) (hx9 : xR x9) (hkx10 : xk t x10 = 20) (hx12 : xR x12) (hx14 : xR x14) (hx15 : xR x15) (hx17 : xR x17) (hy0 : xR y0) (hp : p_L_law_452 F G N xs Q (p_L_law_4 F G N xs Q k4) (p_L_law_181 F G N xs Q (p_L_law_4 F G N xs Q k4) (p_L_law_1109 F G N xs Q (p_L_law_4 F G N xs Q k4)) k181) (p_L_law_1043 F G N xs Q (p_L_law_4 F G N xs Q k4) (p_L_law_181 F G N xs Q (p_L_law_4 F G N xs Q k4) (p_L_law_1109 F G N xs Q (p_L_law_4 F G N xs Q k4)) k181) (p_L_law_1109 F G N xs Q (p_L_law_4 F G N xs Q k4))) (p_L_law_1109 F G N xs Q (p_L_law_4 F G N xs Q k4)) n x2 x3 x5 x6 x7 x8 x9 x10 x12 x14 x15 x17 y0 t M), xJ X c s t M 452 [vr x0, vU, vi x2, vr x3, vU, vr x5, vr x6, vr x7, vi x8, vi x9, vr x10, vU, vi x12, vU, vi x14, vi x15, vU, vi x17, vU, vU, vU, vU, vU, vU, vU, vU] [vi y0] := by
                                      intro c s n x2 x3 x5 x6 x7 x8 x9 x10 x12 x14 x15 x17 y0 t M hc hs hM hqE hx2 hkx5 hkx6 hkx7 hx8 hx9 hkx10 hx12 hx14 hx15 hx17 hy0 hp
                                      unfold p_L_law_452 at hp
                                      refine xJ_istore hX dL_law_452 (Nat.le_of_ble_eq_true rfl) rfl ?_
                                      dsimp only [List.set]
                                      refine xJ_iload hX dL_law_454 rfl ?_
                                      have l480 : ∀ (c s n : Nat) (x2 : Int) (x3 : Nat) (x5 : Nat) (x6 : Nat) (x7 : Nat) (x8 : Int) (x9 : Int) (x10 : Nat) (x12 : Int) (x14 : Int) (x15 : Int) (x17 : Int) (x18 : Int) (y0 : Int) (t : xTh) (M : xMe) (hc : c + n ≤ nE) (hs : s + 64 * n ≤ 64 * nE) (hM : xMR M) (hqE : xke tE t) (hx2 : xR x2) (hkx5 : xk t x5 = 19) (hkx6 : xk t x6 = 20) (hkx7 : xk t x7 = 18) (hx8 : xR x8) (hx9 : xR x9) (hkx10 : xk t x10 = 20) (hx12 : xR x12) (hx14 : xR x14) (hx15 : xR x15) (hx17 : xR x17) (hx18 : xR x18) (hy0 : xR y0) (hp : p_L_law_480 F G N xs Q (p_L_law_4 F G N xs Q k4) (p_L_law_181 F G N xs Q (p_L_law_4 F G N xs Q k4) (p_L_law_1109 F G N xs Q (p_L_law_4 F G N xs Q k4)) k181) (p_L_law_1043 F G N xs Q (p_L_law_4 F G N xs Q k4) (p_L_law_181 F G N xs Q (p_L_law_4 F G N xs Q k4) (p_L_law_1109 F G N xs Q (p_L_law_4 F G N xs Q k4)) k181) (p_L_law_1109 F G N xs Q (p_L_law_4 F G N xs Q k4))) (p_L_law_1109 F G N xs Q (p_L_law_4 F G N xs Q k4)) n x2 x3 x5 x6 x7 x8 x9 x10 x12 x14 x15 x17 x18 y0 t M), xJ X c s t M 480 [vr x0, vU, vi x2, vr x3, vU, vr x5, vr x6, vr x7, vi x8, vi x9, vr x10, vU, vi x12, vU, vi x14, vi x15, vU, vi x17, vi x18, vU, vU, vU, vU, vU, vU, vU] [vi y0] := by
                                        intro c s n x2 x3 x5 x6 x7 x8 x9 x10 x12 x14 x15 x17 x18 y0 t M hc hs hM hqE hx2 hkx5 hkx6 hkx7 hx8 hx9 hkx10 hx12 hx14 hx15 hx17 hx18 hy0 hp
                                        unfold p_L_law_480 at hp
                                        refine xJ_istore hX dL_law_480 (Nat.le_of_ble_eq_true rfl) rfl ?_
                                        dsimp only [List.set]
                                        refine xJ_iload hX dL_law_482 rfl ?_
                                        have l515 : ∀ (c s n : Nat) (x2 : Int) (x3 : Nat) (x5 : Nat) (x6 : Nat) (x7 : Nat) (x8 : Int) (x9 : Int) (x10 : Nat) (x11 : Int) (x12 : Int) (x14 : Int) (x17 : Int) (t : xTh) (M : xMe) (hc : c + n ≤ nE) (hs : s + 64 * n ≤ 64 * nE) (hM : xMR M) (hqE : xke tE t) (hx2 : xR x2) (hkx5 : xk t x5 = 19) (hkx6 : xk t x6 = 20) (hkx7 : xk t x7 = 18) (hx8 : xR x8) (hx9 : xR x9) (hkx10 : xk t x10 = 20) (hx11 : xR x11) (hx12 : xR x12) (hx14 : xR x14) (hx17 : xR x17) (hp : p_L_law_515 F G N xs Q (p_L_law_4 F G N xs Q k4) (p_L_law_181 F G N xs Q (p_L_law_4 F G N xs Q k4) (p_L_law_1109 F G N xs Q (p_L_law_4 F G N xs Q k4)) k181) (p_L_law_1043 F G N xs Q (p_L_law_4 F G N xs Q k4) (p_L_law_181 F G N xs Q (p_L_law_4 F G N xs Q k4) (p_L_law_1109 F G N xs Q (p_L_law_4 F G N xs Q k4)) k181) (p_L_law_1109 F G N xs Q (p_L_law_4 F G N xs Q k4))) (p_L_law_1109 F G N xs Q (p_L_law_4 F G N xs Q k4)) n x2 x3 x5 x6 x7 x8 x9 x10 x11 x12 x14 x17 t M), xJ X c s t M 515 [vr x0, vU, vi x2, vr x3, vU, vr x5, vr x6, vr x7, vi x8, vi x9, vr x10, vi x11, vi x12, vU, vi x14, vU, vU, vi x17, vU, vU, vU, vU, vU, vU, vU, vU] [] := by
                                          intro c s n x2 x3 x5 x6 x7 x8 x9 x10 x11 x12 x14 x17 t M hc hs hM hqE hx2 hkx5 hkx6 hkx7 hx8 hx9 hkx10 hx11 hx12 hx14 hx17 hp
                                          unfold p_L_law_515 at hp
                                          refine xJ_iload hX dL_law_515 rfl ?_
                                          have l577 : ∀ (c s n : Nat) (x2 : Int) (x3 : Nat) (x5 : Nat) (x6 : Nat) (x7 : Nat) (x8 : Int) (x9 : Int) (x10 : Nat) (x11 : Int) (x12 : Int) (x14 : Int) (x17 : Int) (t : xTh) (M : xMe) (hc : c + n ≤ nE) (hs : s + 64 * n ≤ 64 * nE) (hM : xMR M) (hqE : xke tE t) (hx2 : xR x2) (hkx5 : xk t x5 = 19) (hkx6 : xk t x6 = 20) (hkx7 : xk t x7 = 18) (hx8 : xR x8) (hx9 : xR x9) (hkx10 : xk t x10 = 20) (hx11 : xR x11) (hx12 : xR x12) (hx14 : xR x14) (hx17 : xR x17) (hp : p_L_law_577 F G N xs Q (p_L_law_4 F G N xs Q k4) (p_L_law_181 F G N xs Q (p_L_law_4 F G N xs Q k4) (p_L_law_1109 F G N xs Q (p_L_law_4 F G N xs Q k4)) k181) (p_L_law_1043 F G N xs Q (p_L_law_4 F G N xs Q k4) (p_L_law_181 F G N xs Q (p_L_law_4 F G N xs Q k4) (p_L_law_1109 F G N xs Q (p_L_law_4 F G N xs Q k4)) k181) (p_L_law_1109 F G N xs Q (p_L_law_4 F G N xs Q k4))) (p_L_law_1109 F G N xs Q (p_L_law_4 F G N xs Q k4)) n x2 x3 x5 x6 x7 x8 x9 x10 x11 x12 x14 x17 t M), xJ X c s t M 577 [vr x0, vU, vi x2, vr x3, vU, vr x5, vr x6, vr x7, vi x8, vi x9, vr x10, vi x11, vi x12, vU, vi x14, vU, vU, vi x17, vU, vU, vU, vU, vU, vU, vU, vU] [] := by
                                            intro c s n x2 x3 x5 x6 x7 x8 x9 x10 x11 x12 x14 x17 t M hc hs hM hqE hx2 hkx5 hkx6 hkx7 hx8 hx9 hkx10 hx11 hx12 hx14 hx17 hp
                                            unfold p_L_law_577 at hp
                                            refine xJ_aload_n hX dL_law_577 rfl ?_
                                            refine xJ_iload hX dL_law_578 rfl ?_
                                            refine xJ_iload hX dL_law_580 rfl ?_
                                            obtain ⟨hw582, hp⟩ := hp
                                            have hn582 := hw582.1
                                            refine xJ_callSW (As := [_, _, _]) hX hB dL_law_582 lkw_L_send sm_L_send (c_L_send hw582.2.1 hw582.2.2 hM hx14 hx17 hp) (by decide) rfl rfl rfl (Nat.le_of_ble_eq_true rfl) (by omega) (by omega) (fun v t582 M582 hv => ?_)
                                            clear hp
                                            obtain ⟨r582, rfl, h582, hM582, hqw582, hp⟩ := hv
                                            have hq582 := xke_qw hqw582
                                            refine xJ_live fun hlv582 => ?_
                                            replace hp := hp hqw582 hlv582
                                            dsimp only [Option.toList, List.cons_append, List.nil_append]
                                            refine xJ_iload hX dL_law_585 rfl ?_
                                            refine xJ_icmp_ne hX dL_law_587 (tgt := 594) (by decide) h582 hx12 (fun c587 => ?_) (fun c587 => ?_)
                                            · replace hp := hp.1 c587
                                              refine xJ_iconst hX dL_law_594 ?_
                                              refine xJ_istore_n hX dL_law_595 (Nat.le_of_ble_eq_true rfl) rfl ?_
                                              dsimp only [List.set]
                                              refine xJ_goto hX dL_law_596 (tgt := 1043) (by decide) ?_
                                              refine xJ_fg 12 ?_
                                              dsimp only [List.set]
                                              refine xJ_fg 14 ?_
                                              dsimp only [List.set]
                                              refine xJ_fg 17 ?_
                                              dsimp only [List.set]
                                              exact l1043 _ _ _ _ _ _ _ _ _ _ _ _ _ _ _ (by omega) (by omega) hM582 (xke_trans hqE hq582) ⟨by decide, by decide⟩ hx2 (xke_k hq582 hkx5 (by decide)) (xke_k hq582 hkx6 (by decide)) (xke_k hq582 hkx7 (by decide)) hx8 hx9 (xke_k hq582 hkx10 (by decide)) hx11 hp
                                            · replace hp := hp.2 c587
                                              refine xJ_iconst hX dL_law_590 ?_
                                              refine xJ_goto hX dL_law_591 (tgt := 595) (by decide) ?_
                                              refine xJ_istore_n hX dL_law_595 (Nat.le_of_ble_eq_true rfl) rfl ?_
                                              dsimp only [List.set]
                                              refine xJ_goto hX dL_law_596 (tgt := 1043) (by decide) ?_
                                              refine xJ_fg 12 ?_
                                              dsimp only [List.set]
                                              refine xJ_fg 14 ?_
                                              dsimp only [List.set]
                                              refine xJ_fg 17 ?_
                                              dsimp only [List.set]
                                              exact l1043 _ _ _ _ _ _ _ _ _ _ _ _ _ _ _ (by omega) (by omega) hM582 (xke_trans hqE hq582) ⟨by decide, by decide⟩ hx2 (xke_k hq582 hkx5 (by decide)) (xke_k hq582 hkx6 (by decide)) (xke_k hq582 hkx7 (by decide)) hx8 hx9 (xke_k hq582 hkx10 (by decide)) hx11 hp
                                          refine xJ_if_eq hX dL_law_517 (tgt := 577) (by decide) hx11 (fun c517 => ?_) (fun c517 => ?_)
                                          · replace hp := hp.1 c517
                                            exact l577 _ _ _ _ _ _ _ _ _ _ _ _ _ _ _ _ _ (by omega) (by omega) hM hqE hx2 hkx5 hkx6 hkx7 hx8 hx9 hkx10 hx11 hx12 hx14 hx17 hp
                                          · replace hp := hp.2 c517
                                            refine xJ_aload hX dL_law_520 rfl ?_
                                            refine xJ_aload hX dL_law_522 rfl ?_
                                            obtain ⟨b524, e524, hkb524, hp⟩ := hp
                                            refine xJ_getR (b := b524) hX dL_law_524 fd_L_157 rfl hkx6 e524 ?_
                                            refine xJ_bipush hX dL_law_527 rfl ?_
                                            obtain ⟨hn529, hp⟩ := hp
                                            refine xJ_newIE hX hB hM dL_law_529 ac_int (by decide) (by decide) (by omega) (by omega) (fun a529 t529 M529 ea529 et529 e529 hM529 hq529 hka529 => ?_)
                                            replace hp := hp a529 t529 M529 ea529 et529 e529
                                            refine xJ_dup hX dL_law_531 rfl ?_
                                            refine xJ_iconst hX dL_law_532 ?_
                                            refine xJ_iload hX dL_law_533 rfl ?_
                                            obtain ⟨h535, hp⟩ := hp
                                            refine xJ_iastM hX dL_law_535 hka529 h535.1 h535.2 hM529 hx14 (fun M535 e535 hM535 => ?_)
                                            replace hp := hp M535 e535
                                            refine xJ_dup hX dL_law_536 rfl ?_
                                            refine xJ_iconst hX dL_law_537 ?_
                                            refine xJ_aload hX dL_law_538 rfl ?_
                                            refine xJ_getI hX dL_law_540 fd_L_258 rfl (xke_k hq529 hkx6 (by decide)) ?_
                                            obtain ⟨h543, hp⟩ := hp
                                            refine xJ_iastM hX dL_law_543 hka529 h543.1 h543.2 hM535 (hM535 _ _) (fun M543 e543 hM543 => ?_)
                                            replace hp := hp M543 e543
                                            refine xJ_dup hX dL_law_544 rfl ?_
                                            refine xJ_iconst hX dL_law_545 ?_
                                            refine xJ_iload hX dL_law_546 rfl ?_
                                            obtain ⟨h548, hp⟩ := hp
                                            refine xJ_iastM hX dL_law_548 hka529 h548.1 h548.2 hM543 hx17 (fun M548 e548 hM548 => ?_)
                                            replace hp := hp M548 e548
                                            refine xJ_dup hX dL_law_549 rfl ?_
                                            refine xJ_iconst hX dL_law_550 ?_
                                            refine xJ_iconst hX dL_law_551 ?_
                                            obtain ⟨h552, hp⟩ := hp
                                            refine xJ_iastM hX dL_law_552 hka529 h552.1 h552.2 hM548 ⟨by decide, by decide⟩ (fun M552 e552 hM552 => ?_)
                                            replace hp := hp M552 e552
                                            refine xJ_dup hX dL_law_553 rfl ?_
                                            refine xJ_iconst hX dL_law_554 ?_
                                            refine xJ_iconst hX dL_law_555 ?_
                                            obtain ⟨h556, hp⟩ := hp
                                            refine xJ_iastM hX dL_law_556 hka529 h556.1 h556.2 hM552 ⟨by decide, by decide⟩ (fun M556 e556 hM556 => ?_)
                                            replace hp := hp M556 e556
                                            refine xJ_dup hX dL_law_557 rfl ?_
                                            refine xJ_iconst hX dL_law_558 ?_
                                            refine xJ_iconst hX dL_law_559 ?_
                                            obtain ⟨h560, hp⟩ := hp
                                            refine xJ_iastM hX dL_law_560 hka529 h560.1 h560.2 hM556 ⟨by decide, by decide⟩ (fun M560 e560 hM560 => ?_)
                                            replace hp := hp M560 e560
                                            refine xJ_dup hX dL_law_561 rfl ?_
                                            refine xJ_bipush hX dL_law_562 rfl ?_
                                            refine xJ_iconst hX dL_law_564 ?_
                                            obtain ⟨h565, hp⟩ := hp
                                            refine xJ_iastM hX dL_law_565 hka529 h565.1 h565.2 hM560 ⟨by decide, by decide⟩ (fun M565 e565 hM565 => ?_)
                                            replace hp := hp M565 e565
                                            refine xJ_dup hX dL_law_566 rfl ?_
                                            refine xJ_bipush hX dL_law_567 rfl ?_
                                            refine xJ_iconst hX dL_law_569 ?_
                                            obtain ⟨h570, hp⟩ := hp
                                            refine xJ_iastM hX dL_law_570 hka529 h570.1 h570.2 hM565 ⟨by decide, by decide⟩ (fun M570 e570 hM570 => ?_)
                                            replace hp := hp M570 e570
                                            obtain ⟨k571, hn571, hp⟩ := hp
                                            refine xJ_callS (As := [_, _]) hX hB dL_law_571 lk_L_137 sm_L_with (c_L_with hM570 (xke_k hq529 hkb524 (by decide)) hka529 hp) (by decide) rfl rfl rfl (Nat.le_of_ble_eq_true rfl) (by omega) (by omega) (fun v t571 M571 hv => ?_) (fun _ _ _ q => q.elim)
                                            clear hp
                                            obtain ⟨r571, rfl, hk571, hM571, hq571, hp⟩ := hv
                                            dsimp only [Option.toList, List.cons_append, List.nil_append]
                                            refine xJ_putRE (x := (some r571)) hX dL_law_574 fd_L_157 ft_X14 rfl rfl rfl rfl (xke_k hq571 (xke_k hq529 hkx6 (by decide)) (by decide)) (fun t574 et574 hq574 => ?_)
                                            replace hp := hp t574 et574
                                            exact l577 _ _ _ _ _ _ _ _ _ _ _ _ _ _ _ _ _ (by omega) (by omega) hM571 (xke_trans (xke_trans (xke_trans hqE hq529) hq571) hq574) hx2 (xke_k hq574 (xke_k hq571 (xke_k hq529 hkx5 (by decide)) (by decide)) (by decide)) (xke_k hq574 (xke_k hq571 (xke_k hq529 hkx6 (by decide)) (by decide)) (by decide)) (xke_k hq574 (xke_k hq571 (xke_k hq529 hkx7 (by decide)) (by decide)) (by decide)) hx8 hx9 (xke_k hq574 (xke_k hq571 (xke_k hq529 hkx10 (by decide)) (by decide)) (by decide)) hx11 hx12 hx14 hx17 hp
                                        refine xJ_if_eq hX dL_law_484 (tgt := 515) (by decide) hx15 (fun c484 => ?_) (fun c484 => ?_)
                                        · replace hp := hp.1 c484
                                          refine xJ_fg 15 ?_
                                          dsimp only [List.set]
                                          refine xJ_fg 18 ?_
                                          dsimp only [List.set]
                                          exact l515 _ _ _ _ _ _ _ _ _ _ _ _ _ _ _ _ _ (by omega) (by omega) hM hqE hx2 hkx5 hkx6 hkx7 hx8 hx9 hkx10 hy0 hx12 hx14 hx17 hp
                                        · replace hp := hp.2 c484
                                          refine xJ_iload hX dL_law_487 rfl ?_
                                          refine xJ_if_ne hX dL_law_489 (tgt := 497) (by decide) hx18 (fun c489 => ?_) (fun c489 => ?_)
                                          · replace hp := hp.1 c489
                                            refine xJ_iload hX dL_law_497 rfl ?_
                                            refine xJ_if_eq hX dL_law_499 (tgt := 511) (by decide) hy0 (fun c499 => ?_) (fun c499 => ?_)
                                            · replace hp := hp.1 c499
                                              refine xJ_ldc (-2000000099) hX dL_law_511 kc_L_101 ?_
                                              refine xJ_istore hX dL_law_513 (Nat.le_of_ble_eq_true rfl) rfl ?_
                                              dsimp only [List.set]
                                              refine xJ_fg 15 ?_
                                              dsimp only [List.set]
                                              refine xJ_fg 18 ?_
                                              dsimp only [List.set]
                                              exact l515 _ _ _ _ _ _ _ _ _ _ _ _ _ _ _ _ _ (by omega) (by omega) hM hqE hx2 hkx5 hkx6 hkx7 hx8 hx9 hkx10 hy0 ⟨by decide, by decide⟩ hx14 hx17 hp
                                            · replace hp := hp.2 c499
                                              refine xJ_aload hX dL_law_502 rfl ?_
                                              obtain ⟨b504, e504, hkb504, hp⟩ := hp
                                              refine xJ_getR (b := b504) hX dL_law_504 fd_L_157 rfl hkx6 e504 ?_
                                              refine xJ_alen hX dL_law_507 (by rw [hkb504]; decide) (by rw [hkb504]; decide) ?_
                                              obtain ⟨h507, hp⟩ := hp
                                              refine xJ_goto hX dL_law_508 (tgt := 513) (by decide) ?_
                                              refine xJ_istore hX dL_law_513 (Nat.le_of_ble_eq_true rfl) rfl ?_
                                              dsimp only [List.set]
                                              replace hp := hp _ rfl
                                              refine xJ_fg 15 ?_
                                              dsimp only [List.set]
                                              refine xJ_fg 18 ?_
                                              dsimp only [List.set]
                                              exact l515 _ _ _ _ _ _ _ _ _ _ _ _ _ _ _ _ _ (by omega) (by omega) hM hqE hx2 hkx5 hkx6 hkx7 hx8 hx9 hkx10 hy0 h507 hx14 hx17 hp
                                          · replace hp := hp.2 c489
                                            refine xJ_ldc (-2000000098) hX dL_law_492 kc_L_42 ?_
                                            refine xJ_goto hX dL_law_494 (tgt := 513) (by decide) ?_
                                            refine xJ_istore hX dL_law_513 (Nat.le_of_ble_eq_true rfl) rfl ?_
                                            dsimp only [List.set]
                                            refine xJ_fg 15 ?_
                                            dsimp only [List.set]
                                            refine xJ_fg 18 ?_
                                            dsimp only [List.set]
                                            exact l515 _ _ _ _ _ _ _ _ _ _ _ _ _ _ _ _ _ (by omega) (by omega) hM hqE hx2 hkx5 hkx6 hkx7 hx8 hx9 hkx10 hy0 ⟨by decide, by decide⟩ hx14 hx17 hp
                                      refine xJ_if_eq hX dL_law_456 (tgt := 479) (by decide) hx15 (fun c456 => ?_) (fun c456 => ?_)
                                      · replace hp := hp.1 c456
                                        refine xJ_iconst hX dL_law_479 ?_
                                        exact l480 _ _ _ _ _ _ _ _ _ _ _ _ _ _ _ _ _ _ _ (by omega) (by omega) hM hqE hx2 hkx5 hkx6 hkx7 hx8 hx9 hkx10 hx12 hx14 hx15 hx17 hy0 ⟨by decide, by decide⟩ hp
                                      · replace hp := hp.2 c456
                                        refine xJ_iload hX dL_law_459 rfl ?_
                                        refine xJ_if_eq hX dL_law_461 (tgt := 479) (by decide) hy0 (fun c461 => ?_) (fun c461 => ?_)
                                        · replace hp := hp.1 c461
                                          refine xJ_iconst hX dL_law_479 ?_
                                          exact l480 _ _ _ _ _ _ _ _ _ _ _ _ _ _ _ _ _ _ _ (by omega) (by omega) hM hqE hx2 hkx5 hkx6 hkx7 hx8 hx9 hkx10 hx12 hx14 hx15 hx17 hy0 ⟨by decide, by decide⟩ hp
                                        · replace hp := hp.2 c461
                                          refine xJ_aload hX dL_law_464 rfl ?_
                                          obtain ⟨b466, e466, hkb466, hp⟩ := hp
                                          refine xJ_getR (b := b466) hX dL_law_466 fd_L_157 rfl hkx6 e466 ?_
                                          refine xJ_alen hX dL_law_469 (by rw [hkb466]; decide) (by rw [hkb466]; decide) ?_
                                          obtain ⟨h469, hp⟩ := hp
                                          refine xJ_bipush hX dL_law_470 rfl ?_
                                          refine xJ_icmp_ge hX dL_law_472 (tgt := 479) (by decide) h469 ⟨by decide, by decide⟩ (fun c472 => ?_) (fun c472 => ?_)
                                          · replace hp := hp.1 c472
                                            refine xJ_iconst hX dL_law_479 ?_
                                            exact l480 _ _ _ _ _ _ _ _ _ _ _ _ _ _ _ _ _ _ _ (by omega) (by omega) hM hqE hx2 hkx5 hkx6 hkx7 hx8 hx9 hkx10 hx12 hx14 hx15 hx17 hy0 ⟨by decide, by decide⟩ hp
                                          · replace hp := hp.2 c472
                                            refine xJ_iconst hX dL_law_475 ?_
                                            refine xJ_goto hX dL_law_476 (tgt := 480) (by decide) ?_
                                            exact l480 _ _ _ _ _ _ _ _ _ _ _ _ _ _ _ _ _ _ _ (by omega) (by omega) hM hqE hx2 hkx5 hkx6 hkx7 hx8 hx9 hkx10 hx12 hx14 hx15 hx17 hy0 ⟨by decide, by decide⟩ hp
                                    refine xJ_if_le hX dL_law_436 (tgt := 451) (by decide) h429 (fun c436 => ?_) (fun c436 => ?_)
                                    · replace hp := hp.1 c436
                                      refine xJ_iconst hX dL_law_451 ?_
                                      exact l452 _ _ _ _ _ _ _ _ _ _ _ _ _ _ _ _ _ _ (by omega) (by omega) hM429 (xke_trans hqE hq429) hx2 (xke_k hq429 hkx5 (by decide)) (xke_k hq429 hkx6 (by decide)) (xke_k hq429 hkx7 (by decide)) hx8 hx9 (xke_k hq429 hkx10 (by decide)) hx12 hx14 hx15 h429 ⟨by decide, by decide⟩ hp
                                    · replace hp := hp.2 c436
                                      refine xJ_iload hX dL_law_439 rfl ?_
                                      refine xJ_sipush hX dL_law_441 rfl ?_
                                      refine xJ_icmp_ge hX dL_law_444 (tgt := 451) (by decide) h429 ⟨by decide, by decide⟩ (fun c444 => ?_) (fun c444 => ?_)
                                      · replace hp := hp.1 c444
                                        refine xJ_iconst hX dL_law_451 ?_
                                        exact l452 _ _ _ _ _ _ _ _ _ _ _ _ _ _ _ _ _ _ (by omega) (by omega) hM429 (xke_trans hqE hq429) hx2 (xke_k hq429 hkx5 (by decide)) (xke_k hq429 hkx6 (by decide)) (xke_k hq429 hkx7 (by decide)) hx8 hx9 (xke_k hq429 hkx10 (by decide)) hx12 hx14 hx15 h429 ⟨by decide, by decide⟩ hp
                                      · replace hp := hp.2 c444
                                        refine xJ_iconst hX dL_law_447 ?_
                                        refine xJ_goto hX dL_law_448 (tgt := 452) (by decide) ?_
                                        exact l452 _ _ _ _ _ _ _ _ _ _ _ _ _ _ _ _ _ _ (by omega) (by omega) hM429 (xke_trans hqE hq429) hx2 (xke_k hq429 hkx5 (by decide)) (xke_k hq429 hkx6 (by decide)) (xke_k hq429 hkx7 (by decide)) hx8 hx9 (xke_k hq429 hkx10 (by decide)) hx12 hx14 hx15 h429 ⟨by decide, by decide⟩ hp
                                  refine xJ_if_ne hX dL_law_418 (tgt := 427) (by decide) h415 (fun c418 => ?_) (fun c418 => ?_)
                                  · replace hp := hp.1 c418
                                    refine xJ_bipush hX dL_law_427 rfl ?_
                                    exact l429 _ _ _ _ _ _ _ _ _ _ _ _ _ _ _ _ _ _ (by omega) (by omega) hM415 (xke_trans (xke_trans hqE hq262) hq415) hx2 (xke_k hq415 (xke_k hq262 hkx5 (by decide)) (by decide)) (xke_k hq415 (xke_k hq262 hkx6 (by decide)) (by decide)) (xke_k hq415 (xke_k hq262 hkx7 (by decide)) (by decide)) hx8 hx9 (xke_k hq415 (xke_k hq262 hkx10 (by decide)) (by decide)) hx12 hx14 hy0 ⟨by decide, by decide⟩ (xke_k hq415 (xke_k hq262 hkx5 (by decide)) (by decide)) hp
                                  · replace hp := hp.2 c418
                                    refine xJ_sipush hX dL_law_421 rfl ?_
                                    refine xJ_goto hX dL_law_424 (tgt := 429) (by decide) ?_
                                    exact l429 _ _ _ _ _ _ _ _ _ _ _ _ _ _ _ _ _ _ (by omega) (by omega) hM415 (xke_trans (xke_trans hqE hq262) hq415) hx2 (xke_k hq415 (xke_k hq262 hkx5 (by decide)) (by decide)) (xke_k hq415 (xke_k hq262 hkx6 (by decide)) (by decide)) (xke_k hq415 (xke_k hq262 hkx7 (by decide)) (by decide)) hx8 hx9 (xke_k hq415 (xke_k hq262 hkx10 (by decide)) (by decide)) hx12 hx14 hy0 ⟨by decide, by decide⟩ (xke_k hq415 (xke_k hq262 hkx5 (by decide)) (by decide)) hp
                                · refine xJ_tIn hX dL_law_265 h262 (by omega) (by omega) (off := 334) (by rw [hc265]; rfl) (tgt := 599) (by decide) ?_
                                  replace hp := hp.2.2.2.1 hc265
                                  refine xJ_aload hX dL_law_599 rfl ?_
                                  refine xJ_bipush hX dL_law_601 rfl ?_
                                  obtain ⟨k603, hn603, hp⟩ := hp
                                  refine xJ_callV (As := [_]) hX hB dL_law_603 lk_L_128 im_X13_below se_X13_below rfl (by decide) (xke_k hq262 hkx5 (by decide)) (c_X13_below hM262 (xke_k hq262 hkx5 (by decide)) ⟨by decide, by decide⟩ hp) (by decide) rfl rfl rfl (Nat.le_of_ble_eq_true rfl) (by omega) (by omega) (fun v t603 M603 hv => ?_) (fun _ _ _ q => q.elim)
                                  clear hp
                                  obtain ⟨r603, rfl, h603, hM603, hq603, hp⟩ := hv
                                  dsimp only [Option.toList, List.cons_append, List.nil_append]
                                  refine xJ_istore hX dL_law_606 (Nat.le_of_ble_eq_true rfl) rfl ?_
                                  dsimp only [List.set]
                                  refine xJ_aload hX dL_law_608 rfl ?_
                                  refine xJ_aload hX dL_law_610 rfl ?_
                                  refine xJ_bipush hX dL_law_612 rfl ?_
                                  obtain ⟨k614, hn614, hp⟩ := hp
                                  refine xJ_callV (As := [_]) hX hB dL_law_614 lk_L_128 im_X13_below se_X13_below rfl (by decide) (xke_k hq603 (xke_k hq262 hkx5 (by decide)) (by decide)) (c_X13_below hM603 (xke_k hq603 (xke_k hq262 hkx5 (by decide)) (by decide)) ⟨by decide, by decide⟩ hp) (by decide) rfl rfl rfl (Nat.le_of_ble_eq_true rfl) (by omega) (by omega) (fun v t614 M614 hv => ?_) (fun _ _ _ q => q.elim)
                                  clear hp
                                  obtain ⟨r614, rfl, h614, hM614, hq614, hp⟩ := hv
                                  dsimp only [Option.toList, List.cons_append, List.nil_append]
                                  have l628 : ∀ (c s n : Nat) (x2 : Int) (x3 : Nat) (x5 : Nat) (x6 : Nat) (x7 : Nat) (x8 : Int) (x9 : Int) (x10 : Nat) (x12 : Int) (x14 : Int) (x15 : Int) (x19 : Int) (y0 : Int) (y1 : Nat) (t : xTh) (M : xMe) (hc : c + n ≤ nE) (hs : s + 64 * n ≤ 64 * nE) (hM : xMR M) (hqE : xke tE t) (hx2 : xR x2) (hkx5 : xk t x5 = 19) (hkx6 : xk t x6 = 20) (hkx7 : xk t x7 = 18) (hx8 : xR x8) (hx9 : xR x9) (hkx10 : xk t x10 = 20) (hx12 : xR x12) (hx14 : xR x14) (hx15 : xR x15) (hx19 : xR x19) (hy0 : xR y0) (hky1 : xk t y1 = 19) (hp : p_L_law_628 F G N xs Q (p_L_law_4 F G N xs Q k4) (p_L_law_181 F G N xs Q (p_L_law_4 F G N xs Q k4) (p_L_law_1109 F G N xs Q (p_L_law_4 F G N xs Q k4)) k181) (p_L_law_1043 F G N xs Q (p_L_law_4 F G N xs Q k4) (p_L_law_181 F G N xs Q (p_L_law_4 F G N xs Q k4) (p_L_law_1109 F G N xs Q (p_L_law_4 F G N xs Q k4)) k181) (p_L_law_1109 F G N xs Q (p_L_law_4 F G N xs Q k4))) (p_L_law_1109 F G N xs Q (p_L_law_4 F G N xs Q k4)) n x2 x3 x5 x6 x7 x8 x9 x10 x12 x14 x15 x19 y0 y1 t M), xJ X c s t M 628 [vr x0, vU, vi x2, vr x3, vU, vr x5, vr x6, vr x7, vi x8, vi x9, vr x10, vU, vi x12, vU, vi x14, vi x15, vU, vU, vU, vi x19, vU, vU, vU, vU, vU, vU] [vi y0, vr y1] := by
                                    intro c s n x2 x3 x5 x6 x7 x8 x9 x10 x12 x14 x15 x19 y0 y1 t M hc hs hM hqE hx2 hkx5 hkx6 hkx7 hx8 hx9 hkx10 hx12 hx14 hx15 hx19 hy0 hky1 hp
                                    unfold p_L_law_628 at hp
                                    obtain ⟨k628, hn628, hp⟩ := hp
                                    refine xJ_callV (As := [_]) hX hB dL_law_628 lk_L_128 im_X13_below se_X13_below rfl (by decide) hky1 (c_X13_below hM hky1 hy0 hp) (by decide) rfl rfl rfl (Nat.le_of_ble_eq_true rfl) (by omega) (by omega) (fun v t628 M628 hv => ?_) (fun _ _ _ q => q.elim)
                                    clear hp
                                    obtain ⟨r628, rfl, h628, hM628, hq628, hp⟩ := hv
                                    dsimp only [Option.toList, List.cons_append, List.nil_append]
                                    refine xJ_istore hX dL_law_631 (Nat.le_of_ble_eq_true rfl) rfl ?_
                                    dsimp only [List.set]
                                    refine xJ_iload hX dL_law_633 rfl ?_
                                    have l656 : ∀ (c s n : Nat) (x2 : Int) (x3 : Nat) (x5 : Nat) (x6 : Nat) (x7 : Nat) (x8 : Int) (x9 : Int) (x10 : Nat) (x12 : Int) (x14 : Int) (x15 : Int) (x19 : Int) (x20 : Int) (y0 : Int) (t : xTh) (M : xMe) (hc : c + n ≤ nE) (hs : s + 64 * n ≤ 64 * nE) (hM : xMR M) (hqE : xke tE t) (hx2 : xR x2) (hkx5 : xk t x5 = 19) (hkx6 : xk t x6 = 20) (hkx7 : xk t x7 = 18) (hx8 : xR x8) (hx9 : xR x9) (hkx10 : xk t x10 = 20) (hx12 : xR x12) (hx14 : xR x14) (hx15 : xR x15) (hx19 : xR x19) (hx20 : xR x20) (hy0 : xR y0) (hp : p_L_law_656 F G N xs Q (p_L_law_4 F G N xs Q k4) (p_L_law_181 F G N xs Q (p_L_law_4 F G N xs Q k4) (p_L_law_1109 F G N xs Q (p_L_law_4 F G N xs Q k4)) k181) (p_L_law_1043 F G N xs Q (p_L_law_4 F G N xs Q k4) (p_L_law_181 F G N xs Q (p_L_law_4 F G N xs Q k4) (p_L_law_1109 F G N xs Q (p_L_law_4 F G N xs Q k4)) k181) (p_L_law_1109 F G N xs Q (p_L_law_4 F G N xs Q k4))) (p_L_law_1109 F G N xs Q (p_L_law_4 F G N xs Q k4)) n x2 x3 x5 x6 x7 x8 x9 x10 x12 x14 x15 x19 x20 y0 t M), xJ X c s t M 656 [vr x0, vU, vi x2, vr x3, vU, vr x5, vr x6, vr x7, vi x8, vi x9, vr x10, vU, vi x12, vU, vi x14, vi x15, vU, vU, vU, vi x19, vi x20, vU, vU, vU, vU, vU] [vi y0] := by
                                      intro c s n x2 x3 x5 x6 x7 x8 x9 x10 x12 x14 x15 x19 x20 y0 t M hc hs hM hqE hx2 hkx5 hkx6 hkx7 hx8 hx9 hkx10 hx12 hx14 hx15 hx19 hx20 hy0 hp
                                      unfold p_L_law_656 at hp
                                      refine xJ_istore hX dL_law_656 (Nat.le_of_ble_eq_true rfl) rfl ?_
                                      dsimp only [List.set]
                                      refine xJ_iload hX dL_law_658 rfl ?_
                                      have l684 : ∀ (c s n : Nat) (x2 : Int) (x3 : Nat) (x5 : Nat) (x6 : Nat) (x7 : Nat) (x8 : Int) (x9 : Int) (x10 : Nat) (x12 : Int) (x14 : Int) (x15 : Int) (x19 : Int) (x20 : Int) (x21 : Int) (y0 : Int) (t : xTh) (M : xMe) (hc : c + n ≤ nE) (hs : s + 64 * n ≤ 64 * nE) (hM : xMR M) (hqE : xke tE t) (hx2 : xR x2) (hkx5 : xk t x5 = 19) (hkx6 : xk t x6 = 20) (hkx7 : xk t x7 = 18) (hx8 : xR x8) (hx9 : xR x9) (hkx10 : xk t x10 = 20) (hx12 : xR x12) (hx14 : xR x14) (hx15 : xR x15) (hx19 : xR x19) (hx20 : xR x20) (hx21 : xR x21) (hy0 : xR y0) (hp : p_L_law_684 F G N xs Q (p_L_law_4 F G N xs Q k4) (p_L_law_181 F G N xs Q (p_L_law_4 F G N xs Q k4) (p_L_law_1109 F G N xs Q (p_L_law_4 F G N xs Q k4)) k181) (p_L_law_1043 F G N xs Q (p_L_law_4 F G N xs Q k4) (p_L_law_181 F G N xs Q (p_L_law_4 F G N xs Q k4) (p_L_law_1109 F G N xs Q (p_L_law_4 F G N xs Q k4)) k181) (p_L_law_1109 F G N xs Q (p_L_law_4 F G N xs Q k4))) (p_L_law_1109 F G N xs Q (p_L_law_4 F G N xs Q k4)) n x2 x3 x5 x6 x7 x8 x9 x10 x12 x14 x15 x19 x20 x21 y0 t M), xJ X c s t M 684 [vr x0, vU, vi x2, vr x3, vU, vr x5, vr x6, vr x7, vi x8, vi x9, vr x10, vU, vi x12, vU, vi x14, vi x15, vU, vU, vU, vi x19, vi x20, vi x21, vU, vU, vU, vU] [vi y0] := by
                                        intro c s n x2 x3 x5 x6 x7 x8 x9 x10 x12 x14 x15 x19 x20 x21 y0 t M hc hs hM hqE hx2 hkx5 hkx6 hkx7 hx8 hx9 hkx10 hx12 hx14 hx15 hx19 hx20 hx21 hy0 hp
                                        unfold p_L_law_684 at hp
                                        refine xJ_istore hX dL_law_684 (Nat.le_of_ble_eq_true rfl) rfl ?_
                                        dsimp only [List.set]
                                        refine xJ_iload hX dL_law_686 rfl ?_
                                        have l719 : ∀ (c s n : Nat) (x2 : Int) (x3 : Nat) (x5 : Nat) (x6 : Nat) (x7 : Nat) (x8 : Int) (x9 : Int) (x10 : Nat) (x11 : Int) (x12 : Int) (x14 : Int) (x19 : Int) (x20 : Int) (t : xTh) (M : xMe) (hc : c + n ≤ nE) (hs : s + 64 * n ≤ 64 * nE) (hM : xMR M) (hqE : xke tE t) (hx2 : xR x2) (hkx5 : xk t x5 = 19) (hkx6 : xk t x6 = 20) (hkx7 : xk t x7 = 18) (hx8 : xR x8) (hx9 : xR x9) (hkx10 : xk t x10 = 20) (hx11 : xR x11) (hx12 : xR x12) (hx14 : xR x14) (hx19 : xR x19) (hx20 : xR x20) (hp : p_L_law_719 F G N xs Q (p_L_law_4 F G N xs Q k4) (p_L_law_181 F G N xs Q (p_L_law_4 F G N xs Q k4) (p_L_law_1109 F G N xs Q (p_L_law_4 F G N xs Q k4)) k181) (p_L_law_1043 F G N xs Q (p_L_law_4 F G N xs Q k4) (p_L_law_181 F G N xs Q (p_L_law_4 F G N xs Q k4) (p_L_law_1109 F G N xs Q (p_L_law_4 F G N xs Q k4)) k181) (p_L_law_1109 F G N xs Q (p_L_law_4 F G N xs Q k4))) (p_L_law_1109 F G N xs Q (p_L_law_4 F G N xs Q k4)) n x2 x3 x5 x6 x7 x8 x9 x10 x11 x12 x14 x19 x20 t M), xJ X c s t M 719 [vr x0, vU, vi x2, vr x3, vU, vr x5, vr x6, vr x7, vi x8, vi x9, vr x10, vi x11, vi x12, vU, vi x14, vU, vU, vU, vU, vi x19, vi x20, vU, vU, vU, vU, vU] [] := by
                                          intro c s n x2 x3 x5 x6 x7 x8 x9 x10 x11 x12 x14 x19 x20 t M hc hs hM hqE hx2 hkx5 hkx6 hkx7 hx8 hx9 hkx10 hx11 hx12 hx14 hx19 hx20 hp
                                          unfold p_L_law_719 at hp
                                          refine xJ_iload hX dL_law_719 rfl ?_
                                          have l765 : ∀ (c s n : Nat) (x2 : Int) (x3 : Nat) (x5 : Nat) (x6 : Nat) (x7 : Nat) (x8 : Int) (x9 : Int) (x10 : Nat) (x11 : Int) (x12 : Int) (x14 : Int) (x19 : Int) (x20 : Int) (t : xTh) (M : xMe) (hc : c + n ≤ nE) (hs : s + 64 * n ≤ 64 * nE) (hM : xMR M) (hqE : xke tE t) (hx2 : xR x2) (hkx5 : xk t x5 = 19) (hkx6 : xk t x6 = 20) (hkx7 : xk t x7 = 18) (hx8 : xR x8) (hx9 : xR x9) (hkx10 : xk t x10 = 20) (hx11 : xR x11) (hx12 : xR x12) (hx14 : xR x14) (hx19 : xR x19) (hx20 : xR x20) (hp : p_L_law_765 F G N xs Q (p_L_law_4 F G N xs Q k4) (p_L_law_181 F G N xs Q (p_L_law_4 F G N xs Q k4) (p_L_law_1109 F G N xs Q (p_L_law_4 F G N xs Q k4)) k181) (p_L_law_1043 F G N xs Q (p_L_law_4 F G N xs Q k4) (p_L_law_181 F G N xs Q (p_L_law_4 F G N xs Q k4) (p_L_law_1109 F G N xs Q (p_L_law_4 F G N xs Q k4)) k181) (p_L_law_1109 F G N xs Q (p_L_law_4 F G N xs Q k4))) (p_L_law_1109 F G N xs Q (p_L_law_4 F G N xs Q k4)) n x2 x3 x5 x6 x7 x8 x9 x10 x11 x12 x14 x19 x20 t M), xJ X c s t M 765 [vr x0, vU, vi x2, vr x3, vU, vr x5, vr x6, vr x7, vi x8, vi x9, vr x10, vi x11, vi x12, vU, vi x14, vU, vU, vU, vU, vi x19, vi x20, vU, vU, vU, vU, vU] [] := by
                                            intro c s n x2 x3 x5 x6 x7 x8 x9 x10 x11 x12 x14 x19 x20 t M hc hs hM hqE hx2 hkx5 hkx6 hkx7 hx8 hx9 hkx10 hx11 hx12 hx14 hx19 hx20 hp
                                            unfold p_L_law_765 at hp
                                            refine xJ_aload_n hX dL_law_765 rfl ?_
                                            refine xJ_iload hX dL_law_766 rfl ?_
                                            refine xJ_iload hX dL_law_768 rfl ?_
                                            refine xJ_iload hX dL_law_770 rfl ?_
                                            obtain ⟨hw772, hp⟩ := hp
                                            have hn772 := hw772.1
                                            refine xJ_callSW (As := [_, _, _, _]) hX hB dL_law_772 lkw_L_grant sm_L_grant (c_L_grant hw772.2.1 hw772.2.2 hM hx14 hx19 hx20 hp) (by decide) rfl rfl rfl (Nat.le_of_ble_eq_true rfl) (by omega) (by omega) (fun v t772 M772 hv => ?_)
                                            clear hp
                                            obtain ⟨r772, rfl, h772, hM772, hqw772, hp⟩ := hv
                                            have hq772 := xke_qw hqw772
                                            refine xJ_live fun hlv772 => ?_
                                            replace hp := hp hqw772 hlv772
                                            dsimp only [Option.toList, List.cons_append, List.nil_append]
                                            refine xJ_iload hX dL_law_775 rfl ?_
                                            refine xJ_icmp_ne hX dL_law_777 (tgt := 784) (by decide) h772 hx12 (fun c777 => ?_) (fun c777 => ?_)
                                            · replace hp := hp.1 c777
                                              refine xJ_iconst hX dL_law_784 ?_
                                              refine xJ_istore_n hX dL_law_785 (Nat.le_of_ble_eq_true rfl) rfl ?_
                                              dsimp only [List.set]
                                              refine xJ_goto hX dL_law_786 (tgt := 1043) (by decide) ?_
                                              refine xJ_fg 12 ?_
                                              dsimp only [List.set]
                                              refine xJ_fg 14 ?_
                                              dsimp only [List.set]
                                              refine xJ_fg 19 ?_
                                              dsimp only [List.set]
                                              refine xJ_fg 20 ?_
                                              dsimp only [List.set]
                                              exact l1043 _ _ _ _ _ _ _ _ _ _ _ _ _ _ _ (by omega) (by omega) hM772 (xke_trans hqE hq772) ⟨by decide, by decide⟩ hx2 (xke_k hq772 hkx5 (by decide)) (xke_k hq772 hkx6 (by decide)) (xke_k hq772 hkx7 (by decide)) hx8 hx9 (xke_k hq772 hkx10 (by decide)) hx11 hp
                                            · replace hp := hp.2 c777
                                              refine xJ_iconst hX dL_law_780 ?_
                                              refine xJ_goto hX dL_law_781 (tgt := 785) (by decide) ?_
                                              refine xJ_istore_n hX dL_law_785 (Nat.le_of_ble_eq_true rfl) rfl ?_
                                              dsimp only [List.set]
                                              refine xJ_goto hX dL_law_786 (tgt := 1043) (by decide) ?_
                                              refine xJ_fg 12 ?_
                                              dsimp only [List.set]
                                              refine xJ_fg 14 ?_
                                              dsimp only [List.set]
                                              refine xJ_fg 19 ?_
                                              dsimp only [List.set]
                                              refine xJ_fg 20 ?_
                                              dsimp only [List.set]
                                              exact l1043 _ _ _ _ _ _ _ _ _ _ _ _ _ _ _ (by omega) (by omega) hM772 (xke_trans hqE hq772) ⟨by decide, by decide⟩ hx2 (xke_k hq772 hkx5 (by decide)) (xke_k hq772 hkx6 (by decide)) (xke_k hq772 hkx7 (by decide)) hx8 hx9 (xke_k hq772 hkx10 (by decide)) hx11 hp
                                          refine xJ_if_eq hX dL_law_721 (tgt := 765) (by decide) hx11 (fun c721 => ?_) (fun c721 => ?_)
                                          · replace hp := hp.1 c721
                                            exact l765 _ _ _ _ _ _ _ _ _ _ _ _ _ _ _ _ _ _ (by omega) (by omega) hM hqE hx2 hkx5 hkx6 hkx7 hx8 hx9 hkx10 hx11 hx12 hx14 hx19 hx20 hp
                                          · replace hp := hp.2 c721
                                            refine xJ_aload hX dL_law_724 rfl ?_
                                            refine xJ_aload hX dL_law_726 rfl ?_
                                            obtain ⟨b728, e728, hkb728, hp⟩ := hp
                                            refine xJ_getR (b := b728) hX dL_law_728 fd_L_161 rfl hkx6 e728 ?_
                                            refine xJ_iconst hX dL_law_731 ?_
                                            obtain ⟨hn732, hp⟩ := hp
                                            refine xJ_newIE hX hB hM dL_law_732 ac_int (by decide) (by decide) (by omega) (by omega) (fun a732 t732 M732 ea732 et732 e732 hM732 hq732 hka732 => ?_)
                                            replace hp := hp a732 t732 M732 ea732 et732 e732
                                            refine xJ_dup hX dL_law_734 rfl ?_
                                            refine xJ_iconst hX dL_law_735 ?_
                                            refine xJ_iload hX dL_law_736 rfl ?_
                                            obtain ⟨h738, hp⟩ := hp
                                            refine xJ_iastM hX dL_law_738 hka732 h738.1 h738.2 hM732 hx14 (fun M738 e738 hM738 => ?_)
                                            replace hp := hp M738 e738
                                            refine xJ_dup hX dL_law_739 rfl ?_
                                            refine xJ_iconst hX dL_law_740 ?_
                                            refine xJ_iload hX dL_law_741 rfl ?_
                                            obtain ⟨h743, hp⟩ := hp
                                            refine xJ_iastM hX dL_law_743 hka732 h743.1 h743.2 hM738 hx19 (fun M743 e743 hM743 => ?_)
                                            replace hp := hp M743 e743
                                            refine xJ_dup hX dL_law_744 rfl ?_
                                            refine xJ_iconst hX dL_law_745 ?_
                                            refine xJ_aload hX dL_law_746 rfl ?_
                                            refine xJ_getI hX dL_law_748 fd_L_258 rfl (xke_k hq732 hkx6 (by decide)) ?_
                                            refine xJ_iload hX dL_law_751 rfl ?_
                                            refine xJ_iadd hX dL_law_753 ?_
                                            obtain ⟨h753, hp⟩ := hp
                                            obtain ⟨h754, hp⟩ := hp
                                            refine xJ_iastM hX dL_law_754 hka732 h754.1 h754.2 hM743 h753 (fun M754 e754 hM754 => ?_)
                                            replace hp := hp M754 e754
                                            refine xJ_dup hX dL_law_755 rfl ?_
                                            refine xJ_iconst hX dL_law_756 ?_
                                            refine xJ_iconst hX dL_law_757 ?_
                                            obtain ⟨h758, hp⟩ := hp
                                            refine xJ_iastM hX dL_law_758 hka732 h758.1 h758.2 hM754 ⟨by decide, by decide⟩ (fun M758 e758 hM758 => ?_)
                                            replace hp := hp M758 e758
                                            obtain ⟨k759, hn759, hp⟩ := hp
                                            refine xJ_callS (As := [_, _]) hX hB dL_law_759 lk_L_137 sm_L_with (c_L_with hM758 (xke_k hq732 hkb728 (by decide)) hka732 hp) (by decide) rfl rfl rfl (Nat.le_of_ble_eq_true rfl) (by omega) (by omega) (fun v t759 M759 hv => ?_) (fun _ _ _ q => q.elim)
                                            clear hp
                                            obtain ⟨r759, rfl, hk759, hM759, hq759, hp⟩ := hv
                                            dsimp only [Option.toList, List.cons_append, List.nil_append]
                                            refine xJ_putRE (x := (some r759)) hX dL_law_762 fd_L_161 ft_X14 rfl rfl rfl rfl (xke_k hq759 (xke_k hq732 hkx6 (by decide)) (by decide)) (fun t762 et762 hq762 => ?_)
                                            replace hp := hp t762 et762
                                            exact l765 _ _ _ _ _ _ _ _ _ _ _ _ _ _ _ _ _ _ (by omega) (by omega) hM759 (xke_trans (xke_trans (xke_trans hqE hq732) hq759) hq762) hx2 (xke_k hq762 (xke_k hq759 (xke_k hq732 hkx5 (by decide)) (by decide)) (by decide)) (xke_k hq762 (xke_k hq759 (xke_k hq732 hkx6 (by decide)) (by decide)) (by decide)) (xke_k hq762 (xke_k hq759 (xke_k hq732 hkx7 (by decide)) (by decide)) (by decide)) hx8 hx9 (xke_k hq762 (xke_k hq759 (xke_k hq732 hkx10 (by decide)) (by decide)) (by decide)) hx11 hx12 hx14 hx19 hx20 hp
                                        refine xJ_if_eq hX dL_law_688 (tgt := 719) (by decide) hx15 (fun c688 => ?_) (fun c688 => ?_)
                                        · replace hp := hp.1 c688
                                          refine xJ_fg 15 ?_
                                          dsimp only [List.set]
                                          refine xJ_fg 21 ?_
                                          dsimp only [List.set]
                                          exact l719 _ _ _ _ _ _ _ _ _ _ _ _ _ _ _ _ _ _ (by omega) (by omega) hM hqE hx2 hkx5 hkx6 hkx7 hx8 hx9 hkx10 hy0 hx12 hx14 hx19 hx20 hp
                                        · replace hp := hp.2 c688
                                          refine xJ_iload hX dL_law_691 rfl ?_
                                          refine xJ_if_ne hX dL_law_693 (tgt := 701) (by decide) hx21 (fun c693 => ?_) (fun c693 => ?_)
                                          · replace hp := hp.1 c693
                                            refine xJ_iload hX dL_law_701 rfl ?_
                                            refine xJ_if_eq hX dL_law_703 (tgt := 715) (by decide) hy0 (fun c703 => ?_) (fun c703 => ?_)
                                            · replace hp := hp.1 c703
                                              refine xJ_ldc (-2000000099) hX dL_law_715 kc_L_101 ?_
                                              refine xJ_istore hX dL_law_717 (Nat.le_of_ble_eq_true rfl) rfl ?_
                                              dsimp only [List.set]
                                              refine xJ_fg 15 ?_
                                              dsimp only [List.set]
                                              refine xJ_fg 21 ?_
                                              dsimp only [List.set]
                                              exact l719 _ _ _ _ _ _ _ _ _ _ _ _ _ _ _ _ _ _ (by omega) (by omega) hM hqE hx2 hkx5 hkx6 hkx7 hx8 hx9 hkx10 hy0 ⟨by decide, by decide⟩ hx14 hx19 hx20 hp
                                            · replace hp := hp.2 c703
                                              refine xJ_aload hX dL_law_706 rfl ?_
                                              obtain ⟨b708, e708, hkb708, hp⟩ := hp
                                              refine xJ_getR (b := b708) hX dL_law_708 fd_L_161 rfl hkx6 e708 ?_
                                              refine xJ_alen hX dL_law_711 (by rw [hkb708]; decide) (by rw [hkb708]; decide) ?_
                                              obtain ⟨h711, hp⟩ := hp
                                              refine xJ_goto hX dL_law_712 (tgt := 717) (by decide) ?_
                                              refine xJ_istore hX dL_law_717 (Nat.le_of_ble_eq_true rfl) rfl ?_
                                              dsimp only [List.set]
                                              replace hp := hp _ rfl
                                              refine xJ_fg 15 ?_
                                              dsimp only [List.set]
                                              refine xJ_fg 21 ?_
                                              dsimp only [List.set]
                                              exact l719 _ _ _ _ _ _ _ _ _ _ _ _ _ _ _ _ _ _ (by omega) (by omega) hM hqE hx2 hkx5 hkx6 hkx7 hx8 hx9 hkx10 hy0 h711 hx14 hx19 hx20 hp
                                          · replace hp := hp.2 c693
                                            refine xJ_ldc (-2000000098) hX dL_law_696 kc_L_42 ?_
                                            refine xJ_goto hX dL_law_698 (tgt := 717) (by decide) ?_
                                            refine xJ_istore hX dL_law_717 (Nat.le_of_ble_eq_true rfl) rfl ?_
                                            dsimp only [List.set]
                                            refine xJ_fg 15 ?_
                                            dsimp only [List.set]
                                            refine xJ_fg 21 ?_
                                            dsimp only [List.set]
                                            exact l719 _ _ _ _ _ _ _ _ _ _ _ _ _ _ _ _ _ _ (by omega) (by omega) hM hqE hx2 hkx5 hkx6 hkx7 hx8 hx9 hkx10 hy0 ⟨by decide, by decide⟩ hx14 hx19 hx20 hp
                                      refine xJ_if_eq hX dL_law_660 (tgt := 683) (by decide) hx15 (fun c660 => ?_) (fun c660 => ?_)
                                      · replace hp := hp.1 c660
                                        refine xJ_iconst hX dL_law_683 ?_
                                        exact l684 _ _ _ _ _ _ _ _ _ _ _ _ _ _ _ _ _ _ _ _ (by omega) (by omega) hM hqE hx2 hkx5 hkx6 hkx7 hx8 hx9 hkx10 hx12 hx14 hx15 hx19 hx20 hy0 ⟨by decide, by decide⟩ hp
                                      · replace hp := hp.2 c660
                                        refine xJ_iload hX dL_law_663 rfl ?_
                                        refine xJ_if_eq hX dL_law_665 (tgt := 683) (by decide) hy0 (fun c665 => ?_) (fun c665 => ?_)
                                        · replace hp := hp.1 c665
                                          refine xJ_iconst hX dL_law_683 ?_
                                          exact l684 _ _ _ _ _ _ _ _ _ _ _ _ _ _ _ _ _ _ _ _ (by omega) (by omega) hM hqE hx2 hkx5 hkx6 hkx7 hx8 hx9 hkx10 hx12 hx14 hx15 hx19 hx20 hy0 ⟨by decide, by decide⟩ hp
                                        · replace hp := hp.2 c665
                                          refine xJ_aload hX dL_law_668 rfl ?_
                                          obtain ⟨b670, e670, hkb670, hp⟩ := hp
                                          refine xJ_getR (b := b670) hX dL_law_670 fd_L_161 rfl hkx6 e670 ?_
                                          refine xJ_alen hX dL_law_673 (by rw [hkb670]; decide) (by rw [hkb670]; decide) ?_
                                          obtain ⟨h673, hp⟩ := hp
                                          refine xJ_bipush hX dL_law_674 rfl ?_
                                          refine xJ_icmp_ge hX dL_law_676 (tgt := 683) (by decide) h673 ⟨by decide, by decide⟩ (fun c676 => ?_) (fun c676 => ?_)
                                          · replace hp := hp.1 c676
                                            refine xJ_iconst hX dL_law_683 ?_
                                            exact l684 _ _ _ _ _ _ _ _ _ _ _ _ _ _ _ _ _ _ _ _ (by omega) (by omega) hM hqE hx2 hkx5 hkx6 hkx7 hx8 hx9 hkx10 hx12 hx14 hx15 hx19 hx20 hy0 ⟨by decide, by decide⟩ hp
                                          · replace hp := hp.2 c676
                                            refine xJ_iconst hX dL_law_679 ?_
                                            refine xJ_goto hX dL_law_680 (tgt := 684) (by decide) ?_
                                            exact l684 _ _ _ _ _ _ _ _ _ _ _ _ _ _ _ _ _ _ _ _ (by omega) (by omega) hM hqE hx2 hkx5 hkx6 hkx7 hx8 hx9 hkx10 hx12 hx14 hx15 hx19 hx20 hy0 ⟨by decide, by decide⟩ hp
                                    refine xJ_if_le hX dL_law_635 (tgt := 655) (by decide) hx19 (fun c635 => ?_) (fun c635 => ?_)
                                    · replace hp := hp.1 c635
                                      refine xJ_iconst hX dL_law_655 ?_
                                      exact l656 _ _ _ _ _ _ _ _ _ _ _ _ _ _ _ _ _ _ _ (by omega) (by omega) hM628 (xke_trans hqE hq628) hx2 (xke_k hq628 hkx5 (by decide)) (xke_k hq628 hkx6 (by decide)) (xke_k hq628 hkx7 (by decide)) hx8 hx9 (xke_k hq628 hkx10 (by decide)) hx12 hx14 hx15 hx19 h628 ⟨by decide, by decide⟩ hp
                                    · replace hp := hp.2 c635
                                      refine xJ_iload hX dL_law_638 rfl ?_
                                      refine xJ_if_le hX dL_law_640 (tgt := 655) (by decide) h628 (fun c640 => ?_) (fun c640 => ?_)
                                      · replace hp := hp.1 c640
                                        refine xJ_iconst hX dL_law_655 ?_
                                        exact l656 _ _ _ _ _ _ _ _ _ _ _ _ _ _ _ _ _ _ _ (by omega) (by omega) hM628 (xke_trans hqE hq628) hx2 (xke_k hq628 hkx5 (by decide)) (xke_k hq628 hkx6 (by decide)) (xke_k hq628 hkx7 (by decide)) hx8 hx9 (xke_k hq628 hkx10 (by decide)) hx12 hx14 hx15 hx19 h628 ⟨by decide, by decide⟩ hp
                                      · replace hp := hp.2 c640
                                        refine xJ_iload hX dL_law_643 rfl ?_
                                        refine xJ_sipush hX dL_law_645 rfl ?_
                                        refine xJ_icmp_ge hX dL_law_648 (tgt := 655) (by decide) h628 ⟨by decide, by decide⟩ (fun c648 => ?_) (fun c648 => ?_)
                                        · replace hp := hp.1 c648
                                          refine xJ_iconst hX dL_law_655 ?_
                                          exact l656 _ _ _ _ _ _ _ _ _ _ _ _ _ _ _ _ _ _ _ (by omega) (by omega) hM628 (xke_trans hqE hq628) hx2 (xke_k hq628 hkx5 (by decide)) (xke_k hq628 hkx6 (by decide)) (xke_k hq628 hkx7 (by decide)) hx8 hx9 (xke_k hq628 hkx10 (by decide)) hx12 hx14 hx15 hx19 h628 ⟨by decide, by decide⟩ hp
                                        · replace hp := hp.2 c648
                                          refine xJ_iconst hX dL_law_651 ?_
                                          refine xJ_goto hX dL_law_652 (tgt := 656) (by decide) ?_
                                          exact l656 _ _ _ _ _ _ _ _ _ _ _ _ _ _ _ _ _ _ _ (by omega) (by omega) hM628 (xke_trans hqE hq628) hx2 (xke_k hq628 hkx5 (by decide)) (xke_k hq628 hkx6 (by decide)) (xke_k hq628 hkx7 (by decide)) hx8 hx9 (xke_k hq628 hkx10 (by decide)) hx12 hx14 hx15 hx19 h628 ⟨by decide, by decide⟩ hp
                                  refine xJ_if_ne hX dL_law_617 (tgt := 626) (by decide) h614 (fun c617 => ?_) (fun c617 => ?_)
                                  · replace hp := hp.1 c617
                                    refine xJ_bipush hX dL_law_626 rfl ?_
                                    exact l628 _ _ _ _ _ _ _ _ _ _ _ _ _ _ _ _ _ _ _ (by omega) (by omega) hM614 (xke_trans (xke_trans (xke_trans hqE hq262) hq603) hq614) hx2 (xke_k hq614 (xke_k hq603 (xke_k hq262 hkx5 (by decide)) (by decide)) (by decide)) (xke_k hq614 (xke_k hq603 (xke_k hq262 hkx6 (by decide)) (by decide)) (by decide)) (xke_k hq614 (xke_k hq603 (xke_k hq262 hkx7 (by decide)) (by decide)) (by decide)) hx8 hx9 (xke_k hq614 (xke_k hq603 (xke_k hq262 hkx10 (by decide)) (by decide)) (by decide)) hx12 hx14 hy0 h603 ⟨by decide, by decide⟩ (xke_k hq614 (xke_k hq603 (xke_k hq262 hkx5 (by decide)) (by decide)) (by decide)) hp
                                  · replace hp := hp.2 c617
                                    refine xJ_sipush hX dL_law_620 rfl ?_
                                    refine xJ_goto hX dL_law_623 (tgt := 628) (by decide) ?_
                                    exact l628 _ _ _ _ _ _ _ _ _ _ _ _ _ _ _ _ _ _ _ (by omega) (by omega) hM614 (xke_trans (xke_trans (xke_trans hqE hq262) hq603) hq614) hx2 (xke_k hq614 (xke_k hq603 (xke_k hq262 hkx5 (by decide)) (by decide)) (by decide)) (xke_k hq614 (xke_k hq603 (xke_k hq262 hkx6 (by decide)) (by decide)) (by decide)) (xke_k hq614 (xke_k hq603 (xke_k hq262 hkx7 (by decide)) (by decide)) (by decide)) hx8 hx9 (xke_k hq614 (xke_k hq603 (xke_k hq262 hkx10 (by decide)) (by decide)) (by decide)) hx12 hx14 hy0 h603 ⟨by decide, by decide⟩ (xke_k hq614 (xke_k hq603 (xke_k hq262 hkx5 (by decide)) (by decide)) (by decide)) hp
                                · refine xJ_tIn hX dL_law_265 h262 (by omega) (by omega) (off := 524) (by rw [hc265]; rfl) (tgt := 789) (by decide) ?_
                                  replace hp := hp.2.2.2.2 hc265
                                  refine xJ_aload hX dL_law_789 rfl ?_
                                  refine xJ_aload hX dL_law_791 rfl ?_
                                  obtain ⟨b793, e793, hkb793, hp⟩ := hp
                                  refine xJ_getR (b := b793) hX dL_law_793 fd_L_161 rfl (xke_k hq262 hkx6 (by decide)) e793 ?_
                                  refine xJ_alen hX dL_law_796 (by rw [hkb793]; decide) (by rw [hkb793]; decide) ?_
                                  obtain ⟨h796, hp⟩ := hp
                                  refine xJ_iconst hX dL_law_797 ?_
                                  refine xJ_iadd hX dL_law_798 ?_
                                  obtain ⟨h798, hp⟩ := hp
                                  obtain ⟨k799, hn799, hp⟩ := hp
                                  refine xJ_callV (As := [_]) hX hB dL_law_799 lk_L_128 im_X13_below se_X13_below rfl (by decide) (xke_k hq262 hkx5 (by decide)) (c_X13_below hM262 (xke_k hq262 hkx5 (by decide)) h798 hp) (by decide) rfl rfl rfl (Nat.le_of_ble_eq_true rfl) (by omega) (by omega) (fun v t799 M799 hv => ?_) (fun _ _ _ q => q.elim)
                                  clear hp
                                  obtain ⟨r799, rfl, h799, hM799, hq799, hp⟩ := hv
                                  dsimp only [Option.toList, List.cons_append, List.nil_append]
                                  refine xJ_istore hX dL_law_802 (Nat.le_of_ble_eq_true rfl) rfl ?_
                                  dsimp only [List.set]
                                  refine xJ_iload hX dL_law_804 rfl ?_
                                  have l825 : ∀ (c s n : Nat) (x2 : Int) (x3 : Nat) (x5 : Nat) (x6 : Nat) (x7 : Nat) (x8 : Int) (x9 : Int) (x10 : Nat) (x12 : Int) (x14 : Int) (x22 : Int) (y0 : Int) (t : xTh) (M : xMe) (hc : c + n ≤ nE) (hs : s + 64 * n ≤ 64 * nE) (hM : xMR M) (hqE : xke tE t) (hx2 : xR x2) (hkx5 : xk t x5 = 19) (hkx6 : xk t x6 = 20) (hkx7 : xk t x7 = 18) (hx8 : xR x8) (hx9 : xR x9) (hkx10 : xk t x10 = 20) (hx12 : xR x12) (hx14 : xR x14) (hx22 : xR x22) (hy0 : xR y0) (hp : p_L_law_825 F G N xs Q (p_L_law_4 F G N xs Q k4) (p_L_law_181 F G N xs Q (p_L_law_4 F G N xs Q k4) (p_L_law_1109 F G N xs Q (p_L_law_4 F G N xs Q k4)) k181) (p_L_law_1043 F G N xs Q (p_L_law_4 F G N xs Q k4) (p_L_law_181 F G N xs Q (p_L_law_4 F G N xs Q k4) (p_L_law_1109 F G N xs Q (p_L_law_4 F G N xs Q k4)) k181) (p_L_law_1109 F G N xs Q (p_L_law_4 F G N xs Q k4))) (p_L_law_1109 F G N xs Q (p_L_law_4 F G N xs Q k4)) n x2 x3 x5 x6 x7 x8 x9 x10 x12 x14 x22 y0 t M), xJ X c s t M 825 [vr x0, vU, vi x2, vr x3, vU, vr x5, vr x6, vr x7, vi x8, vi x9, vr x10, vU, vi x12, vU, vi x14, vU, vU, vU, vU, vU, vU, vU, vi x22, vU, vU, vU] [vi y0] := by
                                    intro c s n x2 x3 x5 x6 x7 x8 x9 x10 x12 x14 x22 y0 t M hc hs hM hqE hx2 hkx5 hkx6 hkx7 hx8 hx9 hkx10 hx12 hx14 hx22 hy0 hp
                                    unfold p_L_law_825 at hp
                                    refine xJ_istore hX dL_law_825 (Nat.le_of_ble_eq_true rfl) rfl ?_
                                    dsimp only [List.set]
                                    refine xJ_iload hX dL_law_827 rfl ?_
                                    have l924 : ∀ (c s n : Nat) (x2 : Int) (x3 : Nat) (x5 : Nat) (x6 : Nat) (x7 : Nat) (x8 : Int) (x9 : Int) (x10 : Nat) (x11 : Int) (x12 : Int) (x14 : Int) (x22 : Int) (t : xTh) (M : xMe) (hc : c + n ≤ nE) (hs : s + 64 * n ≤ 64 * nE) (hM : xMR M) (hqE : xke tE t) (hx2 : xR x2) (hkx5 : xk t x5 = 19) (hkx6 : xk t x6 = 20) (hkx7 : xk t x7 = 18) (hx8 : xR x8) (hx9 : xR x9) (hkx10 : xk t x10 = 20) (hx11 : xR x11) (hx12 : xR x12) (hx14 : xR x14) (hx22 : xR x22) (hp : p_L_law_924 F G N xs Q (p_L_law_4 F G N xs Q k4) (p_L_law_181 F G N xs Q (p_L_law_4 F G N xs Q k4) (p_L_law_1109 F G N xs Q (p_L_law_4 F G N xs Q k4)) k181) (p_L_law_1043 F G N xs Q (p_L_law_4 F G N xs Q k4) (p_L_law_181 F G N xs Q (p_L_law_4 F G N xs Q k4) (p_L_law_1109 F G N xs Q (p_L_law_4 F G N xs Q k4)) k181) (p_L_law_1109 F G N xs Q (p_L_law_4 F G N xs Q k4))) (p_L_law_1109 F G N xs Q (p_L_law_4 F G N xs Q k4)) n x2 x3 x5 x6 x7 x8 x9 x10 x11 x12 x14 x22 t M), xJ X c s t M 924 [vr x0, vU, vi x2, vr x3, vU, vr x5, vr x6, vr x7, vi x8, vi x9, vr x10, vi x11, vi x12, vU, vi x14, vU, vU, vU, vU, vU, vU, vU, vi x22, vU, vU, vU] [] := by
                                      intro c s n x2 x3 x5 x6 x7 x8 x9 x10 x11 x12 x14 x22 t M hc hs hM hqE hx2 hkx5 hkx6 hkx7 hx8 hx9 hkx10 hx11 hx12 hx14 hx22 hp
                                      unfold p_L_law_924 at hp
                                      refine xJ_aload_n hX dL_law_924 rfl ?_
                                      refine xJ_iload hX dL_law_925 rfl ?_
                                      refine xJ_iload hX dL_law_927 rfl ?_
                                      obtain ⟨hw929, hp⟩ := hp
                                      have hn929 := hw929.1
                                      refine xJ_callSW (As := [_, _, _]) hX hB dL_law_929 lkw_L_forward sm_L_forward (c_L_forward hw929.2.1 hw929.2.2 hM hx22 hx14 hp) (by decide) rfl rfl rfl (Nat.le_of_ble_eq_true rfl) (by omega) (by omega) (fun v t929 M929 hv => ?_)
                                      clear hp
                                      obtain ⟨r929, rfl, h929, hM929, hqw929, hp⟩ := hv
                                      have hq929 := xke_qw hqw929
                                      refine xJ_live fun hlv929 => ?_
                                      replace hp := hp hqw929 hlv929
                                      dsimp only [Option.toList, List.cons_append, List.nil_append]
                                      refine xJ_iload hX dL_law_932 rfl ?_
                                      refine xJ_icmp_ne hX dL_law_934 (tgt := 941) (by decide) h929 hx12 (fun c934 => ?_) (fun c934 => ?_)
                                      · replace hp := hp.1 c934
                                        refine xJ_iconst hX dL_law_941 ?_
                                        refine xJ_istore_n hX dL_law_942 (Nat.le_of_ble_eq_true rfl) rfl ?_
                                        dsimp only [List.set]
                                        refine xJ_goto hX dL_law_943 (tgt := 1043) (by decide) ?_
                                        refine xJ_fg 12 ?_
                                        dsimp only [List.set]
                                        refine xJ_fg 14 ?_
                                        dsimp only [List.set]
                                        refine xJ_fg 22 ?_
                                        dsimp only [List.set]
                                        exact l1043 _ _ _ _ _ _ _ _ _ _ _ _ _ _ _ (by omega) (by omega) hM929 (xke_trans hqE hq929) ⟨by decide, by decide⟩ hx2 (xke_k hq929 hkx5 (by decide)) (xke_k hq929 hkx6 (by decide)) (xke_k hq929 hkx7 (by decide)) hx8 hx9 (xke_k hq929 hkx10 (by decide)) hx11 hp
                                      · replace hp := hp.2 c934
                                        refine xJ_iconst hX dL_law_937 ?_
                                        refine xJ_goto hX dL_law_938 (tgt := 942) (by decide) ?_
                                        refine xJ_istore_n hX dL_law_942 (Nat.le_of_ble_eq_true rfl) rfl ?_
                                        dsimp only [List.set]
                                        refine xJ_goto hX dL_law_943 (tgt := 1043) (by decide) ?_
                                        refine xJ_fg 12 ?_
                                        dsimp only [List.set]
                                        refine xJ_fg 14 ?_
                                        dsimp only [List.set]
                                        refine xJ_fg 22 ?_
                                        dsimp only [List.set]
                                        exact l1043 _ _ _ _ _ _ _ _ _ _ _ _ _ _ _ (by omega) (by omega) hM929 (xke_trans hqE hq929) ⟨by decide, by decide⟩ hx2 (xke_k hq929 hkx5 (by decide)) (xke_k hq929 hkx6 (by decide)) (xke_k hq929 hkx7 (by decide)) hx8 hx9 (xke_k hq929 hkx10 (by decide)) hx11 hp
                                    refine xJ_if_eq hX dL_law_829 (tgt := 924) (by decide) hy0 (fun c829 => ?_) (fun c829 => ?_)
                                    · replace hp := hp.1 c829
                                      exact l924 _ _ _ _ _ _ _ _ _ _ _ _ _ _ _ _ _ (by omega) (by omega) hM hqE hx2 hkx5 hkx6 hkx7 hx8 hx9 hkx10 hy0 hx12 hx14 hx22 hp
                                    · replace hp := hp.2 c829
                                      refine xJ_aload hX dL_law_832 rfl ?_
                                      obtain ⟨b834, e834, hkb834, hp⟩ := hp
                                      refine xJ_getR (b := b834) hX dL_law_834 fd_L_161 rfl hkx6 e834 ?_
                                      refine xJ_iload hX dL_law_837 rfl ?_
                                      obtain ⟨h839, hp⟩ := hp
                                      obtain ⟨b839, e839, hkb839, hp⟩ := hp
                                      refine xJ_aaldOb hX dL_law_839 hkb834 h839.1 h839.2 e839 ?_
                                      refine xJ_astore hX dL_law_840 (Nat.le_of_ble_eq_true rfl) rfl ?_
                                      dsimp only [List.set]
                                      refine xJ_aload hX dL_law_842 rfl ?_
                                      refine xJ_iconst hX dL_law_844 ?_
                                      obtain ⟨h845, hp⟩ := hp
                                      refine xJ_iald hX dL_law_845 hkb839 h845.1 h845.2 ?_
                                      refine xJ_iload hX dL_law_846 rfl ?_
                                      have l876 : ∀ (c s n : Nat) (x2 : Int) (x3 : Nat) (x5 : Nat) (x6 : Nat) (x7 : Nat) (x8 : Int) (x9 : Int) (x10 : Nat) (x11 : Int) (x14 : Int) (x22 : Int) (x23 : Nat) (y0 : Int) (t : xTh) (M : xMe) (hc : c + n ≤ nE) (hs : s + 64 * n ≤ 64 * nE) (hM : xMR M) (hqE : xke tE t) (hx2 : xR x2) (hkx5 : xk t x5 = 19) (hkx6 : xk t x6 = 20) (hkx7 : xk t x7 = 18) (hx8 : xR x8) (hx9 : xR x9) (hkx10 : xk t x10 = 20) (hx11 : xR x11) (hx14 : xR x14) (hx22 : xR x22) (hkx23 : xk t x23 = 14) (hy0 : xR y0) (hp : p_L_law_876 F G N xs Q (p_L_law_4 F G N xs Q k4) (p_L_law_181 F G N xs Q (p_L_law_4 F G N xs Q k4) (p_L_law_1109 F G N xs Q (p_L_law_4 F G N xs Q k4)) k181) (p_L_law_924 F G N xs Q (p_L_law_4 F G N xs Q k4) (p_L_law_181 F G N xs Q (p_L_law_4 F G N xs Q k4) (p_L_law_1109 F G N xs Q (p_L_law_4 F G N xs Q k4)) k181) (p_L_law_1043 F G N xs Q (p_L_law_4 F G N xs Q k4) (p_L_law_181 F G N xs Q (p_L_law_4 F G N xs Q k4) (p_L_law_1109 F G N xs Q (p_L_law_4 F G N xs Q k4)) k181) (p_L_law_1109 F G N xs Q (p_L_law_4 F G N xs Q k4))) (p_L_law_1109 F G N xs Q (p_L_law_4 F G N xs Q k4))) (p_L_law_1043 F G N xs Q (p_L_law_4 F G N xs Q k4) (p_L_law_181 F G N xs Q (p_L_law_4 F G N xs Q k4) (p_L_law_1109 F G N xs Q (p_L_law_4 F G N xs Q k4)) k181) (p_L_law_1109 F G N xs Q (p_L_law_4 F G N xs Q k4))) (p_L_law_1109 F G N xs Q (p_L_law_4 F G N xs Q k4)) n x2 x3 x5 x6 x7 x8 x9 x10 x11 x14 x22 x23 y0 t M), xJ X c s t M 876 [vr x0, vU, vi x2, vr x3, vU, vr x5, vr x6, vr x7, vi x8, vi x9, vr x10, vi x11, vU, vU, vi x14, vU, vU, vU, vU, vU, vU, vU, vi x22, vr x23, vU, vU] [vi y0] := by
                                        intro c s n x2 x3 x5 x6 x7 x8 x9 x10 x11 x14 x22 x23 y0 t M hc hs hM hqE hx2 hkx5 hkx6 hkx7 hx8 hx9 hkx10 hx11 hx14 hx22 hkx23 hy0 hp
                                        unfold p_L_law_876 at hp
                                        refine xJ_istore hX dL_law_876 (Nat.le_of_ble_eq_true rfl) rfl ?_
                                        dsimp only [List.set]
                                        refine xJ_iload hX dL_law_878 rfl ?_
                                        have l909 : ∀ (c s n : Nat) (x2 : Int) (x3 : Nat) (x5 : Nat) (x6 : Nat) (x7 : Nat) (x8 : Int) (x9 : Int) (x10 : Nat) (x11 : Int) (x14 : Int) (x22 : Int) (x23 : Nat) (x24 : Int) (t : xTh) (M : xMe) (hc : c + n ≤ nE) (hs : s + 64 * n ≤ 64 * nE) (hM : xMR M) (hqE : xke tE t) (hx2 : xR x2) (hkx5 : xk t x5 = 19) (hkx6 : xk t x6 = 20) (hkx7 : xk t x7 = 18) (hx8 : xR x8) (hx9 : xR x9) (hkx10 : xk t x10 = 20) (hx11 : xR x11) (hx14 : xR x14) (hx22 : xR x22) (hkx23 : xk t x23 = 14) (hx24 : xR x24) (hp : p_L_law_909 F G N xs Q (p_L_law_4 F G N xs Q k4) (p_L_law_181 F G N xs Q (p_L_law_4 F G N xs Q k4) (p_L_law_1109 F G N xs Q (p_L_law_4 F G N xs Q k4)) k181) (p_L_law_924 F G N xs Q (p_L_law_4 F G N xs Q k4) (p_L_law_181 F G N xs Q (p_L_law_4 F G N xs Q k4) (p_L_law_1109 F G N xs Q (p_L_law_4 F G N xs Q k4)) k181) (p_L_law_1043 F G N xs Q (p_L_law_4 F G N xs Q k4) (p_L_law_181 F G N xs Q (p_L_law_4 F G N xs Q k4) (p_L_law_1109 F G N xs Q (p_L_law_4 F G N xs Q k4)) k181) (p_L_law_1109 F G N xs Q (p_L_law_4 F G N xs Q k4))) (p_L_law_1109 F G N xs Q (p_L_law_4 F G N xs Q k4))) (p_L_law_1043 F G N xs Q (p_L_law_4 F G N xs Q k4) (p_L_law_181 F G N xs Q (p_L_law_4 F G N xs Q k4) (p_L_law_1109 F G N xs Q (p_L_law_4 F G N xs Q k4)) k181) (p_L_law_1109 F G N xs Q (p_L_law_4 F G N xs Q k4))) (p_L_law_1109 F G N xs Q (p_L_law_4 F G N xs Q k4)) n x2 x3 x5 x6 x7 x8 x9 x10 x11 x14 x22 x23 x24 t M), xJ X c s t M 909 [vr x0, vU, vi x2, vr x3, vU, vr x5, vr x6, vr x7, vi x8, vi x9, vr x10, vi x11, vU, vU, vi x14, vU, vU, vU, vU, vU, vU, vU, vi x22, vr x23, vi x24, vU] [] := by
                                          intro c s n x2 x3 x5 x6 x7 x8 x9 x10 x11 x14 x22 x23 x24 t M hc hs hM hqE hx2 hkx5 hkx6 hkx7 hx8 hx9 hkx10 hx11 hx14 hx22 hkx23 hx24 hp
                                          unfold p_L_law_909 at hp
                                          refine xJ_iload hX dL_law_909 rfl ?_
                                          refine xJ_if_eq hX dL_law_911 (tgt := 918) (by decide) hx24 (fun c911 => ?_) (fun c911 => ?_)
                                          · replace hp := hp.1 c911
                                            refine xJ_aload hX dL_law_918 rfl ?_
                                            refine xJ_iconst hX dL_law_920 ?_
                                            obtain ⟨h921, hp⟩ := hp
                                            refine xJ_iald hX dL_law_921 hkx23 h921.1 h921.2 ?_
                                            refine xJ_istore hX dL_law_922 (Nat.le_of_ble_eq_true rfl) rfl ?_
                                            dsimp only [List.set]
                                            replace hp := hp _ rfl
                                            refine xJ_fg 23 ?_
                                            dsimp only [List.set]
                                            refine xJ_fg 24 ?_
                                            dsimp only [List.set]
                                            exact l924 _ _ _ _ _ _ _ _ _ _ _ _ _ _ _ _ _ (by omega) (by omega) hM hqE hx2 hkx5 hkx6 hkx7 hx8 hx9 hkx10 hx11 (hM _ _) hx14 hx22 hp
                                          · replace hp := hp.2 c911
                                            refine xJ_iconst hX dL_law_914 ?_
                                            refine xJ_goto hX dL_law_915 (tgt := 922) (by decide) ?_
                                            refine xJ_istore hX dL_law_922 (Nat.le_of_ble_eq_true rfl) rfl ?_
                                            dsimp only [List.set]
                                            refine xJ_fg 23 ?_
                                            dsimp only [List.set]
                                            refine xJ_fg 24 ?_
                                            dsimp only [List.set]
                                            exact l924 _ _ _ _ _ _ _ _ _ _ _ _ _ _ _ _ _ (by omega) (by omega) hM hqE hx2 hkx5 hkx6 hkx7 hx8 hx9 hkx10 hx11 ⟨by decide, by decide⟩ hx14 hx22 hp
                                        refine xJ_if_ne hX dL_law_880 (tgt := 909) (by decide) hy0 (fun c880 => ?_) (fun c880 => ?_)
                                        · replace hp := hp.1 c880
                                          exact l909 _ _ _ _ _ _ _ _ _ _ _ _ _ _ _ _ _ _ (by omega) (by omega) hM hqE hx2 hkx5 hkx6 hkx7 hx8 hx9 hkx10 hx11 hx14 hx22 hkx23 hy0 hp
                                        · replace hp := hp.2 c880
                                          refine xJ_aload hX dL_law_883 rfl ?_
                                          refine xJ_iconst hX dL_law_885 ?_
                                          refine xJ_iload hX dL_law_886 rfl ?_
                                          obtain ⟨h888, hp⟩ := hp
                                          refine xJ_iastM hX dL_law_888 hkx23 h888.1 h888.2 hM hx14 (fun M888 e888 hM888 => ?_)
                                          replace hp := hp M888 e888
                                          refine xJ_aload hX dL_law_889 rfl ?_
                                          refine xJ_iconst hX dL_law_891 ?_
                                          refine xJ_dup2 hX dL_law_892 rfl rfl ?_
                                          obtain ⟨h893, hp⟩ := hp
                                          refine xJ_iald hX dL_law_893 hkx23 h893.1 h893.2 ?_
                                          refine xJ_aload hX dL_law_894 rfl ?_
                                          refine xJ_getI hX dL_law_896 fd_L_165 rfl hkx6 ?_
                                          refine xJ_isub hX dL_law_899 ?_
                                          obtain ⟨h899, hp⟩ := hp
                                          obtain ⟨h900, hp⟩ := hp
                                          refine xJ_iastM hX dL_law_900 hkx23 h900.1 h900.2 hM888 h899 (fun M900 e900 hM900 => ?_)
                                          replace hp := hp M900 e900
                                          refine xJ_aload hX dL_law_901 rfl ?_
                                          refine xJ_iconst hX dL_law_903 ?_
                                          refine xJ_dup2 hX dL_law_904 rfl rfl ?_
                                          obtain ⟨h905, hp⟩ := hp
                                          refine xJ_iald hX dL_law_905 hkx23 h905.1 h905.2 ?_
                                          refine xJ_iconst hX dL_law_906 ?_
                                          refine xJ_iadd hX dL_law_907 ?_
                                          obtain ⟨h907, hp⟩ := hp
                                          obtain ⟨h908, hp⟩ := hp
                                          refine xJ_iastM hX dL_law_908 hkx23 h908.1 h908.2 hM900 h907 (fun M908 e908 hM908 => ?_)
                                          replace hp := hp M908 e908
                                          exact l909 _ _ _ _ _ _ _ _ _ _ _ _ _ _ _ _ _ _ (by omega) (by omega) hM908 hqE hx2 hkx5 hkx6 hkx7 hx8 hx9 hkx10 hx11 hx14 hx22 hkx23 hy0 hp
                                      refine xJ_icmp_eq hX dL_law_848 (tgt := 871) (by decide) (hM _ _) hx14 (fun c848 => ?_) (fun c848 => ?_)
                                      · replace hp := hp.1 c848
                                        refine xJ_iconst hX dL_law_871 ?_
                                        refine xJ_goto hX dL_law_872 (tgt := 876) (by decide) ?_
                                        refine xJ_fg 12 ?_
                                        dsimp only [List.set]
                                        exact l876 _ _ _ _ _ _ _ _ _ _ _ _ _ _ _ _ _ _ (by omega) (by omega) hM hqE hx2 hkx5 hkx6 hkx7 hx8 hx9 hkx10 hy0 hx14 hx22 hkb839 ⟨by decide, by decide⟩ hp
                                      · replace hp := hp.2 c848
                                        refine xJ_aload hX dL_law_851 rfl ?_
                                        refine xJ_iconst hX dL_law_853 ?_
                                        obtain ⟨h854, hp⟩ := hp
                                        refine xJ_iald hX dL_law_854 hkb839 h854.1 h854.2 ?_
                                        refine xJ_iconst hX dL_law_855 ?_
                                        refine xJ_icmp_eq hX dL_law_856 (tgt := 871) (by decide) (hM _ _) ⟨by decide, by decide⟩ (fun c856 => ?_) (fun c856 => ?_)
                                        · replace hp := hp.1 c856
                                          refine xJ_iconst hX dL_law_871 ?_
                                          refine xJ_goto hX dL_law_872 (tgt := 876) (by decide) ?_
                                          refine xJ_fg 12 ?_
                                          dsimp only [List.set]
                                          exact l876 _ _ _ _ _ _ _ _ _ _ _ _ _ _ _ _ _ _ (by omega) (by omega) hM hqE hx2 hkx5 hkx6 hkx7 hx8 hx9 hkx10 hy0 hx14 hx22 hkb839 ⟨by decide, by decide⟩ hp
                                        · replace hp := hp.2 c856
                                          refine xJ_aload hX dL_law_859 rfl ?_
                                          refine xJ_iconst hX dL_law_861 ?_
                                          obtain ⟨h862, hp⟩ := hp
                                          refine xJ_iald hX dL_law_862 hkb839 h862.1 h862.2 ?_
                                          refine xJ_aload hX dL_law_863 rfl ?_
                                          refine xJ_getI hX dL_law_865 fd_L_165 rfl hkx6 ?_
                                          refine xJ_icmp_gt hX dL_law_868 (tgt := 875) (by decide) (hM _ _) (hM _ _) (fun c868 => ?_) (fun c868 => ?_)
                                          · replace hp := hp.1 c868
                                            refine xJ_iconst hX dL_law_875 ?_
                                            refine xJ_fg 12 ?_
                                            dsimp only [List.set]
                                            exact l876 _ _ _ _ _ _ _ _ _ _ _ _ _ _ _ _ _ _ (by omega) (by omega) hM hqE hx2 hkx5 hkx6 hkx7 hx8 hx9 hkx10 hy0 hx14 hx22 hkb839 ⟨by decide, by decide⟩ hp
                                          · replace hp := hp.2 c868
                                            refine xJ_iconst hX dL_law_871 ?_
                                            refine xJ_goto hX dL_law_872 (tgt := 876) (by decide) ?_
                                            refine xJ_fg 12 ?_
                                            dsimp only [List.set]
                                            exact l876 _ _ _ _ _ _ _ _ _ _ _ _ _ _ _ _ _ _ (by omega) (by omega) hM hqE hx2 hkx5 hkx6 hkx7 hx8 hx9 hkx10 hy0 hx14 hx22 hkb839 ⟨by decide, by decide⟩ hp
                                  refine xJ_if_eq hX dL_law_806 (tgt := 824) (by decide) hy0 (fun c806 => ?_) (fun c806 => ?_)
                                  · replace hp := hp.1 c806
                                    refine xJ_iconst hX dL_law_824 ?_
                                    refine xJ_fg 15 ?_
                                    dsimp only [List.set]
                                    exact l825 _ _ _ _ _ _ _ _ _ _ _ _ _ _ _ _ _ (by omega) (by omega) hM799 (xke_trans (xke_trans hqE hq262) hq799) hx2 (xke_k hq799 (xke_k hq262 hkx5 (by decide)) (by decide)) (xke_k hq799 (xke_k hq262 hkx6 (by decide)) (by decide)) (xke_k hq799 (xke_k hq262 hkx7 (by decide)) (by decide)) hx8 hx9 (xke_k hq799 (xke_k hq262 hkx10 (by decide)) (by decide)) hx12 hx14 h799 ⟨by decide, by decide⟩ hp
                                  · replace hp := hp.2 c806
                                    refine xJ_iload hX dL_law_809 rfl ?_
                                    refine xJ_aload hX dL_law_811 rfl ?_
                                    obtain ⟨b813, e813, hkb813, hp⟩ := hp
                                    refine xJ_getR (b := b813) hX dL_law_813 fd_L_161 rfl (xke_k hq799 (xke_k hq262 hkx6 (by decide)) (by decide)) e813 ?_
                                    refine xJ_alen hX dL_law_816 (by rw [hkb813]; decide) (by rw [hkb813]; decide) ?_
                                    obtain ⟨h816, hp⟩ := hp
                                    refine xJ_icmp_ge hX dL_law_817 (tgt := 824) (by decide) h799 h816 (fun c817 => ?_) (fun c817 => ?_)
                                    · replace hp := hp.1 c817
                                      refine xJ_iconst hX dL_law_824 ?_
                                      refine xJ_fg 15 ?_
                                      dsimp only [List.set]
                                      exact l825 _ _ _ _ _ _ _ _ _ _ _ _ _ _ _ _ _ (by omega) (by omega) hM799 (xke_trans (xke_trans hqE hq262) hq799) hx2 (xke_k hq799 (xke_k hq262 hkx5 (by decide)) (by decide)) (xke_k hq799 (xke_k hq262 hkx6 (by decide)) (by decide)) (xke_k hq799 (xke_k hq262 hkx7 (by decide)) (by decide)) hx8 hx9 (xke_k hq799 (xke_k hq262 hkx10 (by decide)) (by decide)) hx12 hx14 h799 ⟨by decide, by decide⟩ hp
                                    · replace hp := hp.2 c817
                                      refine xJ_iconst hX dL_law_820 ?_
                                      refine xJ_goto hX dL_law_821 (tgt := 825) (by decide) ?_
                                      refine xJ_fg 15 ?_
                                      dsimp only [List.set]
                                      exact l825 _ _ _ _ _ _ _ _ _ _ _ _ _ _ _ _ _ (by omega) (by omega) hM799 (xke_trans (xke_trans hqE hq262) hq799) hx2 (xke_k hq799 (xke_k hq262 hkx5 (by decide)) (by decide)) (xke_k hq799 (xke_k hq262 hkx6 (by decide)) (by decide)) (xke_k hq799 (xke_k hq262 hkx7 (by decide)) (by decide)) hx8 hx9 (xke_k hq799 (xke_k hq262 hkx10 (by decide)) (by decide)) hx12 hx14 h799 ⟨by decide, by decide⟩ hp
                            refine xJ_icmp_ge hX dL_law_248 (tgt := 255) (by decide) h239 hx13 (fun c248 => ?_) (fun c248 => ?_)
                            · replace hp := hp.1 c248
                              refine xJ_iconst hX dL_law_255 ?_
                              refine xJ_fg 13 ?_
                              dsimp only [List.set]
                              exact l256 _ _ _ _ _ _ _ _ _ _ _ _ _ _ _ _ (by omega) (by omega) hM239 (xke_trans hqE hq239) hx2 (xke_k hq239 hkx5 (by decide)) (xke_k hq239 hkx6 (by decide)) (xke_k hq239 hkx7 (by decide)) hx8 hx9 (xke_k hq239 hkx10 (by decide)) hx12 h239 ⟨by decide, by decide⟩ hp
                            · replace hp := hp.2 c248
                              refine xJ_iconst hX dL_law_251 ?_
                              refine xJ_goto hX dL_law_252 (tgt := 256) (by decide) ?_
                              refine xJ_fg 13 ?_
                              dsimp only [List.set]
                              exact l256 _ _ _ _ _ _ _ _ _ _ _ _ _ _ _ _ (by omega) (by omega) hM239 (xke_trans hqE hq239) hx2 (xke_k hq239 hkx5 (by decide)) (xke_k hq239 hkx6 (by decide)) (xke_k hq239 hkx7 (by decide)) hx8 hx9 (xke_k hq239 hkx10 (by decide)) hx12 h239 ⟨by decide, by decide⟩ hp
                          refine xJ_if_eq hX dL_law_225 (tgt := 233) (by decide) h222 (fun c225 => ?_) (fun c225 => ?_)
                          · replace hp := hp.1 c225
                            refine xJ_iconst hX dL_law_233 ?_
                            refine xJ_goto hX dL_law_234 (tgt := 238) (by decide) ?_
                            refine xJ_fg 1 ?_
                            dsimp only [List.set]
                            refine xJ_fg 11 ?_
                            dsimp only [List.set]
                            exact l238 _ _ _ _ _ _ _ _ _ _ _ _ _ _ _ _ _ _ (by omega) (by omega) hM222 (xke_trans (xke_trans hqE hq194) hq222) hx2 (xke_k hq222 (xke_k hq194 hkx5 (by decide)) (by decide)) (xke_k hq222 (xke_k hq194 hkx6 (by decide)) (by decide)) (xke_k hq222 (xke_k hq194 hkx7 (by decide)) (by decide)) hx8 hx9 (xke_k hq222 hk194 (by decide)) ⟨by decide, by decide⟩ h211 ⟨by decide, by decide⟩ h211 (xke_k hq222 (xke_k hq194 hkx5 (by decide)) (by decide)) hp
                          · replace hp := hp.2 c225
                            refine xJ_iload hX dL_law_228 rfl ?_
                            refine xJ_if_ne hX dL_law_230 (tgt := 237) (by decide) h211 (fun c230 => ?_) (fun c230 => ?_)
                            · replace hp := hp.1 c230
                              refine xJ_iconst hX dL_law_237 ?_
                              refine xJ_fg 1 ?_
                              dsimp only [List.set]
                              refine xJ_fg 11 ?_
                              dsimp only [List.set]
                              exact l238 _ _ _ _ _ _ _ _ _ _ _ _ _ _ _ _ _ _ (by omega) (by omega) hM222 (xke_trans (xke_trans hqE hq194) hq222) hx2 (xke_k hq222 (xke_k hq194 hkx5 (by decide)) (by decide)) (xke_k hq222 (xke_k hq194 hkx6 (by decide)) (by decide)) (xke_k hq222 (xke_k hq194 hkx7 (by decide)) (by decide)) hx8 hx9 (xke_k hq222 hk194 (by decide)) ⟨by decide, by decide⟩ h211 ⟨by decide, by decide⟩ h211 (xke_k hq222 (xke_k hq194 hkx5 (by decide)) (by decide)) hp
                            · replace hp := hp.2 c230
                              refine xJ_iconst hX dL_law_233 ?_
                              refine xJ_goto hX dL_law_234 (tgt := 238) (by decide) ?_
                              refine xJ_fg 1 ?_
                              dsimp only [List.set]
                              refine xJ_fg 11 ?_
                              dsimp only [List.set]
                              exact l238 _ _ _ _ _ _ _ _ _ _ _ _ _ _ _ _ _ _ (by omega) (by omega) hM222 (xke_trans (xke_trans hqE hq194) hq222) hx2 (xke_k hq222 (xke_k hq194 hkx5 (by decide)) (by decide)) (xke_k hq222 (xke_k hq194 hkx6 (by decide)) (by decide)) (xke_k hq222 (xke_k hq194 hkx7 (by decide)) (by decide)) hx8 hx9 (xke_k hq222 hk194 (by decide)) ⟨by decide, by decide⟩ h211 ⟨by decide, by decide⟩ h211 (xke_k hq222 (xke_k hq194 hkx5 (by decide)) (by decide)) hp
                  exact l181 F _ _ _ _ _ _ _ _ _ _ _ _ _ (by omega) (by omega) hM170 (xke_trans hqE hq170) hy0 hx2 (xke_k hq170 hkx5 (by decide)) (xke_k hq170 hkx6 (by decide)) hka170 ⟨by decide, by decide⟩ ⟨by decide, by decide⟩ hp
                refine xJ_if_eq hX dL_law_150 (tgt := 166) (by decide) hy0 (fun c150 => ?_) (fun c150 => ?_)
                · replace hp := hp.1 c150
                  refine xJ_iconst hX dL_law_166 ?_
                  refine xJ_fg 1 ?_
                  dsimp only [List.set]
                  refine xJ_fg 4 ?_
                  dsimp only [List.set]
                  exact l167 _ _ _ _ _ _ _ _ _ _ (by omega) (by omega) hM137 (xke_trans hqE hq137) hx2 (xke_k hq137 hkx5 (by decide)) hkb144 ⟨by decide, by decide⟩ hp
                · replace hp := hp.2 c150
                  refine xJ_aload_n hX dL_law_153 rfl ?_
                  refine xJ_aload hX dL_law_154 rfl ?_
                  obtain ⟨k156, hn156, hp⟩ := hp
                  refine xJ_callS (As := [_, _]) hX hB dL_law_156 lk_L_231 sm_L_agrees (c_L_agrees hM137 hkb144 hp) (by decide) rfl rfl rfl (Nat.le_of_ble_eq_true rfl) (by omega) (by omega) (fun v t156 M156 hv => ?_) (fun _ _ _ q => q.elim)
                  clear hp
                  obtain ⟨r156, rfl, h156, hM156, hq156, hp⟩ := hv
                  dsimp only [Option.toList, List.cons_append, List.nil_append]
                  refine xJ_if_eq hX dL_law_159 (tgt := 166) (by decide) h156 (fun c159 => ?_) (fun c159 => ?_)
                  · replace hp := hp.1 c159
                    refine xJ_iconst hX dL_law_166 ?_
                    refine xJ_fg 1 ?_
                    dsimp only [List.set]
                    refine xJ_fg 4 ?_
                    dsimp only [List.set]
                    exact l167 _ _ _ _ _ _ _ _ _ _ (by omega) (by omega) hM156 (xke_trans (xke_trans hqE hq137) hq156) hx2 (xke_k hq156 (xke_k hq137 hkx5 (by decide)) (by decide)) (xke_k hq156 hkb144 (by decide)) ⟨by decide, by decide⟩ hp
                  · replace hp := hp.2 c159
                    refine xJ_iconst hX dL_law_162 ?_
                    refine xJ_goto hX dL_law_163 (tgt := 167) (by decide) ?_
                    refine xJ_fg 1 ?_
                    dsimp only [List.set]
                    refine xJ_fg 4 ?_
                    dsimp only [List.set]
                    exact l167 _ _ _ _ _ _ _ _ _ _ (by omega) (by omega) hM156 (xke_trans (xke_trans hqE hq137) hq156) hx2 (xke_k hq156 (xke_k hq137 hkx5 (by decide)) (by decide)) (xke_k hq156 hkb144 (by decide)) ⟨by decide, by decide⟩ hp
            refine xJ_if_eq hX dL_law_56 (tgt := 130) (by decide) h53 (fun c56 => ?_) (fun c56 => ?_)
            · replace hp := hp.1 c56
              refine xJ_iconst hX dL_law_130 ?_
              refine xJ_fg 1 ?_
              dsimp only [List.set]
              exact l131 _ _ _ _ _ _ _ _ _ _ (by omega) (by omega) hM53 (xke_trans (xke_trans (xke_trans (xke_trans (xke_trans (xke_trans (xke_trans (xke_trans hqE hq19) hq23) hq29) hq33) hq40) hq46) hq50) hq53) hx2 (xke_k hq53 (xke_k hq50 (xke_k hq46 (xke_k hq40 (xke_k hq33 hka29 (by decide)) (by decide)) (by decide)) (by decide)) (by decide)) (xke_k hq53 (xke_k hq50 (xke_k hq46 (xke_k hq40 hka33 (by decide)) (by decide)) (by decide)) (by decide)) ⟨by decide, by decide⟩ hp
            · replace hp := hp.2 c56
              refine xJ_aload_n hX dL_law_59 rfl ?_
              obtain ⟨hw60, hp⟩ := hp
              refine xJ_callV (As := []) hX hB dL_law_60 lk_L_235 im_X11_errorOffset se_X11_errorOffset rfl (by decide) (oX11_k hw60.1) (c_X11_errorOffset hw60.1 hM53  hp) (by decide) rfl rfl rfl (Nat.le_of_ble_eq_true rfl) (by omega) (by omega) (fun v t60 M60 hv => ?_) (fun _ _ _ q => q.elim)
              clear hp
              obtain ⟨r60, rfl, h60, hM60, ht9, hp⟩ := hv
              replace ht9 := ht9.symm
              subst ht9
              dsimp only [Option.toList, List.cons_append, List.nil_append]
              refine xJ_iconst hX dL_law_63 ?_
              refine xJ_icmp_ne hX dL_law_64 (tgt := 130) (by decide) h60 ⟨by decide, by decide⟩ (fun c64 => ?_) (fun c64 => ?_)
              · replace hp := hp.1 c64
                refine xJ_iconst hX dL_law_130 ?_
                refine xJ_fg 1 ?_
                dsimp only [List.set]
                exact l131 _ _ _ _ _ _ _ _ _ _ (by omega) (by omega) hM60 (xke_trans (xke_trans (xke_trans (xke_trans (xke_trans (xke_trans (xke_trans (xke_trans hqE hq19) hq23) hq29) hq33) hq40) hq46) hq50) hq53) hx2 (xke_k hq53 (xke_k hq50 (xke_k hq46 (xke_k hq40 (xke_k hq33 hka29 (by decide)) (by decide)) (by decide)) (by decide)) (by decide)) (xke_k hq53 (xke_k hq50 (xke_k hq46 (xke_k hq40 hka33 (by decide)) (by decide)) (by decide)) (by decide)) ⟨by decide, by decide⟩ hp
              · replace hp := hp.2 c64
                refine xJ_aload_n hX dL_law_67 rfl ?_
                obtain ⟨hw68, hp⟩ := hp
                refine xJ_callV (As := []) hX hB dL_law_68 lk_L_238 im_X11_undo se_X11_undo rfl (by decide) (oX11_k hw68.1) (c_X11_undo hw68.1 hw68.2 hM60  hp) (by decide) rfl rfl rfl (Nat.le_of_ble_eq_true rfl) (by omega) (by omega) (fun v t68 M68 hv => ?_) (fun _ _ _ q => q.elim)
                clear hp
                obtain ⟨r68, rfl, h68, hM68, hqs68, -, hp⟩ := hv
                have hqw68 := xqw_s hqs68
                have hq68 := xke_qw hqw68
                refine xJ_live fun hlv68 => ?_
                replace hp := hp hqw68 hlv68
                dsimp only [Option.toList, List.cons_append, List.nil_append]
                refine xJ_iconst hX dL_law_71 ?_
                refine xJ_icmp_ne hX dL_law_72 (tgt := 130) (by decide) h68 ⟨by decide, by decide⟩ (fun c72 => ?_) (fun c72 => ?_)
                · replace hp := hp.1 c72
                  refine xJ_iconst hX dL_law_130 ?_
                  refine xJ_fg 1 ?_
                  dsimp only [List.set]
                  exact l131 _ _ _ _ _ _ _ _ _ _ (by omega) (by omega) hM68 (xke_trans (xke_trans (xke_trans (xke_trans (xke_trans (xke_trans (xke_trans (xke_trans (xke_trans hqE hq19) hq23) hq29) hq33) hq40) hq46) hq50) hq53) hq68) hx2 (xke_k hq68 (xke_k hq53 (xke_k hq50 (xke_k hq46 (xke_k hq40 (xke_k hq33 hka29 (by decide)) (by decide)) (by decide)) (by decide)) (by decide)) (by decide)) (xke_k hq68 (xke_k hq53 (xke_k hq50 (xke_k hq46 (xke_k hq40 hka33 (by decide)) (by decide)) (by decide)) (by decide)) (by decide)) ⟨by decide, by decide⟩ hp
                · replace hp := hp.2 c72
                  refine xJ_aload_n hX dL_law_75 rfl ?_
                  refine xJ_sipush hX dL_law_76 rfl ?_
                  obtain ⟨hw79, hp⟩ := hp
                  have hn79 := hw79.1
                  refine xJ_callSW (As := [_, _]) hX hB dL_law_79 lkw_L_pass sm_L_pass (c_L_pass hw79.2.1 hw79.2.2 hM68 ⟨by decide, by decide⟩ hp) (by decide) rfl rfl rfl (Nat.le_of_ble_eq_true rfl) (by omega) (by omega) (fun v t79 M79 hv => ?_)
                  clear hp
                  obtain ⟨r79, rfl, h79, hM79, hqw79, hp⟩ := hv
                  have hq79 := xke_qw hqw79
                  refine xJ_live fun hlv79 => ?_
                  replace hp := hp hqw79 hlv79
                  dsimp only [Option.toList, List.cons_append, List.nil_append]
                  refine xJ_ldc (-2000000098) hX dL_law_82 kc_L_42 ?_
                  refine xJ_icmp_ne hX dL_law_84 (tgt := 130) (by decide) h79 ⟨by decide, by decide⟩ (fun c84 => ?_) (fun c84 => ?_)
                  · replace hp := hp.1 c84
                    refine xJ_iconst hX dL_law_130 ?_
                    refine xJ_fg 1 ?_
                    dsimp only [List.set]
                    exact l131 _ _ _ _ _ _ _ _ _ _ (by omega) (by omega) hM79 (xke_trans (xke_trans (xke_trans (xke_trans (xke_trans (xke_trans (xke_trans (xke_trans (xke_trans (xke_trans hqE hq19) hq23) hq29) hq33) hq40) hq46) hq50) hq53) hq68) hq79) hx2 (xke_k hq79 (xke_k hq68 (xke_k hq53 (xke_k hq50 (xke_k hq46 (xke_k hq40 (xke_k hq33 hka29 (by decide)) (by decide)) (by decide)) (by decide)) (by decide)) (by decide)) (by decide)) (xke_k hq79 (xke_k hq68 (xke_k hq53 (xke_k hq50 (xke_k hq46 (xke_k hq40 hka33 (by decide)) (by decide)) (by decide)) (by decide)) (by decide)) (by decide)) ⟨by decide, by decide⟩ hp
                  · replace hp := hp.2 c84
                    refine xJ_aload_n hX dL_law_87 rfl ?_
                    refine xJ_bipush hX dL_law_88 rfl ?_
                    obtain ⟨hw90, hp⟩ := hp
                    have hn90 := hw90.1
                    refine xJ_callSW (As := [_, _]) hX hB dL_law_90 lkw_L_pass sm_L_pass (c_L_pass hw90.2.1 hw90.2.2 hM79 ⟨by decide, by decide⟩ hp) (by decide) rfl rfl rfl (Nat.le_of_ble_eq_true rfl) (by omega) (by omega) (fun v t90 M90 hv => ?_)
                    clear hp
                    obtain ⟨r90, rfl, h90, hM90, hqw90, hp⟩ := hv
                    have hq90 := xke_qw hqw90
                    refine xJ_live fun hlv90 => ?_
                    replace hp := hp hqw90 hlv90
                    dsimp only [Option.toList, List.cons_append, List.nil_append]
                    refine xJ_if_ne hX dL_law_93 (tgt := 130) (by decide) h90 (fun c93 => ?_) (fun c93 => ?_)
                    · replace hp := hp.1 c93
                      refine xJ_iconst hX dL_law_130 ?_
                      refine xJ_fg 1 ?_
                      dsimp only [List.set]
                      exact l131 _ _ _ _ _ _ _ _ _ _ (by omega) (by omega) hM90 (xke_trans (xke_trans (xke_trans (xke_trans (xke_trans (xke_trans (xke_trans (xke_trans (xke_trans (xke_trans (xke_trans hqE hq19) hq23) hq29) hq33) hq40) hq46) hq50) hq53) hq68) hq79) hq90) hx2 (xke_k hq90 (xke_k hq79 (xke_k hq68 (xke_k hq53 (xke_k hq50 (xke_k hq46 (xke_k hq40 (xke_k hq33 hka29 (by decide)) (by decide)) (by decide)) (by decide)) (by decide)) (by decide)) (by decide)) (by decide)) (xke_k hq90 (xke_k hq79 (xke_k hq68 (xke_k hq53 (xke_k hq50 (xke_k hq46 (xke_k hq40 hka33 (by decide)) (by decide)) (by decide)) (by decide)) (by decide)) (by decide)) (by decide)) ⟨by decide, by decide⟩ hp
                    · replace hp := hp.2 c93
                      refine xJ_aload_n hX dL_law_96 rfl ?_
                      obtain ⟨hw97, hp⟩ := hp
                      refine xJ_callV (As := []) hX hB dL_law_97 lk_L_238 im_X11_undo se_X11_undo rfl (by decide) (oX11_k hw97.1) (c_X11_undo hw97.1 hw97.2 hM90  hp) (by decide) rfl rfl rfl (Nat.le_of_ble_eq_true rfl) (by omega) (by omega) (fun v t97 M97 hv => ?_) (fun _ _ _ q => q.elim)
                      clear hp
                      obtain ⟨r97, rfl, h97, hM97, hqs97, -, hp⟩ := hv
                      have hqw97 := xqw_s hqs97
                      have hq97 := xke_qw hqw97
                      refine xJ_live fun hlv97 => ?_
                      replace hp := hp hqw97 hlv97
                      dsimp only [Option.toList, List.cons_append, List.nil_append]
                      refine xJ_if_ne hX dL_law_100 (tgt := 130) (by decide) h97 (fun c100 => ?_) (fun c100 => ?_)
                      · replace hp := hp.1 c100
                        refine xJ_iconst hX dL_law_130 ?_
                        refine xJ_fg 1 ?_
                        dsimp only [List.set]
                        exact l131 _ _ _ _ _ _ _ _ _ _ (by omega) (by omega) hM97 (xke_trans (xke_trans (xke_trans (xke_trans (xke_trans (xke_trans (xke_trans (xke_trans (xke_trans (xke_trans (xke_trans (xke_trans hqE hq19) hq23) hq29) hq33) hq40) hq46) hq50) hq53) hq68) hq79) hq90) hq97) hx2 (xke_k hq97 (xke_k hq90 (xke_k hq79 (xke_k hq68 (xke_k hq53 (xke_k hq50 (xke_k hq46 (xke_k hq40 (xke_k hq33 hka29 (by decide)) (by decide)) (by decide)) (by decide)) (by decide)) (by decide)) (by decide)) (by decide)) (by decide)) (xke_k hq97 (xke_k hq90 (xke_k hq79 (xke_k hq68 (xke_k hq53 (xke_k hq50 (xke_k hq46 (xke_k hq40 hka33 (by decide)) (by decide)) (by decide)) (by decide)) (by decide)) (by decide)) (by decide)) (by decide)) ⟨by decide, by decide⟩ hp
                      · replace hp := hp.2 c100
                        refine xJ_aload_n hX dL_law_103 rfl ?_
                        refine xJ_iconst hX dL_law_104 ?_
                        refine xJ_iconst hX dL_law_105 ?_
                        obtain ⟨hw106, hp⟩ := hp
                        have hn106 := hw106.1
                        refine xJ_callSW (As := [_, _, _]) hX hB dL_law_106 lkw_L_send sm_L_send (c_L_send hw106.2.1 hw106.2.2 hM97 ⟨by decide, by decide⟩ ⟨by decide, by decide⟩ hp) (by decide) rfl rfl rfl (Nat.le_of_ble_eq_true rfl) (by omega) (by omega) (fun v t106 M106 hv => ?_)
                        clear hp
                        obtain ⟨r106, rfl, h106, hM106, hqw106, hp⟩ := hv
                        have hq106 := xke_qw hqw106
                        refine xJ_live fun hlv106 => ?_
                        replace hp := hp hqw106 hlv106
                        dsimp only [Option.toList, List.cons_append, List.nil_append]
                        refine xJ_ldc (-2000000097) hX dL_law_109 kc_L_52 ?_
                        refine xJ_icmp_ne hX dL_law_111 (tgt := 130) (by decide) h106 ⟨by decide, by decide⟩ (fun c111 => ?_) (fun c111 => ?_)
                        · replace hp := hp.1 c111
                          refine xJ_iconst hX dL_law_130 ?_
                          refine xJ_fg 1 ?_
                          dsimp only [List.set]
                          exact l131 _ _ _ _ _ _ _ _ _ _ (by omega) (by omega) hM106 (xke_trans (xke_trans (xke_trans (xke_trans (xke_trans (xke_trans (xke_trans (xke_trans (xke_trans (xke_trans (xke_trans (xke_trans (xke_trans hqE hq19) hq23) hq29) hq33) hq40) hq46) hq50) hq53) hq68) hq79) hq90) hq97) hq106) hx2 (xke_k hq106 (xke_k hq97 (xke_k hq90 (xke_k hq79 (xke_k hq68 (xke_k hq53 (xke_k hq50 (xke_k hq46 (xke_k hq40 (xke_k hq33 hka29 (by decide)) (by decide)) (by decide)) (by decide)) (by decide)) (by decide)) (by decide)) (by decide)) (by decide)) (by decide)) (xke_k hq106 (xke_k hq97 (xke_k hq90 (xke_k hq79 (xke_k hq68 (xke_k hq53 (xke_k hq50 (xke_k hq46 (xke_k hq40 hka33 (by decide)) (by decide)) (by decide)) (by decide)) (by decide)) (by decide)) (by decide)) (by decide)) (by decide)) ⟨by decide, by decide⟩ hp
                        · replace hp := hp.2 c111
                          refine xJ_aload_n hX dL_law_114 rfl ?_
                          refine xJ_iconst hX dL_law_115 ?_
                          refine xJ_iconst hX dL_law_116 ?_
                          refine xJ_iconst hX dL_law_117 ?_
                          obtain ⟨hw118, hp⟩ := hp
                          have hn118 := hw118.1
                          refine xJ_callSW (As := [_, _, _, _]) hX hB dL_law_118 lkw_L_grant sm_L_grant (c_L_grant hw118.2.1 hw118.2.2 hM106 ⟨by decide, by decide⟩ ⟨by decide, by decide⟩ ⟨by decide, by decide⟩ hp) (by decide) rfl rfl rfl (Nat.le_of_ble_eq_true rfl) (by omega) (by omega) (fun v t118 M118 hv => ?_)
                          clear hp
                          obtain ⟨r118, rfl, h118, hM118, hqw118, hp⟩ := hv
                          have hq118 := xke_qw hqw118
                          refine xJ_live fun hlv118 => ?_
                          replace hp := hp hqw118 hlv118
                          dsimp only [Option.toList, List.cons_append, List.nil_append]
                          refine xJ_ldc (-2000000097) hX dL_law_121 kc_L_52 ?_
                          refine xJ_icmp_ne hX dL_law_123 (tgt := 130) (by decide) h118 ⟨by decide, by decide⟩ (fun c123 => ?_) (fun c123 => ?_)
                          · replace hp := hp.1 c123
                            refine xJ_iconst hX dL_law_130 ?_
                            refine xJ_fg 1 ?_
                            dsimp only [List.set]
                            exact l131 _ _ _ _ _ _ _ _ _ _ (by omega) (by omega) hM118 (xke_trans (xke_trans (xke_trans (xke_trans (xke_trans (xke_trans (xke_trans (xke_trans (xke_trans (xke_trans (xke_trans (xke_trans (xke_trans (xke_trans hqE hq19) hq23) hq29) hq33) hq40) hq46) hq50) hq53) hq68) hq79) hq90) hq97) hq106) hq118) hx2 (xke_k hq118 (xke_k hq106 (xke_k hq97 (xke_k hq90 (xke_k hq79 (xke_k hq68 (xke_k hq53 (xke_k hq50 (xke_k hq46 (xke_k hq40 (xke_k hq33 hka29 (by decide)) (by decide)) (by decide)) (by decide)) (by decide)) (by decide)) (by decide)) (by decide)) (by decide)) (by decide)) (by decide)) (xke_k hq118 (xke_k hq106 (xke_k hq97 (xke_k hq90 (xke_k hq79 (xke_k hq68 (xke_k hq53 (xke_k hq50 (xke_k hq46 (xke_k hq40 hka33 (by decide)) (by decide)) (by decide)) (by decide)) (by decide)) (by decide)) (by decide)) (by decide)) (by decide)) (by decide)) ⟨by decide, by decide⟩ hp
                          · replace hp := hp.2 c123
                            refine xJ_iconst hX dL_law_126 ?_
                            refine xJ_goto hX dL_law_127 (tgt := 131) (by decide) ?_
                            refine xJ_fg 1 ?_
                            dsimp only [List.set]
                            exact l131 _ _ _ _ _ _ _ _ _ _ (by omega) (by omega) hM118 (xke_trans (xke_trans (xke_trans (xke_trans (xke_trans (xke_trans (xke_trans (xke_trans (xke_trans (xke_trans (xke_trans (xke_trans (xke_trans (xke_trans hqE hq19) hq23) hq29) hq33) hq40) hq46) hq50) hq53) hq68) hq79) hq90) hq97) hq106) hq118) hx2 (xke_k hq118 (xke_k hq106 (xke_k hq97 (xke_k hq90 (xke_k hq79 (xke_k hq68 (xke_k hq53 (xke_k hq50 (xke_k hq46 (xke_k hq40 (xke_k hq33 hka29 (by decide)) (by decide)) (by decide)) (by decide)) (by decide)) (by decide)) (by decide)) (by decide)) (by decide)) (by decide)) (by decide)) (xke_k hq118 (xke_k hq106 (xke_k hq97 (xke_k hq90 (xke_k hq79 (xke_k hq68 (xke_k hq53 (xke_k hq50 (xke_k hq46 (xke_k hq40 hka33 (by decide)) (by decide)) (by decide)) (by decide)) (by decide)) (by decide)) (by decide)) (by decide)) (by decide)) (by decide)) ⟨by decide, by decide⟩ hp
  exact l4 F _ _ _ _ _ _ _ (by omega) (by omega) hME (xke_refl _) ⟨by decide, by decide⟩ ⟨by decide, by decide⟩ hp
