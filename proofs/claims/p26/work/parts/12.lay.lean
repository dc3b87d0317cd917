/-! WHERE THINGS LIE: the cells of an object one behind another, as they were made -/
theorem xnlt {t : xTh} {a N : Nat} {j : Int} (hn : xn t a = N) (h : j < (N : Int)) : j < (xn t a : Int) := by rw [hn]; exact h
def oX0 (t : xTh) (a : Nat) : Prop := xk t a = 0 ∧ xr t a 0 = some (a + 1) ∧ xk t (a + 1) = 14 ∧ xn t (a + 1) = 30 ∧ xr t a 1 = some (a + 2) ∧ xk t (a + 2) = 14 ∧ xn t (a + 2) = 30 ∧ xr t a 2 = some (a + 3) ∧ xk t (a + 3) = 14 ∧ xn t (a + 3) = 30 ∧ xr t a 3 = some (a + 4) ∧ xk t (a + 4) = 14 ∧ xn t (a + 4) = 30
theorem oX0_k {t : xTh} {a : Nat} (h : oX0 t a) : xk t a = 0 := h.1
theorem oX0_r0 {t : xTh} {a : Nat} (h : oX0 t a) : xr t a 0 = some (a + 1) := h.2.1
theorem oX0_k0 {t : xTh} {a : Nat} (h : oX0 t a) : xk t (a + 1) = 14 := h.2.2.1
theorem oX0_n0 {t : xTh} {a : Nat} (h : oX0 t a) : xn t (a + 1) = 30 := h.2.2.2.1
theorem oX0_r1 {t : xTh} {a : Nat} (h : oX0 t a) : xr t a 1 = some (a + 2) := h.2.2.2.2.1
theorem oX0_k1 {t : xTh} {a : Nat} (h : oX0 t a) : xk t (a + 2) = 14 := h.2.2.2.2.2.1
theorem oX0_n1 {t : xTh} {a : Nat} (h : oX0 t a) : xn t (a + 2) = 30 := h.2.2.2.2.2.2.1
theorem oX0_r2 {t : xTh} {a : Nat} (h : oX0 t a) : xr t a 2 = some (a + 3) := h.2.2.2.2.2.2.2.1
theorem oX0_k2 {t : xTh} {a : Nat} (h : oX0 t a) : xk t (a + 3) = 14 := h.2.2.2.2.2.2.2.2.1
theorem oX0_n2 {t : xTh} {a : Nat} (h : oX0 t a) : xn t (a + 3) = 30 := h.2.2.2.2.2.2.2.2.2.1
theorem oX0_r3 {t : xTh} {a : Nat} (h : oX0 t a) : xr t a 3 = some (a + 4) := h.2.2.2.2.2.2.2.2.2.2.1
theorem oX0_k3 {t : xTh} {a : Nat} (h : oX0 t a) : xk t (a + 4) = 14 := h.2.2.2.2.2.2.2.2.2.2.2.1
theorem oX0_n3 {t : xTh} {a : Nat} (h : oX0 t a) : xn t (a + 4) = 30 := h.2.2.2.2.2.2.2.2.2.2.2.2
def oX1 (t : xTh) (a : Nat) : Prop := xk t a = 1 ∧ xr t a 0 = some (a + 1) ∧ xk t (a + 1) = 14 ∧ xn t (a + 1) = 24 ∧ xr t a 1 = some (a + 2) ∧ xk t (a + 2) = 14 ∧ xn t (a + 2) = 6 ∧ xr t a 2 = some (a + 3) ∧ xk t (a + 3) = 14 ∧ xn t (a + 3) = 6 ∧ xr t a 3 = some (a + 4) ∧ xk t (a + 4) = 14 ∧ xn t (a + 4) = 6
theorem oX1_k {t : xTh} {a : Nat} (h : oX1 t a) : xk t a = 1 := h.1
theorem oX1_r0 {t : xTh} {a : Nat} (h : oX1 t a) : xr t a 0 = some (a + 1) := h.2.1
theorem oX1_k0 {t : xTh} {a : Nat} (h : oX1 t a) : xk t (a + 1) = 14 := h.2.2.1
theorem oX1_n0 {t : xTh} {a : Nat} (h : oX1 t a) : xn t (a + 1) = 24 := h.2.2.2.1
theorem oX1_r1 {t : xTh} {a : Nat} (h : oX1 t a) : xr t a 1 = some (a + 2) := h.2.2.2.2.1
theorem oX1_k1 {t : xTh} {a : Nat} (h : oX1 t a) : xk t (a + 2) = 14 := h.2.2.2.2.2.1
theorem oX1_n1 {t : xTh} {a : Nat} (h : oX1 t a) : xn t (a + 2) = 6 := h.2.2.2.2.2.2.1
theorem oX1_r2 {t : xTh} {a : Nat} (h : oX1 t a) : xr t a 2 = some (a + 3) := h.2.2.2.2.2.2.2.1
theorem oX1_k2 {t : xTh} {a : Nat} (h : oX1 t a) : xk t (a + 3) = 14 := h.2.2.2.2.2.2.2.2.1
theorem oX1_n2 {t : xTh} {a : Nat} (h : oX1 t a) : xn t (a + 3) = 6 := h.2.2.2.2.2.2.2.2.2.1
theorem oX1_r3 {t : xTh} {a : Nat} (h : oX1 t a) : xr t a 3 = some (a + 4) := h.2.2.2.2.2.2.2.2.2.2.1
theorem oX1_k3 {t : xTh} {a : Nat} (h : oX1 t a) : xk t (a + 4) = 14 := h.2.2.2.2.2.2.2.2.2.2.2.1
theorem oX1_n3 {t : xTh} {a : Nat} (h : oX1 t a) : xn t (a + 4) = 6 := h.2.2.2.2.2.2.2.2.2.2.2.2
def oX2 (t : xTh) (a : Nat) : Prop := xk t a = 2 ∧ xr t a 0 = some (a + 1) ∧ xk t (a + 1) = 14 ∧ xn t (a + 1) = 6 ∧ xr t a 1 = some (a + 2) ∧ xk t (a + 2) = 14 ∧ xn t (a + 2) = 6 ∧ xr t a 2 = some (a + 3) ∧ xk t (a + 3) = 14 ∧ xn t (a + 3) = 6
theorem oX2_k {t : xTh} {a : Nat} (h : oX2 t a) : xk t a = 2 := h.1
theorem oX2_r0 {t : xTh} {a : Nat} (h : oX2 t a) : xr t a 0 = some (a + 1) := h.2.1
theorem oX2_k0 {t : xTh} {a : Nat} (h : oX2 t a) : xk t (a + 1) = 14 := h.2.2.1
theorem oX2_n0 {t : xTh} {a : Nat} (h : oX2 t a) : xn t (a + 1) = 6 := h.2.2.2.1
theorem oX2_r1 {t : xTh} {a : Nat} (h : oX2 t a) : xr t a 1 = some (a + 2) := h.2.2.2.2.1
theorem oX2_k1 {t : xTh} {a : Nat} (h : oX2 t a) : xk t (a + 2) = 14 := h.2.2.2.2.2.1
theorem oX2_n1 {t : xTh} {a : Nat} (h : oX2 t a) : xn t (a + 2) = 6 := h.2.2.2.2.2.2.1
theorem oX2_r2 {t : xTh} {a : Nat} (h : oX2 t a) : xr t a 2 = some (a + 3) := h.2.2.2.2.2.2.2.1
theorem oX2_k2 {t : xTh} {a : Nat} (h : oX2 t a) : xk t (a + 3) = 14 := h.2.2.2.2.2.2.2.2.1
theorem oX2_n2 {t : xTh} {a : Nat} (h : oX2 t a) : xn t (a + 3) = 6 := h.2.2.2.2.2.2.2.2.2
def oX4 (t : xTh) (a : Nat) : Prop := xk t a = 4 ∧ xr t a 0 = some (a + 1) ∧ xk t (a + 1) = 14 ∧ xn t (a + 1) = 36 ∧ xr t a 1 = some (a + 2) ∧ xk t (a + 2) = 14 ∧ xn t (a + 2) = 36 ∧ xr t a 2 = some (a + 3) ∧ xk t (a + 3) = 14 ∧ xn t (a + 3) = 36 ∧ xr t a 3 = some (a + 4) ∧ xk t (a + 4) = 14 ∧ xn t (a + 4) = 36 ∧ xr t a 4 = some (a + 5) ∧ xk t (a + 5) = 14 ∧ xn t (a + 5) = 40
theorem oX4_k {t : xTh} {a : Nat} (h : oX4 t a) : xk t a = 4 := h.1
theorem oX4_r0 {t : xTh} {a : Nat} (h : oX4 t a) : xr t a 0 = some (a + 1) := h.2.1
theorem oX4_k0 {t : xTh} {a : Nat} (h : oX4 t a) : xk t (a + 1) = 14 := h.2.2.1
theorem oX4_n0 {t : xTh} {a : Nat} (h : oX4 t a) : xn t (a + 1) = 36 := h.2.2.2.1
theorem oX4_r1 {t : xTh} {a : Nat} (h : oX4 t a) : xr t a 1 = some (a + 2) := h.2.2.2.2.1
theorem oX4_k1 {t : xTh} {a : Nat} (h : oX4 t a) : xk t (a + 2) = 14 := h.2.2.2.2.2.1
theorem oX4_n1 {t : xTh} {a : Nat} (h : oX4 t a) : xn t (a + 2) = 36 := h.2.2.2.2.2.2.1
theorem oX4_r2 {t : xTh} {a : Nat} (h : oX4 t a) : xr t a 2 = some (a + 3) := h.2.2.2.2.2.2.2.1
theorem oX4_k2 {t : xTh} {a : Nat} (h : oX4 t a) : xk t (a + 3) = 14 := h.2.2.2.2.2.2.2.2.1
theorem oX4_n2 {t : xTh} {a : Nat} (h : oX4 t a) : xn t (a + 3) = 36 := h.2.2.2.2.2.2.2.2.2.1
theorem oX4_r3 {t : xTh} {a : Nat} (h : oX4 t a) : xr t a 3 = some (a + 4) := h.2.2.2.2.2.2.2.2.2.2.1
theorem oX4_k3 {t : xTh} {a : Nat} (h : oX4 t a) : xk t (a + 4) = 14 := h.2.2.2.2.2.2.2.2.2.2.2.1
theorem oX4_n3 {t : xTh} {a : Nat} (h : oX4 t a) : xn t (a + 4) = 36 := h.2.2.2.2.2.2.2.2.2.2.2.2.1
theorem oX4_r4 {t : xTh} {a : Nat} (h : oX4 t a) : xr t a 4 = some (a + 5) := h.2.2.2.2.2.2.2.2.2.2.2.2.2.1
theorem oX4_k4 {t : xTh} {a : Nat} (h : oX4 t a) : xk t (a + 5) = 14 := h.2.2.2.2.2.2.2.2.2.2.2.2.2.2.1
theorem oX4_n4 {t : xTh} {a : Nat} (h : oX4 t a) : xn t (a + 5) = 40 := h.2.2.2.2.2.2.2.2.2.2.2.2.2.2.2
def oX5 (t : xTh) (a : Nat) : Prop := xk t a = 5 ∧ xr t a 0 = some (a + 1) ∧ xk t (a + 1) = 14 ∧ xn t (a + 1) = 40 ∧ xr t a 1 = some (a + 2) ∧ xk t (a + 2) = 14 ∧ xn t (a + 2) = 40 ∧ xr t a 2 = some (a + 3) ∧ xk t (a + 3) = 14 ∧ xn t (a + 3) = 40 ∧ xr t a 3 = some (a + 4) ∧ xk t (a + 4) = 14 ∧ xn t (a + 4) = 40 ∧ xr t a 4 = some (a + 5) ∧ xk t (a + 5) = 14 ∧ xn t (a + 5) = 40 ∧ xr t a 5 = some (a + 6) ∧ xk t (a + 6) = 14 ∧ xn t (a + 6) = 40 ∧ xr t a 6 = some (a + 7) ∧ xk t (a + 7) = 14 ∧ xn t (a + 7) = 40 ∧ xr t a 7 = some (a + 8) ∧ xk t (a + 8) = 14 ∧ xn t (a + 8) = 40
theorem oX5_k {t : xTh} {a : Nat} (h : oX5 t a) : xk t a = 5 := h.1
theorem oX5_r0 {t : xTh} {a : Nat} (h : oX5 t a) : xr t a 0 = some (a + 1) := h.2.1
theorem oX5_k0 {t : xTh} {a : Nat} (h : oX5 t a) : xk t (a + 1) = 14 := h.2.2.1
theorem oX5_n0 {t : xTh} {a : Nat} (h : oX5 t a) : xn t (a + 1) = 40 := h.2.2.2.1
theorem oX5_r1 {t : xTh} {a : Nat} (h : oX5 t a) : xr t a 1 = some (a + 2) := h.2.2.2.2.1
theorem oX5_k1 {t : xTh} {a : Nat} (h : oX5 t a) : xk t (a + 2) = 14 := h.2.2.2.2.2.1
theorem oX5_n1 {t : xTh} {a : Nat} (h : oX5 t a) : xn t (a + 2) = 40 := h.2.2.2.2.2.2.1
theorem oX5_r2 {t : xTh} {a : Nat} (h : oX5 t a) : xr t a 2 = some (a + 3) := h.2.2.2.2.2.2.2.1
theorem oX5_k2 {t : xTh} {a : Nat} (h : oX5 t a) : xk t (a + 3) = 14 := h.2.2.2.2.2.2.2.2.1
theorem oX5_n2 {t : xTh} {a : Nat} (h : oX5 t a) : xn t (a + 3) = 40 := h.2.2.2.2.2.2.2.2.2.1
theorem oX5_r3 {t : xTh} {a : Nat} (h : oX5 t a) : xr t a 3 = some (a + 4) := h.2.2.2.2.2.2.2.2.2.2.1
theorem oX5_k3 {t : xTh} {a : Nat} (h : oX5 t a) : xk t (a + 4) = 14 := h.2.2.2.2.2.2.2.2.2.2.2.1
theorem oX5_n3 {t : xTh} {a : Nat} (h : oX5 t a) : xn t (a + 4) = 40 := h.2.2.2.2.2.2.2.2.2.2.2.2.1
theorem oX5_r4 {t : xTh} {a : Nat} (h : oX5 t a) : xr t a 4 = some (a + 5) := h.2.2.2.2.2.2.2.2.2.2.2.2.2.1
theorem oX5_k4 {t : xTh} {a : Nat} (h : oX5 t a) : xk t (a + 5) = 14 := h.2.2.2.2.2.2.2.2.2.2.2.2.2.2.1
theorem oX5_n4 {t : xTh} {a : Nat} (h : oX5 t a) : xn t (a + 5) = 40 := h.2.2.2.2.2.2.2.2.2.2.2.2.2.2.2.1
theorem oX5_r5 {t : xTh} {a : Nat} (h : oX5 t a) : xr t a 5 = some (a + 6) := h.2.2.2.2.2.2.2.2.2.2.2.2.2.2.2.2.1
theorem oX5_k5 {t : xTh} {a : Nat} (h : oX5 t a) : xk t (a + 6) = 14 := h.2.2.2.2.2.2.2.2.2.2.2.2.2.2.2.2.2.1
theorem oX5_n5 {t : xTh} {a : Nat} (h : oX5 t a) : xn t (a + 6) = 40 := h.2.2.2.2.2.2.2.2.2.2.2.2.2.2.2.2.2.2.1
theorem oX5_r6 {t : xTh} {a : Nat} (h : oX5 t a) : xr t a 6 = some (a + 7) := h.2.2.2.2.2.2.2.2.2.2.2.2.2.2.2.2.2.2.2.1
theorem oX5_k6 {t : xTh} {a : Nat} (h : oX5 t a) : xk t (a + 7) = 14 := h.2.2.2.2.2.2.2.2.2.2.2.2.2.2.2.2.2.2.2.2.1
theorem oX5_n6 {t : xTh} {a : Nat} (h : oX5 t a) : xn t (a + 7) = 40 := h.2.2.2.2.2.2.2.2.2.2.2.2.2.2.2.2.2.2.2.2.2.1
theorem oX5_r7 {t : xTh} {a : Nat} (h : oX5 t a) : xr t a 7 = some (a + 8) := h.2.2.2.2.2.2.2.2.2.2.2.2.2.2.2.2.2.2.2.2.2.2.1
theorem oX5_k7 {t : xTh} {a : Nat} (h : oX5 t a) : xk t (a + 8) = 14 := h.2.2.2.2.2.2.2.2.2.2.2.2.2.2.2.2.2.2.2.2.2.2.2.1
theorem oX5_n7 {t : xTh} {a : Nat} (h : oX5 t a) : xn t (a + 8) = 40 := h.2.2.2.2.2.2.2.2.2.2.2.2.2.2.2.2.2.2.2.2.2.2.2.2
def oX6 (t : xTh) (a : Nat) : Prop := xk t a = 6 ∧ xr t a 0 = some (a + 1) ∧ xk t (a + 1) = 14 ∧ xn t (a + 1) = 40 ∧ xr t a 1 = some (a + 2) ∧ xk t (a + 2) = 14 ∧ xn t (a + 2) = 40 ∧ xr t a 2 = some (a + 3) ∧ xk t (a + 3) = 14 ∧ xn t (a + 3) = 40 ∧ xr t a 3 = some (a + 4) ∧ xk t (a + 4) = 14 ∧ xn t (a + 4) = 40 ∧ xr t a 4 = some (a + 5) ∧ xk t (a + 5) = 14 ∧ xn t (a + 5) = 40
theorem oX6_k {t : xTh} {a : Nat} (h : oX6 t a) : xk t a = 6 := h.1
theorem oX6_r0 {t : xTh} {a : Nat} (h : oX6 t a) : xr t a 0 = some (a + 1) := h.2.1
theorem oX6_k0 {t : xTh} {a : Nat} (h : oX6 t a) : xk t (a + 1) = 14 := h.2.2.1
theorem oX6_n0 {t : xTh} {a : Nat} (h : oX6 t a) : xn t (a + 1) = 40 := h.2.2.2.1
theorem oX6_r1 {t : xTh} {a : Nat} (h : oX6 t a) : xr t a 1 = some (a + 2) := h.2.2.2.2.1
theorem oX6_k1 {t : xTh} {a : Nat} (h : oX6 t a) : xk t (a + 2) = 14 := h.2.2.2.2.2.1
theorem oX6_n1 {t : xTh} {a : Nat} (h : oX6 t a) : xn t (a + 2) = 40 := h.2.2.2.2.2.2.1
theorem oX6_r2 {t : xTh} {a : Nat} (h : oX6 t a) : xr t a 2 = some (a + 3) := h.2.2.2.2.2.2.2.1
theorem oX6_k2 {t : xTh} {a : Nat} (h : oX6 t a) : xk t (a + 3) = 14 := h.2.2.2.2.2.2.2.2.1
theorem oX6_n2 {t : xTh} {a : Nat} (h : oX6 t a) : xn t (a + 3) = 40 := h.2.2.2.2.2.2.2.2.2.1
theorem oX6_r3 {t : xTh} {a : Nat} (h : oX6 t a) : xr t a 3 = some (a + 4) := h.2.2.2.2.2.2.2.2.2.2.1
theorem oX6_k3 {t : xTh} {a : Nat} (h : oX6 t a) : xk t (a + 4) = 14 := h.2.2.2.2.2.2.2.2.2.2.2.1
theorem oX6_n3 {t : xTh} {a : Nat} (h : oX6 t a) : xn t (a + 4) = 40 := h.2.2.2.2.2.2.2.2.2.2.2.2.1
theorem oX6_r4 {t : xTh} {a : Nat} (h : oX6 t a) : xr t a 4 = some (a + 5) := h.2.2.2.2.2.2.2.2.2.2.2.2.2.1
theorem oX6_k4 {t : xTh} {a : Nat} (h : oX6 t a) : xk t (a + 5) = 14 := h.2.2.2.2.2.2.2.2.2.2.2.2.2.2.1
theorem oX6_n4 {t : xTh} {a : Nat} (h : oX6 t a) : xn t (a + 5) = 40 := h.2.2.2.2.2.2.2.2.2.2.2.2.2.2.2
def oX9 (t : xTh) (a : Nat) : Prop := xk t a = 9 ∧ xr t a 0 = some (a + 1) ∧ xk t (a + 1) = 13 ∧ xn t (a + 1) = 700
theorem oX9_k {t : xTh} {a : Nat} (h : oX9 t a) : xk t a = 9 := h.1
theorem oX9_r0 {t : xTh} {a : Nat} (h : oX9 t a) : xr t a 0 = some (a + 1) := h.2.1
theorem oX9_k0 {t : xTh} {a : Nat} (h : oX9 t a) : xk t (a + 1) = 13 := h.2.2.1
theorem oX9_n0 {t : xTh} {a : Nat} (h : oX9 t a) : xn t (a + 1) = 700 := h.2.2.2
def oX10 (t : xTh) (a : Nat) : Prop := xk t a = 10 ∧ xr t a 0 = some (a + 1) ∧ oX2 t (a + 1) ∧ xr t a 1 = some (a + 5) ∧ oX1 t (a + 5) ∧ xr t a 2 = some (a + 10) ∧ oX4 t (a + 10) ∧ xr t a 3 = some (a + 16) ∧ oX5 t (a + 16) ∧ xr t a 4 = some (a + 25) ∧ oX0 t (a + 25) ∧ xr t a 5 = some (a + 30) ∧ oX6 t (a + 30)
theorem oX10_k {t : xTh} {a : Nat} (h : oX10 t a) : xk t a = 10 := h.1
theorem oX10_r0 {t : xTh} {a : Nat} (h : oX10 t a) : xr t a 0 = some (a + 1) := h.2.1
theorem oX10_o0 {t : xTh} {a : Nat} (h : oX10 t a) : oX2 t (a + 1) := h.2.2.1
theorem oX10_r1 {t : xTh} {a : Nat} (h : oX10 t a) : xr t a 1 = some (a + 5) := h.2.2.2.1
theorem oX10_o1 {t : xTh} {a : Nat} (h : oX10 t a) : oX1 t (a + 5) := h.2.2.2.2.1
theorem oX10_r2 {t : xTh} {a : Nat} (h : oX10 t a) : xr t a 2 = some (a + 10) := h.2.2.2.2.2.1
theorem oX10_o2 {t : xTh} {a : Nat} (h : oX10 t a) : oX4 t (a + 10) := h.2.2.2.2.2.2.1
theorem oX10_r3 {t : xTh} {a : Nat} (h : oX10 t a) : xr t a 3 = some (a + 16) := h.2.2.2.2.2.2.2.1
theorem oX10_o3 {t : xTh} {a : Nat} (h : oX10 t a) : oX5 t (a + 16) := h.2.2.2.2.2.2.2.2.1
theorem oX10_r4 {t : xTh} {a : Nat} (h : oX10 t a) : xr t a 4 = some (a + 25) := h.2.2.2.2.2.2.2.2.2.1
theorem oX10_o4 {t : xTh} {a : Nat} (h : oX10 t a) : oX0 t (a + 25) := h.2.2.2.2.2.2.2.2.2.2.1
theorem oX10_r5 {t : xTh} {a : Nat} (h : oX10 t a) : xr t a 5 = some (a + 30) := h.2.2.2.2.2.2.2.2.2.2.2.1
theorem oX10_o5 {t : xTh} {a : Nat} (h : oX10 t a) : oX6 t (a + 30) := h.2.2.2.2.2.2.2.2.2.2.2.2
def oX8 (t : xTh) (a : Nat) : Prop := xk t a = 8 ∧ xr t a 0 = some (a + 1) ∧ oX9 t (a + 1) ∧ xr t a 1 = some (a + 3) ∧ oX10 t (a + 3) ∧ xr t a 4 = some (a + 42) ∧ xk t (a + 42) = 14 ∧ xn t (a + 42) = 700
theorem oX8_k {t : xTh} {a : Nat} (h : oX8 t a) : xk t a = 8 := h.1
theorem oX8_r0 {t : xTh} {a : Nat} (h : oX8 t a) : xr t a 0 = some (a + 1) := h.2.1
theorem oX8_o0 {t : xTh} {a : Nat} (h : oX8 t a) : oX9 t (a + 1) := h.2.2.1
theorem oX8_r1 {t : xTh} {a : Nat} (h : oX8 t a) : xr t a 1 = some (a + 3) := h.2.2.2.1
theorem oX8_o1 {t : xTh} {a : Nat} (h : oX8 t a) : oX10 t (a + 3) := h.2.2.2.2.1
theorem oX8_r4 {t : xTh} {a : Nat} (h : oX8 t a) : xr t a 4 = some (a + 42) := h.2.2.2.2.2.1
theorem oX8_k4 {t : xTh} {a : Nat} (h : oX8 t a) : xk t (a + 42) = 14 := h.2.2.2.2.2.2.1
theorem oX8_n4 {t : xTh} {a : Nat} (h : oX8 t a) : xn t (a + 42) = 700 := h.2.2.2.2.2.2.2
def oX3 (t : xTh) (a : Nat) : Prop := xk t a = 3 ∧ xr t a 0 = some (a + 1) ∧ xk t (a + 1) = 16 ∧ xn t (a + 1) = 8 ∧ ∀ i, i < 8 → xr t (a + 1) i = some (a + 2 + 39 * i) ∧ oX10 t (a + 2 + 39 * i)
theorem oX3_k {t : xTh} {a : Nat} (h : oX3 t a) : xk t a = 3 := h.1
theorem oX3_r0 {t : xTh} {a : Nat} (h : oX3 t a) : xr t a 0 = some (a + 1) := h.2.1
theorem oX3_k0 {t : xTh} {a : Nat} (h : oX3 t a) : xk t (a + 1) = 16 := h.2.2.1
theorem oX3_n0 {t : xTh} {a : Nat} (h : oX3 t a) : xn t (a + 1) = 8 := h.2.2.2.1
theorem oX3_w {t : xTh} {a : Nat} (h : oX3 t a) : ∀ i, i < 8 → xr t (a + 1) i = some (a + 2 + 39 * i) ∧ oX10 t (a + 2 + 39 * i) := h.2.2.2.2
def oX11 (t : xTh) (a : Nat) : Prop := xk t a = 11 ∧ xr t a 0 = some (a + 1) ∧ oX8 t (a + 1) ∧ xr t a 1 = some (a + 44) ∧ oX10 t (a + 44) ∧ xr t a 2 = some (a + 83) ∧ oX10 t (a + 83) ∧ xr t a 3 = some (a + 122) ∧ oX3 t (a + 122)
theorem oX11_k {t : xTh} {a : Nat} (h : oX11 t a) : xk t a = 11 := h.1
theorem oX11_r0 {t : xTh} {a : Nat} (h : oX11 t a) : xr t a 0 = some (a + 1) := h.2.1
theorem oX11_o0 {t : xTh} {a : Nat} (h : oX11 t a) : oX8 t (a + 1) := h.2.2.1
theorem oX11_r1 {t : xTh} {a : Nat} (h : oX11 t a) : xr t a 1 = some (a + 44) := h.2.2.2.1
theorem oX11_o1 {t : xTh} {a : Nat} (h : oX11 t a) : oX10 t (a + 44) := h.2.2.2.2.1
theorem oX11_r2 {t : xTh} {a : Nat} (h : oX11 t a) : xr t a 2 = some (a + 83) := h.2.2.2.2.2.1
theorem oX11_o2 {t : xTh} {a : Nat} (h : oX11 t a) : oX10 t (a + 83) := h.2.2.2.2.2.2.1
theorem oX11_r3 {t : xTh} {a : Nat} (h : oX11 t a) : xr t a 3 = some (a + 122) := h.2.2.2.2.2.2.2.1
theorem oX11_o3 {t : xTh} {a : Nat} (h : oX11 t a) : oX3 t (a + 122) := h.2.2.2.2.2.2.2.2
