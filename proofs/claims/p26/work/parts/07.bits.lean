/-! THE REST OF THE INSTRUCTIONS -/
def xcmp (x y : Int) : Int := if y < x then 1 else if x = y then 0 else -1
theorem xI_sar : ∀ s : Fin 32, ((Int32.ofInt (s : Nat) &&& 31).toBitVec.smod 32).toNat = s := by decide +kernel
theorem xI_shr {x : Int} (hx : xR x) (s : Nat) (hs : s < 32) : Int32.ofInt x >>> (Int32.ofInt s &&& 31) = Int32.ofInt (x / 2 ^ s) := by
  have e := pk_shr (Int32.ofInt x) (Int32.ofInt s &&& 31) s (xI_sar ⟨s, hs⟩)
  rw [xR_ti hx, Int.shiftRight_eq_div_pow] at e
  have h0 : (0 : Int) < 2 ^ s := Int.pow_pos (by decide)
  have hr : xR (x / 2 ^ s) := by
    obtain ⟨a, b⟩ := hx
    refine ⟨?_, ?_⟩
    · rw [Int.le_ediv_iff_mul_le h0]
      have : (-2147483648 : Int) * 2 ^ s ≤ -2147483648 * 1 := Int.mul_le_mul_of_nonpos_left (by decide) (by omega)
      omega
    · rcases Int.le_total 0 x with q | q
      · exact Int.lt_of_le_of_lt (Int.ediv_le_self _ q) b
      · have : x / 2 ^ s ≤ 0 := by have := Int.ediv_le_ediv h0 q; rwa [Int.zero_ediv] at this
        omega
  refine Int32.toInt_inj.mp ?_
  rw [e, xR_ti hr]
  norm_cast
theorem xI_and {x m : Int} (k : Nat) (hm : (Int32.ofInt m).toBitVec.toNat = 2 ^ k - 1) (hk : k ≤ 31) : Int32.ofInt x &&& Int32.ofInt m = Int32.ofInt (x % 2 ^ k) := by
  rw [pk_and _ k hm, Int32.toBitVec_ofInt, BitVec.toNat_ofInt]
  show Int32.ofNat _ = _
  rw [← Int32.ofInt_eq_ofNat]
  congr 1
  rw [Int.natCast_emod, Int.toNat_of_nonneg (Int.emod_nonneg _ (by decide))]
  have hd : ((2 ^ k : Nat) : Int) ∣ ((2 ^ 32 : Nat) : Int) := Int.natCast_dvd_natCast.mpr (Nat.pow_dvd_pow 2 (by omega))
  rw [Int.emod_emod_of_dvd _ hd]
  norm_cast
theorem xI_shl1 : ∀ s : Fin 31, Int32.ofInt 1 <<< (Int32.ofInt (s : Nat) &&& 31) = Int32.ofInt ((2 ^ (s : Nat) : Nat)) := by decide +kernel
theorem xI_or8 : ∀ x y : Fin 8, Int32.ofInt (x : Nat) ||| Int32.ofInt (y : Nat) = Int32.ofInt (((x : Nat) ||| (y : Nat) : Nat)) := by decide +kernel
theorem xI_div {x y : Int} (hx : xR x) (hy : xR y) : Int32.ofInt x / Int32.ofInt y = Int32.ofInt (x.tdiv y) := by
  refine Int32.toInt_inj.mp ?_
  rw [Int32.toInt_div, xR_ti hx, xR_ti hy, Int32.toInt_ofInt]
theorem xI_rem {x y : Int} (hx : xR x) (hy : xR y) : Int32.ofInt x - Int32.ofInt x / Int32.ofInt y * Int32.ofInt y = Int32.ofInt (x.tmod y) := by
  rw [xI_div hx hy, ← Int32.ofInt_mul, ← Int32.ofInt_sub, Int.tmod_def, Int.mul_comm]
theorem xI_ldiv {x y : Int} (hx : xRl x) (hy : xRl y) : Int64.ofInt x / Int64.ofInt y = Int64.ofInt (x.tdiv y) := by
  refine Int64.toInt_inj.mp ?_
  rw [Int64.toInt_div, xRl_ti hx, xRl_ti hy, Int64.toInt_ofInt]
theorem xI_i2l {x : Int} (hx : xR x) : (Int32.ofInt x).toInt64 = Int64.ofInt x := by
  refine Int64.toInt_inj.mp ?_
  rw [Int32.toInt_toInt64, xR_ti hx, xRl_ti ⟨by have := hx.1; omega, by have := hx.2; omega⟩]
theorem xI_i2b (x : Int) : (Int32.ofInt x).toInt8.toInt32 = Int32.ofInt (x.bmod 256) := by
  refine Int32.toInt_inj.mp ?_
  rw [Int32.toInt8_ofInt, Int8.toInt_toInt32, Int8.toInt_ofInt, show x.bmod Int8.size = x.bmod 256 from rfl]
  have h1 : x.bmod 256 < 128 := Int.bmod_lt (by decide)
  have h2 : -128 ≤ x.bmod 256 := Int.le_bmod (by decide)
  exact (xR_ti ⟨by omega, by omega⟩).symm
theorem xI_lcmp {x y : Int} (hx : xRl x) (hy : xRl y) : lg_cmp (Int64.ofInt x) (Int64.ofInt y) = Int32.ofInt (xcmp x y) := by
  unfold lg_cmp xcmp
  by_cases h1 : y < x
  · rw [if_pos h1, if_pos (show Int64.ofInt y < Int64.ofInt x from (xRl_lt hy hx).mpr h1)]; rfl
  · rw [if_neg h1, if_neg (show ¬ Int64.ofInt y < Int64.ofInt x from fun z => h1 ((xRl_lt hy hx).mp z))]
    by_cases h2 : x = y
    · rw [if_pos h2, if_pos ((xRl_eq hx hy).mpr h2)]; rfl
    · rw [if_neg h2, if_neg (fun z => h2 ((xRl_eq hx hy).mp z))]; rfl
theorem xn_new {t : xTh} {k m : Nat} : xn (xnw t k m) (xz t) = m := by simp [xn, xnw]
theorem xk_new {t : xTh} {k m : Nat} : xk (xnw t k m) (xz t) = k := by simp [xk, xnw]
theorem xr_new {t : xTh} {k m j : Nat} : xr (xnw t k m) (xz t) j = none := by simp [xr, xnw]
theorem xw0_self {M : xMe} {a j : Nat} : xw0 M a a j = 0 := by simp [xw0]
