/-! ===== signed numbers ===== -/
def iZ (z : Int) : Int32 := Int32.ofInt z
def lZ (z : Int) : Int64 := Int64.ofInt z
theorem iZ_n (n : Nat) : nI n = iZ n := rfl
theorem lZ_n (n : Nat) : lN n = lZ n := rfl
theorem iZ_t {z : Int} (h1 : -2147483648 ≤ z) (h2 : z < 2147483648) : (iZ z).toInt = z := by
  unfold iZ
  have e : Int32.size = 4294967296 := rfl
  rw [Int32.toInt_ofInt]
  exact Int.bmod_eq_of_le (by omega) (by omega)
theorem lZ_t {z : Int} (h1 : -9223372036854775808 ≤ z) (h2 : z < 9223372036854775808) : (lZ z).toInt = z := by
  unfold lZ
  have e : Int64.size = 18446744073709551616 := rfl
  rw [Int64.toInt_ofInt]
  exact Int.bmod_eq_of_le (by omega) (by omega)
theorem iZ_of (x : Int32) : x = iZ x.toInt := by unfold iZ; exact (Int32.ofInt_toInt x).symm
theorem lZ_of (x : Int64) : x = lZ x.toInt := by unfold lZ; exact (Int64.ofInt_toInt x).symm
theorem iZ_lo (x : Int32) : -2147483648 ≤ x.toInt := Int32.le_toInt x
theorem iZ_hi (x : Int32) : x.toInt < 2147483648 := Int32.toInt_lt x
theorem lZ_lo (x : Int64) : -9223372036854775808 ≤ x.toInt := Int64.le_toInt x
theorem lZ_hi (x : Int64) : x.toInt < 9223372036854775808 := Int64.toInt_lt x
theorem iZ_add (a b : Int) : iZ a + iZ b = iZ (a + b) := (Int32.ofInt_add a b).symm
theorem iZ_sub (a b : Int) : iZ a - iZ b = iZ (a - b) := (Int32.ofInt_sub a b).symm
theorem iZ_mul (a b : Int) : iZ a * iZ b = iZ (a * b) := (Int32.ofInt_mul a b).symm
theorem iZ_neg (a : Int) : -iZ a = iZ (-a) := (Int32.ofInt_neg a).symm
theorem lZ_add (a b : Int) : lZ a + lZ b = lZ (a + b) := (Int64.ofInt_add a b).symm
theorem lZ_sub (a b : Int) : lZ a - lZ b = lZ (a - b) := (Int64.ofInt_sub a b).symm
theorem lZ_mul (a b : Int) : lZ a * lZ b = lZ (a * b) := (Int64.ofInt_mul a b).symm
theorem lZ_neg (a : Int) : -lZ a = lZ (-a) := (Int64.ofInt_neg a).symm
section CM
variable {a b : Int}
theorem iZ_lt (a1 : -2147483648 ≤ a) (a2 : a < 2147483648) (b1 : -2147483648 ≤ b) (b2 : b < 2147483648) : iZ a < iZ b ↔ a < b := by
  rw [Int32.lt_iff_toInt_lt, iZ_t a1 a2, iZ_t b1 b2]
theorem iZ_le (a1 : -2147483648 ≤ a) (a2 : a < 2147483648) (b1 : -2147483648 ≤ b) (b2 : b < 2147483648) : iZ a ≤ iZ b ↔ a ≤ b := by
  rw [Int32.le_iff_toInt_le, iZ_t a1 a2, iZ_t b1 b2]
theorem iZ_eq (a1 : -2147483648 ≤ a) (a2 : a < 2147483648) (b1 : -2147483648 ≤ b) (b2 : b < 2147483648) : iZ a = iZ b ↔ a = b := by
  rw [← Int32.toInt_inj, iZ_t a1 a2, iZ_t b1 b2]
theorem lZ_lt (a1 : -9223372036854775808 ≤ a) (a2 : a < 9223372036854775808) (b1 : -9223372036854775808 ≤ b) (b2 : b < 9223372036854775808) : lZ a < lZ b ↔ a < b := by
  rw [Int64.lt_iff_toInt_lt, lZ_t a1 a2, lZ_t b1 b2]
theorem lZ_le (a1 : -9223372036854775808 ≤ a) (a2 : a < 9223372036854775808) (b1 : -9223372036854775808 ≤ b) (b2 : b < 9223372036854775808) : lZ a ≤ lZ b ↔ a ≤ b := by
  rw [Int64.le_iff_toInt_le, lZ_t a1 a2, lZ_t b1 b2]
theorem lZ_eq (a1 : -9223372036854775808 ≤ a) (a2 : a < 9223372036854775808) (b1 : -9223372036854775808 ≤ b) (b2 : b < 9223372036854775808) : lZ a = lZ b ↔ a = b := by
  rw [← Int64.toInt_inj, lZ_t a1 a2, lZ_t b1 b2]
end CM
theorem lZ_i (z : Int) : (lZ z).toInt32 = iZ z := by
  unfold lZ iZ
  exact Int32.toInt_inj.mp (by
    rw [Int64.toInt_toInt32, Int64.toInt_ofInt, Int32.toInt_ofInt]
    exact Int.bmod_bmod_of_dvd (by decide))
theorem iZ_l {z : Int} (h1 : -2147483648 ≤ z) (h2 : z < 2147483648) : (iZ z).toInt64 = lZ z := Int64.toInt_inj.mp (by
  rw [Int32.toInt_toInt64, iZ_t h1 h2, lZ_t (by omega) (by omega)])
theorem iZ_lx (x : Int32) : x.toInt64 = lZ x.toInt := Int64.toInt_inj.mp (by
  have h1 := iZ_lo x
  have h2 := iZ_hi x
  rw [Int32.toInt_toInt64, lZ_t (by omega) (by omega)])
theorem lZ_nat {z : Int} (h : 0 ≤ z) : lZ z = lN z.toNat := by
  rw [lZ_n, Int.toNat_of_nonneg h]
theorem iZ_nat {z : Int} (h : 0 ≤ z) : iZ z = nI z.toNat := by
  rw [iZ_n, Int.toNat_of_nonneg h]
section DV
variable {a b : Int} {x y : Int64}
theorem lZ_div (a1 : -9223372036854775808 ≤ a) (a2 : a < 9223372036854775808) (b1 : 0 < b) (b2 : b < 9223372036854775808) : lZ a / lZ b = lZ (a.tdiv b) := by
  refine Int64.toInt_inj.mp ?_
  have h3 : (lZ b).toInt = b := lZ_t (by omega) b2
  rw [Int64.toInt_div_of_ne_right _ _ (by
    intro h
    rw [← Int64.toInt_inj, h3] at h
    have : (-1 : Int64).toInt = -1 := by decide
    omega), h3, lZ_t a1 a2]
  have q1 : (a.tdiv b).natAbs ≤ a.natAbs := by rw [Int.natAbs_tdiv]; exact Nat.div_le_self _ _
  by_cases hm : a = -9223372036854775808
  · have q2 : a.tdiv b ≤ 0 := by
      subst hm
      rw [Int.neg_tdiv]
      have : 0 ≤ (9223372036854775808 : Int).tdiv b := Int.tdiv_nonneg (by omega) (by omega)
      omega
    rw [lZ_t (by omega) (by omega)]
  · rw [lZ_t (by omega) (by omega)]
theorem dvZ (hx : x = lZ a) (hy : y = lZ b) (a1 : -9223372036854775808 ≤ a) (a2 : a < 9223372036854775808) (b1 : 0 < b) (b2 : b < 9223372036854775808) : dvL x y = some (lZ (a.tdiv b)) := by
  subst hx hy
  unfold dvL
  rw [if_neg, lZ_div a1 a2 b1 b2]
  intro h
  have := (lZ_eq (by omega) b2 (by omega) (by omega)).mp (show lZ b = lZ 0 from h)
  omega
theorem rmZ (hx : x = lZ a) (hy : y = lZ b) (a1 : -9223372036854775808 ≤ a) (a2 : a < 9223372036854775808) (b1 : 0 < b) (b2 : b < 9223372036854775808) : rmL x y = some (lZ (a.tmod b)) := by
  subst hx hy
  unfold rmL
  rw [if_neg, lZ_div a1 a2 b1 b2, lZ_mul, lZ_sub]
  · congr 2
    have := Int.tmod_add_mul_tdiv a b
    rw [Int.mul_comm] at this
    omega
  intro h
  have := (lZ_eq (by omega) b2 (by omega) (by omega)).mp (show lZ b = lZ 0 from h)
  omega
end DV
