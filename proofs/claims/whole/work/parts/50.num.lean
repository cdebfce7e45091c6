theorem bm64 {n : Int} (h0 : -9223372036854775808 ≤ n) (h1 : n < 9223372036854775808) : n.bmod (2 ^ 64) = n := Int.bmod_eq_of_le h0 h1
theorem bm32 {n : Int} (h0 : -2147483648 ≤ n) (h1 : n < 2147483648) : n.bmod (2 ^ 32) = n := Int.bmod_eq_of_le h0 h1
theorem mulZ (a b : Int64) : (a * b).toInt % 18446744073709551616 = (a.toInt * b.toInt) % 18446744073709551616 := by
  rw [Int64.toInt_mul]
  exact Int.bmod_emod
theorem mul64 {a b : Int64} (h0 : -9223372036854775808 ≤ a.toInt * b.toInt) (h1 : a.toInt * b.toInt < 9223372036854775808) : (a * b).toInt = a.toInt * b.toInt := by
  rw [Int64.toInt_mul]
  exact bm64 h0 h1
theorem add64 {a b : Int64} (h0 : -9223372036854775808 ≤ a.toInt + b.toInt) (h1 : a.toInt + b.toInt < 9223372036854775808) : (a + b).toInt = a.toInt + b.toInt := by
  rw [Int64.toInt_add]
  exact bm64 h0 h1
theorem sub64 {a b : Int64} (h0 : -9223372036854775808 ≤ a.toInt - b.toInt) (h1 : a.toInt - b.toInt < 9223372036854775808) : (a - b).toInt = a.toInt - b.toInt := by
  rw [Int64.toInt_sub]
  exact bm64 h0 h1
theorem neg64 {a : Int64} (h0 : -9223372036854775808 < a.toInt) : (-a).toInt = -a.toInt := by
  have h1 := a.toInt_lt
  have h2 := a.le_toInt
  rw [Int64.toInt_neg]
  exact bm64 (by omega) (by omega)
theorem sub32 {a b : Int32} (h0 : -2147483648 ≤ a.toInt - b.toInt) (h1 : a.toInt - b.toInt < 2147483648) : (a - b).toInt = a.toInt - b.toInt := by
  rw [Int32.toInt_sub]
  exact bm32 h0 h1
theorem add32 {a b : Int32} (h0 : -2147483648 ≤ a.toInt + b.toInt) (h1 : a.toInt + b.toInt < 2147483648) : (a + b).toInt = a.toInt + b.toInt := by
  rw [Int32.toInt_add]
  exact bm32 h0 h1
theorem min_toInt : (-9223372036854775808 : Int64).toInt = -9223372036854775808 := by decide
theorem flipZ (X : Int64) : (X + (-9223372036854775808)).toInt = X.toInt % 18446744073709551616 - 9223372036854775808 := by
  have h0 : -9223372036854775808 ≤ X.toInt := X.le_toInt
  have h1 : X.toInt < 9223372036854775808 := X.toInt_lt
  rw [Int64.toInt_add, min_toInt]
  rw [Int.bmod_def]
  have e : ((2 ^ 64 : Nat) : Int) = 18446744073709551616 := by decide
  rw [e]
  split <;> omega
theorem xor_min (x : BitVec 64) : x ^^^ 9223372036854775808#64 = x + 9223372036854775808#64 := by
  apply BitVec.eq_of_getLsbD_eq
  intro i hi
  have h2 : BitVec.carry i x 9223372036854775808#64 false = false := by
    have h3 : (9223372036854775808#64).toNat % 2 ^ i = 0 := Nat.mod_eq_zero_of_dvd (show 2 ^ i ∣ 2 ^ 63 from Nat.pow_dvd_pow 2 (by omega))
    have h4 := Nat.mod_lt x.toNat (Nat.two_pow_pos i)
    unfold BitVec.carry
    rw [h3]
    exact decide_eq_false (Nat.not_le.2 h4)
  rw [BitVec.getLsbD_add hi, BitVec.getLsbD_xor, h2, Bool.xor_false]
theorem min_bv : (-9223372036854775808 : Int64).toBitVec = 9223372036854775808#64 := by decide
theorem xor_min64 (X : Int64) : X ^^^ (-9223372036854775808) = X + (-9223372036854775808) := by
  apply Int64.toBitVec_inj.1
  rw [Int64.toBitVec_xor, Int64.toBitVec_add, min_bv]
  exact xor_min X.toBitVec
/-- what multiplyHigh is made of -/
theorem sh32 (X : Int64) : (X >>> ((32 : Int32).toInt64 &&& 63)).toInt = X.toInt / 4294967296 := by
  have e : ((32 : Int32).toInt64 &&& 63 : Int64) = 32 := by decide
  rw [e, ← Int64.toInt_toBitVec, Int64.toBitVec_shiftRight, show ((32 : Int64).toBitVec.smod 64) = 32#64 from by decide, BitVec.toInt_sshiftRight', Int.shiftRight_eq_div_pow]
  rfl
theorem mask32 (X : Int64) : (X &&& 4294967295).toInt = X.toInt % 4294967296 := by
  rw [← Int64.toInt_toBitVec, ← Int64.toInt_toBitVec, Int64.toBitVec_and, show (4294967295 : Int64).toBitVec = 4294967295#64 from by decide]
  generalize X.toBitVec = x
  have hx := x.isLt
  have e : (x &&& 4294967295#64).toNat = x.toNat % 4294967296 := by
    rw [BitVec.toNat_and]
    exact Nat.and_two_pow_sub_one_eq_mod x.toNat 32
  rw [BitVec.toInt_eq_toNat_cond, BitVec.toInt_eq_toNat_cond, e]
  split <;> split <;> omega
theorem ush32 (P : Int64) : ((P.toUInt64 >>> ((32 : Int32).toInt64.toUInt64 &&& Int64.toUInt64 63)).toInt64).toInt = (P.toInt % 18446744073709551616) / 4294967296 := by
  have e : ((32 : Int32).toInt64.toUInt64 &&& Int64.toUInt64 63 : UInt64) = 32 := by decide
  rw [e]
  show (P.toBitVec >>> (32 % 64 : BitVec 64)).toInt = (P.toBitVec.toInt % 18446744073709551616) / 4294967296
  generalize P.toBitVec = x
  have hx := x.isLt
  have e2 : (x >>> (32 % 64 : BitVec 64)).toNat = x.toNat / 4294967296 := by
    show x.toNat >>> (32 % 64 : BitVec 64).toNat = _
    rw [show (32 % 64 : BitVec 64).toNat = 32 from by decide, Nat.shiftRight_eq_div_pow]
  rw [BitVec.toInt_eq_toNat_cond, BitVec.toInt_eq_toNat_cond, e2]
  split <;> split <;> omega
theorem mh (x y : Int64) (hx0 : -4294967296 ≤ x.toInt) (hx1 : x.toInt < 4294967296) (hy0 : 0 ≤ y.toInt) (hy1 : y.toInt < 4294967296) : (sH_multiplyHigh x y).toInt = (x.toInt * y.toInt) / 18446744073709551616 := by
  have ey1 : y >>> ((32 : Int32).toInt64 &&& 63) = 0 := Int64.toInt_inj.1 (by rw [sh32]; show _ = (0 : Int); omega)
  have ey0 : y &&& 4294967295 = y := Int64.toInt_inj.1 (by rw [mask32]; omega)
  unfold sH_multiplyHigh
  rw [ey1, ey0]
  simp only [Int64.mul_zero, Int64.zero_add, Int64.add_zero]
  have hs := sh32 x
  have hm := mask32 x
  generalize x >>> ((32 : Int32).toInt64 &&& 63) = X1 at hs ⊢
  generalize x &&& 4294967295 = X0 at hm ⊢
  have hu := ush32 (X0 * y)
  rw [mulZ] at hu
  generalize ((X0 * y).toUInt64 >>> ((32 : Int32).toInt64.toUInt64 &&& Int64.toUInt64 63)).toInt64 = V at hu ⊢
  have b0 : 0 ≤ X0.toInt * y.toInt := Int.mul_nonneg (by omega) hy0
  have b1 : X0.toInt * y.toInt ≤ 4294967295 * y.toInt := Int.mul_le_mul_of_nonneg_right (by omega) hy0
  have hz : (X1 * y + V).toInt = (x.toInt * y.toInt) / 4294967296 := by
    rcases (show X1.toInt = 0 ∨ X1.toInt = -1 by omega) with k | k
    · have k1 : X0.toInt = x.toInt := by omega
      rw [k1] at hu b0 b1
      have k2 : (X1 * y).toInt = 0 := by rw [mul64 (by rw [k]; omega) (by rw [k]; omega), k]; omega
      rw [add64 (by omega) (by omega), k2, hu]
      omega
    · have k1 : X0.toInt = x.toInt + 4294967296 := by omega
      have k3 : X0.toInt * y.toInt = x.toInt * y.toInt + 4294967296 * y.toInt := by rw [k1, Int.add_mul]
      rw [k3] at hu b0 b1
      have k4 : X1.toInt * y.toInt = -y.toInt := by rw [k]; omega
      have k2 : (X1 * y).toInt = -y.toInt := by rw [mul64 (by omega) (by omega), k4]
      rw [add64 (by omega) (by omega), k2, hu]
      omega
  generalize X1 * y + V = Z at hz ⊢
  have c0 : -4294967296 * y.toInt ≤ x.toInt * y.toInt := Int.mul_le_mul_of_nonneg_right hx0 hy0
  have c1 : x.toInt * y.toInt ≤ 4294967295 * y.toInt := Int.mul_le_mul_of_nonneg_right (by omega) hy0
  have d1 := sh32 Z
  have d2 : ((Z &&& 4294967295) >>> ((32 : Int32).toInt64 &&& 63)).toInt = 0 := by rw [sh32, mask32]; omega
  rw [add64 (by omega) (by omega), d1, d2, hz]
  omega
/-- the sides as the class and as the reference name them -/
def sg3 (z : Int) : Int32 := if 0 < z then 1 else if z < 0 then 2 else 0
def sgm (z : Int) : Int32 := if 0 < z then 1 else if z < 0 then -1 else 0
theorem orderZ (x y u v : Int64) (hx0 : -4294967296 ≤ x.toInt) (hx1 : x.toInt < 4294967296) (hy0 : 0 ≤ y.toInt) (hy1 : y.toInt < 4294967296) (hu0 : -4294967296 ≤ u.toInt) (hu1 : u.toInt < 4294967296) (hv0 : 0 ≤ v.toInt) (hv1 : v.toInt < 4294967296) : sM_order x y u v = sgm (x.toInt * y.toInt - u.toInt * v.toInt) := by
  have c0 : -4294967296 * y.toInt ≤ x.toInt * y.toInt := Int.mul_le_mul_of_nonneg_right hx0 hy0
  have c1 : x.toInt * y.toInt ≤ 4294967295 * y.toInt := Int.mul_le_mul_of_nonneg_right (by omega) hy0
  have d0 : -4294967296 * v.toInt ≤ u.toInt * v.toInt := Int.mul_le_mul_of_nonneg_right hu0 hv0
  have d1 : u.toInt * v.toInt ≤ 4294967295 * v.toInt := Int.mul_le_mul_of_nonneg_right (by omega) hv0
  have m1 := mh x y hx0 hx1 hy0 hy1
  have m2 := mh u v hu0 hu1 hv0 hv1
  have f1 := flipZ (x * y)
  have f2 := flipZ (u * v)
  rw [mulZ] at f1 f2
  unfold sM_order
  generalize sH_multiplyHigh x y = A at m1 ⊢
  generalize sH_multiplyHigh u v = B at m2 ⊢
  generalize x * y + (-9223372036854775808) = C at f1 ⊢
  generalize u * v + (-9223372036854775808) = D at f2 ⊢
  generalize x.toInt * y.toInt = P at *
  generalize u.toInt * v.toInt = Q at *
  simp only [← Int64.toInt_inj, Int64.le_iff_toInt_le]
  unfold sgm
  repeat' split
  all_goals first | rfl | (exfalso; omega)
theorem sideOfZ (x : Int64) : sT_sideOf x = sg3 x.toInt := by
  unfold sT_sideOf sg3
  simp only [Int64.le_iff_toInt_le, Int64.toInt_zero]
  repeat' split
  all_goals first | rfl | (exfalso; omega)
theorem flp (x v : Int64) (hx0 : -4294836225 ≤ x.toInt) (hx1 : x.toInt ≤ 4294836225) (hv0 : 0 ≤ v.toInt) (hv1 : v.toInt ≤ 4294836225) : (((if 0 < x then x else -x) * v) ^^^ (-9223372036854775808)).toInt = (if 0 < x.toInt then x.toInt * v.toInt else -(x.toInt * v.toInt)) - 9223372036854775808 := by
  have c0 : -4294836225 * v.toInt ≤ x.toInt * v.toInt := Int.mul_le_mul_of_nonneg_right hx0 hv0
  have c1 : x.toInt * v.toInt ≤ 4294836225 * v.toInt := Int.mul_le_mul_of_nonneg_right hx1 hv0
  rw [xor_min64, flipZ, mulZ]
  by_cases h : 0 < x
  · have h1 : 0 < x.toInt := by rw [Int64.lt_iff_toInt_lt, Int64.toInt_zero] at h; exact h
    have c2 : 0 ≤ x.toInt * v.toInt := Int.mul_nonneg (by omega) hv0
    rw [if_pos h, if_pos h1]
    omega
  · have h1 : ¬ 0 < x.toInt := by rw [Int64.lt_iff_toInt_lt, Int64.toInt_zero] at h; exact h
    have c2 : 0 ≤ -x.toInt * v.toInt := Int.mul_nonneg (by omega) hv0
    rw [if_neg h, if_neg h1, neg64 (by omega), Int.neg_mul] 
    rw [Int.neg_mul] at c2
    omega
theorem sideBetweenZ (x y u v : Int64) (hx0 : -4294836225 ≤ x.toInt) (hx1 : x.toInt ≤ 4294836225) (hy0 : -4294836225 ≤ y.toInt) (hy1 : y.toInt ≤ 4294836225) (hu0 : 0 < u.toInt) (hu1 : u.toInt ≤ 4294836225) (hv0 : 0 < v.toInt) (hv1 : v.toInt ≤ 4294836225) : sT_sideBetween x y u v = sg3 (x.toInt * v.toInt + y.toInt * u.toInt) := by
  have f1 := flp x v hx0 hx1 (by omega) hv1
  have f2 := flp y u hy0 hy1 (by omega) hu1
  have p1 : 0 < x.toInt → 0 < x.toInt * v.toInt := fun h => Int.mul_pos h hv0
  have p2 : x.toInt < 0 → x.toInt * v.toInt < 0 := fun h => Int.mul_neg_of_neg_of_pos h hv0
  have p3 : x.toInt = 0 → x.toInt * v.toInt = 0 := fun h => by rw [h, Int.zero_mul]
  have q1 : 0 < y.toInt → 0 < y.toInt * u.toInt := fun h => Int.mul_pos h hu0
  have q2 : y.toInt < 0 → y.toInt * u.toInt < 0 := fun h => Int.mul_neg_of_neg_of_pos h hu0
  have q3 : y.toInt = 0 → y.toInt * u.toInt = 0 := fun h => by rw [h, Int.zero_mul]
  unfold sT_sideBetween
  generalize (((if 0 < x then x else -x) * v) ^^^ (-9223372036854775808)) = A at f1 ⊢
  generalize (((if 0 < y then y else -y) * u) ^^^ (-9223372036854775808)) = B at f2 ⊢
  generalize x.toInt * v.toInt = P at *
  generalize y.toInt * u.toInt = Q at *
  simp only [← Int64.toInt_inj, Int64.le_iff_toInt_le, Int64.lt_iff_toInt_lt, Int64.toInt_zero]
  unfold sg3
  by_cases s1 : 0 < x.toInt
  · rw [if_pos s1] at f1
    by_cases s2 : 0 < y.toInt
    · rw [if_pos s2] at f2
      repeat' split
      all_goals first | rfl | (exfalso; omega)
    · rw [if_neg s2] at f2
      repeat' split
      all_goals first | rfl | (exfalso; omega)
  · rw [if_neg s1] at f1
    by_cases s2 : 0 < y.toInt
    · rw [if_pos s2] at f2
      repeat' split
      all_goals first | rfl | (exfalso; omega)
    · rw [if_neg s2] at f2
      repeat' split
      all_goals first | rfl | (exfalso; omega)
