-- PRODUCTS beyond 64 bits
theorem sh32 : (Int32.toInt64 32 &&& 63 : Int64) = 32 ∧ (Int64.toUInt64 (Int32.toInt64 32) &&& Int64.toUInt64 63) = 32 := by decide
theorem zL_shr32 {a : Int} (h1 : -9223372036854775808 ≤ a) (h2 : a ≤ 9223372036854775807) : zL a >>> (32 : Int64) = zL (a / 4294967296) := by
  have e : (zL a >>> (32 : Int64)).toInt = a / 4294967296 := by
    show (BitVec.sshiftRight (zL a).toBitVec 32).toInt = _
    rw [BitVec.toInt_sshiftRight, Int.shiftRight_eq_div_pow]
    have : (zL a).toBitVec.toInt = a := zL_toInt h1 h2
    rw [this]
    rfl
  rw [← e]; exact (Int64.ofInt_toInt _).symm
theorem zL_and32 (a : Int) : zL a &&& 4294967295 = zL (a % 4294967296) := by
  apply Int64.toBitVec_inj.mp
  show BitVec.ofInt 64 a &&& 4294967295#64 = BitVec.ofInt 64 (a % 4294967296)
  apply BitVec.eq_of_toNat_eq
  rw [BitVec.toNat_and, BitVec.toNat_ofInt, BitVec.toNat_ofInt]
  show (a % ((2 ^ 64 : Nat) : Int)).toNat &&& 4294967295 = _
  rw [show (4294967295 : Nat) = 2 ^ 32 - 1 from rfl, Nat.and_two_pow_sub_one_eq_mod]
  show (a % 18446744073709551616).toNat % 4294967296 = (a % 4294967296 % 18446744073709551616).toNat
  omega
theorem zL_ushr32 {n : Int} (h1 : 0 ≤ n) (h2 : n < 18446744073709551616) : UInt64.toInt64 (Int64.toUInt64 (zL n) >>> (32 : UInt64)) = zL (n / 4294967296) := by
  apply Int64.toBitVec_inj.mp
  show (BitVec.ofInt 64 n) >>> 32 = BitVec.ofInt 64 (n / 4294967296)
  apply BitVec.eq_of_toNat_eq
  rw [BitVec.toNat_ushiftRight, Nat.shiftRight_eq_div_pow, BitVec.toNat_ofInt, BitVec.toNat_ofInt]
  show (n % 18446744073709551616).toNat / 4294967296 = (n / 4294967296 % 18446744073709551616).toNat
  omega
theorem mh_alg (P Q R S : Int) (h : 0 ≤ S) : P + (Q + S / 4294967296) / 4294967296 + ((Q + S / 4294967296) % 4294967296 + R) / 4294967296 = (P * 18446744073709551616 + (Q + R) * 4294967296 + S) / 18446744073709551616 := by omega
theorem mh_split (a b : Int) : a * b = (a / 4294967296) * (b / 4294967296) * 18446744073709551616 + ((a / 4294967296) * (b % 4294967296) + (a % 4294967296) * (b / 4294967296)) * 4294967296 + (a % 4294967296) * (b % 4294967296) := by
  have ea : a = (a / 4294967296) * 4294967296 + a % 4294967296 := by omega
  have eb : b = (b / 4294967296) * 4294967296 + b % 4294967296 := by omega
  generalize a / 4294967296 = x at *
  generalize a % 4294967296 = y at *
  generalize b / 4294967296 = u at *
  generalize b % 4294967296 = v at *
  rw [ea, eb]
  grind
theorem mulHigh {a b : Int} (a1 : -4611686018427387904 ≤ a) (a2 : a ≤ 4611686018427387904) (b1 : -4611686018427387904 ≤ b) (b2 : b ≤ 4611686018427387904) (s : vt_S) : ab_J9_multiplyHigh_f86c9 (zL a) (zL b) s = some (zL (a * b / 18446744073709551616), s) := by
  unfold ab_J9_multiplyHigh_f86c9
  rw [sh32.1, sh32.2, zL_shr32 (by omega) (by omega), zL_shr32 (by omega) (by omega), zL_and32, zL_and32, zL_mul, zL_mul, zL_mul]
  have x1 : -1073741824 ≤ a / 4294967296 ∧ a / 4294967296 ≤ 1073741824 := by omega
  have x2 : 0 ≤ a % 4294967296 ∧ a % 4294967296 ≤ 4294967295 := by omega
  have y1 : -1073741824 ≤ b / 4294967296 ∧ b / 4294967296 ≤ 1073741824 := by omega
  have y2 : 0 ≤ b % 4294967296 ∧ b % 4294967296 ≤ 4294967295 := by omega
  have sp := mh_split a b
  generalize a / 4294967296 = ah at *
  generalize a % 4294967296 = al at *
  generalize b / 4294967296 = bh at *
  generalize b % 4294967296 = bl at *
  have m1 := mulb (a := ah) (b := bl) (A := 1073741824) (C := 4294967295) (by omega) (by omega) (by omega) (by omega)
  have m2 := mulb (a := al) (b := bh) (A := 4294967295) (C := 1073741824) (by omega) (by omega) (by omega) (by omega)
  have m3 := mulb (a := al) (b := bl) (A := 4294967295) (C := 4294967295) (by omega) (by omega) (by omega) (by omega)
  have m4 : 0 ≤ al * bl := Int.mul_nonneg x2.1 y2.1
  rw [zL_mul, zL_ushr32 m4 (by omega), zL_add]
  generalize al * bl = S at *
  generalize ah * bl = Q at *
  generalize al * bh = R at *
  generalize ah * bh = P at *
  rw [zL_shr32 (by omega) (by omega), zL_and32, zL_add, zL_add, zL_shr32 (by omega) (by omega), zL_add, sp, mh_alg P Q R S m4]
/-- the order of two numbers, as the programs answer it -/
def cmpZ (a b : Int) : Int := if a < b then -1 else if a = b then 0 else 1
theorem cmpZ_rng (a b : Int) : -1 ≤ cmpZ a b ∧ cmpZ a b ≤ 1 := by unfold cmpZ; split <;> (try split) <;> omega
theorem ordJ {a b c d : Int} (a1 : -4611686018427387904 ≤ a) (a2 : a ≤ 4611686018427387904) (b1 : -4611686018427387904 ≤ b) (b2 : b ≤ 4611686018427387904) (c1 : -4611686018427387904 ≤ c) (c2 : c ≤ 4611686018427387904) (d1 : -4611686018427387904 ≤ d) (d2 : d ≤ 4611686018427387904) (s : vt_S) : ab_X16_order (zL a) (zL b) (zL c) (zL d) s = some (zI (cmpZ (a * b) (c * d)), s) := by
  unfold ab_X16_order ab_X16_order_83 ab_X16_order_37
  rw [mulHigh a1 a2 b1 b2, vbs, mulHigh c1 c2 d1 d2, vbs, zL_mul, zL_mul]
  have m1 := mulb (a := a) (b := b) (A := 4611686018427387904) (C := 4611686018427387904) a1 a2 b1 b2
  have m2 := mulb (a := c) (b := d) (A := 4611686018427387904) (C := 4611686018427387904) c1 c2 d1 d2
  generalize a * b = x at *
  generalize c * d = y at *
  have hx : -1152921504606846976 ≤ x / 18446744073709551616 ∧ x / 18446744073709551616 ≤ 1152921504606846976 := by omega
  have hy : -1152921504606846976 ≤ y / 18446744073709551616 ∧ y / 18446744073709551616 ≤ 1152921504606846976 := by omega
  have e1 := lg_eq (a := x / 18446744073709551616) (b := y / 18446744073709551616) (by omega) (by omega) (by omega) (by omega)
  have e2 := lg_le (a := x / 18446744073709551616) (b := y / 18446744073709551616) (by omega) (by omega) (by omega) (by omega)
  have low : ∀ z : Int, zL z + (-9223372036854775808) = zL (z % 18446744073709551616 - 9223372036854775808) := by
    intro z
    rw [show (-9223372036854775808 : Int64) = zL (-9223372036854775808) from rfl, zL_add]
    apply Int64.toInt_inj.mp
    rw [zL_toInt (a := z % 18446744073709551616 - 9223372036854775808) (by omega) (by omega)]
    show (Int64.ofInt _).toInt = _
    rw [Int64.toInt_ofInt, Int.bmod_def]
    show (if (z + -9223372036854775808) % 18446744073709551616 < (18446744073709551616 + 1) / 2 then (z + -9223372036854775808) % 18446744073709551616 else (z + -9223372036854775808) % 18446744073709551616 - 18446744073709551616) = _
    clear e1 e2 hx hy m1 m2 a1 a2 b1 b2 c1 c2 d1 d2
    split <;> omega
  rw [low, low]
  have e3 := lg_le (a := x % 18446744073709551616 - 9223372036854775808) (b := y % 18446744073709551616 - 9223372036854775808) (by omega) (by omega) (by omega) (by omega)
  have e4 := lg_ge (a := x % 18446744073709551616 - 9223372036854775808) (b := y % 18446744073709551616 - 9223372036854775808) (by omega) (by omega) (by omega) (by omega)
  rw [show (0 : Int32) = zI 0 from rfl]
  unfold cmpZ
  by_cases c1 : x / 18446744073709551616 = y / 18446744073709551616
  · rw [if_pos (by rw [e1]; exact c1)]
    by_cases c2 : x % 18446744073709551616 - 9223372036854775808 ≤ y % 18446744073709551616 - 9223372036854775808
    · rw [if_pos (by rw [e3]; exact c2)]
      by_cases c3 : y % 18446744073709551616 - 9223372036854775808 ≤ x % 18446744073709551616 - 9223372036854775808
      · rw [if_pos (by rw [e4]; exact c3), if_neg (by omega), if_pos (by omega)]
      · rw [if_neg (by rw [e4]; exact c3), if_pos (by omega)]; rfl
    · rw [if_neg (by rw [e3]; exact c2), if_neg (by omega), if_neg (by omega)]; rfl
  · rw [if_neg (by rw [e1]; exact c1)]
    by_cases c2 : x / 18446744073709551616 ≤ y / 18446744073709551616
    · rw [if_pos (by rw [e2]; exact c2), if_pos (by omega)]; rfl
    · rw [if_neg (by rw [e2]; exact c2), if_neg (by omega), if_neg (by omega)]; rfl
