-- NUMBERS of the machine as whole numbers
def zI (i : Int) : Int32 := Int32.ofInt i
def zL (i : Int) : Int64 := Int64.ofInt i
theorem zI_add (a b : Int) : zI a + zI b = zI (a + b) := (Int32.ofInt_add a b).symm
theorem zI_sub (a b : Int) : zI a - zI b = zI (a - b) := (Int32.ofInt_sub a b).symm
theorem zI_mul (a b : Int) : zI a * zI b = zI (a * b) := (Int32.ofInt_mul a b).symm
theorem zI_neg (a : Int) : -zI a = zI (-a) := (Int32.ofInt_neg a).symm
theorem zL_add (a b : Int) : zL a + zL b = zL (a + b) := (Int64.ofInt_add a b).symm
theorem zL_sub (a b : Int) : zL a - zL b = zL (a - b) := (Int64.ofInt_sub a b).symm
theorem zL_mul (a b : Int) : zL a * zL b = zL (a * b) := (Int64.ofInt_mul a b).symm
theorem zL_neg (a : Int) : -zL a = zL (-a) := (Int64.ofInt_neg a).symm
theorem zI_ex (x : Int32) : ∃ i, x = zI i ∧ -2147483648 ≤ i ∧ i ≤ 2147483647 := ⟨x.toInt, (Int32.ofInt_toInt x).symm, Int32.le_toInt x, by have := Int32.toInt_lt x; omega⟩
theorem zL_ex (x : Int64) : ∃ i, x = zL i ∧ -9223372036854775808 ≤ i ∧ i ≤ 9223372036854775807 := ⟨x.toInt, (Int64.ofInt_toInt x).symm, Int64.le_toInt x, by have := Int64.toInt_lt x; omega⟩
section ZI
variable {a b : Int}
theorem zI_toInt (h1 : -2147483648 ≤ a) (h2 : a ≤ 2147483647) : (zI a).toInt = a := Int32.toInt_ofInt_of_le (by omega) (by omega)
theorem zL_toInt (h1 : -9223372036854775808 ≤ a) (h2 : a ≤ 9223372036854775807) : (zL a).toInt = a := Int64.toInt_ofInt_of_le (by omega) (by omega)
theorem zI_le (h1 : -2147483648 ≤ a) (h2 : a ≤ 2147483647) (h3 : -2147483648 ≤ b) (h4 : b ≤ 2147483647) : (zI a ≤ zI b) = (a ≤ b) := by
  rw [Int32.le_iff_toInt_le, zI_toInt h1 h2, zI_toInt h3 h4]
theorem zI_lt (h1 : -2147483648 ≤ a) (h2 : a ≤ 2147483647) (h3 : -2147483648 ≤ b) (h4 : b ≤ 2147483647) : (zI a < zI b) = (a < b) := by
  rw [Int32.lt_iff_toInt_lt, zI_toInt h1 h2, zI_toInt h3 h4]
theorem zI_eq (h1 : -2147483648 ≤ a) (h2 : a ≤ 2147483647) (h3 : -2147483648 ≤ b) (h4 : b ≤ 2147483647) : (zI a = zI b) = (a = b) := by
  rw [← Int32.toInt_inj, zI_toInt h1 h2, zI_toInt h3 h4]
theorem zL_le (h1 : -9223372036854775808 ≤ a) (h2 : a ≤ 9223372036854775807) (h3 : -9223372036854775808 ≤ b) (h4 : b ≤ 9223372036854775807) : (zL a ≤ zL b) = (a ≤ b) := by
  rw [Int64.le_iff_toInt_le, zL_toInt h1 h2, zL_toInt h3 h4]
theorem zL_lt (h1 : -9223372036854775808 ≤ a) (h2 : a ≤ 9223372036854775807) (h3 : -9223372036854775808 ≤ b) (h4 : b ≤ 9223372036854775807) : (zL a < zL b) = (a < b) := by
  rw [Int64.lt_iff_toInt_lt, zL_toInt h1 h2, zL_toInt h3 h4]
theorem zL_eq (h1 : -9223372036854775808 ≤ a) (h2 : a ≤ 9223372036854775807) (h3 : -9223372036854775808 ≤ b) (h4 : b ≤ 9223372036854775807) : (zL a = zL b) = (a = b) := by
  rw [← Int64.toInt_inj, zL_toInt h1 h2, zL_toInt h3 h4]
theorem zI_div (h1 : -2147483648 ≤ a) (h2 : a ≤ 2147483647) (h3 : -2147483648 ≤ b) (h4 : b ≤ 2147483647) : zI a / zI b = zI (a.tdiv b) := (Int32.ofInt_tdiv h1 h2 h3 h4).symm
theorem zL_div (h1 : -9223372036854775808 ≤ a) (h2 : a ≤ 9223372036854775807) (h3 : -9223372036854775808 ≤ b) (h4 : b ≤ 9223372036854775807) : zL a / zL b = zL (a.tdiv b) := (Int64.ofInt_tdiv h1 h2 h3 h4).symm
theorem zI_divP (h1 : 0 ≤ a) (h2 : a ≤ 2147483647) (h3 : 0 ≤ b) (h4 : b ≤ 2147483647) : zI a / zI b = zI (a / b) := by
  rw [zI_div (by omega) h2 (by omega) h4, Int.tdiv_eq_ediv_of_nonneg h1]
theorem zL_divP (h1 : 0 ≤ a) (h2 : a ≤ 9223372036854775807) (h3 : 0 ≤ b) (h4 : b ≤ 9223372036854775807) : zL a / zL b = zL (a / b) := by
  rw [zL_div (by omega) h2 (by omega) h4, Int.tdiv_eq_ediv_of_nonneg h1]
theorem zI_wide (h1 : -2147483648 ≤ a) (h2 : a ≤ 2147483647) : (zI a).toInt64 = zL a := Int32.toInt64_ofInt h1 h2
theorem zL_nar : (zL a).toInt32 = zI a := Int64.toInt32_ofInt
theorem zI_clamp (h1 : -2147483648 ≤ a) (h2 : a ≤ 2147483647) : (zI a).toNatClampNeg = a.toNat := Int32.toNatClampNeg_ofInt_of_le (by omega) (by omega)
theorem lg_cmp_def (x y : Int64) : lg_cmp x y = if y < x then 1 else if x = y then 0 else -1 := by
  unfold lg_cmp
  by_cases h : y < x
  · simp [h]
  · by_cases e : x = y
    · simp [e]
    · have : x < y := by
        rw [Int64.lt_iff_toInt_lt] at h ⊢
        rw [← Int64.toInt_inj] at e
        omega
      simp [h, e, this]
theorem lg_z (h1 : -9223372036854775808 ≤ a) (h2 : a ≤ 9223372036854775807) (h3 : -9223372036854775808 ≤ b) (h4 : b ≤ 9223372036854775807) : lg_cmp (zL a) (zL b) = zI (if b < a then 1 else if a = b then 0 else -1) := by
  have e1 := zL_lt h3 h4 h1 h2
  have e2 := zL_eq h1 h2 h3 h4
  rw [lg_cmp_def]
  by_cases h : b < a
  · rw [if_pos h, if_pos (by rw [e1]; exact h)]; rfl
  · rw [if_neg h, if_neg (by rw [e1]; exact h)]
    by_cases e : a = b
    · rw [if_pos e, if_pos (by rw [e2]; exact e)]; rfl
    · rw [if_neg e, if_neg (by rw [e2]; exact e)]; rfl
theorem lg_le (h1 : -9223372036854775808 ≤ a) (h2 : a ≤ 9223372036854775807) (h3 : -9223372036854775808 ≤ b) (h4 : b ≤ 9223372036854775807) : (lg_cmp (zL a) (zL b) ≤ zI 0) = (a ≤ b) := by
  rw [lg_z h1 h2 h3 h4, zI_le (by split <;> (try split) <;> omega) (by split <;> (try split) <;> omega) (by omega) (by omega), eq_iff_iff]
  split <;> (try split) <;> omega
theorem lg_ge (h1 : -9223372036854775808 ≤ a) (h2 : a ≤ 9223372036854775807) (h3 : -9223372036854775808 ≤ b) (h4 : b ≤ 9223372036854775807) : (zI 0 ≤ lg_cmp (zL a) (zL b)) = (b ≤ a) := by
  rw [lg_z h1 h2 h3 h4, zI_le (by omega) (by omega) (by split <;> (try split) <;> omega) (by split <;> (try split) <;> omega), eq_iff_iff]
  split <;> (try split) <;> omega
theorem lg_lt (h1 : -9223372036854775808 ≤ a) (h2 : a ≤ 9223372036854775807) (h3 : -9223372036854775808 ≤ b) (h4 : b ≤ 9223372036854775807) : (lg_cmp (zL a) (zL b) < zI 0) = (a < b) := by
  rw [lg_z h1 h2 h3 h4, zI_lt (by split <;> (try split) <;> omega) (by split <;> (try split) <;> omega) (by omega) (by omega), eq_iff_iff]
  split <;> (try split) <;> omega
theorem lg_gt (h1 : -9223372036854775808 ≤ a) (h2 : a ≤ 9223372036854775807) (h3 : -9223372036854775808 ≤ b) (h4 : b ≤ 9223372036854775807) : (zI 0 < lg_cmp (zL a) (zL b)) = (b < a) := by
  rw [lg_z h1 h2 h3 h4, zI_lt (by omega) (by omega) (by split <;> (try split) <;> omega) (by split <;> (try split) <;> omega), eq_iff_iff]
  split <;> (try split) <;> omega
theorem lg_eq (h1 : -9223372036854775808 ≤ a) (h2 : a ≤ 9223372036854775807) (h3 : -9223372036854775808 ≤ b) (h4 : b ≤ 9223372036854775807) : (lg_cmp (zL a) (zL b) = zI 0) = (a = b) := by
  rw [lg_z h1 h2 h3 h4, zI_eq (by split <;> (try split) <;> omega) (by split <;> (try split) <;> omega) (by omega) (by omega), eq_iff_iff]
  split <;> (try split) <;> omega
end ZI
theorem nI_z (n : Nat) : nI n = zI n := by
  apply Int32.toBitVec_inj.mp
  show BitVec.ofNat 32 n = BitVec.ofInt 32 (n : Int)
  rw [BitVec.ofInt_natCast]
theorem zI_nI {a : Int} (h : 0 ≤ a) : zI a = nI a.toNat := by rw [nI_z, Int.toNat_of_nonneg h]
/-- the low bits -/
theorem zI_and (a : Int) (k : Nat) (hk : k < 32) {m : Int32} (hm : m.toBitVec.toNat = 2 ^ k - 1) : zI a &&& m = zI (a % (2 ^ k : Nat)) := by
  rw [pk_and _ _ hm, nI_z]
  have e : (zI a).toBitVec.toNat = (a % (2 ^ 32 : Nat)).toNat := by
    show (BitVec.ofInt 32 a).toNat = _
    rw [BitVec.toNat_ofInt]
  rw [e]
  congr 1
  rw [Int.natCast_emod, Int.toNat_of_nonneg (Int.emod_nonneg _ (by decide))]
  exact Int.emod_emod_of_dvd a (Int.natCast_dvd_natCast.mpr (Nat.pow_dvd_pow 2 (by omega)))
theorem zI_and255 (a : Int) : zI a &&& 255 = zI (a % 256) := zI_and a 8 (by decide) (by decide)
theorem zI_and63 (a : Int) : zI a &&& 63 = zI (a % 64) := zI_and a 6 (by decide) (by decide)
theorem zI_and31 (a : Int) : zI a &&& 31 = zI (a % 32) := zI_and a 5 (by decide) (by decide)
theorem zI_and15 (a : Int) : zI a &&& 15 = zI (a % 16) := zI_and a 4 (by decide) (by decide)
theorem zI_and1 (a : Int) : zI a &&& 1 = zI (a % 2) := zI_and a 1 (by decide) (by decide)
/-- a byte with its sign -/
def sg8 (a : Int) : Int := (a + 128) % 256 - 128
theorem sg8_rng (a : Int) : -128 ≤ sg8 a ∧ sg8 a ≤ 127 := by unfold sg8; omega
theorem bmod_sg8 (a : Int) : Int.bmod a 256 = sg8 a := by
  unfold sg8 Int.bmod
  show (if a % 256 < (256 + 1) / 2 then a % 256 else a % 256 - 256) = _
  split <;> omega
theorem zI_byte (a : Int) : (zI a).toInt8.toInt32 = zI (sg8 a) := by
  show (Int32.ofInt a).toInt8.toInt32 = _
  rw [Int32.toInt8_ofInt, ← Int32.toInt_inj, Int8.toInt_toInt32, Int8.toInt_ofInt, zI_toInt (by have := sg8_rng a; omega) (by have := sg8_rng a; omega)]
  exact bmod_sg8 a
theorem nar_byte (a : Int) : vp_nar .byte (zI a) = zI (sg8 a) := by rw [vp_nar_byte, zI_byte]
theorem sg8_sg8 (a : Int) : sg8 (sg8 a) = sg8 a := by unfold sg8; omega
theorem sg8_mod (a : Int) : sg8 a % 256 = a % 256 := by unfold sg8; omega
theorem sg8_of_mod (a : Int) : sg8 (a % 256) = sg8 a := by unfold sg8; omega
section ZV
variable {s : vt_S} {f a : Nat} {i : Int}
theorem vl_I_z (h0 : 0 ≤ i) (h : i < vt_L s f a) (hL : vt_L s f a < 2 ^ 31) : vl_I s f a (zI i) = some (vt_A s f a i.toNat) := by
  rw [zI_nI h0, vl_I_ok (by omega) hL]
theorem vl_J_z (h0 : 0 ≤ i) (h : i < vt_L s f a) (hL : vt_L s f a < 2 ^ 31) : vl_J s f a (zI i) = some (vt_B s f a i.toNat) := by
  rw [zI_nI h0, vl_J_ok (by omega) hL]
theorem vl_P_z (h0 : 0 ≤ i) (h : i < vt_L s f a) (hL : vt_L s f a < 2 ^ 31) : vl_P s f a (zI i) = some (vt_E s f a i.toNat) := by
  rw [zI_nI h0, vl_P_ok (by omega) hL]
theorem vs_I_z {v : Int32} (h0 : 0 ≤ i) (h : i < vt_L s f a) (hL : vt_L s f a < 2 ^ 31) : vs_I s f a (zI i) v = some (vu_A s f a i.toNat v) := by
  rw [zI_nI h0, vs_I_ok (by omega) hL]
theorem vs_J_z {v : Int64} (h0 : 0 ≤ i) (h : i < vt_L s f a) (hL : vt_L s f a < 2 ^ 31) : vs_J s f a (zI i) v = some (vu_B s f a i.toNat v) := by
  rw [zI_nI h0, vs_J_ok (by omega) hL]
end ZV
theorem z_0 : (0 : Int32) = zI 0 := rfl
theorem z_1 : (1 : Int32) = zI 1 := rfl
theorem z_2 : (2 : Int32) = zI 2 := rfl
theorem z_3 : (3 : Int32) = zI 3 := rfl
theorem z_4 : (4 : Int32) = zI 4 := rfl
theorem z_5 : (5 : Int32) = zI 5 := rfl
theorem z_6 : (6 : Int32) = zI 6 := rfl
theorem z_7 : (7 : Int32) = zI 7 := rfl
theorem z_8 : (8 : Int32) = zI 8 := rfl
theorem z_9 : (9 : Int32) = zI 9 := rfl
theorem z_10 : (10 : Int32) = zI 10 := rfl
theorem z_11 : (11 : Int32) = zI 11 := rfl
theorem z_12 : (12 : Int32) = zI 12 := rfl
theorem z_13 : (13 : Int32) = zI 13 := rfl
theorem z_14 : (14 : Int32) = zI 14 := rfl
theorem z_15 : (15 : Int32) = zI 15 := rfl
theorem z_16 : (16 : Int32) = zI 16 := rfl
theorem z_17 : (17 : Int32) = zI 17 := rfl
theorem z_18 : (18 : Int32) = zI 18 := rfl
theorem z_19 : (19 : Int32) = zI 19 := rfl
theorem z_20 : (20 : Int32) = zI 20 := rfl
theorem z_21 : (21 : Int32) = zI 21 := rfl
theorem z_22 : (22 : Int32) = zI 22 := rfl
theorem z_24 : (24 : Int32) = zI 24 := rfl
theorem z_25 : (25 : Int32) = zI 25 := rfl
theorem z_30 : (30 : Int32) = zI 30 := rfl
theorem z_31 : (31 : Int32) = zI 31 := rfl
theorem z_32 : (32 : Int32) = zI 32 := rfl
theorem z_41 : (41 : Int32) = zI 41 := rfl
theorem z_47 : (47 : Int32) = zI 47 := rfl
theorem z_48 : (48 : Int32) = zI 48 := rfl
theorem z_50 : (50 : Int32) = zI 50 := rfl
theorem z_56 : (56 : Int32) = zI 56 := rfl
theorem z_63 : (63 : Int32) = zI 63 := rfl
theorem z_64 : (64 : Int32) = zI 64 := rfl
theorem z_68 : (68 : Int32) = zI 68 := rfl
theorem z_72 : (72 : Int32) = zI 72 := rfl
theorem z_74 : (74 : Int32) = zI 74 := rfl
theorem z_77 : (77 : Int32) = zI 77 := rfl
theorem z_98 : (98 : Int32) = zI 98 := rfl
theorem z_100 : (100 : Int32) = zI 100 := rfl
theorem z_101 : (101 : Int32) = zI 101 := rfl
theorem z_121 : (121 : Int32) = zI 121 := rfl
theorem z_127 : (127 : Int32) = zI 127 := rfl
theorem z_128 : (128 : Int32) = zI 128 := rfl
theorem z_130 : (130 : Int32) = zI 130 := rfl
theorem z_142 : (142 : Int32) = zI 142 := rfl
theorem z_162 : (162 : Int32) = zI 162 := rfl
theorem z_181 : (181 : Int32) = zI 181 := rfl
theorem z_198 : (198 : Int32) = zI 198 := rfl
theorem z_200 : (200 : Int32) = zI 200 := rfl
theorem z_201 : (201 : Int32) = zI 201 := rfl
theorem z_202 : (202 : Int32) = zI 202 := rfl
theorem z_203 : (203 : Int32) = zI 203 := rfl
theorem z_204 : (204 : Int32) = zI 204 := rfl
theorem z_205 : (205 : Int32) = zI 205 := rfl
theorem z_206 : (206 : Int32) = zI 206 := rfl
theorem z_213 : (213 : Int32) = zI 213 := rfl
theorem z_226 : (226 : Int32) = zI 226 := rfl
theorem z_237 : (237 : Int32) = zI 237 := rfl
theorem z_245 : (245 : Int32) = zI 245 := rfl
theorem z_251 : (251 : Int32) = zI 251 := rfl
theorem z_255 : (255 : Int32) = zI 255 := rfl
theorem z_256 : (256 : Int32) = zI 256 := rfl
theorem z_300 : (300 : Int32) = zI 300 := rfl
theorem z_512 : (512 : Int32) = zI 512 := rfl
theorem z_1000 : (1000 : Int32) = zI 1000 := rfl
theorem z_1024 : (1024 : Int32) = zI 1024 := rfl
theorem z_8192 : (8192 : Int32) = zI 8192 := rfl
theorem z_16384 : (16384 : Int32) = zI 16384 := rfl
theorem z_32767 : (32767 : Int32) = zI 32767 := rfl
theorem z_32768 : (32768 : Int32) = zI 32768 := rfl
theorem z_40000 : (40000 : Int32) = zI 40000 := rfl
theorem z_65521 : (65521 : Int32) = zI 65521 := rfl
theorem z_65536 : (65536 : Int32) = zI 65536 := rfl
theorem z_81920 : (81920 : Int32) = zI 81920 := rfl
theorem z_100000 : (100000 : Int32) = zI 100000 := rfl
theorem z_1073741824 : (1073741824 : Int32) = zI 1073741824 := rfl
theorem y_0 : (0 : Int64) = zL 0 := rfl
theorem y_1 : (1 : Int64) = zL 1 := rfl
theorem y_2 : (2 : Int64) = zL 2 := rfl
theorem y_3 : (3 : Int64) = zL 3 := rfl
theorem y_4 : (4 : Int64) = zL 4 := rfl
theorem y_6 : (6 : Int64) = zL 6 := rfl
theorem y_8 : (8 : Int64) = zL 8 := rfl
theorem y_16 : (16 : Int64) = zL 16 := rfl
theorem y_24 : (24 : Int64) = zL 24 := rfl
theorem y_31 : (31 : Int64) = zL 31 := rfl
theorem y_47 : (47 : Int64) = zL 47 := rfl
theorem y_48 : (48 : Int64) = zL 48 := rfl
theorem y_60 : (60 : Int64) = zL 60 := rfl
theorem y_62 : (62 : Int64) = zL 62 := rfl
theorem y_63 : (63 : Int64) = zL 63 := rfl
theorem y_64 : (64 : Int64) = zL 64 := rfl
theorem y_256 : (256 : Int64) = zL 256 := rfl
theorem y_512 : (512 : Int64) = zL 512 := rfl
theorem y_65521 : (65521 : Int64) = zL 65521 := rfl
theorem y_65536 : (65536 : Int64) = zL 65536 := rfl
theorem y_4294967295 : (4294967295 : Int64) = zL 4294967295 := rfl
