-- TURNS
def cosL : List Int := [256, 255, 251, 245, 237, 226, 213, 198, 181, 162, 142, 121, 98, 74, 50, 25, 0, -25, -50, -74, -98, -121, -142, -162, -181, -198, -213, -226, -237, -245, -251, -255, -256, -255, -251, -245, -237, -226, -213, -198, -181, -162, -142, -121, -98, -74, -50, -25, 0, 25, 50, 74, 98, 121, 142, 162, 181, 198, 213, 226, 237, 245, 251, 255]
def cosT (a : Nat) : Int := cosL.getD a 0
def sinT (a : Nat) : Int := cosT ((a + 48) % 64)
theorem cosT_rng : ∀ a, a < 64 → -256 ≤ cosT a ∧ cosT a ≤ 256 := by decide
theorem sinT_rng : ∀ a, a < 64 → -256 ≤ sinT a ∧ sinT a ≤ 256 := by decide
theorem c_cos (s : vt_S) : ∀ a, a < 64 → ab_X12_cosine (nI a) s = some (zI (cosT a), s)
  | 0, _ => rfl
  | 1, _ => rfl
  | 2, _ => rfl
  | 3, _ => rfl
  | 4, _ => rfl
  | 5, _ => rfl
  | 6, _ => rfl
  | 7, _ => rfl
  | 8, _ => rfl
  | 9, _ => rfl
  | 10, _ => rfl
  | 11, _ => rfl
  | 12, _ => rfl
  | 13, _ => rfl
  | 14, _ => rfl
  | 15, _ => rfl
  | 16, _ => rfl
  | 17, _ => rfl
  | 18, _ => rfl
  | 19, _ => rfl
  | 20, _ => rfl
  | 21, _ => rfl
  | 22, _ => rfl
  | 23, _ => rfl
  | 24, _ => rfl
  | 25, _ => rfl
  | 26, _ => rfl
  | 27, _ => rfl
  | 28, _ => rfl
  | 29, _ => rfl
  | 30, _ => rfl
  | 31, _ => rfl
  | 32, _ => rfl
  | 33, _ => rfl
  | 34, _ => rfl
  | 35, _ => rfl
  | 36, _ => rfl
  | 37, _ => rfl
  | 38, _ => rfl
  | 39, _ => rfl
  | 40, _ => rfl
  | 41, _ => rfl
  | 42, _ => rfl
  | 43, _ => rfl
  | 44, _ => rfl
  | 45, _ => rfl
  | 46, _ => rfl
  | 47, _ => rfl
  | 48, _ => rfl
  | 49, _ => rfl
  | 50, _ => rfl
  | 51, _ => rfl
  | 52, _ => rfl
  | 53, _ => rfl
  | 54, _ => rfl
  | 55, _ => rfl
  | 56, _ => rfl
  | 57, _ => rfl
  | 58, _ => rfl
  | 59, _ => rfl
  | 60, _ => rfl
  | 61, _ => rfl
  | 62, _ => rfl
  | 63, _ => rfl
  | n + 64, h => absurd h (by omega)
-- QUOTIENTS rounded down
def fdZ (a b : Int) : Int := if (a < 0 ↔ b < 0) ∨ a.tdiv b * b = a then a.tdiv b else a.tdiv b - 1
theorem xor_sgn (x y : Int32) : (0 ≤ x ^^^ y) ↔ (x < 0 ↔ y < 0) := by
  have m : ∀ z : Int32, z < 0 ↔ z.toBitVec.msb = true := by
    intro z
    rw [Int32.lt_iff_toInt_lt]
    show z.toBitVec.toInt < 0 ↔ _
    rw [BitVec.msb_eq_toInt, decide_eq_true_eq]
  rw [← Int32.not_lt, m (x ^^^ y), m x, m y]
  have : (x ^^^ y).toBitVec = x.toBitVec ^^^ y.toBitVec := rfl
  rw [this, BitVec.msb_xor]
  cases x.toBitVec.msb <;> cases y.toBitVec.msb <;> decide
theorem xor_sgnL (x y : Int64) : (0 ≤ x ^^^ y) ↔ (x < 0 ↔ y < 0) := by
  have m : ∀ z : Int64, z < 0 ↔ z.toBitVec.msb = true := by
    intro z
    rw [Int64.lt_iff_toInt_lt]
    show z.toBitVec.toInt < 0 ↔ _
    rw [BitVec.msb_eq_toInt, decide_eq_true_eq]
  rw [← Int64.not_lt, m (x ^^^ y), m x, m y]
  have : (x ^^^ y).toBitVec = x.toBitVec ^^^ y.toBitVec := rfl
  rw [this, BitVec.msb_xor]
  cases x.toBitVec.msb <;> cases y.toBitVec.msb <;> decide
theorem tdiv_rng {a b A : Int} (h1 : -A ≤ a) (h2 : a ≤ A) : -A ≤ a.tdiv b ∧ a.tdiv b ≤ A := by
  have : (a.tdiv b).natAbs ≤ a.natAbs := by
    rw [Int.natAbs_tdiv]
    exact Nat.div_le_self _ _
  omega
theorem fdZ_rng {a b A : Int} (h1 : -A ≤ a) (h2 : a ≤ A) : -A - 1 ≤ fdZ a b ∧ fdZ a b ≤ A := by
  have := tdiv_rng (b := b) h1 h2
  unfold fdZ
  split <;> omega
theorem tdiv_mul_rng {a b : Int} : (a.tdiv b * b).natAbs ≤ a.natAbs := by
  rw [Int.natAbs_mul, Int.natAbs_tdiv]
  exact Nat.div_mul_le_self _ _
theorem c_fdiv {a b : Int} (h1 : -2000000000 ≤ a) (h2 : a ≤ 2000000000) (h3 : -2000000000 ≤ b) (h4 : b ≤ 2000000000) (h0 : b ≠ 0) (s : vt_S) : ab_J9_floorDiv_7cf53 (zI a) (zI b) s = some (zI (fdZ a b), s) := by
  have t := tdiv_rng (b := b) h1 h2
  have tm := tdiv_mul_rng (a := a) (b := b)
  unfold ab_J9_floorDiv_7cf53 ab_J9_floorDiv_7cf53_21 fdZ
  rw [if_neg (by rw [show (0 : Int32) = zI 0 from rfl, zI_eq (by omega) (by omega) (by omega) (by omega)]; exact h0), zI_div (by omega) (by omega) (by omega) (by omega), zI_mul]
  have e1 : (0 ≤ zI a ^^^ zI b) ↔ (a < 0 ↔ b < 0) := by
    rw [xor_sgn, show (0 : Int32) = zI 0 from rfl, zI_lt (by omega) (by omega) (by omega) (by omega), zI_lt (by omega) (by omega) (by omega) (by omega)]
  by_cases c1 : a < 0 ↔ b < 0
  · rw [if_pos (e1.mpr c1), if_pos (Or.inl c1)]
  · rw [if_neg (fun z => c1 (e1.mp z))]
    by_cases c2 : a.tdiv b * b = a
    · rw [if_pos (by rw [c2]), if_pos (Or.inr c2)]
    · rw [if_neg (by rw [zI_eq (by omega) (by omega) (by omega) (by omega)]; exact c2), if_neg (fun z => z.elim c1 c2), show (1 : Int32) = zI 1 from rfl, zI_sub]
theorem c_fdivL {a b : Int} (h1 : -4000000000000000000 ≤ a) (h2 : a ≤ 4000000000000000000) (h3 : -4000000000000000000 ≤ b) (h4 : b ≤ 4000000000000000000) (h0 : b ≠ 0) (s : vt_S) : ab_J9_floorDiv_f86c9 (zL a) (zL b) s = some (zL (fdZ a b), s) := by
  have t := tdiv_rng (b := b) h1 h2
  have tm := tdiv_mul_rng (a := a) (b := b)
  unfold ab_J9_floorDiv_f86c9 ab_J9_floorDiv_f86c9_27 fdZ
  rw [if_neg (by rw [show (0 : Int64) = zL 0 from rfl, zL_eq (by omega) (by omega) (by omega) (by omega)]; exact h0), zL_div (by omega) (by omega) (by omega) (by omega), zL_mul]
  have lz : ∀ z : Int64, (0 ≤ lg_cmp z 0) ↔ (0 ≤ z) := by
    intro z
    obtain ⟨i, rfl, i1, i2⟩ := zL_ex z
    rw [show (0 : Int64) = zL 0 from rfl, show (0 : Int32) = zI 0 from rfl, lg_ge i1 i2 (by omega) (by omega), zL_le (by omega) (by omega) i1 i2]
  have e1 : (0 ≤ lg_cmp (zL a ^^^ zL b) 0) ↔ (a < 0 ↔ b < 0) := by
    rw [lz, xor_sgnL, show (0 : Int64) = zL 0 from rfl, zL_lt (by omega) (by omega) (by omega) (by omega), zL_lt (by omega) (by omega) (by omega) (by omega)]
  have e2 := lg_eq (a := a.tdiv b * b) (b := a) (by omega) (by omega) (by omega) (by omega)
  by_cases c1 : a < 0 ↔ b < 0
  · rw [if_pos (e1.mpr c1), if_pos (Or.inl c1)]
  · rw [if_neg (fun z => c1 (e1.mp z))]
    by_cases c2 : a.tdiv b * b = a
    · rw [if_pos (show lg_cmp _ _ = (0 : Int32) by rw [show (0 : Int32) = zI 0 from rfl, e2]; exact c2), if_pos (Or.inr c2)]
    · rw [if_neg (show ¬ lg_cmp _ _ = (0 : Int32) by rw [show (0 : Int32) = zI 0 from rfl, e2]; exact c2), if_neg (fun z => z.elim c1 c2), show (1 : Int64) = zL 1 from rfl, zL_sub]
theorem r_down {a b : Int} (h1 : -4000000000000000000 ≤ a) (h2 : a ≤ 4000000000000000000) (h3 : -4000000000000000000 ≤ b) (h4 : b ≤ 4000000000000000000) (h0 : b ≠ 0) (s : vt_S) : ab_X17_down (zL a) (zL b) s = some (zL (fdZ a b), s) := by
  have t := tdiv_rng (b := b) h1 h2
  have tm := tdiv_mul_rng (a := a) (b := b)
  have n0 : ¬ zL b = 0 := by rw [show (0 : Int64) = zL 0 from rfl, zL_eq (by omega) (by omega) (by omega) (by omega)]; exact h0
  unfold ab_X17_down ab_X17_down_24 ab_X17_down_35 ab_X17_down_45 ab_X17_down_47 fdZ
  rw [if_neg n0, if_neg n0, zL_div (by omega) (by omega) (by omega) (by omega), zL_mul, zL_sub, show (1 : Int64) = zL 1 from rfl, zL_sub]
  have e1 := lg_eq (a := a - a.tdiv b * b) (b := 0) (by omega) (by omega) (by omega) (by omega)
  have e2 := lg_ge (a := a) (b := 0) (by omega) (by omega) (by omega) (by omega)
  have e3 := lg_ge (a := b) (b := 0) (by omega) (by omega) (by omega) (by omega)
  rw [show (0 : Int64) = zL 0 from rfl]
  by_cases c2 : a.tdiv b * b = a
  · rw [if_pos (show lg_cmp _ _ = (0 : Int32) by rw [show (0 : Int32) = zI 0 from rfl, e1]; omega), if_pos (Or.inr c2)]
  · rw [if_neg (show ¬ lg_cmp _ _ = (0 : Int32) by rw [show (0 : Int32) = zI 0 from rfl, e1]; omega)]
    by_cases ca : a < 0
    · rw [if_neg (show ¬ (0 : Int32) ≤ lg_cmp (zL a) _ by rw [show (0 : Int32) = zI 0 from rfl, e2]; omega)]
      by_cases cb : b < 0
      · rw [if_neg (show ¬ (0 : Int32) ≤ lg_cmp (zL b) _ by rw [show (0 : Int32) = zI 0 from rfl, e3]; omega), if_pos rfl, if_pos (Or.inl ⟨fun _ => cb, fun _ => ca⟩)]
      · rw [if_pos (show (0 : Int32) ≤ lg_cmp (zL b) _ by rw [show (0 : Int32) = zI 0 from rfl, e3]; omega), if_neg (by decide), if_neg (fun z => z.elim (fun q => cb (q.mp ca)) c2)]
    · rw [if_pos (show (0 : Int32) ≤ lg_cmp (zL a) _ by rw [show (0 : Int32) = zI 0 from rfl, e2]; omega)]
      by_cases cb : b < 0
      · rw [if_neg (show ¬ (0 : Int32) ≤ lg_cmp (zL b) _ by rw [show (0 : Int32) = zI 0 from rfl, e3]; omega), if_neg (by decide), if_neg (fun z => z.elim (fun q => ca (q.mpr cb)) c2)]
      · rw [if_pos (show (0 : Int32) ≤ lg_cmp (zL b) _ by rw [show (0 : Int32) = zI 0 from rfl, e3]; omega), if_pos rfl, if_pos (Or.inl ⟨fun z => absurd z ca, fun z => absurd z cb⟩)]
/-- an angle that is turned -/
theorem c_turn64 {v : Int} (h1 : -64 ≤ v) (h2 : v ≤ 127) (s : vt_S) : ab_J9_floorMod_7cf53 (zI v) 64 s = some (nI (v % 64).toNat, s) := by
  obtain ⟨n, hn⟩ : ∃ n : Nat, v = (n : Int) - 64 := ⟨(v + 64).toNat, by omega⟩
  subst hn
  have hn : n < 192 := by omega
  have key : ∀ n : Nat, n < 192 → ab_J9_floorMod_7cf53 (zI ((n : Int) - 64)) 64 s = some (nI (((n : Int) - 64) % 64).toNat, s) := by
    intro n hn
    unfold ab_J9_floorMod_7cf53 ab_J9_floorMod_7cf53_18
    have k : ∀ n : Nat, n < 192 → (if (64 : Int32) = 0 then none else if 0 ≤ (zI ((n : Int) - 64) ^^^ 64) then some (zI ((n : Int) - 64) - zI ((n : Int) - 64) / 64 * 64) else if zI ((n : Int) - 64) - zI ((n : Int) - 64) / 64 * 64 = 0 then some (zI ((n : Int) - 64) - zI ((n : Int) - 64) / 64 * 64) else some ((zI ((n : Int) - 64) - zI ((n : Int) - 64) / 64 * 64) + 64)) = some (nI (((n : Int) - 64) % 64).toNat) := by decide +kernel
    have := k n hn
    rw [if_neg (by decide)] at this ⊢
    by_cases c1 : 0 ≤ (zI ((n : Int) - 64) ^^^ 64)
    · rw [if_pos c1] at this ⊢
      rw [Option.some.inj this]
    · rw [if_neg c1] at this ⊢
      by_cases c2 : zI ((n : Int) - 64) - zI ((n : Int) - 64) / 64 * 64 = 0
      · rw [if_pos c2] at this ⊢
        rw [Option.some.inj this]
      · rw [if_neg c2] at this ⊢
        rw [Option.some.inj this]
  exact key n hn
/-- the reference turns alike -/
theorem r_turn64 {v : Int} (h1 : -64 ≤ v) (h2 : v ≤ 127) : (zI v + 64) - (zI v + 64) / 64 * 64 = nI (v % 64).toNat := by
  obtain ⟨n, hn⟩ : ∃ n : Nat, v = (n : Int) - 64 := ⟨(v + 64).toNat, by omega⟩
  subst hn
  have k : ∀ n : Nat, n < 192 → (zI ((n : Int) - 64) + 64) - (zI ((n : Int) - 64) + 64) / 64 * 64 = nI (((n : Int) - 64) % 64).toNat := by decide +kernel
  exact k n (by omega)
theorem c_sin (s : vt_S) (a : Nat) (h : a < 64) : ab_X12_sine (nI a) s = some (zI (sinT a), s) := by
  unfold ab_X12_sine
  rw [nI_z, show (16 : Int32) = zI 16 from rfl, zI_sub, c_turn64 (by omega) (by omega), vbs, c_cos s _ (by omega), vbs]
  unfold sinT
  rw [show ((a : Int) - 16) % 64 = ((a + 48) % 64 : Nat) by omega, Int.toNat_natCast]
def quL : List Int := [256, 255, 251, 245, 237, 226, 213, 198, 181, 162, 142, 121, 98, 74, 50, 25, 0]
theorem r_quarter (s : vt_S) : ∀ a, a < 17 → ab_X17_quarter (nI a) s = some (zI (quL.getD a 0), s)
  | 0, _ => rfl
  | 1, _ => rfl
  | 2, _ => rfl
  | 3, _ => rfl
  | 4, _ => rfl
  | 5, _ => rfl
  | 6, _ => rfl
  | 7, _ => rfl
  | 8, _ => rfl
  | 9, _ => rfl
  | 10, _ => rfl
  | 11, _ => rfl
  | 12, _ => rfl
  | 13, _ => rfl
  | 14, _ => rfl
  | 15, _ => rfl
  | 16, _ => rfl
  | n + 17, h => absurd h (by omega)
theorem cos_q : ∀ j, j < 64 → cosT j = if 16 < j then (if 32 < j then (if 48 < j then quL.getD (64 - j) 0 else -quL.getD (j - 32) 0) else -quL.getD (32 - j) 0) else quL.getD j 0 := by decide
theorem r_cosZ (s : vt_S) {v : Int} (h1 : -64 ≤ v) (h2 : v ≤ 127) : ab_X17_cosine (zI v) s = some (zI (cosT (v % 64).toNat), s) := by
  have e : ((zI v - zI v / 64 * 64) + 64) - ((zI v - zI v / 64 * 64) + 64) / 64 * 64 = nI (v % 64).toNat := by
    obtain ⟨n, hn⟩ : ∃ n : Nat, v = (n : Int) - 64 := ⟨(v + 64).toNat, by omega⟩
    subst hn
    have k : ∀ n : Nat, n < 192 → ((zI ((n : Int) - 64) - zI ((n : Int) - 64) / 64 * 64) + 64) - ((zI ((n : Int) - 64) - zI ((n : Int) - 64) / 64 * 64) + 64) / 64 * 64 = nI (((n : Int) - 64) % 64).toNat := by decide +kernel
    exact k n (by omega)
  unfold ab_X17_cosine ab_X17_cosine_65
  rw [e]
  have hj : (v % 64).toNat < 64 := by omega
  generalize (v % 64).toNat = j at *
  rw [cos_q j hj]
  by_cases c1 : 16 < j
  · rw [if_pos (show (16 : Int32) < nI j from nI_lt (a := 16) c1 (by omega)), if_pos c1]
    by_cases c2 : 32 < j
    · rw [if_pos (show (32 : Int32) < nI j from nI_lt (a := 32) c2 (by omega)), if_pos c2]
      by_cases c3 : 48 < j
      · rw [if_pos (show (48 : Int32) < nI j from nI_lt (a := 48) c3 (by omega)), if_pos c3, show (64 : Int32) - nI j = nI (64 - j) by rw [nI_z, show (64 : Int32) = zI 64 from rfl, zI_sub, nI_z]; congr 1; omega, r_quarter s _ (by omega), vbs]
      · rw [if_neg (show ¬ (48 : Int32) < nI j from Int32.not_lt.mpr (nI_le (b := 48) (by omega) (by omega))), if_neg c3, show nI j - 32 = nI (j - 32) by rw [nI_z, show (32 : Int32) = zI 32 from rfl, zI_sub, nI_z]; congr 1; omega, r_quarter s _ (by omega), vbs, zI_neg]
    · rw [if_neg (show ¬ (32 : Int32) < nI j from Int32.not_lt.mpr (nI_le (b := 32) (by omega) (by omega))), if_neg c2, show (32 : Int32) - nI j = nI (32 - j) by rw [nI_z, show (32 : Int32) = zI 32 from rfl, zI_sub, nI_z]; congr 1; omega, r_quarter s _ (by omega), vbs, zI_neg]
  · rw [if_neg (show ¬ (16 : Int32) < nI j from Int32.not_lt.mpr (nI_le (b := 16) (by omega) (by omega))), if_neg c1, r_quarter s _ (by omega), vbs]
theorem r_cos (s : vt_S) (a : Nat) (h : a < 64) : ab_X17_cosine (nI a) s = some (zI (cosT a), s) := by
  rw [nI_z, r_cosZ s (by omega) (by omega), show ((a : Int) % 64).toNat = a by omega]
theorem r_sin (s : vt_S) (a : Nat) (h : a < 64) : ab_X17_sine (nI a) s = some (zI (sinT a), s) := by
  unfold ab_X17_sine sinT
  rw [nI_z, show (16 : Int32) = zI 16 from rfl, zI_sub, r_cosZ s (by omega) (by omega), vbs, show (((a : Int) - 16) % 64).toNat = (a + 48) % 64 by omega]
