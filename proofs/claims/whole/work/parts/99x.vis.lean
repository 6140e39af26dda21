-- VIEW: quotients, texels, lights
def flD (a b : Int64) : Int64 := if (a < 0 ↔ b < 0) ∨ a / b * b = a then a / b else a / b - 1
theorem lgE (x y : Int64) : lg_cmp x y = 0 ↔ x = y := by
  rw [lg_cmp_def]
  by_cases c : y < x
  · rw [if_pos c]
    exact ⟨fun z => absurd z (by decide), fun z => absurd c (by rw [z]; exact fun h => Int64.lt_irrefl h)⟩
  · rw [if_neg c]
    by_cases d : x = y
    · rw [if_pos d]; exact ⟨fun _ => d, fun _ => rfl⟩
    · rw [if_neg d]; exact ⟨fun z => absurd z (by decide), fun z => absurd z d⟩
theorem lg0 (x : Int64) : 0 ≤ lg_cmp x 0 ↔ ¬ x < 0 := (lg_cmp_ge x 0).trans Int64.not_lt.symm
theorem c_flD {a b : Int64} (h0 : b ≠ 0) (s : vt_S) : ab_J9_floorDiv_f86c9 a b s = some (flD a b, s) := by
  unfold ab_J9_floorDiv_f86c9 ab_J9_floorDiv_f86c9_27 flD
  have e1 : (0 ≤ lg_cmp (a ^^^ b) 0) ↔ (a < 0 ↔ b < 0) := (lg_cmp_ge _ _).trans (xor_sgnL a b)
  rw [if_neg h0]
  by_cases c1 : a < 0 ↔ b < 0
  · rw [if_pos (e1.mpr c1), if_pos (Or.inl c1)]
  · rw [if_neg (fun z => c1 (e1.mp z))]
    by_cases c2 : a / b * b = a
    · rw [if_pos ((lgE _ _).mpr c2), if_pos (Or.inr c2)]
    · rw [if_neg (fun z => c2 ((lgE _ _).mp z)), if_neg (fun z => z.elim c1 c2)]
theorem sub0 {a c : Int64} : a - c = 0 ↔ c = a := by
  constructor
  · intro h
    have := Int64.sub_add_cancel a c
    rw [h, Int64.zero_add] at this
    exact this
  · intro h
    rw [h, Int64.sub_self]
theorem r_flD {a b : Int64} (h0 : b ≠ 0) (s : vt_S) : ab_X17_down a b s = some (flD a b, s) := by
  unfold ab_X17_down ab_X17_down_24 ab_X17_down_35 ab_X17_down_45 ab_X17_down_47 flD
  rw [if_neg h0, if_neg h0]
  by_cases c2 : a / b * b = a
  · rw [if_pos ((lgE _ _).mpr (sub0.mpr c2)), if_pos (Or.inr c2)]
  · rw [if_neg (fun z => c2 (sub0.mp ((lgE _ _).mp z)))]
    by_cases ca : a < 0
    · rw [if_neg (fun z => (lg0 a).mp z ca)]
      by_cases cb : b < 0
      · rw [if_neg (fun z => (lg0 b).mp z cb), if_pos rfl, if_pos (Or.inl ⟨fun _ => cb, fun _ => ca⟩)]
      · rw [if_pos ((lg0 b).mpr cb), if_neg (by decide), if_neg (fun z => z.elim (fun q => cb (q.mp ca)) c2)]
    · rw [if_pos ((lg0 a).mpr ca)]
      by_cases cb : b < 0
      · rw [if_neg (fun z => (lg0 b).mp z cb), if_neg (by decide), if_neg (fun z => z.elim (fun q => ca (q.mpr cb)) c2)]
      · rw [if_pos ((lg0 b).mpr cb), if_pos rfl, if_pos (Or.inl ⟨fun z => absurd z ca, fun z => absurd z cb⟩)]
/-- a texel -/
def txS (g : Nat → Nat) (t : Nat) (x z : Int64) : Nat := if t = 255 then 0 else g (txp g t + 2 + (z.toInt % (2 ^ g (txp g t + 1) : Nat)).toNat * 2 ^ g (txp g t) + (x.toInt % (2 ^ g (txp g t) : Nat)).toNat)
theorem L_and (x : Int64) : ∀ k : Nat, k ≤ 4 → Int64.toInt32 (x &&& Int32.toInt64 (nI (2 ^ k) - 1)) = nI (x.toInt % (2 ^ k : Nat)).toNat := by
  obtain ⟨i, rfl, i1, i2⟩ := zL_ex x
  rw [zL_toInt i1 i2]
  have key : ∀ (k : Nat) (m : Int32), k < 32 → m.toBitVec.toNat = 2 ^ k - 1 → zI i &&& m = nI (i % (2 ^ k : Nat)).toNat := by
    intro k m hk hm
    rw [zI_and i k hk hm]
    exact zI_nI (Int.emod_nonneg _ (by have := Nat.pow_pos (n := k) (show 0 < 2 by decide); omega))
  intro k hk
  rw [Int64.toInt32_and, zL_nar]
  match k, hk with
  | 0, _ => exact key 0 _ (by decide) (by decide)
  | 1, _ => exact key 1 _ (by decide) (by decide)
  | 2, _ => exact key 2 _ (by decide) (by decide)
  | 3, _ => exact key 3 _ (by decide) (by decide)
  | 4, _ => exact key 4 _ (by decide) (by decide)
theorem tm_fix {i w : Int} (hw : 0 < w) : (i - i.tdiv w * w + w) - (i - i.tdiv w * w + w).tdiv w * w = i % w ∧ (-w < i - i.tdiv w * w ∧ i - i.tdiv w * w < w) := by
  have e : i - i.tdiv w * w = i.tmod w := by
    have := Int.mul_tdiv_add_tmod i w
    rw [Int.mul_comm] at this
    omega
  have b1 := Int.lt_tmod_of_pos i hw
  have b2 := Int.tmod_lt_of_pos i hw
  rw [e]
  refine ⟨?_, b1, b2⟩
  rw [Int.tdiv_eq_ediv_of_nonneg (by omega)]
  have e2 : i.tmod w + w - (i.tmod w + w) / w * w = (i.tmod w + w) % w := by
    have := Int.mul_ediv_add_emod (i.tmod w + w) w
    rw [Int.mul_comm] at this
    omega
  rw [e2, Int.add_emod_right]
  rw [← e, Int.sub_emod, Int.mul_emod_left]
  rw [Int.sub_zero, Int.emod_emod_of_dvd i (Int.dvd_refl w)]
theorem r_mod (x : Int64) (s : vt_S) (k : Nat) (hk : k ≤ 4) : ab_X17_modulo x (nI (2 ^ k)) s = some (nI (x.toInt % (2 ^ k : Nat)).toNat, s) := by
  obtain ⟨i, rfl, i1, i2⟩ := zL_ex x
  rw [zL_toInt i1 i2]
  have w1 : 2 ^ k ≤ 2 ^ 4 := Nat.pow_le_pow_right (by decide) hk
  have w0 : 0 < 2 ^ k := Nat.pow_pos (by decide)
  generalize 2 ^ k = w at *
  obtain ⟨e1, e2, e3⟩ := tm_fix (i := i) (w := (w : Int)) (by omega)
  have d := tdiv_rng (a := i - i.tdiv w * w + w) (b := (w : Int)) (A := 40) (by omega) (by omega)
  unfold ab_X17_modulo
  have ew : Int32.toInt64 (nI w) = zL (w : Int) := by rw [nI_z, zI_wide (by omega) (by omega)]
  have n0 : ¬ zL (w : Int) = 0 := by rw [show (0 : Int64) = zL 0 from rfl, zL_eq (by omega) (by omega) (by omega) (by omega)]; omega
  have di := tdiv_rng (a := i) (b := (w : Int)) (A := 9223372036854775808) (by omega) (by omega)
  rw [ew, if_neg n0, if_neg n0, zL_div i1 i2 (by omega) (by omega), zL_mul, zL_sub, zL_add, zL_div (by omega) (by omega) (by omega) (by omega), zL_mul, zL_sub, e1, zL_nar, zI_nI (Int.emod_nonneg _ (by omega))]
