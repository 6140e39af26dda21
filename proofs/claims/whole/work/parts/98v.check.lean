-- THE CHECK of a run's bytes
def adN (g : Nat → Nat) : Nat → Nat × Nat
  | 0 => (1, 0)
  | i + 1 => (((adN g i).1 + g i) % 65521, ((adN g i).2 + ((adN g i).1 + g i) % 65521) % 65521)
theorem adN_lt (g : Nat → Nat) (i : Nat) : (adN g i).1 < 65521 ∧ (adN g i).2 < 65521 := by
  cases i with
  | zero => exact ⟨show 1 < 65521 by decide, show 0 < 65521 by decide⟩
  | succ i => exact ⟨Nat.mod_lt _ (by decide), Nat.mod_lt _ (by decide)⟩
def ckL (p : Nat × Nat) : List Nat := [p.2 / 256, p.2 % 256, p.1 / 256, p.1 % 256]
theorem modL {z : Int} (h1 : 0 ≤ z) (h2 : z ≤ 1000000000) : zL z - zL z / 65521 * 65521 = zL (z % 65521) := by
  rw [y_65521, zL_divP (by omega) (by omega) (by omega) (by omega), zL_mul, zL_sub]
  refine congrArg zL ?_
  omega
theorem modI {z : Int} (h1 : 0 ≤ z) (h2 : z ≤ 1000000000) : zI z - zI z / 65521 * 65521 = zI (z % 65521) := by
  rw [z_65521, zI_divP (by omega) (by omega) (by omega) (by omega), zI_mul, zI_sub]
  refine congrArg zI ?_
  omega
theorem shrL {a : Int} {k : Nat} {m : Int64} (h1 : -9223372036854775808 ≤ a) (h2 : a ≤ 9223372036854775807) (hm : ∀ x : Int64, (x >>> m).toBitVec = x.toBitVec.sshiftRight k) : zL a >>> m = zL (a / (2 ^ k : Nat)) := by
  have e : (zL a >>> m).toInt = a / (2 ^ k : Nat) := by
    show (zL a >>> m).toBitVec.toInt = _
    rw [hm, BitVec.toInt_sshiftRight, Int.shiftRight_eq_div_pow]
    show (zL a).toInt / _ = _
    rw [zL_toInt h1 h2]
  rw [← e]
  exact (Int64.ofInt_toInt _).symm
section CK
variable {s : vt_S} {a B n : Nat} {g : Nat → Nat} {l : List Nat}
theorem c_adl_loop (h : rowC s a g n) : ∀ (d i fu : Nat), i + d = n → d < fu → ab_X5_checkOf_8 fu a (nI n) (zL ((adN g i).1 : Int)) (zL ((adN g i).2 : Int)) (nI i) s = some (zL (65536 * ((adN g n).2 : Int) + ((adN g n).1 : Int)), s) := by
  have hl := h.len
  intro d
  induction d with
  | zero =>
    intro i fu hi hf
    obtain ⟨fu, rfl⟩ : ∃ q, fu = q + 1 := ⟨fu - 1, by omega⟩
    show ab_X5_checkOf_8b _ a (nI n) _ _ (nI i) s = _
    unfold ab_X5_checkOf_8b
    rw [if_pos (nI_le (by omega) (by omega)), y_65536, zL_mul, zL_add, show i = n by omega]
  | succ d ih =>
    intro i fu hi hf
    obtain ⟨fu, rfl⟩ : ∃ q, fu = q + 1 := ⟨fu - 1, by omega⟩
    obtain ⟨x1, x2⟩ := h.2.2.2 i (by omega)
    have lt := adN_lt g i
    have hL := h.2.1
    have e1 : (((adN g i).1 : Int) + (g i : Int)) % 65521 = ((adN g (i + 1)).1 : Int) := by
      show _ = ((((adN g i).1 + g i) % 65521 : Nat) : Int)
      omega
    have e2 : (((adN g i).2 : Int) + ((adN g (i + 1)).1 : Int)) % 65521 = ((adN g (i + 1)).2 : Int) := by
      show _ = ((((adN g i).2 + (adN g (i + 1)).1) % 65521 : Nat) : Int)
      omega
    have lt1 := adN_lt g (i + 1)
    show ab_X5_checkOf_8b _ a (nI n) _ _ (nI i) s = _
    unfold ab_X5_checkOf_8b
    rw [if_neg (nI_ge (by omega) (by omega)), vl_I_ok (by omega) (by omega), obs, x1, nI_z (g i), zI_wide (by omega) (by omega), zL_add, modL (by omega) (by omega), e1, zL_add, modL (by omega) (by omega), e2, nI_1]
    exact ih (i + 1) fu (by omega) (by omega)
theorem c_adl (h : rowC s a g n) : ab_X5_checkOf a (nI n) s = some (zL (65536 * ((adN g n).2 : Int) + ((adN g n).1 : Int)), s) :=
  c_adl_loop h n 0 sv_fuel (by omega) (fuel_ge (by have := h.len; omega))
theorem c_ck4 {p : Nat × Nat} (hp : p.1 < 65521 ∧ p.2 < 65521) (h : rowL s a l) (hl : l.length + 4 ≤ 8192) : ∃ s1, (∀ fu, ab_X5_write_151 (fu + 5) a (zL (65536 * (p.2 : Int) + (p.1 : Int))) 24 s = some ((), s1)) ∧ rwk a s s1 ∧ rowL s1 a (l ++ ckL p) := by
  have b1 : ∀ {k : Nat} {m : Int64}, (∀ x : Int64, (x >>> m).toBitVec = x.toBitVec.sshiftRight k) → by8 ((Int64.toInt32 (zL (65536 * (p.2 : Int) + (p.1 : Int)) >>> m)) &&& 255) = ((65536 * (p.2 : Int) + (p.1 : Int)) / (2 ^ k : Nat) % 256).toNat := by
    intro k m hm
    rw [shrL (by omega) (by omega) hm, zL_nar, and_by8, by8_nI (by8_lt _)]
    have := by8_z ((65536 * (p.2 : Int) + (p.1 : Int)) / (2 ^ k : Nat))
    omega
  have q1 := b1 (k := 24) (m := Int32.toInt64 24 &&& 63) (fun x => rfl)
  have q2 := b1 (k := 16) (m := Int32.toInt64 16 &&& 63) (fun x => rfl)
  have q3 := b1 (k := 8) (m := Int32.toInt64 8 &&& 63) (fun x => rfl)
  have q4 := b1 (k := 0) (m := Int32.toInt64 0 &&& 63) (fun x => rfl)
  clear b1
  rw [show ((65536 * (p.2 : Int) + (p.1 : Int)) / (2 ^ 24 : Nat) % 256).toNat = p.2 / 256 by omega] at q1
  rw [show ((65536 * (p.2 : Int) + (p.1 : Int)) / (2 ^ 16 : Nat) % 256).toNat = p.2 % 256 by omega] at q2
  rw [show ((65536 * (p.2 : Int) + (p.1 : Int)) / (2 ^ 8 : Nat) % 256).toNat = p.1 / 256 by omega] at q3
  rw [show ((65536 * (p.2 : Int) + (p.1 : Int)) / (2 ^ 0 : Nat) % 256).toNat = p.1 % 256 by omega] at q4
  generalize zL (65536 * (p.2 : Int) + (p.1 : Int)) = c at *
  obtain ⟨s1, a1, a2, a3⟩ := c_putL ((Int64.toInt32 (c >>> (Int32.toInt64 24 &&& 63))) &&& 255) h (by omega)
  rw [q1] at a3
  obtain ⟨s2, c1, c2, c3⟩ := c_putL ((Int64.toInt32 (c >>> (Int32.toInt64 16 &&& 63))) &&& 255) a3 (by rw [List.length_append]; show l.length + 1 < 8192; omega)
  rw [q2, List.append_assoc] at c3
  obtain ⟨s3, d1, d2, d3⟩ := c_putL ((Int64.toInt32 (c >>> (Int32.toInt64 8 &&& 63))) &&& 255) c3 (by rw [List.length_append]; show l.length + 2 < 8192; omega)
  rw [q3, List.append_assoc] at d3
  obtain ⟨s4, f1, f2, f3⟩ := c_putL ((Int64.toInt32 (c >>> (Int32.toInt64 0 &&& 63))) &&& 255) d3 (by rw [List.length_append]; show l.length + 3 < 8192; omega)
  rw [q4, List.append_assoc] at f3
  refine ⟨s4, fun fu => ?_, ((a2.trans c2).trans d2).trans f2, f3⟩
  show ab_X5_write_151b _ a c 24 s = _
  unfold ab_X5_write_151b
  rw [if_neg (by decide), a1, vbs]
  show ab_X5_write_151b _ a c 16 s1 = _
  unfold ab_X5_write_151b
  rw [if_neg (by decide), c1, vbs]
  show ab_X5_write_151b _ a c 8 s2 = _
  unfold ab_X5_write_151b
  rw [if_neg (by decide), d1, vbs]
  show ab_X5_write_151b _ a c 0 s3 = _
  unfold ab_X5_write_151b
  rw [if_neg (by decide), f1, vbs]
  show ab_X5_write_151b _ a c (-8) s4 = _
  unfold ab_X5_write_151b
  rw [if_pos (by decide)]
end CK
