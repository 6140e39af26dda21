-- INPUTS as one number
abbrev IN : Type := Int × Int × Int × Bool
def inOk (i : IN) : Prop := (-64 ≤ i.1 ∧ i.1 ≤ 64) ∧ (-64 ≤ i.2.1 ∧ i.2.1 ≤ 64) ∧ (-16 ≤ i.2.2.1 ∧ i.2.2.1 ≤ 16)
def inN (i : IN) : Int := (if i.2.2.2 then 16777216 else 0) + (i.1 + 64) * 65536 + (i.2.1 + 64) * 256 + i.2.2.1 + 16
theorem shrZ {a : Int} {k : Nat} {m : Int32} (h1 : -2147483648 ≤ a) (h2 : a ≤ 2147483647) (hm : ∀ x : Int32, (x >>> m).toBitVec = x.toBitVec.sshiftRight k) : zI a >>> m = zI (a / (2 ^ k : Nat)) := by
  have e : (zI a >>> m).toInt = a / (2 ^ k : Nat) := by
    show (zI a >>> m).toBitVec.toInt = _
    rw [hm, BitVec.toInt_sshiftRight, Int.shiftRight_eq_div_pow]
    show (zI a).toInt / _ = _
    rw [zI_toInt h1 h2]
  obtain ⟨i, hi, -, -⟩ := zI_ex (zI a >>> m)
  rw [← e]
  exact (Int32.ofInt_toInt _).symm
theorem shl16 : ∀ q : Nat, q < 129 → nI q <<< (16 &&& 31) = nI (q * 65536) := by decide +kernel
theorem shl8 : ∀ q : Nat, q < 129 → nI q <<< (8 &&& 31) = nI (q * 256) := by decide +kernel
section IN
variable {i : IN}
theorem inN_rng (h : inOk i) : 0 ≤ inN i ∧ inN i < 33554432 := by
  unfold inOk at h
  unfold inN
  split <;> omega
theorem inN_turn (h : inOk i) : inN i % 256 - 16 = i.2.2.1 := by
  unfold inOk at h
  unfold inN
  split <;> omega
theorem inN_ahead (h : inOk i) : inN i / 65536 % 256 - 64 = i.1 := by
  unfold inOk at h
  unfold inN
  split <;> omega
theorem inN_aside (h : inOk i) : inN i / 256 % 256 - 64 = i.2.1 := by
  unfold inOk at h
  unfold inN
  split <;> omega
theorem inN_uses (h : inOk i) : (inN i / 16777216 = 0) ↔ i.2.2.2 = false := by
  unfold inOk at h
  unfold inN
  cases i.2.2.2
  · rw [if_neg (by decide)]
    exact ⟨fun _ => rfl, fun _ => by omega⟩
  · rw [if_pos rfl]
    exact ⟨fun z => by omega, fun z => by cases z⟩
theorem c_turnOf (h : inOk i) (s : vt_S) : ab_X5_turnOf (zI (inN i)) s = some (zI i.2.2.1, s) := by
  unfold ab_X5_turnOf
  rw [zI_and255, z_16, zI_sub, inN_turn h]
theorem c_aheadOf (h : inOk i) (s : vt_S) : ab_X5_aheadOf (zI (inN i)) s = some (zI i.1, s) := by
  have r := inN_rng h
  unfold ab_X5_aheadOf
  rw [shrZ (k := 16) (by omega) (by omega) (fun x => rfl), zI_and255, z_64, zI_sub]
  refine congrArg (fun v => some (zI v, s)) ?_
  have := inN_ahead h
  omega
theorem c_asideOf (h : inOk i) (s : vt_S) : ab_X5_asideOf (zI (inN i)) s = some (zI i.2.1, s) := by
  have r := inN_rng h
  unfold ab_X5_asideOf
  rw [shrZ (k := 8) (by omega) (by omega) (fun x => rfl), zI_and255, z_64, zI_sub]
  refine congrArg (fun v => some (zI v, s)) ?_
  have := inN_aside h
  omega
theorem c_usesOf (h : inOk i) (s : vt_S) : ab_X5_usesOf (zI (inN i)) s = some (bI i.2.2.2, s) := by
  have r := inN_rng h
  have u := inN_uses h
  unfold ab_X5_usesOf ab_X5_usesOf_12
  rw [shrZ (k := 24) (by omega) (by omega) (fun x => rfl)]
  have e : (zI (inN i / ((2 ^ 24 : Nat) : Int)) = 0) ↔ i.2.2.2 = false := by
    rw [← u, show (0 : Int32) = zI 0 from rfl, zI_eq (by omega) (by omega) (by omega) (by omega)]
    omega
  cases c : i.2.2.2
  · rw [if_pos (e.mpr c)]; rfl
  · rw [if_neg (fun z => by have := e.mp z; rw [c] at this; cases this)]; rfl
theorem c_inputOf (h : inOk i) (s : vt_S) : ab_X5_inputOf (zI i.1) (zI i.2.1) (zI i.2.2.1) (bI i.2.2.2) s = some (zI (inN i), s) := by
  obtain ⟨⟨a1, a2⟩, ⟨b1, b2⟩, c1, c2⟩ := h
  have e1 : (zI i.1 + 64) <<< (16 &&& 31) = zI ((i.1 + 64) * 65536) := by
    rw [z_64, zI_add, zI_nI (by omega), shl16 _ (by omega), nI_z]
    refine congrArg zI ?_
    omega
  have e2 : (zI i.2.1 + 64) <<< (8 &&& 31) = zI ((i.2.1 + 64) * 256) := by
    rw [z_64, zI_add, zI_nI (by omega), shl8 _ (by omega), nI_z]
    refine congrArg zI ?_
    omega
  unfold ab_X5_inputOf ab_X5_inputOf_9 inN
  rw [e1, e2]
  cases i.2.2.2
  · rw [if_pos (show bI false = 0 from rfl), if_neg (by decide), show (0 : Int32) <<< (24 &&& 31) = zI 0 from rfl, z_16, zI_add, zI_add, zI_add, zI_add]
  · rw [if_neg (show ¬ bI true = 0 by decide), if_pos rfl, show (1 : Int32) <<< (24 &&& 31) = zI 16777216 from rfl, z_16, zI_add, zI_add, zI_add, zI_add]
end IN
