-- THE BYTES given and written
theorem rowC.congr {s : vt_S} {a n : Nat} {g q : Nat → Nat} (h : rowC s a g n) (e : ∀ i, i < n → g i = q i) : rowC s a q n :=
  ⟨h.1, h.2.1, h.2.2.1, fun i hi => by rw [← e i hi]; exact h.2.2.2 i hi⟩
/-- the reference's bytes given -/
def rIn (B : Nat) (s : vt_S) (g : Nat → Nat) (n : Nat) : Prop := vt_I s 1501 (B + 640) = nI n ∧ n ≤ 8192 ∧ ∀ i, i < n → vt_A s 1500 (B + 640) i = zI (sg8 (g i)) ∧ g i < 256
/-- the reference's bytes written -/
def rOut (B : Nat) (s : vt_S) (g : Nat → Nat) (n : Nat) : Prop := vt_I s 1806 (B + 639) = nI n ∧ n ≤ 8192 ∧ ∀ i, i < n → vt_A s 1805 (B + 639) i = nI (g i) ∧ g i < 256
theorem rIn.congr {B : Nat} {s : vt_S} {n : Nat} {g q : Nat → Nat} (h : rIn B s g n) (e : ∀ i, i < n → g i = q i) : rIn B s q n := ⟨h.1, h.2.1, fun i hi => by rw [← e i hi]; exact h.2.2 i hi⟩
theorem rOut.congr {B : Nat} {s : vt_S} {n : Nat} {g q : Nat → Nat} (h : rOut B s g n) (e : ∀ i, i < n → g i = q i) : rOut B s q n := ⟨h.1, h.2.1, fun i hi => by rw [← e i hi]; exact h.2.2 i hi⟩
/-- byte k of a number -/
def vb (v : Int64) (k : Nat) : Nat := (v.toInt / 2 ^ (8 * k) % 256).toNat
theorem vb_lt (v : Int64) (k : Nat) : vb v k < 256 := by unfold vb; omega
theorem shr_log (v : Int64) (k : Nat) (hk : k < 8) : (Int64.toInt32 (UInt64.toInt64 (Int64.toUInt64 v >>> (Int64.toUInt64 (Int32.toInt64 (8 * nI k)) &&& Int64.toUInt64 63)))) &&& 255 = nI (vb v k) := by
  have h : ∀ q : Nat, q < 8 → Int64.toUInt64 (Int32.toInt64 (8 * nI q)) &&& Int64.toUInt64 63 = UInt64.ofNat (8 * q) := by decide
  rw [h k hk]
  have e2 : ∀ u : UInt64, (Int64.toInt32 (UInt64.toInt64 u)) &&& 255 = nI (u.toNat % 256) := by
    intro u
    rw [by8_and]
    congr 1
    unfold by8
    have : (Int64.toInt32 (UInt64.toInt64 u)).toBitVec.toNat = u.toNat % 2 ^ 32 := by
      show (BitVec.signExtend 32 u.toBitVec).toNat = _
      rw [BitVec.signExtend_eq_setWidth_of_le _ (by decide), BitVec.toNat_setWidth]
      rfl
    rw [this]
    omega
  rw [e2]
  congr 1
  have e3 : (Int64.toUInt64 v).toNat = (v.toInt % 2 ^ 64).toNat := by
    show v.toBitVec.toNat = (v.toBitVec.toInt % 2 ^ 64).toNat
    rw [BitVec.toInt_eq_toNat_bmod, Int.bmod_def]
    have := v.toBitVec.isLt
    split <;> omega
  have e4 : ((Int64.toUInt64 v) >>> UInt64.ofNat (8 * k)).toNat = (Int64.toUInt64 v).toNat / 2 ^ (8 * k) := by
    rw [UInt64.toNat_shiftRight]
    have : (UInt64.ofNat (8 * k)).toNat % 64 = 8 * k := by
      rw [UInt64.toNat_ofNat']
      omega
    rw [this, Nat.shiftRight_eq_div_pow]
  rw [e4, e3]
  unfold vb
  obtain ⟨x, hx⟩ : ∃ x, x = v.toInt := ⟨_, rfl⟩
  rw [← hx]
  have c : k = 0 ∨ k = 1 ∨ k = 2 ∨ k = 3 ∨ k = 4 ∨ k = 5 ∨ k = 6 ∨ k = 7 := by omega
  rcases c with rfl | rfl | rfl | rfl | rfl | rfl | rfl | rfl <;> simp only [Nat.reduceMul, Nat.reducePow, Int.reducePow] <;> omega
theorem shr_ar (v : Int64) (k : Nat) (hk : k < 8) : Int8.toInt32 (Int32.toInt8 (Int64.toInt32 (v >>> (Int32.toInt64 (8 * nI k) &&& 63)))) = zI (sg8 (vb v k)) := by
  have h : ∀ q : Nat, q < 8 → (Int32.toInt64 (8 * nI q) &&& 63) = Int64.ofNat (8 * q) := by decide
  rw [h k hk]
  obtain ⟨i, e, -, -⟩ := zL_ex (v >>> Int64.ofNat (8 * k))
  have e4 : (v >>> Int64.ofNat (8 * k)).toInt = v.toInt / 2 ^ (8 * k) := by
    show (BitVec.sshiftRight v.toBitVec _).toInt = v.toBitVec.toInt / _
    have : ((Int64.ofNat (8 * k)).toBitVec.smod 64#64).toNat = 8 * k := by
      have h : ∀ q : Nat, q < 8 → ((Int64.ofNat (8 * q)).toBitVec.smod 64#64).toNat = 8 * q := by decide
      exact h k hk
    show (BitVec.sshiftRight v.toBitVec (((Int64.ofNat (8 * k)).toBitVec.smod 64#64).toNat)).toInt = _
    rw [this, BitVec.toInt_sshiftRight, Int.shiftRight_eq_div_pow]
    rfl
  have e5 : v >>> Int64.ofNat (8 * k) = zL (v.toInt / 2 ^ (8 * k)) := by
    rw [← e4]; exact (Int64.ofInt_toInt _).symm
  rw [e5, zL_nar, zI_byte]
  unfold vb
  congr 1
  unfold sg8
  obtain ⟨x, hx⟩ : ∃ x, x = v.toInt / 2 ^ (8 * k) := ⟨_, rfl⟩
  rw [← hx]
  omega
/-- n bytes more, k of them to come -/
def gvb (v : Int64) (g : Nat → Nat) (n j : Nat) : Nat → Nat := fun i => if i < n then g i else vb v (j - 1 - (i - n))
theorem gvb_step (v : Int64) (g : Nat → Nat) (n j i : Nat) : gvb v (fun i => if i = n then vb v j else g i) (n + 1) j i = gvb v g n (j + 1) i := by
  unfold gvb
  dsimp only
  by_cases h : i < n
  · rw [if_pos (show i < n + 1 by omega), if_neg (show ¬ i = n by omega), if_pos h]
  · rw [if_neg h]
    by_cases e : i = n
    · rw [if_pos (by omega), if_pos e]
      congr 1; omega
    · rw [if_neg (by omega)]
      congr 1; omega
theorem z_down (j : Nat) : nI (j + 1) - 1 = nI j ∧ nI j + (-1) = nI j - 1 := by
  constructor
  · rw [nI_z, nI_z, show (1 : Int32) = zI 1 from rfl, zI_sub]; congr 1; omega
  · rw [nI_z, show (1 : Int32) = zI 1 from rfl, zI_neg, zI_add, zI_sub]; congr 1
theorem c_give_loop {B : Nat} (v : Int64) : ∀ (j fu : Nat) (s : vt_S) (g : Nat → Nat) (n : Nat), j < fu → j ≤ 8 → vt_P s 1300 B = B + 1 → rowC s (B + 1) g n → n + j ≤ 8192 → ∃ s1, ab_X12_giveBytes_33 fu B v (nI j - 1) s = some (1, s1) ∧ rwk (B + 1) s s1 ∧ rowC s1 (B + 1) (gvb v g n j) (n + j) := by
  intro j
  induction j with
  | zero =>
    intro fu s g n h1 h2 h3 h4 h5
    obtain ⟨fu, rfl⟩ : ∃ q, fu = q + 1 := ⟨fu - 1, by omega⟩
    show ∃ s1, ab_X12_giveBytes_33b _ B v (nI 0 - 1) s = _ ∧ _
    unfold ab_X12_giveBytes_33b
    rw [if_pos (by decide)]
    exact ⟨s, rfl, rwk.refl _ _, h4.congr fun i hi => by unfold gvb; rw [if_pos (by omega)]⟩
  | succ j ih =>
    intro fu s g n h1 h2 h3 h4 h5
    obtain ⟨fu, rfl⟩ : ∃ q, fu = q + 1 := ⟨fu - 1, by omega⟩
    show ∃ s1, ab_X12_giveBytes_33b _ B v (nI (j + 1) - 1) s = _ ∧ _
    simp only [ab_X12_giveBytes_33b, sv_let]
    rw [(z_down j).1, if_neg (nI_pos (by omega)), shr_log v j (by omega), h3]
    obtain ⟨s1, e1, e2, e3⟩ := row_put (nI (vb v j)) h4 (by omega)
    rw [e1, vt_bs, (z_down j).2]
    rw [by8_nI (vb_lt v j)] at e3
    obtain ⟨s2, f1, f2, f3⟩ := ih fu s1 _ (n + 1) (by omega) (by omega) (by rw [e2.2.2.1]; exact h3) e3 (by omega)
    refine ⟨s2, f1, e2.trans f2, ?_⟩
    rw [show n + 1 + j = n + (j + 1) by omega] at f3
    exact f3.congr fun i _ => gvb_step v g n j i
theorem r_give_loop {B : Nat} (v : Int64) : ∀ (j fu : Nat) (s : vt_S) (g : Nat → Nat) (n : Nat), j < fu → j ≤ 8 → rS B s → rIn B s g n → n + j ≤ 8192 → ∃ s1, ab_X17_giveBytes_38 fu (B + 639) v (nI j - 1) s = some (1, s1) ∧ rIn B s1 (gvb v g n j) (n + j) := by
  intro j
  induction j with
  | zero =>
    intro fu s g n h1 h2 h3 h4 h5
    obtain ⟨fu, rfl⟩ : ∃ q, fu = q + 1 := ⟨fu - 1, by omega⟩
    show ∃ s1, ab_X17_giveBytes_38b _ (B + 639) v (nI 0 - 1) s = _ ∧ _
    unfold ab_X17_giveBytes_38b
    rw [if_pos (by decide)]
    exact ⟨s, rfl, h4.congr fun i hi => by unfold gvb; rw [if_pos (by omega)]⟩
  | succ j ih =>
    intro fu s g n h1 h2 h3 h4 h5
    obtain ⟨fu, rfl⟩ : ∃ q, fu = q + 1 := ⟨fu - 1, by omega⟩
    show ∃ s1, ab_X17_giveBytes_38b _ (B + 639) v (nI (j + 1) - 1) s = _ ∧ _
    simp only [ab_X17_giveBytes_38b, sv_let]
    obtain ⟨g1, g2, g3⟩ := h4
    rw [(z_down j).1, if_neg (nI_pos (by omega)), shr_ar v j (by omega), nar_byte, sg8_sg8, h3.P1801, g1, vs_I_ok (by rw [h3.L1500]; omega) (by rw [h3.L1500]; decide), Option.bind_some]
    simp only [q_z_I, q_l_I, q_I_I, q_J_I, q_P_I, q_E_I, q_L_I, q_A_I, q_B_I, q_z_J, q_l_J, q_I_J, q_J_J, q_P_J, q_E_J, q_L_J, q_A_J, q_B_J, q_z_P, q_l_P, q_I_P, q_J_P, q_P_P, q_E_P, q_L_P, q_A_P, q_B_P, q_z_A, q_l_A, q_I_A, q_J_A, q_P_A, q_E_A, q_L_A, q_A_A, q_B_A, q_z_B, q_l_B, q_I_B, q_J_B, q_P_B, q_E_B, q_L_B, q_A_B, q_B_B, q_z_W, q_l_W, q_I_W, q_J_W, q_P_W, q_E_W, q_L_W, q_A_W, q_B_W, vur_ap, vu3_ap, h3.P1801, g1, (z_down j).2, nI_1]
    obtain ⟨s2, f1, f2⟩ := ih fu (vu_I (vu_A s 1500 (B + 640) n (zI (sg8 (vb v j)))) 1501 (B + 640) (nI (n + 1))) (fun i => if i = n then vb v j else g i) (n + 1) (by omega) (by omega) (h3.of rfl rfl) ⟨I_at, by omega, fun i hi => by
      simp only [q_z_I, q_l_I, q_I_I, q_J_I, q_P_I, q_E_I, q_L_I, q_A_I, q_B_I, q_z_J, q_l_J, q_I_J, q_J_J, q_P_J, q_E_J, q_L_J, q_A_J, q_B_J, q_z_P, q_l_P, q_I_P, q_J_P, q_P_P, q_E_P, q_L_P, q_A_P, q_B_P, q_z_A, q_l_A, q_I_A, q_J_A, q_P_A, q_E_A, q_L_A, q_A_A, q_B_A, q_z_B, q_l_B, q_I_B, q_J_B, q_P_B, q_E_B, q_L_B, q_A_B, q_B_B, q_z_W, q_l_W, q_I_W, q_J_W, q_P_W, q_E_W, q_L_W, q_A_W, q_B_W, vur_ap, vu3_ap]
      by_cases c : i = n
      · rw [if_pos ⟨trivial, trivial, c⟩, if_pos c]; exact ⟨rfl, vb_lt v j⟩
      · rw [if_neg (fun z => c z.2.2), if_neg c]; exact g3 i (by omega)⟩ (by omega)
    refine ⟨s2, f1, ?_⟩
    rw [show n + 1 + j = n + (j + 1) by omega] at f2
    exact f2.congr fun i _ => gvb_step v g n j i
