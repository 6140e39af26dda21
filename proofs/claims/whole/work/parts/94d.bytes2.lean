theorem rwk_I (s : vt_S) (a : Nat) (v : Int32) : rwk a s (vu_I s 101 a v) := ⟨⟨v, rfl⟩, rfl, rfl, rfl, rfl, ⟨vt_A s 100 a, (vur_self _ _ _).symm⟩, ⟨vt_L s 100 a, (vur_self _ _ _).symm⟩, Nat.le_refl _, Nat.le_refl _, Nat.le_refl _⟩
theorem rwk_A (s : vt_S) (a i : Nat) (v : Int32) : rwk a s (vu_A s 100 a i v) := ⟨⟨vt_I s 101 a, (vur_self _ _ _).symm⟩, rfl, rfl, rfl, rfl, ⟨_, vu3_vur _ _ _ _ _⟩, ⟨vt_L s 100 a, (vur_self _ _ _).symm⟩, Nat.le_refl _, Nat.le_refl _, Nat.le_refl _⟩
/-- an int between 0 and n -/
theorem I_upto {a : Int32} {n : Nat} (h0 : ¬ a < 0) (h : a ≤ nI n) (hn : n < 2 ^ 31) : ∃ j, j ≤ n ∧ a = nI j := by
  obtain ⟨i, rfl, h1, h2⟩ := zI_ex a
  rw [show (0 : Int32) = zI 0 from rfl, zI_lt h1 h2 (by omega) (by omega)] at h0
  rw [nI_z, zI_le h1 h2 (by omega) (by omega)] at h
  exact ⟨i.toNat, by omega, by rw [zI_nI (by omega)]⟩
theorem I_below {a : Int32} {n : Nat} (h0 : ¬ a < 0) (h : a < nI n) (hn : n < 2 ^ 31) : ∃ j, j < n ∧ a = nI j := by
  obtain ⟨i, rfl, h1, h2⟩ := zI_ex a
  rw [show (0 : Int32) = zI 0 from rfl, zI_lt h1 h2 (by omega) (by omega)] at h0
  rw [nI_z, zI_lt h1 h2 (by omega) (by omega)] at h
  exact ⟨i.toNat, by omega, by rw [zI_nI (by omega)]⟩
theorem by8_z (a : Int) : (by8 (zI a) : Int) = a % 256 := by
  have h := by8_and (zI a)
  rw [zI_and255, nI_z] at h
  have := by8_lt (zI a)
  have := zI_eq (a := a % 256) (b := by8 (zI a)) (by omega) (by omega) (by omega) (by omega)
  rw [this] at h
  exact h.symm
theorem sg8_by8 (b : Int32) : Int8.toInt32 (Int32.toInt8 b) = zI (sg8 (by8 b)) := by
  obtain ⟨i, rfl, h1, h2⟩ := zI_ex b
  rw [zI_byte, by8_z, sg8_of_mod]
theorem sg8_and {n : Nat} (h : n < 256) : zI (sg8 n) &&& 255 = nI n := by
  rw [zI_and255, sg8_mod, nI_z]
  congr 1
  omega
section BY
variable {B : Nat} {s : vt_S} {g w : Nat → Nat} {n m : Nat}
theorem c_give (v : Int64) (a : Int32) (hP : vt_P s 1300 B = B + 1) (h : rowC s (B + 1) g n) : ∃ r s1 g1 n1, ab_X12_giveBytes B v a s = some (r, s1) ∧ rwk (B + 1) s s1 ∧ rowC s1 (B + 1) g1 n1 ∧ ∀ s2, rS B s2 → rIn B s2 g n → ∃ s3, ab_X17_giveBytes (B + 639) v a s2 = some (r, s3) ∧ rIn B s3 g1 n1 := by
  have hl := h.len
  have h1 := h.1
  by_cases c1 : a < 1
  · refine ⟨0, s, g, n, ?_, rwk.refl _ _, h, fun s2 hr hi => ⟨vu_I s2 1800 (B + 639) 0, ?_, hi⟩⟩
    · simp only [ab_X12_giveBytes, sv_let, if_pos c1, ab_X12_giveBytes_26]
    · simp only [ab_X17_giveBytes, sv_let, if_pos c1, ab_X17_giveBytes_31]
  by_cases c2 : 8 < a
  · refine ⟨0, s, g, n, ?_, rwk.refl _ _, h, fun s2 hr hi => ⟨vu_I s2 1800 (B + 639) 0, ?_, hi⟩⟩
    · simp only [ab_X12_giveBytes, sv_let, if_neg c1, if_pos c2, ab_X12_giveBytes_26]
    · simp only [ab_X17_giveBytes, sv_let, if_neg c1, if_pos c2, ab_X17_giveBytes_31]
  obtain ⟨j, hj1, hj2, rfl⟩ : ∃ j, 1 ≤ j ∧ j ≤ 8 ∧ a = nI j := by
    obtain ⟨i, rfl, q1, q2⟩ := zI_ex a
    rw [show (1 : Int32) = zI 1 from rfl, zI_lt q1 q2 (by omega) (by omega)] at c1
    rw [show (8 : Int32) = zI 8 from rfl, zI_lt (by omega) (by omega) q1 q2] at c2
    exact ⟨i.toNat, by omega, by omega, by rw [zI_nI (by omega)]⟩
  by_cases c3 : nI n + nI j ≤ 8192
  · have c4 : n + j ≤ 8192 := by
      rw [nI_add, nI_z, show (8192 : Int32) = zI 8192 from rfl, zI_le (by omega) (by omega) (by omega) (by omega)] at c3
      omega
    obtain ⟨s1, e1, e2, e3⟩ := c_give_loop (B := B) v j sv_fuel s g n (fuel_ge (by omega)) hj2 hP h c4
    refine ⟨1, s1, _, _, ?_, e2, e3, fun s2 hr hi => ?_⟩
    · simp only [ab_X12_giveBytes, sv_let, if_neg c1, if_neg c2]
      rw [hP, h1, if_pos c3]; exact e1
    · obtain ⟨s3, f1, f2⟩ := r_give_loop (B := B) v j sv_fuel (vu_I s2 1800 (B + 639) 0) g n (fuel_ge (by omega)) hj2 (hr.of rfl rfl) hi c4
      refine ⟨s3, ?_, f2⟩
      simp only [ab_X17_giveBytes, sv_let, if_neg c1, if_neg c2]
      rw [show vt_P (vu_I s2 1800 (B + 639) 0) 1801 (B + 639) = B + 640 from hr.P1801, show vt_I (vu_I s2 1800 (B + 639) 0) 1501 (B + 640) = nI n from hi.1, if_pos c3]; exact f1
  · refine ⟨0, s, g, n, ?_, rwk.refl _ _, h, fun s2 hr hi => ⟨vu_I s2 1800 (B + 639) 0, ?_, hi⟩⟩
    · simp only [ab_X12_giveBytes, sv_let, if_neg c1, if_neg c2, ab_X12_giveBytes_26]
      rw [hP, h1, if_neg c3]
    · simp only [ab_X17_giveBytes, sv_let, if_neg c1, if_neg c2, ab_X17_giveBytes_31]
      rw [show vt_P (vu_I s2 1800 (B + 639) 0) 1801 (B + 639) = B + 640 from hr.P1801, show vt_I (vu_I s2 1800 (B + 639) 0) 1501 (B + 640) = nI n from hi.1, if_neg c3]
theorem c_cut (a : Int32) (hP : vt_P s 1300 B = B + 1) (h : rowC s (B + 1) g n) : ∃ r s1 n1, ab_X12_cutBytes B a s = some (r, s1) ∧ rwk (B + 1) s s1 ∧ rowC s1 (B + 1) g n1 ∧ ∀ s2, rS B s2 → rIn B s2 g n → ∃ s3, ab_X17_cutBytes (B + 639) a s2 = some (r, s3) ∧ rIn B s3 g n1 := by
  have hl := h.len
  obtain ⟨h1, h2, h3, h4⟩ := id h
  by_cases c1 : a < 0
  · refine ⟨0, s, n, ?_, rwk.refl _ _, h, fun s2 hr hi => ⟨vu_I s2 1800 (B + 639) 0, ?_, hi⟩⟩
    · simp only [ab_X12_cutBytes, sv_let, if_pos c1, ab_X12_cutBytes_15]
    · simp only [ab_X17_cutBytes, sv_let, if_pos c1, ab_X17_cutBytes_20]
  by_cases c2 : a ≤ nI n
  · obtain ⟨j, hj, rfl⟩ := I_upto c1 c2 (by omega)
    refine ⟨1, vu_I s 101 (B + 1) (nI j), j, ?_, rwk_I _ _ _, ⟨I_at, by show j ≤ vt_L s 100 (B + 1); omega, h3, fun i hi => h4 i (by omega)⟩, fun s2 hr hi => ⟨vu_I (vu_I s2 1800 (B + 639) 0) 1501 (B + 640) (nI j), ?_, ⟨I_at, by omega, fun i q => hi.2.2 i (by omega)⟩⟩⟩
    · simp only [ab_X12_cutBytes, sv_let, if_neg c1]
      rw [hP, h1, if_pos c2]
    · simp only [ab_X17_cutBytes, sv_let, if_neg c1]
      rw [show vt_P (vu_I s2 1800 (B + 639) 0) 1801 (B + 639) = B + 640 from hr.P1801, show vt_I (vu_I s2 1800 (B + 639) 0) 1501 (B + 640) = nI n from hi.1, if_pos c2]
  · refine ⟨0, s, n, ?_, rwk.refl _ _, h, fun s2 hr hi => ⟨vu_I s2 1800 (B + 639) 0, ?_, hi⟩⟩
    · simp only [ab_X12_cutBytes, sv_let, if_neg c1, ab_X12_cutBytes_15]
      rw [hP, h1, if_neg c2]
    · simp only [ab_X17_cutBytes, sv_let, if_neg c1, ab_X17_cutBytes_20]
      rw [show vt_P (vu_I s2 1800 (B + 639) 0) 1801 (B + 639) = B + 640 from hr.P1801, show vt_I (vu_I s2 1800 (B + 639) 0) 1501 (B + 640) = nI n from hi.1, if_neg c2]
theorem c_poke (a b : Int32) (hP : vt_P s 1300 B = B + 1) (h : rowC s (B + 1) g n) : ∃ r s1 g1, ab_X12_pokeByte B a b s = some (r, s1) ∧ rwk (B + 1) s s1 ∧ rowC s1 (B + 1) g1 n ∧ ∀ s2, rS B s2 → rIn B s2 g n → ∃ s3, ab_X17_pokeByte (B + 639) a b s2 = some (r, s3) ∧ rIn B s3 g1 n := by
  have hl := h.len
  obtain ⟨h1, h2, h3, h4⟩ := id h
  by_cases c1 : a < 0
  · refine ⟨0, s, g, ?_, rwk.refl _ _, h, fun s2 hr hi => ⟨vu_I s2 1800 (B + 639) 0, ?_, hi⟩⟩
    · simp only [ab_X12_pokeByte, sv_let, if_pos c1, ab_X12_pokeByte_15]
    · simp only [ab_X17_pokeByte, sv_let, if_pos c1, ab_X17_pokeByte_20]
  by_cases c2 : a < nI n
  · obtain ⟨j, hj, rfl⟩ := I_below c1 c2 (by omega)
    refine ⟨1, vu_A s 100 (B + 1) j (nI (by8 b)), fun i => if i = j then by8 b else g i, ?_, rwk_A _ _ _ _, ⟨h1, h2, h3, fun i hi => ?_⟩, fun s2 hr hi => ⟨vu_A (vu_I s2 1800 (B + 639) 0) 1500 (B + 640) j (zI (sg8 (by8 b))), ?_, hi.1, hi.2.1, fun i q => ?_⟩⟩
    · simp only [ab_X12_pokeByte, sv_let, if_neg c1]
      rw [hP, h1, if_pos c2, vs_I_ok (by omega) (by omega), Option.bind_some, by8_and]
    · rw [A_at]
      dsimp only
      by_cases e : i = j
      · rw [if_pos e, if_pos e]; exact ⟨rfl, by8_lt b⟩
      · rw [if_neg e, if_neg e]; exact h4 i hi
    · simp only [ab_X17_pokeByte, sv_let, if_neg c1]
      rw [show vt_P (vu_I s2 1800 (B + 639) 0) 1801 (B + 639) = B + 640 from hr.P1801, show vt_I (vu_I s2 1800 (B + 639) 0) 1501 (B + 640) = nI n from hi.1, if_pos c2, sg8_by8, nar_byte, sg8_sg8]
      have L := hr.L1500
      rw [vs_I_ok (s := vu_I s2 1800 (B + 639) 0) (by show j < vt_L s2 1500 (B + 640); omega) (by show vt_L s2 1500 (B + 640) < _; omega), Option.bind_some]
    · rw [A_at]
      dsimp only
      by_cases e : i = j
      · rw [if_pos e, if_pos e]; exact ⟨rfl, by8_lt b⟩
      · rw [if_neg e, if_neg e]; exact hi.2.2 i q
  · refine ⟨0, s, g, ?_, rwk.refl _ _, h, fun s2 hr hi => ⟨vu_I s2 1800 (B + 639) 0, ?_, hi⟩⟩
    · simp only [ab_X12_pokeByte, sv_let, if_neg c1, ab_X12_pokeByte_15]
      rw [hP, h1, if_neg c2]
    · simp only [ab_X17_pokeByte, sv_let, if_neg c1, ab_X17_pokeByte_20]
      rw [show vt_P (vu_I s2 1800 (B + 639) 0) 1801 (B + 639) = B + 640 from hr.P1801, show vt_I (vu_I s2 1800 (B + 639) 0) 1501 (B + 640) = nI n from hi.1, if_neg c2]
theorem c_byte15 (a : Int32) {o : Nat} (h : rowC s o g n) : ab_X12_byteOf_15 a o s = some (if a < 0 ∨ nI n ≤ a then -1 else nI (g a.toNatClampNeg), s) := by
  have hl := h.len
  obtain ⟨h1, h2, h3, h4⟩ := id h
  by_cases c1 : a < 0
  · simp only [ab_X12_byteOf_15, sv_let, if_pos c1, ab_X12_byteOf_37, ab_X12_byteOf_38, if_pos (Or.inl c1 : a < 0 ∨ nI n ≤ a)]
  by_cases c2 : nI n ≤ a
  · simp only [ab_X12_byteOf_15, sv_let, if_neg c1, ab_X12_byteOf_37, ab_X12_byteOf_38, if_pos (Or.inr c2 : a < 0 ∨ nI n ≤ a), h1, if_pos c2]
  · obtain ⟨j, hj, rfl⟩ := I_below c1 (Int32.not_le.mp c2) (by omega)
    simp only [ab_X12_byteOf_15, sv_let, if_neg c1, ab_X12_byteOf_37, ab_X12_byteOf_38, if_neg (fun z => z.elim c1 c2 : ¬ (nI j < 0 ∨ nI n ≤ nI j)), h1, if_neg c2]
    rw [vl_I_ok (by omega) (by omega), Option.bind_some, (h4 j hj).1, nI_clamp (by omega)]
theorem c_byte (a d : Int32) (hc : cS B s) (hg : rowC s (B + 1) g n) (hw : rowC s (B + 3) w m) : ∃ r, ab_X12_byteOf B a d s = some (r, s) ∧ ∀ s2, rS B s2 → rIn B s2 g n → rOut B s2 w m → ab_X17_byteOf (B + 639) a d s2 = some (r, vu_I s2 1800 (B + 639) 0) := by
  have l1 := hg.len
  have l2 := hw.len
  by_cases cd : d = 0
  · refine ⟨_, by simp only [ab_X12_byteOf, sv_let, if_pos cd, hc.P1301]; exact c_byte15 a hw, fun s2 hr hi ho => ?_⟩
    simp only [ab_X17_byteOf, sv_let, ab_X17_byteOf_31, if_pos cd, ab_X17_byteOf_28]
    rw [show vt_I (vu_I s2 1800 (B + 639) 0) 1806 (B + 639) = nI m from ho.1]
    by_cases c1 : a < 0
    · rw [if_pos c1, if_pos (Or.inl c1)]
    rw [if_neg c1]
    by_cases c2 : nI m ≤ a
    · rw [if_neg (Int32.not_lt.mpr c2), if_pos (Or.inr c2)]
    · obtain ⟨j, hj, rfl⟩ := I_below c1 (Int32.not_le.mp c2) (by omega)
      have L := hr.L1805
      rw [if_pos (Int32.not_le.mp c2), if_neg (fun z => z.elim c1 c2), vl_I_ok (by show j < vt_L s2 1805 (B + 639); omega) (by show vt_L s2 1805 (B + 639) < _; omega), Option.bind_some, ab_X17_byteOf_59, nI_clamp (by omega)]
      exact congrArg (fun z => some (z, _)) (ho.2.2 j hj).1
  · refine ⟨_, by simp only [ab_X12_byteOf, sv_let, if_neg cd, hc.P1300]; exact c_byte15 a hg, fun s2 hr hi ho => ?_⟩
    simp only [ab_X17_byteOf, sv_let, ab_X17_byteOf_31, if_neg cd, ab_X17_byteOf_28]
    rw [show vt_P (vu_I s2 1800 (B + 639) 0) 1801 (B + 639) = B + 640 from hr.P1801, show vt_I (vu_I s2 1800 (B + 639) 0) 1501 (B + 640) = nI n from hi.1]
    by_cases c1 : a < 0
    · rw [if_pos c1, if_pos (Or.inl c1)]
    rw [if_neg c1]
    by_cases c2 : nI n ≤ a
    · rw [if_neg (Int32.not_lt.mpr c2), if_pos (Or.inr c2)]
    · obtain ⟨j, hj, rfl⟩ := I_below c1 (Int32.not_le.mp c2) (by omega)
      have L := hr.L1500
      rw [if_pos (Int32.not_le.mp c2), if_neg (fun z => z.elim c1 c2), vl_I_ok (by show j < vt_L s2 1500 (B + 640); omega) (by show vt_L s2 1500 (B + 640) < _; omega), Option.bind_some, ab_X17_byteOf_59, nI_clamp (by omega)]
      have q := hi.2.2 j hj
      rw [show vt_A (vu_I s2 1800 (B + 639) 0) 1500 (B + 640) j = zI (sg8 (g j)) from q.1, sg8_and q.2]
theorem c_turn (hc : cS B s) (hg : rowC s (B + 1) g n) (hw : rowC s (B + 3) w m) : ∃ s1, ab_X12_turnBytes B s = some ((), s1) ∧ rwk (B + 1) s s1 ∧ rowC s1 (B + 1) w m := by
  obtain ⟨s1, e1, e2, e3⟩ := row_become (a := B + 1) (b := B + 3) (by omega) hg hw
  refine ⟨s1, ?_, e2, e3⟩
  simp only [ab_X12_turnBytes, sv_let, hc.P1300, hc.P1301, e1, vt_bs]
theorem r_turn_loop (hw1 : ∀ i, i < m → w i < 256) (hm : m ≤ 8192) : ∀ (d i fu : Nat) (s : vt_S), i + d = m → d < fu → rS B s → vt_I s 1806 (B + 639) = nI m → (∀ j, j < m → vt_A s 1805 (B + 639) j = nI (w j)) → (∀ j, j < i → vt_A s 1500 (B + 640) j = zI (sg8 (w j))) → ∃ s1, ab_X17_turnBytes_18 fu (B + 639) (nI i) s = some ((), s1) ∧ (∀ j, j < m → vt_A s1 1500 (B + 640) j = zI (sg8 (w j))) ∧ vt_I s1 = vt_I s ∧ vt_A s1 1805 = vt_A s 1805 := by
  intro d
  induction d with
  | zero =>
    intro i fu s h1 h2 h3 h4 h5 h6
    obtain ⟨fu, rfl⟩ : ∃ q, fu = q + 1 := ⟨fu - 1, by omega⟩
    show ∃ s1, ab_X17_turnBytes_18b _ (B + 639) (nI i) s = _ ∧ _
    simp only [ab_X17_turnBytes_18b, sv_let]
    rw [h4, if_pos (nI_le (by omega) (by omega))]
    exact ⟨s, rfl, fun j hj => h6 j (by omega), rfl, rfl⟩
  | succ d ih =>
    intro i fu s h1 h2 h3 h4 h5 h6
    obtain ⟨fu, rfl⟩ : ∃ q, fu = q + 1 := ⟨fu - 1, by omega⟩
    show ∃ s1, ab_X17_turnBytes_18b _ (B + 639) (nI i) s = _ ∧ _
    simp only [ab_X17_turnBytes_18b, sv_let]
    have L1 := h3.L1805
    have L2 := h3.L1500
    rw [h4, if_neg (nI_ge (by omega) (by omega)), h3.P1801, vl_I_ok (by omega) (by omega), Option.bind_some, h5 i (by omega), sg8_by8, by8_nI (hw1 i (by omega)), nar_byte, sg8_sg8, vs_I_ok (by omega) (by omega), Option.bind_some, nI_1]
    obtain ⟨s1, e1, e2, e3, e4⟩ := ih (i + 1) fu (vu_A s 1500 (B + 640) i (zI (sg8 (w i)))) (by omega) (by omega) (h3.of rfl rfl) h4 (fun j hj => by rw [A_ne (by omega)]; exact h5 j hj) (fun j hj => by
      rw [A_at]
      by_cases e : j = i
      · rw [if_pos e, e]
      · rw [if_neg e]; exact h6 j (by omega))
    exact ⟨s1, e1, e2, e3, by rw [e4]; funext b; rw [A_ne (by omega)]⟩
theorem r_turn (hr : rS B s) (hi : rIn B s g n) (ho : rOut B s w m) : ∃ s1, ab_X17_turnBytes (B + 639) s = some ((), s1) ∧ rIn B s1 w m ∧ rOut B s1 w m := by
  obtain ⟨o1, o2, o3⟩ := ho
  obtain ⟨s1, e1, e2, e3, e4⟩ := r_turn_loop (B := B) (w := w) (m := m) (fun i hi => (o3 i hi).2) o2 m 0 sv_fuel (vu_I (vu_I s 1800 (B + 639) 0) 1501 (B + 640) (nI m)) (by omega) (fuel_ge (by omega)) (hr.of rfl rfl) (by rw [I_ne (by omega), I_ne (by omega)]; exact o1) (fun j hj => (o3 j hj).1) (fun j hj => by omega)
  refine ⟨s1, ?_, ⟨by rw [e3, I_at], o2, fun i q => ⟨e2 i q, (o3 i q).2⟩⟩, by rw [e3, I_ne (by omega), I_ne (by omega)]; exact o1, o2, fun i q => ?_⟩
  · simp only [ab_X17_turnBytes, sv_let]
    rw [show vt_P (vu_I s 1800 (B + 639) 0) 1801 (B + 639) = B + 640 from hr.P1801, show vt_I (vu_I s 1800 (B + 639) 0) 1806 (B + 639) = nI m by rw [I_ne (by omega)]; exact o1]
    exact e1
  · rw [e4]; exact o3 i q
end BY
