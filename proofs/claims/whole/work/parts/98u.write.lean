-- A GROUP is written, both sides
theorem rwk.I {a : Nat} {s s1 : vt_S} (h : rwk a s s1) {f b : Nat} (hf : f ≠ 101) : vt_I s1 f b = vt_I s f b := by
  obtain ⟨v, e⟩ := h.1
  rw [e]; exact vur_ne _ _ (fun z => hf z.1)
theorem rwk.A {a : Nat} {s s1 : vt_S} (h : rwk a s s1) {f b : Nat} (hf : f ≠ 100) : vt_A s1 f b = vt_A s f b := by
  obtain ⟨v, e⟩ := h.2.2.2.2.2.1
  rw [e]; exact vur_ne _ _ (fun z => hf z.1)
theorem rwk.L {a : Nat} {s s1 : vt_S} (h : rwk a s s1) {f b : Nat} (hf : f ≠ 100) : vt_L s1 f b = vt_L s f b := by
  obtain ⟨v, e⟩ := h.2.2.2.2.2.2.1
  rw [e]; exact vur_ne _ _ (fun z => hf z.1)
theorem rwk.P {a : Nat} {s s1 : vt_S} (h : rwk a s s1) : vt_P s1 = vt_P s := h.2.2.1
theorem by8_zn {v : Int} (h1 : 0 ≤ v) (h2 : v < 256) : by8 (zI v) = v.toNat := by
  rw [zI_nI h1, by8_nI (by omega)]
theorem grp_len (i : IN) (t : Nat) : (grp i t).length ≤ 4 := by
  unfold grp
  cases whl i
  · exact (show 2 ≤ 4 by decide)
  · exact (show 4 ≤ 4 by decide)
section WR
variable {s : vt_S} {a B : Nat} {l : List Nat} {i : IN} {t : Nat}
theorem whl_f (h : whl i = false) : i.2.1 = 0 ∧ i.2.2.1 = 0 := by
  unfold whl at h
  rw [decide_eq_false_iff_not] at h
  omega
theorem whl_t (h : whl i = true) : i.2.1 ≠ 0 ∨ i.2.2.1 ≠ 0 := by
  unfold whl at h
  rwa [decide_eq_true_eq] at h
theorem hd_byte (h1 : t ≤ 63) (u w : Bool) : by8 (nI t + (if u then 64 else 0) + (if w then 128 else 0)) = t + (if u then 64 else 0) + (if w then 128 else 0) := by
  have e : nI t + (if u then (64 : Int32) else 0) + (if w then (128 : Int32) else 0) = nI (t + (if u then 64 else 0) + (if w then 128 else 0)) := by
    cases u <;> cases w
    · rw [if_neg (by decide), if_neg (by decide), if_neg (by decide), if_neg (by decide), Int32.add_zero, Int32.add_zero]; rfl
    · rw [if_neg (by decide), if_pos rfl, if_neg (by decide), if_pos rfl, Int32.add_zero, show (128 : Int32) = nI 128 from rfl, nI_add]
    · rw [if_pos rfl, if_neg (by decide), if_pos rfl, if_neg (by decide), Int32.add_zero, show (64 : Int32) = nI 64 from rfl, nI_add]
    · rw [if_pos rfl, if_pos rfl, if_pos rfl, if_pos rfl, show (64 : Int32) = nI 64 from rfl, show (128 : Int32) = nI 128 from rfl, nI_add, nI_add]
  rw [e, by8_nI (by cases u <;> cases w <;> simp only [if_true, if_false, Bool.false_eq_true] <;> omega)]
theorem c_group (hi : inOk i) (ht : t ≤ 63) (h : rowL s a l) (hl : l.length + 4 ≤ 8192) : ∃ s1, ab_X5_writeGroup a (zI (inN i)) (nI t) s = some ((), s1) ∧ rwk a s s1 ∧ rowL s1 a (l ++ grp i t) := by
  have hh := hi
  unfold inOk at hh
  have e47 : ∀ w : Bool, w = whl i → ∃ s1, ab_X5_writeGroup_47 a (zI (inN i)) (bI w) a (nI t + (if i.2.2.2 then 64 else 0)) (if w then 128 else 0) s = some ((), s1) ∧ rwk a s s1 ∧ rowL s1 a (l ++ grp i t) := by
    intro w hw
    obtain ⟨s1, a1, a2, a3⟩ := c_putL (nI t + (if i.2.2.2 then 64 else 0) + (if w then 128 else 0)) h (by omega)
    rw [hd_byte ht] at a3
    obtain ⟨s2, b1, b2, b3⟩ := c_putL (zI i.1 + 64) a3 (by rw [List.length_append]; show l.length + 1 < 8192; omega)
    rw [z_64, zI_add, by8_zn (by omega) (by omega), List.append_assoc] at b3
    unfold ab_X5_writeGroup_47 ab_X5_writeGroup_88
    rw [a1, vbs, c_aheadOf hi, vbs, b1, vbs]
    cases w
    · rw [if_pos (show bI false = 0 from rfl)]
      refine ⟨s2, rfl, a2.trans b2, ?_⟩
      unfold grp
      rw [← hw]
      exact b3
    · rw [if_neg (show ¬ bI true = 0 by decide)]
      have n2 : (l ++ ([t + (if i.2.2.2 then 64 else 0) + (if true then 128 else 0)] ++ [(i.1 + 64).toNat])).length = l.length + 2 := by rw [List.length_append]; rfl
      obtain ⟨s3, d1, d2, d3⟩ := c_putL (zI i.2.1 + 64) b3 (by rw [n2]; omega)
      rw [z_64, zI_add, by8_zn (by omega) (by omega), List.append_assoc] at d3
      obtain ⟨s4, f1, f2, f3⟩ := c_putL (zI i.2.2.1 + 16) d3 (by rw [List.length_append]; show l.length + 3 < 8192; omega)
      rw [z_16, zI_add, by8_zn (by omega) (by omega), List.append_assoc] at f3
      refine ⟨s4, ?_, ((a2.trans b2).trans d2).trans f2, ?_⟩
      · rw [c_asideOf hi, vbs, z_64, zI_add, show ab_X0_put a (zI (i.2.1 + 64)) s2 = some ((), s3) by rw [← zI_add]; exact d1, vbs, c_turnOf hi, vbs, f1, vbs]
      · unfold grp
        rw [← hw]
        exact f3
  have e19 : ∀ w : Bool, w = whl i → ∃ s1, ab_X5_writeGroup_19 a (zI (inN i)) (nI t) (bI w) s = some ((), s1) ∧ rwk a s s1 ∧ rowL s1 a (l ++ grp i t) := by
    intro w hw
    obtain ⟨s1, a1, a2⟩ := e47 w hw
    refine ⟨s1, ?_, a2⟩
    unfold ab_X5_writeGroup_19 ab_X5_writeGroup_35
    rw [c_usesOf hi, vbs, ← a1]
    cases i.2.2.2 <;> cases w <;> rfl
  have o1 : (zI i.2.1 = 0) ↔ i.2.1 = 0 := by
    rw [show (0 : Int32) = zI 0 from rfl, zI_eq (by omega) (by omega) (by omega) (by omega)]
  have o2 : (zI i.2.2.1 = 0) ↔ i.2.2.1 = 0 := by
    rw [show (0 : Int32) = zI 0 from rfl, zI_eq (by omega) (by omega) (by omega) (by omega)]
  unfold ab_X5_writeGroup ab_X5_writeGroup_14
  rw [c_asideOf hi, vbs]
  by_cases c1 : i.2.1 = 0
  · rw [if_pos (o1.mpr c1), c_turnOf hi, vbs]
    by_cases c2 : i.2.2.1 = 0
    · rw [if_pos (o2.mpr c2)]
      exact e19 false (by unfold whl; rw [decide_eq_false (by omega)])
    · rw [if_neg (fun z => c2 (o2.mp z))]
      exact e19 true (by unfold whl; rw [decide_eq_true (by omega)])
  · rw [if_neg (fun z => c1 (o1.mp z))]
    exact e19 true (by unfold whl; rw [decide_eq_true (by omega)])
end WR
