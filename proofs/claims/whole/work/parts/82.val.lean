-- THE VALUES' LEVEL: an array belongs to a field of an object. No kinds, no array's address is left.
def vt_tb : List (Nat × Nat × Nat) := [(100, 1, 901), (200, 1, 901), (201, 1, 901), (202, 2, 902), (203, 2, 902), (204, 2, 902), (205, 2, 902), (300, 4, 1), (301, 4, 8), (302, 1, 901), (303, 1, 901), (304, 1, 901), (305, 1, 901), (306, 1, 901), (307, 3, 917), (308, 3, 922), (400, 1, 901), (401, 1, 903), (402, 2, 902), (403, 2, 902), (404, 2, 902), (405, 2, 902), (500, 4, 1), (600, 4, 8), (601, 1, 901), (900, 4, 2), (901, 1, 901), (902, 1, 901), (903, 1, 901), (904, 1, 901), (905, 1, 901), (906, 1, 901), (907, 1, 901), (908, 1, 901), (909, 1, 903), (1000, 4, 4), (1001, 1, 901), (1002, 1, 901), (1003, 1, 901), (1100, 4, 4), (1101, 4, 3), (1211, 1, 901), (1300, 4, 1), (1301, 4, 1), (1302, 4, 5), (1303, 4, 9), (1304, 4, 11), (1305, 4, 10), (1306, 4, 3), (1307, 4, 3), (1308, 4, 6), (1309, 4, 6), (1401, 1, 901), (1402, 1, 901), (1403, 1, 901), (1404, 1, 901), (1405, 1, 901), (1406, 1, 903), (1408, 1, 901), (1409, 1, 901), (1410, 1, 901), (1411, 1, 901), (1412, 1, 901), (1413, 1, 901), (1414, 1, 901), (1500, 1, 904), (1502, 1, 904), (1600, 1, 901), (1601, 1, 901), (1602, 1, 901), (1603, 1, 901), (1604, 1, 903), (1606, 1, 901), (1608, 1, 901), (1610, 1, 901), (1611, 1, 901), (1612, 1, 901), (1613, 1, 901), (1614, 1, 903), (1700, 1, 903), (1701, 1, 901), (1702, 1, 901), (1703, 1, 901), (1704, 1, 901), (1706, 1, 901), (1707, 2, 902), (1708, 2, 902), (1709, 2, 902), (1710, 2, 902), (1712, 1, 901), (1713, 1, 901), (1714, 1, 901), (1715, 1, 901), (1716, 1, 901), (1718, 1, 901), (1719, 1, 901), (1720, 1, 901), (1721, 1, 901), (1722, 1, 901), (1723, 1, 901), (1724, 1, 901), (1801, 4, 15), (1802, 4, 16), (1803, 4, 14), (1804, 4, 17), (1805, 1, 901), (1820, 1, 901), (1822, 1, 901), (1824, 1, 901), (1825, 1, 901), (1826, 1, 901)]
/-- a field's type (1 ints, 2 longs, 3 array of references, 4 reference, 0 a number) and the kind of what it holds -/
def vt_tk (f : Nat) : Nat × Nat := match vt_tb.find? (fun q => q.1 == f) with
  | some q => q.2
  | none => (0, 0)
theorem tk_100 : vt_tk 100 = (1, 901) := by decide +kernel
theorem tk_200 : vt_tk 200 = (1, 901) := by decide +kernel
theorem tk_201 : vt_tk 201 = (1, 901) := by decide +kernel
theorem tk_202 : vt_tk 202 = (2, 902) := by decide +kernel
theorem tk_203 : vt_tk 203 = (2, 902) := by decide +kernel
theorem tk_204 : vt_tk 204 = (2, 902) := by decide +kernel
theorem tk_205 : vt_tk 205 = (2, 902) := by decide +kernel
theorem tk_300 : vt_tk 300 = (4, 1) := by decide +kernel
theorem tk_301 : vt_tk 301 = (4, 8) := by decide +kernel
theorem tk_302 : vt_tk 302 = (1, 901) := by decide +kernel
theorem tk_303 : vt_tk 303 = (1, 901) := by decide +kernel
theorem tk_304 : vt_tk 304 = (1, 901) := by decide +kernel
theorem tk_305 : vt_tk 305 = (1, 901) := by decide +kernel
theorem tk_306 : vt_tk 306 = (1, 901) := by decide +kernel
theorem tk_307 : vt_tk 307 = (3, 917) := by decide +kernel
theorem tk_308 : vt_tk 308 = (3, 922) := by decide +kernel
theorem tk_400 : vt_tk 400 = (1, 901) := by decide +kernel
theorem tk_401 : vt_tk 401 = (1, 903) := by decide +kernel
theorem tk_402 : vt_tk 402 = (2, 902) := by decide +kernel
theorem tk_403 : vt_tk 403 = (2, 902) := by decide +kernel
theorem tk_404 : vt_tk 404 = (2, 902) := by decide +kernel
theorem tk_405 : vt_tk 405 = (2, 902) := by decide +kernel
theorem tk_500 : vt_tk 500 = (4, 1) := by decide +kernel
theorem tk_600 : vt_tk 600 = (4, 8) := by decide +kernel
theorem tk_601 : vt_tk 601 = (1, 901) := by decide +kernel
theorem tk_900 : vt_tk 900 = (4, 2) := by decide +kernel
theorem tk_901 : vt_tk 901 = (1, 901) := by decide +kernel
theorem tk_902 : vt_tk 902 = (1, 901) := by decide +kernel
theorem tk_903 : vt_tk 903 = (1, 901) := by decide +kernel
theorem tk_904 : vt_tk 904 = (1, 901) := by decide +kernel
theorem tk_905 : vt_tk 905 = (1, 901) := by decide +kernel
theorem tk_906 : vt_tk 906 = (1, 901) := by decide +kernel
theorem tk_907 : vt_tk 907 = (1, 901) := by decide +kernel
theorem tk_908 : vt_tk 908 = (1, 901) := by decide +kernel
theorem tk_909 : vt_tk 909 = (1, 903) := by decide +kernel
theorem tk_1000 : vt_tk 1000 = (4, 4) := by decide +kernel
theorem tk_1001 : vt_tk 1001 = (1, 901) := by decide +kernel
theorem tk_1002 : vt_tk 1002 = (1, 901) := by decide +kernel
theorem tk_1003 : vt_tk 1003 = (1, 901) := by decide +kernel
theorem tk_1100 : vt_tk 1100 = (4, 4) := by decide +kernel
theorem tk_1101 : vt_tk 1101 = (4, 3) := by decide +kernel
theorem tk_1211 : vt_tk 1211 = (1, 901) := by decide +kernel
theorem tk_1300 : vt_tk 1300 = (4, 1) := by decide +kernel
theorem tk_1301 : vt_tk 1301 = (4, 1) := by decide +kernel
theorem tk_1302 : vt_tk 1302 = (4, 5) := by decide +kernel
theorem tk_1303 : vt_tk 1303 = (4, 9) := by decide +kernel
theorem tk_1304 : vt_tk 1304 = (4, 11) := by decide +kernel
theorem tk_1305 : vt_tk 1305 = (4, 10) := by decide +kernel
theorem tk_1306 : vt_tk 1306 = (4, 3) := by decide +kernel
theorem tk_1307 : vt_tk 1307 = (4, 3) := by decide +kernel
theorem tk_1308 : vt_tk 1308 = (4, 6) := by decide +kernel
theorem tk_1309 : vt_tk 1309 = (4, 6) := by decide +kernel
theorem tk_1401 : vt_tk 1401 = (1, 901) := by decide +kernel
theorem tk_1402 : vt_tk 1402 = (1, 901) := by decide +kernel
theorem tk_1403 : vt_tk 1403 = (1, 901) := by decide +kernel
theorem tk_1404 : vt_tk 1404 = (1, 901) := by decide +kernel
theorem tk_1405 : vt_tk 1405 = (1, 901) := by decide +kernel
theorem tk_1406 : vt_tk 1406 = (1, 903) := by decide +kernel
theorem tk_1408 : vt_tk 1408 = (1, 901) := by decide +kernel
theorem tk_1409 : vt_tk 1409 = (1, 901) := by decide +kernel
theorem tk_1410 : vt_tk 1410 = (1, 901) := by decide +kernel
theorem tk_1411 : vt_tk 1411 = (1, 901) := by decide +kernel
theorem tk_1412 : vt_tk 1412 = (1, 901) := by decide +kernel
theorem tk_1413 : vt_tk 1413 = (1, 901) := by decide +kernel
theorem tk_1414 : vt_tk 1414 = (1, 901) := by decide +kernel
theorem tk_1500 : vt_tk 1500 = (1, 904) := by decide +kernel
theorem tk_1502 : vt_tk 1502 = (1, 904) := by decide +kernel
theorem tk_1600 : vt_tk 1600 = (1, 901) := by decide +kernel
theorem tk_1601 : vt_tk 1601 = (1, 901) := by decide +kernel
theorem tk_1602 : vt_tk 1602 = (1, 901) := by decide +kernel
theorem tk_1603 : vt_tk 1603 = (1, 901) := by decide +kernel
theorem tk_1604 : vt_tk 1604 = (1, 903) := by decide +kernel
theorem tk_1606 : vt_tk 1606 = (1, 901) := by decide +kernel
theorem tk_1608 : vt_tk 1608 = (1, 901) := by decide +kernel
theorem tk_1610 : vt_tk 1610 = (1, 901) := by decide +kernel
theorem tk_1611 : vt_tk 1611 = (1, 901) := by decide +kernel
theorem tk_1612 : vt_tk 1612 = (1, 901) := by decide +kernel
theorem tk_1613 : vt_tk 1613 = (1, 901) := by decide +kernel
theorem tk_1614 : vt_tk 1614 = (1, 903) := by decide +kernel
theorem tk_1700 : vt_tk 1700 = (1, 903) := by decide +kernel
theorem tk_1701 : vt_tk 1701 = (1, 901) := by decide +kernel
theorem tk_1702 : vt_tk 1702 = (1, 901) := by decide +kernel
theorem tk_1703 : vt_tk 1703 = (1, 901) := by decide +kernel
theorem tk_1704 : vt_tk 1704 = (1, 901) := by decide +kernel
theorem tk_1706 : vt_tk 1706 = (1, 901) := by decide +kernel
theorem tk_1707 : vt_tk 1707 = (2, 902) := by decide +kernel
theorem tk_1708 : vt_tk 1708 = (2, 902) := by decide +kernel
theorem tk_1709 : vt_tk 1709 = (2, 902) := by decide +kernel
theorem tk_1710 : vt_tk 1710 = (2, 902) := by decide +kernel
theorem tk_1712 : vt_tk 1712 = (1, 901) := by decide +kernel
theorem tk_1713 : vt_tk 1713 = (1, 901) := by decide +kernel
theorem tk_1714 : vt_tk 1714 = (1, 901) := by decide +kernel
theorem tk_1715 : vt_tk 1715 = (1, 901) := by decide +kernel
theorem tk_1716 : vt_tk 1716 = (1, 901) := by decide +kernel
theorem tk_1718 : vt_tk 1718 = (1, 901) := by decide +kernel
theorem tk_1719 : vt_tk 1719 = (1, 901) := by decide +kernel
theorem tk_1720 : vt_tk 1720 = (1, 901) := by decide +kernel
theorem tk_1721 : vt_tk 1721 = (1, 901) := by decide +kernel
theorem tk_1722 : vt_tk 1722 = (1, 901) := by decide +kernel
theorem tk_1723 : vt_tk 1723 = (1, 901) := by decide +kernel
theorem tk_1724 : vt_tk 1724 = (1, 901) := by decide +kernel
theorem tk_1801 : vt_tk 1801 = (4, 15) := by decide +kernel
theorem tk_1802 : vt_tk 1802 = (4, 16) := by decide +kernel
theorem tk_1803 : vt_tk 1803 = (4, 14) := by decide +kernel
theorem tk_1804 : vt_tk 1804 = (4, 17) := by decide +kernel
theorem tk_1805 : vt_tk 1805 = (1, 901) := by decide +kernel
theorem tk_1820 : vt_tk 1820 = (1, 901) := by decide +kernel
theorem tk_1822 : vt_tk 1822 = (1, 901) := by decide +kernel
theorem tk_1824 : vt_tk 1824 = (1, 901) := by decide +kernel
theorem tk_1825 : vt_tk 1825 = (1, 901) := by decide +kernel
theorem tk_1826 : vt_tk 1826 = (1, 901) := by decide +kernel
theorem vt_tk_mem {f : Nat} (h : (vt_tk f).1 ≠ 0) : ∃ q ∈ vt_tb, q.1 = f ∧ q.2 = vt_tk f := by
  unfold vt_tk at h ⊢
  cases e : vt_tb.find? (fun q => q.1 == f) with
  | none => rw [e] at h; exact absurd rfl h
  | some q => exact ⟨q, List.mem_of_find?_eq_some e, by have := List.find?_some e; simpa using this, rfl⟩
theorem vt_tb_ok : ∀ q ∈ vt_tb, (q.1 / 100 < 900 ∧ q.1 / 100 ≠ 0) ∧ (q.2.1 = 4 → q.2.2 < 900 ∧ q.2.2 ≠ 0) ∧ (q.2.1 ≠ 4 → 900 < q.2.2) ∧ (q.2.1 = 1 → q.2.2 ≠ 902 ∧ q.2.2 < 910) ∧ (q.2.1 = 3 → q.2.2 = 917 ∨ q.2.2 = 922) ∧ (q.2.1 = 2 → q.2.2 = 902) ∧ (q.2.1 = 1 ∨ q.2.1 = 2 ∨ q.2.1 = 3 ∨ q.2.1 = 4) := by decide +kernel
theorem vt_ok {f y d : Nat} (h : vt_tk f = (y, d)) (hy : y ≠ 0) : (f / 100 < 900 ∧ f / 100 ≠ 0) ∧ (y = 4 → d < 900 ∧ d ≠ 0) ∧ (y ≠ 4 → 900 < d) ∧ (y = 1 → d ≠ 902 ∧ d < 910) ∧ (y = 3 → d = 917 ∨ d = 922) ∧ (y = 2 → d = 902) ∧ (y = 1 ∨ y = 2 ∨ y = 3 ∨ y = 4) := by
  obtain ⟨q, hq, e1, e2⟩ := vt_tk_mem (f := f) (by rw [h]; exact hy)
  have := vt_tb_ok q hq
  rw [e1, e2, h] at this
  exact this
/-- sizes; ints, longs and references of fields; elements of arrays of references; lengths; ints and longs of arrays, each by field, owner, place -/
abbrev vt_S : Type := Nat × Nat × (Nat → Nat → Int32) × (Nat → Nat → Int64) × (Nat → Nat → Nat) × (Nat → Nat → Nat → Nat) × (Nat → Nat → Nat) × (Nat → Nat → Nat → Int32) × (Nat → Nat → Nat → Int64)
def vt_z (s : vt_S) : Nat := s.1
def vt_l (s : vt_S) : Nat := s.2.1
def vt_I (s : vt_S) : Nat → Nat → Int32 := s.2.2.1
def vt_J (s : vt_S) : Nat → Nat → Int64 := s.2.2.2.1
def vt_P (s : vt_S) : Nat → Nat → Nat := s.2.2.2.2.1
def vt_E (s : vt_S) : Nat → Nat → Nat → Nat := s.2.2.2.2.2.1
def vt_L (s : vt_S) : Nat → Nat → Nat := s.2.2.2.2.2.2.1
def vt_A (s : vt_S) : Nat → Nat → Nat → Int32 := s.2.2.2.2.2.2.2.1
def vt_B (s : vt_S) : Nat → Nat → Nat → Int64 := s.2.2.2.2.2.2.2.2
def vu3 {α : Type} (F : Nat → Nat → Nat → α) (f a i : Nat) (v : α) : Nat → Nat → Nat → α := fun g b j => if g = f ∧ b = a ∧ j = i then v else F g b j
def vur {α : Type} (F : Nat → Nat → α) (f a : Nat) (v : α) : Nat → Nat → α := fun g b => if g = f ∧ b = a then v else F g b
def vu_I (s : vt_S) (f a : Nat) (v : Int32) : vt_S := (vt_z s, vt_l s, vur (vt_I s) f a v, vt_J s, vt_P s, vt_E s, vt_L s, vt_A s, vt_B s)
def vu_J (s : vt_S) (f a : Nat) (v : Int64) : vt_S := (vt_z s, vt_l s, vt_I s, vur (vt_J s) f a v, vt_P s, vt_E s, vt_L s, vt_A s, vt_B s)
def vu_P (s : vt_S) (f a v : Nat) : vt_S := (vt_z s, vt_l s, vt_I s, vt_J s, vur (vt_P s) f a v, vt_E s, vt_L s, vt_A s, vt_B s)
def vu_A (s : vt_S) (f a i : Nat) (v : Int32) : vt_S := (vt_z s, vt_l s, vt_I s, vt_J s, vt_P s, vt_E s, vt_L s, vu3 (vt_A s) f a i v, vt_B s)
def vu_B (s : vt_S) (f a i : Nat) (v : Int64) : vt_S := (vt_z s, vt_l s, vt_I s, vt_J s, vt_P s, vt_E s, vt_L s, vt_A s, vu3 (vt_B s) f a i v)
/-- the whole array of a field -/
def vu_W (s : vt_S) (f a : Nat) (g : Nat → Int32) : vt_S := (vt_z s, vt_l s, vt_I s, vt_J s, vt_P s, vt_E s, vt_L s, vur (vt_A s) f a g, vt_B s)
def vl_I (s : vt_S) (f a : Nat) (i : Int32) : Option Int32 := if ¬ (i < 0 ∨ vt_L s f a ≤ i.toNatClampNeg) then some (vt_A s f a i.toNatClampNeg) else none
def vl_J (s : vt_S) (f a : Nat) (i : Int32) : Option Int64 := if ¬ (i < 0 ∨ vt_L s f a ≤ i.toNatClampNeg) then some (vt_B s f a i.toNatClampNeg) else none
def vl_P (s : vt_S) (f a : Nat) (i : Int32) : Option Nat := if ¬ (i < 0 ∨ vt_L s f a ≤ i.toNatClampNeg) then some (vt_E s f a i.toNatClampNeg) else none
def vs_I (s : vt_S) (f a : Nat) (i v : Int32) : Option vt_S := if ¬ (i < 0 ∨ vt_L s f a ≤ i.toNatClampNeg) then some (vu_A s f a i.toNatClampNeg v) else none
def vs_J (s : vt_S) (f a : Nat) (i : Int32) (v : Int64) : Option vt_S := if ¬ (i < 0 ∨ vt_L s f a ≤ i.toNatClampNeg) then some (vu_B s f a i.toNatClampNeg v) else none
def vq_Z (s : vt_S) (f a : Nat) (v : Int32) : Option vt_S := if v = 0 ∨ v = 1 then some (vu_I s f a v) else none
def vt_rz (v : Int32) (s : vt_S) : Option (Int32 × vt_S) := if v = 0 ∨ v = 1 then some (v, s) else none
/-- the array of a field is copied into a new one of length n -/
def vg_I (s : vt_S) (f a : Nat) (n : Int32) : Option vt_S := if n = Int32.ofNat (vt_L s f a) then none else if ¬ n < 0 ∧ n ≤ 1048576 then some (vt_z s + 1, vt_l s + n.toNatClampNeg, vt_I s, vt_J s, vt_P s, vt_E s, vur (vt_L s) f a n.toNatClampNeg, vur (vt_A s) f a (va_cpy (vt_A s f a) (fun _ => 0) 0 0 (min (vt_L s f a) n.toNatClampNeg)), vt_B s) else none
def vg_J (s : vt_S) (f a : Nat) (n : Int32) : Option vt_S := if n = Int32.ofNat (vt_L s f a) then none else if ¬ n < 0 ∧ n ≤ 1048576 then some (vt_z s + 1, vt_l s + n.toNatClampNeg, vt_I s, vt_J s, vt_P s, vt_E s, vur (vt_L s) f a n.toNatClampNeg, vt_A s, vur (vt_B s) f a (va_cpy (vt_B s f a) (fun _ => 0) 0 0 (min (vt_L s f a) n.toNatClampNeg))) else none
/-- System.arraycopy -/
def vc_I (s : vt_S) (f a : Nat) (sp : Int32) (g b : Nat) (dp n : Int32) : Option vt_S := if ¬ sp < 0 ∧ ¬ dp < 0 ∧ ¬ n < 0 ∧ sp.toNatClampNeg + n.toNatClampNeg ≤ vt_L s f a ∧ dp.toNatClampNeg + n.toNatClampNeg ≤ vt_L s g b then some (vu_W s g b (va_cpy (vt_A s f a) (vt_A s g b) sp.toNatClampNeg dp.toNatClampNeg n.toNatClampNeg)) else none
/-- Arrays.fill -/
def vf_I (s : vt_S) (f a : Nat) (v : Int32) : vt_S := vu_W s f a (fun j => if j < vt_L s f a then v else vt_A s f a j)
def vt_b {α β : Type} (x : Option (α × vt_S)) (k : α → vt_S → Option β) : Option β := match x with
  | none => none
  | some q => k q.1 q.2
def vt_ab (h : sv_H) : vt_S := (sv_sz h, sv_sl h, sv_FI h, sv_FJ h, fun f a => if (vt_tk f).1 = 4 then sv_FP h f a else 0,
  fun f a j => if sv_K h a = f / 100 ∧ (vt_tk f).1 = 3 then sv_AP h (sv_FP h f a) j else 0,
  fun f a => if sv_K h a = f / 100 ∧ (vt_tk f).1 ≠ 0 ∧ (vt_tk f).1 ≠ 4 then sv_N h (sv_FP h f a) else 0,
  fun f a j => if sv_K h a = f / 100 ∧ (vt_tk f).1 = 1 then sv_AI h (sv_FP h f a) j else 0,
  fun f a j => if sv_K h a = f / 100 ∧ (vt_tk f).1 = 2 then sv_AJ h (sv_FP h f a) j else 0)
/-- kinds and pointers are as they should be; no two fields hold the same array -/
def vt_G (h : sv_H) : Prop :=
  sv_K h 0 = 0 ∧ (∀ a, sv_sz h ≤ a → sv_K h a = 0) ∧ (∀ f a y d, vt_tk f = (y, d) → y ≠ 0 → sv_K h a = f / 100 → sv_FP h f a ≠ 0 ∧ sv_K h (sv_FP h f a) = d) ∧
  (∀ f g a b, ((vt_tk f).1 ≠ 0 ∧ (vt_tk f).1 ≠ 4) → ((vt_tk g).1 ≠ 0 ∧ (vt_tk g).1 ≠ 4) → sv_K h a = f / 100 → sv_K h b = g / 100 → sv_FP h f a = sv_FP h g b → f = g ∧ a = b) ∧
  (∀ a j, (sv_K h a = 917 ∨ sv_K h a = 922) → j < sv_N h a → sv_AP h a j ≠ 0 ∧ sv_K h (sv_AP h a j) + 910 = sv_K h a) ∧ (∀ a, sv_N h a ≤ 1048576)
/-- the objects are the same ones -/
def vt_ko (h0 h : sv_H) : Prop := ∀ a c, c < 900 ∧ c ≠ 0 → (sv_K h a = c ↔ sv_K h0 a = c)
theorem vt_ko.refl (h : sv_H) : vt_ko h h := fun _ _ _ => Iff.rfl
theorem vt_ko.trans {a b c : sv_H} (h : vt_ko a b) (g : vt_ko b c) : vt_ko a c := fun x y z => (g x y z).trans (h x y z)
def vt_W (h0 h : sv_H) : Prop := vt_G h ∧ vt_ko h0 h
def vt_sm {α : Type} (h0 : sv_H) (x : Option (α × sv_H)) (y : Option (α × vt_S)) : Prop := ∀ r s, y = some (r, s) → ∃ hE, x = some (r, hE) ∧ vt_ab hE = s ∧ vt_G hE ∧ vt_ko h0 hE
theorem vt_W.k {h0 h : sv_H} {a c : Nat} (w : vt_W h0 h) (t : sv_K h0 a = c) (hc : c < 900 ∧ c ≠ 0) : sv_K h a = c := (w.2 a c hc).mpr t
theorem vt_W.same {h0 h h2 : sv_H} (w : vt_W h0 h) (s : sv_same h h2) (p : sv_FP h2 = sv_FP h) (q : sv_AP h2 = sv_AP h) : vt_W h0 h2 := by
  obtain ⟨s1, s2, s3, s4⟩ := s
  obtain ⟨⟨g1, g2, g3, g4, g5, g6⟩, k⟩ := w
  refine ⟨⟨?_, ?_, ?_, ?_, ?_, ?_⟩, ?_⟩
  · rw [s3]; exact g1
  · rw [s3, s1]; exact g2
  · rw [s3, p]; exact g3
  · rw [s3, p]; exact g4
  · rw [s3, s4, q]; exact g5
  · rw [s4]; exact g6
  · intro a c hc; rw [s3]; exact k a c hc
theorem sv_clT {h : sv_H} : sv_cl (fun _ => True) h := ⟨fun _ _ _ _ => trivial, fun _ _ _ _ => trivial⟩
section SM
variable {α β : Type} {h0 h : sv_H} {F : Nat → Nat → Nat}
theorem sm_no {x : Option (α × sv_H)} : vt_sm h0 x none := fun _ _ e => by cases e
theorem sm_rt {r : α} (w : vt_W h0 h) : vt_sm h0 (some (r, h)) (some (r, vt_ab h)) := fun _ _ e => by cases e; exact ⟨h, rfl, rfl, w.1, w.2⟩
theorem sm_if {c : Prop} [Decidable c] {x x2 : Option (α × sv_H)} {y y2 : Option (α × vt_S)} (hx : c → vt_sm h0 x y) (hy : ¬ c → vt_sm h0 x2 y2) : vt_sm h0 (if c then x else x2) (if c then y else y2) := by
  by_cases hc : c
  · rw [if_pos hc, if_pos hc]; exact hx hc
  · rw [if_neg hc, if_neg hc]; exact hy hc
theorem sm_rz {v : Int32} (w : vt_W h0 h) : vt_sm h0 (sv_rz v h) (vt_rz v (vt_ab h)) := sm_if (fun _ => sm_rt w) (fun _ => sm_no)
theorem sm_let {x : β} {k : β → Option (α × sv_H)} {k2 : β → Option (α × vt_S)} (kk : ∀ v, vt_sm h0 (k v) (k2 v)) : vt_sm h0 (sv_let x k) (sv_let x k2) := kk x
theorem sm_bd {x : Option β} {k : β → Option (α × sv_H)} {k2 : β → Option (α × vt_S)} (kk : ∀ v, vt_sm h0 (k v) (k2 v)) : vt_sm h0 (x.bind k) (x.bind k2) := by
  cases x with
  | none => exact sm_no
  | some v => exact kk v
theorem sm_kd {c a : Nat} {x : Option (α × sv_H)} {y : Option (α × vt_S)} (w : vt_W h0 h) (t : sv_K h0 a = c) (hc : c < 900 ∧ c ≠ 0) (hx : vt_sm h0 x y) : vt_sm h0 (sv_kd h c a x) y := by
  unfold sv_kd
  rw [if_pos (w.k t hc)]; exact hx
theorem sm_cl {x : Option (β × sv_H)} {y : Option (β × vt_S)} {k : β → sv_H → Option (α × sv_H)} {k2 : β → vt_S → Option (α × vt_S)} (w : vt_W h0 h) (hx : vt_sm h x y) (kk : ∀ r h2, x = some (r, h2) → vt_W h0 h2 → vt_sm h0 (k r h2) (k2 r (vt_ab h2))) : vt_sm h0 (sv_b x k) (vt_b y k2) := by
  cases y with
  | none => exact sm_no
  | some q =>
    obtain ⟨h2, e1, e2, e3, e4⟩ := hx q.1 q.2 rfl
    subst e1
    have := kk q.1 h2 rfl ⟨e3, w.2.trans e4⟩
    rw [e2] at this
    exact this
theorem sm_gI {c f a : Nat} {k : Int32 → Option (α × sv_H)} {k2 : Int32 → Option (α × vt_S)} (w : vt_W h0 h) (t : sv_K h0 a = c) (hc : c < 900 ∧ c ≠ 0) (kk : ∀ v, vt_sm h0 (k v) (k2 v)) : vt_sm h0 ((sv_gI h c f a).bind k) (sv_let (vt_I (vt_ab h) f a) k2) := by
  rw [sv_gI, if_pos (w.k t hc)]; exact kk _
theorem sm_gJ {c f a : Nat} {k : Int64 → Option (α × sv_H)} {k2 : Int64 → Option (α × vt_S)} (w : vt_W h0 h) (t : sv_K h0 a = c) (hc : c < 900 ∧ c ≠ 0) (kk : ∀ v, vt_sm h0 (k v) (k2 v)) : vt_sm h0 ((sv_gJ h c f a).bind k) (sv_let (vt_J (vt_ab h) f a) k2) := by
  rw [sv_gJ, if_pos (w.k t hc)]; exact kk _
theorem vt_P_ab {f a d : Nat} (tk : vt_tk f = (4, d)) : vt_P (vt_ab h) f a = sv_FP h f a := by
  show (if (vt_tk f).1 = 4 then sv_FP h f a else 0) = _
  rw [tk, if_pos rfl]
theorem sm_gP {f a d : Nat} {c : Nat} {k : Nat → Option (α × sv_H)} {k2 : Nat → Option (α × vt_S)} (w : vt_W h0 h) (t : sv_K h0 a = c) (tk : vt_tk f = (4, d)) (hf : f / 100 = c) (kk : ∀ v, sv_K h0 v = d → vt_sm h0 (k v) (k2 v)) : vt_sm h0 ((sv_gP h c f a).bind k) (sv_let (vt_P (vt_ab h) f a) k2) := by
  subst hf
  have o := vt_ok tk (by decide)
  have e := w.1.2.2.1 f a 4 d tk (by decide) (w.k t o.1)
  rw [sv_gP, if_pos ⟨w.k t o.1, e.1⟩, sv_let, vt_P_ab tk]
  exact kk _ ((w.2 _ d (o.2.1 rfl)).mp e.2)
theorem sm_gA {f a c y d : Nat} {k : Nat → Option (α × sv_H)} {z : Option (α × vt_S)} (w : vt_W h0 h) (hF : sv_FP h = F) (t : sv_K h0 a = c) (tk : vt_tk f = (y, d)) (hc : f / 100 = c ∧ y ≠ 0) (kk : ∀ v, F f a = v → vt_sm h0 (k v) z) : vt_sm h0 ((sv_gP h c f a).bind k) z := by
  obtain ⟨rfl, hy⟩ := hc
  have o := vt_ok tk hy
  have e := w.1.2.2.1 f a y d tk hy (w.k t o.1)
  rw [sv_gP, if_pos ⟨w.k t o.1, e.1⟩]
  exact kk _ (by rw [hF])
/-- what is known of an array that a field holds -/
theorem vt_arr {f a v y d : Nat} (w : vt_W h0 h) (hF : sv_FP h = F) (t : sv_K h0 a = f / 100) (av : F f a = v) (tk : vt_tk f = (y, d)) (hy : y ≠ 0 ∧ y ≠ 4) : sv_FP h f a = v ∧ sv_K h a = f / 100 ∧ sv_K h v = d ∧ vt_L (vt_ab h) f a = sv_N h v := by
  have o := vt_ok tk hy.1
  have k := w.k t o.1
  have e := w.1.2.2.1 f a y d tk hy.1 k
  have q : sv_FP h f a = v := by rw [hF]; exact av
  refine ⟨q, k, by rw [← q]; exact e.2, ?_⟩
  show (if sv_K h a = f / 100 ∧ (vt_tk f).1 ≠ 0 ∧ (vt_tk f).1 ≠ 4 then sv_N h (sv_FP h f a) else 0) = _
  rw [tk, if_pos ⟨k, hy.1, hy.2⟩, q]
theorem vt_A_ab {f a v d : Nat} (k : sv_K h a = f / 100) (q : sv_FP h f a = v) (tk : vt_tk f = (1, d)) : vt_A (vt_ab h) f a = sv_AI h v := by
  funext j
  show (if sv_K h a = f / 100 ∧ (vt_tk f).1 = 1 then sv_AI h (sv_FP h f a) j else 0) = _
  rw [tk, if_pos ⟨k, rfl⟩, q]
theorem vt_B_ab {f a v d : Nat} (k : sv_K h a = f / 100) (q : sv_FP h f a = v) (tk : vt_tk f = (2, d)) : vt_B (vt_ab h) f a = sv_AJ h v := by
  funext j
  show (if sv_K h a = f / 100 ∧ (vt_tk f).1 = 2 then sv_AJ h (sv_FP h f a) j else 0) = _
  rw [tk, if_pos ⟨k, rfl⟩, q]
theorem sm_ld {k : Int32 → Option (α × sv_H)} {k2 : Int32 → Option (α × vt_S)} {f a v d : Nat} {i : Int32} (w : vt_W h0 h) (hF : sv_FP h = F) (t : sv_K h0 a = f / 100) (av : F f a = v) (tk : vt_tk f = (1, d)) (kk : ∀ v, vt_sm h0 (k v) (k2 v)) : vt_sm h0 ((if sv_K h v = d ∧ ¬ (i < 0 ∨ sv_N h v ≤ i.toNatClampNeg) then some (sv_AI h v i.toNatClampNeg) else none).bind k) ((vl_I (vt_ab h) f a i).bind k2) := by
  obtain ⟨q, ka, kv, hl⟩ := vt_arr w hF t av tk (by decide)
  rw [vl_I, hl, vt_A_ab ka q tk]
  by_cases c : i < 0 ∨ sv_N h v ≤ i.toNatClampNeg
  · rw [if_neg (show ¬ ¬ (i < 0 ∨ sv_N h v ≤ i.toNatClampNeg) from fun z => z c)]; exact sm_no
  · rw [if_pos c, if_pos ⟨kv, c⟩]; exact kk _
theorem sm_lI {k : Int32 → Option (α × sv_H)} {k2 : Int32 → Option (α × vt_S)} {f a v : Nat} {i : Int32} (w : vt_W h0 h) (hF : sv_FP h = F) (t : sv_K h0 a = f / 100) (av : F f a = v) (tk : vt_tk f = (1, 901)) (kk : ∀ v, vt_sm h0 (k v) (k2 v)) : vt_sm h0 ((sv_lI h v i).bind k) ((vl_I (vt_ab h) f a i).bind k2) := sm_ld w hF t av tk kk
theorem sm_lZ {k : Int32 → Option (α × sv_H)} {k2 : Int32 → Option (α × vt_S)} {f a v : Nat} {i : Int32} (w : vt_W h0 h) (hF : sv_FP h = F) (t : sv_K h0 a = f / 100) (av : F f a = v) (tk : vt_tk f = (1, 903)) (kk : ∀ v, vt_sm h0 (k v) (k2 v)) : vt_sm h0 ((sv_lZ h v i).bind k) ((vl_I (vt_ab h) f a i).bind k2) := sm_ld w hF t av tk kk
theorem sm_lB {k : Int32 → Option (α × sv_H)} {k2 : Int32 → Option (α × vt_S)} {f a v : Nat} {i : Int32} (w : vt_W h0 h) (hF : sv_FP h = F) (t : sv_K h0 a = f / 100) (av : F f a = v) (tk : vt_tk f = (1, 904)) (kk : ∀ v, vt_sm h0 (k v) (k2 v)) : vt_sm h0 ((sv_lB h v i).bind k) ((vl_I (vt_ab h) f a i).bind k2) := sm_ld w hF t av tk kk
theorem sm_lJ {k : Int64 → Option (α × sv_H)} {k2 : Int64 → Option (α × vt_S)} {f a v : Nat} {i : Int32} (w : vt_W h0 h) (hF : sv_FP h = F) (t : sv_K h0 a = f / 100) (av : F f a = v) (tk : vt_tk f = (2, 902)) (kk : ∀ v, vt_sm h0 (k v) (k2 v)) : vt_sm h0 ((sv_lJ h v i).bind k) ((vl_J (vt_ab h) f a i).bind k2) := by
  obtain ⟨q, ka, kv, hl⟩ := vt_arr w hF t av tk (by decide)
  rw [vl_J, hl, vt_B_ab ka q tk, sv_lJ]
  by_cases c : i < 0 ∨ sv_N h v ≤ i.toNatClampNeg
  · rw [if_neg (show ¬ ¬ (i < 0 ∨ sv_N h v ≤ i.toNatClampNeg) from fun z => z c)]; exact sm_no
  · rw [if_pos c, if_pos ⟨kv, c⟩]; exact kk _
theorem sm_lP {k : Nat → Option (α × sv_H)} {k2 : Nat → Option (α × vt_S)} {f a v d c : Nat} {i : Int32} (w : vt_W h0 h) (hF : sv_FP h = F) (t : sv_K h0 a = f / 100) (av : F f a = v) (tk : vt_tk f = (3, d)) (hd : c + 910 = d ∧ c < 900 ∧ c ≠ 0) (kk : ∀ v, sv_K h0 v = c → vt_sm h0 (k v) (k2 v)) : vt_sm h0 ((sv_lP d h v i).bind k) ((vl_P (vt_ab h) f a i).bind k2) := by
  obtain ⟨q, ka, kv, hl⟩ := vt_arr w hF t av tk (by decide)
  have o := (vt_ok tk (by decide)).2.2.2.2.1 rfl
  have e : vt_E (vt_ab h) f a = sv_AP h v := by
    funext j
    show (if sv_K h a = f / 100 ∧ (vt_tk f).1 = 3 then sv_AP h (sv_FP h f a) j else 0) = _
    rw [tk, if_pos ⟨ka, rfl⟩, q]
  rw [vl_P, hl, e, sv_lP]
  by_cases c : i < 0 ∨ sv_N h v ≤ i.toNatClampNeg
  · rw [if_neg (show ¬ ¬ (i < 0 ∨ sv_N h v ≤ i.toNatClampNeg) from fun z => z c)]; exact sm_no
  · have g := w.1.2.2.2.2.1 v i.toNatClampNeg (by rw [kv]; exact o) (by omega)
    rw [if_pos c, if_pos ⟨kv, c, g.1⟩]
    refine kk _ ((w.2 _ _ hd.2).mp ?_)
    have := g.2
    omega
theorem sm_len {k : Int32 → Option (α × sv_H)} {k2 : Int32 → Option (α × vt_S)} {f a v y d : Nat} (w : vt_W h0 h) (hF : sv_FP h = F) (t : sv_K h0 a = f / 100) (av : F f a = v) (tk : vt_tk f = (y, d)) (hy : y ≠ 0 ∧ y ≠ 4) (kk : ∀ v, vt_sm h0 (k v) (k2 v)) : vt_sm h0 ((sv_len h d v).bind k) (sv_let (Int32.ofNat (vt_L (vt_ab h) f a)) k2) := by
  obtain ⟨q, ka, kv, hl⟩ := vt_arr w hF t av tk hy
  rw [hl, sv_len, if_pos kv]
  exact kk _
theorem sm_pI {c f a : Nat} {v : Int32} {k : sv_H → Option (α × sv_H)} {k2 : vt_S → Option (α × vt_S)} (w : vt_W h0 h) (hF : sv_FP h = F) (t : sv_K h0 a = c) (hc : c < 900 ∧ c ≠ 0) (kk : ∀ h2, vt_W h0 h2 → sv_FP h2 = F → vt_sm h0 (k h2) (k2 (vt_ab h2))) : vt_sm h0 ((sv_pI h c f a v).bind k) (sv_let (vu_I (vt_ab h) f a v) k2) := by
  rw [sv_pI, if_pos (w.k t hc)]
  exact kk (sv_uI h f a v) (w.same ⟨rfl, rfl, rfl, rfl⟩ rfl rfl) hF
theorem sm_pZ {c f a : Nat} {v : Int32} {k : sv_H → Option (α × sv_H)} {k2 : vt_S → Option (α × vt_S)} (w : vt_W h0 h) (hF : sv_FP h = F) (t : sv_K h0 a = c) (hc : c < 900 ∧ c ≠ 0) (kk : ∀ h2, vt_W h0 h2 → sv_FP h2 = F → vt_sm h0 (k h2) (k2 (vt_ab h2))) : vt_sm h0 ((sv_pZ h c f a v).bind k) ((vq_Z (vt_ab h) f a v).bind k2) := by
  rw [sv_pZ, vq_Z]
  by_cases z : v = 0 ∨ v = 1
  · rw [if_pos ⟨w.k t hc, z⟩, if_pos z]
    exact kk (sv_uI h f a v) (w.same ⟨rfl, rfl, rfl, rfl⟩ rfl rfl) hF
  · rw [if_neg z]; exact sm_no
theorem sm_pJ {c f a : Nat} {v : Int64} {k : sv_H → Option (α × sv_H)} {k2 : vt_S → Option (α × vt_S)} (w : vt_W h0 h) (hF : sv_FP h = F) (t : sv_K h0 a = c) (hc : c < 900 ∧ c ≠ 0) (kk : ∀ h2, vt_W h0 h2 → sv_FP h2 = F → vt_sm h0 (k h2) (k2 (vt_ab h2))) : vt_sm h0 ((sv_pJ h c f a v).bind k) (sv_let (vu_J (vt_ab h) f a v) k2) := by
  rw [sv_pJ, if_pos (w.k t hc)]
  exact kk (sv_uJ h f a v) (w.same ⟨rfl, rfl, rfl, rfl⟩ rfl rfl) hF
theorem ab_wI {f a v d i : Nat} {x : Int32} (w : vt_W h0 h) (q : sv_FP h f a = v) (ka : sv_K h a = f / 100) (tk : vt_tk f = (1, d)) : vt_ab (sv_wI h v i x) = vu_A (vt_ab h) f a i x := by
  refine Prod.ext rfl (Prod.ext rfl (Prod.ext rfl (Prod.ext rfl (Prod.ext rfl (Prod.ext rfl (Prod.ext rfl (Prod.ext ?_ rfl)))))))
  funext g b j
  show (if sv_K h b = g / 100 ∧ (vt_tk g).1 = 1 then (if sv_FP h g b = v ∧ j = i then x else sv_AI h (sv_FP h g b) j) else 0) = if g = f ∧ b = a ∧ j = i then x else (if sv_K h b = g / 100 ∧ (vt_tk g).1 = 1 then sv_AI h (sv_FP h g b) j else 0)
  by_cases c : g = f ∧ b = a ∧ j = i
  · obtain ⟨rfl, rfl, rfl⟩ := c
    rw [if_pos ⟨ka, by rw [tk]⟩, if_pos ⟨q, rfl⟩, if_pos ⟨rfl, rfl, rfl⟩]
  · rw [if_neg c]
    by_cases e : sv_K h b = g / 100 ∧ (vt_tk g).1 = 1
    · rw [if_pos e, if_pos e, if_neg]
      rintro ⟨z1, z2⟩
      obtain ⟨y1, y2⟩ := w.1.2.2.2.1 g f b a (by rw [e.2]; decide) (by rw [tk]; simp) e.1 ka (by rw [z1, q])
      exact c ⟨y1, y2, z2⟩
    · rw [if_neg e, if_neg e]
theorem ab_wJ {f a v d i : Nat} {x : Int64} (w : vt_W h0 h) (q : sv_FP h f a = v) (ka : sv_K h a = f / 100) (tk : vt_tk f = (2, d)) : vt_ab (sv_wJ h v i x) = vu_B (vt_ab h) f a i x := by
  refine Prod.ext rfl (Prod.ext rfl (Prod.ext rfl (Prod.ext rfl (Prod.ext rfl (Prod.ext rfl (Prod.ext rfl (Prod.ext rfl ?_)))))))
  funext g b j
  show (if sv_K h b = g / 100 ∧ (vt_tk g).1 = 2 then (if sv_FP h g b = v ∧ j = i then x else sv_AJ h (sv_FP h g b) j) else 0) = if g = f ∧ b = a ∧ j = i then x else (if sv_K h b = g / 100 ∧ (vt_tk g).1 = 2 then sv_AJ h (sv_FP h g b) j else 0)
  by_cases c : g = f ∧ b = a ∧ j = i
  · obtain ⟨rfl, rfl, rfl⟩ := c
    rw [if_pos ⟨ka, by rw [tk]⟩, if_pos ⟨q, rfl⟩, if_pos ⟨rfl, rfl, rfl⟩]
  · rw [if_neg c]
    by_cases e : sv_K h b = g / 100 ∧ (vt_tk g).1 = 2
    · rw [if_pos e, if_pos e, if_neg]
      rintro ⟨z1, z2⟩
      obtain ⟨y1, y2⟩ := w.1.2.2.2.1 g f b a (by rw [e.2]; decide) (by rw [tk]; simp) e.1 ka (by rw [z1, q])
      exact c ⟨y1, y2, z2⟩
    · rw [if_neg e, if_neg e]
theorem sm_st {k : sv_H → Option (α × sv_H)} {k2 : vt_S → Option (α × vt_S)} {f a v d : Nat} {i x : Int32} (w : vt_W h0 h) (hF : sv_FP h = F) (t : sv_K h0 a = f / 100) (av : F f a = v) (tk : vt_tk f = (1, d)) (kk : ∀ h2, vt_W h0 h2 → sv_FP h2 = F → vt_sm h0 (k h2) (k2 (vt_ab h2))) : vt_sm h0 ((if sv_K h v = d ∧ ¬ (i < 0 ∨ sv_N h v ≤ i.toNatClampNeg) then some (sv_wI h v i.toNatClampNeg x) else none).bind k) ((vs_I (vt_ab h) f a i x).bind k2) := by
  obtain ⟨q, ka, kv, hl⟩ := vt_arr w hF t av tk (by decide)
  rw [vs_I, hl]
  by_cases c : i < 0 ∨ sv_N h v ≤ i.toNatClampNeg
  · rw [if_neg (show ¬ ¬ (i < 0 ∨ sv_N h v ≤ i.toNatClampNeg) from fun z => z c)]; exact sm_no
  · rw [if_pos c, if_pos ⟨kv, c⟩, ← ab_wI w q ka tk]
    exact kk _ (w.same ⟨rfl, rfl, rfl, rfl⟩ rfl rfl) hF
theorem sm_sI {k : sv_H → Option (α × sv_H)} {k2 : vt_S → Option (α × vt_S)} {f a v : Nat} {i x : Int32} (w : vt_W h0 h) (hF : sv_FP h = F) (t : sv_K h0 a = f / 100) (av : F f a = v) (tk : vt_tk f = (1, 901)) (kk : ∀ h2, vt_W h0 h2 → sv_FP h2 = F → vt_sm h0 (k h2) (k2 (vt_ab h2))) : vt_sm h0 ((sv_sI h v i x).bind k) ((vs_I (vt_ab h) f a i x).bind k2) := sm_st w hF t av tk kk
theorem sm_sZ {k : sv_H → Option (α × sv_H)} {k2 : vt_S → Option (α × vt_S)} {f a v : Nat} {i x : Int32} (w : vt_W h0 h) (hF : sv_FP h = F) (t : sv_K h0 a = f / 100) (av : F f a = v) (tk : vt_tk f = (1, 903)) (kk : ∀ h2, vt_W h0 h2 → sv_FP h2 = F → vt_sm h0 (k h2) (k2 (vt_ab h2))) : vt_sm h0 ((sv_sZ h v i x).bind k) ((vs_I (vt_ab h) f a i (vp_nar .boolean x)).bind k2) := sm_st w hF t av tk kk
theorem sm_sB {k : sv_H → Option (α × sv_H)} {k2 : vt_S → Option (α × vt_S)} {f a v : Nat} {i x : Int32} (w : vt_W h0 h) (hF : sv_FP h = F) (t : sv_K h0 a = f / 100) (av : F f a = v) (tk : vt_tk f = (1, 904)) (kk : ∀ h2, vt_W h0 h2 → sv_FP h2 = F → vt_sm h0 (k h2) (k2 (vt_ab h2))) : vt_sm h0 ((sv_sB h v i x).bind k) ((vs_I (vt_ab h) f a i (vp_nar .byte x)).bind k2) := sm_st w hF t av tk kk
theorem sm_sJ {k : sv_H → Option (α × sv_H)} {k2 : vt_S → Option (α × vt_S)} {f a v : Nat} {i : Int32} {x : Int64} (w : vt_W h0 h) (hF : sv_FP h = F) (t : sv_K h0 a = f / 100) (av : F f a = v) (tk : vt_tk f = (2, 902)) (kk : ∀ h2, vt_W h0 h2 → sv_FP h2 = F → vt_sm h0 (k h2) (k2 (vt_ab h2))) : vt_sm h0 ((sv_sJ h v i x).bind k) ((vs_J (vt_ab h) f a i x).bind k2) := by
  obtain ⟨q, ka, kv, hl⟩ := vt_arr w hF t av tk (by decide)
  rw [vs_J, hl, sv_sJ]
  by_cases c : i < 0 ∨ sv_N h v ≤ i.toNatClampNeg
  · rw [if_neg (show ¬ ¬ (i < 0 ∨ sv_N h v ≤ i.toNatClampNeg) from fun z => z c)]; exact sm_no
  · rw [if_pos c, if_pos ⟨kv, c⟩, ← ab_wJ w q ka tk]
    exact kk _ (w.same ⟨rfl, rfl, rfl, rfl⟩ rfl rfl) hF
/-- a reference is put into a field -/
theorem sm_pP {f a v c d : Nat} {k : sv_H → Option (α × sv_H)} {k2 : vt_S → Option (α × vt_S)} (w : vt_W h0 h) (t : sv_K h0 a = c) (tv : sv_K h0 v = d) (tk : vt_tk f = (4, d)) (hf : f / 100 = c) (kk : ∀ h2, vt_W h0 h2 → vt_sm h0 (k h2) (k2 (vt_ab h2))) : vt_sm h0 ((sv_pP h c f a v).bind k) (sv_let (vu_P (vt_ab h) f a v) k2) := by
  subst hf
  have o := vt_ok tk (by decide)
  have ka := w.k t o.1
  have kv := w.k tv (o.2.1 rfl)
  have vn : v ≠ 0 := by
    rintro rfl
    rw [w.1.1] at kv
    exact (o.2.1 rfl).2 kv.symm
  obtain ⟨⟨g1, g2, g3, g4, g5, g6⟩, kk0⟩ := w
  rw [sv_pP, if_pos ⟨ka, vn⟩]
  have hFP : ∀ g b, (vt_tk g).1 ≠ 4 → sv_FP (sv_uP h f a v) g b = sv_FP h g b := by
    intro g b hg
    show (if g = f ∧ b = a then v else sv_FP h g b) = _
    rw [if_neg]
    rintro ⟨rfl, -⟩
    rw [tk] at hg
    exact hg rfl
  have w2 : vt_W h0 (sv_uP h f a v) := by
    refine ⟨⟨g1, g2, ?_, ?_, g5, g6⟩, kk0⟩
    · intro g b y e h1 h2 h3
      show (if g = f ∧ b = a then v else sv_FP h g b) ≠ 0 ∧ sv_K h (if g = f ∧ b = a then v else sv_FP h g b) = e
      by_cases z : g = f ∧ b = a
      · rw [if_pos z]
        rw [z.1, tk] at h1
        cases h1
        exact ⟨vn, kv⟩
      · rw [if_neg z]; exact g3 g b y e h1 h2 h3
    · intro f' g b b' h1 h2 h3 h4 h5
      rw [hFP f' b h1.2, hFP g b' h2.2] at h5
      exact g4 f' g b b' h1 h2 h3 h4 h5
  have e : vt_ab (sv_uP h f a v) = vu_P (vt_ab h) f a v := by
    refine Prod.ext rfl (Prod.ext rfl (Prod.ext rfl (Prod.ext rfl (Prod.ext ?_ (Prod.ext ?_ (Prod.ext ?_ (Prod.ext ?_ ?_)))))))
    · funext g b
      show (if (vt_tk g).1 = 4 then (if g = f ∧ b = a then v else sv_FP h g b) else 0) = if g = f ∧ b = a then v else (if (vt_tk g).1 = 4 then sv_FP h g b else 0)
      by_cases z : g = f ∧ b = a
      · rw [if_pos z, if_pos z, z.1, tk, if_pos rfl]
      · rw [if_neg z, if_neg z]
    · funext g b j
      show (if sv_K h b = g / 100 ∧ (vt_tk g).1 = 3 then sv_AP h (sv_FP (sv_uP h f a v) g b) j else 0) = (if sv_K h b = g / 100 ∧ (vt_tk g).1 = 3 then sv_AP h (sv_FP h g b) j else 0)
      by_cases z : sv_K h b = g / 100 ∧ (vt_tk g).1 = 3
      · rw [if_pos z, if_pos z, hFP g b (by rw [z.2]; decide)]
      · rw [if_neg z, if_neg z]
    · funext g b
      show (if sv_K h b = g / 100 ∧ (vt_tk g).1 ≠ 0 ∧ (vt_tk g).1 ≠ 4 then sv_N h (sv_FP (sv_uP h f a v) g b) else 0) = (if sv_K h b = g / 100 ∧ (vt_tk g).1 ≠ 0 ∧ (vt_tk g).1 ≠ 4 then sv_N h (sv_FP h g b) else 0)
      by_cases z : sv_K h b = g / 100 ∧ (vt_tk g).1 ≠ 0 ∧ (vt_tk g).1 ≠ 4
      · rw [if_pos z, if_pos z, hFP g b z.2.2]
      · rw [if_neg z, if_neg z]
    · funext g b j
      show (if sv_K h b = g / 100 ∧ (vt_tk g).1 = 1 then sv_AI h (sv_FP (sv_uP h f a v) g b) j else 0) = (if sv_K h b = g / 100 ∧ (vt_tk g).1 = 1 then sv_AI h (sv_FP h g b) j else 0)
      by_cases z : sv_K h b = g / 100 ∧ (vt_tk g).1 = 1
      · rw [if_pos z, if_pos z, hFP g b (by rw [z.2]; decide)]
      · rw [if_neg z, if_neg z]
    · funext g b j
      show (if sv_K h b = g / 100 ∧ (vt_tk g).1 = 2 then sv_AJ h (sv_FP (sv_uP h f a v) g b) j else 0) = (if sv_K h b = g / 100 ∧ (vt_tk g).1 = 2 then sv_AJ h (sv_FP h g b) j else 0)
      by_cases z : sv_K h b = g / 100 ∧ (vt_tk g).1 = 2
      · rw [if_pos z, if_pos z, hFP g b (by rw [z.2]; decide)]
      · rw [if_neg z, if_neg z]
  rw [sv_let, ← e]
  exact kk _ w2
end SM
section SM2
variable {α : Type} {h0 h : sv_H} {F : Nat → Nat → Nat}
/-- a whole array of ints -/
def sv_WI (h : sv_H) (v : Nat) (G : Nat → Int32) : sv_H := (sv_sz h, sv_sl h, sv_K h, sv_N h, sv_FI h, sv_FJ h, sv_FP h, fun x j => if x = v then G j else sv_AI h x j, sv_AJ h, sv_AP h)
theorem ab_W {f a v d : Nat} {G : Nat → Int32} (w : vt_W h0 h) (q : sv_FP h f a = v) (ka : sv_K h a = f / 100) (tk : vt_tk f = (1, d)) : vt_ab (sv_WI h v G) = vu_W (vt_ab h) f a G := by
  refine Prod.ext rfl (Prod.ext rfl (Prod.ext rfl (Prod.ext rfl (Prod.ext rfl (Prod.ext rfl (Prod.ext rfl (Prod.ext ?_ rfl)))))))
  funext g b
  show (fun j => if sv_K h b = g / 100 ∧ (vt_tk g).1 = 1 then (if sv_FP h g b = v then G j else sv_AI h (sv_FP h g b) j) else 0) = if g = f ∧ b = a then G else (fun j => if sv_K h b = g / 100 ∧ (vt_tk g).1 = 1 then sv_AI h (sv_FP h g b) j else 0)
  by_cases c : g = f ∧ b = a
  · obtain ⟨rfl, rfl⟩ := c
    rw [if_pos ⟨rfl, rfl⟩]
    funext j
    rw [if_pos ⟨ka, by rw [tk]⟩, if_pos q]
  · rw [if_neg c]
    funext j
    by_cases e : sv_K h b = g / 100 ∧ (vt_tk g).1 = 1
    · rw [if_pos e, if_pos e, if_neg]
      intro z1
      exact c (w.1.2.2.2.1 g f b a (by rw [e.2]; decide) (by rw [tk]; simp) e.1 ka (by rw [z1, q]))
    · rw [if_neg e, if_neg e]
theorem vt_W.W {v : Nat} {G : Nat → Int32} (w : vt_W h0 h) : vt_W h0 (sv_WI h v G) := w.same ⟨rfl, rfl, rfl, rfl⟩ rfl rfl
theorem sm_cp {k : sv_H → Option (α × sv_H)} {k2 : vt_S → Option (α × vt_S)} {f a v g b x : Nat} {sp dp n : Int32} (w : vt_W h0 h) (hF : sv_FP h = F) (t : sv_K h0 a = f / 100) (av : F f a = v) (tk : vt_tk f = (1, 901)) (t2 : sv_K h0 b = g / 100) (av2 : F g b = x) (tk2 : vt_tk g = (1, 901)) (kk : ∀ h2, vt_W h0 h2 → sv_FP h2 = F → vt_sm h0 (k h2) (k2 (vt_ab h2))) : vt_sm h0 ((sv_copy h 901 v sp x dp n).bind k) ((vc_I (vt_ab h) f a sp g b dp n).bind k2) := by
  obtain ⟨q, ka, kv, hl⟩ := vt_arr w hF t av tk (by decide)
  obtain ⟨q2, ka2, kv2, hl2⟩ := vt_arr w hF t2 av2 tk2 (by decide)
  rw [vc_I, hl, hl2, vt_A_ab ka q tk, vt_A_ab ka2 q2 tk2, sv_copy]
  by_cases c : ¬ sp < 0 ∧ ¬ dp < 0 ∧ ¬ n < 0 ∧ sp.toNatClampNeg + n.toNatClampNeg ≤ sv_N h v ∧ dp.toNatClampNeg + n.toNatClampNeg ≤ sv_N h x
  · rw [if_pos c, if_pos ⟨kv, kv2, c⟩, ← ab_W w q2 ka2 tk2]
    exact kk (sv_WI h x _) w.W hF
  · rw [if_neg c]; exact sm_no
theorem vt_fill (v : Nat) (x : Int32) (N : Nat) (hN : N ≤ 1048576) : ∀ (m fu i : Nat) (h : sv_H), i + m = N → m < fu → sv_K h v = 901 → sv_N h v = N → fn_J7_fill_53178_5 fu v x (nI i) (nI N) h = some ((), sv_WI h v (fun j => if i ≤ j ∧ j < N then x else sv_AI h v j)) := by
  intro m
  induction m with
  | zero =>
    intro fu i h h1 h2 h3 h4
    obtain ⟨fu, rfl⟩ : ∃ q, fu = q + 1 := ⟨fu - 1, by omega⟩
    have : i = N := by omega
    subst this
    show fn_J7_fill_53178_5b _ v x (nI i) (nI i) h = _
    unfold fn_J7_fill_53178_5b
    rw [if_pos (nI_le (Nat.le_refl i) (by omega))]
    congr 2
    refine Prod.ext rfl (Prod.ext rfl (Prod.ext rfl (Prod.ext rfl (Prod.ext rfl (Prod.ext rfl (Prod.ext rfl (Prod.ext ?_ rfl)))))))
    funext y j
    show sv_AI h y j = if y = v then (if i ≤ j ∧ j < i then x else sv_AI h v j) else sv_AI h y j
    by_cases c : y = v
    · rw [if_pos c, if_neg (by omega), c]
    · rw [if_neg c]
  | succ m ih =>
    intro fu i h h1 h2 h3 h4
    obtain ⟨fu, rfl⟩ : ∃ q, fu = q + 1 := ⟨fu - 1, by omega⟩
    show fn_J7_fill_53178_5b (fn_J7_fill_53178_5 fu) v x (nI i) (nI N) h = _
    unfold fn_J7_fill_53178_5b
    rw [if_neg (nI_ge (show i < N by omega) (by omega)), sv_sI, if_pos ⟨h3, by rw [h4]; exact nI_in (by omega) (by omega)⟩, nI_clamp (by omega), Option.bind_some, nI_1]
    rw [ih fu (i + 1) (sv_wI h v i x) (by omega) (by omega) h3 h4]
    congr 2
    refine Prod.ext rfl (Prod.ext rfl (Prod.ext rfl (Prod.ext rfl (Prod.ext rfl (Prod.ext rfl (Prod.ext rfl (Prod.ext ?_ rfl)))))))
    funext y j
    show (if y = v then (if i + 1 ≤ j ∧ j < N then x else (if v = v ∧ j = i then x else sv_AI h v j)) else (if y = v ∧ j = i then x else sv_AI h y j)) = if y = v then (if i ≤ j ∧ j < N then x else sv_AI h v j) else sv_AI h y j
    by_cases c : y = v
    · rw [if_pos c, if_pos c]
      by_cases e : j = i
      · rw [if_neg (by omega), if_pos ⟨rfl, e⟩, if_pos (by omega)]
      · by_cases e2 : i + 1 ≤ j ∧ j < N
        · rw [if_pos e2, if_pos (by omega)]
        · rw [if_neg e2, if_neg (fun z => e z.2), if_neg (by omega)]
    · rw [if_neg c, if_neg c, if_neg (fun z => c z.1)]
theorem sm_fl {k : Unit → sv_H → Option (α × sv_H)} {k2 : vt_S → Option (α × vt_S)} {f a v : Nat} {x : Int32} (w : vt_W h0 h) (hF : sv_FP h = F) (t : sv_K h0 a = f / 100) (av : F f a = v) (tk : vt_tk f = (1, 901)) (kk : ∀ h2, vt_W h0 h2 → sv_FP h2 = F → vt_sm h0 (k () h2) (k2 (vt_ab h2))) : vt_sm h0 (sv_b (fn_J7_fill_53178 v x h) k) (sv_let (vf_I (vt_ab h) f a x) k2) := by
  obtain ⟨q, ka, kv, hl⟩ := vt_arr w hF t av tk (by decide)
  have hN := w.1.2.2.2.2.2 v
  have e : fn_J7_fill_53178 v x h = some ((), sv_WI h v (fun j => if j < sv_N h v then x else sv_AI h v j)) := by
    unfold fn_J7_fill_53178
    rw [sv_len, if_pos kv]
    show fn_J7_fill_53178_5 sv_fuel v x (nI 0) (nI (sv_N h v)) h = _
    rw [vt_fill v x (sv_N h v) hN (sv_N h v) sv_fuel 0 h (by omega) (by show _ < 1000000000; omega) kv rfl]
    congr 3
    funext j
    by_cases c : j < sv_N h v
    · rw [if_pos ⟨Nat.zero_le _, c⟩, if_pos c]
    · rw [if_neg (fun z => c z.2), if_neg c]
  rw [e, vf_I, hl, vt_A_ab ka q tk]
  show vt_sm h0 (k () _) (k2 _)
  rw [← ab_W w q ka tk]
  exact kk _ w.W hF
theorem vt_min {N : Nat} {n : Int32} (hN : N ≤ 1048576) (h1 : ¬ n < 0) : (sv_min (Int32.ofNat N) n).toNatClampNeg = min N n.toNatClampNeg ∧ ¬ sv_min (Int32.ofNat N) n < 0 := by
  obtain ⟨m, hm, rfl⟩ := nI_of h1
  have hN2 : N < 2 ^ 31 := Nat.lt_of_le_of_lt hN (by decide)
  have e : Int32.ofNat N = nI N := rfl
  rw [e]
  unfold sv_min
  by_cases c : m < N
  · rw [if_pos ((nI_ltI hm hN2).mpr c), nI_clamp hm, Nat.min_eq_right (Nat.le_of_lt c)]
    exact ⟨rfl, nI_pos hm⟩
  · rw [if_neg (fun z => c ((nI_ltI hm hN2).mp z)), nI_clamp hN2, nI_clamp hm, Nat.min_eq_left (Nat.le_of_not_lt c)]
    exact ⟨rfl, nI_pos hN2⟩
theorem vt_gd {f : Nat} {T : Prop} {x : Nat} (hT : T → (vt_tk f).1 ≠ 0) (hx : 900 < x) : ¬ (x = f / 100 ∧ T) := by
  rintro ⟨e, z⟩
  have o := vt_ok (f := f) (y := (vt_tk f).1) (d := (vt_tk f).2) rfl (hT z)
  omega
theorem sm_grI {k : sv_H → Option (α × sv_H)} {k2 : vt_S → Option (α × vt_S)} {f a v c : Nat} {n : Int32} (w : vt_W h0 h) (hF : sv_FP h = F) (t : sv_K h0 a = f / 100) (av : F f a = v) (tk : vt_tk f = (1, 901)) (hc : f / 100 = c) (kk : ∀ h2, vt_W h0 h2 → vt_sm h0 (k h2) (k2 (vt_ab h2))) : vt_sm h0 (sv_b (fn_J7_copyOf_59c91 v n h) fun r h8 => (sv_pP h8 c f a r).bind k) ((vg_I (vt_ab h) f a n).bind k2) := by
  subst hc
  obtain ⟨q, ka, kv, hl⟩ := vt_arr w hF t av tk (by decide)
  have o := (vt_ok tk (by decide)).1
  obtain ⟨⟨g1, g2, g3, g4, g5, g6⟩, kk0⟩ := w
  rw [vg_I, hl]
  by_cases c1 : n = Int32.ofNat (sv_N h v)
  · rw [if_pos c1]; exact sm_no
  rw [if_neg c1]
  by_cases c2 : ¬ n < 0 ∧ n ≤ 1048576
  · rw [if_pos c2]
    have hlt : ∀ x, sv_K h x ≠ 0 → x < sv_sz h := fun x hx => Nat.lt_of_not_le (fun z => hx (g2 x z))
    have hne : ∀ x, sv_K h x ≠ 0 → x ≠ sv_sz h := fun x hx => Nat.ne_of_lt (hlt x hx)
    have kz : sv_K h (sv_sz h) = 0 := g2 _ (Nat.le_refl _)
    have vz : v ≠ sv_sz h := hne v (by rw [kv]; decide)
    have az : a ≠ sv_sz h := hne a (by rw [ka]; exact o.2)
    have zz : sv_sz h ≠ 0 := fun e => Nat.not_lt_zero _ (e ▸ hlt v (by rw [kv]; decide))
    obtain ⟨m1, m2⟩ := vt_min (n := n) (g6 v) c2.1
    have hm : n.toNatClampNeg ≤ 1048576 := by
      obtain ⟨m, hm, rfl⟩ := nI_of c2.1
      rw [nI_clamp hm]
      exact (nI_leI (b := 1048576) hm (by omega)).mp c2.2
    generalize hM : n.toNatClampNeg = M at hm m1
    generalize hR : (sv_min (Int32.ofNat (sv_N h v)) n).toNatClampNeg = R at m1
    have e1 : fn_J7_copyOf_59c91 v n h = some (sv_sz h, sv_cp (sv_ma h 901 M) 901 v 0 (sv_sz h) 0 R) := by
      unfold fn_J7_copyOf_59c91
      rw [sv_len, if_pos kv, Option.bind_some, if_neg c1, sv_na, if_pos c2, hM, sv_len]
      have k3 : sv_K (sv_ma h 901 M) v = 901 := (va_up_ne _ _ vz).trans kv
      have n3 : sv_N (sv_ma h 901 M) v = sv_N h v := va_up_ne _ _ vz
      have k4 : sv_K (sv_ma h 901 M) (sv_sz h) = 901 := va_up_self _ _ _
      have n4 : sv_N (sv_ma h 901 M) (sv_sz h) = M := va_up_self _ _ _
      rw [if_pos k3, n3, Option.bind_some, sv_let, sv_copy, if_pos ⟨k3, k4, by decide, by decide, m2, by rw [hR, n3]; show 0 + R ≤ _; omega, by rw [hR, n4]; show 0 + R ≤ _; omega⟩, hR, Option.bind_some]
      rfl
    rw [e1]
    show vt_sm h0 ((sv_pP _ _ f a (sv_sz h)).bind k) _
    have k5 : sv_K (sv_cp (sv_ma h 901 M) 901 v 0 (sv_sz h) 0 R) a = f / 100 := (va_up_ne _ _ az).trans ka
    rw [sv_pP, if_pos ⟨k5, zz⟩]
    have K9 : ∀ x, sv_K (sv_uP (sv_cp (sv_ma h 901 M) 901 v 0 (sv_sz h) 0 R) f a (sv_sz h)) x = if x = sv_sz h then 901 else sv_K h x := fun x => rfl
    have N9 : ∀ x, sv_N (sv_uP (sv_cp (sv_ma h 901 M) 901 v 0 (sv_sz h) 0 R) f a (sv_sz h)) x = if x = sv_sz h then M else sv_N h x := fun x => rfl
    have P9 : ∀ g b, sv_FP (sv_uP (sv_cp (sv_ma h 901 M) 901 v 0 (sv_sz h) 0 R) f a (sv_sz h)) g b = if g = f ∧ b = a then sv_sz h else sv_FP h g b := fun g b => rfl
    have A9 : ∀ x, x ≠ sv_sz h → sv_AI (sv_uP (sv_cp (sv_ma h 901 M) 901 v 0 (sv_sz h) 0 R) f a (sv_sz h)) x = sv_AI h x := by
      intro x hx; funext j
      show (if x = sv_sz h then va_cpy _ _ 0 0 R j else (if x = sv_sz h then 0 else sv_AI h x j)) = _
      rw [if_neg hx, if_neg hx]
    have B9 : ∀ x, x ≠ sv_sz h → sv_AJ (sv_uP (sv_cp (sv_ma h 901 M) 901 v 0 (sv_sz h) 0 R) f a (sv_sz h)) x = sv_AJ h x := by
      intro x hx; funext j
      show (if x = sv_sz h then 0 else sv_AJ h x j) = _
      rw [if_neg hx]
    have E9 : ∀ x, x ≠ sv_sz h → sv_AP (sv_uP (sv_cp (sv_ma h 901 M) 901 v 0 (sv_sz h) 0 R) f a (sv_sz h)) x = sv_AP h x := by
      intro x hx; funext j
      show (if x = sv_sz h then 0 else sv_AP h x j) = _
      rw [if_neg hx]
    have C9 : sv_AI (sv_uP (sv_cp (sv_ma h 901 M) 901 v 0 (sv_sz h) 0 R) f a (sv_sz h)) (sv_sz h) = va_cpy (sv_AI h v) (fun _ => 0) 0 0 R := by
      funext j
      show (if sv_sz h = sv_sz h then va_cpy (fun j => if v = sv_sz h then 0 else sv_AI h v j) (fun j => if sv_sz h = sv_sz h then 0 else sv_AI h (sv_sz h) j) 0 0 R j else _) = _
      rw [if_pos rfl]
      unfold va_cpy
      simp only [if_neg vz, if_true]
    have S9 : sv_sz (sv_uP (sv_cp (sv_ma h 901 M) 901 v 0 (sv_sz h) 0 R) f a (sv_sz h)) = sv_sz h + 1 := rfl
    have L9 : sv_sl (sv_uP (sv_cp (sv_ma h 901 M) 901 v 0 (sv_sz h) 0 R) f a (sv_sz h)) = sv_sl h + M := rfl
    have I9 : sv_FI (sv_uP (sv_cp (sv_ma h 901 M) 901 v 0 (sv_sz h) 0 R) f a (sv_sz h)) = sv_FI h := rfl
    have J9 : sv_FJ (sv_uP (sv_cp (sv_ma h 901 M) 901 v 0 (sv_sz h) 0 R) f a (sv_sz h)) = sv_FJ h := rfl
    show vt_sm h0 (k (sv_uP (sv_cp (sv_ma h 901 M) 901 v 0 (sv_sz h) 0 R) f a (sv_sz h))) _
    generalize sv_uP (sv_cp (sv_ma h 901 M) 901 v 0 (sv_sz h) 0 R) f a (sv_sz h) = h9 at *
    have kb : ∀ (b g : Nat) (T : Prop), (T → (vt_tk g).1 ≠ 0) → ((sv_K h9 b = g / 100 ∧ T) ↔ (sv_K h b = g / 100 ∧ T)) := by
      intro b g T hT
      rw [K9]
      by_cases c : b = sv_sz h
      · rw [if_pos c]
        constructor
        · intro z; exact absurd z (vt_gd hT (by decide))
        · rintro ⟨z1, z2⟩
          have o9 := (vt_ok (f := g) (y := (vt_tk g).1) (d := (vt_tk g).2) rfl (hT z2)).1
          rw [c, kz] at z1
          exact absurd z1.symm o9.2
      · rw [if_neg c]
    have pn : ∀ (g b : Nat), (vt_tk g).1 ≠ 0 → sv_K h b = g / 100 → sv_FP h g b ≠ sv_sz h := by
      intro g b z1 z2
      have e := g3 g b (vt_tk g).1 (vt_tk g).2 rfl z1 z2
      have o9 := vt_ok (f := g) (y := (vt_tk g).1) (d := (vt_tk g).2) rfl z1
      refine hne _ ?_
      rw [e.2]
      by_cases c : (vt_tk g).1 = 4
      · exact (o9.2.1 c).2
      · have := o9.2.2.1 c; omega
    have w9 : vt_W h0 h9 := by
      refine ⟨⟨?_, ?_, ?_, ?_, ?_, ?_⟩, ?_⟩
      · rw [K9, if_neg (fun e => zz e.symm)]; exact g1
      · intro x hx
        rw [S9] at hx
        rw [K9, if_neg (by omega)]
        exact g2 x (by omega)
      · intro g b y d h1 h2 h3
        have h1' : (vt_tk g).1 ≠ 0 := by rw [h1]; exact h2
        have h3' := ((kb b g True (fun _ => h1')).mp ⟨h3, trivial⟩).1
        rw [P9]
        by_cases z : g = f ∧ b = a
        · rw [if_pos z, K9, if_pos rfl]
          rw [z.1, tk] at h1
          cases h1
          exact ⟨zz, rfl⟩
        · rw [if_neg z, K9, if_neg (pn g b h1' h3')]
          exact g3 g b y d h1 h2 h3'
      · intro g g' b b' h1 h2 h3 h4 h5
        have h3' := ((kb b g True (fun _ => h1.1)).mp ⟨h3, trivial⟩).1
        have h4' := ((kb b' g' True (fun _ => h2.1)).mp ⟨h4, trivial⟩).1
        rw [P9, P9] at h5
        by_cases z : g = f ∧ b = a
        · by_cases z' : g' = f ∧ b' = a
          · exact ⟨z.1.trans z'.1.symm, z.2.trans z'.2.symm⟩
          · rw [if_pos z, if_neg z'] at h5
            exact absurd h5.symm (pn g' b' h2.1 h4')
        · by_cases z' : g' = f ∧ b' = a
          · rw [if_neg z, if_pos z'] at h5
            exact absurd h5 (pn g b h1.1 h3')
          · rw [if_neg z, if_neg z'] at h5
            exact g4 g g' b b' h1 h2 h3' h4' h5
      · intro x j h1 h2
        have hx : x ≠ sv_sz h := by
          rintro rfl
          rw [K9, if_pos rfl] at h1
          omega
        rw [K9, if_neg hx] at h1
        rw [N9, if_neg hx] at h2
        have e := g5 x j h1 h2
        rw [E9 x hx, K9 x, if_neg hx, K9, if_neg (hne _ (by omega))]
        exact e
      · intro x
        rw [N9]
        by_cases c : x = sv_sz h
        · rw [if_pos c]; exact hm
        · rw [if_neg c]; exact g6 x
      · intro x c hc
        rw [← kk0 x c hc, K9]
        by_cases e : x = sv_sz h
        · rw [if_pos e, e, kz]
          constructor <;> intro z <;> omega
        · rw [if_neg e]
    have e9 : vt_ab h9 = (vt_z (vt_ab h) + 1, vt_l (vt_ab h) + M, vt_I (vt_ab h), vt_J (vt_ab h), vt_P (vt_ab h), vt_E (vt_ab h), vur (vt_L (vt_ab h)) f a M, vur (vt_A (vt_ab h)) f a (va_cpy (sv_AI h v) (fun _ => 0) 0 0 R), vt_B (vt_ab h)) := by
      refine Prod.ext S9 (Prod.ext L9 (Prod.ext I9 (Prod.ext J9 (Prod.ext ?_ (Prod.ext ?_ (Prod.ext ?_ (Prod.ext ?_ ?_)))))))
      · funext g b
        show (if (vt_tk g).1 = 4 then sv_FP h9 g b else 0) = if (vt_tk g).1 = 4 then sv_FP h g b else 0
        by_cases z : (vt_tk g).1 = 4
        · rw [if_pos z, if_pos z, P9, if_neg]
          rintro ⟨rfl, -⟩
          rw [tk] at z
          cases z
        · rw [if_neg z, if_neg z]
      · funext g b j
        show (if sv_K h9 b = g / 100 ∧ (vt_tk g).1 = 3 then sv_AP h9 (sv_FP h9 g b) j else 0) = (if sv_K h b = g / 100 ∧ (vt_tk g).1 = 3 then sv_AP h (sv_FP h g b) j else 0)
        by_cases z : sv_K h b = g / 100 ∧ (vt_tk g).1 = 3
        · rw [if_pos z, if_pos ((kb b g _ (fun e => by rw [e]; decide)).mpr z), P9, if_neg (fun e => by rw [e.1, tk] at z; exact absurd z.2 (by decide)), E9 _ (pn g b (by rw [z.2]; decide) z.1)]
        · rw [if_neg z, if_neg (fun e => z ((kb b g _ (fun e => by rw [e]; decide)).mp e))]
      · funext g b
        show (if sv_K h9 b = g / 100 ∧ (vt_tk g).1 ≠ 0 ∧ (vt_tk g).1 ≠ 4 then sv_N h9 (sv_FP h9 g b) else 0) = if g = f ∧ b = a then M else (if sv_K h b = g / 100 ∧ (vt_tk g).1 ≠ 0 ∧ (vt_tk g).1 ≠ 4 then sv_N h (sv_FP h g b) else 0)
        by_cases c : g = f ∧ b = a
        · rw [if_pos c, if_pos ((kb b g _ (fun e => e.1)).mpr ⟨by rw [c.1, c.2]; exact ka, by rw [c.1, tk]; simp⟩), P9, if_pos c, N9, if_pos rfl]
        · rw [if_neg c]
          by_cases z : sv_K h b = g / 100 ∧ (vt_tk g).1 ≠ 0 ∧ (vt_tk g).1 ≠ 4
          · rw [if_pos z, if_pos ((kb b g _ (fun e => e.1)).mpr z), P9, if_neg c, N9, if_neg (pn g b z.2.1 z.1)]
          · rw [if_neg z, if_neg (fun e => z ((kb b g _ (fun e => e.1)).mp e))]
      · funext g b
        show (fun j => if sv_K h9 b = g / 100 ∧ (vt_tk g).1 = 1 then sv_AI h9 (sv_FP h9 g b) j else 0) = if g = f ∧ b = a then va_cpy (sv_AI h v) (fun _ => 0) 0 0 R else (fun j => if sv_K h b = g / 100 ∧ (vt_tk g).1 = 1 then sv_AI h (sv_FP h g b) j else 0)
        by_cases c : g = f ∧ b = a
        · rw [if_pos c]
          funext j
          rw [if_pos ((kb b g _ (fun e => by rw [e]; decide)).mpr ⟨by rw [c.1, c.2]; exact ka, by rw [c.1, tk]⟩), P9, if_pos c, C9]
        · rw [if_neg c]
          funext j
          by_cases z : sv_K h b = g / 100 ∧ (vt_tk g).1 = 1
          · rw [if_pos z, if_pos ((kb b g _ (fun e => by rw [e]; decide)).mpr z), P9, if_neg c, A9 _ (pn g b (by rw [z.2]; decide) z.1)]
          · rw [if_neg z, if_neg (fun e => z ((kb b g _ (fun e => by rw [e]; decide)).mp e))]
      · funext g b j
        show (if sv_K h9 b = g / 100 ∧ (vt_tk g).1 = 2 then sv_AJ h9 (sv_FP h9 g b) j else 0) = (if sv_K h b = g / 100 ∧ (vt_tk g).1 = 2 then sv_AJ h (sv_FP h g b) j else 0)
        by_cases z : sv_K h b = g / 100 ∧ (vt_tk g).1 = 2
        · rw [if_pos z, if_pos ((kb b g _ (fun e => by rw [e]; decide)).mpr z), P9, if_neg (fun e => by rw [e.1, tk] at z; exact absurd z.2 (by decide)), B9 _ (pn g b (by rw [z.2]; decide) z.1)]
        · rw [if_neg z, if_neg (fun e => z ((kb b g _ (fun e => by rw [e]; decide)).mp e))]
    rw [Option.bind_some, ← m1]
    rw [← vt_A_ab ka q tk] at e9
    rw [← e9]
    exact kk h9 w9
  · rw [if_neg c2]; exact sm_no
theorem sm_grJ {k : sv_H → Option (α × sv_H)} {k2 : vt_S → Option (α × vt_S)} {f a v c : Nat} {n : Int32} (w : vt_W h0 h) (hF : sv_FP h = F) (t : sv_K h0 a = f / 100) (av : F f a = v) (tk : vt_tk f = (2, 902)) (hc : f / 100 = c) (kk : ∀ h2, vt_W h0 h2 → vt_sm h0 (k h2) (k2 (vt_ab h2))) : vt_sm h0 (sv_b (fn_J7_copyOf_c38d5 v n h) fun r h8 => (sv_pP h8 c f a r).bind k) ((vg_J (vt_ab h) f a n).bind k2) := by
  subst hc
  obtain ⟨q, ka, kv, hl⟩ := vt_arr w hF t av tk (by decide)
  have o := (vt_ok tk (by decide)).1
  obtain ⟨⟨g1, g2, g3, g4, g5, g6⟩, kk0⟩ := w
  rw [vg_J, hl]
  by_cases c1 : n = Int32.ofNat (sv_N h v)
  · rw [if_pos c1]; exact sm_no
  rw [if_neg c1]
  by_cases c2 : ¬ n < 0 ∧ n ≤ 1048576
  · rw [if_pos c2]
    have hlt : ∀ x, sv_K h x ≠ 0 → x < sv_sz h := fun x hx => Nat.lt_of_not_le (fun z => hx (g2 x z))
    have hne : ∀ x, sv_K h x ≠ 0 → x ≠ sv_sz h := fun x hx => Nat.ne_of_lt (hlt x hx)
    have kz : sv_K h (sv_sz h) = 0 := g2 _ (Nat.le_refl _)
    have vz : v ≠ sv_sz h := hne v (by rw [kv]; decide)
    have az : a ≠ sv_sz h := hne a (by rw [ka]; exact o.2)
    have zz : sv_sz h ≠ 0 := fun e => Nat.not_lt_zero _ (e ▸ hlt v (by rw [kv]; decide))
    obtain ⟨m1, m2⟩ := vt_min (n := n) (g6 v) c2.1
    have hm : n.toNatClampNeg ≤ 1048576 := by
      obtain ⟨m, hm, rfl⟩ := nI_of c2.1
      rw [nI_clamp hm]
      exact (nI_leI (b := 1048576) hm (by omega)).mp c2.2
    generalize hM : n.toNatClampNeg = M at hm m1
    generalize hR : (sv_min (Int32.ofNat (sv_N h v)) n).toNatClampNeg = R at m1
    have e1 : fn_J7_copyOf_c38d5 v n h = some (sv_sz h, sv_cp (sv_ma h 902 M) 902 v 0 (sv_sz h) 0 R) := by
      unfold fn_J7_copyOf_c38d5
      rw [sv_len, if_pos kv, Option.bind_some, if_neg c1, sv_na, if_pos c2, hM, sv_len]
      have k3 : sv_K (sv_ma h 902 M) v = 902 := (va_up_ne _ _ vz).trans kv
      have n3 : sv_N (sv_ma h 902 M) v = sv_N h v := va_up_ne _ _ vz
      have k4 : sv_K (sv_ma h 902 M) (sv_sz h) = 902 := va_up_self _ _ _
      have n4 : sv_N (sv_ma h 902 M) (sv_sz h) = M := va_up_self _ _ _
      rw [if_pos k3, n3, Option.bind_some, sv_let, sv_copy, if_pos ⟨k3, k4, by decide, by decide, m2, by rw [hR, n3]; show 0 + R ≤ _; omega, by rw [hR, n4]; show 0 + R ≤ _; omega⟩, hR, Option.bind_some]
      rfl
    rw [e1]
    show vt_sm h0 ((sv_pP _ _ f a (sv_sz h)).bind k) _
    have k5 : sv_K (sv_cp (sv_ma h 902 M) 902 v 0 (sv_sz h) 0 R) a = f / 100 := (va_up_ne _ _ az).trans ka
    rw [sv_pP, if_pos ⟨k5, zz⟩]
    have K9 : ∀ x, sv_K (sv_uP (sv_cp (sv_ma h 902 M) 902 v 0 (sv_sz h) 0 R) f a (sv_sz h)) x = if x = sv_sz h then 902 else sv_K h x := fun x => rfl
    have N9 : ∀ x, sv_N (sv_uP (sv_cp (sv_ma h 902 M) 902 v 0 (sv_sz h) 0 R) f a (sv_sz h)) x = if x = sv_sz h then M else sv_N h x := fun x => rfl
    have P9 : ∀ g b, sv_FP (sv_uP (sv_cp (sv_ma h 902 M) 902 v 0 (sv_sz h) 0 R) f a (sv_sz h)) g b = if g = f ∧ b = a then sv_sz h else sv_FP h g b := fun g b => rfl
    have A9 : ∀ x, x ≠ sv_sz h → sv_AI (sv_uP (sv_cp (sv_ma h 902 M) 902 v 0 (sv_sz h) 0 R) f a (sv_sz h)) x = sv_AI h x := by
      intro x hx; funext j
      show (if x = sv_sz h then 0 else sv_AI h x j) = _
      rw [if_neg hx]
    have B9 : ∀ x, x ≠ sv_sz h → sv_AJ (sv_uP (sv_cp (sv_ma h 902 M) 902 v 0 (sv_sz h) 0 R) f a (sv_sz h)) x = sv_AJ h x := by
      intro x hx; funext j
      show (if x = sv_sz h then va_cpy _ _ 0 0 R j else (if x = sv_sz h then 0 else sv_AJ h x j)) = _
      rw [if_neg hx, if_neg hx]
    have E9 : ∀ x, x ≠ sv_sz h → sv_AP (sv_uP (sv_cp (sv_ma h 902 M) 902 v 0 (sv_sz h) 0 R) f a (sv_sz h)) x = sv_AP h x := by
      intro x hx; funext j
      show (if x = sv_sz h then 0 else sv_AP h x j) = _
      rw [if_neg hx]
    have C9 : sv_AJ (sv_uP (sv_cp (sv_ma h 902 M) 902 v 0 (sv_sz h) 0 R) f a (sv_sz h)) (sv_sz h) = va_cpy (sv_AJ h v) (fun _ => 0) 0 0 R := by
      funext j
      show (if sv_sz h = sv_sz h then va_cpy (fun j => if v = sv_sz h then 0 else sv_AJ h v j) (fun j => if sv_sz h = sv_sz h then 0 else sv_AJ h (sv_sz h) j) 0 0 R j else _) = _
      rw [if_pos rfl]
      unfold va_cpy
      simp only [if_neg vz, if_true]
    have S9 : sv_sz (sv_uP (sv_cp (sv_ma h 902 M) 902 v 0 (sv_sz h) 0 R) f a (sv_sz h)) = sv_sz h + 1 := rfl
    have L9 : sv_sl (sv_uP (sv_cp (sv_ma h 902 M) 902 v 0 (sv_sz h) 0 R) f a (sv_sz h)) = sv_sl h + M := rfl
    have I9 : sv_FI (sv_uP (sv_cp (sv_ma h 902 M) 902 v 0 (sv_sz h) 0 R) f a (sv_sz h)) = sv_FI h := rfl
    have J9 : sv_FJ (sv_uP (sv_cp (sv_ma h 902 M) 902 v 0 (sv_sz h) 0 R) f a (sv_sz h)) = sv_FJ h := rfl
    show vt_sm h0 (k (sv_uP (sv_cp (sv_ma h 902 M) 902 v 0 (sv_sz h) 0 R) f a (sv_sz h))) _
    generalize sv_uP (sv_cp (sv_ma h 902 M) 902 v 0 (sv_sz h) 0 R) f a (sv_sz h) = h9 at *
    have kb : ∀ (b g : Nat) (T : Prop), (T → (vt_tk g).1 ≠ 0) → ((sv_K h9 b = g / 100 ∧ T) ↔ (sv_K h b = g / 100 ∧ T)) := by
      intro b g T hT
      rw [K9]
      by_cases c : b = sv_sz h
      · rw [if_pos c]
        constructor
        · intro z; exact absurd z (vt_gd hT (by decide))
        · rintro ⟨z1, z2⟩
          have o9 := (vt_ok (f := g) (y := (vt_tk g).1) (d := (vt_tk g).2) rfl (hT z2)).1
          rw [c, kz] at z1
          exact absurd z1.symm o9.2
      · rw [if_neg c]
    have pn : ∀ (g b : Nat), (vt_tk g).1 ≠ 0 → sv_K h b = g / 100 → sv_FP h g b ≠ sv_sz h := by
      intro g b z1 z2
      have e := g3 g b (vt_tk g).1 (vt_tk g).2 rfl z1 z2
      have o9 := vt_ok (f := g) (y := (vt_tk g).1) (d := (vt_tk g).2) rfl z1
      refine hne _ ?_
      rw [e.2]
      by_cases c : (vt_tk g).1 = 4
      · exact (o9.2.1 c).2
      · have := o9.2.2.1 c; omega
    have w9 : vt_W h0 h9 := by
      refine ⟨⟨?_, ?_, ?_, ?_, ?_, ?_⟩, ?_⟩
      · rw [K9, if_neg (fun e => zz e.symm)]; exact g1
      · intro x hx
        rw [S9] at hx
        rw [K9, if_neg (by omega)]
        exact g2 x (by omega)
      · intro g b y d h1 h2 h3
        have h1' : (vt_tk g).1 ≠ 0 := by rw [h1]; exact h2
        have h3' := ((kb b g True (fun _ => h1')).mp ⟨h3, trivial⟩).1
        rw [P9]
        by_cases z : g = f ∧ b = a
        · rw [if_pos z, K9, if_pos rfl]
          rw [z.1, tk] at h1
          cases h1
          exact ⟨zz, rfl⟩
        · rw [if_neg z, K9, if_neg (pn g b h1' h3')]
          exact g3 g b y d h1 h2 h3'
      · intro g g' b b' h1 h2 h3 h4 h5
        have h3' := ((kb b g True (fun _ => h1.1)).mp ⟨h3, trivial⟩).1
        have h4' := ((kb b' g' True (fun _ => h2.1)).mp ⟨h4, trivial⟩).1
        rw [P9, P9] at h5
        by_cases z : g = f ∧ b = a
        · by_cases z' : g' = f ∧ b' = a
          · exact ⟨z.1.trans z'.1.symm, z.2.trans z'.2.symm⟩
          · rw [if_pos z, if_neg z'] at h5
            exact absurd h5.symm (pn g' b' h2.1 h4')
        · by_cases z' : g' = f ∧ b' = a
          · rw [if_neg z, if_pos z'] at h5
            exact absurd h5 (pn g b h1.1 h3')
          · rw [if_neg z, if_neg z'] at h5
            exact g4 g g' b b' h1 h2 h3' h4' h5
      · intro x j h1 h2
        have hx : x ≠ sv_sz h := by
          rintro rfl
          rw [K9, if_pos rfl] at h1
          omega
        rw [K9, if_neg hx] at h1
        rw [N9, if_neg hx] at h2
        have e := g5 x j h1 h2
        rw [E9 x hx, K9 x, if_neg hx, K9, if_neg (hne _ (by omega))]
        exact e
      · intro x
        rw [N9]
        by_cases c : x = sv_sz h
        · rw [if_pos c]; exact hm
        · rw [if_neg c]; exact g6 x
      · intro x c hc
        rw [← kk0 x c hc, K9]
        by_cases e : x = sv_sz h
        · rw [if_pos e, e, kz]
          constructor <;> intro z <;> omega
        · rw [if_neg e]
    have e9 : vt_ab h9 = (vt_z (vt_ab h) + 1, vt_l (vt_ab h) + M, vt_I (vt_ab h), vt_J (vt_ab h), vt_P (vt_ab h), vt_E (vt_ab h), vur (vt_L (vt_ab h)) f a M, vt_A (vt_ab h), vur (vt_B (vt_ab h)) f a (va_cpy (sv_AJ h v) (fun _ => 0) 0 0 R)) := by
      refine Prod.ext S9 (Prod.ext L9 (Prod.ext I9 (Prod.ext J9 (Prod.ext ?_ (Prod.ext ?_ (Prod.ext ?_ (Prod.ext ?_ ?_)))))))
      · funext g b
        show (if (vt_tk g).1 = 4 then sv_FP h9 g b else 0) = if (vt_tk g).1 = 4 then sv_FP h g b else 0
        by_cases z : (vt_tk g).1 = 4
        · rw [if_pos z, if_pos z, P9, if_neg]
          rintro ⟨rfl, -⟩
          rw [tk] at z
          cases z
        · rw [if_neg z, if_neg z]
      · funext g b j
        show (if sv_K h9 b = g / 100 ∧ (vt_tk g).1 = 3 then sv_AP h9 (sv_FP h9 g b) j else 0) = (if sv_K h b = g / 100 ∧ (vt_tk g).1 = 3 then sv_AP h (sv_FP h g b) j else 0)
        by_cases z : sv_K h b = g / 100 ∧ (vt_tk g).1 = 3
        · rw [if_pos z, if_pos ((kb b g _ (fun e => by rw [e]; decide)).mpr z), P9, if_neg (fun e => by rw [e.1, tk] at z; exact absurd z.2 (by decide)), E9 _ (pn g b (by rw [z.2]; decide) z.1)]
        · rw [if_neg z, if_neg (fun e => z ((kb b g _ (fun e => by rw [e]; decide)).mp e))]
      · funext g b
        show (if sv_K h9 b = g / 100 ∧ (vt_tk g).1 ≠ 0 ∧ (vt_tk g).1 ≠ 4 then sv_N h9 (sv_FP h9 g b) else 0) = if g = f ∧ b = a then M else (if sv_K h b = g / 100 ∧ (vt_tk g).1 ≠ 0 ∧ (vt_tk g).1 ≠ 4 then sv_N h (sv_FP h g b) else 0)
        by_cases c : g = f ∧ b = a
        · rw [if_pos c, if_pos ((kb b g _ (fun e => e.1)).mpr ⟨by rw [c.1, c.2]; exact ka, by rw [c.1, tk]; simp⟩), P9, if_pos c, N9, if_pos rfl]
        · rw [if_neg c]
          by_cases z : sv_K h b = g / 100 ∧ (vt_tk g).1 ≠ 0 ∧ (vt_tk g).1 ≠ 4
          · rw [if_pos z, if_pos ((kb b g _ (fun e => e.1)).mpr z), P9, if_neg c, N9, if_neg (pn g b z.2.1 z.1)]
          · rw [if_neg z, if_neg (fun e => z ((kb b g _ (fun e => e.1)).mp e))]
      · funext g b j
        show (if sv_K h9 b = g / 100 ∧ (vt_tk g).1 = 1 then sv_AI h9 (sv_FP h9 g b) j else 0) = (if sv_K h b = g / 100 ∧ (vt_tk g).1 = 1 then sv_AI h (sv_FP h g b) j else 0)
        by_cases z : sv_K h b = g / 100 ∧ (vt_tk g).1 = 1
        · rw [if_pos z, if_pos ((kb b g _ (fun e => by rw [e]; decide)).mpr z), P9, if_neg (fun e => by rw [e.1, tk] at z; exact absurd z.2 (by decide)), A9 _ (pn g b (by rw [z.2]; decide) z.1)]
        · rw [if_neg z, if_neg (fun e => z ((kb b g _ (fun e => by rw [e]; decide)).mp e))]
      · funext g b
        show (fun j => if sv_K h9 b = g / 100 ∧ (vt_tk g).1 = 2 then sv_AJ h9 (sv_FP h9 g b) j else 0) = if g = f ∧ b = a then va_cpy (sv_AJ h v) (fun _ => 0) 0 0 R else (fun j => if sv_K h b = g / 100 ∧ (vt_tk g).1 = 2 then sv_AJ h (sv_FP h g b) j else 0)
        by_cases c : g = f ∧ b = a
        · rw [if_pos c]
          funext j
          rw [if_pos ((kb b g _ (fun e => by rw [e]; decide)).mpr ⟨by rw [c.1, c.2]; exact ka, by rw [c.1, tk]⟩), P9, if_pos c, C9]
        · rw [if_neg c]
          funext j
          by_cases z : sv_K h b = g / 100 ∧ (vt_tk g).1 = 2
          · rw [if_pos z, if_pos ((kb b g _ (fun e => by rw [e]; decide)).mpr z), P9, if_neg c, B9 _ (pn g b (by rw [z.2]; decide) z.1)]
          · rw [if_neg z, if_neg (fun e => z ((kb b g _ (fun e => by rw [e]; decide)).mp e))]
    rw [Option.bind_some, ← m1]
    rw [← vt_B_ab ka q tk] at e9
    rw [← e9]
    exact kk h9 w9
  · rw [if_neg c2]; exact sm_no
end SM2
