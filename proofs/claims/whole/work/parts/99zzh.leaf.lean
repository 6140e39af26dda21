-- TREE: leaves and nodes, asked of both
section LF
variable {g : Nat → Nat} {W B p : Nat} {s : vt_S}
def plB (x : Int) : Bool := decide (-32768 ≤ x) && decide (x ≤ 32767)
theorem r_isPlace {x : Int} (h1 : -2147483648 ≤ x) (h2 : x ≤ 2147483647) : ab_X16_isPlace (zI x) s = some (bI (plB x), s) := by
  unfold ab_X16_isPlace ab_X16_isPlace_18 ab_X16_isPlace_19 plB
  rw [show (-32768 : Int32) = zI (-32768) from rfl, show (32767 : Int32) = zI 32767 from rfl, ifc (zI_lt (by omega) (by omega) (by omega) (by omega)), ifc (zI_lt (by omega) (by omega) (by omega) (by omega))]
  by_cases c : x < -32768
  · rw [if_pos c, decide_eq_false (show ¬ -32768 ≤ x by omega)]; rfl
  · rw [if_neg c, decide_eq_true (show -32768 ≤ x by omega)]
    by_cases d : 32767 < x
    · rw [if_pos d, decide_eq_false (show ¬ x ≤ 32767 by omega)]; rfl
    · rw [if_neg d, decide_eq_true (show x ≤ 32767 by omega)]; rfl
theorem c_isPlace {x y : Int} (h1 : -2147483648 ≤ x) (h2 : x ≤ 2147483647) (h3 : -2147483648 ≤ y) (h4 : y ≤ 2147483647) : ab_X12_isPlace (zI x) (zI y) s = some (bI (plB x && plB y), s) := by
  unfold ab_X12_isPlace ab_X12_isPlace_32 ab_X12_isPlace_33 plB
  rw [show (-32768 : Int32) = zI (-32768) from rfl, show (32767 : Int32) = zI 32767 from rfl, ifc (zI_lt (by omega) (by omega) (by omega) (by omega)), ifc (zI_lt (by omega) (by omega) (by omega) (by omega)), ifc (zI_lt (by omega) (by omega) (by omega) (by omega)), ifc (zI_lt (by omega) (by omega) (by omega) (by omega))]
  by_cases c : x < -32768
  · rw [if_pos c, decide_eq_false (show ¬ -32768 ≤ x by omega)]; rfl
  rw [if_neg c, decide_eq_true (show -32768 ≤ x by omega)]
  by_cases d : 32767 < x
  · rw [if_pos d, decide_eq_false (show ¬ x ≤ 32767 by omega)]; rfl
  rw [if_neg d, decide_eq_true (show x ≤ 32767 by omega)]
  by_cases e : y < -32768
  · rw [if_pos e, decide_eq_false (show ¬ -32768 ≤ y by omega)]; rfl
  rw [if_neg e, decide_eq_true (show -32768 ≤ y by omega)]
  by_cases f : 32767 < y
  · rw [if_pos f, decide_eq_false (show ¬ y ≤ 32767 by omega)]; rfl
  · rw [if_neg f, decide_eq_true (show y ≤ 32767 by omega)]; rfl
theorem plB_t {x : Int} (h : plB x = true) : -32768 ≤ x ∧ x ≤ 32767 := by
  unfold plB at h
  simpa using h
theorem r_leaf_loop {x y : Int} (hB : phB g W) (hT : rTw B g W s) (hR : trR B g W s) (hx : -32768 ≤ x ∧ x ≤ 32767) (hy : -32768 ≤ y ∧ y ≤ 32767) : ∀ (k fu : Nat) (q : Int), k < fu → -9000 ≤ q → q < (trN g W).length → (q < 0 ∨ (trN g W).length ≤ q.toNat + k) → ab_X16_leaf_33 fu (B + 670) (zI x) (zI y) (zI q) s = some (zI (lfS g W x y k q), s) := by
  obtain ⟨n1, n2, n3⟩ := trN_bnd hB
  obtain ⟨h1, h2, h3⟩ := hR
  have L18 := hT.2.L1718
  have L19 := hT.2.L1719
  have L20 := hT.2.L1720
  intro k
  induction k with
  | zero =>
    intro fu q hf hq1 hq2 hq3
    obtain ⟨fu, rfl⟩ : ∃ r, fu = r + 1 := ⟨fu - 1, by omega⟩
    show ab_X16_leaf_33b _ (B + 670) (zI x) (zI y) (zI q) s = _
    unfold ab_X16_leaf_33b
    rw [show (0 : Int32) = zI 0 from rfl, ifc (zI_lt (by omega) (by omega) (by omega) (by omega)), if_pos (by omega), show (-1 : Int32) = zI (-1) from rfl, zI_sub]
    rfl
  | succ k ih =>
    intro fu q hf hq1 hq2 hq3
    obtain ⟨fu, rfl⟩ : ∃ r, fu = r + 1 := ⟨fu - 1, by omega⟩
    have e : lfS g W x y (k + 1) q = if q < 0 then -1 - q else lfS g W x y k (nxQ g W x y q) := rfl
    show ab_X16_leaf_33b _ (B + 670) (zI x) (zI y) (zI q) s = _
    unfold ab_X16_leaf_33b ab_X16_leaf_62 ab_X16_isLeft ab_X16_isLeft_24
    rw [show (0 : Int32) = zI 0 from rfl, ifc (zI_lt (by omega) (by omega) (by omega) (by omega)), e]
    by_cases c0 : q < 0
    · rw [if_pos c0, if_pos c0, show (-1 : Int32) = zI (-1) from rfl, zI_sub]
    · obtain ⟨i, rfl⟩ : ∃ i : Nat, q = (i : Int) := ⟨q.toNat, by omega⟩
      rw [Int.toNat_natCast] at hq3
      have hi : i < (trN g W).length := by omega
      obtain ⟨b1, b2, b3, b4⟩ := tr_bnd hB hi
      obtain ⟨m1, m2⟩ := nxQ_bnd (x := x) (y := y) hB hi
      have C := ndsR_at _ _ h3 i (by omega) (by omega)
      obtain ⟨c1, -, -, c4, c5⟩ := C
      have c1 : vt_A s 1718 (B + 670) i = nI (trD g W i).1 := c1
      have c4 : vt_A s 1719 (B + 670) i = zI (trD g W i).2.2.2.1 := c4
      have c5 : vt_A s 1720 (B + 670) i = zI (trD g W i).2.2.2.2 := c5
      have sr := sdL_rng g (trD g W i).1 hx hy
      have sd := rT_side (x := x) (y := y) hT.1 b1
      have nx : nxQ g W x y (i : Int) = if sdL g (trD g W i).1 x y ≤ 0 then (trD g W i).2.2.2.2 else (trD g W i).2.2.2.1 := by
        unfold nxQ
        rw [Int.toNat_natCast]
      rw [if_neg c0, if_neg c0, ← nI_z i, vl_I_ok (by omega) (by omega), obs, c1, zI_wide (by omega) (by omega), zI_wide (by omega) (by omega), sd, vbs, show (0 : Int64) = zL 0 from rfl, ifc (lg_le (by omega) (by omega) (by omega) (by omega))]
      have ihh := ih fu (nxQ g W x y (i : Int)) (by omega) m1 (by omega) (by omega)
      rw [nx] at ihh ⊢
      by_cases z : sdL g (trD g W i).1 x y ≤ 0
      · rw [if_pos z] at ihh ⊢
        rw [if_pos z, show vt_rz (zI 0) s = some (zI 0, s) from rfl, vbs, if_pos rfl, vl_I_ok (by omega) (by omega), obs, c5]
        exact ihh
      · rw [if_neg z] at ihh ⊢
        rw [if_neg z, show vt_rz 1 s = some (1, s) from rfl, vbs, if_neg (by decide), vl_I_ok (by omega) (by omega), obs, c4]
        exact ihh
def lfQ (g : Nat → Nat) (W : Nat) (x y : Int) : Int := if plB x && plB y then lfA g W x y else -1
theorem r_leaf {x y : Int} (h1 : -2147483648 ≤ x) (h2 : x ≤ 2147483647) (h3 : -2147483648 ≤ y) (h4 : y ≤ 2147483647) (hK : trK B g W s) : ∃ s1, ab_X16_leaf (B + 670) (zI x) (zI y) s = some (zI (lfQ g W x y), s1) ∧ trK B g W s1 ∧ vk (1705 :: rnI) rnA [] (fun _ => True) s s1 := by
  unfold ab_X16_leaf ab_X16_leaf_14 ab_X16_leaf_32 lfQ
  rw [r_isPlace h1 h2, vbs]
  cases px : plB x with
  | false => exact ⟨s, by rw [if_pos (show bI false = 0 from rfl)]; rfl, hK, vk.refl s⟩
  | true =>
    rw [if_neg (show ¬ bI true = 0 by decide), r_isPlace h3 h4, vbs]
    cases py : plB y with
    | false => exact ⟨s, by rw [if_pos (show bI false = 0 from rfl)]; rfl, hK, vk.refl s⟩
    | true =>
      rw [if_neg (show ¬ bI true = 0 by decide), Bool.and_self, if_pos rfl]
      obtain ⟨s1, a1, a2, a3, a4, a5⟩ := r_know hK
      obtain ⟨n1, n2, n3⟩ := trN_bnd hK.1
      have fu : (trN g W).length < sv_fuel := Nat.lt_of_lt_of_le (show (trN g W).length < 20000 by omega) (Nat.le_of_lt (fuel_ge (by omega)))
      have key := r_leaf_loop (B := B) (g := g) (W := W) (s := s1) hK.1 a2.2.1 a4 (plB_t px) (plB_t py) (trN g W).length sv_fuel
      refine ⟨s1, ?_, a2, a5⟩
      rw [a1, vbs, slet, a4.1]
      unfold lfA
      by_cases c : (trN g W).length = 0
      · rw [if_pos c, if_pos (show nI (trN g W).length ≤ 0 by rw [c]; decide)]
        rw [show (-1 : Int32) = zI (-1) from rfl]
        exact key (-1) fu (by omega) (by omega) (Or.inl (by omega))
      · rw [if_neg c, if_neg (show ¬ nI (trN g W).length ≤ 0 from nI_ge (a := 0) (by omega) (by omega))]
        rw [show (0 : Int32) = zI 0 from rfl]
        exact key 0 fu (by omega) (by omega) (Or.inr (by rw [Int.toNat_zero]; omega))
theorem c_leafOf {x y : Int} {KN mp : Nat} (h1 : -2147483648 ≤ x) (h2 : x ≤ 2147483647) (h3 : -2147483648 ≤ y) (h4 : y ≤ 2147483647) (hm : vt_I s 1310 B = nI mp) (hmp : mp < 1000) (h0 : 0 < mp) (hP : vt_P s 1303 B = B + 6) (hQ : vt_P s 1306 B = p) (hB : phB g W) (hT : cTw B p g W s) (hC : trC B g W s) (hL : ndL B s KN) (hK : (trN g W).length ≤ KN) : ab_X12_leafOf B (zI x) (zI y) s = some (zI (lfQ g W x y), s) := by
  unfold ab_X12_leafOf ab_X12_leafOf_15 lfQ
  rw [c_hasMap hm hmp, vbs, decide_eq_true h0, if_neg (show ¬ bI true = 0 by decide), c_isPlace h1 h2 h3 h4, vbs]
  cases px : plB x with
  | false => rw [Bool.false_and, if_pos (show bI false = 0 from rfl)]; rfl
  | true =>
    cases py : plB y with
    | false => rw [Bool.and_false, if_pos (show bI false = 0 from rfl)]; rfl
    | true => rw [Bool.and_self, if_neg (show ¬ bI true = 0 by decide), if_pos rfl, slet, slet, hP, hQ, c_leaf hB hT hC hL hK (plB_t px) (plB_t py), vbs]
/-- what a node answers -/
def ndA (g : Nat → Nat) (W i : Nat) (x2 : Int32) : Int32 := if x2 = 0 then nI (trD g W i).1 else if x2 = 1 then (if 0 ≤ zI (trD g W i).2.2.2.1 then zI (trD g W i).2.2.2.1 else -1) else if x2 = 2 then (if 0 ≤ zI (trD g W i).2.2.2.2 then zI (trD g W i).2.2.2.2 else -1) else if x2 = 3 then nI (trD g W i).2.1 else if x2 = 4 then nI (trZ g W i) else if x2 = 5 then nI (trD g W i).2.2.1 else -1
def ndX (g : Nat → Nat) (W : Nat) (x : Int) (x2 : Int32) : Int32 := if x < 0 then -1 else if ((trN g W).length : Int) ≤ x then -1 else ndA g W x.toNat x2
theorem max_m1 (x : Int32) : sv_max x (-1) = if 0 ≤ x then x else -1 := by
  obtain ⟨i, rfl, h1, h2⟩ := zI_ex x
  unfold sv_max
  rw [show (-1 : Int32) = zI (-1) from rfl, show (0 : Int32) = zI 0 from rfl, ifc (zI_le (by omega) (by omega) (by omega) (by omega)), ifc (zI_lt (by omega) (by omega) (by omega) (by omega))]
  by_cases c : i < -1
  · rw [if_pos c, if_neg (by omega)]
  · rw [if_neg c]
    by_cases d : 0 ≤ i
    · rw [if_pos d]
    · rw [if_neg d, show i = -1 by omega]
theorem z_neg {x : Int} (h1 : -2147483648 ≤ x) (h2 : x ≤ 2147483647) : (zI x < 0) = (x < 0) := by
  rw [show (0 : Int32) = zI 0 from rfl, zI_lt h1 h2 (by omega) (by omega)]
theorem r_node {x : Int} {x2 : Int32} (h1 : -2147483648 ≤ x) (h2 : x ≤ 2147483647) (hK : trK B g W s) : ∃ s1, ab_X16_node (B + 670) (zI x) x2 s = some (ndX g W x x2, s1) ∧ trK B g W s1 ∧ vk (1705 :: rnI) rnA [] (fun _ => True) s s1 := by
  obtain ⟨s1, a1, a2, a3, a4, a5⟩ := r_know hK
  obtain ⟨n1, n2, n3⟩ := trN_bnd hK.1
  refine ⟨s1, ?_, a2, a5⟩
  unfold ab_X16_node ab_X16_node_74 ab_X16_node_94 ab_X16_isNode ab_X16_isNode_20 ab_X16_isNode_21 ndX
  have e5 : ∀ y : vt_S, vt_rz 0 y = some (0, y) ∧ vt_rz 1 y = some (1, y) := fun y => ⟨rfl, rfl⟩
  rw [a1, vbs, ifc (z_neg h1 h2)]
  by_cases c : x < 0
  · rw [if_pos c, if_pos c, (e5 s1).1, vbs, if_pos rfl]
  obtain ⟨i, rfl⟩ : ∃ i : Nat, x = (i : Int) := ⟨x.toNat, by omega⟩
  rw [if_neg c, if_neg c, slet, a4.1, ← nI_z, Int.toNat_natCast]
  by_cases d : (trN g W).length ≤ i
  · rw [if_pos (nI_le d (by omega)), if_pos (by omega), (e5 s1).1, vbs, if_pos rfl]
  have hi : i < (trN g W).length := by omega
  rw [if_neg (nI_ge (by omega) (by omega)), if_neg (by omega), (e5 s1).2, vbs, if_neg (by decide)]
  have hS := a2.2.1.2
  have L18 := hS.L1718
  have L19 := hS.L1719
  have L20 := hS.L1720
  have L21 := hS.L1721
  have L23 := hS.L1723
  obtain ⟨c1, c2, c3, c4, c5⟩ := ndsR_at _ _ a4.2.2 i (by omega) (by omega)
  have c1 : vt_A s1 1718 (B + 670) i = nI (trD g W i).1 := c1
  have c2 : vt_A s1 1723 (B + 670) i = nI (trD g W i).2.1 := c2
  have c3 : vt_A s1 1721 (B + 670) i = nI (trD g W i).2.2.1 := c3
  have c4 : vt_A s1 1719 (B + 670) i = zI (trD g W i).2.2.2.1 := c4
  have c5 : vt_A s1 1720 (B + 670) i = zI (trD g W i).2.2.2.2 := c5
  rw [vl_I_ok (by omega) (by omega), obs, vl_I_ok (by omega) (by omega), obs, obs, vl_I_ok (by omega) (by omega), obs, obs, vl_I_ok (by omega) (by omega), obs, r_within hK.1 hS a4 hi, vbs, vl_I_ok (by omega) (by omega), obs, c1, c2, c3, c4, c5]
  unfold ndA
  repeat' split
  all_goals first | rfl | contradiction
theorem c_nodeOf {x : Int} {x2 : Int32} {KN mp : Nat} (h1 : -2147483648 ≤ x) (h2 : x ≤ 2147483647) (hm : vt_I s 1310 B = nI mp) (hmp : mp < 1000) (h0 : 0 < mp) (hP : vt_P s 1303 B = B + 6) (hB : phB g W) (hC : cTK B g W s) (hL : ndL B s KN) (hK : (trN g W).length ≤ KN) : ab_X12_nodeOf B (zI x) x2 s = some (ndX g W x x2, s) := by
  obtain ⟨n1, n2, n3⟩ := trN_bnd hB
  obtain ⟨⟨t1, t2, t3⟩, t4⟩ := hC
  obtain ⟨⟨l1, l2, l3, l4, l5, l6⟩, ⟨l7, l8⟩, -⟩ := hL
  unfold ab_X12_nodeOf ab_X12_nodeOf_22 ndX
  rw [c_hasMap hm hmp, vbs, decide_eq_true h0, if_neg (show ¬ bI true = 0 by decide), ifc (z_neg h1 h2)]
  by_cases c : x < 0
  · rw [if_pos c, if_pos c]
  obtain ⟨i, rfl⟩ : ∃ i : Nat, x = (i : Int) := ⟨x.toNat, by omega⟩
  rw [if_neg c, if_neg c, slet, hP, slet, t1, Int.toNat_natCast]
  have lt : (zI (i : Int) < nI (trN g W).length) = (i < (trN g W).length) := by
    rw [nI_z, zI_lt (by omega) (by omega) (by omega) (by omega)]
    exact propext ⟨fun h => by omega, fun h => by omega⟩
  rw [ifc lt]
  by_cases d : i < (trN g W).length
  · rw [if_pos d, if_neg (show ¬ ((trN g W).length : Int) ≤ (i : Int) by omega), ← nI_z]
    obtain ⟨c1, c2, c3, c4, c5⟩ := ndsC_at _ _ t3 i (by omega) (by omega)
    have c1 : vt_A s 901 (B + 6) i = nI (trD g W i).1 := c1
    have c2 : vt_A s 904 (B + 6) i = nI (trD g W i).2.1 := c2
    have c3 : vt_A s 906 (B + 6) i = nI (trD g W i).2.2.1 := c3
    have c4 : vt_A s 902 (B + 6) i = zI (trD g W i).2.2.2.1 := c4
    have c5 : vt_A s 903 (B + 6) i = zI (trD g W i).2.2.2.2 := c5
    rw [slet, vl_I_ok (by omega) (by omega), obs, slet, vl_I_ok (by omega) (by omega), obs, slet, slet, vl_I_ok (by omega) (by omega), obs, slet, slet, vl_I_ok (by omega) (by omega), obs, slet, vl_I_ok (by omega) (by omega), obs, slet, vl_I_ok (by omega) (by omega), obs, c1, c2, c3, c4, c5, t4 i d, max_m1, max_m1]
    unfold ndA
    repeat' split
    all_goals first | rfl | contradiction
  · rw [if_neg d, if_pos (show ((trN g W).length : Int) ≤ (i : Int) by omega)]
end LF
