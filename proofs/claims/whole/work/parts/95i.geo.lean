-- NUMBERS: signs, products
theorem sh63 : (Int32.toInt64 63 &&& 63 : Int64) = 63 ∧ (Int64.toUInt64 (Int32.toInt64 63) &&& Int64.toUInt64 63) = 63 := by decide
def sgn (a : Int) : Int := if a < 0 then -1 else if a = 0 then 0 else 1
theorem shr63 (x : Int64) : x >>> (63 : Int64) = if x.toInt < 0 then -1 else 0 := by
  apply Int64.toBitVec_inj.mp
  have e : (x >>> (63 : Int64)).toBitVec = x.toBitVec.sshiftRight 63 := rfl
  rw [e]
  apply BitVec.eq_of_toInt_eq
  rw [BitVec.toInt_sshiftRight, Int.shiftRight_eq_div_pow]
  have h1 : x.toBitVec.toInt = x.toInt := rfl
  have h2 := Int64.le_toInt x
  have h3 := Int64.toInt_lt x
  rw [h1]
  by_cases c : x.toInt < 0
  · rw [if_pos c]
    show x.toInt / 2 ^ 63 = -1
    omega
  · rw [if_neg c]
    show x.toInt / 2 ^ 63 = 0
    omega
theorem ushr63 (x : Int64) : UInt64.toInt64 (Int64.toUInt64 x >>> (63 : UInt64)) = if x.toInt < 0 then 1 else 0 := by
  apply Int64.toBitVec_inj.mp
  have e : (UInt64.toInt64 (Int64.toUInt64 x >>> (63 : UInt64))).toBitVec = x.toBitVec >>> 63 := rfl
  rw [e]
  apply BitVec.eq_of_toNat_eq
  rw [BitVec.toNat_ushiftRight, Nat.shiftRight_eq_div_pow]
  have h1 : x.toInt = x.toBitVec.toInt := rfl
  have h2 := x.toBitVec.isLt
  rw [BitVec.toInt_eq_toNat_bmod, Int.bmod_def] at h1
  by_cases c : x.toInt < 0
  · rw [if_pos c]
    show x.toBitVec.toNat / 2 ^ 63 = 1
    split at h1 <;> omega
  · rw [if_neg c]
    show x.toBitVec.toNat / 2 ^ 63 = 0
    split at h1 <;> omega
theorem sgn_J {a : Int} (h1 : -9223372036854775807 ≤ a) (h2 : a ≤ 9223372036854775807) (s : vt_S) : ab_J13_signum_95d88 (zL a) s = some (zI (sgn a), s) := by
  unfold ab_J13_signum_95d88
  rw [sh63.1, sh63.2, shr63, ushr63, zL_neg, zL_toInt (by omega) h2, zL_toInt (by omega) (by omega)]
  unfold sgn
  by_cases c1 : a < 0
  · rw [if_pos c1, if_pos c1]
    by_cases c2 : -a < 0
    · omega
    · rw [if_neg c2]; rfl
  · rw [if_neg c1, if_neg c1]
    by_cases c2 : a = 0
    · rw [if_pos c2, if_neg (by omega)]; rfl
    · rw [if_neg c2, if_pos (by omega)]; rfl
theorem mulb {a b A C : Int} (h1 : -A ≤ a) (h2 : a ≤ A) (h3 : -C ≤ b) (h4 : b ≤ C) : -(A * C) ≤ a * b ∧ a * b ≤ A * C := by
  have e : (a * b).natAbs ≤ A.natAbs * C.natAbs := by
    rw [Int.natAbs_mul]
    exact Nat.mul_le_mul (by omega) (by omega)
  rw [← Int.natAbs_mul] at e
  have : 0 ≤ A * C := Int.mul_nonneg (by omega) (by omega)
  omega
theorem zI_min {a b : Int} (h1 : -2147483648 ≤ a) (h2 : a ≤ 2147483647) (h3 : -2147483648 ≤ b) (h4 : b ≤ 2147483647) : sv_min (zI a) (zI b) = zI (min a b) := by
  unfold sv_min
  simp (disch := omega) only [zI_lt]
  by_cases c : b < a
  · rw [if_pos c]; congr 1; omega
  · rw [if_neg c]; congr 1; omega
theorem zI_max {a b : Int} (h1 : -2147483648 ≤ a) (h2 : a ≤ 2147483647) (h3 : -2147483648 ≤ b) (h4 : b ≤ 2147483647) : sv_max (zI a) (zI b) = zI (max a b) := by
  unfold sv_max
  simp (disch := omega) only [zI_lt]
  by_cases c : a < b
  · rw [if_pos c]; congr 1; omega
  · rw [if_neg c]; congr 1; omega
theorem zI_abs {a : Int} (h1 : -2147483647 ≤ a) (h2 : a ≤ 2147483647) : sv_abs (zI a) = zI (a.natAbs : Int) := by
  unfold sv_abs
  rw [show (0 : Int32) = zI 0 from rfl, zI_sub]
  simp (disch := omega) only [zI_le]
  by_cases c : 0 ≤ a
  · rw [if_pos c]; congr 1; omega
  · rw [if_neg c]; congr 1; omega
theorem zL_abs {a : Int} (h1 : -9223372036854775807 ≤ a) (h2 : a ≤ 9223372036854775807) : sv_absl (zL a) = zL (a.natAbs : Int) := by
  unfold sv_absl
  rw [show (0 : Int64) = zL 0 from rfl, zL_neg]
  simp (disch := omega) only [zL_lt]
  by_cases c : 0 < a
  · rw [if_pos c]; congr 1; omega
  · rw [if_neg c]; congr 1; omega
theorem zL_max {a b : Int} (h1 : -9223372036854775808 ≤ a) (h2 : a ≤ 9223372036854775807) (h3 : -9223372036854775808 ≤ b) (h4 : b ≤ 9223372036854775807) : sv_maxl (zL a) (zL b) = zL (max a b) := by
  unfold sv_maxl
  simp (disch := omega) only [zL_lt]
  by_cases c : b < a
  · rw [if_pos c]; congr 1; omega
  · rw [if_neg c]; congr 1; omega
theorem zL_min {a b : Int} (h1 : -9223372036854775808 ≤ a) (h2 : a ≤ 9223372036854775807) (h3 : -9223372036854775808 ≤ b) (h4 : b ≤ 9223372036854775807) : sv_minl (zL a) (zL b) = zL (min a b) := by
  unfold sv_minl
  simp (disch := omega) only [zL_lt]
  by_cases c : b < a
  · rw [if_pos c]; congr 1; omega
  · rw [if_neg c]; congr 1; omega
/-- a truth as an int -/
def bI (b : Bool) : Int32 := if b then 1 else 0
theorem rz_b (b : Bool) (s : vt_S) : vt_rz (bI b) s = some (bI b, s) := by cases b <;> rfl
theorem bI_0 (b : Bool) : bI b = 0 ↔ b = false := by cases b <;> decide
-- WALLS: places and sides
def crossZ (px py qx qy : Int) : Int := px * qy - py * qx
def sideZ (ax ay bx bv x y : Int) : Int := (bx - ax) * (y - ay) - (bv - ay) * (x - ax)
def sh16 (a : Int) : Prop := -32768 ≤ a ∧ a ≤ 32767
/-- a wall's places -/
def wc (s : vt_S) (x : Nat) (ax ay bx bv : Int) : Prop := vt_I s 1200 x = zI ax ∧ vt_I s 1201 x = zI ay ∧ vt_I s 1202 x = zI bx ∧ vt_I s 1203 x = zI bv ∧ sh16 ax ∧ sh16 ay ∧ sh16 bx ∧ sh16 bv
def alongZ (x y px py qx qy : Int) : Bool := decide (crossZ (px - x) (py - y) (qx - x) (qy - y) = 0 ∧ 0 < (px - x) * (qx - x) + (py - y) * (qy - y))
def partsZ (ax ay bx bv cx cy dx dy : Int) : Bool := decide (sgn (sideZ ax ay bx bv cx cy) * sgn (sideZ ax ay bx bv dx dy) ≤ 0)
def boxZ (ax ay bx bv lx ly mx my : Int) : Bool := decide (min ax bx ≤ mx ∧ lx ≤ max ax bx ∧ min ay bv ≤ my ∧ ly ≤ max ay bv)
def touchZ (ax ay bx bv cx cy dx dy : Int) : Bool := boxZ ax ay bx bv (min cx dx) (min cy dy) (max cx dx) (max cy dy) && partsZ ax ay bx bv cx cy dx dy && partsZ cx cy dx dy ax ay bx bv
def ovC (ax ay bx bv cx cy dx dy : Int) : Bool :=
  if ax = cx ∧ ay = cy then alongZ ax ay bx bv dx dy else
  if ax = dx ∧ ay = dy then alongZ ax ay bx bv cx cy else
  if bx = cx ∧ bv = cy then alongZ bx bv ax ay dx dy else
  if bx = dx ∧ bv = dy then alongZ bx bv ax ay cx cy else touchZ ax ay bx bv cx cy dx dy
theorem sgn_rng (a : Int) : -1 ≤ sgn a ∧ sgn a ≤ 1 := by unfold sgn; split <;> (try split) <;> omega
theorem side_rng {ax ay bx bv x y : Int} (h1 : sh16 ax) (h2 : sh16 ay) (h3 : sh16 bx) (h4 : sh16 bv) (hx : -100000 ≤ x ∧ x ≤ 100000) (hy : -100000 ≤ y ∧ y ≤ 100000) : -17501750050 ≤ sideZ ax ay bx bv x y ∧ sideZ ax ay bx bv x y ≤ 17501750050 := by
  unfold sh16 at *
  unfold sideZ
  have a1 := mulb (a := bx - ax) (b := y - ay) (A := 65535) (C := 132768) (by omega) (by omega) (by omega) (by omega)
  have a2 := mulb (a := bv - ay) (b := x - ax) (A := 65535) (C := 132768) (by omega) (by omega) (by omega) (by omega)
  omega
section WG
variable {s : vt_S} {x z : Nat} {ax ay bx bv cx cy dx dy : Int}
theorem c_side (h : wc s x ax ay bx bv) {u v : Int} (hu : -100000 ≤ u ∧ u ≤ 100000) (hv : -100000 ≤ v ∧ v ≤ 100000) : ab_X11_sideOf x (zI u) (zI v) s = some (zL (sideZ ax ay bx bv u v), s) := by
  obtain ⟨h1, h2, h3, h4, h5, h6, h7, h8⟩ := h
  unfold sh16 at *
  simp only [ab_X11_sideOf, sv_let, h1, h2, h3, h4, zI_sub]
  rw [zI_wide (by omega) (by omega), zI_wide (by omega) (by omega), zI_wide (by omega) (by omega), zI_wide (by omega) (by omega), zL_mul, zL_mul, zL_sub]
  rfl
theorem c_along {x y px py qx qy : Int} (h1 : sh16 x) (h2 : sh16 y) (h3 : sh16 px) (h4 : sh16 py) (h5 : sh16 qx) (h6 : sh16 qy) : ab_X11_goesAlong (zL x) (zL y) (zL px) (zL py) (zL qx) (zL qy) s = some (bI (alongZ x y px py qx qy), s) := by
  unfold sh16 at *
  have a1 := mulb (a := px - x) (b := qy - y) (A := 65535) (C := 65535) (by omega) (by omega) (by omega) (by omega)
  have a2 := mulb (a := py - y) (b := qx - x) (A := 65535) (C := 65535) (by omega) (by omega) (by omega) (by omega)
  have a3 := mulb (a := px - x) (b := qx - x) (A := 65535) (C := 65535) (by omega) (by omega) (by omega) (by omega)
  have a4 := mulb (a := py - y) (b := qy - y) (A := 65535) (C := 65535) (by omega) (by omega) (by omega) (by omega)
  simp only [ab_X11_goesAlong, ab_X12_cross, vt_bs, zL_sub, zL_mul, zL_add]
  rw [show (0 : Int64) = zL 0 from rfl, show (0 : Int32) = zI 0 from rfl]
  unfold alongZ crossZ
  simp (disch := omega) only [lg_eq, lg_le]
  by_cases c1 : (px - x) * (qy - y) - (py - y) * (qx - x) = 0
  · rw [if_pos c1]
    by_cases c2 : (px - x) * (qx - x) + (py - y) * (qy - y) ≤ 0
    · rw [if_pos c2, decide_eq_false (by omega)]; rfl
    · rw [if_neg c2, decide_eq_true ⟨c1, by omega⟩]; rfl
  · rw [if_neg c1, decide_eq_false (fun q => c1 q.1)]; rfl
theorem parts_b {u v : Int} (s : vt_S) : (if zI 0 < zI (sgn u * sgn v) then ab_X11_lineParts_39 0 s else ab_X11_lineParts_39 1 s) = some (bI (decide (sgn u * sgn v ≤ 0)), s) := by
  have s1 := sgn_rng u
  have s2 := sgn_rng v
  have s3 := mulb (A := 1) (C := 1) s1.1 s1.2 s2.1 s2.2
  simp (disch := omega) only [zI_lt]
  by_cases c : 0 < sgn u * sgn v
  · rw [if_pos c, decide_eq_false (by omega)]; rfl
  · rw [if_neg c, decide_eq_true (by omega)]; rfl
theorem c_p1 (h : wc s x ax ay bx bv) (k : wc s z cx cy dx dy) : -17501750050 ≤ sideZ ax ay bx bv cx cy ∧ sideZ ax ay bx bv cx cy ≤ 17501750050 := by
  obtain ⟨k1, k2, k3, k4, k5, k6, k7, k8⟩ := k
  unfold sh16 at k5 k6 k7 k8
  exact side_rng h.2.2.2.2.1 h.2.2.2.2.2.1 h.2.2.2.2.2.2.1 h.2.2.2.2.2.2.2 (x := cx) (y := cy) (by omega) (by omega)
theorem c_p2 (h : wc s x ax ay bx bv) (k : wc s z cx cy dx dy) : ab_J13_signum_95d88 (zL (sideZ ax ay bx bv cx cy)) s = some (zI (sgn (sideZ ax ay bx bv cx cy)), s) := by
  have r1 := c_p1 h k
  exact sgn_J (a := sideZ ax ay bx bv cx cy) (by omega) (by omega) s
theorem c_p3 (h : wc s x ax ay bx bv) (k : wc s z cx cy dx dy) : ab_X11_sideOf x (zI cx) (zI cy) s = some (zL (sideZ ax ay bx bv cx cy), s) := by
  obtain ⟨k1, k2, k3, k4, k5, k6, k7, k8⟩ := k
  unfold sh16 at k5 k6 k7 k8
  exact c_side h (u := cx) (v := cy) (by omega) (by omega)
theorem wc.swap (k : wc s z cx cy dx dy) : sh16 dx ∧ sh16 dy := ⟨k.2.2.2.2.2.2.1, k.2.2.2.2.2.2.2⟩
theorem c_p4 {u v : Int} (e1 : ab_J13_signum_95d88 (zL u) s = some (zI (sgn u), s)) (e2 : ab_J13_signum_95d88 (zL v) s = some (zI (sgn v), s)) (e3 : ab_X11_sideOf x (zI cx) (zI cy) s = some (zL u, s)) (e4 : ab_X11_sideOf x (zI dx) (zI dy) s = some (zL v, s)) (k1 : vt_I s 1200 z = zI cx) (k2 : vt_I s 1201 z = zI cy) (k3 : vt_I s 1202 z = zI dx) (k4 : vt_I s 1203 z = zI dy) : ab_X11_lineParts x z s = some (bI (decide (sgn u * sgn v ≤ 0)), s) := by
  rw [← parts_b s]
  unfold ab_X11_lineParts
  simp only [slet]
  rw [k1, k2, e3, vt_bs, e1, vt_bs, k3, k4, e4, vt_bs, e2, vt_bs, zI_mul, show (0 : Int32) = zI 0 from rfl]
theorem c_parts (h : wc s x ax ay bx bv) (k : wc s z cx cy dx dy) : ab_X11_lineParts x z s = some (bI (partsZ ax ay bx bv cx cy dx dy), s) := by
  have e1 := c_p2 h k
  have e3 := c_p3 h k
  have e2 : ab_J13_signum_95d88 (zL (sideZ ax ay bx bv dx dy)) s = some (zI (sgn (sideZ ax ay bx bv dx dy)), s) := by
    have hs := k.swap
    unfold sh16 at hs
    have r1 := side_rng h.2.2.2.2.1 h.2.2.2.2.2.1 h.2.2.2.2.2.2.1 h.2.2.2.2.2.2.2 (x := dx) (y := dy) (by omega) (by omega)
    exact sgn_J (by omega) (by omega) s
  have e4 : ab_X11_sideOf x (zI dx) (zI dy) s = some (zL (sideZ ax ay bx bv dx dy), s) := by
    have hs := k.swap
    unfold sh16 at hs
    exact c_side h (by omega) (by omega)
  unfold partsZ
  exact c_p4 e1 e2 e3 e4 k.1 k.2.1 k.2.2.1 k.2.2.2.1
theorem c_box (h : wc s x ax ay bx bv) {lx ly mx my : Int} (h1 : -100000000 ≤ lx ∧ lx ≤ 100000000) (h2 : -100000000 ≤ ly ∧ ly ≤ 100000000) (h3 : -100000000 ≤ mx ∧ mx ≤ 100000000) (h4 : -100000000 ≤ my ∧ my ≤ 100000000) : ab_X11_reachesBox x (zI lx) (zI ly) (zI mx) (zI my) s = some (bI (boxZ ax ay bx bv lx ly mx my), s) := by
  obtain ⟨k1, k2, k3, k4, k5, k6, k7, k8⟩ := h
  unfold sh16 at *
  simp only [ab_X11_reachesBox, sv_let, k1, k2, k3, k4]
  rw [zI_min (by omega) (by omega) (by omega) (by omega), zI_max (by omega) (by omega) (by omega) (by omega), zI_min (by omega) (by omega) (by omega) (by omega), zI_max (by omega) (by omega) (by omega) (by omega)]
  simp (disch := omega) only [zI_lt]
  unfold boxZ
  by_cases c1 : mx < min ax bx
  · rw [if_pos c1, decide_eq_false (by omega)]; rfl
  rw [if_neg c1]
  by_cases c2 : max ax bx < lx
  · rw [if_pos c2, decide_eq_false (by omega)]; rfl
  rw [if_neg c2]
  by_cases c3 : my < min ay bv
  · rw [if_pos c3, decide_eq_false (by omega)]; rfl
  rw [if_neg c3]
  by_cases c4 : max ay bv < ly
  · rw [if_pos c4, decide_eq_false (by omega)]; rfl
  rw [if_neg c4, decide_eq_true (by omega)]; rfl
theorem c_touch (h : wc s x ax ay bx bv) (k : wc s z cx cy dx dy) : ab_X11_touches x z s = some (bI (touchZ ax ay bx bv cx cy dx dy), s) := by
  obtain ⟨k1, k2, k3, k4, k5, k6, k7, k8⟩ := id k
  unfold sh16 at k5 k6 k7 k8
  simp only [ab_X11_touches, sv_let, k1, k2, k3, k4]
  rw [zI_min (by omega) (by omega) (by omega) (by omega), zI_max (by omega) (by omega) (by omega) (by omega), zI_min (by omega) (by omega) (by omega) (by omega), zI_max (by omega) (by omega) (by omega) (by omega), c_box h (by omega) (by omega) (by omega) (by omega), vt_bs]
  unfold touchZ
  cases boxZ ax ay bx bv (min cx dx) (min cy dy) (max cx dx) (max cy dy) with
  | false => rfl
  | true =>
    rw [if_neg (by decide), c_parts h k, vt_bs]
    cases partsZ ax ay bx bv cx cy dx dy with
    | false => rfl
    | true =>
      rw [if_neg (by decide), c_parts k h, vt_bs]
      cases partsZ cx cy dx dy ax ay bx bv with
      | false => rfl
      | true => rfl
theorem c_overlaps (h : wc s x ax ay bx bv) (k : wc s z cx cy dx dy) : ab_X11_overlaps x z s = some (bI (ovC ax ay bx bv cx cy dx dy), s) := by
  obtain ⟨h1, h2, h3, h4, h5, h6, h7, h8⟩ := id h
  obtain ⟨k1, k2, k3, k4, k5, k6, k7, k8⟩ := id k
  have al : ∀ {x y px py qx qy : Int}, sh16 x → sh16 y → sh16 px → sh16 py → sh16 qx → sh16 qy → (vt_b (ab_X11_goesAlong (Int32.toInt64 (zI x)) (Int32.toInt64 (zI y)) (Int32.toInt64 (zI px)) (Int32.toInt64 (zI py)) (Int32.toInt64 (zI qx)) (Int32.toInt64 (zI qy)) s) fun r11 h12 => vt_rz r11 h12) = some (bI (alongZ x y px py qx qy), s) := by
    intro x y px py qx qy a1 a2 a3 a4 a5 a6
    have e : ∀ {u : Int}, sh16 u → Int32.toInt64 (zI u) = zL u := fun hu => zI_wide (by unfold sh16 at hu; omega) (by unfold sh16 at hu; omega)
    rw [e a1, e a2, e a3, e a4, e a5, e a6, c_along a1 a2 a3 a4 a5 a6, vt_bs, rz_b]
  have q : ∀ {u v : Int}, sh16 u → sh16 v → (zI u = zI v) = (u = v) := fun hu hv => zI_eq (by unfold sh16 at hu; omega) (by unfold sh16 at hu; omega) (by unfold sh16 at hv; omega) (by unfold sh16 at hv; omega)
  have o224 : ab_X11_overlaps_224 x z s = some (bI (touchZ ax ay bx bv cx cy dx dy), s) := by
    rw [ab_X11_overlaps_224, c_touch h k, vt_bs, rz_b]
  have two : ∀ {a b c d : Prop} [Decidable a] [Decidable b] {X Y : Option (Int32 × vt_S)}, (if a then (if b then X else Y) else Y) = if a ∧ b then X else Y := by
    intro a b c d _ _ X Y
    by_cases ha : a <;> by_cases hb : b <;> simp [ha, hb]
  simp only [ab_X11_overlaps, ab_X11_overlaps_56, ab_X11_overlaps_112, ab_X11_overlaps_168, sv_let, h1, h2, h3, h4, k1, k2, k3, k4, o224, al h5 h6 h7 h8 k7 k8, al h5 h6 h7 h8 k5 k6, al h7 h8 h5 h6 k7 k8, al h7 h8 h5 h6 k5 k6, q h5 k5, q h6 k6, q h5 k7, q h6 k8, q h7 k5, q h8 k6, q h7 k7, q h8 k8]
  unfold ovC
  by_cases c1 : ax = cx ∧ ay = cy
  · rw [if_pos c1.1, if_pos c1.2, if_pos c1]
  rw [if_neg c1]
  by_cases c2 : ax = dx ∧ ay = dy
  · rw [if_pos c2, if_pos c2.1, if_pos c2.2]
    by_cases e1 : ax = cx
    · rw [if_pos e1, if_neg (fun z => c1 ⟨e1, z⟩)]
    · rw [if_neg e1]
  rw [if_neg c2]
  by_cases c3 : bx = cx ∧ bv = cy
  · rw [if_pos c3, if_pos c3.1, if_pos c3.2]
    by_cases e1 : ax = cx <;> by_cases e2 : ay = cy <;> by_cases e3 : ax = dx <;> by_cases e4 : ay = dy <;> simp_all
  rw [if_neg c3]
  by_cases c4 : bx = dx ∧ bv = dy
  · rw [if_pos c4, if_pos c4.1, if_pos c4.2]
    by_cases e1 : ax = cx <;> by_cases e2 : ay = cy <;> by_cases e3 : ax = dx <;> by_cases e4 : ay = dy <;> by_cases e5 : bx = cx <;> by_cases e6 : bv = cy <;> simp_all
  rw [if_neg c4]
  have two : ∀ (a b : Prop) [Decidable a] [Decidable b] (X Y : Option (Int32 × vt_S)), ¬ (a ∧ b) → (if a then (if b then X else Y) else Y) = Y := by
    intro a b _ _ X Y hn
    by_cases ha : a
    · rw [if_pos ha, if_neg (fun hb => hn ⟨ha, hb⟩)]
    · rw [if_neg ha]
  rw [two _ _ _ _ c4, two _ _ _ _ c3, two _ _ _ _ c2, two _ _ _ _ c1]
end WG
