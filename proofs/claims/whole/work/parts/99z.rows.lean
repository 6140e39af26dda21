-- VIEW: rows of a column are marked and painted
def lowZ (r : Nat) : Int := (47 - 2 * (r : Int)) * 256
def plO (up : Int64) (r : Nat) : Int64 := if 0 < up.toInt * lowZ r then up else 0
def shS (lt : Int32) (less : Int64) : Int32 := Int64.toInt32 (sv_maxl (Int32.toInt64 lt - less) 0)
def plP (y : RY) (g : Nat → Nat) (t : Nat) (lt : Int32) (up : Int64) (r : Nat) : Int32 := 16 * nI (txS g t (zL y.1 + flD (zL y.2.2.1 * plO up r) (zL (lowZ r))) (zL y.2.1 + flD (zL y.2.2.2 * plO up r) (zL (lowZ r)))) + shS lt (flD (64 * plO up r) (zL (lowZ r)))
def upR (F : Nat → Int32) (a b : Nat) (v : Nat → Int32) : Nat → Int32 := fun r => if a ≤ r ∧ r < b then v r else F r
section RW
variable {B p n : Nat} {g : Nat → Nat} {D : Nat → SD} {y : RY}
theorem low_rng {r : Nat} (h : r < 48) : -12032 ≤ lowZ r ∧ lowZ r ≤ 12032 ∧ lowZ r ≠ 0 := by unfold lowZ; omega
theorem low_I (r : Nat) : (47 - 2 * nI r) * 256 = zI (lowZ r) := by
  rw [nI_z, show (47 : Int32) = zI 47 from rfl, show (2 : Int32) = zI 2 from rfl, show (256 : Int32) = zI 256 from rfl, zI_mul, zI_sub, zI_mul]
  rfl
theorem low_L {r : Nat} (h : r < 48) : Int32.toInt64 ((47 - 2 * nI r) * 256) = zL (lowZ r) := by
  have := low_rng h
  rw [low_I, zI_wide (by omega) (by omega)]
theorem low_n0 {r : Nat} (h : r < 48) : zL (lowZ r) ≠ 0 := by
  have := low_rng h
  rw [show (0 : Int64) = zL 0 from rfl]
  intro z
  rw [zL_eq (by omega) (by omega) (by omega) (by omega)] at z
  exact this.2.2 z
theorem flD_0 (b : Int64) : flD 0 b = 0 := by
  unfold flD
  have : (0 : Int64) / b = 0 := Int64.zero_div
  rw [this, if_pos (Or.inr (Int64.zero_mul)) ]
theorem up_ex (u : Int32) : ∃ i : Int, Int32.toInt64 u = zL i ∧ -2147483648 ≤ i ∧ i ≤ 2147483647 ∧ (Int32.toInt64 u).toInt = i := by
  obtain ⟨i, rfl, h1, h2⟩ := zI_ex u
  refine ⟨i, zI_wide h1 h2, h1, h2, ?_⟩
  rw [zI_wide h1 h2, zL_toInt (by omega) (by omega)]
theorem upR_cons {F : Nat → Int32} {v : Nat → Int32} {i b : Nat} (h : i < b) (r : Nat) : (if i + 1 ≤ r ∧ r < b then v r else if r = i then v i else F r) = if i ≤ r ∧ r < b then v r else F r := by
  by_cases c : r = i
  · rw [if_neg (by omega), if_pos c, if_pos (by omega), c]
  · by_cases d : i + 1 ≤ r ∧ r < b
    · rw [if_pos d, if_pos (by omega)]
    · rw [if_neg d, if_neg c, if_neg (by omega)]
theorem c_mark_loop {V b : Nat} {v : Int32} (hb : b ≤ 48) : ∀ (d i fu : Nat) (s : vt_S), i + d = b → d < fu → vt_L s 1001 V = 48 → ∃ s1, ab_X9_markRows_3 fu V (nI b) v (nI i) s = some ((), s1) ∧ (∀ r, vt_A s1 1001 V r = if i ≤ r ∧ r < b then v else vt_A s 1001 V r) ∧ vk [] [1001] [] (fun _ => True) s s1 := by
  intro d
  induction d with
  | zero =>
    intro i fu s hi hf hL
    obtain ⟨fu, rfl⟩ : ∃ q, fu = q + 1 := ⟨fu - 1, by omega⟩
    refine ⟨s, ?_, fun r => by rw [if_neg (by omega)], vk.refl s⟩
    show ab_X9_markRows_3b _ V (nI b) v (nI i) s = _
    unfold ab_X9_markRows_3b
    rw [if_pos (nI_le (by omega) (by omega))]
  | succ d ih =>
    intro i fu s hi hf hL
    obtain ⟨fu, rfl⟩ : ∃ q, fu = q + 1 := ⟨fu - 1, by omega⟩
    have k1 : vk [] [1001] [] (fun _ => True) s (vu_A s 1001 V i v) := vk.pA (vk.refl s) (by decide)
    obtain ⟨s1, a1, a2, a3⟩ := ih (i + 1) fu (vu_A s 1001 V i v) (by omega) (by omega) (k1.keep0 (P := fun t => vt_L t 1001 V = 48) hL)
    refine ⟨s1, ?_, fun r => ?_, k1.trans a3⟩
    · show ab_X9_markRows_3b _ V (nI b) v (nI i) s = _
      unfold ab_X9_markRows_3b
      rw [if_neg (nI_ge (by omega) (by omega)), vs_I_ok (by omega) (by omega), obs, nI_1]
      exact a1
    · rw [a2, A_at]
      exact upR_cons (v := fun _ => v) (by omega) r
theorem c_mark {V a b : Nat} {v : Int32} {s : vt_S} (ha : a ≤ 48) (hb : b ≤ 48) (hL : vt_L s 1001 V = 48) : ∃ s1, ab_X9_markRows V (nI a) (nI b) v s = some ((), s1) ∧ vt_A s1 1001 V = upR (vt_A s 1001 V) a b (fun _ => v) ∧ vk [] [1001] [] (fun _ => True) s s1 := by
  by_cases c : a ≤ b
  · obtain ⟨s1, a1, a2, a3⟩ := c_mark_loop (V := V) (v := v) hb (b - a) a sv_fuel s (by omega) (fuel_ge (by omega)) hL
    exact ⟨s1, a1, funext a2, a3⟩
  · refine ⟨s, ?_, funext fun r => ?_, vk.refl s⟩
    · obtain ⟨fu, hf⟩ : ∃ fu, sv_fuel = fu + 1 := ⟨sv_fuel - 1, by have : 5 < sv_fuel := fuel_ge (by omega); omega⟩
      unfold ab_X9_markRows
      rw [hf]
      show ab_X9_markRows_3b _ V (nI b) v (nI a) s = _
      unfold ab_X9_markRows_3b
      rw [if_pos (nI_le (by omega) (by omega))]
    · unfold upR
      rw [if_neg (by omega)]
/-- what the class's painters need -/
def cVy (B p : Nat) (g : Nat → Nat) (n : Nat) (y : RY) (eye : Int32) (s : vt_S) : Prop := cVw B p g n s ∧ aimC s (B + 621) y ∧ vt_I s 1005 (B + 629) = eye
theorem plO_c {u : Int32} {r : Nat} (hr : r < 48) : (0 < lg_cmp (Int32.toInt64 u * zL (lowZ r)) 0) = (0 < (Int32.toInt64 u).toInt * lowZ r) := by
  obtain ⟨i, e, h1, h2, h3⟩ := up_ex u
  have := low_rng hr
  have m1 : -26000000000000 ≤ i * lowZ r ∧ i * lowZ r ≤ 26000000000000 := by
    have a1 : (i * lowZ r).natAbs = i.natAbs * (lowZ r).natAbs := Int.natAbs_mul i (lowZ r)
    have a2 : i.natAbs * (lowZ r).natAbs ≤ 2147483648 * 12032 := Nat.mul_le_mul (by omega) (by omega)
    omega
  rw [h3, e, zL_mul, show (0 : Int64) = zL 0 from rfl, show (0 : Int32) = zI 0 from rfl, lg_gt (by omega) (by omega) (by omega) (by omega)]
theorem c_plane_loop {b t : Nat} {z lt eye : Int32} (hy : ryOk y) (ht : t < g 4 ∨ t = 255) (hb : b ≤ 48) : ∀ (d i fu : Nat) (s : vt_S), i + d = b → d < fu → cVy B p g n y eye s → ∃ s1, ab_X9_paintPlane_3 fu (B + 629) p (nI b) z (zI (n255 t)) lt (nI i) s = some ((), s1) ∧ (∀ r, vt_A s1 1002 (B + 629) r = if i ≤ r ∧ r < b then plP y g t lt (Int32.toInt64 (z - eye)) r else vt_A s 1002 (B + 629) r) ∧ vk [] [1002] [] (fun _ => True) s s1 := by
  intro d
  induction d with
  | zero =>
    intro i fu s hi hf hk
    obtain ⟨fu, rfl⟩ : ∃ q, fu = q + 1 := ⟨fu - 1, by omega⟩
    refine ⟨s, ?_, fun r => by rw [if_neg (by omega)], vk.refl s⟩
    show ab_X9_paintPlane_3b _ (B + 629) p (nI b) z _ lt (nI i) s = _
    unfold ab_X9_paintPlane_3b
    rw [if_pos (nI_le (by omega) (by omega))]
  | succ d ih =>
    intro i fu s hi hf hk
    obtain ⟨fu, rfl⟩ : ∃ q, fu = q + 1 := ⟨fu - 1, by omega⟩
    have hi48 : i < 48 := by omega
    have k1 : vk [] [1002] [] (fun _ => True) s (vu_A s 1002 (B + 629) i (plP y g t lt (Int32.toInt64 (z - eye)) i)) := vk.pA (vk.refl s) (by decide)
    obtain ⟨s1, a1, a2, a3⟩ := ih (i + 1) fu _ (by omega) (by omega) (k1.keep0 (P := cVy B p g n y eye) hk)
    obtain ⟨⟨hW, hrow, h0, l1, l2, l3⟩, ⟨m1, m2, m3, m4⟩, he⟩ := id hk
    obtain ⟨⟨q1, q1'⟩, ⟨q2, q2'⟩, ⟨q3, q3'⟩, ⟨q4, q4'⟩⟩ := hy
    refine ⟨s1, ?_, fun r => ?_, k1.trans a3⟩
    · show ab_X9_paintPlane_3b _ (B + 629) p (nI b) z _ lt (nI i) s = _
      unfold ab_X9_paintPlane_3b
      rw [if_neg (nI_ge (by omega) (by omega)), slet, he, low_L hi48, ifc (plO_c hi48)]
      have body : ∀ o : Int64, o = plO (Int32.toInt64 (z - eye)) i → ab_X9_paintPlane_46 (ab_X9_paintPlane_3 fu) (B + 629) p (nI b) z (zI (n255 t)) lt (nI i) o (zL (lowZ i)) s = some ((), s1) := by
        intro o ho
        unfold ab_X9_paintPlane_46
        rw [slet, slet, slet, slet, h0, m1, m3, c_flD (low_n0 hi48), vbs, slet, slet, slet, slet, h0, m2, m4, c_flD (low_n0 hi48), vbs, c_flD (low_n0 hi48), vbs, slet, c_texel hk.1 ht, vbs, vs_I_ok (by omega) (by omega), obs, nI_1, zI_wide (by omega) (by omega), zI_wide (by omega) (by omega), zI_wide (by omega) (by omega), zI_wide (by omega) (by omega), ho]
        exact a1
      unfold plO at body
      by_cases c : 0 < (Int32.toInt64 (z - eye)).toInt * lowZ i
      · rw [if_pos c]; exact body _ (if_pos c).symm
      · rw [if_neg c]; exact body _ (if_neg c).symm
    · rw [a2, A_at]
      exact upR_cons (v := plP y g t lt (Int32.toInt64 (z - eye))) (by omega) r
theorem c_plane {a b t : Nat} {z lt eye : Int32} {s : vt_S} (hy : ryOk y) (ht : t < g 4 ∨ t = 255) (ha : a ≤ 48) (hb : b ≤ 48) (hk : cVy B p g n y eye s) : ∃ s1, ab_X9_paintPlane (B + 629) p (nI a) (nI b) z (zI (n255 t)) lt s = some ((), s1) ∧ vt_A s1 1002 (B + 629) = upR (vt_A s 1002 (B + 629)) a b (plP y g t lt (Int32.toInt64 (z - eye))) ∧ vk [] [1002] [] (fun _ => True) s s1 := by
  by_cases c : a ≤ b
  · obtain ⟨s1, a1, a2, a3⟩ := c_plane_loop (B := B) (p := p) (n := n) (z := z) (lt := lt) (eye := eye) hy ht hb (b - a) a sv_fuel s (by omega) (fuel_ge (by omega)) hk
    exact ⟨s1, a1, funext a2, a3⟩
  · refine ⟨s, ?_, funext fun r => ?_, vk.refl s⟩
    · obtain ⟨fu, hf⟩ : ∃ fu, sv_fuel = fu + 1 := ⟨sv_fuel - 1, by have : 5 < sv_fuel := fuel_ge (by omega); omega⟩
      unfold ab_X9_paintPlane
      rw [hf]
      show ab_X9_paintPlane_3b _ (B + 629) p (nI b) z _ lt (nI a) s = _
      unfold ab_X9_paintPlane_3b
      rw [if_pos (nI_le (by omega) (by omega))]
    · unfold upR
      rw [if_neg (by omega)]
/-- the sky -/
def skP (r : Nat) : Int32 := 16 * (15 - nI r / 4) + 15
theorem c_sky_loop {b j : Nat} (hb : b ≤ 48) {x6 : Nat} (h6 : x6 ≤ 48) : ∀ (d i fu : Nat) (s : vt_S), i + d = b → d < fu → vt_L s 1002 (B + 629) = 48 → vt_L s 1001 (B + 629) = 48 → vt_I s 1006 (B + 629) = nI x6 → ∃ s1, ab_X9_paintCeiling_60 fu (B + 629) (nI b) (nI j) (nI i) s = some ((), s1) ∧ (∀ r, vt_A s1 1002 (B + 629) r = if i ≤ r ∧ r < b then skP r else vt_A s 1002 (B + 629) r) ∧ vt_A s1 1001 (B + 629) = upR (vt_A s 1001 (B + 629)) x6 b (fun _ => 1536 + nI j) ∧ vk [] [1001, 1002] [] (fun _ => True) s s1 := by
  intro d
  induction d with
  | zero =>
    intro i fu s hi hf hL hL1 h6'
    obtain ⟨fu, rfl⟩ : ∃ q, fu = q + 1 := ⟨fu - 1, by omega⟩
    obtain ⟨s1, a1, a2, a3⟩ := c_mark (V := B + 629) (a := x6) (b := b) (v := 1536 + nI j) h6 hb hL1
    refine ⟨s1, ?_, fun r => ?_, a2, a3.weak (by decide) (by decide) (by decide)⟩
    · show ab_X9_paintCeiling_60b _ (B + 629) (nI b) (nI j) (nI i) s = _
      unfold ab_X9_paintCeiling_60b
      rw [if_pos (nI_le (by omega) (by omega)), slet, h6', a1, vbs]
    · rw [if_neg (by omega), (a3.2.2.1 1002 (B + 629) (Or.inl (by decide))).1]
  | succ d ih =>
    intro i fu s hi hf hL hL1 h6'
    obtain ⟨fu, rfl⟩ : ∃ q, fu = q + 1 := ⟨fu - 1, by omega⟩
    have k1 : vk [] [1001, 1002] [] (fun _ => True) s (vu_A s 1002 (B + 629) i (skP i)) := vk.pA (vk.refl s) (by decide)
    obtain ⟨s1, a1, a2, a4, a3⟩ := ih (i + 1) fu (vu_A s 1002 (B + 629) i (skP i)) (by omega) (by omega) (k1.keep0 (P := fun t => vt_L t 1002 (B + 629) = 48) hL) (k1.keep0 (P := fun t => vt_L t 1001 (B + 629) = 48) hL1) (k1.keep0 (P := fun t => vt_I t 1006 (B + 629) = nI x6) h6')
    refine ⟨s1, ?_, fun r => ?_, ?_, k1.trans a3⟩
    · show ab_X9_paintCeiling_60b _ (B + 629) (nI b) (nI j) (nI i) s = _
      unfold ab_X9_paintCeiling_60b
      rw [if_neg (nI_ge (by omega) (by omega)), vs_I_ok (by omega) (by omega), obs, nI_1]
      exact a1
    · rw [a2, A_at]
      exact upR_cons (v := skP) (by omega) r
    · rw [a4, A_nf (by decide)]
end RW
