-- VIEW: texels and lights of both sides
section VW
variable {B p n : Nat} {g : Nat → Nat} {D : Nat → SD} {s : vt_S}
def cVw (B p : Nat) (g : Nat → Nat) (n : Nat) (s : vt_S) : Prop := cWk B p g n s ∧ rowC s (p + 1) g n ∧ vt_P s 1000 (B + 629) = B + 621 ∧ vt_L s 1001 (B + 629) = 48 ∧ vt_L s 1002 (B + 629) = 48 ∧ vt_L s 1003 (B + 629) = 128
theorem tx_in {t u v : Nat} (hc : cMap g n) (ht : t < g 4) (hu : u < 2 ^ g (txp g t)) (hv : v < 2 ^ g (txp g t + 1)) : txp g t + 2 + v * 2 ^ g (txp g t) + u < n ∧ g (txp g t) ≤ 4 ∧ g (txp g t + 1) ≤ 4 := by
  obtain ⟨⟨v1, v2, v3⟩, v4⟩ := hc.1.1.2.2.2.1 t ht
  have e : txp g (t + 1) = txp g t + 2 + 2 ^ (g (txp g t) + g (txp g t + 1)) := rfl
  have hsz : v * 2 ^ g (txp g t) + u < 2 ^ (g (txp g t) + g (txp g t + 1)) := by
    rw [Nat.pow_add, Nat.mul_comm]
    have : 2 ^ g (txp g t) * (v + 1) ≤ 2 ^ g (txp g t) * 2 ^ g (txp g t + 1) := Nat.mul_le_mul_left _ hv
    rw [Nat.mul_add] at this
    omega
  exact ⟨by omega, v1, v2⟩
theorem md_lt (x : Int64) (k : Nat) : (x.toInt % (2 ^ k : Nat)).toNat < 2 ^ k := by
  have w0 : 0 < 2 ^ k := Nat.pow_pos (by decide)
  have := Int.emod_lt_of_pos x.toInt (b := ((2 ^ k : Nat) : Int)) (by omega)
  have := Int.emod_nonneg x.toInt (b := ((2 ^ k : Nat) : Int)) (by omega)
  omega
theorem c_texel {t : Nat} {x z : Int64} (hk : cVw B p g n s) (ht : t < g 4 ∨ t = 255) : ab_X2_texel p (zI (n255 t)) x z s = some (nI (txS g t x z), s) := by
  obtain ⟨hW, hrow, -⟩ := hk
  have hp := hW.2.2.2.2.1
  have hF := hW.2.2.2.2.2.1
  have hc := hW.2.2.2.2.2.2
  unfold ab_X2_texel txS
  by_cases c : t = 255
  · rw [if_pos (show zI (n255 t) = -1 by rw [c]; rfl), if_pos c]; rfl
  · have ht : t < g 4 := by omega
    have g4 : g 4 ≤ 16 := hc.1.1.1.2.1
    obtain ⟨i1, i2, i3⟩ := tx_in hc ht (md_lt x (g (txp g t))) (md_lt z (g (txp g t + 1)))
    obtain ⟨f1, f2, f3⟩ := hF.2.2.1 t ht
    have rl := hrow.len
    have l4 := hp.L304
    have l5 := hp.L305
    have l6 := hp.L306
    have rL := hrow.2.1
    rw [if_neg c, n255_nI c, if_neg (show ¬ nI t = -1 from fun z => by
      rw [show (-1 : Int32) = zI (-1) from rfl, nI_z, zI_eq (by omega) (by omega) (by omega) (by omega)] at z
      omega), vl_I_ok (by omega) (by omega), obs, vl_I_ok (by omega) (by omega), obs, slet, hp.P300, vl_I_ok (by omega) (by omega), obs, obs, f1, f2, f3, L_and z _ i3, L_and x _ i2, pk_mul, nI_add, nI_add, vl_I_ok (by omega) (by omega), obs, (hrow.2.2.2 _ i1).1]
theorem r_texel {t : Nat} {x z : Int64} (hk : rWk B g n s) (ht : t < g 4 ∨ t = 255) : ab_X17_texel (B + 639) (nI t) x z s = some (nI (txS g t x z), s) := by
  have hc := hk.C
  have hM := hk.1
  have hP := hk.2.2.2.1
  unfold ab_X17_texel txS
  by_cases c : t = 255
  · rw [if_pos (show nI t = 255 by rw [c]; rfl), if_pos c]; rfl
  · have ht : t < g 4 := by omega
    have g4 : g 4 ≤ 16 := hc.1.1.1.2.1
    obtain ⟨i1, i2, i3⟩ := tx_in hc ht (md_lt x (g (txp g t))) (md_lt z (g (txp g t + 1)))
    obtain ⟨w1, w2⟩ := rm_texW hM ht
    have w3 := rm_texel hM ht (md_lt x (g (txp g t))) (md_lt z (g (txp g t + 1)))
    rw [if_neg c, if_neg (show ¬ nI t = 255 from fun z => c (by rwa [show (255 : Int32) = nI 255 from rfl, nI_eq (by omega) (by omega)] at z)), slet, hP, w1, vbs, slet, hP, w2, vbs, slet, hP, r_mod z s _ i3, vbs, r_mod x s _ i2, vbs, show (2 : Int32) = nI 2 from rfl, show (16 : Int32) = nI 16 from rfl, pk_mul, nI_add, nI_add, w3, vbs]
theorem mv_neg {d : SD} (h : sdOk d) : (d.2.2.1 < 0) = (d.2.2.1 = -1) := by
  rcases h with ⟨h, -⟩ | ⟨h | h | h, -⟩ <;> rw [h] <;> decide
theorem r_count (hH : rHal B g s) (hv : ∀ j, j < g 5 → sdOk (D j)) (hD : secsR s (B + 656) (g 5) D) : ab_X13_many (B + 656) s = some (nI (cntM D (g 5)), s) := by
  have g5 := hH.1.2.1
  have loop : ∀ (d i fu : Nat), i + d = g 5 → d < fu → ab_X13_many_4 fu (B + 656) (nI (cntM D i)) (nI i) s = some (nI (cntM D (g 5)), s) := by
    intro d
    induction d with
    | zero =>
      intro i fu hi hf
      obtain ⟨fu, rfl⟩ : ∃ q, fu = q + 1 := ⟨fu - 1, by omega⟩
      show ab_X13_many_4b _ (B + 656) _ (nI i) s = _
      unfold ab_X13_many_4b
      rw [slet, hH.1.1, if_pos (nI_le (by omega) (by omega)), show i = g 5 by omega]
    | succ d ih =>
      intro i fu hi hf
      obtain ⟨fu, rfl⟩ : ∃ q, fu = q + 1 := ⟨fu - 1, by omega⟩
      have L := hH.2.1.2.2.1
      have e9 : vt_A s 1410 (B + 656) i = (D i).2.2.1 := (hD i (by omega)).2.2.1
      have := ih (i + 1) fu (by omega) (by omega)
      have e : cntM D (i + 1) = cntM D i + if (D i).2.2.1 = -1 then 0 else 1 := rfl
      show ab_X13_many_4b _ (B + 656) _ (nI i) s = _
      unfold ab_X13_many_4b ab_X13_many_27
      rw [slet, hH.1.1, if_neg (nI_ge (by omega) (by omega)), vl_I_ok (by omega) (by omega), obs, e9, ifc (mv_neg (hv i (by omega))), nI_1, show (0 : Int32) = nI 0 from rfl, nI_add, nI_1]
      by_cases c : (D i).2.2.1 = -1
      · rw [if_pos c] at e ⊢
        rw [e] at this; exact this
      · rw [if_neg c] at e ⊢
        rw [e] at this; exact this
  exact loop (g 5) 0 sv_fuel (by omega) (fuel_ge (by omega))
/-- the light in a sector -/
def litS (g : Nat → Nat) (D : Nat → SD) (tk : Int32) (j : Nat) : Int32 := lightS (nI (g (scp g j + 7))) (nI (g (scp g j + 6))) tk (cntM D (g 5))
theorem max0 (x : Int32) : sv_max x 0 = if 0 ≤ x then x else 0 := by
  unfold sv_max
  by_cases c : x < 0
  · rw [if_pos c, if_neg (Int32.not_le.mpr c)]
  · rw [if_neg c, if_pos (Int32.not_lt.mp c)]
theorem c_lit {j : Nat} {tk : Int32} (hk : cWk B p g n s) (hj : j < g 5) (hD : secsC s p (g 5) D) : ab_X2_lightIn p (p + 11 + j) tk s = some (litS g D tk j, s) := by
  have hF := hk.2.2.2.2.2.1
  obtain ⟨-, -, -, -, f4, f5, -⟩ := hF.2.2.2.1 j hj
  rw [c_light tk hk.2.2.2.2.2.2.S.1 hk.2.2.2.2.1 hF.1.2.2.1 hD, f4, f5]
  rfl
theorem r_lit {j : Nat} (hH : rHal B g s) (hv : ∀ j, j < g 5 → sdOk (D j)) (hD : secsR s (B + 656) (g 5) D) (hj : j < g 5) : ab_X13_of (B + 656) (nI j) 2 s = some (litS g D (hTk B s) j, s) := by
  have g5 := hH.1.2.1
  obtain ⟨l1, l2, l3, l4, l5⟩ := hH.2.2.1
  obtain ⟨-, -, f3, f4, -⟩ := hH.2.2.2 j hj
  have e0 : ab_X13_isSector (B + 656) (nI j) s = some (1, s) := r_isSc hH.1.1 hj g5
  unfold ab_X13_of
  rw [e0, vbs, if_neg (by decide), if_neg (by decide), if_neg (by decide), if_pos rfl]
  unfold ab_X13_lightOf ab_X13_lightOf_66 ab_X13_lightOf_84 ab_X13_lightOf_94
  rw [vl_I_ok (by omega) (by omega), obs, f3, r_count hH hv hD, vbs, vl_I_ok (by omega) (by omega), obs, f4]
  unfold litS lightS
  rw [slet, slet]
  show vt_b (if _ then _ else _) _ = some (if _ then (if 4 ≤ hTk B s - hTk B s / 16 * 16 then _ else _) else (if _ then (if hTk B s / 32 - hTk B s / 32 / 2 * 2 = 0 then _ else _) else _), s)
  unfold hTk
  rw [max0]
  generalize vt_I s 1415 (B + 656) = t
  generalize nI (g (scp g j + 7)) = kd
  generalize nI (g (scp g j + 6)) = lt
  generalize nI (cntM D (g 5)) = cn
  by_cases c1 : kd = 1
  · rw [if_pos c1, if_pos c1]
    by_cases c2 : 4 ≤ t - t / 16 * 16
    · rw [if_pos c2, if_pos c2, vbs]
    · rw [if_neg c2, if_neg c2, vbs]
  rw [if_neg c1, if_neg c1]
  by_cases c2 : kd = 2
  · rw [if_pos c2, if_pos c2]
    by_cases c3 : t / 32 - t / 32 / 2 * 2 = 0
    · rw [if_pos c3, if_pos c3, vbs]
    · rw [if_neg c3, if_neg c3, vbs]
  rw [if_neg c2, if_neg c2]
  by_cases c3 : kd = 3
  · rw [if_pos c3, if_pos c3]
    by_cases c4 : 0 ≤ lt - cn
    · rw [if_pos c4, if_pos c4, vbs]
    · rw [if_neg c4, if_neg c4, vbs]
  rw [if_neg c3, if_neg c3, vbs]
/-- the eye -/
def eyS (D : Nat → SD) (j : Nat) : Int32 := (D j).1 + 41
theorem c_eye {k : WK} (hk : cWk B p g n s) (hD : secsC s p (g 5) D) (hw : wkC B s k) (hj : k.2.2 < g 5) : ab_X10_eye (B + 628) s = some (eyS D k.2.2, s) := by
  have g5 := hk.2.2.2.2.2.2.S.1
  have L := hk.2.2.2.2.1.L307
  unfold ab_X10_eye
  rw [slet, hk.2.1, slet, hw.2.2, vl_P_ok (by omega) (by omega), obs, hk.2.2.2.2.1.E307 _ (by omega), slet, (hD _ hj).1]
  rfl
theorem r_eye {k : WK} (hP : vt_P s 1803 (B + 639) = B + 656) (hH : rHal B g s) (hD : secsR s (B + 656) (g 5) D) (hw : vt_I s 1814 (B + 639) = nI k.2.2) (hj : k.2.2 < g 5) : ab_X17_eye (B + 639) s = some (eyS D k.2.2, s) := by
  have g5 := hH.1.2.1
  have L := hH.2.1.1
  unfold ab_X17_eye
  rw [slet, hP, slet, hw, vl_I_ok (by omega) (by omega), obs, (hD _ hj).1]
  rfl
end VW
