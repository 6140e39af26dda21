-- VIEW: ceilings and floors of both sides
section FL
variable {B p n : Nat} {g : Nat → Nat} {D : Nat → SD} {y : RY}
def ceP (y : RY) (g : Nat → Nat) (D : Nat → SD) (lt eye : Int32) (j : Nat) (r : Nat) : Int32 := if g (scp g j + 5) = 255 then skP r else plP y g (g (scp g j + 5)) lt (Int32.toInt64 ((D j).2.1 - eye)) r
def ceM (g : Nat → Nat) (j : Nat) : Int32 := (if g (scp g j + 5) = 255 then 1536 else 256) + nI j
def flP (y : RY) (g : Nat → Nat) (D : Nat → SD) (lt eye : Int32) (j : Nat) (r : Nat) : Int32 := plP y g (g (scp g j + 4)) lt (Int32.toInt64 ((D j).1 - eye)) r
theorem cMap.tV (h : cMap g n) {j : Nat} (hj : j < g 5) : g (scp g j + 4) < g 4 ∧ (g (scp g j + 5) < g 4 ∨ g (scp g j + 5) = 255) := ⟨(h.1.1.2.2.2.2.1 j hj).1.2.2.2.1, (h.1.1.2.2.2.2.1 j hj).1.2.2.2.2.1⟩
theorem c_ceil {c j top : Nat} {lt eye : Int32} {s : vt_S} (hy : ryOk y) (hc : c ≤ 48) (htp : top ≤ c) (hj : j < g 5) (h6 : vt_I s 1006 (B + 629) = nI top) (hD : secsC s p (g 5) D) (hk : cVy B p g n y eye s) : ∃ s1, ab_X9_paintCeiling (B + 629) p (nI c) (nI j) lt s = some ((), s1) ∧ vt_A s1 1002 (B + 629) = upR (vt_A s 1002 (B + 629)) top c (ceP y g D lt eye j) ∧ vt_A s1 1001 (B + 629) = upR (vt_A s 1001 (B + 629)) top c (fun _ => ceM g j) ∧ vk [] [1001, 1002] [] (fun _ => True) s s1 := by
  obtain ⟨⟨hW, hrow, h0, l1, l2, l3⟩, hA, he⟩ := id hk
  have hp := hW.2.2.2.2.1
  have hcm := hW.2.2.2.2.2.2
  have hF := hW.2.2.2.2.2.1
  have g5 := hcm.S.1
  have L7 := hp.L307
  obtain ⟨-, -, -, f3, -⟩ := hF.2.2.2.1 j hj
  have tv := (hcm.tV hj).2
  have g4 : g 4 ≤ 16 := hcm.1.1.1.2.1
  have z8 : vt_I s 708 (p + 11 + j) = (D j).2.1 := (hD j hj).2.1
  unfold ab_X9_paintCeiling ceM
  rw [vl_P_ok (by omega) (by omega), obs, hp.E307 j (by omega), slet, f3]
  by_cases c1 : g (scp g j + 5) = 255
  · have eP : ceP y g D lt eye j = skP := funext fun r => if_pos c1
    rw [if_pos (show zI (n255 (g (scp g j + 5))) = -1 by rw [c1]; rfl), slet, h6, eP, if_pos c1]
    obtain ⟨s1, a1, a2, a3, a4⟩ := c_sky_loop (B := B) (j := j) hc (x6 := top) (by omega) (c - top) top sv_fuel s (by omega) (fuel_ge (by omega)) l2 l1 h6
    exact ⟨s1, a1, funext a2, a3, a4⟩
  · have eP : ceP y g D lt eye j = plP y g (g (scp g j + 5)) lt (Int32.toInt64 ((D j).2.1 - eye)) := funext fun r => if_neg c1
    rw [if_neg (show ¬ zI (n255 (g (scp g j + 5))) = -1 from fun z => by
      rw [n255_nI c1, show (-1 : Int32) = zI (-1) from rfl, nI_z, zI_eq (by omega) (by omega) (by omega) (by omega)] at z
      omega), slet, slet, slet, h6, z8, eP, if_neg c1]
    obtain ⟨s1, a1, a2, a3⟩ := c_plane (a := top) (b := c) (z := (D j).2.1) (lt := lt) hy tv (by omega) hc hk
    obtain ⟨s2, b1, b2, b3⟩ := c_mark (V := B + 629) (a := top) (b := c) (v := 256 + nI j) (by omega) hc (a3.keep0 (P := fun t => vt_L t 1001 (B + 629) = 48) l1)
    have h6' : vt_I s1 1006 (B + 629) = nI top := by rw [a3.eI (by decide)]; exact h6
    refine ⟨s2, ?_, ?_, ?_, (a3.weak (by decide) (by decide) (by decide)).trans (b3.weak (by decide) (by decide) (by decide))⟩
    · rw [a1, vbs, slet, h6', b1, vbs]
    · rw [(b3.2.2.1 1002 (B + 629) (Or.inl (by decide))).1, a2]
    · rw [b2, (a3.2.2.1 1001 (B + 629) (Or.inl (by decide))).1]
/-- what the reference's painters need -/
def rVy (B : Nat) (g : Nat → Nat) (n : Nat) (y : RY) (D : Nat → SD) (sec : Nat) (tk : Int32) (s : vt_S) : Prop := rWk B g n s ∧ aimR B s y ∧ secsR s (B + 656) (g 5) D ∧ vt_I s 1814 (B + 639) = nI sec ∧ hTk B s = tk ∧ vt_L s 1824 (B + 639) = 48 ∧ vt_L s 1825 (B + 639) = 48 ∧ vt_L s 1822 (B + 639) = 128
theorem r_shade {j sec : Nat} {tk : Int32} {less : Int64} {s : vt_S} (hv : ∀ j, j < g 5 → sdOk (D j)) (hj : j < g 5) (hk : rVy B g n y D sec tk s) : ab_X17_shade (B + 639) (nI j) less s = some (shS (litS g D tk j) less, s) := by
  obtain ⟨hW, -, hD, -, ht, -⟩ := hk
  unfold ab_X17_shade ab_X17_shade_28 shS sv_maxl
  rw [slet, hW.2.2.2.2.1, r_lit hW.2.1 hv hD hj, ht, vbs]
  generalize Int32.toInt64 (litS g D tk j) - less = x
  by_cases c : x < 0
  · rw [if_neg (fun z => (lg0 x).mp z c), if_neg (fun z => Int64.lt_asymm c z)]; rfl
  · rw [if_pos ((lg0 x).mpr c)]
    by_cases d : 0 < x
    · rw [if_pos d]
    · have : x = 0 := Int64.le_antisymm (Int64.not_lt.mp d) (Int64.not_lt.mp c)
      rw [if_neg d, this]
def skB (sky : Bool) (f : Nat → Int32) (r : Nat) : Int32 := if sky then skP r else f r
theorem far_c (u : Int32) {r : Nat} (hr : r < 48) {α : Type} {X Y : α} : (if lg_cmp (Int32.toInt64 u) 0 ≤ 0 then (if 0 ≤ lg_cmp (Int32.toInt64 u) 0 then X else if 0 ≤ lg_cmp (zL (lowZ r)) 0 then X else Y) else if 0 < lg_cmp (zL (lowZ r)) 0 then Y else (if 0 ≤ lg_cmp (Int32.toInt64 u) 0 then X else if 0 ≤ lg_cmp (zL (lowZ r)) 0 then X else Y)) = if 0 < (Int32.toInt64 u).toInt * lowZ r then Y else X := by
  obtain ⟨i, e, h1, h2, h3⟩ := up_ex u
  have hl := low_rng hr
  rw [h3, e, show (0 : Int64) = zL 0 from rfl, show (0 : Int32) = zI 0 from rfl, ifc (lg_le (by omega) (by omega) (by omega) (by omega)), ifc (lg_ge (a := i) (b := 0) (by omega) (by omega) (by omega) (by omega)), ifc (lg_ge (a := lowZ r) (b := 0) (by omega) (by omega) (by omega) (by omega)), ifc (lg_gt (by omega) (by omega) (by omega) (by omega))]
  by_cases c1 : i ≤ 0
  · rw [if_pos c1]
    by_cases c2 : 0 ≤ i
    · have : i = 0 := by omega
      rw [if_pos c2, this, Int.zero_mul, if_neg (by omega)]
    · rw [if_neg c2]
      by_cases c3 : 0 ≤ lowZ r
      · have : i * lowZ r ≤ 0 := Int.mul_nonpos_of_nonpos_of_nonneg (by omega) c3
        rw [if_pos c3, if_neg (by omega)]
      · have : 0 < i * lowZ r := Int.mul_pos_of_neg_of_neg (by omega) (by omega)
        rw [if_neg c3, if_pos this]
  · rw [if_neg c1, if_pos (show 0 ≤ i by omega)]
    by_cases c3 : 0 < lowZ r
    · have : 0 < i * lowZ r := Int.mul_pos (by omega) c3
      rw [if_pos c3, if_pos this]
    · have : i * lowZ r ≤ 0 := Int.mul_nonpos_of_nonneg_of_nonpos (by omega) (by omega)
      rw [if_neg c3, if_neg (by omega)]
theorem r_flat_loop {b t j sec : Nat} {kd z eye tk : Int32} {sky : Bool} (hy : ryOk y) (hv : ∀ j, j < g 5 → sdOk (D j)) (hj : j < g 5) (ht : t < g 4 ∨ t = 255) (hb : b ≤ 48) : ∀ (d i fu : Nat) (s : vt_S), i + d = b → d < fu → rVy B g n y D sec tk s → ∃ s1, ab_X17_flat_80 fu (B + 639) (nI b) kd (nI j) (nI t) (bI sky) (Int32.toInt64 (z - eye)) (nI i) s = some ((), s1) ∧ (∀ r, vt_A s1 1825 (B + 639) r = if i ≤ r ∧ r < b then skB sky (plP y g t (litS g D tk j) (Int32.toInt64 (z - eye))) r else vt_A s 1825 (B + 639) r) ∧ (∀ r, vt_A s1 1824 (B + 639) r = if i ≤ r ∧ r < b then 256 * (if sky then 6 else kd) + nI j else vt_A s 1824 (B + 639) r) ∧ vk [] [1824, 1825] [] (fun _ => True) s s1 := by
  intro d
  induction d with
  | zero =>
    intro i fu s hi hf hk
    obtain ⟨fu, rfl⟩ : ∃ q, fu = q + 1 := ⟨fu - 1, by omega⟩
    refine ⟨s, ?_, fun r => by rw [if_neg (by omega)], fun r => by rw [if_neg (by omega)], vk.refl s⟩
    show ab_X17_flat_80b _ (B + 639) (nI b) kd _ _ _ _ (nI i) s = _
    unfold ab_X17_flat_80b
    rw [if_pos (nI_le (by omega) (by omega))]
  | succ d ih =>
    intro i fu s hi hf hk
    obtain ⟨fu, rfl⟩ : ∃ q, fu = q + 1 := ⟨fu - 1, by omega⟩
    have hi48 : i < 48 := by omega
    obtain ⟨hW, ⟨m1, m2, m3, m4⟩, hD, hsec, htk, l4, l5, l2⟩ := id hk
    obtain ⟨⟨q1, q1'⟩, ⟨q2, q2'⟩, ⟨q3, q3'⟩, ⟨q4, q4'⟩⟩ := id hy
    obtain ⟨t1, ht1⟩ : ∃ u, u = vu_A s 1824 (B + 639) i (256 * (if sky then 6 else kd) + nI j) := ⟨_, rfl⟩
    have k1 : vk [] [1824, 1825] [] (fun _ => True) s t1 := by rw [ht1]; exact vk.pA (vk.refl s) (by decide)
    have hk1 : rVy B g n y D sec tk t1 := k1.keep0 (P := rVy B g n y D sec tk) hk
    obtain ⟨t2, ht2⟩ : ∃ u, u = vu_A t1 1825 (B + 639) i (skB sky (plP y g t (litS g D tk j) (Int32.toInt64 (z - eye))) i) := ⟨_, rfl⟩
    have k2 : vk [] [1824, 1825] [] (fun _ => True) s t2 := by rw [ht2]; exact vk.pA k1 (by decide)
    obtain ⟨s1, a1, a2, a3, a4⟩ := ih (i + 1) fu t2 (by omega) (by omega) (k2.keep0 (P := rVy B g n y D sec tk) hk)
    have l5' : vt_L t1 1825 (B + 639) = 48 := hk1.2.2.2.2.2.2.1
    refine ⟨s1, ?_, fun r => ?_, fun r => ?_, k2.trans a4⟩
    · obtain ⟨up, hup⟩ : ∃ u, u = Int32.toInt64 (z - eye) := ⟨_, rfl⟩
      have b221 : ∀ (x12 : Int32) (x13 x15 : Int64), (¬ sky = true → 16 * nI (txS g t x13 x15) + shS (litS g D tk j) (if x12 = 0 then 0 else flD (64 * up) (zL (lowZ i))) = plP y g t (litS g D tk j) up i) → ab_X17_flat_199 (ab_X17_flat_80 fu) (B + 639) (nI b) kd (nI j) (nI t) (bI sky) up (nI i) (zL (lowZ i)) x12 x13 x15 s = some ((), s1) := by
        intro x12 x13 x15 hp
        have e1 : ab_X17_flat_199 (ab_X17_flat_80 fu) (B + 639) (nI b) kd (nI j) (nI t) (bI sky) up (nI i) (zL (lowZ i)) x12 x13 x15 s = ab_X17_flat_221 (ab_X17_flat_80 fu) (B + 639) (nI b) kd (nI j) (nI t) (bI sky) up (nI i) (zL (lowZ i)) x12 x13 x15 (B + 639) (nI i) 256 (if sky then 6 else kd) s := by
          unfold ab_X17_flat_199
          cases sky
          · rw [if_pos (show bI false = 0 from rfl)]; rfl
          · rw [if_neg (show ¬ bI true = 0 by decide)]; rfl
        rw [e1]
        unfold ab_X17_flat_221 ab_X17_flat_289 ab_X17_flat_293
        rw [vs_I_ok (by omega) (by omega), obs, ← ht1]
        cases hs : sky with
        | true =>
          rw [hs] at ht2 a1
          rw [if_neg (show ¬ bI true = 0 by decide), vs_I_ok (by omega) (by omega), obs, nI_1]
          have : vu_A t1 1825 (B + 639) i (16 * (15 - nI i / 4) + 15) = t2 := ht2.symm
          rw [this, hup]; exact a1
        | false =>
          have hp := hp (by rw [hs]; decide)
          rw [hs] at ht2 a1
          rw [if_pos (show bI false = 0 from rfl), r_texel hk1.1 ht, vbs]
          have e2 : vu_A t1 1825 (B + 639) i (plP y g t (litS g D tk j) up i) = t2 := by rw [ht2, hup]; rfl
          by_cases c : x12 = 0
          · rw [if_pos c] at hp ⊢
            rw [r_shade hv hj hk1, vbs, vs_I_ok (by omega) (by omega), obs, nI_1, hp, e2, hup]; exact a1
          · rw [if_neg c] at hp ⊢
            rw [r_flD (low_n0 hi48), vbs, r_shade hv hj hk1, vbs, vs_I_ok (by omega) (by omega), obs, nI_1, hp, e2, hup]; exact a1
      have b133 : ∀ x12 : Int32, x12 = (if 0 < up.toInt * lowZ i then 1 else 0) → ab_X17_flat_133 (ab_X17_flat_80 fu) (B + 639) (nI b) kd (nI j) (nI t) (bI sky) up (nI i) (zL (lowZ i)) x12 s = some ((), s1) := by
        intro x12 hx
        unfold ab_X17_flat_133 ab_X17_flat_166
        by_cases c : 0 < up.toInt * lowZ i
        · rw [if_pos c] at hx
          rw [hx, if_neg (by decide), slet, slet, m1, m3, r_flD (low_n0 hi48), vbs, if_neg (by decide), slet, slet, m2, m4, r_flD (low_n0 hi48), vbs, zI_wide (by omega) (by omega), zI_wide (by omega) (by omega)]
          refine b221 1 _ _ (fun _ => ?_)
          unfold plP plO
          rw [if_pos c, if_neg (by decide)]
        · rw [if_neg c] at hx
          rw [hx, if_pos rfl, slet, m1, if_pos rfl, slet, m2, zI_wide (by omega) (by omega), zI_wide (by omega) (by omega)]
          refine b221 0 _ _ (fun _ => ?_)
          unfold plP plO
          rw [if_neg c, if_pos rfl, Int64.mul_zero, Int64.mul_zero, Int64.mul_zero, flD_0, Int64.add_zero, Int64.add_zero]
      show ab_X17_flat_80b _ (B + 639) (nI b) kd _ _ _ _ (nI i) s = _
      unfold ab_X17_flat_80b ab_X17_flat_114 ab_X17_flat_128 ab_X17_flat_132
      rw [if_neg (nI_ge (by omega) (by omega)), low_L hi48, far_c (z - eye) hi48, ← hup]
      by_cases c : 0 < up.toInt * lowZ i
      · rw [if_pos c]; exact b133 1 (if_pos c).symm
      · rw [if_neg c]; exact b133 0 (if_neg c).symm
    · rw [a2, ht2, A_at, ht1, A_nf (show 1825 ≠ 1824 by decide)]
      exact upR_cons (v := skB sky (plP y g t (litS g D tk j) (Int32.toInt64 (z - eye)))) (by omega) r
    · rw [a3, ht2, A_nf (show 1824 ≠ 1825 by decide), ht1, A_at]
      exact upR_cons (v := fun _ => 256 * (if sky then 6 else kd) + nI j) (by omega) r
end FL
