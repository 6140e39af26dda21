section MT
variable {Y : Nat} {y : RY} {g : Nat → Nat}
/-- the rays stand at a place and look along a way -/
def aimC (s : vt_S) (Y : Nat) (y : RY) : Prop := vt_I s 407 Y = zI y.1 ∧ vt_I s 408 Y = zI y.2.1 ∧ vt_I s 409 Y = zI y.2.2.1 ∧ vt_I s 410 Y = zI y.2.2.2
theorem aimC.k {s s1 : vt_S} (h : aimC s Y y) (k : rayk Y s s1) : aimC s1 Y y := by
  unfold aimC
  rw [k.I (by omega), k.I (by omega), k.I (by omega), k.I (by omega)]
  exact h
theorem c_gap (hy : ryOk y) {m : Nat → Nat} {c w : Nat} {s : vt_S} (hc : c < 128) (hm : ∀ j, j < c → rmet y g (m j)) (hw : rmet y g w) (hL : rayL Y s) (h6 : vt_I s 406 Y = nI c) (h : ∀ j, j < c → rayC s Y y g m j) : ∃ s1, ab_X3_makeGap Y (zL (rov y g w)) (zL (run y g w)) s = some (nI (insP (rlt y g) m w c), s1) ∧ rayk Y s s1 ∧ vt_I s1 406 Y = nI (c + 1) ∧ (∀ j, j < insP (rlt y g) m w c → rayC s1 Y y g m j) ∧ (∀ j, insP (rlt y g) m w c < j → j ≤ c → rayC s1 Y y g (fun i => m (i - 1)) j) := by
  obtain ⟨s1, e1, e2, e3, e4, e5⟩ := c_gap_loop (Y := Y) (g := g) hy hc hm hw c sv_fuel (vu_I s 406 Y (nI (c + 1))) (Nat.le_refl _) (fuel_ge (by omega)) (hL.of rfl) h (fun j hj hj2 => by omega)
  refine ⟨s1, ?_, rayk.refl.put.trans e2, by rw [e3, I_at], e4, e5⟩
  unfold ab_X3_makeGap
  simp only [slet]
  rw [h6, nI_1, I_at]
  exact e1
set_option maxHeartbeats 2000000 in
/-- a wall that the ray meets is put in its place, another one is passed over -/
theorem c_meet (hy : ryOk y) {m : Nat → Nat} {c w x share : Nat} {s : vt_S} (hc : c < 128) (hw : w < 128) (hsh : share ≤ 4) (hm : ∀ j, j < c → rmet y g (m j)) (hL : rayL Y s) (h6 : vt_I s 406 Y = nI c) (hA : aimC s Y y) (hx : wallF s x g (wlp g w)) (h : ∀ j, j < c → rayC s Y y g m j) :
    ∃ s1, ab_X3_meet Y x (nI w) (nI share) s = some ((), s1) ∧ rayk Y s s1 ∧ ((rmet y g w ∧ rov y g w * share ≤ run y g w ∧ vt_I s1 406 Y = nI (c + 1) ∧ ∀ j, j < c + 1 → rayC s1 Y y g (insM m (insP (rlt y g) m w c) w) j) ∨ (¬ (rmet y g w ∧ rov y g w * share ≤ run y g w) ∧ s1 = s)) := by
  obtain ⟨w0, w1, w2, w3, -⟩ := hx
  obtain ⟨i7, i8, i9, i10⟩ := hA
  obtain ⟨ra, rb, rc⟩ := r_rng hy g w
  obtain ⟨rd, re⟩ := rov_rng hy g w
  obtain ⟨⟨y1, y2⟩, ⟨y3, y4⟩, ⟨y5, y6⟩, ⟨y7, y8⟩⟩ := id hy
  have a1 : -32768 ≤ aX g (wlp g w) ∧ aX g (wlp g w) ≤ 32767 := pr_rng _ _
  have a2 : -32768 ≤ aY g (wlp g w) ∧ aY g (wlp g w) ≤ 32767 := pr_rng _ _
  have a3 : -32768 ≤ bX g (wlp g w) ∧ bX g (wlp g w) ≤ 32767 := pr_rng _ _
  have a4 : -32768 ≤ bY g (wlp g w) ∧ bY g (wlp g w) ≤ 32767 := pr_rng _ _
  have w0 : vt_I s 1200 x = zI (aX g (wlp g w)) := w0
  have w1 : vt_I s 1201 x = zI (aY g (wlp g w)) := w1
  have w2 : vt_I s 1202 x = zI (bX g (wlp g w)) := w2
  have w3 : vt_I s 1203 x = zI (bY g (wlp g w)) := w3
  have D1 : r1 y g w = y.2.2.1 * (aY g (wlp g w) - y.2.1) - y.2.2.2 * (aX g (wlp g w) - y.1) := rfl
  have D2 : r2 y g w = y.2.2.1 * (bY g (wlp g w) - y.2.1) - y.2.2.2 * (bX g (wlp g w) - y.1) := rfl
  have D3 : rp y g w = (aX g (wlp g w) - y.1) * (bY g (wlp g w) - aY g (wlp g w)) - (aY g (wlp g w) - y.2.1) * (bX g (wlp g w) - aX g (wlp g w)) := rfl
  generalize aX g (wlp g w) = ax at *
  generalize aY g (wlp g w) = ay at *
  generalize bX g (wlp g w) = bx at *
  generalize bY g (wlp g w) = bv at *
  -- the two sides
  have e94 : ab_X3_meet Y x (nI w) (nI share) s = ab_X3_meet_94 Y x (nI w) (nI share) (zL (r1 y g w)) (zL (r2 y g w)) (bI (decide (r1 y g w < 0))) (bI (decide (r2 y g w < 0))) s := by
    unfold ab_X3_meet ab_X12_cross ab_X3_meet_82
    simp only [slet]
    rw [i7, i8, i9, i10, w0, w1, zI_sub, zI_sub, zI_wide (by omega) (by omega), zI_wide (by omega) (by omega), zI_wide (by omega) (by omega), zI_wide (by omega) (by omega), zL_mul, zL_mul, zL_sub, vbs, ← D1]
    rw [i7, i8, i9, i10, w2, w3, zI_sub, zI_sub, zI_wide (by omega) (by omega), zI_wide (by omega) (by omega), zI_wide (by omega) (by omega), zI_wide (by omega) (by omega), zL_mul, zL_mul, zL_sub, vbs, ← D2]
    have g1 := lg_ge (a := r1 y g w) (b := 0) (by omega) (by omega) (by omega) (by omega)
    have g2 := lg_ge (a := r2 y g w) (b := 0) (by omega) (by omega) (by omega) (by omega)
    rw [show (0 : Int64) = zL 0 from rfl]
    have f2 : ∀ u : Int32, (if (0 : Int32) ≤ lg_cmp (zL (r2 y g w)) (zL 0) then ab_X3_meet_94 Y x (nI w) (nI share) (zL (r1 y g w)) (zL (r2 y g w)) u 0 s else ab_X3_meet_94 Y x (nI w) (nI share) (zL (r1 y g w)) (zL (r2 y g w)) u 1 s) = ab_X3_meet_94 Y x (nI w) (nI share) (zL (r1 y g w)) (zL (r2 y g w)) u (bI (decide (r2 y g w < 0))) s := by
      intro u
      by_cases c2 : r2 y g w < 0
      · rw [if_neg (show ¬ (0 : Int32) ≤ _ by rw [show (0 : Int32) = zI 0 from rfl, g2]; omega), decide_eq_true c2]; rfl
      · rw [if_pos (show (0 : Int32) ≤ _ by rw [show (0 : Int32) = zI 0 from rfl, g2]; omega), decide_eq_false c2]; rfl
    rw [f2, f2]
    by_cases c1 : r1 y g w < 0
    · rw [if_neg (show ¬ (0 : Int32) ≤ _ by rw [show (0 : Int32) = zI 0 from rfl, g1]; omega), decide_eq_true c1]; rfl
    · rw [if_pos (show (0 : Int32) ≤ _ by rw [show (0 : Int32) = zI 0 from rfl, g1]; omega), decide_eq_false c1]; rfl
  rw [e94]
  unfold ab_X3_meet_94
  by_cases cs : decide (r1 y g w < 0) = decide (r2 y g w < 0)
  · rw [if_pos (by rw [cs])]
    refine ⟨s, rfl, rayk.refl, Or.inr ⟨fun z => ?_, rfl⟩⟩
    have := z.1.1
    rw [decide_eq_decide] at cs
    omega
  have side : (r1 y g w < 0 ∧ 0 ≤ r2 y g w) ∨ (0 ≤ r1 y g w ∧ r2 y g w < 0) := by
    rw [decide_eq_decide] at cs
    omega
  rw [if_neg (fun z => cs (by
    cases h1 : decide (r1 y g w < 0) <;> cases h2 : decide (r2 y g w < 0) <;> rw [h1, h2] at z <;> first | rfl | exact absurd z (by decide)))]
  unfold ab_X12_cross
  simp only [slet]
  rw [i7, i8, w0, w1, w2, w3, zI_sub, zI_sub, zI_sub, zI_sub, zI_wide (by omega) (by omega), zI_wide (by omega) (by omega), zI_wide (by omega) (by omega), zI_wide (by omega) (by omega), zL_mul, zL_mul, zL_sub, vbs, ← D3, zL_neg]
  have g3 := lg_le (a := r2 y g w) (b := r1 y g w) (by omega) (by omega) (by omega) (by omega)
  have e159 : (if lg_cmp (zL (r2 y g w)) (zL (r1 y g w)) ≤ 0 then ab_X3_meet_159 Y (nI w) (nI share) (zL (r1 y g w)) (zL (r2 y g w)) (zL (rp y g w)) (zL (-rp y g w)) s else ab_X3_meet_159 Y (nI w) (nI share) (zL (r1 y g w)) (zL (r2 y g w)) (zL (rp y g w)) (zL (rp y g w)) s) = ab_X3_meet_159 Y (nI w) (nI share) (zL (r1 y g w)) (zL (r2 y g w)) (zL (rp y g w)) (zL (rov y g w)) s := by
    unfold rov
    by_cases c1 : r1 y g w < r2 y g w
    · rw [if_neg (show ¬ lg_cmp _ _ ≤ (0 : Int32) by rw [show (0 : Int32) = zI 0 from rfl, g3]; omega), if_pos c1]
    · rw [if_pos (show lg_cmp _ _ ≤ (0 : Int32) by rw [show (0 : Int32) = zI 0 from rfl, g3]; omega), if_neg c1]
  rw [e159]
  unfold ab_X3_meet_159 ab_X3_meet_189
  simp only [slet]
  have eun : sv_absl (zL (r2 y g w) - zL (r1 y g w)) = zL (run y g w) := by
    rw [zL_sub, zL_abs (by omega) (by omega)]
    rfl
  rw [eun]
  have g4 := lg_le (a := rov y g w) (b := 0) (by omega) (by omega) (by omega) (by omega)
  by_cases c2 : rov y g w ≤ 0
  · rw [if_pos (show lg_cmp _ _ ≤ (0 : Int32) by rw [show (0 : Int64) = zL 0 from rfl, show (0 : Int32) = zI 0 from rfl, g4]; exact c2)]
    exact ⟨s, rfl, rayk.refl, Or.inr ⟨fun z => by have := z.1.2; omega, rfl⟩⟩
  rw [if_neg (show ¬ lg_cmp _ _ ≤ (0 : Int32) by rw [show (0 : Int64) = zL 0 from rfl, show (0 : Int32) = zI 0 from rfl, g4]; exact c2), nI_z share, zI_wide (by omega) (by omega), zL_mul]
  have ms := mulb (a := rov y g w) (b := (share : Int)) (A := 17401901760) (C := 4) (by omega) (by omega) (by omega) (by omega)
  have g5 := lg_le (a := rov y g w * share) (b := run y g w) (by omega) (by omega) (by omega) (by omega)
  have met : rmet y g w := ⟨side, by omega⟩
  by_cases c3 : rov y g w * share ≤ run y g w
  · rw [if_pos (show lg_cmp _ _ ≤ (0 : Int32) by rw [show (0 : Int32) = zI 0 from rfl, g5]; exact c3)]
    obtain ⟨s1, e1, e2, e3, e4, e5⟩ := c_gap hy hc hm met hL h6 h
    have il := insP_le (rlt y g) m w c
    obtain ⟨l0, l1, l2, l3, l4, l5⟩ := id (hL.of e2.L)
    rw [e1, vbs, vs_I_ok (by omega) (by omega), obs]
    have LB : ∀ {s : vt_S} {f a i : Nat} {v : Int64}, vt_L (vu_B s f a i v) = vt_L s := fun {s f a i v} => rfl
    have e226 : ∀ b : Bool, ab_X3_meet_226 Y (zL (r1 y g w)) (zL (r2 y g w)) (zL (rov y g w)) (zL (run y g w)) (nI (insP (rlt y g) m w c)) Y (nI (insP (rlt y g) m w c)) (bI b) (vu_A s1 400 Y (insP (rlt y g) m w c) (nI w)) = some ((), ray6 s1 Y (insP (rlt y g) m w c) (nI w) (bI b) (zL (rov y g w)) (zL (run y g w)) (zL (r1 y g w)) (zL (r2 y g w))) := by
      intro b
      unfold ab_X3_meet_226
      rw [nar_b, vs_I_ok (by rw [L_A]; omega) (by rw [L_A]; omega), obs, vs_J_ok (by rw [L_A, L_A]; omega) (by rw [L_A, L_A]; omega), obs, vs_J_ok (by rw [LB, L_A, L_A]; omega) (by rw [LB, L_A, L_A]; omega), obs, vs_J_ok (by rw [LB, LB, L_A, L_A]; omega) (by rw [LB, LB, L_A, L_A]; omega), obs, vs_J_ok (by rw [LB, LB, LB, L_A, L_A]; omega) (by rw [LB, LB, LB, L_A, L_A]; omega), obs]
      rfl
    have g6 := lg_ge (a := rp y g w) (b := 0) (by omega) (by omega) (by omega) (by omega)
    have efr : (if (0 : Int32) ≤ lg_cmp (zL (rp y g w)) 0 then ab_X3_meet_226 Y (zL (r1 y g w)) (zL (r2 y g w)) (zL (rov y g w)) (zL (run y g w)) (nI (insP (rlt y g) m w c)) Y (nI (insP (rlt y g) m w c)) 0 (vu_A s1 400 Y (insP (rlt y g) m w c) (nI w)) else ab_X3_meet_226 Y (zL (r1 y g w)) (zL (r2 y g w)) (zL (rov y g w)) (zL (run y g w)) (nI (insP (rlt y g) m w c)) Y (nI (insP (rlt y g) m w c)) 1 (vu_A s1 400 Y (insP (rlt y g) m w c) (nI w))) = some ((), ray6 s1 Y (insP (rlt y g) m w c) (nI w) (bI (rfr y g w)) (zL (rov y g w)) (zL (run y g w)) (zL (r1 y g w)) (zL (r2 y g w))) := by
      unfold rfr
      by_cases c4 : rp y g w < 0
      · rw [if_neg (show ¬ (0 : Int32) ≤ _ by rw [show (0 : Int32) = zI 0 from rfl, show (0 : Int64) = zL 0 from rfl, g6]; omega), decide_eq_true c4]
        exact e226 true
      · rw [if_pos (show (0 : Int32) ≤ _ by rw [show (0 : Int32) = zI 0 from rfl, show (0 : Int64) = zL 0 from rfl, g6]; omega), decide_eq_false c4]
        exact e226 false
    rw [efr]
    refine ⟨_, rfl, e2.trans ray6_k, Or.inl ⟨met, c3, ?_, fun j hj => ?_⟩⟩
    · show vt_I s1 406 Y = _
      exact e3
    · obtain ⟨q0, q1, q2, q3, q4, q5⟩ := ray6_at (s := s1) (Y := Y) (j := insP (rlt y g) m w c) (i := j) (a := nI w) (b := bI (rfr y g w)) (c := zL (rov y g w)) (d := zL (run y g w)) (e := zL (r1 y g w)) (f := zL (r2 y g w))
      unfold rayC insM
      rw [q0, q1, q2, q3, q4, q5]
      by_cases z1 : j < insP (rlt y g) m w c
      · have z3 : ¬ j = insP (rlt y g) m w c := Nat.ne_of_lt z1
        rw [if_pos z1, if_neg z3, if_neg z3, if_neg z3, if_neg z3, if_neg z3, if_neg z3]
        exact e4 j z1
      · rw [if_neg z1]
        by_cases z2 : j = insP (rlt y g) m w c
        · rw [if_pos z2, if_pos z2, if_pos z2, if_pos z2, if_pos z2, if_pos z2, if_pos z2]
          exact ⟨rfl, rfl, rfl, rfl, rfl, rfl⟩
        · rw [if_neg z2, if_neg z2, if_neg z2, if_neg z2, if_neg z2, if_neg z2, if_neg z2]
          exact e5 j (by omega) (by omega)
  · rw [if_neg (show ¬ lg_cmp _ _ ≤ (0 : Int32) by rw [show (0 : Int32) = zI 0 from rfl, g5]; exact c3)]
    exact ⟨s, rfl, rayk.refl, Or.inr ⟨fun z => c3 z.2, rfl⟩⟩
end MT
