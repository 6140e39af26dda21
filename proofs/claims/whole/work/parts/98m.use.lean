-- THE WALKER uses what is ahead
def useS (g : Nat → Nat) (y : RY) (D E : Nat → SD) : Prop :=
  if (qcl y g 4).2 = 0 then E = D
  else if rfr y g ((qcl y g 4).1 0) = false then E = D
  else if g (wlp g ((qcl y g 4).1 0) + 12) = 1 ∧ g (wlp g ((qcl y g 4).1 0) + 3) ≠ 255 then ∃ r, startS 0 g (g (wlp g ((qcl y g 4).1 0) + 3)) (g 6) D r ∧ E = updD D (g (wlp g ((qcl y g 4).1 0) + 3)) r
  else if g (wlp g ((qcl y g 4).1 0) + 12) = 4 then stFrom 1 (fun j => decide (g (scp g j + 8) = g (wlp g ((qcl y g 4).1 0) + 13))) g (g 6) (g 5) 0 D E
  else E = D
theorem useS.uniq {g : Nat → Nat} {y : RY} {D E F : Nat → SD} (h : useS g y D E) (k : useS g y D F) : E = F := by
  unfold useS at h k
  split at h
  · next c => rw [if_pos c] at k; rw [h, k]
  · next c =>
    rw [if_neg c] at k
    split at h
    · next c => rw [if_pos c] at k; rw [h, k]
    · next c =>
      rw [if_neg c] at k
      split at h
      · next c =>
        rw [if_pos c] at k
        obtain ⟨r, h1, h2⟩ := h
        obtain ⟨q, k1, k2⟩ := k
        rw [h2, k2, h1.uniq (by omega) k1]
      · next c =>
        rw [if_neg c] at k
        split at h
        · next c => rw [if_pos c] at k; exact h.uniq (by omega) _ _ _ _ _ k
        · next c => rw [if_neg c] at k; rw [h, k]
section US
variable {B p n : Nat} {g : Nat → Nat} {D : Nat → SD} {s : vt_S} {y : RY}
theorem us0 (c0 : (qcl y g 4).2 = 0) : useS g y D D := by unfold useS; rw [if_pos c0]
theorem us1 {w : Nat} (c0 : (qcl y g 4).2 ≠ 0) (hw : (qcl y g 4).1 0 = w) (c1 : rfr y g w = false) : useS g y D D := by
  unfold useS; rw [hw, if_neg c0, if_pos c1]
theorem us2 {w : Nat} {r : SD} (c0 : (qcl y g 4).2 ≠ 0) (hw : (qcl y g 4).1 0 = w) (c1 : rfr y g w = true) (ck : g (wlp g w + 12) = 1) (cb : g (wlp g w + 3) ≠ 255) (h : startS 0 g (g (wlp g w + 3)) (g 6) D r) : useS g y D (updD D (g (wlp g w + 3)) r) := by
  unfold useS; rw [hw, if_neg c0, if_neg (by rw [c1]; decide), if_pos ⟨ck, cb⟩]; exact ⟨r, h, rfl⟩
theorem us3 {w : Nat} {E : Nat → SD} (c0 : (qcl y g 4).2 ≠ 0) (hw : (qcl y g 4).1 0 = w) (c1 : rfr y g w = true) (c4 : g (wlp g w + 12) = 4) (h : stFrom 1 (fun j => decide (g (scp g j + 8) = g (wlp g w + 13))) g (g 6) (g 5) 0 D E) : useS g y D E := by
  unfold useS; rw [hw, if_neg c0, if_neg (by rw [c1]; decide), if_neg (by omega), if_pos c4]; exact h
theorem us4 {w : Nat} (c0 : (qcl y g 4).2 ≠ 0) (hw : (qcl y g 4).1 0 = w) (c1 : rfr y g w = true) (c : ¬ (g (wlp g w + 12) = 1 ∧ g (wlp g w + 3) ≠ 255)) (c4 : g (wlp g w + 12) ≠ 4) : useS g y D D := by
  unfold useS; rw [hw, if_neg c0, if_neg (by rw [c1]; decide), if_neg c, if_neg c4]
theorem updD_ok {k : Nat} {r : SD} (hv : ∀ j, j < g 5 → sdOk (D j)) (hr : sdOk r) : ∀ j, j < g 5 → sdOk (updD D k r j) := by
  intro j hj
  unfold updD
  split
  · exact hr
  · exact hv j hj
theorem c_use (hy : ryOk y) (hk : cWk B p g n s) (hD : secsC s p (g 5) D) (hv : ∀ j, j < g 5 → sdOk (D j)) (hw1 : vt_I s 1102 (B + 628) = zI y.1) (hw2 : vt_I s 1103 (B + 628) = zI y.2.1) : ∃ s1 E, ab_X10_use (B + 628) (zI y.2.2.1) (zI y.2.2.2) s = some ((), s1) ∧ secsC s1 p (g 5) E ∧ (∀ j, j < g 5 → sdOk (E j)) ∧ useS g y D E := by
  obtain ⟨s1, s2, a1, a2, a3, a4, a5, a6, a7⟩ := c_close (share := 4) (by omega) (by omega) hy hk
  have hD2 : secsC s2 p (g 5) D := a4.keep0 (P := fun t => secsC t p (g 5) D) hD
  have hS := hk.2.2.2.2.2.2.S
  have q0 := qcl_in (g := g) (y := y) (share := 4)
  unfold ab_X10_use ab_X10_use_51
  rw [slet, slet, slet, hk.2.2.1, hw1, hw2, a1, vbs, slet, slet, a5.2.2.1, a5.2.1, show (4 : Int32) = nI 4 from rfl, a3, vbs, slet, slet, a6.2.2.1, a7.1]
  by_cases c0 : (qcl y g 4).2 = 0
  · rw [if_pos (show nI (qcl y g 4).2 = 0 by rw [c0]; rfl)]
    exact ⟨s2, D, rfl, hD2, hv, us0 c0⟩
  rw [if_neg (show ¬ nI (qcl y g 4).2 = 0 from fun z => c0 (by rwa [show (0 : Int32) = nI 0 from rfl, nI_eq (by omega) (by omega)] at z))]
  obtain ⟨-, hwi⟩ := q0.2 0 (by omega)
  obtain ⟨x1, x2, -⟩ := a7.2 0 (by omega)
  have hL := a6.2.2.2.1
  have hp := a6.2.2.2.2.1
  have L8 := hp.L308
  have hF := a6.V.2.2 _ hwi
  obtain ⟨v1, v2, v3, v4⟩ := hk.2.2.2.2.2.2.wV hwi
  rw [slet, show (0 : Int32) = nI 0 from rfl, vl_I_ok (by rw [hL.2.1]; omega) (by rw [hL.2.1]; omega), obs, x2]
  generalize hqw : (qcl y g 4).1 0 = w at *
  by_cases c1 : rfr y g w = false
  · rw [c1, if_pos (show bI false = nI 0 from rfl)]
    exact ⟨s2, D, rfl, hD2, hv, us1 c0 hqw c1⟩
  rw [Bool.not_eq_false] at c1
  rw [c1, if_neg (show ¬ bI true = nI 0 by decide), slet, slet, vl_I_ok (by rw [hL.1]; omega) (by rw [hL.1]; omega), obs, x1, a6.2.1, vl_P_ok (by omega) (by omega), obs, hp.E308 _ (by omega), slet, hF.2.2.2.2.2.2.2.2.2.2.1]
  have no : ab_X10_use_101 (B + 628) (p + 43 + 2 * w) s2 = if nI (g (wlp g w + 12)) = 4 then vt_b (ab_X2_startAll p 1 (nI (g (wlp g w + 13))) s2) fun _ h4 => some ((), h4) else some ((), s2) := by
    unfold ab_X10_use_101 ab_X10_use_121
    rw [slet, hF.2.2.2.2.2.2.2.2.2.2.1, slet, slet, a6.2.1, hF.2.2.2.2.2.2.2.2.2.2.2]
  have lift : g (wlp g w + 12) = 4 → ∃ s1 E, ab_X10_use_101 (B + 628) (p + 43 + 2 * w) s2 = some ((), s1) ∧ secsC s1 p (g 5) E ∧ (∀ j, j < g 5 → sdOk (E j)) ∧ stFrom 1 (fun j => decide (g (scp g j + 8) = g (wlp g w + 13))) g (g 6) (g 5) 0 D E := by
    intro z
    obtain ⟨s3, E, b1, -, b3, b4, b5⟩ := c_startAll (what := 1) (T := fun j => g (scp g j + 8)) (by omega) (fun j hj => a6.T8 hj) v4 hp a6.W a6.2.2.2.2.2.1.1.2.2.1 (fun j hj => a6.T hj) hD2 hv
    refine ⟨s3, E, ?_, b3, b5, b4⟩
    rw [no, z, if_pos (by decide), show (1 : Int32) = nI 1 from rfl, b1, vbs]
  by_cases ck : g (wlp g w + 12) = 1
  · rw [ck, if_pos (by decide), slet, hF.2.2.2.2.2.1]
    by_cases cb : g (wlp g w + 3) = 255
    · rw [if_pos ((n255_neg (by omega)).mpr cb), no, ck, if_neg (by decide)]
      exact ⟨s2, D, rfl, hD2, hv, us4 c0 hqw c1 (fun z => z.2 cb) (by omega)⟩
    · rw [if_neg (fun z => cb ((n255_neg (by omega)).mp z)), slet, slet, n255_nI cb]
      have hb : g (wlp g w + 3) < g 5 := v2.resolve_right cb
      obtain ⟨s3, r, b1, b2, b3, b4⟩ := c_startOne (what := 0) hp a6.W hb hD2 (by omega)
      refine ⟨s3, updD D (g (wlp g w + 3)) r, ?_, fun j hj => ?_, updD_ok hv (startS_ok (by omega) b4 (hv _ hb)), ?_⟩
      · unfold ab_X10_use_121
        rw [b1, vbs]
      · unfold updD
        by_cases z : j = g (wlp g w + 3)
        · rw [if_pos z, z]; exact b3
        · rw [if_neg z]; exact (hD2 j hj).keep b2.1 (by omega)
      · exact us2 c0 hqw c1 ck cb b4
  · rw [if_neg (show ¬ nI (g (wlp g w + 12)) = 1 from fun z => ck (by rwa [show (1 : Int32) = nI 1 from rfl, nI_eq (by omega) (by omega)] at z))]
    by_cases c4 : g (wlp g w + 12) = 4
    · obtain ⟨s3, E, b1, b2, b3, b4⟩ := lift c4
      exact ⟨s3, E, b1, b2, b3, us3 c0 hqw c1 c4 b4⟩
    · rw [no, if_neg (show ¬ nI (g (wlp g w + 12)) = 4 from fun z => c4 (by rwa [show (4 : Int32) = nI 4 from rfl, nI_eq (by omega) (by omega)] at z))]
      exact ⟨s2, D, rfl, hD2, hv, us4 c0 hqw c1 (fun z => ck z.1) c4⟩
theorem rcB_4 {w : Nat} : rcB y g 4 w = true ↔ 4 * rov y g w ≤ run y g w := by
  unfold rcB
  rw [decide_eq_true_eq]
  constructor <;> intro h <;> omega
theorem r_use {a : Nat} (ha : a < 64) (hy : ryOk y) (h3 : y.2.2.1 = cosT a) (h4 : y.2.2.2 = sinT a) (hk : rWk B g n s) (hD : secsR s (B + 656) (g 5) D) (hv : ∀ j, j < g 5 → sdOk (D j)) (hw1 : vt_I s 1811 (B + 639) = zI y.1) (hw2 : vt_I s 1812 (B + 639) = zI y.2.1) (hw3 : vt_I s 1813 (B + 639) = nI a) : ∃ s1 E, ab_X17_use (B + 639) s = some ((), s1) ∧ secsR s1 (B + 656) (g 5) E ∧ (∀ j, j < g 5 → sdOk (E j)) ∧ useS g y D E := by
  obtain ⟨s0, s1, a1, -, -, a3, a4⟩ := r_gather hy hk.1 hk.2.2.2.1 hk.2.2.2.2.2.1 hk.2.2.1 hw1 hw2
  have k1 := (vk_X17_gather vclT trivial a1).1
  have hk1 : rWk B g n s1 := k1.keep0 (P := rWk B g n) hk
  have hD1 : secsR s1 (B + 656) (g 5) D := k1.keep0 (P := fun t => secsR t (B + 656) (g 5) D) hD
  have hS := hk.C.S
  have qi := qal_in (y := y) (g := g)
  obtain ⟨q1, q2, q3⟩ := q_pre (y := y) (g := g) (share := 4)
  have y3 := hy.2.2.1
  have y4 := hy.2.2.2
  have g1 : vt_I s1 1821 (B + 639) = nI (qal y g).2 := a4.1
  have g2 : ∀ j, j < (qal y g).2 → vt_A s1 1820 (B + 639) j = nI ((qal y g).1 j) := a4.2
  unfold ab_X17_use ab_X17_use_63
  rw [slet, hw3, r_cos s a ha, vbs, slet, hw3, r_sin s a ha, vbs, ← h3, ← h4, zI_wide (by omega) (by omega), zI_wide (by omega) (by omega), a1, vbs, slet, g1]
  by_cases c0 : (qal y g).2 = 0
  · rw [if_pos (show nI (qal y g).2 = 0 by rw [c0]; rfl)]
    exact ⟨s1, D, rfl, hD1, hv, us0 (by omega)⟩
  rw [if_neg (show ¬ nI (qal y g).2 = 0 from fun z => c0 (by rwa [show (0 : Int32) = nI 0 from rfl, nI_eq (by omega) (by omega)] at z))]
  obtain ⟨hm, hwi⟩ := qi.2 0 (by omega)
  have hL1 := hk1.2.2.2.2.2.1
  obtain ⟨s2, b1, b2, b3, b4, b5, b6, b7, b8, b9⟩ := r_meets (B := B) hy hwi hk1.2.2.1 a3
  have k2 := (vk_X17_meets vclT trivial b1).1
  have hk2 : rWk B g n s2 := k2.keep0 (P := rWk B g n) hk1
  have hD2 : secsR s2 (B + 656) (g 5) D := k2.keep0 (P := fun t => secsR t (B + 656) (g 5) D) hD1
  have hL2 := hk2.2.2.2.2.2.1
  have e3 := q3 0 (by omega)
  rw [rcB_4] at e3
  have rg := rov_rng hy g ((qal y g).1 0)
  have el : ((0 : Int32) < lg_cmp (4 * zL (rov y g ((qal y g).1 0))) (zL (run y g ((qal y g).1 0)))) = (run y g ((qal y g).1 0) < 4 * rov y g ((qal y g).1 0)) := by
    rw [y_4, zL_mul, show (0 : Int32) = zI 0 from rfl, lg_gt (by omega) (by omega) (by omega) (by omega)]
  have l0 : vl_I s1 1820 (B + 639) 0 = some (nI ((qal y g).1 0)) := by
    rw [show (0 : Int32) = nI 0 from rfl, vl_I_ok (by omega) (by omega), g2 0 (by omega)]
  have l2 : vl_I s2 1820 (B + 639) 0 = some (nI ((qal y g).1 0)) := by
    rw [show (0 : Int32) = nI 0 from rfl, vl_I_ok (by omega) (by omega), b4, g2 0 (by omega)]
  rw [l0, obs, b1, vbs, rmB_iff.mpr hm, if_neg (show ¬ bI true = 0 by decide), slet, slet, b9 hm, b7, ifc el]
  by_cases c1 : run y g ((qal y g).1 0) < 4 * rov y g ((qal y g).1 0)
  · rw [if_pos c1]
    exact ⟨s2, D, rfl, hD2, hv, us0 (by omega)⟩
  rw [if_neg c1]
  have ql : 0 < (qcl y g 4).2 := e3.mp (by omega)
  have qe := q2 0 ql
  have nz : (qcl y g 4).2 ≠ 0 := by omega
  rw [slet, b8, l2]
  obtain ⟨v1, v2, v3, v4⟩ := hk.C.wV hwi
  have p3 := r_part (k := 3) hk2.1 hk2.2.2.2.1 hwi (by omega)
  have p13 := r_part (k := 13) hk2.1 hk2.2.2.2.1 hwi (by omega)
  have p14 := r_part (k := 14) hk2.1 hk2.2.2.2.1 hwi (by omega)
  generalize (qal y g).1 0 = w at *
  have hqw := qe.symm
  rw [show wP g (wlp g w) 3 = g (wlp g w + 3) from rfl] at p3
  rw [show wP g (wlp g w) 13 = g (wlp g w + 12) from rfl] at p13
  rw [show wP g (wlp g w) 14 = g (wlp g w + 13) from rfl] at p14
  by_cases c2 : rfr y g w = false
  · rw [c2, if_pos (show bI false = 0 from rfl)]
    exact ⟨s2, D, rfl, hD2, hv, us1 nz hqw c2⟩
  rw [Bool.not_eq_false] at c2
  rw [c2, if_neg (show ¬ bI true = 0 by decide), obs, show (3 : Int32) = nI 3 from rfl, p3, vbs, show (13 : Int32) = nI 13 from rfl, p13, vbs]
  have no : ab_X17_use_109 (B + 639) (nI w) s2 = if nI (g (wlp g w + 12)) = 4 then vt_b (ab_X17_startAll (B + 639) (nI (g (wlp g w + 13))) 1 s2) fun _ h4 => some ((), h4) else some ((), s2) := by
    unfold ab_X17_use_109 ab_X17_use_132
    rw [show (13 : Int32) = nI 13 from rfl, p13, vbs, show (14 : Int32) = nI 14 from rfl, p14, vbs]
  by_cases ck : g (wlp g w + 12) = 1
  · rw [ck, if_pos (by decide)]
    by_cases cb : g (wlp g w + 3) = 255
    · rw [if_pos (show nI (g (wlp g w + 3)) = 255 by rw [cb]; rfl), no, ck, if_neg (by decide)]
      exact ⟨s2, D, rfl, hD2, hv, us4 nz hqw c2 (fun z => z.2 cb) (by omega)⟩
    · have hb : g (wlp g w + 3) < g 5 := v2.resolve_right cb
      rw [if_neg (show ¬ nI (g (wlp g w + 3)) = 255 from fun z => cb (by rwa [show (255 : Int32) = nI 255 from rfl, nI_eq (by omega) (by omega)] at z)), slet, hk2.2.2.2.2.1]
      obtain ⟨s3, o, r, d1, d2, d3, d4⟩ := r_begin (what := 0) hk2.2.1.1 hk2.2.1.2.1 hb hD2 (hv _ hb) (by omega)
      refine ⟨s3, updD D (g (wlp g w + 3)) r, ?_, fun j hj => ?_, updD_ok hv (startS_ok (by omega) d4 (hv _ hb)), ?_⟩
      · unfold ab_X17_use_132
        rw [show (0 : Int32) = nI 0 from rfl, d1, vbs]
      · unfold updD
        by_cases z : j = g (wlp g w + 3)
        · rw [if_pos z, z]; exact d3
        · rw [if_neg z]; exact (hD2 j hj).keep d2 z
      · exact us2 nz hqw c2 ck cb d4
  · rw [if_neg (show ¬ nI (g (wlp g w + 12)) = 1 from fun z => ck (by rwa [show (1 : Int32) = nI 1 from rfl, nI_eq (by omega) (by omega)] at z)), no]
    by_cases c4 : g (wlp g w + 12) = 4
    · obtain ⟨s3, E, d1, -, d3, d4, d5⟩ := r_startAll (what := 1) (by omega) v4 hk2.1 hk2.2.1 hk2.2.2.2.2.2.2 hk2.2.2.2.1 hk2.2.2.2.2.1 hD2 hv
      refine ⟨s3, E, ?_, d3, d5, us3 nz hqw c2 c4 d4⟩
      rw [c4, if_pos (by decide), show (1 : Int32) = nI 1 from rfl, d1, vbs]
    · rw [if_neg (show ¬ nI (g (wlp g w + 12)) = 4 from fun z => c4 (by rwa [show (4 : Int32) = nI 4 from rfl, nI_eq (by omega) (by omega)] at z))]
      exact ⟨s2, D, rfl, hD2, hv, us4 nz hqw c2 (fun z => ck z.1) c4⟩
end US
