-- A MOVE of the walker, in the class: what it comes to
def qcl (y : RY) (g : Nat → Nat) (share : Nat) : (Nat → Nat) × Nat := gat (rlt y g) (fun w => rmB y g w && rcB y g share w) (g 6)
def stAny (D : Nat → SD) (g : Nat → Nat) (y : RY) (q : (Nat → Nat) × Nat) : Prop := ∃ j, j < q.2 ∧ stB D g (q.1 j) (rfr y g (q.1 j)) = true
def farB (y : RY) : Prop := 40000 < (y.1 + y.2.2.1).natAbs ∨ 40000 < (y.2.1 + y.2.2.2).natAbs
abbrev WK : Type := Int × Int × Nat
def goS (g : Nat → Nat) (y : RY) (sec : Nat) (D : Nat → SD) (r : Bool) (E : Nat → SD) (k : WK) : Prop :=
  (r = false ∧ (farB y ∨ stAny D g y (qcl y g 1)) ∧ E = D ∧ k = (y.1, y.2.1, sec)) ∨
  (r = true ∧ ¬ farB y ∧ ¬ stAny D g y (qcl y g 1) ∧ crD g (qcl y g 1).1 (qcl y g 1).2 0 D E ∧ k = (y.1 + y.2.2.1, y.2.1 + y.2.2.2, secA g y (qcl y g 1).1 sec (qcl y g 1).2))
theorem goS.uniq {g : Nat → Nat} {y : RY} {sec : Nat} {D E E2 : Nat → SD} {r r2 : Bool} {k k2 : WK} (h : goS g y sec D r E k) (h2 : goS g y sec D r2 E2 k2) : r2 = r ∧ E2 = E ∧ k2 = k := by
  rcases h with ⟨a1, a2, a3, a4⟩ | ⟨a1, a2, a3, a4, a5⟩ <;> rcases h2 with ⟨b1, b2, b3, b4⟩ | ⟨b1, b2, b3, b4, b5⟩
  · exact ⟨b1.trans a1.symm, b3.trans a3.symm, b4.trans a4.symm⟩
  · exact absurd a2 (fun z => z.elim b2 b3)
  · exact absurd b2 (fun z => z.elim a2 a3)
  · exact ⟨b1.trans a1.symm, b4.uniq _ _ _ _ _ a4, b5.trans a5.symm⟩
def wkC (B : Nat) (s : vt_S) (k : WK) : Prop := vt_I s 1102 (B + 628) = zI k.1 ∧ vt_I s 1103 (B + 628) = zI k.2.1 ∧ vt_I s 1105 (B + 628) = nI k.2.2
def goW : List Nat := [406, 407, 408, 409, 410, 709, 710, 711, 712, 713, 1102, 1103, 1105]
section GO
variable {B p n : Nat} {g : Nat → Nat} {D : Nat → SD} {s : vt_S} {y : RY}
theorem c_aim {Y : Nat} : ∃ s1, ab_X3_aim Y (zI y.1) (zI y.2.1) (zI y.2.2.1) (zI y.2.2.2) s = some ((), s1) ∧ vk [407, 408, 409, 410] [] [] (fun _ => True) s s1 ∧ aimC s1 Y y := by
  refine ⟨vu_I (vu_I (vu_I (vu_I s 407 Y (zI y.1)) 408 Y (zI y.2.1)) 409 Y (zI y.2.2.1)) 410 Y (zI y.2.2.2), ?_, vk.pI (vk.pI (vk.pI (vk.pI (vk.refl s) (by decide)) (by decide)) (by decide)) (by decide), ?_⟩
  · unfold ab_X3_aim
    rw [slet, slet, slet, slet]
  · refine ⟨?_, ?_, ?_, I_at⟩
    · rw [I_ne (by omega), I_ne (by omega), I_ne (by omega), I_at]
    · rw [I_ne (by omega), I_ne (by omega), I_at]
    · rw [I_ne (by omega), I_at]
theorem c_close {share : Nat} (hs1 : 1 ≤ share) (hs4 : share ≤ 4) (hy : ryOk y) (hk : cWk B p g n s) : ∃ s1 s2, ab_X3_aim (B + 621) (zI y.1) (zI y.2.1) (zI y.2.2.1) (zI y.2.2.2) s = some ((), s1) ∧ vk goW [400, 401, 402, 403, 404, 405] [] (fun _ => True) s s1 ∧ ab_X3_meetClose (B + 621) p (nI share) s1 = some ((), s2) ∧ vk [406, 407, 408, 409, 410] [400, 401, 402, 403, 404, 405] [] (fun _ => True) s s2 ∧ cWk B p g n s1 ∧ cWk B p g n s2 ∧ rays s2 (B + 621) y g (qcl y g share) := by
  obtain ⟨s1, a1, a2, a3⟩ := c_aim (s := s) (Y := B + 621) (y := y)
  have hk1 : cWk B p g n s1 := a2.keep0 hk
  have hp := hk.1
  obtain ⟨s2, b1, b2, b3⟩ := c_meetClose (share := share) hy (p := p) (Y := B + 621) (by omega) (fun j hj => by omega) hs1 hs4 hk1.2.2.2.2.1 hk1.V hk1.2.2.2.1 a3
  have k1 := (vk_X3_meetClose vclT trivial trivial b1).1
  have k2 : vk [406, 407, 408, 409, 410] [400, 401, 402, 403, 404, 405] [] (fun _ => True) s s2 := (a2.weak (by decide) (by decide) (by decide)).trans (k1.weak (by decide) (by decide) (by decide))
  exact ⟨s1, s2, a1, a2.weak (by decide) (by decide) (by decide), b1, k2, hk1, k2.keep0 hk, b3⟩
theorem qcl_in {share : Nat} : (qcl y g share).2 ≤ g 6 ∧ ∀ j, j < (qcl y g share).2 → rmet y g ((qcl y g share).1 j) ∧ (qcl y g share).1 j < g 6 := by
  have h := gat_in (rlt y g) (fun w => rmB y g w && rcB y g share w) (g 6)
  refine ⟨h.1, fun j hj => ⟨?_, (h.2 j hj).2⟩⟩
  have := (h.2 j hj).1
  rw [Bool.and_eq_true] at this
  exact rmB_iff.mp this.1
theorem stB_back {w : Nat} {fr : Bool} (h : ¬ stB D g w fr = true) : g (wlp g w + 3) ≠ 255 := fun z => h (by unfold stB; rw [if_pos z])
theorem c_go61 {q : (Nat → Nat) × Nat} {sec : Nat} (hy : ryOk y) (hq : ∀ j, j < q.2 → q.1 j < g 6) (hq2 : q.2 ≤ 128) (hk : cWk B p g n s) (hr : rays s (B + 621) y g q) (hD : secsC s p (g 5) D) (hv : ∀ j, j < g 5 → sdOk (D j)) (hw : wkC B s (y.1, y.2.1, sec)) : ∀ (d i fu : Nat), i + d = q.2 → d < fu → (∀ j, j < i → ¬ stB D g (q.1 j) (rfr y g (q.1 j)) = true) → ∃ r s1 E k, ab_X10_go_61 fu (B + 628) (zI y.2.2.1) (zI y.2.2.2) (nI i) s = some (bI r, s1) ∧ vk [709, 710, 711, 712, 713, 1102, 1103, 1105] [] [] (fun _ => True) s s1 ∧ secsC s1 p (g 5) E ∧ (∀ j, j < g 5 → sdOk (E j)) ∧ wkC B s1 k ∧ ((r = false ∧ stAny D g y q ∧ E = D ∧ k = (y.1, y.2.1, sec)) ∨ (r = true ∧ ¬ stAny D g y q ∧ crD g q.1 q.2 0 D E ∧ k = (y.1 + y.2.2.1, y.2.1 + y.2.2.2, secA g y q.1 sec q.2))) := by
  intro d
  induction d with
  | zero =>
    intro i fu hi hf hs
    obtain ⟨fu, rfl⟩ : ∃ q, fu = q + 1 := ⟨fu - 1, by omega⟩
    have na : ¬ stAny D g y q := fun z => by
      obtain ⟨j, z1, z2⟩ := z
      exact hs j (by omega) z2
    have k1 : vk [709, 710, 711, 712, 713, 1102, 1103, 1105] [] [] (fun _ => True) s (vu_I (vu_I s 1102 (B + 628) (zI (y.1 + y.2.2.1))) 1103 (B + 628) (zI (y.2.1 + y.2.2.2))) := vk.pI (vk.pI (vk.refl s) (by decide)) (by decide)
    obtain ⟨s1, E, a1, a2, a3, a4, a5, a6⟩ := c_go135 (n := n) (B := B) (p := p) (g := g) (y := y) (q := q) (sec := sec) (fun j hj => ⟨hq j hj, Or.inr (stB_back (hs j (by omega)))⟩) hq2 q.2 0 sv_fuel (vu_I (vu_I s 1102 (B + 628) (zI (y.1 + y.2.2.1))) 1103 (B + 628) (zI (y.2.1 + y.2.2.2))) D (by omega) (fuel_ge (by omega)) (k1.keep0 hk) (k1.keep0 (P := fun t => rays t (B + 621) y g q) hr) hD hv (by rw [I_ne (by omega), I_ne (by omega)]; exact hw.2.2)
    refine ⟨true, s1, E, _, ?_, k1.trans (a2.weak (by decide) (by decide) (by decide)), a3, a4, ?_, Or.inr ⟨rfl, na, a5, rfl⟩⟩
    · show ab_X10_go_61b _ (B + 628) (zI y.2.2.1) (zI y.2.2.2) (nI i) s = _
      unfold ab_X10_go_61b
      rw [slet, hk.2.2.1, slet, hr.1, if_pos (nI_le (by omega) (by omega)), slet, slet, hw.1, zI_add, slet, slet, I_ne (by omega), hw.2.1, zI_add]
      exact a1
    · refine ⟨?_, ?_, a6⟩
      · rw [a2.eI (by decide), I_ne (by omega), I_at]
      · rw [a2.eI (by decide), I_at]
  | succ d ih =>
    intro i fu hi hf hs
    obtain ⟨fu, rfl⟩ : ∃ q, fu = q + 1 := ⟨fu - 1, by omega⟩
    have hwi := hq i (by omega)
    obtain ⟨x1, x2, -⟩ := hr.2 i (by omega)
    have hL := hk.2.2.2.1
    have hp := hk.2.2.2.2.1
    have L8 := hp.L308
    have hF := hk.V.2.2 _ hwi
    have hS := hk.2.2.2.2.2.2.S
    have e0 : ab_X10_go_61 (fu + 1) (B + 628) (zI y.2.2.1) (zI y.2.2.2) (nI i) s = if bI (stB D g (q.1 i) (rfr y g (q.1 i))) = 0 then ab_X10_go_61 fu (B + 628) (zI y.2.2.1) (zI y.2.2.2) (nI (i + 1)) s else some (0, s) := by
      show ab_X10_go_61b _ (B + 628) (zI y.2.2.1) (zI y.2.2.2) (nI i) s = _
      unfold ab_X10_go_61b
      rw [slet, hk.2.2.1, slet, hr.1, if_neg (nI_ge (by omega) (by omega)), slet, hk.2.1, slet, vl_I_ok (by rw [hL.1]; omega) (by rw [hL.1]; omega), obs, x1, vl_P_ok (by omega) (by omega), obs, hp.E308 _ (by omega), slet, vl_I_ok (by rw [hL.2.1]; omega) (by rw [hL.2.1]; omega), obs, x2, c_stops hk.2.2.2.2.2.2 hwi hk.2.1 hp hF hD, vbs, nI_1]
    rw [e0]
    by_cases c : stB D g (q.1 i) (rfr y g (q.1 i)) = true
    · rw [c, if_neg (by decide)]
      exact ⟨false, s, D, _, rfl, vk.refl s, hD, hv, hw, Or.inl ⟨rfl, ⟨i, by omega, c⟩, rfl, rfl⟩⟩
    · rw [if_pos (by rw [Bool.not_eq_true] at c; rw [c]; rfl)]
      exact ih (i + 1) fu (by omega) (by omega) (fun j hj => by
        by_cases z : j = i
        · rw [z]; exact c
        · exact hs j (by omega))
theorem c_go {sec : Nat} (hy : ryOk y) (hk : cWk B p g n s) (hD : secsC s p (g 5) D) (hv : ∀ j, j < g 5 → sdOk (D j)) (hw : wkC B s (y.1, y.2.1, sec)) : ∃ r s1 E k, ab_X10_go (B + 628) (zI y.2.2.1) (zI y.2.2.2) s = some (bI r, s1) ∧ vk goW [400, 401, 402, 403, 404, 405] [] (fun _ => True) s s1 ∧ secsC s1 p (g 5) E ∧ (∀ j, j < g 5 → sdOk (E j)) ∧ wkC B s1 k ∧ goS g y sec D r E k := by
  obtain ⟨s1, s2, a1, a2, a3, a4, a5, a6, a7⟩ := c_close (share := 1) (by omega) (by omega) hy hk
  have hD2 : secsC s2 p (g 5) D := a4.keep0 (P := fun t => secsC t p (g 5) D) hD
  have hw2 : wkC B s2 (y.1, y.2.1, sec) := a4.keep0 (P := fun t => wkC B t (y.1, y.2.1, sec)) hw
  have w1 : vt_I s2 1102 (B + 628) = zI y.1 := hw2.1
  have w2 : vt_I s2 1103 (B + 628) = zI y.2.1 := hw2.2.1
  have hS := hk.2.2.2.2.2.2.S
  have q0 := qcl_in (g := g) (y := y) (share := 1)
  have y1 := hy.1
  have y2 := hy.2.1
  have y3 := hy.2.2.1
  have y4 := hy.2.2.2
  have e0 : ab_X10_go (B + 628) (zI y.2.2.1) (zI y.2.2.2) s = if 40000 < (y.1 + y.2.2.1).natAbs then some (0, s2) else if ¬ 40000 < (y.2.1 + y.2.2.2).natAbs then ab_X10_go_61 sv_fuel (B + 628) (zI y.2.2.1) (zI y.2.2.2) (nI 0) s2 else some (0, s2) := by
    have c1 : ((40000 : Int32) < zI ((y.1 + y.2.2.1).natAbs : Int)) ↔ 40000 < (y.1 + y.2.2.1).natAbs := by
      rw [z_40000, zI_lt (by omega) (by omega) (by omega) (by omega)]; omega
    have c2 : (zI ((y.2.1 + y.2.2.2).natAbs : Int) ≤ (40000 : Int32)) ↔ ¬ 40000 < (y.2.1 + y.2.2.2).natAbs := by
      rw [z_40000, zI_le (by omega) (by omega) (by omega) (by omega)]; omega
    unfold ab_X10_go ab_X10_go_57
    rw [slet, slet, slet, hk.2.2.1, hw.1, hw.2.1, a1, vbs, slet, slet, a5.2.2.1, a5.2.1, show (1 : Int32) = nI 1 from rfl, a3, vbs, slet, w1, zI_add, zI_abs (by omega) (by omega), slet]
    by_cases z1 : 40000 < (y.1 + y.2.2.1).natAbs
    · rw [if_pos z1, if_pos (c1.mpr z1)]
    · rw [if_neg z1, if_neg (fun z => z1 (c1.mp z)), slet, w2, zI_add, zI_abs (by omega) (by omega), slet]
      by_cases z2 : 40000 < (y.2.1 + y.2.2.2).natAbs
      · rw [if_neg (fun z => c2.mp z z2), if_neg (fun z => z z2)]
      · rw [if_pos (c2.mpr z2), if_pos z2]; rfl
  rw [e0]
  by_cases z1 : 40000 < (y.1 + y.2.2.1).natAbs
  · rw [if_pos z1]
    exact ⟨false, s2, D, _, rfl, a4.weak (by decide) (by decide) (by decide), hD2, hv, hw2, Or.inl ⟨rfl, Or.inl (Or.inl z1), rfl, rfl⟩⟩
  · rw [if_neg z1]
    by_cases z2 : 40000 < (y.2.1 + y.2.2.2).natAbs
    · rw [if_neg (fun z => z z2)]
      exact ⟨false, s2, D, _, rfl, a4.weak (by decide) (by decide) (by decide), hD2, hv, hw2, Or.inl ⟨rfl, Or.inl (Or.inr z2), rfl, rfl⟩⟩
    · rw [if_pos z2]
      obtain ⟨r, s3, E, k, b1, b2, b3, b4, b5, b6⟩ := c_go61 (q := qcl y g 1) (sec := sec) hy (fun j hj => (q0.2 j hj).2) (by omega) a6 a7 hD2 hv hw2 (qcl y g 1).2 0 sv_fuel (by omega) (fuel_ge (by omega)) (fun j hj => absurd hj (by omega))
      refine ⟨r, s3, E, k, b1, (a4.weak (by decide) (by decide) (by decide)).trans (b2.weak (by decide) (by decide) (by decide)), b3, b4, b5, ?_⟩
      rcases b6 with ⟨c1, c2, c3, c4⟩ | ⟨c1, c2, c3, c4⟩
      · exact Or.inl ⟨c1, Or.inr c2, c3, c4⟩
      · exact Or.inr ⟨c1, fun z => z.elim z1 z2, c2, c3, c4⟩
end GO
