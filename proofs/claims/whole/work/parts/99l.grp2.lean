-- THE CLASS reads a whole group
section CH
variable {B n R : Nat} {g : Nat → Nat} {F : Nat → IN}
theorem and64 : ∀ h : Nat, h < 256 → (nI h &&& 64 = 0 ↔ ¬ h / 64 % 2 = 1) := by decide +kernel
theorem and128 : ∀ h : Nat, h < 256 → (nI h &&& 128 = 0 ↔ ¬ 128 ≤ h) := by decide +kernel
theorem and63 : ∀ h : Nat, h < 256 → nI h &&& 63 = nI (h % 64) := by decide +kernel
theorem c_55 {s : vt_S} {h : Nat} (hh : h < 256) (x2 x3 x5 : Int32) : ab_X5_readGroup_55 R (B + 5) x2 x3 (nI h) x5 s = ab_X5_readGroup_84 R (B + 5) x2 x3 x5 R (B + 5) (bI (decide (h / 64 % 2 = 1))) (bI (decide (128 ≤ h))) s := by
  unfold ab_X5_readGroup_55 ab_X5_readGroup_70
  by_cases c1 : h / 64 % 2 = 1
  · rw [if_neg (fun z => (and64 h hh).mp z c1), decide_eq_true c1]
    by_cases c2 : 128 ≤ h
    · rw [if_neg (fun z => (and128 h hh).mp z c2), decide_eq_true c2]; rfl
    · rw [if_pos ((and128 h hh).mpr c2), decide_eq_false c2]; rfl
  · rw [if_pos ((and64 h hh).mpr c1), decide_eq_false c1]
    by_cases c2 : 128 ≤ h
    · rw [if_neg (fun z => (and128 h hh).mp z c2), decide_eq_true c2]; rfl
    · rw [if_pos ((and128 h hh).mpr c2), decide_eq_false c2]; rfl
theorem pWhl_err {h : Nat} {e : Nat × Nat} : pWhl g n h (.error e) = .error e := by
  unfold pWhl
  split <;> rfl
theorem c_group2 {s : vt_S} {c tp p : Nat} (hR : R ≠ B + 5) (htp : tp < 64) (hp : p < n) (h0 : g p ≠ 0) (hS : RdS B g n (.ok p) s) (hr : runC s R F c) : ∃ r s1, ab_X5_readGroup R (B + 5) (nI tp) s = some (r, s1) ∧ RdS B g n (pGrp g n F (g p) c tp (p + 1)) s1 ∧ (∀ q, pGrp g n F (g p) c tp (p + 1) = .ok q → r = nI (g p % 64) ∧ runC s1 R (fun j => if j < c then F j else inG g (g p) (p + 1)) (c + g p % 64)) ∧ (∀ e, pGrp g n F (g p) c tp (p + 1) = .error e → r = 0 ∧ ∃ G m, runC s1 R G m) ∧ grw B R s s1 := by
  have hn := hS.n8
  have hh : g p < 256 := (hS.2.1.2.2.2 p hp).2
  have z1 : vt_I s 501 (B + 5) = nI p := hS.2.2.2.2.1
  obtain ⟨r, s1, a1, a2, a3, a4, a5, a6⟩ := rd_one hS
  have e1 : pbd (.ok p) (pOne n) = .ok (p + 1) := by
    show pOne n p = _
    unfold pOne
    rw [if_pos hp]
  have er : r = g p := by
    have := a5 (p + 1) e1
    rwa [Nat.add_sub_cancel] at this
  subst er
  rw [e1] at a2
  have hr1 : runC s1 R F c := hr.onl a3 hR
  have hc := hr1.2.1
  have gr : ∀ {t : vt_S}, onl (· = B + 5) s t → grw B R s t := fun k => onl.grw k
  have fin : ∀ (t : vt_S), onl (· = B + 5) s t → RdS B g n (pHd (g p) c (p + 1)) t → ab_X5_readGroup R (B + 5) (nI tp) s = ab_X5_readGroup_55 R (B + 5) (nI tp) (nI p) (nI (g p)) (nI (g p % 64)) t → ∃ r s1, ab_X5_readGroup R (B + 5) (nI tp) s = some (r, s1) ∧ RdS B g n (pGrp g n F (g p) c tp (p + 1)) s1 ∧ (∀ q, pGrp g n F (g p) c tp (p + 1) = .ok q → r = nI (g p % 64) ∧ runC s1 R (fun j => if j < c then F j else inG g (g p) (p + 1)) (c + g p % 64)) ∧ (∀ e, pGrp g n F (g p) c tp (p + 1) = .error e → r = 0 ∧ ∃ G m, runC s1 R G m) ∧ grw B R s s1 := by
    intro t k ht e
    rw [e, c_55 hh]
    have hd : ∀ q, pWhl g n (g p) (pHd (g p) c (p + 1)) = .ok q → pHd (g p) c (p + 1) = .ok (p + 1) ∧ c + g p % 64 ≤ 1024 := by
      intro q hq
      by_cases c1 : g p % 64 = 0
      · rw [show pHd (g p) c (p + 1) = .error (3, p + 1 - 1) by unfold pHd; rw [if_pos c1], pWhl_err] at hq
        cases hq
      · by_cases c2 : 1024 < c + g p % 64
        · rw [show pHd (g p) c (p + 1) = .error (5, p + 1 - 1) by unfold pHd; rw [if_neg c1, if_pos c2], pWhl_err] at hq
          cases hq
        · exact ⟨by unfold pHd; rw [if_neg c1, if_neg c2], by omega⟩
    obtain ⟨r, s2, d1, d2, d3, d4, d5⟩ := c_84 (R := R) (F := F) (h := g p) (c := c) (tp := tp) (p := p + 1) hR htp ht (fun q hq => (hd q hq).1) rfl (fun q hq => (hd q hq).2) (hr.onl k hR)
    rw [Nat.add_sub_cancel] at d1
    exact ⟨r, s2, d1, d2, d3, d4, (gr k).trans d5⟩
  by_cases c1 : g p % 64 = 0
  · obtain ⟨s2, w1, w2, w3⟩ := rd_blame a2 3 p (by decide) (by decide)
    have r6 : vt_I s2 602 R = nI c := (hr1.onl w3 hR).1
    refine fin s2 (a3.trans w3) (by unfold pHd; rw [if_pos c1, Nat.add_sub_cancel]; exact w2) ?_
    unfold ab_X5_readGroup ab_X5_readGroup_36
    rw [slet, z1, a1, vbs, if_neg (show ¬ nI (g p) = 0 from fun z => h0 (by rwa [show (0 : Int32) = nI 0 from rfl, nI_eq (by omega) (by omega)] at z)), and63 _ hh, if_pos (show nI (g p % 64) = 0 by rw [c1]; rfl), show (3 : Int32) = nI 3 from rfl, w1, vbs, slet, r6, nI_add, show (1024 : Int32) = nI 1024 from rfl, if_pos (nI_le (by omega) (by omega))]
  · have n1 : ¬ nI (g p % 64) = 0 := fun z => c1 (by rwa [show (0 : Int32) = nI 0 from rfl, nI_eq (by omega) (by omega)] at z)
    by_cases c2 : 1024 < c + g p % 64
    · obtain ⟨s2, w1, w2, w3⟩ := rd_blame a2 5 p (by decide) (by decide)
      refine fin s2 (a3.trans w3) (by unfold pHd; rw [if_neg c1, if_pos c2, Nat.add_sub_cancel]; exact w2) ?_
      unfold ab_X5_readGroup ab_X5_readGroup_36
      rw [slet, z1, a1, vbs, if_neg (show ¬ nI (g p) = 0 from fun z => h0 (by rwa [show (0 : Int32) = nI 0 from rfl, nI_eq (by omega) (by omega)] at z)), and63 _ hh, if_neg n1, slet, hr1.1, nI_add, show (1024 : Int32) = nI 1024 from rfl, if_neg (nI_ge (by omega) (by omega)), show (5 : Int32) = nI 5 from rfl, w1, vbs]
    · refine fin s1 a3 (by unfold pHd; rw [if_neg c1, if_neg c2]; exact a2) ?_
      unfold ab_X5_readGroup ab_X5_readGroup_36
      rw [slet, z1, a1, vbs, if_neg (show ¬ nI (g p) = 0 from fun z => h0 (by rwa [show (0 : Int32) = nI 0 from rfl, nI_eq (by omega) (by omega)] at z)), and63 _ hh, if_neg n1, slet, hr1.1, nI_add, show (1024 : Int32) = nI 1024 from rfl, if_pos (nI_le (by omega) (by omega))]
end CH
