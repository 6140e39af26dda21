-- THE TAPE: a whole group, put together
section T7
variable {B n : Nat} {g : Nat → Nat} {F : Nat → IN}
theorem t_118 {s : vt_S} {h : Nat} (hh : h < 256) (tp a t x y z : Int32) : ab_X15_readGroup_118 (B + 643) (nI h) tp a t x y z s = ab_X15_readGroup_133 (B + 643) tp a t x y z (bI (decide (h / 64 % 2 = 1))) s := by
  have k : ∀ h : Nat, h < 256 → ((nI h / 64) - (nI h / 64) / 2 * 2 = 1) = (h / 64 % 2 = 1) := by
    intro h hh
    have e : (nI h / 64) - (nI h / 64) / 2 * 2 = nI (h / 64 % 2) := by
      rw [nI_z, z_64, zI_divP (by omega) (by omega) (by omega) (by omega), z_2, zI_divP (by omega) (by omega) (by omega) (by omega), zI_mul, zI_sub, nI_z]
      refine congrArg zI ?_
      omega
    rw [e, show (1 : Int32) = nI 1 from rfl]
    exact propext (nI_eq (by omega) (by omega))
  unfold ab_X15_readGroup_118
  rw [ifc (k h hh)]
  by_cases c : h / 64 % 2 = 1
  · rw [if_pos c, decide_eq_true c]; rfl
  · rw [if_neg c, decide_eq_false c]; rfl
theorem t_133_bad {s : vt_S} {t : Nat} {tp a x y z u : Int32} (h7 : ¬ vt_I s 1617 (B + 643) = 0) : ab_X15_readGroup_133 (B + 643) tp a (nI t) x y z u s = some ((), s) := by
  obtain ⟨w, hw⟩ : ∃ w, sv_fuel = w + 1 := ⟨sv_fuel - 1, by have : 5 < sv_fuel := fuel_ge (by omega); omega⟩
  unfold ab_X15_readGroup_133 ab_X15_readGroup_212 ab_X15_readGroup_213 ab_X15_readGroup_226
  rw [slet, slet, if_neg h7, if_pos rfl, hw]
  exact t_add_bad (k := 0) h7
theorem t_group {s : vt_S} {h c tp p : Nat} (hh : h < 256) (hp : 1 ≤ p) (htp : tp < 64) (hz : tp = 0 ↔ c = 0) (hS : TpS B g n (.ok p) s) (h15 : vt_I s 1615 (B + 643) = nI c) (hT : runT B s F c) : ∃ s1, ab_X15_readGroup (B + 643) (nI h) (nI tp) s = some ((), s1) ∧ vk grpW [1611, 1612, 1613, 1614] [] (fun _ => True) s s1 ∧ TpS B g n (pGrp g n F h c tp p) s1 ∧ (∀ q, pGrp g n F h c tp p = .ok q → vt_I s1 1615 (B + 643) = nI (c + h % 64) ∧ runT B s1 (fun j => if j < c then F j else inG g h p) (c + h % 64)) := by
  obtain ⟨s1, a1, a2, a3⟩ := t_grpHd hh hp hS h15 hT.1
  obtain ⟨i, s2, b1, b2, b3, b4⟩ := t_whl hh a2
  have k2 : vk grpW [1611, 1612, 1613, 1614] [] (fun _ => True) s s2 := (a1.weak (by decide) (by decide) (by decide)).trans (b2.weak (by decide) (by decide) (by decide))
  have h15' : vt_I s2 1615 (B + 643) = nI c := by rw [b2.eI (by decide), a1.eI (by decide)]; exact h15
  have hT1 : runT B s1 F c := a1.keep0 (P := fun t => runT B t F c) hT
  have hT2 : runT B s2 F c := b2.keep0 (P := fun t => runT B t F c) hT1
  rw [a3, b1, t_118 hh]
  unfold pGrp
  cases hst : pWhl g n h (pHd h c p) with
  | error e =>
    rw [hst] at b3
    exact ⟨s2, t_133_bad b3.bad, k2, b3, fun q z => (by cases z)⟩
  | ok q =>
    rw [hst] at b3
    have hd : pHd h c p = .ok p ∧ c + h % 64 ≤ 1024 := by
      by_cases c1 : h % 64 = 0
      · have e : pHd h c p = .error (3, p - 1) := by unfold pHd; rw [if_pos c1]
        rw [e] at hst
        unfold pWhl at hst
        split at hst <;> cases hst
      · by_cases c2 : 1024 < c + h % 64
        · have e : pHd h c p = .error (5, p - 1) := by unfold pHd; rw [if_neg c1, if_pos c2]
          rw [e] at hst
          unfold pWhl at hst
          split at hst <;> cases hst
        · exact ⟨by unfold pHd; rw [if_neg c1, if_neg c2], by omega⟩
    obtain ⟨ei, io⟩ := b4 p q hd.1 hst
    have iu : (inG g h p).2.2.2 = decide (h / 64 % 2 = 1) := by unfold inG; split <;> rfl
    obtain ⟨s3, d1, d2, d3, d4⟩ := t_133 (B := B) (g := g) (n := n) (F := F) (i := inG g h p) (c := c) (tp := tp) (a := p - 1) (t := h % 64) (q := q) io (by omega) htp hz hd.2 b3 h15' hT2
    refine ⟨s3, ?_, k2.trans d2, d3, fun r hr => ?_⟩
    · rw [ei, ← iu]
      exact d1
    · refine d4 (fun z => ?_)
      have : pSame F c tp p (inG g h p) (.ok q) = .error (4, p - 1) := by
        show (if 0 < c ∧ tp < 63 ∧ F (c - 1) = inG g h p then _ else _) = _
        rw [if_pos z]
      rw [this] at hr
      cases hr
end T7
