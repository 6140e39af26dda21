-- THE CLASS reads a group
section CG
variable {B n R : Nat} {g : Nat → Nat} {F : Nat → IN}
theorem runC.onl {s s1 : vt_S} {m : Nat} {W : Nat → Prop} (h : runC s R F m) (k : onl W s s1) (hR : ¬ W R) : runC s1 R F m := by
  obtain ⟨r1, r2, r3, r4, r5⟩ := h
  have eL : vt_L s1 = vt_L s := k.L
  refine ⟨by rw [k.I hR]; exact r1, r2, by rw [eL]; exact r3, by rw [eL]; exact r4, fun j hj => ?_⟩
  rw [(k.2.2.2.2.2.2.2 R hR 601).2]
  exact r5 j hj
theorem c_84 {s : vt_S} {h c tp p : Nat} {u : Bool} {st : PE} (hR : R ≠ B + 5) (htp : tp < 64) (hS : RdS B g n st s) (hst : ∀ q, pWhl g n h st = .ok q → st = .ok p) (hu : u = decide (h / 64 % 2 = 1)) (hc : ∀ q, pWhl g n h st = .ok q → c + h % 64 ≤ 1024) (hr : runC s R F c) : ∃ r s1, ab_X5_readGroup_84 R (B + 5) (nI tp) (nI (p - 1)) (nI (h % 64)) R (B + 5) (bI u) (bI (decide (128 ≤ h))) s = some (r, s1) ∧ RdS B g n (pSame F c tp p (inG g h p) (pWhl g n h st)) s1 ∧ (∀ q, pSame F c tp p (inG g h p) (pWhl g n h st) = .ok q → r = nI (h % 64) ∧ runC s1 R (fun j => if j < c then F j else inG g h p) (c + h % 64)) ∧ (∀ e, pSame F c tp p (inG g h p) (pWhl g n h st) = .error e → r = 0 ∧ ∃ G m, runC s1 R G m) ∧ grw B R s s1 := by
  obtain ⟨i, s1, a1, a2, a3, a4, a5, a6⟩ := c_input (R := R) (h := h) (u := u) hS
  have hr1 : runC s1 R F c := hr.onl a5 hR
  have gr1 : grw B R s s1 := onl.grw a5
  obtain ⟨w, hw⟩ : ∃ w, sv_fuel = w + 1 := ⟨sv_fuel - 1, by have : 5 < sv_fuel := fuel_ge (by omega); omega⟩
  obtain ⟨r1, r2, r3, ⟨r4, r4'⟩, r5⟩ := hr1
  have bad : ∀ {t : vt_S} {e : Nat × Nat}, RdS B g n (.error e) t → ab_X5_readGroup_124 R (B + 5) (nI (h % 64)) (zI (inN i)) t = some (0, t) := by
    intro t e ht
    unfold ab_X5_readGroup_124
    rw [hw]
    exact c_addBad (k := 0) ht
  have e0 : ab_X5_readGroup_84 R (B + 5) (nI tp) (nI (p - 1)) (nI (h % 64)) R (B + 5) (bI u) (bI (decide (128 ≤ h))) s = if 0 < c ∧ tp < 63 ∧ F (c - 1) = i then vt_b (ab_X4_blame (B + 5) 4 (nI (p - 1)) s1) fun _ h7 => ab_X5_readGroup_124 R (B + 5) (nI (h % 64)) (zI (inN i)) h7 else ab_X5_readGroup_124 R (B + 5) (nI (h % 64)) (zI (inN i)) s1 := by
    unfold ab_X5_readGroup_84
    rw [a1, vbs, slet, r1]
    by_cases c1 : c = 0
    · rw [if_pos (show nI c ≤ 0 by rw [c1]; decide), if_neg (by omega)]
    · have ec : nI c - 1 = nI (c - 1) := by
        have := (z_down (c - 1)).1
        rwa [show c - 1 + 1 = c by omega] at this
      obtain ⟨y1, y2⟩ := r5 (c - 1) (by omega)
      have q1 := inN_rng a2
      have q2 := inN_rng y2
      have zz : (zI (inN (F (c - 1))) = zI (inN i)) = (F (c - 1) = i) := by
        rw [zI_eq (by omega) (by omega) (by omega) (by omega)]
        exact propext ⟨fun z => inN_inj y2 a2 z, fun z => by rw [z]⟩
      rw [if_neg (show ¬ nI c ≤ 0 from nI_ge (b := c) (a := 0) (by omega) (by omega)), slet, ec, vl_I_ok (by omega) (by omega), obs, y1, ifc zz]
      by_cases c2 : F (c - 1) = i
      · rw [if_pos c2]
        by_cases c3 : 63 ≤ tp
        · rw [show (63 : Int32) = nI 63 from rfl, if_pos (nI_le (by omega) (by omega)), if_neg (by omega)]
        · rw [show (63 : Int32) = nI 63 from rfl, if_neg (nI_ge (by omega) (by omega)), if_pos ⟨by omega, by omega, c2⟩]
      · rw [if_neg c2, if_neg (fun z => c2 z.2.2)]
  rw [e0]
  have hr1 : runC s1 R F c := ⟨r1, r2, r3, ⟨r4, r4'⟩, r5⟩
  obtain ⟨s2, b1, b2, b3⟩ := rd_blame a4 4 (p - 1) (by decide) (by decide)
  have gr2 : grw B R s s2 := gr1.trans (onl.grw b3)
  cases hst2 : pWhl g n h st with
  | error e =>
    rw [hst2] at a4 b2
    by_cases cc : 0 < c ∧ tp < 63 ∧ F (c - 1) = i
    · rw [if_pos cc, show (4 : Int32) = nI 4 from rfl, b1, vbs]
      exact ⟨0, s2, bad b2, b2, fun q z => (by cases z), fun _ _ => ⟨rfl, F, c, hr1.onl b3 hR⟩, gr2⟩
    · rw [if_neg cc]
      exact ⟨0, s1, bad a4, a4, fun q z => (by cases z), fun _ _ => ⟨rfl, F, c, hr1⟩, gr1⟩
  | ok q =>
    obtain ⟨x1, x2, x3⟩ := a6 p q (hst q hst2) hst2
    have iu : (inG g h p).2.2.2 = decide (h / 64 % 2 = 1) := by unfold inG; split <;> rfl
    have ei : i = inG g h p := Prod.ext x1 (Prod.ext x2 (Prod.ext x3 (by rw [a3, hu, iu])))
    have hcc := hc q hst2
    rw [hst2] at a4 b2
    have es : pSame F c tp p (inG g h p) (.ok q) = if 0 < c ∧ tp < 63 ∧ F (c - 1) = i then .error (4, p - 1) else .ok q := by rw [ei]; rfl
    rw [es]
    by_cases cc : 0 < c ∧ tp < 63 ∧ F (c - 1) = i
    · rw [if_pos cc, if_pos cc, show (4 : Int32) = nI 4 from rfl, b1, vbs]
      exact ⟨0, s2, bad b2, b2, fun q z => (by cases z), fun _ _ => ⟨rfl, F, c, hr1.onl b3 hR⟩, gr2⟩
    · rw [if_neg cc, if_neg cc]
      obtain ⟨s3, d1, d2, d3, d4, d5⟩ := c_addN (F := fun j => if j < c then F j else i) (R := R) a2 (show h % 64 ≤ 63 by omega) (h % 64) 0 sv_fuel s1 c (by omega) (fuel_ge (by omega)) a4 hcc (fun j hj => by rw [if_neg (by omega)]) (hr1.congr (fun j hj => by rw [if_pos hj]))
      refine ⟨nI (h % 64), s3, ?_, d3, fun _ _ => ⟨rfl, by rw [← ei]; exact d4⟩, fun _ z => (by cases z), gr1.trans d5⟩
      unfold ab_X5_readGroup_124
      exact d1
end CG
