/-- of the reference's hall only place j, and a count -/
def hlk (H j : Nat) (s s1 : vt_S) : Prop := vt_z s1 = vt_z s ∧ vt_l s1 = vt_l s ∧ vt_J s1 = vt_J s ∧ vt_P s1 = vt_P s ∧ vt_E s1 = vt_E s ∧ vt_L s1 = vt_L s ∧ vt_B s1 = vt_B s ∧ (∀ f a, ¬ (f = 1417 ∧ a = H) → vt_I s1 f a = vt_I s f a) ∧ (∀ f a i, ¬ (a = H ∧ i = j ∧ 1408 ≤ f ∧ f ≤ 1414) → vt_A s1 f a i = vt_A s f a i)
section HL
variable {H j : Nat} {s s1 s2 : vt_S}
theorem hlk.refl : hlk H j s s := ⟨rfl, rfl, rfl, rfl, rfl, rfl, rfl, fun _ _ _ => rfl, fun _ _ _ _ => rfl⟩
theorem hlk.trans (h : hlk H j s s1) (k : hlk H j s1 s2) : hlk H j s s2 := by
  obtain ⟨h1, h2, h3, h4, h5, h6, h7, h8, h9⟩ := h
  obtain ⟨k1, k2, k3, k4, k5, k6, k7, k8, k9⟩ := k
  exact ⟨k1.trans h1, k2.trans h2, k3.trans h3, k4.trans h4, k5.trans h5, k6.trans h6, k7.trans h7, fun f a z => (k8 f a z).trans (h8 f a z), fun f a i z => (k9 f a i z).trans (h9 f a i z)⟩
theorem hlk.put {f : Nat} {v : Int32} (h : hlk H j s s1) (h1 : 1408 ≤ f) (h2 : f ≤ 1414) : hlk H j s (vu_A s1 f H j v) := h.trans ⟨rfl, rfl, rfl, rfl, rfl, rfl, rfl, fun _ _ _ => rfl, fun g a i z => by
  show vu3 _ _ _ _ _ _ _ _ = _
  rw [vu3_ap, if_neg (fun y => z ⟨y.2.1, y.2.2, by omega, by omega⟩)]⟩
theorem hlk.blk {v : Int32} (h : hlk H j s s1) : hlk H j s (vu_I s1 1417 H v) := h.trans ⟨rfl, rfl, rfl, rfl, rfl, rfl, rfl, fun f a z => I_ne (fun y => z ⟨y.1, y.2⟩), fun _ _ _ _ => rfl⟩
theorem hlk.L (h : hlk H j s s1) : vt_L s1 = vt_L s := h.2.2.2.2.2.1
/-- the seven rows are long enough -/
def hlL (H : Nat) (s : vt_S) : Prop := vt_L s 1408 H = 32 ∧ vt_L s 1409 H = 32 ∧ vt_L s 1410 H = 32 ∧ vt_L s 1411 H = 32 ∧ vt_L s 1412 H = 32 ∧ vt_L s 1413 H = 32 ∧ vt_L s 1414 H = 32
theorem hlL.of (h : hlL H s) (e : vt_L s1 = vt_L s) : hlL H s1 := by unfold hlL; rw [e]; exact h
theorem A_j {f i : Nat} {v : Int32} : vt_A (vu_A s f H i v) f H i = v := by rw [A_at, if_pos rfl]
theorem r_end (hL : hlL H s) (hj : j < 32) : ∃ s1, ab_X13_end H (nI j) s = some ((), s1) ∧ hlk H j s s1 ∧ vt_A s1 1408 H j = vt_A s 1408 H j ∧ vt_A s1 1409 H j = vt_A s 1409 H j ∧ vt_A s1 1410 H j = -1 ∧ vt_A s1 1411 H j = 0 := by
  obtain ⟨l1, l2, l3, l4, l5, l6, l7⟩ := hL
  refine ⟨vu_A (vu_A (vu_A s 1410 H j (-1)) 1411 H j 0) 1413 H j (-1), ?_, ((hlk.refl.put (by omega) (by omega)).put (by omega) (by omega)).put (by omega) (by omega), ?_, ?_, ?_, ?_⟩
  · unfold ab_X13_end
    rw [vs_I_ok (by omega) (by omega), obs, vs_I_ok (by rw [L_A]; omega) (by rw [L_A]; omega), obs, vs_I_ok (by rw [L_A, L_A]; omega) (by rw [L_A, L_A]; omega), obs]
  · simp (disch := decide) only [A_nf]
  · simp (disch := decide) only [A_nf]
  · simp (disch := decide) only [A_nf, A_j]
  · simp (disch := decide) only [A_nf, A_j]
theorem r_await (hL : hlL H s) (hj : j < 32) (v : Int32) : ab_X13_await H (nI j) v s = some ((), vu_A (vu_A s 1411 H j 0) 1412 H j v) := by
  obtain ⟨l1, l2, l3, l4, l5, l6, l7⟩ := hL
  unfold ab_X13_await
  rw [vs_I_ok (by omega) (by omega), obs, vs_I_ok (by rw [L_A]; omega) (by rw [L_A]; omega), obs]
theorem r_rise {way top : Int32} (w : Bool) {d : SD} (h : secR s H j d) (hL : hlL H s) (hj : j < 32) (hm : d.2.2.1 ≠ -1) (hg : (vt_I s 1416 H = nI j) ↔ w = true) : ∃ s1, ab_X13_rise H (nI j) way top s = some ((), s1) ∧ secR s1 H j (raiseS w way top d) ∧ hlk H j s s1 := by
  obtain ⟨h1, h2, h3, h4, h5⟩ := id h
  obtain ⟨l1, l2, l3, l4, l5, l6, l7⟩ := id hL
  have e59 : ∃ s1, ab_X13_rise_59 H (nI j) top (sv_min (d.1 + way) top) s = some ((), s1) ∧ secR s1 H j (if sv_min (d.1 + way) top = top then (top, d.2.1, -1, 0, 0, 0, 0) else (sv_min (d.1 + way) top, d.2)) ∧ hlk H j s s1 := by
    unfold ab_X13_rise_59 ab_X13_rise_78
    rw [vs_I_ok (by omega) (by omega), obs]
    by_cases c : sv_min (d.1 + way) top = top
    · rw [if_pos c, if_pos c]
      obtain ⟨s1, a1, a2, a3, a4, a5, a6⟩ := r_end (s := vu_A s 1408 H j (sv_min (d.1 + way) top)) (hL.of rfl) hj
      rw [a1, vbs]
      exact ⟨s1, rfl, ⟨by rw [a3, A_j]; exact c, by rw [a4, A_nf (by decide)]; exact h2, a5, a6, fun z => absurd rfl z⟩, (hlk.refl.put (by omega) (by omega)).trans a2⟩
    · rw [if_neg c, if_neg c]
      refine ⟨_, rfl, ⟨A_j, by rw [A_nf (by decide)]; exact h2, by rw [A_nf (by decide)]; exact h3, by rw [A_nf (by decide)]; exact h4, fun z => ?_⟩, hlk.refl.put (by omega) (by omega)⟩
      rw [A_nf (by decide), A_nf (by decide), A_nf (by decide)]; exact h5 z
  have e24 : ab_X13_rise H (nI j) way top s = ab_X13_rise_24 H (nI j) top (sv_min (d.1 + way) top) s := by
    unfold ab_X13_rise sv_min
    rw [vl_I_ok (by omega) (by omega), obs, obs, h1]
    by_cases c : top < d.1 + way
    · rw [if_neg (Int32.not_le.mpr c), if_pos c]
    · rw [if_pos (Int32.not_lt.mp c), if_neg c]
  rw [e24]
  unfold ab_X13_rise_24 raiseS
  rw [slet]
  cases w with
  | false =>
    rw [if_neg (fun z => by cases hg.mp z), if_neg (fun z => by cases z.1)]
    exact e59
  | true =>
    rw [if_pos (hg.mpr rfl), vl_I_ok (by omega) (by omega), obs, h2]
    by_cases c : 56 ≤ d.2.1 - sv_min (d.1 + way) top
    · rw [if_pos c, if_neg (fun z => Int32.not_lt.mpr c z.2)]
      exact e59
    · rw [if_neg c, if_pos ⟨rfl, Int32.not_le.mp c⟩, slet, slet]
      exact ⟨_, rfl, h, hlk.refl.blk⟩
theorem mul8 (x : Int32) : x + 8 * 1 = x + 8 ∧ x + 8 * (-1) = x - 8 := by
  obtain ⟨i, rfl, -, -⟩ := zI_ex x
  rw [show (8 * 1 : Int32) = zI 8 from rfl, show (8 * -1 : Int32) = zI (-8) from rfl, show (8 : Int32) = zI 8 from rfl, zI_add, zI_add, zI_sub]
  exact ⟨rfl, by congr 1⟩
theorem r_step (w : Bool) {d : SD} (h : secR s H j d) (hv : sdOk d) (hL : hlL H s) (hj : j < 32) (hm : d.2.2.1 ≠ -1) (h0 : d.2.2.2.1 ≠ 0) (hg : (vt_I s 1416 H = nI j) ↔ w = true) : ∃ s1, ab_X13_step H (nI j) s = some ((), s1) ∧ secR s1 H j (tickS w d) ∧ hlk H j s s1 := by
  obtain ⟨h1, h2, h3, h4, h5⟩ := id h
  obtain ⟨l1, l2, l3, l4, l5, l6, l7⟩ := id hL
  obtain ⟨fl, ce, mv, hd, wt, gl, hm_⟩ := d
  dsimp only at h1 h2 h3 h4 h5 hm h0
  obtain ⟨k1, k2, k3⟩ := h5 hm
  obtain ⟨v1, v2, v3, v4, v5⟩ : (mv = 0 ∨ mv = 1 ∨ mv = 2) ∧ (hd = -1 ∨ hd = 0 ∨ hd = 1) ∧ (mv = 2 → hd = 1) ∧ (hd = 0 → 0 < wt) ∧ (hd ≠ 0 → wt = 0) := by
    rcases hv with ⟨a, -⟩ | a
    · exact absurd a hm
    · exact a
  have w0 := v5 h0
  unfold ab_X13_step tickS ab_X13_step_128
  dsimp only
  rw [vl_I_ok (by omega) (by omega), obs, obs, h3, if_neg hm, if_neg h0]
  by_cases c3 : mv = 0
  · rw [if_pos c3, if_pos c3]
    unfold ab_X13_stepDoor
    rw [vl_I_ok (show j < vt_L s 1409 H by omega) (by omega), obs, vl_I_ok (show j < vt_L s 1411 H by omega) (by omega), obs, obs, h2, h4]
    by_cases c4 : 0 < hd
    · obtain rfl : hd = 1 := by
        rcases v2 with a | a | a
        · subst a; exact absurd c4 (by decide)
        · exact absurd a h0
        · exact a
      rw [if_neg (Int32.not_le.mpr c4), if_pos c4, vl_I_ok (show j < vt_L s 1413 H by omega) (by omega), obs, obs, k2, (mul8 ce).1]
      have e51 : (if ce + 8 ≤ gl then ab_X13_stepDoor_51 H (nI j) H (nI j) (ce + 8) s else ab_X13_stepDoor_51 H (nI j) H (nI j) gl s) = ab_X13_stepDoor_51 H (nI j) H (nI j) (sv_min (ce + 8) gl) s := by
        unfold sv_min
        by_cases c : gl < ce + 8
        · rw [if_neg (Int32.not_le.mpr c), if_pos c]
        · rw [if_pos (Int32.not_lt.mp c), if_neg c]
      rw [e51]
      unfold ab_X13_stepDoor_51 ab_X13_stepDoor_74
      rw [vs_I_ok (by omega) (by omega), obs, vl_I_ok (by rw [L_A]; omega) (by rw [L_A]; omega), obs, vl_I_ok (by rw [L_A]; omega) (by rw [L_A]; omega), obs, A_j, A_nf (show 1413 ≠ 1409 by decide), k2]
      by_cases c5 : sv_min (ce + 8) gl = gl
      · rw [if_pos c5, if_pos c5, r_await (s := vu_A s 1409 H j (sv_min (ce + 8) gl)) (hL.of rfl) hj, vbs, vbs]
        refine ⟨_, rfl, ⟨?_, ?_, ?_, ?_, fun _ => ⟨?_, ?_, ?_⟩⟩, ((hlk.refl.put (by omega) (by omega)).put (by omega) (by omega)).put (by omega) (by omega)⟩
        · simp (disch := decide) only [A_nf]; exact h1
        · simp (disch := decide) only [A_nf, A_j]; exact c5
        · simp (disch := decide) only [A_nf]; exact h3.trans c3
        · simp (disch := decide) only [A_nf, A_j]
        · simp (disch := decide) only [A_j]
        · simp (disch := decide) only [A_nf]; exact k2
        · simp (disch := decide) only [A_nf]; exact k3
      · rw [if_neg c5, if_neg c5, vbs]
        refine ⟨_, rfl, ⟨by rw [A_nf (by decide)]; exact h1, A_j, by rw [A_nf (by decide)]; exact h3, by rw [A_nf (by decide)]; exact h4, fun _ => ⟨by rw [A_nf (by decide)]; exact k1, by rw [A_nf (by decide)]; exact k2, by rw [A_nf (by decide)]; exact k3⟩⟩, hlk.refl.put (by omega) (by omega)⟩
    · obtain rfl : hd = -1 := by
        rcases v2 with a | a | a
        · exact a
        · exact absurd a h0
        · subst a; exact absurd (by decide) c4
      rw [if_pos (Int32.not_lt.mp c4), if_neg c4, vl_I_ok (by omega) (by omega), obs, obs, h1, (mul8 ce).2]
      have e95 : (if fl ≤ ce - 8 then ab_X13_stepDoor_95 H (nI j) (ce - 8) s else ab_X13_stepDoor_95 H (nI j) fl s) = ab_X13_stepDoor_95 H (nI j) (sv_max (ce - 8) fl) s := by
        unfold sv_max
        by_cases c : ce - 8 < fl
        · rw [if_neg (Int32.not_le.mpr c), if_pos c]
        · rw [if_pos (Int32.not_lt.mp c), if_neg c]
      rw [e95]
      have e135 : ∃ s1, ab_X13_stepDoor_135 H (nI j) (sv_max (ce - 8) fl) s = some ((), s1) ∧ secR s1 H j (if sv_max (ce - 8) fl = fl then (fl, fl, -1, 0, 0, 0, 0) else (fl, sv_max (ce - 8) fl, mv, -1, wt, gl, hm_)) ∧ hlk H j s s1 := by
        unfold ab_X13_stepDoor_135 ab_X13_stepDoor_157
        rw [vs_I_ok (by omega) (by omega), obs, vl_I_ok (by rw [L_A]; omega) (by rw [L_A]; omega), obs, A_nf (show 1408 ≠ 1409 by decide), h1]
        by_cases c5 : sv_max (ce - 8) fl = fl
        · rw [if_pos c5, if_pos c5]
          obtain ⟨s1, a1, a2, a3, a4, a5, a6⟩ := r_end (s := vu_A s 1409 H j (sv_max (ce - 8) fl)) (hL.of rfl) hj
          rw [a1, vbs]
          exact ⟨s1, rfl, ⟨by rw [a3, A_nf (by decide)]; exact h1, by rw [a4, A_j]; exact c5, a5, a6, fun z => absurd rfl z⟩, (hlk.refl.put (by omega) (by omega)).trans a2⟩
        · rw [if_neg c5, if_neg c5]
          refine ⟨_, rfl, ⟨by rw [A_nf (by decide)]; exact h1, A_j, by rw [A_nf (by decide)]; exact h3, by rw [A_nf (by decide)]; exact h4, fun _ => ⟨by rw [A_nf (by decide)]; exact k1, by rw [A_nf (by decide)]; exact k2, by rw [A_nf (by decide)]; exact k3⟩⟩, hlk.refl.put (by omega) (by omega)⟩
      obtain ⟨s1, b1, b2, b3⟩ := e135
      unfold ab_X13_stepDoor_95
      rw [slet]
      cases w with
      | false =>
        rw [if_neg (fun z => by cases hg.mp z), if_neg (fun z => by cases z.1), b1, vbs]
        exact ⟨s1, rfl, b2, b3⟩
      | true =>
        rw [if_pos (hg.mpr rfl), vl_I_ok (by omega) (by omega), obs, h1]
        by_cases c6 : 56 ≤ sv_max (ce - 8) fl - fl
        · rw [if_pos c6, if_neg (fun z => Int32.not_lt.mpr c6 z.2), b1, vbs]
          exact ⟨s1, rfl, b2, b3⟩
        · rw [if_neg c6, if_pos ⟨rfl, Int32.not_le.mp c6⟩, slet, slet, vs_I_ok (by rw [L_I]; omega) (by rw [L_I]; omega), obs, vbs]
          refine ⟨_, rfl, ⟨?_, ?_, ?_, A_j, fun _ => ⟨?_, ?_, ?_⟩⟩, hlk.refl.blk.put (by omega) (by omega)⟩
          · rw [A_nf (by decide)]; exact h1
          · rw [A_nf (by decide)]; exact h2
          · rw [A_nf (by decide)]; exact h3.trans c3
          · rw [A_nf (by decide)]; exact k1.trans w0
          · rw [A_nf (by decide)]; exact k2
          · rw [A_nf (by decide)]; exact k3
  · rw [if_neg c3, if_neg c3]
    by_cases c2 : mv = 2
    · have hd1 := v3 c2
      subst hd1
      obtain ⟨s1, b1, b2, b3⟩ := r_rise (way := 2) (top := gl) w h hL hj hm hg
      rw [if_pos c2, vl_I_ok (by omega) (by omega), obs, k2, b1, vbs, if_neg (by decide), if_neg (by rw [c2]; decide)]
      exact ⟨s1, rfl, b2, b3⟩
    · have m1 : mv = 1 := by
        rcases v1 with a | a | a
        · exact absurd a c3
        · exact a
        · exact absurd a c2
      rw [if_neg c2, vl_I_ok (by omega) (by omega), obs, h4]
      by_cases c4 : hd < 0
      · rw [if_pos (Int32.le_of_lt c4), if_pos c4, vl_I_ok (by omega) (by omega), obs, vl_I_ok (show j < vt_L s 1413 H by omega) (by omega), obs, obs, obs, h1, k2]
        have e105 : (if gl ≤ fl - 4 then ab_X13_step_105 H (nI j) H (nI j) (fl - 4) s else ab_X13_step_105 H (nI j) H (nI j) gl s) = ab_X13_step_105 H (nI j) H (nI j) (sv_max (fl - 4) gl) s := by
          unfold sv_max
          by_cases c : fl - 4 < gl
          · rw [if_neg (Int32.not_le.mpr c), if_pos c]
          · rw [if_pos (Int32.not_lt.mp c), if_neg c]
        rw [e105]
        unfold ab_X13_step_105 ab_X13_step_128
        rw [vs_I_ok (by omega) (by omega), obs, vl_I_ok (by rw [L_A]; omega) (by rw [L_A]; omega), obs, vl_I_ok (by rw [L_A]; omega) (by rw [L_A]; omega), obs, A_j, A_nf (show 1413 ≠ 1408 by decide), k2]
        by_cases c5 : sv_max (fl - 4) gl = gl
        · rw [if_pos c5, if_pos c5, r_await (s := vu_A s 1408 H j (sv_max (fl - 4) gl)) (hL.of rfl) hj, vbs]
          refine ⟨_, rfl, ⟨?_, ?_, ?_, ?_, fun _ => ⟨?_, ?_, ?_⟩⟩, ((hlk.refl.put (by omega) (by omega)).put (by omega) (by omega)).put (by omega) (by omega)⟩
          · simp (disch := decide) only [A_nf, A_j]; exact c5
          · simp (disch := decide) only [A_nf]; exact h2
          · simp (disch := decide) only [A_nf]; exact h3
          · simp (disch := decide) only [A_nf, A_j]
          · simp (disch := decide) only [A_j]
          · simp (disch := decide) only [A_nf]; exact k2
          · simp (disch := decide) only [A_nf]; exact k3
        · rw [if_neg c5, if_neg c5]
          refine ⟨_, rfl, ⟨A_j, by rw [A_nf (by decide)]; exact h2, by rw [A_nf (by decide)]; exact h3, by rw [A_nf (by decide)]; exact h4, fun _ => ⟨by rw [A_nf (by decide)]; exact k1, by rw [A_nf (by decide)]; exact k2, by rw [A_nf (by decide)]; exact k3⟩⟩, hlk.refl.put (by omega) (by omega)⟩
      · obtain rfl : hd = 1 := by
          rcases v2 with a | a | a
          · subst a; exact absurd (by decide) c4
          · exact absurd a h0
          · exact a
        obtain ⟨s1, b1, b2, b3⟩ := r_rise (way := 4) (top := hm_) w h hL hj hm hg
        rw [if_neg (by decide), if_neg (by decide), vl_I_ok (by omega) (by omega), obs, k3, b1, vbs, if_pos m1]
        exact ⟨s1, rfl, b2, b3⟩
end HL
theorem raiseS_ok {w : Bool} {way top : Int32} {d : SD} (h : sdOk d) : sdOk (raiseS w way top d) := by
  unfold raiseS
  by_cases c1 : w = true ∧ d.2.1 - sv_min (d.1 + way) top < 56
  · rw [if_pos c1]; exact h
  · rw [if_neg c1]
    by_cases c2 : sv_min (d.1 + way) top = top
    · rw [if_pos c2]; exact Or.inl ⟨rfl, rfl⟩
    · rw [if_neg c2]; exact h
theorem tickS_ok {w : Bool} {d : SD} (h : sdOk d) : sdOk (tickS w d) := by
  obtain ⟨fl, ce, mv, hd, wt, gl, hm⟩ := d
  unfold tickS
  dsimp only
  by_cases c1 : mv = -1
  · rw [if_pos c1]; exact h
  rw [if_neg c1]
  obtain ⟨v1, v2, v3, v4, v5⟩ : (mv = 0 ∨ mv = 1 ∨ mv = 2) ∧ (hd = -1 ∨ hd = 0 ∨ hd = 1) ∧ (mv = 2 → hd = 1) ∧ (hd = 0 → 0 < wt) ∧ (hd ≠ 0 → wt = 0) := by
    rcases h with ⟨a, -⟩ | a
    · exact absurd a c1
    · exact a
  by_cases c2 : hd = 0
  · rw [if_pos c2]
    have n2 : mv ≠ 2 := fun z => by have := v3 z; rw [c2] at this; exact absurd this (by decide)
    by_cases c3 : 0 < wt - 1
    · rw [if_pos c3]
      exact Or.inr ⟨v1, Or.inr (Or.inl rfl), fun z => absurd z n2, fun _ => c3, fun z => absurd rfl z⟩
    · rw [if_neg c3]
      refine Or.inr ⟨v1, ?_, fun z => absurd z n2, fun z => ?_, fun _ => rfl⟩
      · show (if mv = 0 then (-1 : Int32) else 1) = -1 ∨ _
        by_cases c4 : mv = 0
        · rw [if_pos c4]; exact Or.inl rfl
        · rw [if_neg c4]; exact Or.inr (Or.inr rfl)
      · have z : (if mv = 0 then (-1 : Int32) else 1) = 0 := z
        by_cases c4 : mv = 0
        · rw [if_pos c4] at z; exact absurd z (by decide)
        · rw [if_neg c4] at z; exact absurd z (by decide)
  rw [if_neg c2]
  by_cases c3 : mv = 0
  · rw [if_pos c3]
    by_cases c4 : 0 < hd
    · rw [if_pos c4]
      by_cases c5 : sv_min (ce + 8) gl = gl
      · rw [if_pos c5]; exact Or.inr ⟨Or.inl rfl, Or.inr (Or.inl rfl), fun z => absurd z (show ¬ (0 : Int32) = 2 by decide), fun _ => (by decide : (0 : Int32) < 20), fun z => absurd rfl z⟩
      · rw [if_neg c5]; exact Or.inr ⟨v1, v2, v3, v4, v5⟩
    · rw [if_neg c4]
      by_cases c5 : w = true ∧ sv_max (ce - 8) fl - fl < 56
      · rw [if_pos c5]; exact Or.inr ⟨Or.inl rfl, Or.inr (Or.inr rfl), fun z => absurd z (show ¬ (0 : Int32) = 2 by decide), fun z => absurd z (show ¬ (1 : Int32) = 0 by decide), fun _ => rfl⟩
      · rw [if_neg c5]
        by_cases c6 : sv_max (ce - 8) fl = fl
        · rw [if_pos c6]; exact Or.inl ⟨rfl, rfl⟩
        · rw [if_neg c6]; exact Or.inr ⟨v1, v2, v3, v4, v5⟩
  rw [if_neg c3]
  by_cases c4 : hd < 0
  · rw [if_pos c4]
    by_cases c5 : sv_max (fl - 4) gl = gl
    · rw [if_pos c5]
      have n2 : mv ≠ 2 := fun z => by have := v3 z; rw [this] at c4; exact absurd c4 (by decide)
      exact Or.inr ⟨v1, Or.inr (Or.inl rfl), fun z => absurd z n2, fun _ => (by decide : (0 : Int32) < 30), fun z => absurd rfl z⟩
    · rw [if_neg c5]; exact Or.inr ⟨v1, v2, v3, v4, v5⟩
  rw [if_neg c4]
  by_cases c5 : mv = 1
  · rw [if_pos c5]; exact raiseS_ok h
  · rw [if_neg c5]; exact raiseS_ok h
