-- what is kept where only some addresses were changed
section FR
variable {W : Nat → Prop} {B p n : Nat} {g : Nat → Nat} {s s1 : vt_S}
theorem pS.ong (h : pS p s) (k : ong W s s1) (hW : ∀ a, p ≤ a → a < p + 299 → ¬ W a) : pS p s1 := by
  obtain ⟨a1, a2, a3, a4, a5, a6, a7, a8, a9, b1, b2, b3⟩ := h
  have e : ∀ {f a : Nat}, p ≤ a → a < p + 299 → vt_L s1 f a = vt_L s f a := fun x y => k.L (hW _ x y)
  refine ⟨by rw [k.P]; exact a1, by rw [k.P]; exact a2, by rw [e (by omega) (by omega)]; exact a3, by rw [e (by omega) (by omega)]; exact a4, by rw [e (by omega) (by omega)]; exact a5, by rw [e (by omega) (by omega)]; exact a6, by rw [e (by omega) (by omega)]; exact a7, by rw [e (by omega) (by omega)]; exact a8, by rw [e (by omega) (by omega)]; exact a9, by rw [k.E]; exact b1, by rw [k.E]; exact b2, fun j hj => ?_⟩
  rw [e (by omega) (by omega)]
  exact b3 j hj
theorem planF.ong (h : planF s p g) (k : ong W s s1) (hW : ∀ a, p ≤ a → a < p + 299 → ¬ W a) (h5 : g 5 ≤ 32) (h6 : g 6 ≤ 128) : planF s1 p g := by
  obtain ⟨⟨a1, a2, a3, a4⟩, b1, b2, b3, b4, b5⟩ := h
  have e : ∀ {f a : Nat}, p ≤ a → a < p + 299 → vt_I s1 f a = vt_I s f a := fun x y => k.I (hW _ x y)
  have e2 : ∀ {f a : Nat}, p ≤ a → a < p + 299 → vt_A s1 f a = vt_A s f a := fun x y => k.A (hW _ x y)
  refine ⟨⟨?_, ?_, ?_, ?_⟩, fun j hj => ?_, fun j hj => ?_, fun j hj => ?_, fun j hj => ?_, ?_⟩
  · rw [e (by omega) (by omega)]; exact a1
  · rw [e (by omega) (by omega)]; exact a2
  · rw [e (by omega) (by omega)]; exact a3
  · rw [e (by omega) (by omega)]; exact a4
  · unfold vtxF
    rw [e2 (by omega) (by omega), e2 (by omega) (by omega)]; exact b1 j hj
  · unfold texF
    rw [e2 (by omega) (by omega), e2 (by omega) (by omega), e2 (by omega) (by omega)]; exact b2 j hj
  · have x1 : p ≤ p + 11 + j := by omega
    have x2 : p + 11 + j < p + 299 := by omega
    unfold secF
    rw [e x1 x2, e x1 x2, e x1 x2, e x1 x2, e x1 x2, e x1 x2, e x1 x2]; exact b3 j hj
  · have x1 : p ≤ p + 43 + 2 * j := by omega
    have x2 : p + 43 + 2 * j < p + 299 := by omega
    unfold wallF
    rw [e x1 x2, e x1 x2, e x1 x2, e x1 x2, e x1 x2, e x1 x2, e x1 x2, e x1 x2, e x1 x2, e x1 x2, e x1 x2, e2 x1 x2]; exact b4 j hj
  · have x1 : p ≤ p + 3 := by omega
    have x2 : p + 3 < p + 299 := by omega
    unfold startF
    rw [e x1 x2, e x1 x2, e x1 x2, e x1 x2]; exact b5
theorem cWk.ong (h : cWk B p g n s) (k : ong W s s1) (hW : ∀ a, p ≤ a → a < p + 299 → ¬ W a) (h21 : ¬ W (B + 621)) : cWk B p g n s1 := by
  have hS := h.2.2.2.2.2.2.S
  obtain ⟨a1, a2, a3, ⟨r1, r2, r3, r4, r5, r6⟩, a5, a6, a7⟩ := h
  refine ⟨a1, by rw [k.P]; exact a2, by rw [k.P]; exact a3, ⟨?_, ?_, ?_, ?_, ?_, ?_⟩, a5.ong k hW, a6.ong k hW hS.1 hS.2.1, a7⟩
  · rw [k.L h21]; exact r1
  · rw [k.L h21]; exact r2
  · rw [k.L h21]; exact r3
  · rw [k.L h21]; exact r4
  · rw [k.L h21]; exact r5
  · rw [k.L h21]; exact r6
theorem secsC.ong {N : Nat} {D : Nat → SD} (h : secsC s p N D) (k : ong W s s1) (hW : ∀ a, p ≤ a → a < p + 299 → ¬ W a) (hN : N ≤ 32) : secsC s1 p N D := by
  intro j hj
  have e : ∀ f, vt_I s1 f (p + 11 + j) = vt_I s f (p + 11 + j) := fun f => k.I (hW _ (by omega) (by omega))
  have := h j hj
  unfold secC at this ⊢
  rw [e, e, e, e, e, e, e]
  exact this
theorem runC.ong {R m : Nat} {I : Nat → IN} (h : runC s R I m) (k : ong W s s1) (hR : ¬ W R) : runC s1 R I m := by
  obtain ⟨r1, r2, r3, r4, r5⟩ := h
  refine ⟨by rw [k.I hR]; exact r1, r2, by rw [k.L hR]; exact r3, by rw [k.L hR]; exact r4, fun j hj => ?_⟩
  rw [k.A hR]
  exact r5 j hj
theorem rowC.ong {a m : Nat} (h : rowC s a g m) (k : ong W s s1) (hR : ¬ W a) : rowC s1 a g m := by
  obtain ⟨r1, r2, r3, r4⟩ := h
  refine ⟨by rw [k.I hR]; exact r1, by rw [k.L hR]; exact r2, by rw [k.L hR]; exact r3, fun j hj => ?_⟩
  rw [k.A hR]
  exact r4 j hj
theorem stC.ong {q : Nat} {st : WS} (h : stC s q st) (k : ong W s s1) (hR : ¬ W q) : stC s1 q st := by
  unfold stC
  rw [k.I hR, k.I hR, k.I hR, k.I hR]
  exact h
end FR
section DD
variable {B n R R0 p nm : Nat} {g gm : Nat → Nat} {s : vt_S} {st : PE}
theorem c_88 (h2 : vt_P s 1302 B = B + 5) (h : RdS B g n st s) : ab_X12_loadDemo_88 B s = some (fz st, s) := by
  unfold ab_X12_loadDemo_88
  rw [slet, slet, h2, h.fp.1]
theorem c_56_bad {e : Nat × Nat} (h2 : vt_P s 1302 B = B + 5) (h : RdS B g n (.error e) s) : ab_X12_loadDemo_56 B s = some (fz (.error e), s) := by
  unfold ab_X12_loadDemo_56
  rw [slet, h2, rd_well h, vbs, if_pos pWell_err]
  exact c_88 h2 h
theorem c_56_ok {q : Nat} {x : WS} (h2 : vt_P s 1302 B = B + 5) (h : RdS B g n (.ok q) s) (h4 : vt_P s 1304 B = B + 628) (h6 : vt_P s 1306 B = p) (h8 : vt_P s 1308 B = R0) (h9 : vt_P s 1309 B = R) (hR : vt_P s 600 R = R + 1) (hx : stC s (R + 1) x) (hk : cWk B p gm nm s) : ∃ s1, ab_X12_loadDemo_56 B s = some (0, s1) ∧ cWk B p gm nm s1 ∧ secsC s1 p (gm 5) (rest0 gm) ∧ wkC B s1 (x.1, x.2.1, x.2.2.2) ∧ vt_I s1 1104 (B + 628) = nI x.2.2.1 ∧ vt_I s1 1106 (B + 628) = 0 ∧ vk [707, 708, 709, 710, 711, 1101, 1102, 1103, 1104, 1105, 1106] [] [] (fun _ => True) (vu_P (vu_P s 1308 B R) 1309 B R0) s1 := by
  obtain ⟨t, ht⟩ : ∃ t, t = vu_P (vu_P s 1308 B R) 1309 B R0 := ⟨_, rfl⟩
  have kt : cWk B p gm nm t := by rw [ht]; exact hk
  have xt : stC t (R + 1) x := by rw [ht]; exact hx
  obtain ⟨s1, a1, a2, a3, a4, a5, a6⟩ := c_begin (q := R + 1) kt.again xt
  have k1 := (vk_X10_begin vclT trivial trivial trivial a1).1
  have e2 : vt_P s1 1302 B = B + 5 := by
    refine k1.keep0 (P := fun t => vt_P t 1302 B = B + 5) ?_
    rw [ht]; exact h2
  have e1 : RdS B g n (.ok q) s1 := by
    refine k1.keep0 (P := RdS B g n (.ok q)) ?_
    rw [ht]; exact h
  refine ⟨s1, ?_, a2, a3, a4, a5, a6, by rw [← ht]; exact k1⟩
  unfold ab_X12_loadDemo_56 ab_X12_swapRuns
  rw [slet, h2, rd_well h, vbs, if_neg pWell_ok, slet, slet, slet, slet, h8, h9, vbs, ← ht, slet, slet, slet, slet]
  have p4 : vt_P t 1304 B = B + 628 := by rw [ht]; exact h4
  have p6 : vt_P t 1306 B = p := by rw [ht]; exact h6
  have p8 : vt_P t 1308 B = R := by rw [ht, P_ne (by omega), P_at]
  have pR : vt_P t 600 R = R + 1 := by rw [ht]; exact hR
  rw [p4, p6, p8, pR, a1, vbs]
  exact c_88 e2 e1
end DD
