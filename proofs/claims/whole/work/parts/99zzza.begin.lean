-- the start: the invariant holds when both objects have just been made
section BEG
variable {B : Nat}
theorem Inv.up {k : Nat} {s : vt_S} (h : Inv B k s) : Inv B (k + 5) s := by
  obtain ⟨p, p', R0, R, K, KN, gi, ni, go, no, fa, pl, mp, gm, nm, D, wk, a, tk, I, m, st, h1, h2, h3, h4⟩ := h
  exact ⟨p, p', R0, R, K, KN, gi, ni, go, no, fa, pl, mp, gm, nm, D, wk, a, tk, I, m, st, Nat.zero_le _, h2, h3.up, h4⟩
def bgP (f o t : Nat) : Bool := decide ((vt_tk f).1 = 4) && decide (ly_p ly_2P f o = t + 1)
def bgL (f o n : Nat) : Bool := decide ((ly_c ly_2C o).1 = f / 100) && decide ((vt_tk f).1 ≠ 0) && decide ((vt_tk f).1 ≠ 4) && decide (ly_p ly_2P f o ≠ 0) && decide ((ly_c ly_2C (ly_p ly_2P f o - 1)).2 = n)
def bgE (f o j t : Nat) : Bool := decide ((ly_c ly_2C o).1 = f / 100) && decide ((vt_tk f).1 = 3) && decide (ly_p ly_2P f o ≠ 0) && decide (ly_p ly_2E (ly_p ly_2P f o - 1) j = t + 1)
def bgS (B : Nat) : vt_S := vt_ab (lay B ly_2)
theorem bg_P {f t : Nat} (o : Nat) (h : bgP f o t = true) : vt_P (bgS B) f (B + o) = B + t := by
  unfold bgP at h
  simp only [Bool.and_eq_true, decide_eq_true_eq] at h
  show (if (vt_tk f).1 = 4 then sv_FP (lay B ly_2) f (B + o) else 0) = _
  rw [if_pos h.1, lay_FP]
  show ly_ad B (ly_p ly_2P f o) = _
  rw [h.2]
  exact if_neg (Nat.succ_ne_zero t)
theorem bg_L {f n : Nat} (o : Nat) (h : bgL f o n = true) : vt_L (bgS B) f (B + o) = n := by
  unfold bgL at h
  simp only [Bool.and_eq_true, decide_eq_true_eq] at h
  obtain ⟨⟨⟨⟨h1, h2⟩, h3⟩, h4⟩, h5⟩ := h
  show (if sv_K (lay B ly_2) (B + o) = f / 100 ∧ (vt_tk f).1 ≠ 0 ∧ (vt_tk f).1 ≠ 4 then sv_N (lay B ly_2) (sv_FP (lay B ly_2) f (B + o)) else 0) = _
  rw [if_pos ⟨by rw [lay_K]; exact h1, h2, h3⟩, lay_FP]
  show sv_N (lay B ly_2) (ly_ad B (ly_p ly_2P f o)) = _
  rw [show ly_ad B (ly_p ly_2P f o) = B + (ly_p ly_2P f o - 1) from if_neg h4, lay_N]
  exact h5
theorem bg_E {f t : Nat} (o j : Nat) (h : bgE f o j t = true) : vt_E (bgS B) f (B + o) j = B + t := by
  unfold bgE at h
  simp only [Bool.and_eq_true, decide_eq_true_eq] at h
  obtain ⟨⟨⟨h1, h2⟩, h4⟩, h5⟩ := h
  show (if sv_K (lay B ly_2) (B + o) = f / 100 ∧ (vt_tk f).1 = 3 then sv_AP (lay B ly_2) (sv_FP (lay B ly_2) f (B + o)) j else 0) = _
  rw [if_pos ⟨by rw [lay_K]; exact h1, h2⟩, lay_FP]
  show sv_AP (lay B ly_2) (ly_ad B (ly_p ly_2P f o)) j = _
  rw [show ly_ad B (ly_p ly_2P f o) = B + (ly_p ly_2P f o - 1) from if_neg h4, lay_AP]
  show ly_ad B (ly_p ly_2E (ly_p ly_2P f o - 1) j) = _
  rw [h5]
  exact if_neg (Nat.succ_ne_zero t)
theorem bg_I {f : Nat} {v : Int32} (o : Nat) (h : ly_i ly_2I f o = v) : vt_I (bgS B) f (B + o) = v := by
  show sv_FI (lay B ly_2) f (B + o) = v
  rw [lay_FI]
  exact h
theorem bg_A (f a j : Nat) : vt_A (bgS B) f a j = 0 := by
  show (if sv_K (lay B ly_2) a = f / 100 ∧ (vt_tk f).1 = 1 then (0 : Int32) else 0) = 0
  split <;> rfl
theorem bg_cS : cS B (bgS B) := by
  refine ⟨?_, ?_, ?_, ?_, ?_, ?_, ?_, ?_, ?_, ?_, ?_, ?_, ?_, ?_, ?_, ?_, ?_, ?_, ?_, ?_, ?_, ?_⟩
  · exact bg_P 0 (by decide +kernel)
  · exact bg_P 0 (by decide +kernel)
  · exact bg_P 5 (by decide +kernel)
  · exact bg_P 0 (by decide +kernel)
  · exact bg_P 6 (by decide +kernel)
  · exact bg_P 0 (by decide +kernel)
  · exact bg_P 628 (by decide +kernel)
  · exact bg_P 0 (by decide +kernel)
  · exact bg_P 629 (by decide +kernel)
  · exact bg_P 0 (by decide +kernel)
  · exact bg_L 6 (by decide +kernel)
  · exact bg_L 6 (by decide +kernel)
  · exact bg_L 6 (by decide +kernel)
  · exact bg_L 621 (by decide +kernel)
  · exact bg_L 621 (by decide +kernel)
  · exact bg_L 621 (by decide +kernel)
  · exact bg_L 621 (by decide +kernel)
  · exact bg_L 621 (by decide +kernel)
  · exact bg_L 621 (by decide +kernel)
  · exact bg_L 629 (by decide +kernel)
  · exact bg_L 629 (by decide +kernel)
  · exact bg_L 629 (by decide +kernel)
theorem bg_all {n : Nat} {q : Nat → Bool} (h : (List.range n).all q = true) (j : Nat) (hj : j < n) : q j = true := List.all_eq_true.mp h j (List.mem_range.mpr hj)
def bgPl (o : Nat) : Bool := bgP 300 o (o + 1) && bgP 301 o (o + 3) && bgL 302 o 128 && bgL 303 o 128 && bgL 304 o 16 && bgL 305 o 16 && bgL 306 o 16 && bgL 307 o 32 && bgL 308 o 128 && (List.range 32).all (fun j => bgE 307 o j (o + 11 + j)) && (List.range 128).all (fun j => bgE 308 o j (o + 43 + 2 * j)) && (List.range 128).all (fun j => bgL 1211 (o + 43 + 2 * j) 6)
theorem bg_pS {o : Nat} (h : bgPl o = true) : pS (B + o) (bgS B) := by
  unfold bgPl at h
  simp only [Bool.and_eq_true] at h
  obtain ⟨⟨⟨⟨⟨⟨⟨⟨⟨⟨⟨h1, h2⟩, h3⟩, h4⟩, h5⟩, h6⟩, h7⟩, h8⟩, h9⟩, h10⟩, h11⟩, h12⟩ := h
  refine ⟨(bg_P o h1).trans (by omega), (bg_P o h2).trans (by omega), bg_L o h3, bg_L o h4, bg_L o h5, bg_L o h6, bg_L o h7, bg_L o h8, bg_L o h9, fun j hj => ?_, fun j hj => ?_, fun j hj => ?_⟩
  · rw [bg_E o j (bg_all h10 j hj)]; omega
  · rw [bg_E o j (bg_all h11 j hj)]; omega
  · rw [show B + o + 43 + 2 * j = B + (o + 43 + 2 * j) by omega]
    exact bg_L _ (bg_all h12 j hj)
theorem bg_p1 : bgPl 23 = true := by decide +kernel
theorem bg_p2 : bgPl 322 = true := by decide +kernel
theorem bg_row {q : Nat → Nat} (o : Nat) (h : bgL 100 o 64 = true) (h2 : ly_i ly_2I 101 o = 0) : rowC (bgS B) (B + o) q 0 := by
  have l : vt_L (bgS B) 100 (B + o) = 64 := bg_L o h
  exact ⟨bg_I o h2, Nat.zero_le _, ⟨0, by omega, l⟩, fun i hi => absurd hi (by omega)⟩
theorem bg_run {I : Nat → IN} (o : Nat) (h : bgL 601 o 64 = true) (h2 : ly_i ly_2I 602 o = 0) : runC (bgS B) (B + o) I 0 := by
  have l : vt_L (bgS B) 601 (B + o) = 64 := bg_L o h
  exact ⟨bg_I o h2, by omega, Nat.zero_le _, by rw [l]; omega, fun i hi => absurd hi (by omega)⟩
theorem bg_pcL : pcL B (bgS B) 128 := by
  refine ⟨⟨?_, ?_, ?_, ?_, ?_, ?_⟩, by omega, by omega⟩ <;> exact bg_L 7 (by decide +kernel)
theorem bg_ndL : ndL B (bgS B) 128 := by
  refine ⟨⟨?_, ?_, ?_, ?_, ?_, ?_⟩, ⟨by omega, by omega⟩, 0, rfl⟩ <;> exact bg_L 6 (by decide +kernel)
theorem bg_rS : rS B (bgS B) := by
  refine ⟨?_, ?_, ?_, ?_, ?_⟩
  · exact bg_P 639 (by decide +kernel)
  · exact bg_P 639 (by decide +kernel)
  · exact bg_P 639 (by decide +kernel)
  · exact bg_P 639 (by decide +kernel)
  repeat' apply And.intro
  all_goals first | exact bg_L 640 (by decide +kernel) | exact bg_L 643 (by decide +kernel) | exact bg_L 656 (by decide +kernel) | exact bg_L 670 (by decide +kernel) | exact bg_L 639 (by decide +kernel)
theorem bg_cIv {gi go : Nat → Nat} {I : Nat → IN} : cIv B (B + 23) (B + 322) (B + 633) (B + 636) 128 128 gi 0 go 0 0 (-1) 0 I 0 (bgS B) := by
  refine ⟨bg_cS, ⟨bg_pS bg_p1, bg_pS bg_p2, bg_P 0 (by decide +kernel), bg_P 0 (by decide +kernel)⟩, ⟨bg_P 0 (by decide +kernel), bg_P 0 (by decide +kernel), bg_P (t := 634) 633 (by decide +kernel), bg_P (t := 637) 636 (by decide +kernel)⟩, ⟨bg_row 1 (by decide +kernel) (by decide +kernel), bg_row 3 (by decide +kernel) (by decide +kernel), ⟨fun _ => 0, 0, bg_row 323 (by decide +kernel) (by decide +kernel)⟩, fun _ => 0, 0, bg_row 24 (by decide +kernel) (by decide +kernel)⟩, ⟨bg_I 5 (by decide +kernel), bg_I 5 (by decide +kernel), bg_I 0 (by decide +kernel)⟩, ⟨bg_run 633 (by decide +kernel) (by decide +kernel), I, 0, bg_run 636 (by decide +kernel) (by decide +kernel)⟩, bg_pcL, ⟨0, rfl⟩, bg_ndL⟩
theorem bg_rIv {gi go : Nat → Nat} {I : Nat → IN} : rIv B gi 0 go 0 0 (-1) 0 I 0 (bgS B) := by
  have r : rS B (bgS B) := bg_rS
  refine ⟨r, ⟨⟨bg_I 640 (by decide +kernel), by omega, fun i hi => absurd hi (by omega)⟩, bg_I 639 (by decide +kernel), by omega, fun i hi => absurd hi (by omega)⟩, ⟨bg_I 639 (by decide +kernel), bg_I 639 (by decide +kernel), bg_I 639 (by decide +kernel)⟩, ⟨bg_I 643 (by decide +kernel), by omega, ⟨r.L1601, r.L1602, r.L1603, r.L1604⟩, fun i hi => absurd hi (by omega)⟩, fun _ => ⟨bg_I 639 (by decide +kernel), bg_I 656 (by decide +kernel)⟩⟩
theorem bg_trQ {g : Nat → Nat} : trQ B g 0 (bgS B) := by
  have r : rS B (bgS B) := bg_rS
  refine ⟨⟨by omega, Nat.le_refl _⟩, ⟨⟨r.P1804, by omega, ⟨r.L1701, r.L1702, r.L1703, r.L1704⟩, fun i hi => absurd hi (by omega)⟩, r⟩, fun w hw => ?_, Or.inl (bg_I 670 (by decide +kernel))⟩
  rw [bg_A, show decide (w < 0) = false from decide_eq_false (Nat.not_lt_zero w)]
  rfl
theorem bg_Inv : Inv B 0 (vt_ab (lay B ly_2)) := by
  refine ⟨B + 23, B + 322, B + 633, B + 636, 128, 128, fun _ => 0, 0, fun _ => 0, 0, 0, -1, 0, fun _ => 0, 0, fun _ => default, default, 0, 0, fun _ => default, 0, default, Nat.le_refl _, ⟨Or.inl ⟨rfl, rfl⟩, Or.inl ⟨rfl, rfl⟩⟩, ⟨by omega, fun _ => rfl, fun h => absurd h (by omega)⟩, bg_cIv, fun h => absurd h (by omega), bg_rIv, fun h => absurd h (by omega), bg_trQ, ?_⟩
  have z : vt_z (vt_ab (lay B ly_2)) = B + 699 := rfl
  have l : vt_l (vt_ab (lay B ly_2)) = 245722 := rfl
  exact ⟨by rw [z]; omega, by rw [l]; omega⟩
theorem pu_loop {L : Nat} {xs : Nat → Int32} (hL : L ≤ 2560) : ∀ (n k : Nat) (s : vt_S), k ≤ L → L + 5 ≤ k + 5 * n → Inv B k s → ∃ k2 sE, ab_L_law_18 xs L n B (B + 639) (nI k) s = some (1, sE) ∧ k2 ≤ L ∧ Inv B k2 sE :=
  law_loop (Inv := Inv B) (x1 := B) (x2 := B + 639) hL o_give o_cut o_poke o_loadMap o_demo o_saveMap o_saveDemo o_turn o_start o_add o_drop o_play o_step o_walker o_sector o_pixel o_surf o_met o_frame o_node o_leaf o_byte o_look (fun _ _ h => h.up)
end BEG
theorem pu_claim : sv_claim := law_claim (Inv := Inv) (fun _ _ => bg_Inv) (fun _ _ _ h => h.room) (fun B L xs s _ hL h => pu_loop hL sv_fuel 0 s (Nat.zero_le _) (by have := fuel_ge (n := 3000) (by omega); generalize sv_fuel = q at this ⊢; omega) h)
