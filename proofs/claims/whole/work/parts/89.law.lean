theorem sv_bs {α β : Type} {a : α} {h : sv_H} {k : α → sv_H → Option β} : sv_b (some (a, h)) k = k a h := rfl
theorem start_law0 {xs : Nat → Int32} {L B n : Nat} {s1 s2 : ly_S} (hB : 0 < B) (h1 : lc_X12_init 0 (ly_obj (0, 0, [], [], [], []) 13 11) = some s1) (hn : s1.1 = n) (h2 : lc_X17_init n (ly_obj s1 18 29) = some s2) : fn_L_law xs L (sv_h0 B) = fn_L_law_18 xs L sv_fuel (B + 0) (B + n) 0 (lay B s2) := by
  subst hn
  unfold fn_L_law
  rw [lay_0, in_new, lm_X12_init hB (x0 := 0) s1 h1, sv_bs, in_new, lm_X17_init hB s2 h2, sv_bs]
theorem ly_1_n : ly_1.1 = 639 := by unfold ly_1; rfl
theorem start_law {xs : Nat → Int32} {L B : Nat} (hB : 0 < B) : fn_L_law xs L (sv_h0 B) = fn_L_law_18 xs L sv_fuel (B + 0) (B + 639) 0 (lay B ly_2) := start_law0 hB start_1 ly_1_n start_2
