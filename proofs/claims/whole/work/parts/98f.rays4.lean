-- THE REFERENCE's rays
/-- only what belongs to rays, at M -/
def mgk (M : Nat) (s s1 : vt_S) : Prop := vt_z s1 = vt_z s ∧ vt_l s1 = vt_l s ∧ vt_P s1 = vt_P s ∧ vt_E s1 = vt_E s ∧ vt_L s1 = vt_L s ∧ vt_B s1 = vt_B s ∧ (∀ f a, ¬ (a = M ∧ (f = 1819 ∨ f = 1821)) → vt_I s1 f a = vt_I s f a) ∧ (∀ f a, ¬ (a = M ∧ f = 1820) → vt_A s1 f a = vt_A s f a) ∧ (∀ f a, ¬ (a = M ∧ 1815 ≤ f ∧ f ≤ 1818) → vt_J s1 f a = vt_J s f a)
section MK
variable {M : Nat} {s s1 s2 : vt_S}
theorem mgk.refl : mgk M s s := ⟨rfl, rfl, rfl, rfl, rfl, rfl, fun _ _ _ => rfl, fun _ _ _ => rfl, fun _ _ _ => rfl⟩
theorem mgk.trans (h : mgk M s s1) (k : mgk M s1 s2) : mgk M s s2 := by
  obtain ⟨h1, h2, h3, h4, h5, h6, h7, h8, h9⟩ := h
  obtain ⟨k1, k2, k3, k4, k5, k6, k7, k8, k9⟩ := k
  exact ⟨k1.trans h1, k2.trans h2, k3.trans h3, k4.trans h4, k5.trans h5, k6.trans h6, fun f a z => (k7 f a z).trans (h7 f a z), fun f a z => (k8 f a z).trans (h8 f a z), fun f a z => (k9 f a z).trans (h9 f a z)⟩
theorem J_nf {f g a b : Nat} {v : Int64} (h : g ≠ f) : vt_J (vu_J s f a v) g b = vt_J s g b := vur_ne _ _ (fun z => h z.1)
theorem J_I {f a : Nat} {v : Int32} : vt_J (vu_I s f a v) = vt_J s := Eq.trans rfl rfl
theorem I_J {f a : Nat} {v : Int64} : vt_I (vu_J s f a v) = vt_I s := Eq.trans rfl rfl
theorem J_A {f a i : Nat} {v : Int32} : vt_J (vu_A s f a i v) = vt_J s := Eq.trans rfl rfl
theorem mgk.putI {f : Nat} {v : Int32} (h : mgk M s s1) (hf : f = 1819 ∨ f = 1821) : mgk M s (vu_I s1 f M v) := h.trans ⟨rfl, rfl, rfl, rfl, rfl, rfl, fun g a z => I_ne (fun q => z ⟨q.2, by rw [q.1]; exact hf⟩), fun _ _ _ => rfl, fun _ _ _ => rfl⟩
theorem mgk.putJ {f : Nat} {v : Int64} (h : mgk M s s1) (h1 : 1815 ≤ f) (h2 : f ≤ 1818) : mgk M s (vu_J s1 f M v) := h.trans ⟨rfl, rfl, rfl, rfl, rfl, rfl, fun _ _ _ => rfl, fun _ _ _ => rfl, fun g a z => vur_ne _ _ (fun q => z ⟨q.2, by omega, by omega⟩)⟩
theorem mgk.putA {i : Nat} {v : Int32} (h : mgk M s s1) : mgk M s (vu_A s1 1820 M i v) := h.trans ⟨rfl, rfl, rfl, rfl, rfl, rfl, fun _ _ _ => rfl, fun g a z => A_ne (fun q => z ⟨q.2, q.1⟩), fun _ _ _ => rfl⟩
theorem mgk.I (h : mgk M s s1) {f a : Nat} (z : ¬ (a = M ∧ (f = 1819 ∨ f = 1821))) : vt_I s1 f a = vt_I s f a := h.2.2.2.2.2.2.1 f a z
theorem mgk.A (h : mgk M s s1) {f a : Nat} (z : ¬ (a = M ∧ f = 1820)) : vt_A s1 f a = vt_A s f a := h.2.2.2.2.2.2.2.1 f a z
theorem mgk.J (h : mgk M s s1) {f a : Nat} (z : ¬ (a = M ∧ 1815 ≤ f ∧ f ≤ 1818)) : vt_J s1 f a = vt_J s f a := h.2.2.2.2.2.2.2.2 f a z
theorem mgk.L (h : mgk M s s1) : vt_L s1 = vt_L s := h.2.2.2.2.1
theorem mgk.P (h : mgk M s s1) : vt_P s1 = vt_P s := h.2.2.1
end MK
/-- the reference's places of walls -/
def rTr (B : Nat) (g : Nat → Nat) (W : Nat) (s : vt_S) : Prop := vt_P s 1804 (B + 639) = B + 670 ∧ W ≤ 128 ∧ (vt_L s 1701 (B + 670) = 128 ∧ vt_L s 1702 (B + 670) = 128 ∧ vt_L s 1703 (B + 670) = 128 ∧ vt_L s 1704 (B + 670) = 128) ∧ ∀ w, w < W → vt_A s 1701 (B + 670) w = zI (aX g (wlp g w)) ∧ vt_A s 1702 (B + 670) w = zI (aY g (wlp g w)) ∧ vt_A s 1703 (B + 670) w = zI (bX g (wlp g w)) ∧ vt_A s 1704 (B + 670) w = zI (bY g (wlp g w))
def aimR (B : Nat) (s : vt_S) (y : RY) : Prop := vt_I s 1811 (B + 639) = zI y.1 ∧ vt_I s 1812 (B + 639) = zI y.2.1 ∧ vt_J s 1827 (B + 639) = zL y.2.2.1 ∧ vt_J s 1828 (B + 639) = zL y.2.2.2
section MR
variable {B : Nat} {g : Nat → Nat} {y : RY} {W : Nat}
theorem rTr.k {s s1 : vt_S} (h : rTr B g W s) (k : mgk (B + 639) s s1) : rTr B g W s1 := by
  obtain ⟨a, b, c, d⟩ := h
  refine ⟨by rw [k.P]; exact a, b, by rw [k.L]; exact c, fun w hw => ?_⟩
  rw [k.A (by omega), k.A (by omega), k.A (by omega), k.A (by omega)]
  exact d w hw
theorem aimR.k {s s1 : vt_S} (h : aimR B s y) (k : mgk (B + 639) s s1) : aimR B s1 y := by
  unfold aimR
  rw [k.I (by omega), k.I (by omega), k.J (by omega), k.J (by omega)]
  exact h
set_option maxHeartbeats 2000000 in
theorem r_meets (hy : ryOk y) {s : vt_S} {w : Nat} (hw : w < W) (hT : rTr B g W s) (hA : aimR B s y) : ∃ s1, ab_X17_meets (B + 639) (nI w) s = some (bI (rmB y g w), s1) ∧ mgk (B + 639) s s1 ∧ vt_I s1 1821 (B + 639) = vt_I s 1821 (B + 639) ∧ vt_A s1 = vt_A s ∧ vt_J s1 1815 (B + 639) = zL (r1 y g w) ∧ vt_J s1 1816 (B + 639) = zL (r2 y g w) ∧ vt_J s1 1818 (B + 639) = zL (run y g w) ∧ vt_I s1 1819 (B + 639) = bI (rfr y g w) ∧ (rmet y g w → vt_J s1 1817 (B + 639) = zL (rov y g w)) := by
  obtain ⟨tP, tW, ⟨t1, t2, t3, t4⟩, tA⟩ := hT
  obtain ⟨wa, wb, wc, wd⟩ := tA w hw
  obtain ⟨i7, i8, i9, i10⟩ := hA
  obtain ⟨ra, rb, rc⟩ := r_rng hy g w
  obtain ⟨rd, re⟩ := rov_rng hy g w
  obtain ⟨⟨y1, y2⟩, ⟨y3, y4⟩, ⟨y5, y6⟩, ⟨y7, y8⟩⟩ := id hy
  have a1 : -32768 ≤ aX g (wlp g w) ∧ aX g (wlp g w) ≤ 32767 := pr_rng _ _
  have a2 : -32768 ≤ aY g (wlp g w) ∧ aY g (wlp g w) ≤ 32767 := pr_rng _ _
  have a3 : -32768 ≤ bX g (wlp g w) ∧ bX g (wlp g w) ≤ 32767 := pr_rng _ _
  have a4 : -32768 ≤ bY g (wlp g w) ∧ bY g (wlp g w) ≤ 32767 := pr_rng _ _
  have D1 : r1 y g w = y.2.2.1 * (aY g (wlp g w) - y.2.1) - y.2.2.2 * (aX g (wlp g w) - y.1) := rfl
  have D2 : r2 y g w = y.2.2.1 * (bY g (wlp g w) - y.2.1) - y.2.2.2 * (bX g (wlp g w) - y.1) := rfl
  have D3 : rp y g w = (aX g (wlp g w) - y.1) * (bY g (wlp g w) - aY g (wlp g w)) - (aY g (wlp g w) - y.2.1) * (bX g (wlp g w) - aX g (wlp g w)) := rfl
  have D5 : run y g w = ((r2 y g w - r1 y g w).natAbs : Int) := rfl
  generalize aX g (wlp g w) = ax at *
  generalize aY g (wlp g w) = ay at *
  generalize bX g (wlp g w) = bx at *
  generalize bY g (wlp g w) = bv at *
  -- up to the choice of the front
  obtain ⟨h34, hh34⟩ : ∃ h34, h34 = vu_J (vu_J (vu_J (vu_J s 1815 (B + 639) (zL (r1 y g w))) 1816 (B + 639) (zL (r2 y g w))) 1817 (B + 639) (zL (rp y g w))) 1818 (B + 639) (zL (r2 y g w - r1 y g w)) := ⟨_, rfl⟩
  have k34 : mgk (B + 639) s h34 := by rw [hh34]; exact (((mgk.refl.putJ (by omega) (by omega)).putJ (by omega) (by omega)).putJ (by omega) (by omega)).putJ (by omega) (by omega)
  have e167 : ab_X17_meets (B + 639) (nI w) s = ab_X17_meets_167 (B + 639) (B + 639) (bI (rfr y g w)) h34 := by
    unfold ab_X17_meets ab_X17_cross
    simp only [slet, vbs]
    rw [tP, vl_I_ok (by omega) (by omega), obs, vl_I_ok (by omega) (by omega), obs, vl_I_ok (by omega) (by omega), obs, vl_I_ok (by omega) (by omega), obs, wa, wb, wc, wd]
    simp only [I_J]
    rw [J_nf (show 1827 ≠ 1815 by decide), J_nf (show 1828 ≠ 1815 by decide), i7, i8, i9, i10]
    rw [zI_wide (by omega) (by omega), zI_wide (by omega) (by omega), zI_wide (by omega) (by omega), zI_wide (by omega) (by omega), zI_wide (by omega) (by omega), zI_wide (by omega) (by omega)]
    simp only [zL_sub, zL_mul]
    rw [← D1, ← D2, ← D3]
    rw [J_nf (show 1816 ≠ 1817 by decide), J_at, J_nf (show 1815 ≠ 1817 by decide), J_nf (show 1815 ≠ 1816 by decide), J_at, zL_sub, J_nf (show 1817 ≠ 1818 by decide), J_at, ← hh34]
    have g6 := lg_ge (a := rp y g w) (b := 0) (by omega) (by omega) (by omega) (by omega)
    unfold rfr
    by_cases c4 : rp y g w < 0
    · rw [if_neg (show ¬ (0 : Int32) ≤ _ by rw [show (0 : Int32) = zI 0 from rfl, show (0 : Int64) = zL 0 from rfl, g6]; omega), decide_eq_true c4]; rfl
    · rw [if_pos (show (0 : Int32) ≤ _ by rw [show (0 : Int32) = zI 0 from rfl, show (0 : Int64) = zL 0 from rfl, g6]; omega), decide_eq_false c4]; rfl
  have q15 : vt_J h34 1815 (B + 639) = zL (r1 y g w) := by rw [hh34]; simp (disch := decide) only [J_nf, J_at]
  have q16 : vt_J h34 1816 (B + 639) = zL (r2 y g w) := by rw [hh34]; simp (disch := decide) only [J_nf, J_at]
  have q17 : vt_J h34 1817 (B + 639) = zL (rp y g w) := by rw [hh34]; simp (disch := decide) only [J_nf, J_at]
  have q18 : vt_J h34 1818 (B + 639) = zL (r2 y g w - r1 y g w) := by rw [hh34]; simp (disch := decide) only [J_at]
  have qA : vt_A h34 = vt_A s := by rw [hh34]; rfl
  have qI : vt_I h34 = vt_I s := by rw [hh34]; rfl
  clear hh34
  -- the signs are turned
  obtain ⟨h6, k6, p15, p16, p18, p19, pA, pI, p17, e197⟩ : ∃ h6, mgk (B + 639) s h6 ∧ vt_J h6 1815 (B + 639) = zL (r1 y g w) ∧ vt_J h6 1816 (B + 639) = zL (r2 y g w) ∧ vt_J h6 1818 (B + 639) = zL (run y g w) ∧ vt_I h6 1819 (B + 639) = bI (rfr y g w) ∧ vt_A h6 = vt_A s ∧ vt_I h6 1821 (B + 639) = vt_I s 1821 (B + 639) ∧ vt_J h6 1817 (B + 639) = zL (if r2 y g w - r1 y g w < 0 then -rp y g w else rp y g w) ∧ ab_X17_meets_167 (B + 639) (B + 639) (bI (rfr y g w)) h34 = ab_X17_meets_197 (B + 639) h6 := by
    unfold ab_X17_meets_167 vq_Z
    rw [if_pos (show bI (rfr y g w) = 0 ∨ bI (rfr y g w) = 1 by cases rfr y g w <;> decide), obs]
    simp only [slet]
    rw [J_I, q18]
    have g7 := lg_ge (a := r2 y g w - r1 y g w) (b := 0) (by omega) (by omega) (by omega) (by omega)
    by_cases c : r2 y g w - r1 y g w < 0
    · rw [if_neg (show ¬ (0 : Int32) ≤ _ by rw [show (0 : Int32) = zI 0 from rfl, show (0 : Int64) = zL 0 from rfl, g7]; omega), if_pos c, J_nf (show 1818 ≠ 1817 by decide), J_I, q17, q18, zL_neg, zL_neg]
      refine ⟨_, ((k34.putI (Or.inl rfl)).putJ (by omega) (by omega)).putJ (by omega) (by omega), ?_, ?_, ?_, ?_, ?_, ?_, ?_, rfl⟩
      · simp (disch := decide) only [J_nf]; exact q15
      · simp (disch := decide) only [J_nf]; exact q16
      · rw [J_at, D5]; refine congrArg zL ?_; omega
      · rw [I_J, I_J, I_at]
      · exact qA
      · rw [I_J, I_J, I_nf (by decide), qI]
      · rw [J_nf (by decide), J_at]
    · rw [if_pos (show (0 : Int32) ≤ _ by rw [show (0 : Int32) = zI 0 from rfl, show (0 : Int64) = zL 0 from rfl, g7]; omega), if_neg c]
      refine ⟨_, k34.putI (Or.inl rfl), q15, q16, ?_, I_at, qA, ?_, q17, rfl⟩
      · refine q18.trans ?_
        rw [D5]; refine congrArg zL ?_; omega
      · rw [I_nf (by decide), qI]
  refine ⟨h6, ?_, k6, pI, pA, p15, p16, p18, p19, fun z => ?_⟩
  · rw [e167, e197]
    unfold ab_X17_meets_197 ab_X17_meets_211 ab_X17_meets_225 ab_X17_meets_241 ab_X17_meets_242
    simp only [slet]
    rw [p15, p16, p17]
    have g1 := lg_ge (a := r1 y g w) (b := 0) (by omega) (by omega) (by omega) (by omega)
    have g2 := lg_ge (a := r2 y g w) (b := 0) (by omega) (by omega) (by omega) (by omega)
    have g3 := lg_le (a := if r2 y g w - r1 y g w < 0 then -rp y g w else rp y g w) (b := 0) (by split <;> omega) (by split <;> omega) (by omega) (by omega)
    rw [show (0 : Int64) = zL 0 from rfl]
    have D4 : rov y g w = if r1 y g w < r2 y g w then rp y g w else -rp y g w := rfl
    unfold rmB
    by_cases c1 : r1 y g w < 0
    · rw [if_neg (show ¬ (0 : Int32) ≤ lg_cmp (zL (r1 y g w)) _ by rw [show (0 : Int32) = zI 0 from rfl, g1]; omega)]
      by_cases c2 : r2 y g w < 0
      · rw [if_neg (show ¬ (0 : Int32) ≤ lg_cmp (zL (r2 y g w)) _ by rw [show (0 : Int32) = zI 0 from rfl, g2]; omega), if_pos trivial, decide_eq_false (by omega)]; rfl
      · rw [if_pos (show (0 : Int32) ≤ lg_cmp (zL (r2 y g w)) _ by rw [show (0 : Int32) = zI 0 from rfl, g2]; omega), if_neg (by decide)]
        rw [if_pos (by omega)] at D4
        rw [if_neg (show ¬ r2 y g w - r1 y g w < 0 by omega)] at g3 ⊢
        by_cases c3 : rp y g w ≤ 0
        · rw [if_pos (show lg_cmp (zL (rp y g w)) _ ≤ (0 : Int32) by rw [show (0 : Int32) = zI 0 from rfl, g3]; exact c3), decide_eq_false (by omega)]; rfl
        · rw [if_neg (show ¬ lg_cmp (zL (rp y g w)) _ ≤ (0 : Int32) by rw [show (0 : Int32) = zI 0 from rfl, g3]; exact c3), decide_eq_true (by omega)]; rfl
    · rw [if_pos (show (0 : Int32) ≤ lg_cmp (zL (r1 y g w)) _ by rw [show (0 : Int32) = zI 0 from rfl, g1]; omega)]
      by_cases c2 : r2 y g w < 0
      · rw [if_neg (show ¬ (0 : Int32) ≤ lg_cmp (zL (r2 y g w)) _ by rw [show (0 : Int32) = zI 0 from rfl, g2]; omega), if_neg (by decide)]
        rw [if_neg (by omega)] at D4
        rw [if_pos (show r2 y g w - r1 y g w < 0 by omega)] at g3 ⊢
        by_cases c3 : -rp y g w ≤ 0
        · rw [if_pos (show lg_cmp (zL (-rp y g w)) _ ≤ (0 : Int32) by rw [show (0 : Int32) = zI 0 from rfl, g3]; exact c3), decide_eq_false (by omega)]; rfl
        · rw [if_neg (show ¬ lg_cmp (zL (-rp y g w)) _ ≤ (0 : Int32) by rw [show (0 : Int32) = zI 0 from rfl, g3]; exact c3), decide_eq_true (by omega)]; rfl
      · rw [if_pos (show (0 : Int32) ≤ lg_cmp (zL (r2 y g w)) _ by rw [show (0 : Int32) = zI 0 from rfl, g2]; omega), if_pos trivial, decide_eq_false (by omega)]; rfl
  · rw [p17]
    unfold rov
    rcases z.1 with q | q
    · rw [if_neg (by omega), if_pos (by omega)]
    · rw [if_pos (by omega), if_neg (by omega)]
end MR
