-- A MOVE of the walker, in the reference
theorem ifc {α : Type} {c d : Prop} [Decidable c] [Decidable d] {a b : α} (h : c = d) : (if c then a else b) = if d then a else b := by subst h; congr
def rWk (B : Nat) (g : Nat → Nat) (n : Nat) (s : vt_S) : Prop := rMap B g n s ∧ rHal B g s ∧ rTr B g (g 6) s ∧ vt_P s 1801 (B + 639) = B + 640 ∧ vt_P s 1803 (B + 639) = B + 656 ∧ vt_L s 1820 (B + 639) = 128 ∧ vt_I s 1809 (B + 639) = 1
def wkR (B : Nat) (s : vt_S) (k : WK) : Prop := vt_I s 1811 (B + 639) = zI k.1 ∧ vt_I s 1812 (B + 639) = zI k.2.1 ∧ vt_I s 1814 (B + 639) = nI k.2.2
def qal (y : RY) (g : Nat → Nat) : (Nat → Nat) × Nat := gat (rlt y g) (rmB y g) (g 6)
section WA
variable {B n : Nat} {g : Nat → Nat} {D : Nat → SD} {s : vt_S} {y : RY}
theorem rWk.C (h : rWk B g n s) : cMap g n := ⟨h.1.V, fun i hi => (h.1.2.2.2.1 i hi).2⟩
theorem qal_in : (qal y g).2 ≤ g 6 ∧ ∀ j, j < (qal y g).2 → rmet y g ((qal y g).1 j) ∧ (qal y g).1 j < g 6 := by
  have h := gat_in (rlt y g) (rmB y g) (g 6)
  exact ⟨h.1, fun j hj => ⟨rmB_iff.mp (h.2 j hj).1, (h.2 j hj).2⟩⟩
theorem q_pre {share : Nat} : (qcl y g share).2 ≤ (qal y g).2 ∧ (∀ j, j < (qcl y g share).2 → (qal y g).1 j = (qcl y g share).1 j) ∧ ∀ j, j < (qal y g).2 → (rcB y g share ((qal y g).1 j) = true ↔ j < (qcl y g share).2) :=
  gat_close (lt := rlt y g) (pm := rmB y g) (cl := rcB y g share) (fun v w a b c d => (close_lt (rmB_iff.mp a) (rmB_iff.mp b)).1 c d) (fun v w a b c d => (close_lt (rmB_iff.mp a) (rmB_iff.mp b)).2 c d) (g 6)
theorem r_part {w k : Nat} (hM : rMap B g n s) (hP : vt_P s 1801 (B + 639) = B + 640) (hw : w < g 6) (hk : k ≤ 14) : ab_X17_wallPart (B + 639) (nI w) (nI k) s = some (nI (wP g (wlp g w) k), s) := by
  unfold ab_X17_wallPart
  rw [slet, hP, rm_wall hM hw hk, vbs]
theorem r_169 {m : Nat → Nat} {c : Nat} (hc : c ≤ 128) (hm : ∀ j, j < c → m j < g 6) : ∀ (d i fu : Nat) (s : vt_S) (D : Nat → SD), i + d = c → d < fu → rWk B g n s → (∀ j, j < c → vt_A s 1820 (B + 639) j = nI (m j)) → secsR s (B + 656) (g 5) D → (∀ j, j < g 5 → sdOk (D j)) → ∃ s1 E, ab_X17_walks_169 fu (B + 639) (nI c) (nI i) s = some (1, s1) ∧ vk [] [1410, 1411, 1412, 1413, 1414] [] (fun _ => True) s s1 ∧ secsR s1 (B + 656) (g 5) E ∧ (∀ j, j < g 5 → sdOk (E j)) ∧ crD g m d i D E := by
  intro d
  induction d with
  | zero =>
    intro i fu s D hi hf hk hA hD hv
    obtain ⟨fu, rfl⟩ : ∃ q, fu = q + 1 := ⟨fu - 1, by omega⟩
    refine ⟨s, D, ?_, vk.refl s, hD, hv, rfl⟩
    show ab_X17_walks_169b _ (B + 639) (nI c) (nI i) s = _
    unfold ab_X17_walks_169b
    rw [if_pos (nI_le (by omega) (by omega))]
  | succ d ih =>
    intro i fu s D hi hf hk hA hD hv
    obtain ⟨fu, rfl⟩ : ∃ q, fu = q + 1 := ⟨fu - 1, by omega⟩
    have hw := hm i (by omega)
    have hL := hk.2.2.2.2.2.1
    obtain ⟨-, -, k5, t⟩ := hk.C.wV hw
    have p13 := r_part (k := 13) hk.1 hk.2.2.2.1 hw (by omega)
    have p14 := r_part (k := 14) hk.1 hk.2.2.2.1 hw (by omega)
    rw [show wP g (wlp g (m i)) 13 = g (wlp g (m i) + 12) from rfl] at p13
    rw [show wP g (wlp g (m i)) 14 = g (wlp g (m i) + 13) from rfl] at p14
    have e0 : ab_X17_walks_169 (fu + 1) (B + 639) (nI c) (nI i) s = if nI (g (wlp g (m i) + 12)) = 2 then ab_X17_walks_209 (ab_X17_walks_169 fu) (B + 639) (nI c) (nI i) (nI (g (wlp g (m i) + 12))) s else if nI (g (wlp g (m i) + 12)) = 3 then ab_X17_walks_209 (ab_X17_walks_169 fu) (B + 639) (nI c) (nI i) (nI (g (wlp g (m i) + 12))) s else if nI (g (wlp g (m i) + 12)) = 5 then ab_X17_walks_209 (ab_X17_walks_169 fu) (B + 639) (nI c) (nI i) (nI (g (wlp g (m i) + 12))) s else ab_X17_walks_169 fu (B + 639) (nI c) (nI (i + 1)) s := by
      show ab_X17_walks_169b _ (B + 639) (nI c) (nI i) s = _
      unfold ab_X17_walks_169b ab_X17_walks_247
      rw [if_neg (nI_ge (by omega) (by omega)), vl_I_ok (by omega) (by omega), obs, hA i (by omega), show (13 : Int32) = nI 13 from rfl, p13, vbs, nI_1]
    have e9 : ∀ k, ab_X17_walks_209 (ab_X17_walks_169 fu) (B + 639) (nI c) (nI i) k s = if k = 2 then ab_X17_walks_244 (ab_X17_walks_169 fu) (B + 639) (nI c) (nI i) (B + 639) (nI (g (wlp g (m i) + 13))) 1 s else if k = 3 then ab_X17_walks_244 (ab_X17_walks_169 fu) (B + 639) (nI c) (nI i) (B + 639) (nI (g (wlp g (m i) + 13))) 0 s else ab_X17_walks_244 (ab_X17_walks_169 fu) (B + 639) (nI c) (nI i) (B + 639) (nI (g (wlp g (m i) + 13))) 2 s := by
      intro k
      unfold ab_X17_walks_209
      rw [vl_I_ok (by omega) (by omega), obs, hA i (by omega), show (14 : Int32) = nI 14 from rfl, p14, vbs]
    have go : ∀ what, (what = 0 ∨ what = 1 ∨ what = 2) → ∃ s1 E F, ab_X17_walks_244 (ab_X17_walks_169 fu) (B + 639) (nI c) (nI i) (B + 639) (nI (g (wlp g (m i) + 13))) (nI what) s = some (1, s1) ∧ vk [] [1410, 1411, 1412, 1413, 1414] [] (fun _ => True) s s1 ∧ secsR s1 (B + 656) (g 5) E ∧ (∀ j, j < g 5 → sdOk (E j)) ∧ stFrom what (fun j => decide (g (scp g j + 8) = g (wlp g (m i) + 13))) g (g 6) (g 5) 0 D F ∧ crD g m d (i + 1) F E := by
      intro what hwh
      obtain ⟨s1, F, a1, -, a3, a4, a5⟩ := r_startAll hwh t hk.1 hk.2.1 hk.2.2.2.2.2.2 hk.2.2.2.1 hk.2.2.2.2.1 hD hv
      have k1 := (vk_X17_startAll vclT trivial a1).1
      obtain ⟨s2, E, b1, b2, b3, b4, b5⟩ := ih (i + 1) fu s1 F (by omega) (by omega) (k1.keep0 (P := rWk B g n) hk) (fun j hj => by rw [(k1.2.2.1 1820 (B + 639) (Or.inl (by decide))).1]; exact hA j hj) a3 a5
      refine ⟨s2, E, F, ?_, k1.trans b2, b3, b4, a4, b5⟩
      unfold ab_X17_walks_244 ab_X17_walks_247
      rw [a1, vbs, nI_1]
      exact b1
    have no : ∃ s1 E, ab_X17_walks_169 fu (B + 639) (nI c) (nI (i + 1)) s = some (1, s1) ∧ vk [] [1410, 1411, 1412, 1413, 1414] [] (fun _ => True) s s1 ∧ secsR s1 (B + 656) (g 5) E ∧ (∀ j, j < g 5 → sdOk (E j)) ∧ crD g m d (i + 1) D E := ih (i + 1) fu s D (by omega) (by omega) hk hA hD hv
    rw [e0]
    have ce : ∀ E, crD g m (d + 1) i D E = ∃ F, cr1 g (m i) D F ∧ crD g m d (i + 1) F E := fun E => rfl
    simp only [ce]
    unfold cr1
    generalize g (wlp g (m i) + 12) = k at *
    obtain rfl | rfl | rfl | rfl | rfl | rfl : k = 0 ∨ k = 1 ∨ k = 2 ∨ k = 3 ∨ k = 4 ∨ k = 5 := by omega
    · obtain ⟨s1, E, a1, a2, a3, a4, a5⟩ := no
      exact ⟨s1, E, a1, a2, a3, a4, D, by rw [if_neg (by decide), if_neg (by decide), if_neg (by decide)], a5⟩
    · obtain ⟨s1, E, a1, a2, a3, a4, a5⟩ := no
      exact ⟨s1, E, a1, a2, a3, a4, D, by rw [if_neg (by decide), if_neg (by decide), if_neg (by decide)], a5⟩
    · obtain ⟨s1, E, F, a1, a2, a3, a4, a5, a6⟩ := go 1 (by omega)
      exact ⟨s1, E, by rw [if_pos (by decide), e9, if_pos (by decide)]; exact a1, a2, a3, a4, F, by rw [if_pos rfl]; exact a5, a6⟩
    · obtain ⟨s1, E, F, a1, a2, a3, a4, a5, a6⟩ := go 0 (by omega)
      exact ⟨s1, E, by rw [if_neg (by decide), if_pos (by decide), e9, if_neg (by decide), if_pos (by decide)]; exact a1, a2, a3, a4, F, by rw [if_neg (by decide), if_pos rfl]; exact a5, a6⟩
    · obtain ⟨s1, E, a1, a2, a3, a4, a5⟩ := no
      exact ⟨s1, E, a1, a2, a3, a4, D, by rw [if_neg (by decide), if_neg (by decide), if_neg (by decide)], a5⟩
    · obtain ⟨s1, E, F, a1, a2, a3, a4, a5, a6⟩ := go 2 (by omega)
      exact ⟨s1, E, by rw [if_neg (by decide), if_neg (by decide), if_pos (by decide), e9, if_neg (by decide), if_neg (by decide)]; exact a1, a2, a3, a4, F, by rw [if_neg (by decide), if_neg (by decide), if_pos rfl]; exact a5, a6⟩
def m19 : List Nat := [1811, 1812, 1814, 1815, 1816, 1817, 1818, 1819]
theorem rcB_1 {w : Nat} : rcB y g 1 w = true ↔ rov y g w ≤ run y g w := by
  unfold rcB
  rw [decide_eq_true_eq]
  constructor <;> intro h <;> omega
theorem secA_eq {m m2 : Nat → Nat} {sec i : Nat} (h : ∀ j, j < i → m j = m2 j) : secA g y m sec i = secA g y m2 sec i := by
  unfold secA
  by_cases c : i = 0
  · rw [if_pos c, if_pos c]
  · rw [if_neg c, if_neg c, h (i - 1) (by omega)]
theorem r_19 {sec : Nat} (hy : ryOk y) : ∀ (d i fu : Nat) (s : vt_S), i + d = (qal y g).2 → d < fu → rWk B g n s → aimR B s y → gatR B s (qal y g) → secsR s (B + 656) (g 5) D → (∀ j, j < g 5 → sdOk (D j)) → wkR B s (y.1, y.2.1, sec) → (∀ j, j < min i (qcl y g 1).2 → ¬ stB D g ((qcl y g 1).1 j) (rfr y g ((qcl y g 1).1 j)) = true) → ∃ r s1 E k, ab_X17_walks_19 fu (B + 639) (zI y.2.2.1) (zI y.2.2.2) (nI (secA g y (qcl y g 1).1 sec (min i (qcl y g 1).2))) (nI (min i (qcl y g 1).2)) (nI i) s = some (bI r, s1) ∧ vk m19 [1410, 1411, 1412, 1413, 1414] [] (fun _ => True) s s1 ∧ secsR s1 (B + 656) (g 5) E ∧ (∀ j, j < g 5 → sdOk (E j)) ∧ wkR B s1 k ∧ goS g y sec D r E k := by
  obtain ⟨q1, q2, q3⟩ := q_pre (y := y) (g := g) (share := 1)
  have qi := qal_in (y := y) (g := g)
  intro d
  induction d with
  | zero =>
    intro i fu s hi hf hk hA hG hD hv hw hs
    obtain ⟨fu, rfl⟩ : ∃ q, fu = q + 1 := ⟨fu - 1, by omega⟩
    have hS := hk.C.S
    have em : min i (qcl y g 1).2 = (qcl y g 1).2 := by omega
    rw [em] at hs ⊢
    have na : ¬ stAny D g y (qcl y g 1) := fun z => by
      obtain ⟨j, z1, z2⟩ := z
      exact hs j z1 z2
    have w1 : vt_I s 1811 (B + 639) = zI y.1 := hw.1
    have w2 : vt_I s 1812 (B + 639) = zI y.2.1 := hw.2.1
    have y1 := hy.1
    have y2 := hy.2.1
    have y3 := hy.2.2.1
    have y4 := hy.2.2.2
    have fa : farB y → goS g y sec D false D (y.1, y.2.1, sec) := fun z => Or.inl ⟨rfl, Or.inl z, rfl, rfl⟩
    have e0 : ab_X17_walks_19 (fu + 1) (B + 639) (zI y.2.2.1) (zI y.2.2.2) (nI (secA g y (qcl y g 1).1 sec (qcl y g 1).2)) (nI (qcl y g 1).2) (nI i) s = if y.1 + y.2.2.1 < -40000 then some (0, s) else if 40000 < y.1 + y.2.2.1 then some (0, s) else if y.2.1 + y.2.2.2 < -40000 then some (0, s) else if y.2.1 + y.2.2.2 ≤ 40000 then ab_X17_walks_169 sv_fuel (B + 639) (nI (qcl y g 1).2) (nI 0) (vu_I (vu_I (vu_I s 1811 (B + 639) (zI (y.1 + y.2.2.1))) 1812 (B + 639) (zI (y.2.1 + y.2.2.2))) 1814 (B + 639) (nI (secA g y (qcl y g 1).1 sec (qcl y g 1).2))) else some (0, s) := by
      show ab_X17_walks_19b _ (B + 639) (zI y.2.2.1) (zI y.2.2.2) _ _ (nI i) s = _
      unfold ab_X17_walks_19b ab_X17_walks_139
      rw [slet, hG.1, if_pos (nI_le (by omega) (by omega)), slet, slet, slet, slet, slet, slet, slet, slet, slet, w1, w2, I_ne (by omega), w2, zI_add, zI_add, show (-40000 : Int32) = zI (-40000) from rfl, z_40000, ifc (zI_lt (by omega) (by omega) (by omega) (by omega)), ifc (zI_lt (by omega) (by omega) (by omega) (by omega)), ifc (zI_lt (by omega) (by omega) (by omega) (by omega)), ifc (zI_le (by omega) (by omega) (by omega) (by omega))]
      rfl
    rw [e0]
    by_cases c1 : y.1 + y.2.2.1 < -40000
    · rw [if_pos c1]
      exact ⟨false, s, D, _, rfl, vk.refl s, hD, hv, hw, fa (Or.inl (by omega))⟩
    rw [if_neg c1]
    by_cases c2 : 40000 < y.1 + y.2.2.1
    · rw [if_pos c2]
      exact ⟨false, s, D, _, rfl, vk.refl s, hD, hv, hw, fa (Or.inl (by omega))⟩
    rw [if_neg c2]
    by_cases c3 : y.2.1 + y.2.2.2 < -40000
    · rw [if_pos c3]
      exact ⟨false, s, D, _, rfl, vk.refl s, hD, hv, hw, fa (Or.inr (by omega))⟩
    rw [if_neg c3]
    by_cases c4 : y.2.1 + y.2.2.2 ≤ 40000
    · rw [if_pos c4]
      have k1 : vk m19 [] [] (fun _ => True) s (vu_I (vu_I (vu_I s 1811 (B + 639) (zI (y.1 + y.2.2.1))) 1812 (B + 639) (zI (y.2.1 + y.2.2.2))) 1814 (B + 639) (nI (secA g y (qcl y g 1).1 sec (qcl y g 1).2))) := vk.pI (vk.pI (vk.pI (vk.refl s) (by decide)) (by decide)) (by decide)
      obtain ⟨s1, E, a1, a2, a3, a4, a5⟩ := r_169 (n := n) (m := (qal y g).1) (c := (qcl y g 1).2) (by omega) (fun j hj => (qi.2 j (by omega)).2) (qcl y g 1).2 0 sv_fuel (vu_I (vu_I (vu_I s 1811 (B + 639) (zI (y.1 + y.2.2.1))) 1812 (B + 639) (zI (y.2.1 + y.2.2.2))) 1814 (B + 639) (nI (secA g y (qcl y g 1).1 sec (qcl y g 1).2))) D (by omega) (fuel_ge (by omega)) (k1.keep0 (P := rWk B g n) hk) (fun j hj => hG.2 j (by omega)) hD hv
      refine ⟨true, s1, E, _, a1, (k1.weak (by decide) (by decide) (by decide)).trans (a2.weak (by decide) (by decide) (by decide)), a3, a4, ?_, Or.inr ⟨rfl, fun z => by unfold farB at z; omega, na, a5.eqm _ _ _ _ (fun j _ hj => q2 j (by omega)), rfl⟩⟩
      refine ⟨?_, ?_, ?_⟩
      · rw [a2.eI (by decide), I_ne (by omega), I_ne (by omega), I_at]
      · rw [a2.eI (by decide), I_ne (by omega), I_at]
      · rw [a2.eI (by decide), I_at]
    · rw [if_neg c4]
      exact ⟨false, s, D, _, rfl, vk.refl s, hD, hv, hw, fa (Or.inr (by omega))⟩
  | succ d ih =>
    intro i fu s hi hf hk hA hG hD hv hw hs
    obtain ⟨fu, rfl⟩ : ∃ q, fu = q + 1 := ⟨fu - 1, by omega⟩
    have hS := hk.C.S
    obtain ⟨hm, hwi⟩ := qi.2 i (by omega)
    obtain ⟨s1, a1, a2, a3, a4, a5, a6, a7, a8, a9⟩ := r_meets (B := B) hy hwi hk.2.2.1 hA
    have k1 := (vk_X17_meets vclT trivial a1).1
    have hk1 : rWk B g n s1 := k1.keep0 (P := rWk B g n) hk
    have hA1 := hA.k a2
    have hG1 : gatR B s1 (qal y g) := ⟨by rw [a3]; exact hG.1, fun j hj => by rw [a4]; exact hG.2 j hj⟩
    have hD1 : secsR s1 (B + 656) (g 5) D := k1.keep0 (P := fun t => secsR t (B + 656) (g 5) D) hD
    have hw1 : wkR B s1 (y.1, y.2.1, sec) := k1.keep0 (P := fun t => wkR B t (y.1, y.2.1, sec)) hw
    have kw : vk m19 [1410, 1411, 1412, 1413, 1414] [] (fun _ => True) s s1 := k1.weak (by decide) (by decide) (by decide)
    have b3 := rov_rng hy g ((qal y g).1 i)
    have hL := hk.2.2.2.2.2.1
    have hL1 := hk1.2.2.2.2.2.1
    have e0 : ∀ a b, ab_X17_walks_19 (fu + 1) (B + 639) (zI y.2.2.1) (zI y.2.2.2) a b (nI i) s = if run y g ((qal y g).1 i) < rov y g ((qal y g).1 i) then ab_X17_walks_19 fu (B + 639) (zI y.2.2.1) (zI y.2.2.2) a b (nI (i + 1)) s1 else if bI (stB D g ((qal y g).1 i) (rfr y g ((qal y g).1 i))) = 0 then ab_X17_walks_19 fu (B + 639) (zI y.2.2.1) (zI y.2.2.2) (if false = rfr y g ((qal y g).1 i) then nI (g (wlp g ((qal y g).1 i) + 2)) else zI (n255 (g (wlp g ((qal y g).1 i) + 3)))) (b + 1) (nI (i + 1)) s1 else some (0, s1) := by
      intro a b
      show ab_X17_walks_19b _ (B + 639) (zI y.2.2.1) (zI y.2.2.2) _ _ (nI i) s = _
      unfold ab_X17_walks_19b ab_X17_walks_85
      rw [slet, hG.1, if_neg (nI_ge (by omega) (by omega)), vl_I_ok (by omega) (by omega), obs, hG.2 i (by omega), a1, vbs, slet, slet, a9 hm, a7, show (0 : Int32) = zI 0 from rfl, ifc (lg_gt (by omega) (by omega) (by omega) (by omega)), vl_I_ok (by omega) (by omega), obs, hG1.2 i (by omega), r_stops hk1.1 hk1.2.2.2.1 hk1.2.2.2.2.1 hk1.2.1.2.1 hwi a8 hD1, vbs, vl_I_ok (by omega) (by omega), obs, hG1.2 i (by omega), show zI 0 = bI false from rfl, r_side hk1.1 hk1.2.2.2.1 hwi a8, vbs, nI_1]
    rw [e0]
    by_cases c1 : run y g ((qal y g).1 i) < rov y g ((qal y g).1 i)
    · have ge : (qcl y g 1).2 ≤ i := by
        by_cases z : i < (qcl y g 1).2
        · have := rcB_1.mp ((q3 i (by omega)).mpr z)
          omega
        · omega
      have em : min i (qcl y g 1).2 = (qcl y g 1).2 := by omega
      have em1 : min (i + 1) (qcl y g 1).2 = (qcl y g 1).2 := by omega
      rw [if_pos c1]
      obtain ⟨r, s2, E, k, x1, x2, x3, x4, x5, x6⟩ := ih (i + 1) fu s1 (by omega) (by omega) hk1 hA1 hG1 hD1 hv hw1 (by rw [em1]; rw [em] at hs; exact hs)
      rw [em1] at x1
      rw [em]
      exact ⟨r, s2, E, k, x1, kw.trans x2, x3, x4, x5, x6⟩
    · have lt : i < (qcl y g 1).2 := (q3 i (by omega)).mp (rcB_1.mpr (by omega))
      have em : min i (qcl y g 1).2 = i := by omega
      have em1 : min (i + 1) (qcl y g 1).2 = i + 1 := by omega
      rw [if_neg c1, q2 i lt]
      rw [em] at hs ⊢
      by_cases c2 : stB D g ((qcl y g 1).1 i) (rfr y g ((qcl y g 1).1 i)) = true
      · rw [c2, if_neg (by decide)]
        exact ⟨false, s1, D, _, rfl, kw, hD1, hv, hw1, Or.inl ⟨rfl, Or.inr ⟨i, lt, c2⟩, rfl, rfl⟩⟩
      · have nb := stB_back c2
        rw [if_pos (by rw [Bool.not_eq_true] at c2; rw [c2]; rfl), n255_nI nb]
        obtain ⟨r, s2, E, k, x1, x2, x3, x4, x5, x6⟩ := ih (i + 1) fu s1 (by omega) (by omega) hk1 hA1 hG1 hD1 hv hw1 (by
          rw [em1]
          intro j hj
          by_cases z : j = i
          · rw [z]; exact c2
          · exact hs j (by omega))
        rw [em1] at x1
        refine ⟨r, s2, E, k, ?_, kw.trans x2, x3, x4, x5, x6⟩
        have es : (if false = rfr y g ((qcl y g 1).1 i) then nI (g (wlp g ((qcl y g 1).1 i) + 2)) else nI (g (wlp g ((qcl y g 1).1 i) + 3))) = nI (secA g y (qcl y g 1).1 sec (i + 1)) := by
          unfold secA sdOn
          rw [if_neg (show ¬ i + 1 = 0 by omega), Nat.add_sub_cancel]
          cases rfr y g ((qcl y g 1).1 i) <;> rfl
        rw [nI_1, es]
        exact x1
theorem r_walks {sec : Nat} (hy : ryOk y) (hk : rWk B g n s) (hD : secsR s (B + 656) (g 5) D) (hv : ∀ j, j < g 5 → sdOk (D j)) (hw : wkR B s (y.1, y.2.1, sec)) : ∃ r s1 E k, ab_X17_walks (B + 639) (zI y.2.2.1) (zI y.2.2.2) s = some (bI r, s1) ∧ secsR s1 (B + 656) (g 5) E ∧ (∀ j, j < g 5 → sdOk (E j)) ∧ wkR B s1 k ∧ goS g y sec D r E k := by
  obtain ⟨s0, s1, a1, -, -, a3, a4⟩ := r_gather hy hk.1 hk.2.2.2.1 hk.2.2.2.2.2.1 hk.2.2.1 hw.1 hw.2.1
  have k1 := (vk_X17_gather vclT trivial a1).1
  have hw1 : wkR B s1 (y.1, y.2.1, sec) := k1.keep0 (P := fun t => wkR B t (y.1, y.2.1, sec)) hw
  have qi := qal_in (y := y) (g := g)
  have hS := hk.C.S
  obtain ⟨r, s2, E, k, b1, -, b3, b4, b5, b6⟩ := r_19 (n := n) (D := D) (sec := sec) hy (qal y g).2 0 sv_fuel s1 (by omega) (fuel_ge (by omega)) (k1.keep0 (P := rWk B g n) hk) a3 a4 (k1.keep0 (P := fun t => secsR t (B + 656) (g 5) D) hD) hv hw1 (fun j hj => absurd hj (by omega))
  refine ⟨r, s2, E, k, ?_, b3, b4, b5, b6⟩
  rw [Nat.zero_min] at b1
  unfold ab_X17_walks
  rw [zI_wide (by have := hy.2.2.1; omega) (by have := hy.2.2.1; omega), zI_wide (by have := hy.2.2.2; omega) (by have := hy.2.2.2; omega), a1, vbs, slet, hw1.2.2]
  exact b1
end WA
