-- A MOVE of the walker, in the class
def cr1 (g : Nat → Nat) (w : Nat) (D E : Nat → SD) : Prop :=
  if g (wlp g w + 12) = 2 then stFrom 1 (fun j => decide (g (scp g j + 8) = g (wlp g w + 13))) g (g 6) (g 5) 0 D E
  else if g (wlp g w + 12) = 3 then stFrom 0 (fun j => decide (g (scp g j + 8) = g (wlp g w + 13))) g (g 6) (g 5) 0 D E
  else if g (wlp g w + 12) = 5 then stFrom 2 (fun j => decide (g (scp g j + 8) = g (wlp g w + 13))) g (g 6) (g 5) 0 D E
  else E = D
theorem cr1.uniq {g : Nat → Nat} {w : Nat} {D E F : Nat → SD} (h : cr1 g w D E) (k : cr1 g w D F) : E = F := by
  unfold cr1 at h k
  split at h
  · next c => rw [if_pos c] at k; exact h.uniq (by omega) _ _ _ _ _ k
  · next c =>
    rw [if_neg c] at k
    split at h
    · next c => rw [if_pos c] at k; exact h.uniq (by omega) _ _ _ _ _ k
    · next c =>
      rw [if_neg c] at k
      split at h
      · next c => rw [if_pos c] at k; exact h.uniq (by omega) _ _ _ _ _ k
      · next c => rw [if_neg c] at k; rw [h, k]
def crD (g : Nat → Nat) (m : Nat → Nat) : Nat → Nat → (Nat → SD) → (Nat → SD) → Prop
  | 0, _, D, E => E = D
  | d + 1, i, D, E => ∃ F, cr1 g (m i) D F ∧ crD g m d (i + 1) F E
theorem crD.uniq {g m : Nat → Nat} : ∀ d i D E F, crD g m d i D E → crD g m d i D F → E = F
  | 0, _, D, E, F, h, k => by
    have h : E = D := h
    have k : F = D := k
    rw [h, k]
  | d + 1, i, D, E, F, h, k => by
    obtain ⟨r, h1, h2⟩ := h
    obtain ⟨q, k1, k2⟩ := k
    have := h1.uniq k1
    subst this
    exact crD.uniq d (i + 1) _ E F h2 k2
theorem crD.eqm {g m m2 : Nat → Nat} : ∀ d i D E, (∀ j, i ≤ j → j < i + d → m j = m2 j) → crD g m d i D E → crD g m2 d i D E
  | 0, _, D, E, _, h => h
  | d + 1, i, D, E, e, h => by
    obtain ⟨r, h1, h2⟩ := h
    exact ⟨r, by rw [← e i (by omega) (by omega)]; exact h1, crD.eqm d (i + 1) _ E (fun j a b => e j (by omega) (by omega)) h2⟩
def secA (g : Nat → Nat) (y : RY) (m : Nat → Nat) (sec i : Nat) : Nat := if i = 0 then sec else sdOn g (m (i - 1)) (!rfr y g (m (i - 1)))
def cWk (B p : Nat) (g : Nat → Nat) (n : Nat) (s : vt_S) : Prop := (p = B + 23 ∨ p = B + 322) ∧ vt_P s 1101 (B + 628) = p ∧ vt_P s 1100 (B + 628) = B + 621 ∧ rayL (B + 621) s ∧ pS p s ∧ planF s p g ∧ cMap g n
theorem vk.pI {ws rs gs : List Nat} {s0 s : vt_S} {f a : Nat} {v : Int32} (h : vk ws rs gs (fun _ => True) s0 s) (hf : f ∈ ws) : vk ws rs gs (fun _ => True) s0 (vu_I s f a v) := (vw_I ⟨h, vclT⟩ hf trivial).1
theorem vk.eI {ws rs gs : List Nat} {s0 s : vt_S} {f a : Nat} (h : vk ws rs gs (fun _ => True) s0 s) (hf : f ∉ ws) : vt_I s f a = vt_I s0 f a := (h.2.1 f a (Or.inl hf)).1
section GO
variable {B p n : Nat} {g : Nat → Nat} {D : Nat → SD} {s : vt_S} {y : RY}
theorem cWk.W (h : cWk B p g n s) : plnW s p g (g 5) (g 6) := ⟨h.2.2.2.2.2.1.1.2.2.2, h.2.2.2.2.2.2.S.2.1, h.2.2.2.2.2.2.S.1, h.2.2.2.2.2.1.2.2.2.2.1, fun j hj => ⟨(h.2.2.2.2.2.2.wV hj).1, (h.2.2.2.2.2.2.wV hj).2.1⟩⟩
theorem cWk.V (h : cWk B p g n s) : plnV s p g (g 6) := ⟨h.2.2.2.2.2.1.1.2.2.2, h.2.2.2.2.2.2.S.2.1, h.2.2.2.2.2.1.2.2.2.2.1⟩
theorem cWk.T (h : cWk B p g n s) {j : Nat} (hj : j < g 5) : vt_I s 706 (p + 11 + j) = nI (g (scp g j + 8)) := (h.2.2.2.2.2.1.2.2.2.1 j hj).2.2.2.2.2.2
theorem cWk.T8 (h : cWk B p g n s) {j : Nat} (hj : j < g 5) : g (scp g j + 8) < 256 := h.2.2.2.2.2.2.2 _ (by have := (h.2.2.2.2.2.2.1.1.2.2.2.2.1 j hj).2; omega)
theorem c_cr1 {w : Nat} (hk : cWk B p g n s) (hw : w < g 6) (hD : secsC s p (g 5) D) (hv : ∀ j, j < g 5 → sdOk (D j)) : ∃ r s1 E, ab_X10_moverByCrossing (nI (g (wlp g w + 12))) s = some (r, s) ∧ ab_X2_startAll p r (nI (g (wlp g w + 13))) s = some ((), s1) ∧ secsC s1 p (g 5) E ∧ (∀ j, j < g 5 → sdOk (E j)) ∧ cr1 g w D E := by
  have hc := hk.2.2.2.2.2.2
  obtain ⟨-, -, k5, t⟩ := hc.wV hw
  have go : ∀ what, (what = 0 ∨ what = 1 ∨ what = 2) → ∃ s1 E, ab_X2_startAll p (nI what) (nI (g (wlp g w + 13))) s = some ((), s1) ∧ secsC s1 p (g 5) E ∧ (∀ j, j < g 5 → sdOk (E j)) ∧ stFrom what (fun j => decide (g (scp g j + 8) = g (wlp g w + 13))) g (g 6) (g 5) 0 D E := by
    intro what hwh
    obtain ⟨s1, E, a1, -, a3, a4, a5⟩ := c_startAll (T := fun j => g (scp g j + 8)) hwh (fun j hj => hk.T8 hj) t hk.2.2.2.2.1 hk.W hk.2.2.2.2.2.1.1.2.2.1 (fun j hj => hk.T hj) hD hv
    exact ⟨s1, E, a1, a3, a5, a4⟩
  have no : ab_X2_startAll p (-1) (nI (g (wlp g w + 13))) s = some ((), s) := c_startAll0 hk.2.2.2.2.1 hc.S.1 hk.2.2.2.2.2.1.1.2.2.1 _
  unfold cr1
  generalize g (wlp g w + 12) = k at *
  obtain rfl | rfl | rfl | rfl | rfl | rfl : k = 0 ∨ k = 1 ∨ k = 2 ∨ k = 3 ∨ k = 4 ∨ k = 5 := by omega
  · exact ⟨-1, s, D, rfl, no, hD, hv, by rw [if_neg (by decide), if_neg (by decide), if_neg (by decide)]⟩
  · exact ⟨-1, s, D, rfl, no, hD, hv, by rw [if_neg (by decide), if_neg (by decide), if_neg (by decide)]⟩
  · obtain ⟨s1, E, a1, a2, a3, a4⟩ := go 1 (by omega)
    exact ⟨1, s1, E, rfl, a1, a2, a3, by rw [if_pos rfl]; exact a4⟩
  · obtain ⟨s1, E, a1, a2, a3, a4⟩ := go 0 (by omega)
    exact ⟨0, s1, E, rfl, a1, a2, a3, by rw [if_neg (by decide), if_pos rfl]; exact a4⟩
  · exact ⟨-1, s, D, rfl, no, hD, hv, by rw [if_neg (by decide), if_neg (by decide), if_neg (by decide)]⟩
  · obtain ⟨s1, E, a1, a2, a3, a4⟩ := go 2 (by omega)
    exact ⟨2, s1, E, rfl, a1, a2, a3, by rw [if_neg (by decide), if_neg (by decide), if_pos rfl]; exact a4⟩
theorem c_go135 {q : (Nat → Nat) × Nat} {sec : Nat} (hq : ∀ j, j < q.2 → q.1 j < g 6 ∧ (rfr y g (q.1 j) = false ∨ g (wlp g (q.1 j) + 3) ≠ 255)) (hq2 : q.2 ≤ 128) : ∀ (d i fu : Nat) (s : vt_S) (D : Nat → SD), i + d = q.2 → d < fu → cWk B p g n s → rays s (B + 621) y g q → secsC s p (g 5) D → (∀ j, j < g 5 → sdOk (D j)) → vt_I s 1105 (B + 628) = nI (secA g y q.1 sec i) → ∃ s1 E, ab_X10_go_135 fu (B + 628) (nI i) s = some (1, s1) ∧ vk [709, 710, 711, 712, 713, 1105] [] [] (fun _ => True) s s1 ∧ secsC s1 p (g 5) E ∧ (∀ j, j < g 5 → sdOk (E j)) ∧ crD g q.1 d i D E ∧ vt_I s1 1105 (B + 628) = nI (secA g y q.1 sec q.2) := by
  intro d
  induction d with
  | zero =>
    intro i fu s D hi hf hk hr hD hv hs
    obtain ⟨fu, rfl⟩ : ∃ q, fu = q + 1 := ⟨fu - 1, by omega⟩
    refine ⟨s, D, ?_, vk.refl s, hD, hv, rfl, ?_⟩
    · show ab_X10_go_135b _ (B + 628) (nI i) s = _
      unfold ab_X10_go_135b
      rw [slet, hk.2.2.1, slet, hr.1, if_pos (nI_le (by omega) (by omega))]
    · rw [show q.2 = i by omega]; exact hs
  | succ d ih =>
    intro i fu s D hi hf hk hr hD hv hs
    obtain ⟨fu, rfl⟩ : ∃ q, fu = q + 1 := ⟨fu - 1, by omega⟩
    obtain ⟨hw, hb⟩ := hq i (by omega)
    obtain ⟨x1, x2, -⟩ := hr.2 i (by omega)
    have hL := hk.2.2.2.1
    have hp := hk.2.2.2.2.1
    have L8 := hp.L308
    have hF := hk.V.2.2 _ hw
    have hS := hk.2.2.2.2.2.2.S
    have e0 : ab_X10_go_135 (fu + 1) (B + 628) (nI i) s = ab_X10_go_185 (ab_X10_go_135 fu) (B + 628) (nI i) (p + 43 + 2 * q.1 i) (B + 628) (p + 43 + 2 * q.1 i) (bI (!rfr y g (q.1 i))) s := by
      show ab_X10_go_135b _ (B + 628) (nI i) s = _
      unfold ab_X10_go_135b
      rw [slet, hk.2.2.1, slet, hr.1, if_neg (nI_ge (by omega) (by omega)), slet, hk.2.1, slet, vl_I_ok (by rw [hL.1]; omega) (by rw [hL.1]; omega), obs, x1, vl_P_ok (by omega) (by omega), obs, hp.E308 _ (by omega), slet, vl_I_ok (by rw [hL.2.1]; omega) (by rw [hL.2.1]; omega), obs, x2]
      cases rfr y g (q.1 i)
      · rw [if_pos (show bI false = 0 from rfl)]; rfl
      · rw [if_neg (show ¬ bI true = 0 by decide)]; rfl
    have e1 : secA g y q.1 sec (i + 1) = sdOn g (q.1 i) (!rfr y g (q.1 i)) := by
      unfold secA
      rw [if_neg (by omega), Nat.add_sub_cancel]
    have k0 : vk [709, 710, 711, 712, 713, 1105] [] [] (fun _ => True) s (vu_I s 1105 (B + 628) (nI (sdOn g (q.1 i) (!rfr y g (q.1 i))))) := vk.pI (vk.refl s) (by decide)
    have hk1 : cWk B p g n (vu_I s 1105 (B + 628) (nI (sdOn g (q.1 i) (!rfr y g (q.1 i))))) := k0.keep0 hk
    have hD1 : secsC (vu_I s 1105 (B + 628) (nI (sdOn g (q.1 i) (!rfr y g (q.1 i))))) p (g 5) D := hD
    obtain ⟨r, s1, E, a1, a2, a3, a4, a5⟩ := c_cr1 hk1 hw hD1 hv
    have k1 := (vk_X2_startAll vclT trivial a2).1
    have k2 : vk [709, 710, 711, 712, 713, 1105] [] [] (fun _ => True) s s1 := k0.trans (k1.weak (by decide) (by decide) (by decide))
    have hF1 := hk1.V.2.2 _ hw
    obtain ⟨s2, F, b1, b2, b3, b4, b5, b6⟩ := ih (i + 1) fu s1 E (by omega) (by omega) (k2.keep0 hk) (k2.keep0 (P := fun t => rays t (B + 621) y g q) hr) a3 a4 (by rw [k1.eI (by decide), I_at, e1])
    refine ⟨s2, F, ?_, k2.trans b2, b3, b4, ⟨E, a5, b5⟩, b6⟩
    rw [e0]
    unfold ab_X10_go_185
    rw [c_secOn hF _ (by rcases hb with z | z
                         · left; rw [z]; rfl
                         · right; exact z), vbs, slet, slet, hk1.2.1, slet, hF1.2.2.2.2.2.2.2.2.2.2.1, a1, vbs, slet, hF1.2.2.2.2.2.2.2.2.2.2.2, a2, vbs, nI_1]
    exact b1
end GO
