-- ALL SECTORS with a tag: their movers begin
def updD (D : Nat → SD) (i : Nat) (r : SD) : Nat → SD := fun j => if j = i then r else D j
def stFrom (what : Nat) (T : Nat → Bool) (g : Nat → Nat) (W : Nat) : Nat → Nat → (Nat → SD) → (Nat → SD) → Prop
  | 0, _, D, E => E = D
  | d + 1, i, D, E => if T i = true then ∃ r, startS what g i W D r ∧ stFrom what T g W d (i + 1) (updD D i r) E else stFrom what T g W d (i + 1) D E
theorem stFrom.uniq {what : Nat} {T : Nat → Bool} {g : Nat → Nat} {W : Nat} (hw : what = 0 ∨ what = 1 ∨ what = 2) : ∀ d i D E F, stFrom what T g W d i D E → stFrom what T g W d i D F → E = F
  | 0, _, D, E, F, h, k => by
    have h : E = D := h
    have k : F = D := k
    rw [h, k]
  | d + 1, i, D, E, F, h, k => by
    unfold stFrom at h k
    by_cases c : T i = true
    · rw [if_pos c] at h k
      obtain ⟨r, h1, h2⟩ := h
      obtain ⟨q, k1, k2⟩ := k
      have := h1.uniq hw k1
      subst this
      exact stFrom.uniq hw d (i + 1) _ E F h2 k2
    · rw [if_neg c] at h k
      exact stFrom.uniq hw d (i + 1) _ E F h k
theorem plnW.onl {V : Nat → Prop} {s s1 : vt_S} {p S W : Nat} {g : Nat → Nat} (h : plnW s p g S W) (k : onl V s s1) (h1 : ¬ V p) (h2 : ∀ j, j < 128 → ¬ V (p + 43 + 2 * j)) : plnW s1 p g S W := by
  obtain ⟨a, b, c, d, e⟩ := h
  exact ⟨by rw [k.I h1]; exact a, b, c, fun j hj => (d j hj).onl k (h2 j (by omega)), e⟩
section SA
variable {what tag : Nat} {g : Nat → Nat} {W N p : Nat}
theorem c_startAll_loop {T : Nat → Nat} (hw : what = 0 ∨ what = 1 ∨ what = 2) (hT : ∀ j, j < N → T j < 256) (ht : tag < 256) : ∀ (d i fu : Nat) (s : vt_S) (D : Nat → SD), i + d = N → d < fu → pS p s → plnW s p g N W → vt_I s 311 p = nI N → (∀ j, j < N → vt_I s 706 (p + 11 + j) = nI (T j)) → secsC s p N D → (∀ j, j < N → sdOk (D j)) → ∃ s1 E, ab_X2_startAll_2 fu p (nI what) (nI tag) (nI i) s = some ((), s1) ∧ mva p s s1 ∧ secsC s1 p N E ∧ stFrom what (fun j => decide (T j = tag)) g W d i D E ∧ ∀ j, j < N → sdOk (E j) := by
  intro d
  induction d with
  | zero =>
    intro i fu s D hi hf hp hpl hc hT7 h hv
    obtain ⟨fu, rfl⟩ : ∃ q, fu = q + 1 := ⟨fu - 1, by omega⟩
    have hN := hpl.2.2.1
    refine ⟨s, D, ?_, mva.refl, h, rfl, hv⟩
    show ab_X2_startAll_2b _ p (nI what) (nI tag) (nI i) s = _
    unfold ab_X2_startAll_2b ab_X2_startAll_40
    rw [slet, hc, if_pos (nI_le (by omega) (by omega))]
  | succ d ih =>
    intro i fu s D hi hf hp hpl hc hT7 h hv
    obtain ⟨fu, rfl⟩ : ∃ q, fu = q + 1 := ⟨fu - 1, by omega⟩
    have hN := hpl.2.2.1
    have L := hp.L307
    have hTi := hT i (by omega)
    have e0 : ab_X2_startAll_2 (fu + 1) p (nI what) (nI tag) (nI i) s = if nI (T i) = nI tag then vt_b (ab_X2_startOne p (nI what) (nI i) s) fun _ h5 => ab_X2_startAll_2 fu p (nI what) (nI tag) (nI (i + 1)) h5 else ab_X2_startAll_2 fu p (nI what) (nI tag) (nI (i + 1)) s := by
      show ab_X2_startAll_2b _ p (nI what) (nI tag) (nI i) s = _
      unfold ab_X2_startAll_2b ab_X2_startAll_40 ab_X2_startAll_34
      rw [slet, hc, if_neg (nI_ge (by omega) (by omega)), if_neg (ne_m1 (by omega)), vl_P_ok (by omega) (by omega), obs, hp.E307 i (by omega), slet, hT7 i (by omega), nI_1]
    rw [e0]
    by_cases c : T i = tag
    · obtain ⟨s1, r, a1, a2, a3, a4⟩ := c_startOne (what := what) hp hpl (show i < N by omega) h hw
      rw [if_pos (by rw [c]), a1, vbs]
      have m := a2.all (p := p) (by omega) (by omega)
      obtain ⟨s2, E, b1, b2, b3, b4, b5⟩ := ih (i + 1) fu s1 (updD D i r) (by omega) (by omega) (hp.of m.1.P m.1.L m.1.E) (hpl.onl m.1 (by omega) (fun j hj => by omega)) (by rw [m.1.I (by omega)]; exact hc) (fun j hj => by rw [m.2.1 706 _ (by omega)]; exact hT7 j hj) (fun j hj => by
        unfold updD
        by_cases y : j = i
        · rw [if_pos y, y]; exact a3
        · rw [if_neg y]; exact (h j hj).keep a2.1 (by omega)) (fun j hj => by
        unfold updD
        by_cases y : j = i
        · rw [if_pos y]; exact startS_ok hw a4 (hv i (by omega))
        · rw [if_neg y]; exact hv j hj)
      refine ⟨s2, E, b1, m.trans b2, b3, ?_, b5⟩
      unfold stFrom
      rw [if_pos (decide_eq_true c)]
      exact ⟨r, a4, b4⟩
    · rw [if_neg (by rw [nI_eq (by omega) (by omega)]; exact c)]
      obtain ⟨s2, E, b1, b2, b3, b4, b5⟩ := ih (i + 1) fu s D (by omega) (by omega) hp hpl hc hT7 h hv
      refine ⟨s2, E, b1, b2, b3, ?_, b5⟩
      unfold stFrom
      rw [if_neg (by rw [decide_eq_true_eq]; exact c)]
      exact b4
theorem c_startAll {T : Nat → Nat} {s : vt_S} {D : Nat → SD} (hw : what = 0 ∨ what = 1 ∨ what = 2) (hT : ∀ j, j < N → T j < 256) (ht : tag < 256) (hp : pS p s) (hpl : plnW s p g N W) (hc : vt_I s 311 p = nI N) (hT7 : ∀ j, j < N → vt_I s 706 (p + 11 + j) = nI (T j)) (h : secsC s p N D) (hv : ∀ j, j < N → sdOk (D j)) : ∃ s1 E, ab_X2_startAll p (nI what) (nI tag) s = some ((), s1) ∧ mva p s s1 ∧ secsC s1 p N E ∧ stFrom what (fun j => decide (T j = tag)) g W N 0 D E ∧ ∀ j, j < N → sdOk (E j) :=
  c_startAll_loop hw hT ht N 0 sv_fuel s D (by omega) (fuel_ge (by have := hpl.2.2.1; omega)) hp hpl hc hT7 h hv
theorem c_startAll0 {s : vt_S} (hp : pS p s) (hN : N ≤ 32) (hc : vt_I s 311 p = nI N) (t : Int32) : ab_X2_startAll p (-1) t s = some ((), s) := by
  unfold ab_X2_startAll
  rw [sv_fuel_succ.choose_spec]
  show ab_X2_startAll_2b _ p (-1) t 0 s = _
  unfold ab_X2_startAll_2b ab_X2_startAll_40
  rw [slet, hc]
  by_cases c : nI N ≤ 0
  · rw [if_pos c]
  · rw [if_neg c, if_pos rfl]
end SA
/-- the reference's map and hall -/
def rHal (B : Nat) (g : Nat → Nat) (s : vt_S) : Prop := hNb s (B + 656) (g 5) g (g 6) ∧ hlL (B + 656) s ∧ (vt_L s 1401 (B + 656) = 32 ∧ vt_L s 1402 (B + 656) = 32 ∧ vt_L s 1403 (B + 656) = 32 ∧ vt_L s 1404 (B + 656) = 32 ∧ vt_L s 1405 (B + 656) = 32) ∧ ∀ j, j < g 5 → vt_A s 1401 (B + 656) j = zI (pr g (scp g j)) ∧ vt_A s 1402 (B + 656) j = zI (pr g (scp g j + 2)) ∧ vt_A s 1403 (B + 656) j = nI (g (scp g j + 6)) ∧ vt_A s 1404 (B + 656) j = nI (g (scp g j + 7)) ∧ vt_A s 1405 (B + 656) j = nI (g (scp g j + 8))
theorem rHal.hla {B : Nat} {g : Nat → Nat} {s s1 : vt_S} (h : rHal B g s) (k : hla (B + 656) s s1) : rHal B g s1 := by
  obtain ⟨⟨a1, a2, a3, a4, a5⟩, b, c, d⟩ := h
  refine ⟨⟨by rw [k.I (by omega)]; exact a1, a2, by rw [k.L]; exact a3, fun x y hx hy => by rw [k.A (by omega)]; exact a4 x y hx hy, a5⟩, b.of k.L, by rw [k.L]; exact c, fun j hj => ?_⟩
  rw [k.A (by omega), k.A (by omega), k.A (by omega), k.A (by omega), k.A (by omega)]
  exact d j hj
theorem rMap.hla {B : Nat} {g : Nat → Nat} {n : Nat} {s s1 : vt_S} (h : rMap B g n s) (k : hla (B + 656) s s1) : rMap B g n s1 := by
  obtain ⟨a1, a2, a3, a4, a5⟩ := h
  refine ⟨by rw [k.I (by omega)]; exact a1, by rw [k.L]; exact a2, a3, fun i hi => by rw [k.A (by omega)]; exact a4 i hi, a5⟩
section RA
variable {B : Nat} {g : Nat → Nat} {n : Nat}
theorem r_sectors {s : vt_S} (hm : rMap B g n s) (hh : vt_I s 1809 (B + 639) = 1) (hP : vt_P s 1801 (B + 639) = B + 640) : ab_X17_sectors (B + 639) s = some (nI (g 5), s) := by
  unfold ab_X17_sectors
  simp only [slet]
  rw [hh, if_neg (by decide), hP, show (5 : Int32) = nI 5 from rfl, rm_many hm (by omega), vbs]
  rfl
theorem r_wallN {s : vt_S} (hm : rMap B g n s) (hP : vt_P s 1801 (B + 639) = B + 640) : ab_X17_walls (B + 639) s = some (nI (g 6), s) := by
  unfold ab_X17_walls
  simp only [slet]
  rw [hP, show (6 : Int32) = nI 6 from rfl, rm_many hm (by omega), vbs]
theorem r_startAll_loop {what tag : Nat} (hw : what = 0 ∨ what = 1 ∨ what = 2) (ht : tag < 256) : ∀ (d i fu : Nat) (s : vt_S) (D : Nat → SD), i + d = g 5 → d < fu → rMap B g n s → rHal B g s → vt_I s 1809 (B + 639) = 1 → vt_P s 1801 (B + 639) = B + 640 → vt_P s 1803 (B + 639) = B + 656 → secsR s (B + 656) (g 5) D → (∀ j, j < g 5 → sdOk (D j)) → ∃ s1 E, ab_X17_startAll_2 fu (B + 639) (nI tag) (nI what) (nI i) s = some ((), s1) ∧ hla (B + 656) s s1 ∧ secsR s1 (B + 656) (g 5) E ∧ stFrom what (fun j => decide (g (scp g j + 8) = tag)) g (g 6) d i D E ∧ ∀ j, j < g 5 → sdOk (E j) := by
  intro d
  induction d with
  | zero =>
    intro i fu s D hi hf hm hh h9 hP1 hP3 h hv
    obtain ⟨fu, rfl⟩ : ∃ q, fu = q + 1 := ⟨fu - 1, by omega⟩
    have hN := hh.1.2.1
    refine ⟨s, D, ?_, hla.refl, h, rfl, hv⟩
    show ab_X17_startAll_2b _ (B + 639) (nI tag) (nI what) (nI i) s = _
    unfold ab_X17_startAll_2b
    rw [r_sectors hm h9 hP1, vbs, if_pos (nI_le (by omega) (by omega))]
  | succ d ih =>
    intro i fu s D hi hf hm hh h9 hP1 hP3 h hv
    obtain ⟨fu, rfl⟩ : ∃ q, fu = q + 1 := ⟨fu - 1, by omega⟩
    have hN := hh.1.2.1
    have hb : g (scp g i + 8) < 256 := (hm.2.2.2.1 _ (by have := (hm.V.1.2.2.2.2.1 i (by omega)).2; omega)).2
    have hL5 := hh.2.2.1.2.2.2.2
    have e0 : ab_X17_startAll_2 (fu + 1) (B + 639) (nI tag) (nI what) (nI i) s = if nI (g (scp g i + 8)) = nI tag then vt_b (ab_X13_begin (B + 656) (nI i) (nI what) s) fun _ h8 => ab_X17_startAll_2 fu (B + 639) (nI tag) (nI what) (nI (i + 1)) h8 else ab_X17_startAll_2 fu (B + 639) (nI tag) (nI what) (nI (i + 1)) s := by
      show ab_X17_startAll_2b _ (B + 639) (nI tag) (nI what) (nI i) s = _
      unfold ab_X17_startAll_2b ab_X17_startAll_39 ab_X17_startAll_40
      rw [r_sectors hm h9 hP1, vbs, if_neg (nI_ge (by omega) (by omega)), slet, hP3, vl_I_ok (by omega) (by omega), obs, (hh.2.2.2 i (by omega)).2.2.2.2, slet, nI_1]
      by_cases c : nI (g (scp g i + 8)) = nI tag
      · rw [if_pos c, if_pos c]
        cases ab_X13_begin (B + 656) (nI i) (nI what) s with
        | none => rfl
        | some o =>
          obtain ⟨r, h8⟩ := o
          rw [vbs, vbs]
          by_cases y : r = 0
          · rw [if_pos y]
          · rw [if_neg y]
      · rw [if_neg c, if_neg c]
    rw [e0]
    by_cases c : g (scp g i + 8) = tag
    · obtain ⟨s1, r, dd, a1, a2, a3, a4⟩ := r_begin (what := what) hh.1 hh.2.1 (show i < g 5 by omega) h (hv i (by omega)) hw
      rw [if_pos (by rw [c]), a1, vbs]
      have m := a2.all
      obtain ⟨s2, E, b1, b2, b3, b4, b5⟩ := ih (i + 1) fu s1 (updD D i dd) (by omega) (by omega) (hm.hla m) (hh.hla m) (by rw [m.I (by omega)]; exact h9) (by rw [m.P]; exact hP1) (by rw [m.P]; exact hP3) (fun j hj => by
        unfold updD
        by_cases y : j = i
        · rw [if_pos y, y]; exact a3
        · rw [if_neg y]; exact (h j hj).keep a2 y) (fun j hj => by
        unfold updD
        by_cases y : j = i
        · rw [if_pos y]; exact startS_ok hw a4 (hv i (by omega))
        · rw [if_neg y]; exact hv j hj)
      refine ⟨s2, E, b1, m.trans b2, b3, ?_, b5⟩
      unfold stFrom
      rw [if_pos (decide_eq_true c)]
      exact ⟨dd, a4, b4⟩
    · rw [if_neg (by rw [nI_eq (by omega) (by omega)]; exact c)]
      obtain ⟨s2, E, b1, b2, b3, b4, b5⟩ := ih (i + 1) fu s D (by omega) (by omega) hm hh h9 hP1 hP3 h hv
      refine ⟨s2, E, b1, b2, b3, ?_, b5⟩
      unfold stFrom
      rw [if_neg (by rw [decide_eq_true_eq]; exact c)]
      exact b4
theorem r_startAll {what tag : Nat} {s : vt_S} {D : Nat → SD} (hw : what = 0 ∨ what = 1 ∨ what = 2) (ht : tag < 256) (hm : rMap B g n s) (hh : rHal B g s) (h9 : vt_I s 1809 (B + 639) = 1) (hP1 : vt_P s 1801 (B + 639) = B + 640) (hP3 : vt_P s 1803 (B + 639) = B + 656) (h : secsR s (B + 656) (g 5) D) (hv : ∀ j, j < g 5 → sdOk (D j)) : ∃ s1 E, ab_X17_startAll (B + 639) (nI tag) (nI what) s = some ((), s1) ∧ hla (B + 656) s s1 ∧ secsR s1 (B + 656) (g 5) E ∧ stFrom what (fun j => decide (g (scp g j + 8) = tag)) g (g 6) (g 5) 0 D E ∧ ∀ j, j < g 5 → sdOk (E j) :=
  r_startAll_loop hw ht (g 5) 0 sv_fuel s D (by omega) (fuel_ge (by have := hh.1.2.1; omega)) hm hh h9 hP1 hP3 h hv
end RA
