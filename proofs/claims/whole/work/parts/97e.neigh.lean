-- NEIGHBOURS, and the least and the greatest among them
def isMin (a : Int32) (f : Nat → Int32) (R : Nat → Prop) (m : Int32) : Prop := (m = a ∨ ∃ t, R t ∧ m = f t) ∧ m ≤ a ∧ ∀ t, R t → m ≤ f t
def isMax (a : Int32) (f : Nat → Int32) (R : Nat → Prop) (m : Int32) : Prop := (m = a ∨ ∃ t, R t ∧ m = f t) ∧ a ≤ m ∧ ∀ t, R t → f t ≤ m
theorem isMin.uniq {a : Int32} {f : Nat → Int32} {R : Nat → Prop} {m k : Int32} (h : isMin a f R m) (g : isMin a f R k) : m = k := by
  refine Int32.le_antisymm ?_ ?_
  · rcases g.1 with e | ⟨t, h1, e⟩
    · rw [e]; exact h.2.1
    · rw [e]; exact h.2.2 t h1
  · rcases h.1 with e | ⟨t, h1, e⟩
    · rw [e]; exact g.2.1
    · rw [e]; exact g.2.2 t h1
theorem isMax.uniq {a : Int32} {f : Nat → Int32} {R : Nat → Prop} {m k : Int32} (h : isMax a f R m) (g : isMax a f R k) : m = k := by
  refine Int32.le_antisymm ?_ ?_
  · rcases h.1 with e | ⟨t, h1, e⟩
    · rw [e]; exact g.2.1
    · rw [e]; exact g.2.2 t h1
  · rcases g.1 with e | ⟨t, h1, e⟩
    · rw [e]; exact h.2.1
    · rw [e]; exact h.2.2 t h1
theorem min_le (a b : Int32) : sv_min a b ≤ a ∧ sv_min a b ≤ b ∧ (sv_min a b = a ∨ sv_min a b = b) := by
  unfold sv_min
  by_cases c : b < a
  · rw [if_pos c]; exact ⟨Int32.le_of_lt c, Int32.le_refl _, Or.inr rfl⟩
  · rw [if_neg c]; exact ⟨Int32.le_refl _, Int32.not_lt.mp c, Or.inl rfl⟩
theorem le_max (a b : Int32) : a ≤ sv_max a b ∧ b ≤ sv_max a b ∧ (sv_max a b = a ∨ sv_max a b = b) := by
  unfold sv_max
  by_cases c : a < b
  · rw [if_pos c]; exact ⟨Int32.le_of_lt c, Int32.le_refl _, Or.inr rfl⟩
  · rw [if_neg c]; exact ⟨Int32.le_refl _, Int32.not_lt.mp c, Or.inl rfl⟩
theorem isMin.step {a : Int32} {f : Nat → Int32} {R R2 : Nat → Prop} {m : Int32} {t : Nat} (h : isMin a f R m) (e : ∀ u, R2 u ↔ R u ∨ u = t) : isMin a f R2 (sv_min m (f t)) := by
  obtain ⟨m1, m2, m3⟩ := min_le m (f t)
  refine ⟨?_, Int32.le_trans m1 h.2.1, fun u hu => ?_⟩
  · rcases m3 with z | z
    · rw [z]
      rcases h.1 with y | ⟨u, h1, y⟩
      · exact Or.inl y
      · exact Or.inr ⟨u, (e u).mpr (Or.inl h1), y⟩
    · exact Or.inr ⟨t, (e t).mpr (Or.inr rfl), z⟩
  · rcases (e u).mp hu with z | z
    · exact Int32.le_trans m1 (h.2.2 u z)
    · rw [z]; exact m2
theorem isMax.step {a : Int32} {f : Nat → Int32} {R R2 : Nat → Prop} {m : Int32} {t : Nat} (h : isMax a f R m) (e : ∀ u, R2 u ↔ R u ∨ u = t) : isMax a f R2 (sv_max m (f t)) := by
  obtain ⟨m1, m2, m3⟩ := le_max m (f t)
  refine ⟨?_, Int32.le_trans h.2.1 m1, fun u hu => ?_⟩
  · rcases m3 with z | z
    · rw [z]
      rcases h.1 with y | ⟨u, h1, y⟩
      · exact Or.inl y
      · exact Or.inr ⟨u, (e u).mpr (Or.inl h1), y⟩
    · exact Or.inr ⟨t, (e t).mpr (Or.inr rfl), z⟩
  · rcases (e u).mp hu with z | z
    · exact Int32.le_trans (h.2.2 u z) m1
    · rw [z]; exact m2
theorem isMin.congr {a : Int32} {f : Nat → Int32} {R R2 : Nat → Prop} {m : Int32} (h : isMin a f R m) (e : ∀ u, R2 u ↔ R u) : isMin a f R2 m := by
  have : R2 = R := funext fun u => propext (e u)
  rw [this]; exact h
theorem isMax.congr {a : Int32} {f : Nat → Int32} {R R2 : Nat → Prop} {m : Int32} (h : isMax a f R m) (e : ∀ u, R2 u ↔ R u) : isMax a f R2 m := by
  have : R2 = R := funext fun u => propext (e u)
  rw [this]; exact h
theorem isMin.start (a : Int32) (f : Nat → Int32) {R : Nat → Prop} (h : ∀ u, ¬ R u) : isMin a f R a := ⟨Or.inl rfl, Int32.le_refl _, fun u z => absurd z (h u)⟩
theorem isMax.start (a : Int32) (f : Nat → Int32) {R : Nat → Prop} (h : ∀ u, ¬ R u) : isMax a f R a := ⟨Or.inl rfl, Int32.le_refl _, fun u z => absurd z (h u)⟩
/-- by wall w sector t is a neighbour of sector k -/
def nbW (g : Nat → Nat) (k w t : Nat) : Prop := g (wlp g w + 3) ≠ 255 ∧ g (wlp g w + 2) ≠ g (wlp g w + 3) ∧ ((g (wlp g w + 2) = k ∧ t = g (wlp g w + 3)) ∨ (g (wlp g w + 3) = k ∧ t = g (wlp g w + 2)))
def nbS (g : Nat → Nat) (k W t : Nat) : Prop := ∃ w, w < W ∧ nbW g k w t
theorem nbS_succ (g : Nat → Nat) (k W t : Nat) : nbS g k (W + 1) t ↔ nbS g k W t ∨ nbW g k W t := by
  constructor
  · rintro ⟨w, h1, h2⟩
    by_cases c : w = W
    · rw [c] at h2; exact Or.inr h2
    · exact Or.inl ⟨w, by omega, h2⟩
  · rintro (⟨w, h1, h2⟩ | h)
    · exact ⟨w, by omega, h2⟩
    · exact ⟨W, by omega, h⟩
section NB
variable {s : vt_S} {p x : Nat} {g : Nat → Nat}
/-- the neighbour by a wall, or none -/
theorem c_neigh {w k : Nat} (hw : wallF s x g (wlp g w)) (hf : g (wlp g w + 2) < 256) (hb : g (wlp g w + 3) < 256) (hk : k < 256) : (ab_X2_neighbourBy p x (nI k) s = some (-1, s) ∧ ∀ t, ¬ nbW g k w t) ∨ ∃ t, ab_X2_neighbourBy p x (nI k) s = some (nI t, s) ∧ ∀ u, nbW g k w u ↔ u = t := by
  obtain ⟨-, -, -, -, w4, w5, -⟩ := hw
  unfold ab_X2_neighbourBy ab_X2_neighbourBy_19 ab_X2_neighbourBy_50
  simp only [slet]
  rw [w4, w5]
  have e1 := n255_neg hb
  unfold nbW
  by_cases c1 : g (wlp g w + 3) = 255
  · rw [if_pos (e1.mpr c1)]
    exact Or.inl ⟨rfl, fun t z => z.1 c1⟩
  rw [if_neg (fun z => c1 (e1.mp z))]
  have e2 : zI (n255 (g (wlp g w + 3))) = nI (g (wlp g w + 3)) := by unfold n255; rw [if_neg c1, nI_z]
  rw [e2]
  by_cases c2 : g (wlp g w + 2) = g (wlp g w + 3)
  · rw [if_pos (by rw [c2])]
    exact Or.inl ⟨rfl, fun t z => z.2.1 c2⟩
  rw [if_neg (by rw [nI_eq (by omega) (by omega)]; exact c2)]
  by_cases c3 : g (wlp g w + 2) = k
  · rw [if_pos (by rw [c3])]
    refine Or.inr ⟨_, rfl, fun u => ⟨fun z => ?_, fun z => ⟨c1, c2, Or.inl ⟨c3, z⟩⟩⟩⟩
    rcases z.2.2 with y | y
    · exact y.2
    · exact absurd (c3.trans y.1.symm) c2
  rw [if_neg (by rw [nI_eq (by omega) (by omega)]; exact c3)]
  by_cases c4 : g (wlp g w + 3) = k
  · rw [if_pos (by rw [c4])]
    refine Or.inr ⟨_, rfl, fun u => ⟨fun z => ?_, fun z => ⟨c1, c2, Or.inr ⟨c4, z⟩⟩⟩⟩
    rcases z.2.2 with y | y
    · exact absurd y.1 c3
    · exact y.2
  rw [if_neg (by rw [nI_eq (by omega) (by omega)]; exact c4)]
  refine Or.inl ⟨rfl, fun t z => ?_⟩
  rcases z.2.2 with y | y
  · exact c3 y.1
  · exact c4 y.1
/-- what the plan says of its walls and sectors -/
def plnW (s : vt_S) (p : Nat) (g : Nat → Nat) (S W : Nat) : Prop := vt_I s 312 p = nI W ∧ W ≤ 128 ∧ S ≤ 32 ∧ (∀ j, j < W → wallF s (p + 43 + 2 * j) g (wlp g j)) ∧ ∀ j, j < W → g (wlp g j + 2) < S ∧ (g (wlp g j + 3) < S ∨ g (wlp g j + 3) = 255)
theorem nb_lt {S W k w t : Nat} (h : plnW s p g S W) (hw : w < W) (hn : nbW g k w t) : t < S := by
  have := h.2.2.2.2 w hw
  rcases hn.2.2 with y | y
  · rw [y.2]; exact this.2.resolve_right hn.1
  · rw [y.2]; exact this.1
theorem ne_m1 {t : Nat} (h : t < 256) : ¬ nI t = -1 := by
  rw [nI_z, show (-1 : Int32) = zI (-1) from rfl, zI_eq (by omega) (by omega) (by omega) (by omega)]
  omega
theorem c_lowC_loop {S W k : Nat} (hp : pS p s) (h : plnW s p g S W) (hk : k < S) {D : Nat → SD} (hD : secsC s p S D) : ∀ (d i fu : Nat) (m : Int32), i + d = W → d < fu → isMin 100000 (fun t => (D t).2.1) (nbS g k i) m → ∃ m2, isMin 100000 (fun t => (D t).2.1) (nbS g k W) m2 ∧ ab_X2_lowCeiling_5 fu p (nI k) m (nI i) s = some (if m2 = 100000 then (D k).2.1 else m2, s) := by
  obtain ⟨h1, h2, h3, h4, h5⟩ := id h
  have L7 := hp.L307
  have L8 := hp.L308
  intro d
  induction d with
  | zero =>
    intro i fu m hi hf hm
    obtain ⟨fu, rfl⟩ : ∃ q, fu = q + 1 := ⟨fu - 1, by omega⟩
    obtain rfl : i = W := by omega
    refine ⟨m, hm, ?_⟩
    show ab_X2_lowCeiling_5b _ p (nI k) m (nI i) s = _
    unfold ab_X2_lowCeiling_5b ab_X2_lowCeiling_72
    rw [slet, h1, if_pos (nI_le (by omega) (by omega))]
    by_cases c : m = 100000
    · rw [if_pos c, if_pos c, vl_P_ok (by omega) (by omega), obs, hp.E307 k (by omega), slet, (hD k hk).2.1]
    · rw [if_neg c, if_neg c]
  | succ d ih =>
    intro i fu m hi hf hm
    obtain ⟨fu, rfl⟩ : ∃ q, fu = q + 1 := ⟨fu - 1, by omega⟩
    show ∃ m2, _ ∧ ab_X2_lowCeiling_5b _ p (nI k) m (nI i) s = _
    unfold ab_X2_lowCeiling_5b ab_X2_lowCeiling_47
    have h5i := h5 i (by omega)
    rw [slet, h1, if_neg (nI_ge (by omega) (by omega)), vl_P_ok (by omega) (by omega), obs, hp.E308 i (by omega)]
    rcases c_neigh (p := p) (k := k) (h4 i (by omega)) (by omega) (by omega) (by omega) with ⟨e1, e2⟩ | ⟨t, e1, e2⟩
    · rw [e1, vbs, if_pos rfl, nI_1]
      exact ih (i + 1) fu m (by omega) (by omega) (hm.congr fun u => by rw [nbS_succ]; exact ⟨fun z => z.resolve_right (e2 u), Or.inl⟩)
    · have ht := nb_lt h (show i < W by omega) ((e2 t).mpr rfl)
      rw [e1, vbs, if_neg (ne_m1 (by omega)), vl_P_ok (by omega) (by omega), obs, hp.E307 t (by omega), slet, slet, (hD t ht).2.1, nI_1]
      exact ih (i + 1) fu _ (by omega) (by omega) (hm.step fun u => by rw [nbS_succ, e2 u])
theorem c_lowC {S W k : Nat} (hp : pS p s) (h : plnW s p g S W) (hk : k < S) {D : Nat → SD} (hD : secsC s p S D) : ∃ m2, isMin 100000 (fun t => (D t).2.1) (nbS g k W) m2 ∧ ab_X2_lowCeiling p (nI k) s = some (if m2 = 100000 then (D k).2.1 else m2, s) :=
  c_lowC_loop hp h hk hD W 0 sv_fuel 100000 (by omega) (fuel_ge (by have := h.2.1; omega)) (isMin.start _ _ (by rintro u ⟨w, h1, -⟩; omega))
theorem c_lowF_loop {S W k : Nat} (hp : pS p s) (h : plnW s p g S W) (hk : k < S) {D : Nat → SD} (hD : secsC s p S D) : ∀ (d i fu : Nat) (m : Int32), i + d = W → d < fu → isMin (D k).1 (fun t => (D t).1) (nbS g k i) m → ∃ m2, isMin (D k).1 (fun t => (D t).1) (nbS g k W) m2 ∧ ab_X2_lowFloor_12 fu p (nI k) m (nI i) s = some (m2, s) := by
  obtain ⟨h1, h2, h3, h4, h5⟩ := id h
  have L7 := hp.L307
  have L8 := hp.L308
  intro d
  induction d with
  | zero =>
    intro i fu m hi hf hm
    obtain ⟨fu, rfl⟩ : ∃ q, fu = q + 1 := ⟨fu - 1, by omega⟩
    obtain rfl : i = W := by omega
    refine ⟨m, hm, ?_⟩
    show ab_X2_lowFloor_12b _ p (nI k) m (nI i) s = _
    unfold ab_X2_lowFloor_12b
    rw [slet, h1, if_pos (nI_le (by omega) (by omega))]
  | succ d ih =>
    intro i fu m hi hf hm
    obtain ⟨fu, rfl⟩ : ∃ q, fu = q + 1 := ⟨fu - 1, by omega⟩
    show ∃ m2, _ ∧ ab_X2_lowFloor_12b _ p (nI k) m (nI i) s = _
    unfold ab_X2_lowFloor_12b ab_X2_lowFloor_54
    have h5i := h5 i (by omega)
    rw [slet, h1, if_neg (nI_ge (by omega) (by omega)), vl_P_ok (by omega) (by omega), obs, hp.E308 i (by omega)]
    rcases c_neigh (p := p) (k := k) (h4 i (by omega)) (by omega) (by omega) (by omega) with ⟨e1, e2⟩ | ⟨t, e1, e2⟩
    · rw [e1, vbs, if_pos rfl, nI_1]
      exact ih (i + 1) fu m (by omega) (by omega) (hm.congr fun u => by rw [nbS_succ]; exact ⟨fun z => z.resolve_right (e2 u), Or.inl⟩)
    · have ht := nb_lt h (show i < W by omega) ((e2 t).mpr rfl)
      rw [e1, vbs, if_neg (ne_m1 (by omega)), vl_P_ok (by omega) (by omega), obs, hp.E307 t (by omega), slet, slet, (hD t ht).1, nI_1]
      exact ih (i + 1) fu _ (by omega) (by omega) (hm.step fun u => by rw [nbS_succ, e2 u])
theorem c_lowF {S W k : Nat} (hp : pS p s) (h : plnW s p g S W) (hk : k < S) {D : Nat → SD} (hD : secsC s p S D) : ∃ m2, isMin (D k).1 (fun t => (D t).1) (nbS g k W) m2 ∧ ab_X2_lowFloor p (nI k) s = some (m2, s) := by
  have L7 := hp.L307
  have := h.2.2.1
  have hW := h.2.1
  unfold ab_X2_lowFloor
  rw [vl_P_ok (by omega) (by omega), obs, hp.E307 k (by omega), slet, (hD k hk).1]
  exact c_lowF_loop hp h hk hD W 0 sv_fuel _ (by omega) (fuel_ge (by omega)) (isMin.start _ _ (by rintro u ⟨w, h1, -⟩; omega))
theorem c_highF_loop {S W k : Nat} (hp : pS p s) (h : plnW s p g S W) (hk : k < S) {D : Nat → SD} (hD : secsC s p S D) : ∀ (d i fu : Nat) (m : Int32), i + d = W → d < fu → isMax (D k).1 (fun t => (D t).1) (nbS g k i) m → ∃ m2, isMax (D k).1 (fun t => (D t).1) (nbS g k W) m2 ∧ ab_X2_highFloor_12 fu p (nI k) m (nI i) s = some (m2, s) := by
  obtain ⟨h1, h2, h3, h4, h5⟩ := id h
  have L7 := hp.L307
  have L8 := hp.L308
  intro d
  induction d with
  | zero =>
    intro i fu m hi hf hm
    obtain ⟨fu, rfl⟩ : ∃ q, fu = q + 1 := ⟨fu - 1, by omega⟩
    obtain rfl : i = W := by omega
    refine ⟨m, hm, ?_⟩
    show ab_X2_highFloor_12b _ p (nI k) m (nI i) s = _
    unfold ab_X2_highFloor_12b
    rw [slet, h1, if_pos (nI_le (by omega) (by omega))]
  | succ d ih =>
    intro i fu m hi hf hm
    obtain ⟨fu, rfl⟩ : ∃ q, fu = q + 1 := ⟨fu - 1, by omega⟩
    show ∃ m2, _ ∧ ab_X2_highFloor_12b _ p (nI k) m (nI i) s = _
    unfold ab_X2_highFloor_12b ab_X2_highFloor_54
    have h5i := h5 i (by omega)
    rw [slet, h1, if_neg (nI_ge (by omega) (by omega)), vl_P_ok (by omega) (by omega), obs, hp.E308 i (by omega)]
    rcases c_neigh (p := p) (k := k) (h4 i (by omega)) (by omega) (by omega) (by omega) with ⟨e1, e2⟩ | ⟨t, e1, e2⟩
    · rw [e1, vbs, if_pos rfl, nI_1]
      exact ih (i + 1) fu m (by omega) (by omega) (hm.congr fun u => by rw [nbS_succ]; exact ⟨fun z => z.resolve_right (e2 u), Or.inl⟩)
    · have ht := nb_lt h (show i < W by omega) ((e2 t).mpr rfl)
      rw [e1, vbs, if_neg (ne_m1 (by omega)), vl_P_ok (by omega) (by omega), obs, hp.E307 t (by omega), slet, slet, (hD t ht).1, nI_1]
      exact ih (i + 1) fu _ (by omega) (by omega) (hm.step fun u => by rw [nbS_succ, e2 u])
theorem c_highF {S W k : Nat} (hp : pS p s) (h : plnW s p g S W) (hk : k < S) {D : Nat → SD} (hD : secsC s p S D) : ∃ m2, isMax (D k).1 (fun t => (D t).1) (nbS g k W) m2 ∧ ab_X2_highFloor p (nI k) s = some (m2, s) := by
  have L7 := hp.L307
  have := h.2.2.1
  have hW := h.2.1
  unfold ab_X2_highFloor
  rw [vl_P_ok (by omega) (by omega), obs, hp.E307 k (by omega), slet, (hD k hk).1]
  exact c_highF_loop hp h hk hD W 0 sv_fuel _ (by omega) (fuel_ge (by omega)) (isMax.start _ _ (by rintro u ⟨w, h1, -⟩; omega))
/-- a mover begins -/
def startS (what : Nat) (g : Nat → Nat) (k W : Nat) (D : Nat → SD) (r : SD) : Prop :=
  if (D k).2.2.1 = -1 then
    (what = 0 → ∃ m, isMin 100000 (fun t => (D t).2.1) (nbS g k W) m ∧ r = ((D k).1, (D k).2.1, 0, 1, 0, sv_max ((if m = 100000 then (D k).2.1 else m) - 4) (D k).2.1, (D k).1)) ∧
    (what = 1 → ∃ m, isMin (D k).1 (fun t => (D t).1) (nbS g k W) m ∧ r = ((D k).1, (D k).2.1, 1, -1, 0, m, (D k).1)) ∧
    (what = 2 → ∃ m, isMax (D k).1 (fun t => (D t).1) (nbS g k W) m ∧ r = ((D k).1, (D k).2.1, 2, 1, 0, sv_min m (D k).2.1, (D k).1))
  else if what = 0 ∧ (D k).2.2.1 = 0 then r = ((D k).1, (D k).2.1, 0, 1, 0, (D k).2.2.2.2.2) else r = D k
theorem startS.uniq {what : Nat} {k W : Nat} {D : Nat → SD} {r q : SD} (hw : what = 0 ∨ what = 1 ∨ what = 2) (h : startS what g k W D r) (f : startS what g k W D q) : r = q := by
  unfold startS at h f
  by_cases c : (D k).2.2.1 = -1
  · rw [if_pos c] at h f
    rcases hw with e | e | e
    · obtain ⟨m, h1, h2⟩ := h.1 e
      obtain ⟨m2, f1, f2⟩ := f.1 e
      rw [h2, f2, h1.uniq f1]
    · obtain ⟨m, h1, h2⟩ := h.2.1 e
      obtain ⟨m2, f1, f2⟩ := f.2.1 e
      rw [h2, f2, h1.uniq f1]
    · obtain ⟨m, h1, h2⟩ := h.2.2 e
      obtain ⟨m2, f1, f2⟩ := f.2.2 e
      rw [h2, f2, h1.uniq f1]
  · rw [if_neg c] at h f
    by_cases d : what = 0 ∧ (D k).2.2.1 = 0
    · rw [if_pos d] at h f; rw [h, f]
    · rw [if_neg d] at h f; rw [h, f]
theorem c_startMover (s : vt_S) (x : Nat) (a b c : Int32) {d : SD} (h : secC s x d) (ha : a ≠ -1) (hb : b ≠ 0) : ∃ s1, ab_X6_startMover x a b c s = some ((), s1) ∧ mvd x s s1 ∧ secC s1 x (d.1, d.2.1, a, b, 0, c, d.1) := by
  refine ⟨vu_I (vu_I (vu_I (vu_I (vu_I s 709 x a) 710 x b) 712 x c) 713 x (vt_I s 707 x)) 711 x 0, ?_, ((((mvd.refl.put (by omega)).put (by omega)).put (by omega)).put (by omega)).put (by omega), ?_, ?_, ?_, ?_, fun _ => ⟨fun z => absurd z hb, ?_, ?_⟩⟩
  · unfold ab_X6_startMover
    simp (disch := decide) only [slet, I_nf]
  · simp (disch := decide) only [I_nf]; exact h.1
  · simp (disch := decide) only [I_nf]; exact h.2.1
  · simp (disch := decide) only [I_nf, I_at]
  · simp (disch := decide) only [I_nf, I_at]
  · simp (disch := decide) only [I_nf, I_at]
  · simp (disch := decide) only [I_nf, I_at]; exact h.1
theorem c_startOne {S W k what : Nat} (hp : pS p s) (h : plnW s p g S W) (hk : k < S) {D : Nat → SD} (hD : secsC s p S D) (hw : what = 0 ∨ what = 1 ∨ what = 2) : ∃ s1 r, ab_X2_startOne p (nI what) (nI k) s = some ((), s1) ∧ mvd (p + 11 + k) s s1 ∧ secC s1 (p + 11 + k) r ∧ startS what g k W D r := by
  have L7 := hp.L307
  have h3 := h.2.2.1
  have hk' := hD k hk
  obtain ⟨m1, e1, f1⟩ := c_lowC hp h hk hD
  obtain ⟨m2, e2, f2⟩ := c_lowF hp h hk hD
  obtain ⟨m3, e3, f3⟩ := c_highF hp h hk hD
  unfold ab_X2_startOne ab_X2_startOne_103
  rw [vl_P_ok (by omega) (by omega), obs, hp.E307 k (by omega)]
  simp only [slet]
  rw [hk'.2.2.1]
  by_cases c : (D k).2.2.1 = -1
  · rw [if_pos c]
    rcases hw with rfl | rfl | rfl
    · rw [if_pos (by decide), f1, vbs, hk'.2.1]
      obtain ⟨s1, a1, a2, a3⟩ := c_startMover s (p + 11 + k) 0 1 (sv_max ((if m1 = 100000 then (D k).2.1 else m1) - 4) (D k).2.1) hk' (by decide) (by decide)
      rw [a1, vbs]
      exact ⟨s1, _, rfl, a2, a3, by unfold startS; rw [if_pos c]; exact ⟨fun _ => ⟨m1, e1, rfl⟩, fun z => absurd z (by decide), fun z => absurd z (by decide)⟩⟩
    · rw [if_neg (by decide), if_pos (by decide), f2, vbs]
      obtain ⟨s1, a1, a2, a3⟩ := c_startMover s (p + 11 + k) 1 (-1) m2 hk' (by decide) (by decide)
      rw [a1, vbs]
      exact ⟨s1, _, rfl, a2, a3, by unfold startS; rw [if_pos c]; exact ⟨fun z => absurd z (by decide), fun _ => ⟨m2, e2, rfl⟩, fun z => absurd z (by decide)⟩⟩
    · rw [if_neg (by decide), if_neg (by decide), if_pos (by decide), f3, vbs, hk'.2.1]
      obtain ⟨s1, a1, a2, a3⟩ := c_startMover s (p + 11 + k) 2 1 (sv_min m3 (D k).2.1) hk' (by decide) (by decide)
      rw [a1, vbs]
      exact ⟨s1, _, rfl, a2, a3, by unfold startS; rw [if_pos c]; exact ⟨fun z => absurd z (by decide), fun z => absurd z (by decide), fun _ => ⟨m3, e3, rfl⟩⟩⟩
  · rw [if_neg c]
    obtain ⟨h1, h2, h33, h4, h5⟩ := id hk'
    obtain ⟨k1, k2, k3⟩ := h5 c
    by_cases w0 : what = 0
    · rw [if_pos (by rw [w0]; rfl)]
      by_cases d : (D k).2.2.1 = 0
      · rw [if_pos d]
        refine ⟨_, ((D k).1, (D k).2.1, 0, 1, 0, (D k).2.2.2.2.2), rfl, mvd.refl.put (by omega), ⟨?_, ?_, ?_, I_at, fun _ => ⟨fun z => absurd z (show ¬ (1 : Int32) = 0 by decide), ?_, ?_⟩⟩, by unfold startS; rw [if_neg c, if_pos ⟨w0, d⟩]⟩
        · rw [I_nf (by decide)]; exact h1
        · rw [I_nf (by decide)]; exact h2
        · rw [I_nf (by decide)]; exact h33.trans d
        · rw [I_nf (by decide)]; exact k2
        · rw [I_nf (by decide)]; exact k3
      · rw [if_neg d]
        exact ⟨s, _, rfl, mvd.refl, hk', by unfold startS; rw [if_neg c, if_neg (fun z => d z.2)]⟩
    · rw [if_neg (by rw [show (0 : Int32) = nI 0 from rfl, nI_eq (by omega) (by omega)]; exact w0)]
      exact ⟨s, _, rfl, mvd.refl, hk', by unfold startS; rw [if_neg c, if_neg (fun z => w0 z.1)]⟩
theorem startS_ok {what k W : Nat} {D : Nat → SD} {r : SD} (hw : what = 0 ∨ what = 1 ∨ what = 2) (h : startS what g k W D r) (hv : sdOk (D k)) : sdOk r := by
  unfold startS at h
  by_cases c : (D k).2.2.1 = -1
  · rw [if_pos c] at h
    rcases hw with e | e | e
    · obtain ⟨m, -, rfl⟩ := h.1 e
      exact Or.inr ⟨Or.inl rfl, Or.inr (Or.inr rfl), fun z => absurd z (show ¬ (0 : Int32) = 2 by decide), fun z => absurd z (show ¬ (1 : Int32) = 0 by decide), fun _ => rfl⟩
    · obtain ⟨m, -, rfl⟩ := h.2.1 e
      exact Or.inr ⟨Or.inr (Or.inl rfl), Or.inl rfl, fun z => absurd z (show ¬ (1 : Int32) = 2 by decide), fun z => absurd z (show ¬ (-1 : Int32) = 0 by decide), fun _ => rfl⟩
    · obtain ⟨m, -, rfl⟩ := h.2.2 e
      exact Or.inr ⟨Or.inr (Or.inr rfl), Or.inr (Or.inr rfl), fun _ => rfl, fun z => absurd z (show ¬ (1 : Int32) = 0 by decide), fun _ => rfl⟩
  · rw [if_neg c] at h
    by_cases d : what = 0 ∧ (D k).2.2.1 = 0
    · rw [if_pos d] at h
      rw [h]
      exact Or.inr ⟨Or.inl rfl, Or.inr (Or.inr rfl), fun z => absurd z (show ¬ (0 : Int32) = 2 by decide), fun z => absurd z (show ¬ (1 : Int32) = 0 by decide), fun _ => rfl⟩
    · rw [if_neg d] at h; rw [h]; exact hv
end NB
