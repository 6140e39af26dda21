/-- the reference's hall: its sectors and who is beside whom -/
def hNb (s : vt_S) (H N : Nat) (g : Nat → Nat) (W : Nat) : Prop := vt_I s 1400 H = nI N ∧ N ≤ 32 ∧ vt_L s 1406 H = 1024 ∧ (∀ a b, a < N → b < N → (vt_A s 1406 H (32 * a + b) ≠ 0 ↔ nbS g a W b)) ∧ ∀ a b, nbS g a W b → b < N
section RN
variable {s : vt_S} {H N k W : Nat} {g : Nat → Nat}
theorem ix32 (a b : Nat) : (32 * nI a + nI b : Int32) = nI (32 * a + b) := by rw [show (32 : Int32) = nI 32 from rfl, pk_mul, nI_add]
theorem r_lowC_loop {f : Nat → Int32} (h : hNb s H N g W) (hL : hlL H s) (hk : k < N) (hf : ∀ t, t < N → vt_A s 1409 H t = f t) : ∀ (d i fu : Nat) (m : Int32), i + d = N → d < fu → isMin 100000 f (fun t => t < i ∧ nbS g k W t) m → ∃ m2, isMin 100000 f (nbS g k W) m2 ∧ ab_X13_lowCeiling_5 fu H (nI k) m (nI i) s = some (if m2 = 100000 then f k else m2, s) := by
  obtain ⟨h1, h2, h3, h4, h5⟩ := id h
  obtain ⟨l1, l2, l3, l4, l5, l6, l7⟩ := id hL
  intro d
  induction d with
  | zero =>
    intro i fu m hi hfu hm
    obtain ⟨fu, rfl⟩ : ∃ q, fu = q + 1 := ⟨fu - 1, by omega⟩
    obtain rfl : i = N := by omega
    refine ⟨m, hm.congr fun u => ⟨fun z => ⟨h5 _ _ z, z⟩, fun z => z.2⟩, ?_⟩
    show ab_X13_lowCeiling_5b _ H (nI k) m (nI i) s = _
    unfold ab_X13_lowCeiling_5b ab_X13_lowCeiling_70
    rw [slet, h1, if_pos (nI_le (by omega) (by omega))]
    by_cases c : m = 100000
    · rw [if_pos c, if_pos c, vl_I_ok (by omega) (by omega), obs, hf k hk]
    · rw [if_neg c, if_neg c]
  | succ d ih =>
    intro i fu m hi hfu hm
    obtain ⟨fu, rfl⟩ : ∃ q, fu = q + 1 := ⟨fu - 1, by omega⟩
    show ∃ m2, _ ∧ ab_X13_lowCeiling_5b _ H (nI k) m (nI i) s = _
    unfold ab_X13_lowCeiling_5b ab_X13_lowCeiling_46 ab_X13_lowCeiling_47
    rw [slet, h1, if_neg (nI_ge (by omega) (by omega)), ix32, vl_I_ok (by omega) (by omega), obs, nI_1]
    by_cases c : vt_A s 1406 H (32 * k + i) = 0
    · rw [if_pos c]
      refine ih (i + 1) fu m (by omega) (by omega) (hm.congr fun u => ⟨fun z => ⟨?_, z.2⟩, fun z => ⟨by omega, z.2⟩⟩)
      have : u ≠ i := fun e => by rw [e] at z; exact (h4 k i hk (by omega)).mpr z.2 c
      omega
    · have hn := (h4 k i hk (by omega)).mp c
      rw [if_neg c, vl_I_ok (by omega) (by omega), obs, obs, hf i (by omega)]
      have e : (if m ≤ f i then ab_X13_lowCeiling_5 fu H (nI k) m (nI (i + 1)) s else ab_X13_lowCeiling_5 fu H (nI k) (f i) (nI (i + 1)) s) = ab_X13_lowCeiling_5 fu H (nI k) (sv_min m (f i)) (nI (i + 1)) s := by
        unfold sv_min
        by_cases c : f i < m
        · rw [if_neg (Int32.not_le.mpr c), if_pos c]
        · rw [if_pos (Int32.not_lt.mp c), if_neg c]
      rw [e]
      exact ih (i + 1) fu _ (by omega) (by omega) (hm.step fun u => ⟨fun z => by
        by_cases y : u = i
        · exact Or.inr y
        · exact Or.inl ⟨by omega, z.2⟩, fun z => by
        rcases z with z | z
        · exact ⟨by omega, z.2⟩
        · rw [z]; exact ⟨by omega, hn⟩⟩)
theorem r_lowC {f : Nat → Int32} (h : hNb s H N g W) (hL : hlL H s) (hk : k < N) (hf : ∀ t, t < N → vt_A s 1409 H t = f t) : ∃ m2, isMin 100000 f (nbS g k W) m2 ∧ ab_X13_lowCeiling H (nI k) s = some (if m2 = 100000 then f k else m2, s) :=
  r_lowC_loop h hL hk hf N 0 sv_fuel 100000 (by omega) (fuel_ge (by have := h.2.1; omega)) (isMin.start _ _ (fun u z => absurd z.1 (by omega)))
theorem r_lowF_loop {f : Nat → Int32} (h : hNb s H N g W) (hL : hlL H s) (hk : k < N) (hf : ∀ t, t < N → vt_A s 1408 H t = f t) : ∀ (d i fu : Nat) (m : Int32), i + d = N → d < fu → isMin (f k) f (fun t => t < i ∧ nbS g k W t) m → ∃ m2, isMin (f k) f (nbS g k W) m2 ∧ ab_X13_lowFloor_9 fu H (nI k) m (nI i) s = some (m2, s) := by
  obtain ⟨h1, h2, h3, h4, h5⟩ := id h
  obtain ⟨l1, l2, l3, l4, l5, l6, l7⟩ := id hL
  intro d
  induction d with
  | zero =>
    intro i fu m hi hfu hm
    obtain ⟨fu, rfl⟩ : ∃ q, fu = q + 1 := ⟨fu - 1, by omega⟩
    obtain rfl : i = N := by omega
    refine ⟨m, hm.congr fun u => ⟨fun z => ⟨h5 _ _ z, z⟩, fun z => z.2⟩, ?_⟩
    show ab_X13_lowFloor_9b _ H (nI k) m (nI i) s = _
    unfold ab_X13_lowFloor_9b
    rw [slet, h1, if_pos (nI_le (by omega) (by omega))]
  | succ d ih =>
    intro i fu m hi hfu hm
    obtain ⟨fu, rfl⟩ : ∃ q, fu = q + 1 := ⟨fu - 1, by omega⟩
    show ∃ m2, _ ∧ ab_X13_lowFloor_9b _ H (nI k) m (nI i) s = _
    unfold ab_X13_lowFloor_9b ab_X13_lowFloor_50 ab_X13_lowFloor_51
    rw [slet, h1, if_neg (nI_ge (by omega) (by omega)), ix32, vl_I_ok (by omega) (by omega), obs, nI_1]
    by_cases c : vt_A s 1406 H (32 * k + i) = 0
    · rw [if_pos c]
      refine ih (i + 1) fu m (by omega) (by omega) (hm.congr fun u => ⟨fun z => ⟨?_, z.2⟩, fun z => ⟨by omega, z.2⟩⟩)
      have : u ≠ i := fun e => by rw [e] at z; exact (h4 k i hk (by omega)).mpr z.2 c
      omega
    · have hn := (h4 k i hk (by omega)).mp c
      rw [if_neg c, vl_I_ok (by omega) (by omega), obs, obs, hf i (by omega)]
      have e : (if m ≤ f i then ab_X13_lowFloor_9 fu H (nI k) m (nI (i + 1)) s else ab_X13_lowFloor_9 fu H (nI k) (f i) (nI (i + 1)) s) = ab_X13_lowFloor_9 fu H (nI k) (sv_min m (f i)) (nI (i + 1)) s := by
        unfold sv_min
        by_cases c : f i < m
        · rw [if_neg (Int32.not_le.mpr c), if_pos c]
        · rw [if_pos (Int32.not_lt.mp c), if_neg c]
      rw [e]
      exact ih (i + 1) fu _ (by omega) (by omega) (hm.step fun u => ⟨fun z => by
        by_cases y : u = i
        · exact Or.inr y
        · exact Or.inl ⟨by omega, z.2⟩, fun z => by
        rcases z with z | z
        · exact ⟨by omega, z.2⟩
        · rw [z]; exact ⟨by omega, hn⟩⟩)
theorem r_lowF {f : Nat → Int32} (h : hNb s H N g W) (hL : hlL H s) (hk : k < N) (hf : ∀ t, t < N → vt_A s 1408 H t = f t) : ∃ m2, isMin (f k) f (nbS g k W) m2 ∧ ab_X13_lowFloor H (nI k) s = some (m2, s) := by
  have := h.2.1
  have l1 := hL.1
  unfold ab_X13_lowFloor
  rw [vl_I_ok (by omega) (by omega), obs, hf k hk]
  exact r_lowF_loop h hL hk hf N 0 sv_fuel _ (by omega) (fuel_ge (by omega)) (isMin.start _ _ (fun u z => absurd z.1 (by omega)))
theorem r_highF_loop {f : Nat → Int32} (h : hNb s H N g W) (hL : hlL H s) (hk : k < N) (hf : ∀ t, t < N → vt_A s 1408 H t = f t) : ∀ (d i fu : Nat) (m : Int32), i + d = N → d < fu → isMax (f k) f (fun t => t < i ∧ nbS g k W t) m → ∃ m2, isMax (f k) f (nbS g k W) m2 ∧ ab_X13_highFloor_9 fu H (nI k) m (nI i) s = some (m2, s) := by
  obtain ⟨h1, h2, h3, h4, h5⟩ := id h
  obtain ⟨l1, l2, l3, l4, l5, l6, l7⟩ := id hL
  intro d
  induction d with
  | zero =>
    intro i fu m hi hfu hm
    obtain ⟨fu, rfl⟩ : ∃ q, fu = q + 1 := ⟨fu - 1, by omega⟩
    obtain rfl : i = N := by omega
    refine ⟨m, hm.congr fun u => ⟨fun z => ⟨h5 _ _ z, z⟩, fun z => z.2⟩, ?_⟩
    show ab_X13_highFloor_9b _ H (nI k) m (nI i) s = _
    unfold ab_X13_highFloor_9b
    rw [slet, h1, if_pos (nI_le (by omega) (by omega))]
  | succ d ih =>
    intro i fu m hi hfu hm
    obtain ⟨fu, rfl⟩ : ∃ q, fu = q + 1 := ⟨fu - 1, by omega⟩
    show ∃ m2, _ ∧ ab_X13_highFloor_9b _ H (nI k) m (nI i) s = _
    unfold ab_X13_highFloor_9b ab_X13_highFloor_50 ab_X13_highFloor_51
    rw [slet, h1, if_neg (nI_ge (by omega) (by omega)), ix32, vl_I_ok (by omega) (by omega), obs, nI_1]
    by_cases c : vt_A s 1406 H (32 * k + i) = 0
    · rw [if_pos c]
      refine ih (i + 1) fu m (by omega) (by omega) (hm.congr fun u => ⟨fun z => ⟨?_, z.2⟩, fun z => ⟨by omega, z.2⟩⟩)
      have : u ≠ i := fun e => by rw [e] at z; exact (h4 k i hk (by omega)).mpr z.2 c
      omega
    · have hn := (h4 k i hk (by omega)).mp c
      rw [if_neg c, vl_I_ok (by omega) (by omega), obs, obs, hf i (by omega)]
      have e : (if f i ≤ m then ab_X13_highFloor_9 fu H (nI k) m (nI (i + 1)) s else ab_X13_highFloor_9 fu H (nI k) (f i) (nI (i + 1)) s) = ab_X13_highFloor_9 fu H (nI k) (sv_max m (f i)) (nI (i + 1)) s := by
        unfold sv_max
        by_cases c : m < f i
        · rw [if_neg (Int32.not_le.mpr c), if_pos c]
        · rw [if_pos (Int32.not_lt.mp c), if_neg c]
      rw [e]
      exact ih (i + 1) fu _ (by omega) (by omega) (hm.step fun u => ⟨fun z => by
        by_cases y : u = i
        · exact Or.inr y
        · exact Or.inl ⟨by omega, z.2⟩, fun z => by
        rcases z with z | z
        · exact ⟨by omega, z.2⟩
        · rw [z]; exact ⟨by omega, hn⟩⟩)
theorem r_highF {f : Nat → Int32} (h : hNb s H N g W) (hL : hlL H s) (hk : k < N) (hf : ∀ t, t < N → vt_A s 1408 H t = f t) : ∃ m2, isMax (f k) f (nbS g k W) m2 ∧ ab_X13_highFloor H (nI k) s = some (m2, s) := by
  have := h.2.1
  have l1 := hL.1
  unfold ab_X13_highFloor
  rw [vl_I_ok (by omega) (by omega), obs, hf k hk]
  exact r_highF_loop h hL hk hf N 0 sv_fuel _ (by omega) (fuel_ge (by omega)) (isMax.start _ _ (fun u z => absurd z.1 (by omega)))
theorem hNb.hlk {s1 : vt_S} {j : Nat} (h : hNb s H N g W) (e : hlk H j s s1) : hNb s1 H N g W := by
  obtain ⟨h1, h2, h3, h4, h5⟩ := h
  refine ⟨by rw [e.2.2.2.2.2.2.2.1 1400 H (fun z => by have := z.1; omega)]; exact h1, h2, by rw [e.L]; exact h3, fun a b ha hb => ?_, h5⟩
  rw [e.2.2.2.2.2.2.2.2 1406 H _ (fun z => by have := z.2.2.1; omega)]
  exact h4 a b ha hb
theorem r_isSec (h : hNb s H N g W) (hk : k < N) : ab_X13_isSector H (nI k) s = some (1, s) := by
  have := h.2.1
  unfold ab_X13_isSector
  rw [if_neg (nI_pos (by omega)), slet, h.1, if_neg (nI_ge (by omega) (by omega))]
  rfl
theorem max_flip (a b : Int32) : (if a ≤ b then b else a) = sv_max a b := by
  unfold sv_max
  by_cases c : a < b
  · rw [if_pos c, if_pos (Int32.le_of_lt c)]
  · rw [if_neg c]
    by_cases d : a ≤ b
    · rw [if_pos d]; exact Int32.le_antisymm (Int32.not_lt.mp c) d
    · rw [if_neg d]
theorem min_flip (a b : Int32) : (if b ≤ a then b else a) = sv_min a b := by
  unfold sv_min
  by_cases c : b < a
  · rw [if_pos c, if_pos (Int32.le_of_lt c)]
  · rw [if_neg c]
    by_cases d : b ≤ a
    · rw [if_pos d]; exact Int32.le_antisymm d (Int32.not_lt.mp c)
    · rw [if_neg d]
set_option maxHeartbeats 4000000 in
theorem r_begin {what : Nat} {D : Nat → SD} (h : hNb s H N g W) (hL : hlL H s) (hk : k < N) (hD : secsR s H N D) (hv : sdOk (D k)) (hw : what = 0 ∨ what = 1 ∨ what = 2) : ∃ s1 r d, ab_X13_begin H (nI k) (nI what) s = some (r, s1) ∧ hlk H k s s1 ∧ secR s1 H k d ∧ startS what g k W D d := by
  obtain ⟨l1, l2, l3, l4, l5, l6, l7⟩ := id hL
  obtain ⟨h1, h2, h3, h4, h5⟩ := id (hD k hk)
  have hN := h.2.1
  unfold ab_X13_begin
  rw [r_isSec h hk, vbs, if_neg (by decide), if_neg (nI_pos (by omega)), if_pos (show nI what ≤ 2 from nI_le (b := 2) (by omega) (by omega)), vl_I_ok (by omega) (by omega), obs, h3]
  by_cases c : (D k).2.2.1 = -1
  · rw [if_pos (by rw [c]; decide), vs_I_ok (by omega) (by omega), obs, vs_I_ok (by rw [L_A]; omega) (by rw [L_A]; omega), obs]
    have e128 : ∀ v : Int32, ∃ s5, hlk H k s s5 ∧ vt_A s5 1408 H = vt_A s 1408 H ∧ vt_A s5 1409 H = vt_A s 1409 H ∧ vt_A s5 1410 H k = nI what ∧ vt_A s5 1411 H k = v ∧ vt_A s5 1412 H k = 0 ∧ vt_A s5 1414 H k = (D k).1 ∧ ab_X13_begin_128 H (nI k) (nI what) H (nI k) v (vu_A (vu_A s 1410 H k (nI what)) 1412 H k 0) = (vt_b (ab_X13_lowCeiling H (nI k) s5) fun r6 h7 => vt_b (ab_X13_highFloor H (nI k) h7) fun r8 h9 => if nI what = 0 then (vl_I h9 1409 H (nI k)).bind fun v18 => if (r6 - 4) ≤ v18 then (vl_I h9 1409 H (nI k)).bind fun v20 => ab_X13_begin_223 H (nI k) v20 h9 else ab_X13_begin_223 H (nI k) (r6 - 4) h9 else if nI what = 1 then vt_b (ab_X13_lowFloor H (nI k) h9) fun r15 h16 => ab_X13_begin_223 H (nI k) r15 h16 else (vl_I h9 1409 H (nI k)).bind fun v12 => if v12 ≤ r8 then (vl_I h9 1409 H (nI k)).bind fun v14 => ab_X13_begin_223 H (nI k) v14 h9 else ab_X13_begin_223 H (nI k) r8 h9) := by
      intro v
      refine ⟨vu_A (vu_A (vu_A (vu_A s 1410 H k (nI what)) 1412 H k 0) 1411 H k v) 1414 H k (D k).1, (((hlk.refl.put (by omega) (by omega)).put (by omega) (by omega)).put (by omega) (by omega)).put (by omega) (by omega), ?_, ?_, ?_, ?_, ?_, ?_, ?_⟩
      · simp (disch := decide) only [A_nf]
      · simp (disch := decide) only [A_nf]
      · simp (disch := decide) only [A_nf, A_j]
      · simp (disch := decide) only [A_nf, A_j]
      · simp (disch := decide) only [A_nf, A_j]
      · simp (disch := decide) only [A_j]
      · unfold ab_X13_begin_128
        rw [vs_I_ok (by rw [L_A, L_A]; omega) (by rw [L_A, L_A]; omega), obs, vl_I_ok (by rw [L_A, L_A, L_A]; omega) (by rw [L_A, L_A, L_A]; omega), obs, A_nf (show 1408 ≠ 1411 by decide), A_nf (show 1408 ≠ 1412 by decide), A_nf (show 1408 ≠ 1410 by decide), h1, vs_I_ok (by rw [L_A, L_A, L_A]; omega) (by rw [L_A, L_A, L_A]; omega), obs]
    have fin : ∀ (v e : Int32) (s5 : vt_S), hlk H k s s5 → vt_A s5 1408 H = vt_A s 1408 H → vt_A s5 1409 H = vt_A s 1409 H → vt_A s5 1410 H k = nI what → vt_A s5 1411 H k = v → vt_A s5 1412 H k = 0 → vt_A s5 1414 H k = (D k).1 → ab_X13_begin_223 H (nI k) e s5 = some (1, vu_A s5 1413 H k e) ∧ hlk H k s (vu_A s5 1413 H k e) ∧ secR (vu_A s5 1413 H k e) H k ((D k).1, (D k).2.1, nI what, v, 0, e, (D k).1) := by
      intro v e s5 a1 a2 a3 a4 a5 a6 a7
      refine ⟨?_, a1.put (by omega) (by omega), ?_, ?_, ?_, ?_, fun _ => ⟨?_, A_j, ?_⟩⟩
      · unfold ab_X13_begin_223
        rw [vs_I_ok (by rw [a1.L]; omega) (by rw [a1.L]; omega), obs]
      · rw [A_nf (by decide), a2]; exact h1
      · rw [A_nf (by decide), a3]; exact h2
      · rw [A_nf (by decide)]; exact a4
      · rw [A_nf (by decide)]; exact a5
      · rw [A_nf (by decide)]; exact a6
      · rw [A_nf (by decide)]; exact a7
    have go : ∀ v : Int32, ∃ s5 m1 m2 m3, hlk H k s s5 ∧ vt_A s5 1408 H = vt_A s 1408 H ∧ vt_A s5 1409 H = vt_A s 1409 H ∧ vt_A s5 1410 H k = nI what ∧ vt_A s5 1411 H k = v ∧ vt_A s5 1412 H k = 0 ∧ vt_A s5 1414 H k = (D k).1 ∧ isMin 100000 (fun t => (D t).2.1) (nbS g k W) m1 ∧ isMin (D k).1 (fun t => (D t).1) (nbS g k W) m2 ∧ isMax (D k).1 (fun t => (D t).1) (nbS g k W) m3 ∧ ab_X13_begin_128 H (nI k) (nI what) H (nI k) v (vu_A (vu_A s 1410 H k (nI what)) 1412 H k 0) = (if nI what = 0 then ab_X13_begin_223 H (nI k) (sv_max ((if m1 = 100000 then (D k).2.1 else m1) - 4) (D k).2.1) s5 else if nI what = 1 then ab_X13_begin_223 H (nI k) m2 s5 else ab_X13_begin_223 H (nI k) (sv_min m3 (D k).2.1) s5) := by
      intro v
      obtain ⟨s5, a1, a2, a3, a4, a5, a6, a7, a8⟩ := e128 v
      have f9 : ∀ t, t < N → vt_A s5 1409 H t = (fun t => (D t).2.1) t := fun t ht => by rw [a3]; exact (hD t ht).2.1
      have f8 : ∀ t, t < N → vt_A s5 1408 H t = (fun t => (D t).1) t := fun t ht => by rw [a2]; exact (hD t ht).1
      obtain ⟨m1, e1, x1⟩ := r_lowC (h.hlk a1) (hL.of a1.L) hk f9
      obtain ⟨m2, e2, x2⟩ := r_lowF (h.hlk a1) (hL.of a1.L) hk f8
      obtain ⟨m3, e3, x3⟩ := r_highF (h.hlk a1) (hL.of a1.L) hk f8
      refine ⟨s5, m1, m2, m3, a1, a2, a3, a4, a5, a6, a7, e1, e2, e3, ?_⟩
      rw [a8, x1, vbs, x3, vbs, x2, vbs, vl_I_ok (by rw [a1.L]; omega) (by rw [a1.L]; omega)]
      simp only [obs]
      rw [f9 k hk]
      by_cases w0 : nI what = 0
      · rw [if_pos w0, if_pos w0, ← max_flip]
        dsimp only
        by_cases z : (if m1 = 100000 then (D k).2.1 else m1) - 4 ≤ (D k).2.1
        · rw [if_pos z, if_pos z]
        · rw [if_neg z, if_neg z]
      · rw [if_neg w0, if_neg w0]
        by_cases w1 : nI what = 1
        · rw [if_pos w1, if_pos w1]
        · rw [if_neg w1, if_neg w1, ← min_flip]
          dsimp only
          by_cases z : (D k).2.1 ≤ m3
          · rw [if_pos z, if_pos z]
          · rw [if_neg z, if_neg z]
    rcases hw with rfl | rfl | rfl
    · rw [if_neg (by decide)]
      obtain ⟨s5, m1, m2, m3, a1, a2, a3, a4, a5, a6, a7, e1, e2, e3, e4⟩ := go 1
      rw [e4, if_pos (by decide)]
      obtain ⟨b1, b2, b3⟩ := fin 1 (sv_max ((if m1 = 100000 then (D k).2.1 else m1) - 4) (D k).2.1) s5 a1 a2 a3 a4 a5 a6 a7
      exact ⟨_, _, _, b1, b2, b3, by unfold startS; rw [if_pos c]; exact ⟨fun _ => ⟨m1, e1, rfl⟩, fun z => absurd z (by decide), fun z => absurd z (by decide)⟩⟩
    · rw [if_pos (by decide)]
      obtain ⟨s5, m1, m2, m3, a1, a2, a3, a4, a5, a6, a7, e1, e2, e3, e4⟩ := go (-1)
      rw [e4, if_neg (by decide), if_pos (by decide)]
      obtain ⟨b1, b2, b3⟩ := fin (-1) m2 s5 a1 a2 a3 a4 a5 a6 a7
      exact ⟨_, _, _, b1, b2, b3, by unfold startS; rw [if_pos c]; exact ⟨fun z => absurd z (by decide), fun _ => ⟨m2, e2, rfl⟩, fun z => absurd z (by decide)⟩⟩
    · rw [if_neg (by decide)]
      obtain ⟨s5, m1, m2, m3, a1, a2, a3, a4, a5, a6, a7, e1, e2, e3, e4⟩ := go 1
      rw [e4, if_neg (by decide), if_neg (by decide)]
      obtain ⟨b1, b2, b3⟩ := fin 1 (sv_min m3 (D k).2.1) s5 a1 a2 a3 a4 a5 a6 a7
      exact ⟨_, _, _, b1, b2, b3, by unfold startS; rw [if_pos c]; exact ⟨fun z => absurd z (by decide), fun z => absurd z (by decide), fun _ => ⟨m3, e3, rfl⟩⟩⟩
  · obtain ⟨v1, v2, v3, v4, v5⟩ : ((D k).2.2.1 = 0 ∨ (D k).2.2.1 = 1 ∨ (D k).2.2.1 = 2) ∧ ((D k).2.2.2.1 = -1 ∨ (D k).2.2.2.1 = 0 ∨ (D k).2.2.2.1 = 1) ∧ ((D k).2.2.1 = 2 → (D k).2.2.2.1 = 1) ∧ ((D k).2.2.2.1 = 0 → 0 < (D k).2.2.2.2.1) ∧ ((D k).2.2.2.1 ≠ 0 → (D k).2.2.2.2.1 = 0) := by
      rcases hv with ⟨a, -⟩ | a
      · exact absurd a c
      · exact a
    obtain ⟨k1, k2, k3⟩ := h5 c
    have nn : ¬ (D k).2.2.1 < 0 := by rcases v1 with a | a | a <;> rw [a] <;> decide
    have same : ∃ s1 r, ab_X13_begin_55 H (nI k) s = some (r, s1) ∧ hlk H k s s1 ∧ secR s1 H k (D k) := by
      unfold ab_X13_begin_55 ab_X13_begin_56 ab_X13_begin_76 ab_X13_begin_96
      rw [if_pos rfl, vl_I_ok (by omega) (by omega), obs, vs_I_ok (by omega) (by omega), obs, if_pos rfl, vl_I_ok (by rw [L_A]; omega) (by rw [L_A]; omega), obs, vs_I_ok (by rw [L_A]; omega) (by rw [L_A]; omega), obs]
      refine ⟨_, _, rfl, (hlk.refl.put (by omega) (by omega)).put (by omega) (by omega), ?_, ?_, ?_, ?_, fun _ => ⟨?_, ?_, ?_⟩⟩
      · simp (disch := decide) only [A_nf]; exact h1
      · simp (disch := decide) only [A_nf]; exact h2
      · simp (disch := decide) only [A_nf]; exact h3
      · simp (disch := decide) only [A_nf, A_j]; exact h4
      · simp (disch := decide) only [A_nf, A_j]; exact k1
      · simp (disch := decide) only [A_nf]; exact k2
      · simp (disch := decide) only [A_nf]; exact k3
    obtain ⟨s1, r, b1, b2, b3⟩ := same
    rw [if_neg nn]
    by_cases w0 : what = 0
    · rw [if_pos (by rw [w0]; rfl), obs]
      by_cases d : (D k).2.2.1 = 0
      · rw [if_pos d, vl_I_ok (by omega) (by omega), obs, h4]
        by_cases e : 1 ≤ (D k).2.2.2.1
        · have hd1 : (D k).2.2.2.1 = 1 := by
            rcases v2 with a | a | a
            · rw [a] at e; exact absurd e (by decide)
            · rw [a] at e; exact absurd e (by decide)
            · exact a
          rw [if_pos e]
          refine ⟨s1, r, D k, b1, b2, b3, ?_⟩
          unfold startS
          rw [if_neg c, if_pos ⟨w0, d⟩]
          have w5 := v5 (by rw [hd1]; decide)
          exact Prod.ext rfl (Prod.ext rfl (Prod.ext d (Prod.ext hd1 (Prod.ext w5 rfl))))
        · rw [if_neg e]
          unfold ab_X13_begin_56 ab_X13_begin_76 ab_X13_begin_96
          rw [if_neg (by decide), vs_I_ok (by omega) (by omega), obs, if_neg (by decide), vs_I_ok (by rw [L_A]; omega) (by rw [L_A]; omega), obs]
          refine ⟨_, _, ((D k).1, (D k).2.1, 0, 1, 0, (D k).2.2.2.2.2), rfl, (hlk.refl.put (by omega) (by omega)).put (by omega) (by omega), ⟨?_, ?_, ?_, ?_, fun _ => ⟨?_, ?_, ?_⟩⟩, by unfold startS; rw [if_neg c, if_pos ⟨w0, d⟩]⟩
          · simp (disch := decide) only [A_nf]; exact h1
          · simp (disch := decide) only [A_nf]; exact h2
          · simp (disch := decide) only [A_nf]; exact h3.trans d
          · simp (disch := decide) only [A_nf, A_j]
          · simp (disch := decide) only [A_j]
          · simp (disch := decide) only [A_nf]; exact k2
          · simp (disch := decide) only [A_nf]; exact k3
      · rw [if_neg d]
        exact ⟨s1, r, D k, b1, b2, b3, by unfold startS; rw [if_neg c, if_neg (fun z => d z.2)]⟩
    · rw [if_neg (by rw [show (0 : Int32) = nI 0 from rfl, nI_eq (by omega) (by omega)]; exact w0)]
      exact ⟨s1, r, D k, b1, b2, b3, by unfold startS; rw [if_neg c, if_neg (fun z => w0 z.1)]⟩
end RN
