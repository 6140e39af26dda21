-- A RUN is written, the start first; then the reference
def hiB (v : Int) : Nat := (v / 256 % 256).toNat
def loB (v : Int) : Nat := (v % 256).toNat
def stL (st : WS) : List Nat := [77, 68, 1, hiB st.1, loB st.1, hiB st.2.1, loB st.2.1, st.2.2.1, st.2.2.2]
def stOk (st : WS) : Prop := (-32768 ≤ st.1 ∧ st.1 ≤ 32767) ∧ (-32768 ≤ st.2.1 ∧ st.2.1 ≤ 32767) ∧ st.2.2.1 < 64 ∧ st.2.2.2 < 256
theorem by8_hi {v : Int} (h1 : -32768 ≤ v) (h2 : v ≤ 32767) : by8 (zI v >>> (8 &&& 31)) = hiB v := by
  rw [shrZ (k := 8) (by omega) (by omega) (fun x => rfl)]
  have := by8_z (v / ((2 ^ 8 : Nat) : Int))
  unfold hiB
  omega
theorem by8_lo (v : Int) : by8 (zI v) = loB v := by
  have := by8_z v
  unfold loB
  omega
section W3
variable {s : vt_S} {a R m B : Nat} {I : Nat → IN} {st : WS} {l : List Nat}
theorem c_pairL {v : Int} (h1 : -32768 ≤ v) (h2 : v ≤ 32767) (h : rowL s a l) (hn : l.length + 2 ≤ 8192) : ∃ s1, ab_X0_putPair a (zI v) s = some ((), s1) ∧ rwk a s s1 ∧ rowL s1 a (l ++ [hiB v, loB v]) := by
  obtain ⟨s1, a1, a2, a3⟩ := c_putL (zI v >>> (8 &&& 31)) h (by omega)
  rw [by8_hi h1 h2] at a3
  obtain ⟨s2, b1, b2, b3⟩ := c_putL (zI v) a3 (by rw [List.length_append]; show l.length + 1 < 8192; omega)
  rw [by8_lo, List.append_assoc] at b3
  refine ⟨s2, ?_, a2.trans b2, b3⟩
  unfold ab_X0_putPair
  rw [a1, vbs, b1, vbs]
theorem c_write {q n0 : Nat} {g0 : Nat → Nat} (hr : runC s R I m) (hP : vt_P s 600 R = q) (hs : stC s q st) (ok : stOk st) (h0 : rowC s a g0 n0) : ∃ s1, ab_X5_write R a s = some ((), s1) ∧ rwk a s s1 ∧ rowL s1 a (fin4 (stL st ++ cl I m m 0 0)) := by
  obtain ⟨o1, o2, o3, o4⟩ := ok
  have hm := hr.2.1
  have hl0 : rowL (vu_I s 101 a 0) a [] := ⟨by rw [I_at]; rfl, Nat.zero_le _, h0.2.2.1, fun i hi => absurd hi (by simp)⟩
  obtain ⟨s1, a1, a2, a3⟩ := c_putL 77 hl0 (by decide)
  obtain ⟨s2, b1, b2, b3⟩ := c_putL 68 a3 (by decide)
  obtain ⟨s3, c1, c2, c3⟩ := c_putL 1 b3 (by decide)
  obtain ⟨s4, d1, d2, d3⟩ := c_pairL o1.1 o1.2 c3 (by show 3 + 2 ≤ 8192; decide)
  obtain ⟨s5, e1, e2, e3⟩ := c_pairL o2.1 o2.2 d3 (by show 5 + 2 ≤ 8192; decide)
  obtain ⟨s6, f1, f2, f3⟩ := c_putL (nI st.2.2.1) e3 (by show 7 < 8192; decide)
  obtain ⟨s7, g1, g2, g3⟩ := c_putL (nI st.2.2.2) f3 (by show 8 < 8192; decide)
  rw [by8_nI (by omega)] at g3
  rw [by8_nI (by omega)] at g3
  have k0 : rwk a s (vu_I s 101 a 0) := rwk_I s a 0
  have k3 := ((k0.trans a2).trans b2).trans c2
  have k4 := k3.trans d2
  have k5 := k4.trans e2
  have k6 := k5.trans f2
  have k7 := k6.trans g2
  obtain ⟨s8, h1, h2, h3⟩ := c_write_loop (a := a) (R := R) (I := I) (m := m) m 0 0 sv_fuel s7 (stL st) (by omega) (by omega) (fuel_ge (by omega)) (hr.rwk k7) g3 (by show 9 + 4 * m + 5 ≤ 8192; omega)
  refine ⟨s8, ?_, k7.trans h2, h3⟩
  unfold ab_X5_write
  rw [slet, a1, vbs, b1, vbs, c1, vbs, slet, slet, k3.P, hP, k3.I (by decide), hs.1, d1, vbs, slet, slet, k4.P, hP, k4.I (by decide), hs.2.1, e1, vbs, slet, slet, k5.P, hP, k5.I (by decide), hs.2.2.1, f1, vbs, slet, slet, k6.P, hP, k6.I (by decide), hs.2.2.2, g1, vbs]
  exact h1
-- the reference
theorem r_run_loop (hr : runR B s I m) {i : Nat} (hi : i < m) : ∀ (d t fu : Nat), 63 ≤ t + d → d < fu → t ≤ 63 → 1 ≤ t → ab_X15_run_2 fu (B + 643) (nI i) (nI t) s = some (nI (rl I m i d t), s) := by
  obtain ⟨r1, r2, ⟨l1, l2, l3, l4⟩, r5⟩ := hr
  intro d
  induction d with
  | zero =>
    intro t fu h1 h2 h3 h4
    obtain ⟨fu, rfl⟩ : ∃ q, fu = q + 1 := ⟨fu - 1, by omega⟩
    show ab_X15_run_2b _ (B + 643) (nI i) (nI t) s = _
    unfold ab_X15_run_2b ab_X15_run_92
    rw [show (63 : Int32) = nI 63 from rfl, if_pos (nI_le (by omega) (by omega))]
    rfl
  | succ d ih =>
    intro t fu h1 h2 h3 h4
    obtain ⟨fu, rfl⟩ : ∃ q, fu = q + 1 := ⟨fu - 1, by omega⟩
    show ab_X15_run_2b _ (B + 643) (nI i) (nI t) s = some (nI (if 63 ≤ t then t else if m ≤ i + t then t else if I (i + t) = I i then rl I m i d (t + 1) else t), s)
    unfold ab_X15_run_2b ab_X15_run_92
    rw [show (63 : Int32) = nI 63 from rfl]
    by_cases c1 : 63 ≤ t
    · rw [if_pos (nI_le (by omega) (by omega)), if_pos c1]
    rw [if_neg (nI_ge (by omega) (by omega)), if_neg c1, slet, r1, nI_add]
    by_cases c2 : m ≤ i + t
    · rw [if_pos (nI_le (by omega) (by omega)), if_pos c2]
    rw [if_neg (nI_ge (by omega) (by omega)), if_neg c2]
    obtain ⟨x1, x2, x3, x4, x5⟩ := r5 i hi
    obtain ⟨y1, y2, y3, y4, y5⟩ := r5 (i + t) (by omega)
    have xo := x5
    have yo := y5
    unfold inOk at x5 y5
    have z1 : (zI (I (i + t)).1 = zI (I i).1) = ((I (i + t)).1 = (I i).1) := zI_eq (by omega) (by omega) (by omega) (by omega)
    have z2 : (zI (I (i + t)).2.1 = zI (I i).2.1) = ((I (i + t)).2.1 = (I i).2.1) := zI_eq (by omega) (by omega) (by omega) (by omega)
    have z3 : (zI (I (i + t)).2.2.1 = zI (I i).2.2.1) = ((I (i + t)).2.2.1 = (I i).2.2.1) := zI_eq (by omega) (by omega) (by omega) (by omega)
    have z4 : (bI (I (i + t)).2.2.2 = bI (I i).2.2.2) = ((I (i + t)).2.2.2 = (I i).2.2.2) := by cases (I (i + t)).2.2.2 <;> cases (I i).2.2.2 <;> decide
    rw [vl_I_ok (by omega) (by omega), obs, vl_I_ok (by omega) (by omega), obs, x1, y1, ifc z1]
    by_cases q1 : (I (i + t)).1 = (I i).1
    · rw [if_pos q1, vl_I_ok (by omega) (by omega), obs, vl_I_ok (by omega) (by omega), obs, x2, y2, ifc z2]
      by_cases q2 : (I (i + t)).2.1 = (I i).2.1
      · rw [if_pos q2, vl_I_ok (by omega) (by omega), obs, vl_I_ok (by omega) (by omega), obs, x3, y3, ifc z3]
        by_cases q3 : (I (i + t)).2.2.1 = (I i).2.2.1
        · rw [if_pos q3, vl_I_ok (by omega) (by omega), obs, vl_I_ok (by omega) (by omega), obs, x4, y4, ifc z4]
          by_cases q4 : (I (i + t)).2.2.2 = (I i).2.2.2
          · rw [if_pos q4, if_pos (Prod.ext q1 (Prod.ext q2 (Prod.ext q3 q4))), nI_1]
            exact ih (t + 1) fu (by omega) (by omega) (by omega) (by omega)
          · rw [if_neg q4, if_neg (fun z => q4 (by rw [z]))]
        · rw [if_neg q3, if_neg (fun z => q3 (by rw [z]))]
      · rw [if_neg q2, if_neg (fun z => q2 (by rw [z]))]
    · rw [if_neg q1, if_neg (fun z => q1 (by rw [z]))]
theorem r_run (hr : runR B s I m) {i : Nat} (hi : i < m) : ab_X15_run (B + 643) (nI i) s = some (nI (rl I m i 62 1), s) :=
  r_run_loop hr hi 62 1 sv_fuel (by omega) (fuel_ge (by omega)) (by omega) (by omega)
theorem r_group {i t : Nat} {K : Nat → Int32 → vt_S → Option (Int32 × vt_S)} (hr : runR B s I m) (hi : i < m) (ht : t ≤ 63) (h : rowP B s l) (hl : l.length + 4 ≤ 4200) : ∃ s1, ab_X15_write_117 K (B + 643) (nI i) (nI t) (bI (whl (I i))) s = K (B + 643) (nI (i + t)) s1 ∧ vk [1607] [1606] [] (fun _ => True) s s1 ∧ rowP B s1 (l ++ grp (I i) t) := by
  obtain ⟨r1, r2, ⟨l1, l2, l3, l4⟩, r5⟩ := hr
  obtain ⟨x1, x2, x3, x4, x5⟩ := r5 i hi
  unfold inOk at x5
  have e147 : ∀ w : Bool, w = whl (I i) → ∃ s1, ab_X15_write_147 K (B + 643) (nI i) (nI t) (bI w) (B + 643) (nI t + (if (I i).2.2.2 then 64 else 0)) (if w then 128 else 0) s = K (B + 643) (nI (i + t)) s1 ∧ vk [1607] [1606] [] (fun _ => True) s s1 ∧ rowP B s1 (l ++ grp (I i) t) := by
    intro w hw
    obtain ⟨s1, a1, a2, a3⟩ := r_putL (nI t + (if (I i).2.2.2 then 64 else 0) + (if w then 128 else 0)) h (by omega)
    rw [hd_byte ht] at a3
    have A1 : ∀ f j, f ≠ 1606 → vt_A s1 f (B + 643) j = vt_A s f (B + 643) j := fun f j hf => by rw [(a2.2.2.1 f (B + 643) (Or.inl (by simpa using hf))).1]
    have L1 : ∀ f, vt_L s1 f (B + 643) = vt_L s f (B + 643) := fun f => a2.2.2.2.1 f _ (Or.inl List.not_mem_nil)
    obtain ⟨s2, b1, b2, b3⟩ := r_putL (zI (I i).1 + 64) a3 (by rw [List.length_append]; show l.length + 1 < 4200; omega)
    rw [z_64, zI_add, by8_zn (by omega) (by omega), List.append_assoc] at b3
    have k2 := a2.trans b2
    unfold ab_X15_write_147 ab_X15_write_194
    rw [a1, vbs, vl_I_ok (by rw [L1]; omega) (by rw [L1]; omega), obs, A1 _ _ (by decide), x1, b1, vbs, nI_add]
    cases w
    · rw [if_pos (show bI false = 0 from rfl)]
      refine ⟨s2, rfl, k2, ?_⟩
      unfold grp
      rw [← hw]
      exact b3
    · rw [if_neg (show ¬ bI true = 0 by decide)]
      have A2 : ∀ f j, f ≠ 1606 → vt_A s2 f (B + 643) j = vt_A s f (B + 643) j := fun f j hf => by rw [(k2.2.2.1 f (B + 643) (Or.inl (by simpa using hf))).1]
      have L2 : ∀ f, vt_L s2 f (B + 643) = vt_L s f (B + 643) := fun f => k2.2.2.2.1 f _ (Or.inl List.not_mem_nil)
      obtain ⟨s3, d1, d2, d3⟩ := r_putL (zI (I i).2.1 + 64) b3 (by rw [List.length_append]; show l.length + 2 < 4200; omega)
      rw [z_64, zI_add, by8_zn (by omega) (by omega), List.append_assoc] at d3
      have k3 := k2.trans d2
      have A3 : ∀ f j, f ≠ 1606 → vt_A s3 f (B + 643) j = vt_A s f (B + 643) j := fun f j hf => by rw [(k3.2.2.1 f (B + 643) (Or.inl (by simpa using hf))).1]
      have L3 : ∀ f, vt_L s3 f (B + 643) = vt_L s f (B + 643) := fun f => k3.2.2.2.1 f _ (Or.inl List.not_mem_nil)
      obtain ⟨s4, f1, f2, f3⟩ := r_putL (zI (I i).2.2.1 + 16) d3 (by rw [List.length_append]; show l.length + 3 < 4200; omega)
      rw [z_16, zI_add, by8_zn (by omega) (by omega), List.append_assoc] at f3
      refine ⟨s4, ?_, k3.trans f2, ?_⟩
      · rw [vl_I_ok (by rw [L2]; omega) (by rw [L2]; omega), obs, A2 _ _ (by decide), x2, d1, vbs, vl_I_ok (by rw [L3]; omega) (by rw [L3]; omega), obs, A3 _ _ (by decide), x3, f1, vbs]
      · unfold grp
        rw [← hw]
        exact f3
  obtain ⟨s1, a1, a2⟩ := e147 (whl (I i)) rfl
  refine ⟨s1, ?_, a2⟩
  unfold ab_X15_write_117 ab_X15_write_135
  rw [vl_I_ok (by omega) (by omega), obs, x4, ← a1]
  cases (I i).2.2.2 <;> cases whl (I i) <;> rfl
end W3
