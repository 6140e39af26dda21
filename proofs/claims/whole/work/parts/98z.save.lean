-- A RUN is saved, both sides
section SV
variable {m B : Nat} {I : Nat → IN} {st : WS} {s : vt_S}
theorem r_pair {l : List Nat} {v : Int} (h1 : -32768 ≤ v) (h2 : v ≤ 32767) (h : rowP B s l) (hn : l.length + 2 ≤ 4200) : ∃ s1 s2, ab_X15_put (B + 643) (zI v >>> (8 &&& 31)) s = some ((), s1) ∧ ab_X15_put (B + 643) (zI v) s1 = some ((), s2) ∧ vk [1607] [1606] [] (fun _ => True) s s1 ∧ vk [1607] [1606] [] (fun _ => True) s s2 ∧ rowP B s2 (l ++ [hiB v, loB v]) := by
  obtain ⟨s1, a1, a2, a3⟩ := r_putL (zI v >>> (8 &&& 31)) h (by omega)
  rw [by8_hi h1 h2] at a3
  obtain ⟨s2, b1, b2, b3⟩ := r_putL (zI v) a3 (by rw [List.length_append]; show l.length + 1 < 4200; omega)
  rw [by8_lo, List.append_assoc] at b3
  exact ⟨s1, s2, a1, b1, a2, a2.trans b2, b3⟩
theorem stR.vk {s1 : vt_S} (h : stR B s st) (k : vk [1607] [1606] [] (fun _ => True) s s1) : stR B s1 st := k.keep0 (P := fun t => stR B t st) h
theorem r_write (hr : runR B s I m) (hL : vt_L s 1600 (B + 643) = 4) (hL6 : vt_L s 1606 (B + 643) = 4200) (hs : stR B s st) (ok : stOk st) : ∃ s1, ab_X15_write (B + 643) s = some (nI (fin4 (stL st ++ cl I m m 0 0)).length, s1) ∧ vk wrW [1606] [] (fun _ => True) s s1 ∧ rowP B s1 (fin4 (stL st ++ cl I m m 0 0)) := by
  obtain ⟨o1, o2, o3, o4⟩ := ok
  have hm := hr.2.1
  obtain ⟨s0, hs0⟩ : ∃ t, t = vu_I s 1607 (B + 643) 0 := ⟨_, rfl⟩
  have k0 : vk [1607] [1606] [] (fun _ => True) s s0 := by rw [hs0]; exact vk.pI (vk.refl s) (by decide)
  have hl0 : rowP B s0 [] := ⟨by rw [hs0, I_at]; rfl, by rw [k0.2.2.2.1 _ _ (Or.inl List.not_mem_nil)]; exact hL6, fun i hi => absurd hi (by simp)⟩
  obtain ⟨s1, a1, a2, a3⟩ := r_putL 77 hl0 (by decide)
  obtain ⟨s2, b1, b2, b3⟩ := r_putL 68 a3 (by decide)
  obtain ⟨s3, c1, c2, c3⟩ := r_putL 1 b3 (by decide)
  obtain ⟨s4, s5, d1, d2, d3, d4, d5⟩ := r_pair o1.1 o1.2 c3 (by show 3 + 2 ≤ 4200; decide)
  obtain ⟨s6, s7, e1, e2, e3, e4, e5⟩ := r_pair o2.1 o2.2 d5 (by show 5 + 2 ≤ 4200; decide)
  obtain ⟨s8, f1, f2, f3⟩ := r_putL (nI st.2.2.1) e5 (by show 7 < 4200; decide)
  obtain ⟨s9, g1, g2, g3⟩ := r_putL (nI st.2.2.2) f3 (by show 8 < 4200; decide)
  rw [by8_nI (by omega)] at g3
  rw [by8_nI (by omega)] at g3
  have k3 := ((k0.trans a2).trans b2).trans c2
  have k4 := k3.trans d3
  have k5 := k3.trans d4
  have k6 := k5.trans e3
  have k7 := k5.trans e4
  have k8 := k7.trans f2
  have k9 := k8.trans g2
  have LL : ∀ {t : vt_S}, vk [1607] [1606] [] (fun _ => True) s t → vt_L t 1600 (B + 643) = 4 := fun k => by rw [k.2.2.2.1 _ _ (Or.inl List.not_mem_nil)]; exact hL
  obtain ⟨q, hq⟩ : ∃ q, sv_fuel = q + 3 := ⟨sv_fuel - 3, by have : 3 < sv_fuel := fuel_ge (by omega); omega⟩
  obtain ⟨sa, h1, h2, h3⟩ := r_write_loop (B := B) (I := I) (m := m) m 0 sv_fuel s9 (stL st) (by omega) (by omega) (fuel_ge (by omega)) (k9.keep0 (P := fun t => runR B t I m) hr) g3 (by show 9 + 4 * m + 5 ≤ 4200; omega)
  refine ⟨sa, ?_, (k9.weak (by decide) (by decide) (by decide)).trans h2, h3⟩
  have q3 := LL k3
  have q4 := LL k4
  have q5 := LL k5
  have q6 := LL k6
  have q7 := LL k7
  have q8 := LL k8
  have t3 := hs.vk k3
  have t4 := hs.vk k4
  have t5 := hs.vk k5
  have t6 := hs.vk k6
  have t7 := hs.vk k7
  have t8 := hs.vk k8
  have e24 : ab_X15_write (B + 643) s = ab_X15_write_24 (q + 3) (B + 643) 0 s3 := by
    unfold ab_X15_write
    rw [slet, ← hs0, a1, vbs, b1, vbs, c1, vbs, hq]
  have e24a : ab_X15_write_24 (q + 3) (B + 643) 0 s3 = ab_X15_write_24 (q + 2) (B + 643) 1 s5 := by
    show ab_X15_write_24b _ (B + 643) (nI 0) s3 = _
    unfold ab_X15_write_24b
    rw [if_neg (by decide), vl_I_ok (by omega) (by omega), obs, t3.1, d1, vbs, vl_I_ok (by omega) (by omega), obs, t4.1, d2, vbs]
    rfl
  have e24b : ab_X15_write_24 (q + 2) (B + 643) 1 s5 = ab_X15_write_24 (q + 1) (B + 643) 2 s7 := by
    show ab_X15_write_24b _ (B + 643) (nI 1) s5 = _
    unfold ab_X15_write_24b
    rw [if_neg (by decide), vl_I_ok (by omega) (by omega), obs, t5.2.1, e1, vbs, vl_I_ok (by omega) (by omega), obs, t6.2.1, e2, vbs]
    rfl
  rw [e24, e24a, e24b]
  show ab_X15_write_24b _ (B + 643) 2 s7 = _
  unfold ab_X15_write_24b
  rw [if_pos (by decide), show (2 : Int32) = nI 2 from rfl, vl_I_ok (by omega) (by omega), obs, t7.2.2.1, f1, vbs, show (3 : Int32) = nI 3 from rfl, vl_I_ok (by omega) (by omega), obs, t8.2.2.2, g1, vbs]
  exact h1
theorem r_copy_loop {l : List Nat} (hl : l.length ≤ 4200) : ∀ (d i fu : Nat) (s : vt_S), i + d = l.length → d < fu → vt_P s 1802 (B + 639) = B + 643 → vt_L s 1805 (B + 639) = 8192 → rowP B s l → vt_I s 1806 (B + 639) = nI l.length → (∀ j, j < i → vt_A s 1805 (B + 639) j = nI (lf l j)) → ∃ s1, ab_X17_saveDemo_27 fu (B + 639) (nI i) s = some (nI l.length, s1) ∧ rOut B s1 (lf l) l.length := by
  intro d
  induction d with
  | zero =>
    intro i fu s hi hf hP hL h h6 hA
    obtain ⟨fu, rfl⟩ : ∃ q, fu = q + 1 := ⟨fu - 1, by omega⟩
    refine ⟨s, ?_, h6, by omega, fun j hj => ⟨hA j (by omega), (h.2.2 j hj).2⟩⟩
    show ab_X17_saveDemo_27b _ (B + 639) (nI i) s = _
    unfold ab_X17_saveDemo_27b
    rw [slet, h6, if_pos (nI_le (by omega) (by omega)), slet]
  | succ d ih =>
    intro i fu s hi hf hP hL h h6 hA
    obtain ⟨fu, rfl⟩ : ∃ q, fu = q + 1 := ⟨fu - 1, by omega⟩
    obtain ⟨x1, x2⟩ := h.2.2 i (by omega)
    have hL6 := h.2.1
    have k1 : vk [] [1805] [] (fun _ => True) s (vu_A s 1805 (B + 639) i (nI (lf l i))) := vk.pA (vk.refl s) (by decide)
    obtain ⟨s1, a1, a2⟩ := ih (i + 1) fu (vu_A s 1805 (B + 639) i (nI (lf l i))) (by omega) (by omega) (k1.keep0 (P := fun t => vt_P t 1802 (B + 639) = B + 643) hP) (k1.keep0 (P := fun t => vt_L t 1805 (B + 639) = 8192) hL) (k1.keep0 (P := fun t => rowP B t l) h) (k1.keep0 (P := fun t => vt_I t 1806 (B + 639) = nI l.length) h6) (fun j hj => by
      rw [A_at]
      by_cases z : j = i
      · rw [if_pos z, z]
      · rw [if_neg z]; exact hA j (by omega))
    refine ⟨s1, ?_, a2⟩
    show ab_X17_saveDemo_27b _ (B + 639) (nI i) s = _
    unfold ab_X17_saveDemo_27b
    rw [slet, h6, if_neg (nI_ge (by omega) (by omega)), slet, hP, vl_I_ok (by omega) (by omega), obs, x1, vs_I_ok (by omega) (by omega), obs, nI_1]
    exact a1
theorem r_save (h9 : vt_I s 1809 (B + 639) = 1) (hS : rS B s) (hr : runR B s I m) (hs : stR B s st) (ok : stOk st) : ∃ s1, ab_X17_saveDemo (B + 639) s = some (nI (fin4 (stL st ++ cl I m m 0 0)).length, s1) ∧ rOut B s1 (lf (fin4 (stL st ++ cl I m m 0 0))) (fin4 (stL st ++ cl I m m 0 0)).length := by
  have hm := hr.2.1
  have len : (fin4 (stL st ++ cl I m m 0 0)).length ≤ 4200 := by
    have := clen I m m 0 0
    unfold fin4
    rw [List.length_append, List.length_append, List.length_append]
    show 9 + _ + 1 + 4 ≤ 4200
    omega
  obtain ⟨s0, hs0⟩ : ∃ t, t = vu_I s 1800 (B + 639) 0 := ⟨_, rfl⟩
  have k0 : vk [1800] [] [] (fun _ => True) s s0 := by rw [hs0]; exact vk.pI (vk.refl s) (by decide)
  have hS0 : rS B s0 := k0.keep0 (P := rS B) hS
  obtain ⟨s1, a1, a2, a3⟩ := r_write (k0.keep0 (P := fun t => runR B t I m) hr) hS0.L1600 hS0.L1606 (k0.keep0 (P := fun t => stR B t st) hs) ok
  have hS1 : rS B s1 := a2.keep0 (P := rS B) hS0
  have k2 : vk [1806] [] [] (fun _ => True) s1 (vu_I s1 1806 (B + 639) (nI (fin4 (stL st ++ cl I m m 0 0)).length)) := vk.pI (vk.refl s1) (by decide)
  obtain ⟨s2, b1, b2⟩ := r_copy_loop (B := B) len (fin4 (stL st ++ cl I m m 0 0)).length 0 sv_fuel (vu_I s1 1806 (B + 639) (nI (fin4 (stL st ++ cl I m m 0 0)).length)) (by omega) (fuel_ge (by omega)) (k2.keep0 (P := fun t => vt_P t 1802 (B + 639) = B + 643) hS1.P1802) (k2.keep0 (P := fun t => vt_L t 1805 (B + 639) = 8192) hS1.L1805) (k2.keep0 (P := fun t => rowP B t _) a3) I_at (fun j hj => absurd hj (by omega))
  refine ⟨s2, ?_, b2⟩
  unfold ab_X17_saveDemo
  rw [slet, ← hs0, slet, k0.eI (by decide), h9, if_neg (by decide), slet, hS0.P1802, a1, vbs, slet]
  exact b1
end SV
