-- saveMap, both
section SV2
variable {B p n : Nat} {g : Nat → Nat} {s : vt_S}
theorem sg8_255 {a : Nat} (h : a < 256) : zI (sg8 (a : Int)) &&& 255 = nI a := by
  rw [zI_and255, nI_z]
  refine congrArg zI ?_
  unfold sg8
  omega
theorem c_saveMap {mp m : Nat} {q : Nat → Nat} (hm : vt_I s 1310 B = nI mp) (hmp : mp < 1000) (h0 : 0 < mp) (hW : vt_P s 1301 B = B + 3) (hP : vt_P s 1306 B = p) (hpp : p = B + 23 ∨ p = B + 322) (h3 : vt_P s 300 p = p + 1) (hr : rowC s (p + 1) g n) (ho : rowC s (B + 3) q m) : ∃ s1, ab_X12_saveMap B s = some (nI n, s1) ∧ rwk (B + 3) s s1 ∧ rowC s1 (B + 3) g n := by
  obtain ⟨s1, a1, a2, a3⟩ := row_become (show B + 3 ≠ p + 1 by omega) ho hr
  refine ⟨s1, ?_, a2, a3⟩
  unfold ab_X12_saveMap
  rw [c_hasMap hm hmp, vbs, decide_eq_true h0, if_neg (show ¬ bI true = 0 by decide), slet, slet, slet, hW, hP, h3, a1, vbs, slet, slet, a2.P, hW, a3.1]
theorem r_save_loop (hn : n ≤ 8192) : ∀ (d i fu : Nat) (s : vt_S), i + d = n → d < fu → rS B s → rMap B g n s → vt_I s 1806 (B + 639) = nI n → (∀ j, j < i → vt_A s 1805 (B + 639) j = nI (g j)) → ∃ s1, ab_X17_saveMap_27 fu (B + 639) (nI i) s = some (nI n, s1) ∧ vk [] [1805] [] (fun _ => True) s s1 ∧ ∀ j, j < n → vt_A s1 1805 (B + 639) j = nI (g j) := by
  intro d
  induction d with
  | zero =>
    intro i fu s hi hf hS hM h6 hj
    obtain ⟨fu, rfl⟩ : ∃ q, fu = q + 1 := ⟨fu - 1, by omega⟩
    have e : i = n := by omega
    subst e
    refine ⟨s, ?_, vk.refl s, hj⟩
    show ab_X17_saveMap_27b _ (B + 639) (nI i) s = _
    unfold ab_X17_saveMap_27b
    rw [slet, h6, if_pos (nI_le (Nat.le_refl _) (by omega)), slet]
  | succ d ih =>
    intro i fu s hi hf hS hM h6 hj
    obtain ⟨fu, rfl⟩ : ∃ q, fu = q + 1 := ⟨fu - 1, by omega⟩
    obtain ⟨m1, m2, m3, m4, -⟩ := id hM
    have L5 := hS.L1805
    obtain ⟨b1, b2⟩ := m4 i (by omega)
    obtain ⟨u, hu⟩ : ∃ u, u = vu_A s 1805 (B + 639) i (nI (g i)) := ⟨_, rfl⟩
    have ku : vk [] [1805] [] (fun _ => True) s u := by rw [hu]; exact vk.pA (vk.refl s) (by decide)
    obtain ⟨s1, a1, a2, a3⟩ := ih (i + 1) fu u (by omega) (by omega) (ku.keep0 (P := rS B) hS) (ku.keep0 (P := rMap B g n) hM) (by rw [ku.eI (by intro z; cases z)]; exact h6) (fun j hj2 => by
      rw [hu, A_at]
      by_cases c : j = i
      · rw [if_pos c, c]
      · rw [if_neg c]; exact hj j (by omega))
    refine ⟨s1, ?_, ku.trans a2, a3⟩
    show ab_X17_saveMap_27b _ (B + 639) (nI i) s = _
    unfold ab_X17_saveMap_27b
    rw [slet, h6, if_neg (nI_ge (by omega) (by omega)), slet, hS.P1801, vl_I_ok (by omega) (by omega), obs, b1, sg8_255 b2, vs_I_ok (by omega) (by omega), obs, ← hu, nI_1]
    exact a1
theorem r_saveMap (hM : rMa B g n s) : ∃ s1, ab_X17_saveMap (B + 639) s = some (nI n, s1) ∧ rOut B s1 g n ∧ vk [1800, 1806] [1805] [] (fun _ => True) s s1 := by
  obtain ⟨hS, hR, h9⟩ := hM
  obtain ⟨u, hu⟩ : ∃ u, u = vu_I (vu_I s 1800 (B + 639) 0) 1806 (B + 639) (nI n) := ⟨_, rfl⟩
  obtain ⟨t, ht⟩ : ∃ t, t = vu_I s 1800 (B + 639) 0 := ⟨_, rfl⟩
  have kt : vk [1800] [] [] (fun _ => True) s t := by rw [ht]; exact vk.pI (vk.refl s) (by decide)
  have ku : vk [1800, 1806] [] [] (fun _ => True) s u := by rw [hu]; exact vk.pI (vk.pI (vk.refl s) (by decide)) (by decide)
  have n8 := hR.2.2.1
  obtain ⟨s1, a1, a2, a3⟩ := r_save_loop (B := B) (g := g) n8 n 0 sv_fuel u (by omega) (Nat.lt_of_lt_of_le (show n < 20000 by omega) (Nat.le_of_lt (fuel_ge (by omega)))) (ku.keep0 (P := rS B) hS) (ku.keep0 (P := rMap B g n) hR) (by rw [hu, I_at]) (fun j hj => absurd hj (by omega))
  refine ⟨s1, ?_, ⟨by rw [a2.eI (by intro z; cases z), hu, I_at], n8, fun i hi => ⟨a3 i hi, (hR.2.2.2.1 i hi).2⟩⟩, (ku.weak (by decide) (by decide) (by decide)).trans (a2.weak (by decide) (by decide) (by decide))⟩
  unfold ab_X17_saveMap
  rw [slet, slet, ← ht, kt.eI (by decide), h9, if_neg (by decide), slet, (kt.keep0 (P := rS B) hS).P1801, slet, kt.eI (by decide), hR.1, slet, ht, ← hu, show (0 : Int32) = nI 0 from rfl]
  exact a1
end SV2
