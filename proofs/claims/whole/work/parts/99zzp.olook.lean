-- obligations: walkerOf, lookAt
section OW1
variable {B : Nat}
def wA (D : Nat → SD) (wk : WK) (a : Nat) (tk : Int32) (x : Int32) : Int32 := if x = 0 then zI wk.1 else if x = 1 then zI wk.2.1 else if x = 2 then nI a else if x = 3 then nI wk.2.2 else if x = 4 then eyS D wk.2.2 else if x = 5 then tk else 100000
theorem o_walker : ∀ (k : Nat), k + 5 ≤ 2560 → ∀ (x : Int32), vb2 (Inv B k) (Inv B (k + 5)) (ab_X12_walkerOf B x) (ab_X17_walkerOf (B + 639) x) := by
  intro k hk x s h
  have h0 := h
  obtain ⟨p, p', R0, R, K, KN, gi, ni, go, no, fa, pl, mp, gm, nm, D, wk, a, tk, I, m, st, h1, h2, h3, h4, h5, h6, h7, h8, h9⟩ := h
  have m10 := no_map h3 hk
  by_cases c : 0 < mp
  · obtain ⟨x1, x2, x3, ⟨w1, w2, w3⟩, x5, x6, x7, x8⟩ := h5 c
    obtain ⟨y1, y2, ⟨z1, z2, z3⟩, y4, y5, y6⟩ := h7 c
    obtain ⟨d1, d2, d3, d4, d5⟩ := h3.2.2 c
    have eC := c_eye x1 x3 ⟨w1, w2, w3⟩ d2.2.2.1
    obtain ⟨t, ht⟩ : ∃ t, t = vu_I s 1800 (B + 639) 0 := ⟨_, rfl⟩
    have kt : vk [1800] [] [] (fun _ => True) s t := by rw [ht]; exact vk.pI (vk.refl s) (by decide)
    have eR : ab_X17_eye (B + 639) t = some (eyS D wk.2.2, t) := r_eye (k := wk) (kt.keep0 (P := fun u => vt_P u 1803 (B + 639) = B + 656) y1.2.2.2.2.1) (kt.keep0 (P := rHal B gm) y1.2.1) (kt.keep0 (P := fun u => secsR u (B + 656) (gm 5) D) y2) (kt.keep0 (P := fun u => vt_I u 1814 (B + 639) = nI wk.2.2) z3) d2.2.2.1
    have P3 : vt_P t 1803 (B + 639) = B + 656 := kt.keep0 (P := fun u => vt_P u 1803 (B + 639) = B + 656) y1.2.2.2.2.1
    have y5 : vt_I s 1415 (B + 656) = tk := y5
    refine ⟨wA D wk a tk x, s, t, ?_, ?_, by rw [ht]; exact h0.v1800 hk⟩
    · unfold ab_X12_walkerOf wA
      rw [c_isMap h4.2.2.2.2.1.2.2 m10 c, vbs, if_neg (by decide)]
      simp only [slet, h4.1.P1304, w1, w2, w3, x5, x6, eC, vbs]
      repeat' split
      all_goals first | rfl | contradiction
    · unfold ab_X17_walkerOf wA
      rw [slet, ← ht, slet, kt.eI (by decide), y1.2.2.2.2.2.2, if_neg (by decide)]
      simp only [slet, kt.eI (show 1811 ∉ [1800] by decide), kt.eI (show 1812 ∉ [1800] by decide), kt.eI (show 1813 ∉ [1800] by decide), kt.eI (show 1814 ∉ [1800] by decide), kt.eI (show 1415 ∉ [1800] by decide), P3, z1, z2, z3, y4, y5, eR, vbs]
      repeat' split
      all_goals first | rfl | contradiction
  · have e : mp = 0 := by omega
    have n9 := (h6.2.2.2.2 e).1
    have hm := h4.2.2.2.2.1.2.2
    rw [e] at hm
    refine ⟨100000, s, vu_I s 1800 (B + 639) 0, ?_, ?_, h0.v1800 hk⟩
    · unfold ab_X12_walkerOf
      rw [c_noMap hm, vbs, if_pos rfl]
    · unfold ab_X17_walkerOf
      rw [slet, slet, t1800 (by decide), n9, if_pos rfl]
end OW1
