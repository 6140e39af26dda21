-- obligation: sectorOf
section OS2
variable {B : Nat}
theorem o_sector : ∀ (k : Nat), k + 5 ≤ 2560 → ∀ (x y : Int32), vb2 (Inv B k) (Inv B (k + 5)) (ab_X12_sectorOf B x y) (ab_X17_sectorOf (B + 639) x y) := by
  intro k hk x y s h
  have h0 := h
  obtain ⟨x, rfl, x1, x2⟩ := zI_ex x
  obtain ⟨p, p', R0, R, K, KN, gi, ni, go, no, fa, pl, mp, gm, nm, D, wk, a, tk, I, m, st, h1, h2, h3, h4, h5, h6, h7, h8, h9⟩ := h
  have m10 := no_map h3 hk
  obtain ⟨t, ht⟩ : ∃ t, t = vu_I s 1800 (B + 639) 0 := ⟨_, rfl⟩
  have kt : vk [1800] [] [] (fun _ => True) s t := by rw [ht]; exact vk.pI (vk.refl s) (by decide)
  have St : rS B t := kt.keep0 (P := rS B) h6.1
  by_cases c : 0 < mp
  · obtain ⟨q1, q2, q3, q4, q5, q6, -⟩ := h5 c
    obtain ⟨d1, d2, d3, d4, d5⟩ := h3.2.2 c
    have pf := q1.2.2.2.2.2.1
    have S := q1.2.2.2.2.2.2.S
    have mt := kt.keep0 (P := rMp2 B gm nm D wk a tk st) (h7 c)
    have sc := r_sectors (B := B) (s := t) mt.1.1 mt.1.2.2.2.2.2.2 mt.1.2.2.2.1
    have le : (nI (gm 5) ≤ zI x) = ((gm 5 : Int) ≤ x) := by rw [nI_z, zI_le (by omega) (by omega) (by omega) (by omega)]
    have isS : ab_X12_isSector B (zI x) s = some (bI (decide (0 ≤ x ∧ x < gm 5)), s) := by
      unfold ab_X12_isSector ab_X12_isSector_19 ab_X12_isSector_20
      rw [ifc (z_neg x1 x2), slet, h4.2.1.2.2.1, slet, pf.1.2.2.1, ifc le]
      by_cases e : x < 0
      · rw [if_pos e, decide_eq_false (fun z => by omega)]; rfl
      · rw [if_neg e]
        by_cases f : (gm 5 : Int) ≤ x
        · rw [if_pos f, decide_eq_false (fun z => by omega)]; rfl
        · rw [if_neg f, decide_eq_true (show 0 ≤ x ∧ x < gm 5 by omega)]; rfl
    by_cases g : 0 ≤ x ∧ x < gm 5
    · obtain ⟨j, rfl⟩ : ∃ j : Nat, x = (j : Int) := ⟨x.toNat, by omega⟩
      have hj : j < gm 5 := by omega
      obtain ⟨w1, w2, w3, w4, -⟩ := q3 j hj
      obtain ⟨v1, v2, v3, v4, -⟩ := mt.2.1 j hj
      have cl := c_lit (tk := tk) q1 hj q3
      have rl := r_lit mt.1.2.1 d3 mt.2.1 hj
      rw [mt.2.2.2.2.1] at rl
      have hl := mt.1.2.1.2.1
      have n5 : vt_I t 1400 (B + 656) = nI (gm 5) := mt.1.2.1.1.1
      have is1 := r_isSc (B := B) (s := t) n5 hj S.1
      have L7 := h4.2.1.1.2.2.2.2.2.2.2.1
      have E7 := h4.2.1.1.E307 j (by omega)
      have cc : ab_X12_sectorOf B (zI (j : Int)) y s = some (if y = 0 then (D j).1 else if y = 1 then (D j).2.1 else if y = 2 then litS gm D tk j else if y = 3 then (D j).2.2.1 else if y = 4 then (D j).2.2.2.1 else 100000, s) := by
        unfold ab_X12_sectorOf
        rw [c_isMap h4.2.2.2.2.1.2.2 m10 c, vbs, if_neg (by decide), isS, vbs, decide_eq_true g, if_neg (show ¬ bI true = 0 by decide), slet, h4.2.1.2.2.1, ← nI_z, vl_P_ok (by omega) (by omega), obs, E7]
        simp only [slet, h4.2.1.2.2.1, h4.1.P1304, q6, w1, w2, w3, w4, cl, vbs, ite_some]
      refine ⟨_, s, t, cc, ?_, by rw [ht]; exact h0.v1800 hk⟩
      obtain ⟨l8, l9, l10, l11, -⟩ := hl
      unfold ab_X17_sectorOf ab_X17_sectorOf_26 ab_X17_sectorOf_41
      rw [slet, ← ht, ifc (z_neg x1 x2), if_neg (by omega), sc, vbs, ifc le, if_neg (by omega), ← nI_z]
      by_cases y0 : y = 0
      · subst y0
        rw [if_neg (by decide), if_pos (by decide), slet, St.P1803]
        unfold ab_X13_of
        rw [is1, vbs, if_neg (by decide), if_pos rfl, vl_I_ok (by omega) (by omega), obs, v1, vbs, if_pos rfl]
      by_cases ya : y = 1
      · subst ya
        rw [if_neg (by decide), if_pos (by decide), slet, St.P1803]
        unfold ab_X13_of
        rw [is1, vbs, if_neg (by decide), if_neg (by decide), if_pos rfl, vl_I_ok (by omega) (by omega), obs, v2, vbs, if_neg (by decide), if_pos rfl]
      by_cases yb : y = 2
      · subst yb
        rw [if_neg (by decide), if_pos (by decide), slet, St.P1803, rl, vbs, if_neg (by decide), if_neg (by decide), if_pos rfl]
      by_cases yc : y = 3
      · subst yc
        rw [if_neg (by decide), if_pos (by decide), slet, St.P1803]
        unfold ab_X13_of
        rw [is1, vbs, if_neg (by decide), if_neg (by decide), if_neg (by decide), if_neg (by decide), if_pos rfl, vl_I_ok (by omega) (by omega), obs, v3, vbs, if_neg (by decide), if_neg (by decide), if_neg (by decide), if_pos rfl]
      by_cases yd : y = 4
      · subst yd
        rw [if_neg (by decide), if_pos (by decide), slet, St.P1803]
        unfold ab_X13_of
        rw [is1, vbs, if_neg (by decide), if_neg (by decide), if_neg (by decide), if_neg (by decide), if_neg (by decide), if_pos rfl, vl_I_ok (by omega) (by omega), obs, v4, vbs, if_neg (by decide), if_neg (by decide), if_neg (by decide), if_neg (by decide), if_pos rfl]
      rw [if_neg y0, if_neg ya, if_neg yb, if_neg yc, if_neg yd]
      by_cases yn : y < 0
      · rw [if_pos yn]
      · rw [if_neg yn, if_neg (fun z => by
          obtain ⟨v, rfl, b1, b2⟩ := zI_ex y
          rw [z_neg b1 b2] at yn
          rw [show (4 : Int32) = zI 4 from rfl, zI_le b1 b2 (by omega) (by omega)] at z
          have e0 : v ≠ 0 := fun q => y0 (by rw [q]; rfl)
          have e1 : v ≠ 1 := fun q => ya (by rw [q]; rfl)
          have e2 : v ≠ 2 := fun q => yb (by rw [q]; rfl)
          have e3 : v ≠ 3 := fun q => yc (by rw [q]; rfl)
          have e4 : v ≠ 4 := fun q => yd (by rw [q]; rfl)
          omega)]
    · refine ⟨100000, s, t, ?_, ?_, by rw [ht]; exact h0.v1800 hk⟩
      · unfold ab_X12_sectorOf ab_X12_sectorOf_15
        rw [c_isMap h4.2.2.2.2.1.2.2 m10 c, vbs, if_neg (by decide), isS, vbs, decide_eq_false g, if_pos (show bI false = 0 from rfl)]
      · unfold ab_X17_sectorOf ab_X17_sectorOf_26 ab_X17_sectorOf_41
        rw [slet, ← ht, ifc (z_neg x1 x2)]
        by_cases e : x < 0
        · rw [if_pos e]
        · rw [if_neg e, sc, vbs, ifc le, if_pos (by omega)]
  · have e : mp = 0 := by omega
    have n9 := (h6.2.2.2.2 e).1
    have hm := h4.2.2.2.2.1.2.2
    rw [e] at hm
    refine ⟨100000, s, t, ?_, ?_, by rw [ht]; exact h0.v1800 hk⟩
    · unfold ab_X12_sectorOf ab_X12_sectorOf_15
      rw [c_noMap hm, vbs, if_pos rfl]
    · have t9 : vt_I t 1809 (B + 639) = 0 := (kt.eI (by decide)).trans n9
      unfold ab_X17_sectorOf ab_X17_sectorOf_26 ab_X17_sectorOf_41 ab_X17_sectors ab_X17_sectors_19
      rw [slet, ← ht, ifc (z_neg x1 x2)]
      by_cases f : x < 0
      · rw [if_pos f]
      · rw [if_neg f, slet, t9, if_pos rfl, vbs, if_pos (show (0 : Int32) ≤ zI x by rw [show (0 : Int32) = zI 0 from rfl, zI_le (by omega) (by omega) (by omega) (by omega)]; omega)]
end OS2
