-- obligations: pixelAt, surfaceAt, metAt
section OP1
variable {B : Nat}
theorem r_1809 {s : vt_S} {gi : Nat → Nat} {ni : Nat} {go : Nat → Nat} {no : Nat} {fa pl : Int32} {mp : Nat} {gm : Nat → Nat} {nm : Nat} {D : Nat → SD} {wk : WK} {a : Nat} {tk : Int32} {I : Nat → IN} {m : Nat} {st : WS} (h6 : rIv B gi ni go no fa pl mp I m s) (h7 : 0 < mp → rMp2 B gm nm D wk a tk st s) : vt_I s 1809 (B + 639) = bI (decide (0 < mp)) := by
  by_cases c : 0 < mp
  · rw [decide_eq_true c]; exact (h7 c).1.2.2.2.2.2.2
  · rw [decide_eq_false c]; exact (h6.2.2.2.2 (by omega)).1
theorem z_lt48 {y : Int} (h1 : -2147483648 ≤ y) (h2 : y ≤ 2147483647) : (zI y < (48 : Int32)) = (y < 48) := by
  rw [show (48 : Int32) = zI 48 from rfl, zI_lt h1 h2 (by omega) (by omega)]
theorem o_pixel : ∀ (k : Nat), k + 5 ≤ 2560 → ∀ (x y : Int32), vb2 (Inv B k) (Inv B (k + 5)) (ab_X12_pixelAt B x y) (ab_X17_pixelAt (B + 639) x y) := by
  intro k hk x y s h
  have h0 := h
  obtain ⟨x, rfl, x1, x2⟩ := zI_ex x
  obtain ⟨y, rfl, y1, y2⟩ := zI_ex y
  obtain ⟨p, p', R0, R, K, KN, gi, ni, go, no, fa, pl, mp, gm, nm, D, wk, a, tk, I, m, st, h1, h2, h3, h4, h5, h6, h7, h8, h9⟩ := h
  have m10 := no_map h3 hk
  have v9 := r_1809 h6 h7
  have seen := c_isSeen (B := B) (s := s) h4.2.2.2.2.1.2.2 m10 x1 x2
  by_cases g : 0 < mp ∧ 0 ≤ x ∧ x < 64 ∧ 0 ≤ y ∧ y < 48
  · obtain ⟨c, g1, g2, g3, g4⟩ := id g
    obtain ⟨i, rfl⟩ : ∃ i : Nat, x = (i : Int) := ⟨x.toNat, by omega⟩
    obtain ⟨j, rfl⟩ : ∃ j : Nat, y = (j : Int) := ⟨y.toNat, by omega⟩
    obtain ⟨s1, s3, a1, a2, a3, a4, a5, b1, b2, b3, c1, r1⟩ := o_col c h3 h4 h5 h6 h7 (show i < 64 by omega)
    refine ⟨(viewX gm D tk wk a i).1.2.1 j, s1, s3, ?_, ?_, h0.view hk a4 b3⟩
    · have L := c1.L1002
      unfold ab_X12_pixelAt
      rw [seen, vbs, decide_eq_true (show 0 < mp ∧ 0 ≤ (i : Int) ∧ (i : Int) < 64 by omega), if_neg (show ¬ bI true = 0 by decide), ifc (z_neg y1 y2), if_neg (by omega), ifc (z_lt48 y1 y2), if_pos g4, slet, h4.1.P1305, slet, h4.1.P1304, ← nI_z i, ← nI_z j, a1, vbs, slet, c1.P1305, vl_I_ok (by omega) (by omega), obs, (a2.1 j (by omega)).2]
    · have L := r1.L1825
      have v : vt_I (vu_I s1 1800 (B + 639) 0) 1809 (B + 639) = bI (decide (0 < mp)) := by
        rw [t1800 (by decide), a5, decide_eq_true c]; rfl
      have px := r_isPixel (B := B) (mp := mp) v x1 x2 y1 y2
      rw [decide_eq_true g] at px
      unfold ab_X17_pixelAt
      rw [slet, px, vbs, if_neg (show ¬ bI true = 0 by decide), ← nI_z i, ← nI_z j, b1, vbs, vl_I_ok (by omega) (by omega), obs, (b2.1 j (by omega)).2]
  · refine ⟨-1, s, vu_I s 1800 (B + 639) 0, ?_, ?_, h0.v1800 hk⟩
    · unfold ab_X12_pixelAt ab_X12_pixelAt_18
      rw [seen, vbs, ifc (z_neg y1 y2), ifc (z_lt48 y1 y2)]
      by_cases e : 0 < mp ∧ 0 ≤ x ∧ x < 64
      · rw [decide_eq_true e, if_neg (show ¬ bI true = 0 by decide)]
        by_cases f : y < 0
        · rw [if_pos f]
        · rw [if_neg f, if_neg (by omega)]
      · rw [decide_eq_false e, if_pos (show bI false = 0 from rfl)]
    · have v : vt_I (vu_I s 1800 (B + 639) 0) 1809 (B + 639) = bI (decide (0 < mp)) := by rw [t1800 (by decide)]; exact v9
      have px := r_isPixel (B := B) (mp := mp) v x1 x2 y1 y2
      rw [decide_eq_false g] at px
      unfold ab_X17_pixelAt
      rw [slet, px, vbs, if_pos (show bI false = 0 from rfl)]
theorem o_surf : ∀ (k : Nat), k + 5 ≤ 2560 → ∀ (x y : Int32), vb2 (Inv B k) (Inv B (k + 5)) (ab_X12_surfaceAt B x y) (ab_X17_surfaceAt (B + 639) x y) := by
  intro k hk x y s h
  have h0 := h
  obtain ⟨x, rfl, x1, x2⟩ := zI_ex x
  obtain ⟨y, rfl, y1, y2⟩ := zI_ex y
  obtain ⟨p, p', R0, R, K, KN, gi, ni, go, no, fa, pl, mp, gm, nm, D, wk, a, tk, I, m, st, h1, h2, h3, h4, h5, h6, h7, h8, h9⟩ := h
  have m10 := no_map h3 hk
  have v9 := r_1809 h6 h7
  have seen := c_isSeen (B := B) (s := s) h4.2.2.2.2.1.2.2 m10 x1 x2
  by_cases g : 0 < mp ∧ 0 ≤ x ∧ x < 64 ∧ 0 ≤ y ∧ y < 48
  · obtain ⟨c, g1, g2, g3, g4⟩ := id g
    obtain ⟨i, rfl⟩ : ∃ i : Nat, x = (i : Int) := ⟨x.toNat, by omega⟩
    obtain ⟨j, rfl⟩ : ∃ j : Nat, y = (j : Int) := ⟨y.toNat, by omega⟩
    obtain ⟨s1, s3, a1, a2, a3, a4, a5, b1, b2, b3, c1, r1⟩ := o_col c h3 h4 h5 h6 h7 (show i < 64 by omega)
    refine ⟨(viewX gm D tk wk a i).1.1 j, s1, s3, ?_, ?_, h0.view hk a4 b3⟩
    · have L := c1.L1001
      unfold ab_X12_surfaceAt
      rw [seen, vbs, decide_eq_true (show 0 < mp ∧ 0 ≤ (i : Int) ∧ (i : Int) < 64 by omega), if_neg (show ¬ bI true = 0 by decide), ifc (z_neg y1 y2), if_neg (by omega), ifc (z_lt48 y1 y2), if_pos g4, slet, h4.1.P1305, slet, h4.1.P1304, ← nI_z i, ← nI_z j, a1, vbs, slet, c1.P1305, vl_I_ok (by omega) (by omega), obs, (a2.1 j (by omega)).1]
    · have L := r1.L1824
      have v : vt_I (vu_I s1 1800 (B + 639) 0) 1809 (B + 639) = bI (decide (0 < mp)) := by
        rw [t1800 (by decide), a5, decide_eq_true c]; rfl
      have px := r_isPixel (B := B) (mp := mp) v x1 x2 y1 y2
      rw [decide_eq_true g] at px
      unfold ab_X17_surfaceAt
      rw [slet, px, vbs, if_neg (show ¬ bI true = 0 by decide), ← nI_z i, ← nI_z j, b1, vbs, vl_I_ok (by omega) (by omega), obs, (b2.1 j (by omega)).1]
  · refine ⟨-1, s, vu_I s 1800 (B + 639) 0, ?_, ?_, h0.v1800 hk⟩
    · unfold ab_X12_surfaceAt ab_X12_surfaceAt_18
      rw [seen, vbs, ifc (z_neg y1 y2), ifc (z_lt48 y1 y2)]
      by_cases e : 0 < mp ∧ 0 ≤ x ∧ x < 64
      · rw [decide_eq_true e, if_neg (show ¬ bI true = 0 by decide)]
        by_cases f : y < 0
        · rw [if_pos f]
        · rw [if_neg f, if_neg (by omega)]
      · rw [decide_eq_false e, if_pos (show bI false = 0 from rfl)]
    · have v : vt_I (vu_I s 1800 (B + 639) 0) 1809 (B + 639) = bI (decide (0 < mp)) := by rw [t1800 (by decide)]; exact v9
      have px := r_isPixel (B := B) (mp := mp) v x1 x2 y1 y2
      rw [decide_eq_false g] at px
      unfold ab_X17_surfaceAt
      rw [slet, px, vbs, if_pos (show bI false = 0 from rfl)]
theorem o_met : ∀ (k : Nat), k + 5 ≤ 2560 → ∀ (x y : Int32), vb2 (Inv B k) (Inv B (k + 5)) (ab_X12_metAt B x y) (ab_X17_metAt (B + 639) x y) := by
  intro k hk x y s h
  have h0 := h
  obtain ⟨x, rfl, x1, x2⟩ := zI_ex x
  obtain ⟨y, rfl, y1, y2⟩ := zI_ex y
  obtain ⟨p, p', R0, R, K, KN, gi, ni, go, no, fa, pl, mp, gm, nm, D, wk, a, tk, I, m, st, h1, h2, h3, h4, h5, h6, h7, h8, h9⟩ := h
  have m10 := no_map h3 hk
  have v9 := r_1809 h6 h7
  have seen := c_isSeen (B := B) (s := s) h4.2.2.2.2.1.2.2 m10 x1 x2
  have nn : (0 ≤ zI y) = (0 ≤ y) := by rw [show (0 : Int32) = zI 0 from rfl, zI_le (by omega) (by omega) (by omega) (by omega)]
  by_cases g : 0 < mp ∧ 0 ≤ x ∧ x < 64
  · obtain ⟨c, g1, g2⟩ := id g
    obtain ⟨i, rfl⟩ : ∃ i : Nat, x = (i : Int) := ⟨x.toNat, by omega⟩
    obtain ⟨s1, s3, a1, a2, a3, a4, a5, b1, b2, b3, c1, r1⟩ := o_col c h3 h4 h5 h6 h7 (show i < 64 by omega)
    have v : ∀ u : vt_S, vt_I u 1809 (B + 639) = bI (decide (0 < mp)) → ab_X17_isPixel (B + 639) (zI (i : Int)) 0 (vu_I u 1800 (B + 639) 0) = some (bI true, vu_I u 1800 (B + 639) 0) := fun u hu => by
      have px := r_isPixel (B := B) (s := vu_I u 1800 (B + 639) 0) (mp := mp) (x := (i : Int)) (y := 0) (by rw [t1800 (by decide)]; exact hu) x1 x2 (by omega) (by omega)
      rw [decide_eq_true (show 0 < mp ∧ 0 ≤ (i : Int) ∧ (i : Int) < 64 ∧ (0 : Int) ≤ 0 ∧ (0 : Int) < 48 by omega)] at px
      exact px
    have v1 := v s1 (by rw [a5, decide_eq_true c]; rfl)
    by_cases f : 0 ≤ y
    · have L := c1.L1003
      have L2 := r1.L1822
      have n4 := a2.2.2.2.1
      have n5 := b2.2.1
      obtain ⟨j, rfl⟩ : ∃ j : Nat, y = (j : Int) := ⟨y.toNat, by omega⟩
      obtain ⟨N, hN⟩ : ∃ N, N = (viewX gm D tk wk a i).2.2 := ⟨_, rfl⟩
      rw [← hN] at a3 n4 n5
      have le : (nI N ≤ zI (j : Int)) = (N ≤ j) := by
        rw [nI_z, zI_le (by omega) (by omega) (by omega) (by omega)]
        exact propext ⟨fun h => by omega, fun h => by omega⟩
      refine ⟨if N ≤ j then -1 else nI ((viewX gm D tk wk a i).2.1 j), s1, s3, ?_, ?_, h0.view hk a4 b3⟩
      · unfold ab_X12_metAt ab_X12_metAt_50
        rw [seen, vbs, decide_eq_true g, if_neg (show ¬ bI true = 0 by decide), ifc nn, if_pos f, slet, h4.1.P1305, slet, h4.1.P1304, ← nI_z i, a1, vbs, slet, c1.P1305, slet, n4, ifc le]
        by_cases e : N ≤ j
        · rw [if_pos e, if_pos e]
        · rw [if_neg e, if_neg e, slet, ← nI_z j, vl_I_ok (by omega) (by omega), obs, a2.2.2.2.2 j (by omega)]
      · unfold ab_X17_metAt ab_X17_metAt_42 ab_X17_metAt_43
        rw [slet, v1, vbs, if_neg (show ¬ bI true = 0 by decide), ← nI_z i, b1, vbs, ifc (z_neg y1 y2), if_neg (by omega), slet, n5, ifc le]
        by_cases e : N ≤ j
        · rw [if_pos e, if_pos e]
        · rw [if_neg e, if_neg e, ← nI_z j, vl_I_ok (by omega) (by omega), obs, b2.2.2 j (by omega)]
    · obtain ⟨t, ht⟩ : ∃ t, t = vu_I s 1800 (B + 639) 0 := ⟨_, rfl⟩
      have kt : vk [1800] [] [] (fun _ => True) s t := by rw [ht]; exact vk.pI (vk.refl s) (by decide)
      obtain ⟨d1, d2, d3, d4, d5⟩ := h3.2.2 c
      have mt := kt.keep0 (P := rMp2 B gm nm D wk a tk st) (h7 c)
      obtain ⟨s4, e1, e2⟩ := r_viewZ (B := B) (s := t) mt.1 (kt.keep0 (P := rS B) h6.1) mt.2.1 d3 mt.2.2.1 mt.2.2.2.1 d2 mt.2.2.2.2.1 (show i < 64 by omega)
      have k4 : vk vrI vrA [] (fun _ => True) s s4 := (kt.weak (by decide) (by decide) (by decide)).trans (((vk_X17_column (O := fun _ => True) vclT trivial e1).1).weak (by decide) (by decide) (by decide))
      rw [ht] at e1
      refine ⟨-1, s, s4, ?_, ?_, h0.view hk (vk.refl s) k4⟩
      · unfold ab_X12_metAt ab_X12_metAt_12
        rw [seen, vbs, decide_eq_true g, if_neg (show ¬ bI true = 0 by decide), ifc nn, if_neg f]
      · unfold ab_X17_metAt ab_X17_metAt_42 ab_X17_metAt_43
        rw [slet, v s v9, vbs, if_neg (show ¬ bI true = 0 by decide), ← nI_z i, e1, vbs, ifc (z_neg y1 y2), if_pos (by omega)]
  · refine ⟨-1, s, vu_I s 1800 (B + 639) 0, ?_, ?_, h0.v1800 hk⟩
    · unfold ab_X12_metAt ab_X12_metAt_12
      rw [seen, vbs, decide_eq_false g, if_pos (show bI false = 0 from rfl)]
    · have px := r_isPixel (B := B) (s := vu_I s 1800 (B + 639) 0) (mp := mp) (x := x) (y := 0) (by rw [t1800 (by decide)]; exact v9) x1 x2 (by omega) (by omega)
      rw [decide_eq_false (fun z => g ⟨z.1, z.2.1, z.2.2.1⟩)] at px
      have px : ab_X17_isPixel (B + 639) (zI x) 0 (vu_I s 1800 (B + 639) 0) = some (bI false, vu_I s 1800 (B + 639) 0) := px
      unfold ab_X17_metAt
      rw [slet, px, vbs, if_pos (show bI false = 0 from rfl)]
end OP1
