-- obligations: what is seen
section OV1
variable {B : Nat}
def vwI : List Nat := [406, 407, 408, 409, 410, 1004, 1005, 1006, 1007]
def vwA : List Nat := [400, 401, 402, 403, 404, 405, 1001, 1002, 1003]
def vrI : List Nat := [1800, 1815, 1816, 1817, 1818, 1819, 1821, 1823, 1827, 1828]
def vrA : List Nat := [1820, 1822, 1824, 1825, 1826]
theorem Inv.view {k : Nat} {s s1 s3 : vt_S} (h : Inv B k s) (hk : k + 5 ≤ 2560) (k1 : vk vwI vwA [] (fun _ => True) s s1) (k2 : vk vrI vrA [] (fun _ => True) s1 s3) : Inv B (k + 5) s3 := by
  obtain ⟨p, p', R0, R, K, KN, gi, ni, go, no, fa, pl, mp, gm, nm, D, wk, a, tk, I, m, st, h1, h2, h3, h4, h5, h6, h7, h8, h9⟩ := h
  have cl := clO_vk k1 (by decide)
  have rf := rfO_vk k2 (by decide)
  have hr := h6.cl cl
  have tr := h8.cl cl
  have m1 := fun q => (h7 q).cl cl
  have c1 : cIv B p p' R0 R K KN gi ni go no fa pl mp I m s1 := k1.keep0 (P := cIv B p p' R0 R K KN gi ni go no fa pl mp I m) h4
  have c2 := fun q => k1.keep0 (P := cMp B p R0 KN gm nm D wk a tk st) (h5 q)
  have c3 := k1.keep0 (P := rmI B K KN) h9
  exact ⟨p, p', R0, R, K, KN, gi, ni, go, no, fa, pl, mp, gm, nm, D, wk, a, tk, I, m, st, by omega, h2, h3.up, c1.rf rf, fun q => (c2 q).rf rf, k2.keep0 (P := rIv B gi ni go no fa pl mp I m) hr, fun q => k2.keep0 (P := rMp2 B gm nm D wk a tk st) (m1 q), k2.keep0 (P := trQ B gm (wallN mp gm)) tr, c3.rf rf⟩
theorem cMp.all {p R0 KN : Nat} {gm : Nat → Nat} {nm : Nat} {D : Nat → SD} {wk : WK} {a : Nat} {tk : Int32} {st : WS} {s : vt_S} (c1 : cS B s) (h : cMp B p R0 KN gm nm D wk a tk st s) : cAll B p gm nm D wk a tk s := by
  obtain ⟨x1, x2, x3, x4, x5, x6, -⟩ := h
  exact ⟨⟨x1, x2, c1.P1000, c1.L1001, c1.L1002, c1.L1003⟩, x3, x4, x5, x6, c1.P1305, c1.P1304⟩
theorem o_frame : ∀ (k : Nat), k + 5 ≤ 2560 → vb2 (Inv B k) (Inv B (k + 5)) (ab_X12_frameOf B) (ab_X17_frameOf (B + 639)) := by
  intro k hk s h
  have h0 := h
  obtain ⟨p, p', R0, R, K, KN, gi, ni, go, no, fa, pl, mp, gm, nm, D, wk, a, tk, I, m, st, h1, h2, h3, h4, h5, h6, h7, h8, h9⟩ := h
  have m10 := no_map h3 hk
  by_cases c : 0 < mp
  · obtain ⟨d1, d2, d3, d4, d5⟩ := h3.2.2 c
    obtain ⟨s1, a1⟩ := c_frame d2 ((h5 c).all h4.1)
    have e1 : ab_X12_frameOf B s = some (hrL (pxL gm D tk wk a) 3072, s1) := by
      unfold ab_X12_frameOf
      rw [c_isMap h4.2.2.2.2.1.2.2 m10 c, vbs, if_neg (by decide)]
      exact a1
    have k1 : vk vwI vwA [] (fun _ => True) s s1 := (vk_X12_frameOf (O := fun _ => True) vclT trivial e1).1
    have cl := clO_vk k1 (by decide)
    have hr := h6.cl cl
    obtain ⟨t, ht⟩ : ∃ t, t = vu_I s1 1800 (B + 639) 0 := ⟨_, rfl⟩
    have kt : vk [1800] [] [] (fun _ => True) s1 t := by rw [ht]; exact vk.pI (vk.refl s1) (by decide)
    have m1 := (h7 c).cl cl
    have mt := kt.keep0 (P := rMp2 B gm nm D wk a tk st) m1
    obtain ⟨s3, b1⟩ := r_frame (B := B) (s := t) d2 d3 ⟨mt.1, kt.keep0 (P := rS B) hr.1, mt.2.1, mt.2.2.1, mt.2.2.2.1, mt.2.2.2.2.1⟩
    have e2 : ab_X17_frameOf (B + 639) s1 = some (hrL (pxL gm D tk wk a) 3072, s3) := by
      unfold ab_X17_frameOf
      rw [slet, ← ht, slet, mt.1.2.2.2.2.2.2, if_neg (by decide)]
      exact b1
    exact ⟨_, s1, s3, e1, e2, h0.view hk k1 (vk_X17_frameOf (O := fun _ => True) vclT trivial e2).1⟩
  · have e : mp = 0 := by omega
    have n9 := (h6.2.2.2.2 e).1
    have hm := h4.2.2.2.2.1.2.2
    rw [e] at hm
    refine ⟨0, s, vu_I s 1800 (B + 639) 0, ?_, ?_, h0.v1800 hk⟩
    · unfold ab_X12_frameOf
      rw [c_noMap hm, vbs, if_pos rfl]
    · unfold ab_X17_frameOf
      rw [slet, slet, t1800 (by decide), n9, if_pos rfl]
theorem c_isSeen {s : vt_S} {mp : Nat} {x : Int} (hm : vt_I s 1310 B = nI mp) (hmp : mp < 1000) (h1 : -2147483648 ≤ x) (h2 : x ≤ 2147483647) : ab_X12_isSeen B (zI x) s = some (bI (decide (0 < mp ∧ 0 ≤ x ∧ x < 64)), s) := by
  unfold ab_X12_isSeen ab_X12_isSeen_21 ab_X12_isSeen_22
  have le : ((64 : Int32) ≤ zI x) = (64 ≤ x) := by rw [show (64 : Int32) = zI 64 from rfl, zI_le (by omega) (by omega) (by omega) (by omega)]
  by_cases c : 0 < mp
  · rw [c_isMap hm hmp c, vbs, if_neg (by decide), ifc (z_neg h1 h2), ifc le]
    by_cases d : x < 0
    · rw [if_pos d, decide_eq_false (fun z => by omega)]; rfl
    · rw [if_neg d]
      by_cases e : 64 ≤ x
      · rw [if_pos e, decide_eq_false (fun z => by omega)]; rfl
      · rw [if_neg e, decide_eq_true (show 0 < mp ∧ 0 ≤ x ∧ x < 64 by omega)]; rfl
  · have e : mp = 0 := by omega
    rw [e] at hm
    rw [c_noMap hm, vbs, if_pos rfl, decide_eq_false (fun z => c z.1)]; rfl
theorem r_isPixel {s : vt_S} {mp : Nat} {x y : Int} (h9 : vt_I s 1809 (B + 639) = bI (decide (0 < mp))) (h1 : -2147483648 ≤ x) (h2 : x ≤ 2147483647) (h3 : -2147483648 ≤ y) (h4 : y ≤ 2147483647) : ab_X17_isPixel (B + 639) (zI x) (zI y) s = some (bI (decide (0 < mp ∧ 0 ≤ x ∧ x < 64 ∧ 0 ≤ y ∧ y < 48)), s) := by
  unfold ab_X17_isPixel ab_X17_isPixel_31 ab_X17_isPixel_32
  have le : ((64 : Int32) ≤ zI x) = (64 ≤ x) := by rw [show (64 : Int32) = zI 64 from rfl, zI_le (by omega) (by omega) (by omega) (by omega)]
  have le2 : ((48 : Int32) ≤ zI y) = (48 ≤ y) := by rw [show (48 : Int32) = zI 48 from rfl, zI_le (by omega) (by omega) (by omega) (by omega)]
  rw [slet, h9]
  by_cases c : 0 < mp
  · rw [decide_eq_true c, if_neg (show ¬ bI true = 0 by decide), ifc (z_neg h1 h2), ifc le, ifc (z_neg h3 h4), ifc le2]
    by_cases d : x < 0
    · rw [if_pos d, decide_eq_false (fun z => by omega)]; rfl
    rw [if_neg d]
    by_cases e : 64 ≤ x
    · rw [if_pos e, decide_eq_false (fun z => by omega)]; rfl
    rw [if_neg e]
    by_cases d2 : y < 0
    · rw [if_pos d2, decide_eq_false (fun z => by omega)]; rfl
    rw [if_neg d2]
    by_cases e2 : 48 ≤ y
    · rw [if_pos e2, decide_eq_false (fun z => by omega)]; rfl
    · rw [if_neg e2, decide_eq_true (show 0 < mp ∧ 0 ≤ x ∧ x < 64 ∧ 0 ≤ y ∧ y < 48 by omega)]; rfl
  · rw [decide_eq_false c, if_pos (show bI false = 0 from rfl), decide_eq_false (fun z => c z.1)]; rfl
/-- a column is looked at by both -/
theorem o_col {k : Nat} {s : vt_S} {p p' R0 R K KN : Nat} {gi : Nat → Nat} {ni : Nat} {go : Nat → Nat} {no : Nat} {fa pl : Int32} {mp : Nat} {gm : Nat → Nat} {nm : Nat} {D : Nat → SD} {wk : WK} {a : Nat} {tk : Int32} {I : Nat → IN} {m : Nat} {st : WS} (c : 0 < mp) (h3 : dOk k mp gm nm D wk a m st) (h4 : cIv B p p' R0 R K KN gi ni go no fa pl mp I m s) (h5 : 0 < mp → cMp B p R0 KN gm nm D wk a tk st s) (h6 : rIv B gi ni go no fa pl mp I m s) (h7 : 0 < mp → rMp2 B gm nm D wk a tk st s) {x : Nat} (hx : x < 64) : ∃ s1 s3, ab_X9_look (B + 629) (B + 628) (nI x) s = some ((), s1) ∧ cX B s1 (viewX gm D tk wk a x) ∧ (viewX gm D tk wk a x).2.2 ≤ 128 ∧ vk vwI vwA [] (fun _ => True) s s1 ∧ vt_I s1 1809 (B + 639) = 1 ∧ ab_X17_column (B + 639) (nI x) (vu_I s1 1800 (B + 639) 0) = some ((), s3) ∧ rX B s3 (viewX gm D tk wk a x) ∧ vk vrI vrA [] (fun _ => True) s1 s3 ∧ cS B s1 ∧ rS B s3 := by
  obtain ⟨d1, d2, d3, d4, d5⟩ := h3.2.2 c
  obtain ⟨q1, q2, q3, q4, q5, -⟩ := (h5 c).all h4.1
  obtain ⟨s1, a1, a2, a3⟩ := c_viewZ q1 q2 q3 q4 d2 q5 hx
  have k1 : vk vwI vwA [] (fun _ => True) s s1 := ((vk_X9_look (O := fun _ => True) vclT trivial trivial a1).1).weak (by decide) (by decide) (by decide)
  have cl := clO_vk k1 (by decide)
  have hr := h6.cl cl
  have m1 := (h7 c).cl cl
  obtain ⟨t, ht⟩ : ∃ t, t = vu_I s1 1800 (B + 639) 0 := ⟨_, rfl⟩
  have kt : vk [1800] [] [] (fun _ => True) s1 t := by rw [ht]; exact vk.pI (vk.refl s1) (by decide)
  have mt := kt.keep0 (P := rMp2 B gm nm D wk a tk st) m1
  obtain ⟨s3, b1, b2⟩ := r_viewZ (B := B) (s := t) mt.1 (kt.keep0 (P := rS B) hr.1) mt.2.1 d3 mt.2.2.1 mt.2.2.2.1 d2 mt.2.2.2.2.1 hx
  have k2 : vk vrI vrA [] (fun _ => True) s1 s3 := (kt.weak (by decide) (by decide) (by decide)).trans (((vk_X17_column (O := fun _ => True) vclT trivial b1).1).weak (by decide) (by decide) (by decide))
  rw [ht] at b1
  exact ⟨s1, s3, a1, a2, a3, k1, m1.1.2.2.2.2.2.2, b1, b2, k2, k1.keep0 (P := cS B) h4.1, k2.keep0 (P := rS B) hr.1⟩
end OV1
