-- obligations: playTo
section OPL
variable {B : Nat}
def wlI : List Nat := [406, 407, 408, 409, 410, 707, 708, 709, 710, 711, 712, 713, 1101, 1102, 1103, 1104, 1105, 1106]
def wlA : List Nat := [400, 401, 402, 403, 404, 405]
def wqI : List Nat := [1415, 1416, 1417, 1800, 1811, 1812, 1813, 1814, 1815, 1816, 1817, 1818, 1819, 1821, 1827, 1828]
def wqA : List Nat := [1408, 1409, 1410, 1411, 1412, 1413, 1414, 1820]
theorem Inv.walk {k : Nat} {s s1 s3 : vt_S} {p p' R0 R K KN : Nat} {gi : Nat → Nat} {ni : Nat} {go : Nat → Nat} {no : Nat} {fa pl : Int32} {mp : Nat} {gm : Nat → Nat} {nm : Nat} {D E : Nat → SD} {wk w1 : WK} {a a1 : Nat} {tk t1 : Int32} {I : Nat → IN} {m : Nat} {st : WS} (hk : k + 5 ≤ 2560) (c : 0 < mp) (h2 : adr B p p' R0 R) (h3 : dOk k mp gm nm D wk a m st) (h4 : cIv B p p' R0 R K KN gi ni go no fa pl mp I m s) (h5 : 0 < mp → cMp B p R0 KN gm nm D wk a tk st s) (h6 : rIv B gi ni go no fa pl mp I m s) (h7 : 0 < mp → rMp2 B gm nm D wk a tk st s) (h8 : trQ B gm (wallN mp gm) s) (h9 : rmI B K KN s) (k1 : vk wlI wlA [] (fun _ => True) s s1) (k2 : vk wqI wqA [] (fun _ => True) s1 s3) (x : cWk B p gm nm s1 ∧ secsC s1 p (gm 5) E ∧ wkC B s1 w1 ∧ vt_I s1 1104 (B + 628) = nI a1 ∧ vt_I s1 1106 (B + 628) = t1) (y : rWk B gm nm s3 ∧ secsR s3 (B + 656) (gm 5) E ∧ wkR B s3 w1 ∧ vt_I s3 1813 (B + 639) = nI a1 ∧ hTk B s3 = t1) (ok : wkOk gm w1 a1 ∧ ∀ j, j < gm 5 → sdOk (E j)) : Inv B (k + 5) s3 := by
  have cl := clO_vk k1 (by decide)
  have rf := rfO_vk k2 (by decide)
  have hr := h6.cl cl
  have tr := h8.cl cl
  have m1 := (h7 c).cl cl
  obtain ⟨d1, d2, d3⟩ := h3
  obtain ⟨e1, e2, e3, e4, e5⟩ := d3 c
  obtain ⟨x1, x2, x3, x4, x5⟩ := x
  obtain ⟨y1, y2, y3, y4, y5⟩ := y
  have c1 : cIv B p p' R0 R K KN gi ni go no fa pl mp I m s1 := k1.keep0 (P := cIv B p p' R0 R K KN gi ni go no fa pl mp I m) h4
  obtain ⟨-, z2, -, -, -, -, z7, z8⟩ := h5 c
  have c2 : cMp B p R0 KN gm nm E w1 a1 t1 st s1 := ⟨x1, k1.keep0 (P := fun t => rowC t (p + 1) gm nm) z2, x2, x3, x4, x5, k1.keep0 (P := fun t => stC t (R0 + 1) st) z7, k1.keep0 (P := fun t => (vt_I t 911 (B + 6) = nI (trN gm (gm 6)).length ∧ vt_I t 913 (B + 6) = nI (gm 6 + bcut gm 128 (l00 (gm 6))) ∧ (∀ j, j < (trN gm (gm 6)).length → ndC B t j (trD gm (gm 6) j)) ∧ szC B gm (gm 6) t) ∧ (trN gm (gm 6)).length ≤ KN) z8⟩
  have c3 := k1.keep0 (P := rmI B K KN) h9
  exact ⟨p, p', R0, R, K, KN, gi, ni, go, no, fa, pl, mp, gm, nm, E, w1, a1, t1, I, m, st, by omega, h2, ⟨by omega, d2, fun _ => ⟨e1, ok.1, ok.2, e4, e5⟩⟩, c1.rf rf, fun _ => c2.rf rf, k2.keep0 (P := rIv B gi ni go no fa pl mp I m) hr, fun _ => ⟨y1, y2, y3, y4, y5, k2.keep0 (P := fun t => stR B t st) m1.2.2.2.2.2⟩, k2.keep0 (P := trQ B gm (wallN mp gm)) tr, c3.rf rf⟩
theorem st_wk {gm : Nat → Nat} {st : WS} (h : stOk st) (h5 : st.2.2.2 < gm 5) : wkOk gm (st.1, st.2.1, st.2.2.2) st.2.2.1 := by
  obtain ⟨⟨a1, a2⟩, ⟨b1, b2⟩, c1, -⟩ := h
  exact ⟨⟨by show -40000 ≤ st.1; omega, by show st.1 ≤ 40000; omega⟩, ⟨by show -40000 ≤ st.2.1; omega, by show st.2.1 ≤ 40000; omega⟩, h5, c1⟩
theorem o_play : ∀ (k : Nat), k + 5 ≤ 2560 → ∀ (x : Int32), vb2 (Inv B k) (Inv B (k + 5)) (ab_X12_playTo B x) (ab_X17_playTo (B + 639) x) := by
  intro k hk x s h
  have h0 := h
  obtain ⟨x, rfl, x1, x2⟩ := zI_ex x
  obtain ⟨p, p', R0, R, K, KN, gi, ni, go, no, fa, pl, mp, gm, nm, D, wk, a, tk, I, m, st, h1, h2, h3, h4, h5, h6, h7, h8, h9⟩ := h
  have m10 := no_map h3 hk
  obtain ⟨c1, c2, c6, c7, c8, ⟨u1, u2⟩, t1⟩ := id h4
  have m4 := u1.2.1
  have le : (zI x ≤ nI m) = (x ≤ (m : Int)) := by rw [nI_z, zI_le (by omega) (by omega) (by omega) (by omega)]
  by_cases c : 0 < mp
  · obtain ⟨d1, d2, d3, d4, d5⟩ := h3.2.2 c
    have v9 := (h7 c).1.2.2.2.2.2.2
    by_cases g : 0 ≤ x ∧ x ≤ m
    · obtain ⟨j, rfl⟩ : ∃ j : Nat, x = (j : Int) := ⟨x.toNat, by omega⟩
      obtain ⟨q1, q2, q3, q4, q5, q6, q7, -⟩ := h5 c
      obtain ⟨s1, a1, a2, a3, a4, a5, a6⟩ := c_begin (q := R0 + 1) q1.again q7
      have kb := (vk_X10_begin (O := fun _ => True) vclT trivial trivial trivial a1).1
      obtain ⟨s2, w1, e1, E1, n1, b1, b2, b3, b4, b5, b6, b7, b8, b9⟩ := c_play_loop (B := B) (R := R0) (I := I) (m := m) (p := p) (g := gm) (n := nm) (N := j) (by omega) j 0 sv_fuel s1 (st.1, st.2.1, st.2.2.2) st.2.2.1 (rest0 gm) 0 (by omega) (Nat.lt_of_lt_of_le (show j < 20000 by omega) (Nat.le_of_lt (fuel_ge (by omega)))) (kb.keep0 (P := fun t => vt_P t 1304 B = B + 628) c1.P1304) (kb.keep0 (P := fun t => vt_P t 1308 B = R0) c6.1) (kb.keep0 (P := fun t => runC t R0 I m) u1) a2 a3 (fun _ _ => rest0_ok) a4 a5 (st_wk d4 d5)
      have eC : ab_X12_playTo B (zI (j : Int)) s = some (nI n1, s2) := by
        unfold ab_X12_playTo
        rw [c_isMap c8.2.2 m10 c, vbs, if_neg (by decide), ifc (z_neg x1 x2), if_neg (by omega), slet, c6.1, slet, u1.1, ifc le, if_pos g.2, slet, c1.P1304, slet, c2.2.2.1, slet, slet, c6.2.2.1, a1, vbs, ← nI_z]
        exact b1
      have k1 : vk wlI wlA [] (fun _ => True) s s2 := (vk_X12_playTo (O := fun _ => True) vclT trivial eC).1
      have cl := clO_vk k1 (by decide)
      have hr := h6.cl cl
      have m1 := (h7 c).cl cl
      obtain ⟨t, ht⟩ : ∃ t, t = vu_I s2 1800 (B + 639) 0 := ⟨_, rfl⟩
      have kt : vk [1800] [] [] (fun _ => True) s2 t := by rw [ht]; exact vk.pI (vk.refl s2) (by decide)
      have mt := kt.keep0 (P := rMp2 B gm nm D wk a tk st) m1
      have St := kt.keep0 (P := rS B) hr.1
      have rt : runR B t I m := kt.keep0 (P := fun u => runR B u I m) hr.2.2.2.1
      obtain ⟨s3, f1, f2, f3, f4, f5, f6⟩ := r_begun (st := st) mt.1 St.P1802 St.L1600 mt.2.2.2.2.2
      have kr := (vk_X17_begin (O := fun _ => True) vclT trivial f1).1
      obtain ⟨s4, w2, e2, E2, n2, g1, g2, g3, g4, g5, g6, g7, g8, g9⟩ := r_play_loop (B := B) (I := I) (m := m) (g := gm) (n := nm) (N := j) (by omega) j 0 sv_fuel s3 (st.1, st.2.1, st.2.2.2) st.2.2.1 (rest0 gm) 0 (by omega) (Nat.lt_of_lt_of_le (show j < 20000 by omega) (Nat.le_of_lt (fuel_ge (by omega)))) (kr.keep0 (P := fun t => vt_P t 1802 (B + 639) = B + 643) St.P1802) (kr.keep0 (P := fun t => runR B t I m) rt) f2 f3 (fun _ _ => rest0_ok) f4 f5 (st_wk d4 d5)
      obtain ⟨i1, i2, i3, i4⟩ := plS.uniq _ _ _ _ _ _ _ _ _ _ _ _ _ _ b9 g9
      rw [i1] at g5 g8
      rw [i2] at g6 g8
      rw [i3] at g3 g4
      rw [i4] at g1
      have eR : ab_X17_playTo (B + 639) (zI (j : Int)) s2 = some (nI n1, s4) := by
        unfold ab_X17_playTo
        rw [slet, ← ht, slet, mt.1.2.2.2.2.2.2, if_neg (by decide), ifc (z_neg x1 x2), if_neg (by omega), slet, St.P1802, slet, rt.1, ifc le, if_pos g.2, f1, vbs, ← nI_z]
        exact g1
      have k2 : vk wqI wqA [] (fun _ => True) s2 s4 := (vk_X17_playTo (O := fun _ => True) vclT trivial eR).1
      exact ⟨nI n1, s2, s4, eC, eR, Inv.walk hk c h2 h3 h4 h5 h6 h7 h8 h9 k1 k2 ⟨b2, b3, b5, b6, by rw [b7, a6]⟩ ⟨g2, g3, g5, g6, by rw [g7, f6]⟩ ⟨b8, b4⟩⟩
    · obtain ⟨t, ht⟩ : ∃ t, t = vu_I s 1800 (B + 639) 0 := ⟨_, rfl⟩
      have kt : vk [1800] [] [] (fun _ => True) s t := by rw [ht]; exact vk.pI (vk.refl s) (by decide)
      have St := kt.keep0 (P := rS B) h6.1
      have rt : runR B t I m := kt.keep0 (P := fun u => runR B u I m) h6.2.2.2.1
      refine ⟨-1, s, t, ?_, ?_, by rw [ht]; exact h0.v1800 hk⟩
      · unfold ab_X12_playTo ab_X12_playTo_22
        rw [c_isMap c8.2.2 m10 c, vbs, if_neg (by decide), ifc (z_neg x1 x2), slet, c6.1, slet, u1.1, ifc le]
        by_cases e : x < 0
        · rw [if_pos e]
        · rw [if_neg e, if_neg (by omega)]
      · unfold ab_X17_playTo ab_X17_playTo_27
        rw [slet, ← ht, slet, kt.eI (by decide), v9, if_neg (by decide), ifc (z_neg x1 x2), slet, St.P1802, slet, rt.1, ifc le]
        by_cases e : x < 0
        · rw [if_pos e]
        · rw [if_neg e, if_neg (by omega)]
  · have e : mp = 0 := by omega
    have n9 := (h6.2.2.2.2 e).1
    have hm := c8.2.2
    rw [e] at hm
    refine ⟨-1, s, vu_I s 1800 (B + 639) 0, ?_, ?_, h0.v1800 hk⟩
    · unfold ab_X12_playTo ab_X12_playTo_22
      rw [c_noMap hm, vbs, if_pos rfl]
    · unfold ab_X17_playTo ab_X17_playTo_27
      rw [slet, slet, t1800 (by decide), n9, if_pos rfl]
end OPL
