-- obligations: maps and runs as bytes; leaves, nodes
section OS1
variable {B p p' R0 R K KN ni no mp m nm a : Nat} {gi go gm : Nat → Nat} {fa pl tk : Int32} {I : Nat → IN} {D : Nat → SD} {wk : WK} {st : WS} {s s1 : vt_S}
theorem rIv.out1 {g1 : Nat → Nat} {n1 : Nat} (h : rIv B gi ni go no fa pl mp I m s) (k : vk [1607, 1619, 1620, 1800, 1806] [1606, 1805] [] (fun _ => True) s s1) (hr : rOut B s1 g1 n1) : rIv B gi ni g1 n1 fa pl mp I m s1 := by
  obtain ⟨c1, ⟨c2, c3⟩, c4, c5, c6⟩ := h
  exact ⟨k.keep0 (P := rS B) c1, ⟨k.keep0 (P := fun t => rIn B t gi ni) c2, hr⟩, k.keep0 (P := fun t => vt_I t 1807 (B + 639) = fa ∧ vt_I t 1808 (B + 639) = pl ∧ vt_I t 1810 (B + 639) = nI mp) c4, k.keep0 (P := fun t => runR B t I m) c5, k.keep0 (P := fun t => mp = 0 → vt_I t 1809 (B + 639) = 0 ∧ vt_I t 1400 (B + 656) = nI 0) c6⟩
theorem no_map {k : Nat} (h : dOk k mp gm nm D wk a m st) (hk : k + 5 ≤ 2560) : mp < 1000 := by have := h.1; omega
theorem c_noMap (hm : vt_I s 1310 B = nI 0) : ab_X12_hasMap B s = some (0, s) := c_hasMap (mp := 0) hm (by omega)
theorem c_isMap (hm : vt_I s 1310 B = nI mp) (hmp : mp < 1000) (h0 : 0 < mp) : ab_X12_hasMap B s = some (1, s) := by
  rw [c_hasMap hm hmp, decide_eq_true h0]; rfl
theorem t1800 {v : Int32} {f : Nat} (h : f ≠ 1800) : vt_I (vu_I s 1800 (B + 639) v) f (B + 639) = vt_I s f (B + 639) := I_ne (fun z => h z.1)
theorem o_saveMap : ∀ (k : Nat), k + 5 ≤ 2560 → vb2 (Inv B k) (Inv B (k + 5)) (ab_X12_saveMap B) (ab_X17_saveMap (B + 639)) := by
  intro k hk s h
  have h0 := h
  obtain ⟨p, p', R0, R, K, KN, gi, ni, go, no, fa, pl, mp, gm, nm, D, wk, a, tk, I, m, st, h1, h2, h3, h4, h5, h6, h7, h8, h9⟩ := h
  have m10 := no_map h3 hk
  by_cases c : 0 < mp
  · have cm := h5 c
    have hpp : p = B + 23 ∨ p = B + 322 := by have := h2.1; omega
    obtain ⟨s1, a1, a2, a3⟩ := c_saveMap h4.2.2.2.2.1.2.2 m10 c h4.1.P1301 h4.2.1.2.2.1 hpp h4.2.1.1.1 cm.2.1 h4.2.2.2.1.2.1
    have k1 := (vk_X12_saveMap (O := fun _ => True) vclT trivial a1).1
    have cl := clO_vk k1 (by decide)
    have hr := h6.cl cl
    have t1 := h8.cl cl
    have m1 := fun q => (h7 q).cl cl
    have rw1 := (m1 c).1
    obtain ⟨s3, b1, b2, b3⟩ := r_saveMap (B := B) (g := gm) (n := nm) (s := s1) ⟨hr.1, rw1.1, rw1.2.2.2.2.2.2⟩
    have k2 : vk [1607, 1619, 1620, 1800, 1806] [1606, 1805] [] (fun _ => True) s1 s3 := b3.weak (by decide) (by decide) (by decide)
    have rf := rfO_vk k2 (by decide)
    have hp : p + 1 ≠ B + 3 := by omega
    exact ⟨_, s1, s3, a1, b1, p, p', R0, R, K, KN, gi, ni, gm, nm, fa, pl, mp, gm, nm, D, wk, a, tk, I, m, st, by omega, h2, h3.up, (h4.row3 h2 k1 a2 a3).rf rf, fun q => ((h5 q).row k1 a2 hp).rf rf, hr.out1 k2 b2, fun q => k2.keep0 (P := rMp2 B gm nm D wk a tk st) (m1 q), k2.keep0 (P := trQ B gm (wallN mp gm)) t1, (h9.row a2 (Or.inr rfl)).rf rf⟩
  · have e : mp = 0 := by omega
    have n9 := (h6.2.2.2.2 e).1
    have hm := h4.2.2.2.2.1.2.2
    rw [e] at hm
    refine ⟨-1, s, vu_I s 1800 (B + 639) 0, ?_, ?_, h0.v1800 hk⟩
    · unfold ab_X12_saveMap
      rw [c_noMap hm, vbs, if_pos rfl]
    · unfold ab_X17_saveMap
      rw [slet, slet, t1800 (by decide), n9, if_pos rfl]
theorem o_saveDemo : ∀ (k : Nat), k + 5 ≤ 2560 → vb2 (Inv B k) (Inv B (k + 5)) (ab_X12_saveDemo B) (ab_X17_saveDemo (B + 639)) := by
  intro k hk s h
  have h0 := h
  obtain ⟨p, p', R0, R, K, KN, gi, ni, go, no, fa, pl, mp, gm, nm, D, wk, a, tk, I, m, st, h1, h2, h3, h4, h5, h6, h7, h8, h9⟩ := h
  have m10 := no_map h3 hk
  by_cases c : 0 < mp
  · have cm := h5 c
    obtain ⟨d1, d2, d3, d4, d5⟩ := h3.2.2 c
    obtain ⟨s1, a1, a2, a3⟩ := c_write (st := st) h4.2.2.2.2.2.1.1 h4.2.2.1.2.2.1 cm.2.2.2.2.2.2.1 d4 h4.2.2.2.1.2.1
    have e1 : ab_X12_saveDemo B s = some (nI (fin4 (stL st ++ cl I m m 0 0)).length, s1) := by
      unfold ab_X12_saveDemo
      rw [c_isMap h4.2.2.2.2.1.2.2 m10 c, vbs, if_neg (by decide), slet, h4.2.2.1.1, slet, h4.1.P1301, a1, vbs, slet, a2.P, h4.1.P1301, slet, a3.1]
    have k1 := (vk_X12_saveDemo (O := fun _ => True) vclT trivial e1).1
    have cl1 := clO_vk k1 (by decide)
    have hr := h6.cl cl1
    have t1 := h8.cl cl1
    have m1 := fun q => (h7 q).cl cl1
    have rw1 := (m1 c)
    obtain ⟨s3, b1, b2⟩ := r_save (B := B) (s := s1) rw1.1.2.2.2.2.2.2 hr.1 hr.2.2.2.1 rw1.2.2.2.2.2 d4
    have k2 := (vk_X17_saveDemo (O := fun _ => True) vclT trivial b1).1
    have rf := rfO_vk k2 (by decide)
    have hp : p + 1 ≠ B + 3 := by have := h2.1; omega
    exact ⟨_, s1, s3, e1, b1, p, p', R0, R, K, KN, gi, ni, _, _, fa, pl, mp, gm, nm, D, wk, a, tk, I, m, st, by omega, h2, h3.up, (h4.row3 h2 k1 a2 a3).rf rf, fun q => ((h5 q).row k1 a2 hp).rf rf, hr.out1 k2 b2, fun q => k2.keep0 (P := rMp2 B gm nm D wk a tk st) (m1 q), k2.keep0 (P := trQ B gm (wallN mp gm)) t1, (h9.row a2 (Or.inr rfl)).rf rf⟩
  · have e : mp = 0 := by omega
    have n9 := (h6.2.2.2.2 e).1
    have hm := h4.2.2.2.2.1.2.2
    rw [e] at hm
    refine ⟨-1, s, vu_I s 1800 (B + 639) 0, ?_, ?_, h0.v1800 hk⟩
    · unfold ab_X12_saveDemo
      rw [c_noMap hm, vbs, if_pos rfl]
    · unfold ab_X17_saveDemo
      rw [slet, slet, t1800 (by decide), n9, if_pos rfl]
/-- where only the reference's tree was worked on -/
theorem Inv.tree {k : Nat} {s2 : vt_S} (hk : k + 5 ≤ 2560) (h : ∃ p p' R0 R K KN gi ni go no fa pl mp gm nm D wk a tk I m st, 0 ≤ k ∧ adr B p p' R0 R ∧ dOk k mp gm nm D wk a m st ∧ cIv B p p' R0 R K KN gi ni go no fa pl mp I m s ∧ (0 < mp → cMp B p R0 KN gm nm D wk a tk st s) ∧ rIv B gi ni go no fa pl mp I m s ∧ (0 < mp → rMp2 B gm nm D wk a tk st s) ∧ trQ B gm (wallN mp gm) s2 ∧ rmI B K KN s) (k2 : vk (1705 :: 1800 :: rnI) rnA [] (fun _ => True) s s2) : Inv B (k + 5) s2 := by
  obtain ⟨p, p', R0, R, K, KN, gi, ni, go, no, fa, pl, mp, gm, nm, D, wk, a, tk, I, m, st, h1, h2, h3, h4, h5, h6, h7, h8, h9⟩ := h
  have rf := rfO_vk k2 (by decide)
  exact ⟨p, p', R0, R, K, KN, gi, ni, go, no, fa, pl, mp, gm, nm, D, wk, a, tk, I, m, st, by omega, h2, h3.up, h4.rf rf, fun q => (h5 q).rf rf, k2.keep0 (P := rIv B gi ni go no fa pl mp I m) h6, fun q => k2.keep0 (P := rMp2 B gm nm D wk a tk st) (h7 q), h8, h9.rf rf⟩
theorem o_leaf : ∀ (k : Nat), k + 5 ≤ 2560 → ∀ (x y : Int32), vb2 (Inv B k) (Inv B (k + 5)) (ab_X12_leafOf B x y) (ab_X17_leafOf (B + 639) x y) := by
  intro k hk x y s h
  have h0 := h
  obtain ⟨x, rfl, x1, x2⟩ := zI_ex x
  obtain ⟨y, rfl, y1, y2⟩ := zI_ex y
  obtain ⟨p, p', R0, R, K, KN, gi, ni, go, no, fa, pl, mp, gm, nm, D, wk, a, tk, I, m, st, h1, h2, h3, h4, h5, h6, h7, h8, h9⟩ := h
  have m10 := no_map h3 hk
  by_cases c : 0 < mp
  · have cm := h5 c
    have ew : wallN mp gm = gm 6 := if_pos c
    rw [ew] at h8
    have cT : cTw B p gm (gm 6) s := ⟨h4.2.1.1, ⟨cm.1.2.2.2.2.2.1.1.2.2.2, (cm.1.2.2.2.2.2.2.S).2.1, cm.1.2.2.2.2.2.1.2.2.2.2.1⟩, h4.1.P900⟩
    have e1 := c_leafOf x1 x2 y1 y2 h4.2.2.2.2.1.2.2 m10 c h4.1.P1303 h4.2.1.2.2.1 h8.1 cT cm.K.1 h4.2.2.2.2.2.2.2.2 cm.2.2.2.2.2.2.2.2
    obtain ⟨t, ht⟩ : ∃ t, t = vu_I s 1800 (B + 639) 0 := ⟨_, rfl⟩
    have kt : vk [1800] [] [] (fun _ => True) s t := by rw [ht]; exact vk.pI (vk.refl s) (by decide)
    obtain ⟨s3, b1, b2, b3⟩ := r_leaf x1 x2 y1 y2 (trQ_K.mp (kt.keep0 (P := trQ B gm (gm 6)) h8))
    have k2 : vk (1705 :: 1800 :: rnI) rnA [] (fun _ => True) s s3 := (kt.weak (by decide) (by decide) (by decide)).trans (b3.weak (by decide) (by decide) (by decide))
    refine ⟨_, s, s3, e1, ?_, Inv.tree hk ⟨p, p', R0, R, K, KN, gi, ni, go, no, fa, pl, mp, gm, nm, D, wk, a, tk, I, m, st, h1, h2, h3, h4, h5, h6, h7, by rw [ew]; exact trQ_K.mpr b2, h9⟩ k2⟩
    unfold ab_X17_leafOf ab_X17_leafOf_25
    rw [slet, ← ht, slet, kt.eI (by decide), (h7 c).1.2.2.2.2.2.2, if_neg (by decide), slet, (kt.keep0 (P := rS B) h6.1).P1804, b1, vbs]
  · have e : mp = 0 := by omega
    have n9 := (h6.2.2.2.2 e).1
    have hm := h4.2.2.2.2.1.2.2
    rw [e] at hm
    refine ⟨-1, s, vu_I s 1800 (B + 639) 0, ?_, ?_, h0.v1800 hk⟩
    · unfold ab_X12_leafOf ab_X12_leafOf_15
      rw [c_noMap hm, vbs, if_pos rfl]
    · unfold ab_X17_leafOf ab_X17_leafOf_25
      rw [slet, slet, t1800 (by decide), n9, if_pos rfl]
theorem o_node : ∀ (k : Nat), k + 5 ≤ 2560 → ∀ (x y : Int32), vb2 (Inv B k) (Inv B (k + 5)) (ab_X12_nodeOf B x y) (ab_X17_nodeOf (B + 639) x y) := by
  intro k hk x y s h
  have h0 := h
  obtain ⟨x, rfl, x1, x2⟩ := zI_ex x
  obtain ⟨p, p', R0, R, K, KN, gi, ni, go, no, fa, pl, mp, gm, nm, D, wk, a, tk, I, m, st, h1, h2, h3, h4, h5, h6, h7, h8, h9⟩ := h
  have m10 := no_map h3 hk
  by_cases c : 0 < mp
  · have cm := h5 c
    have ew : wallN mp gm = gm 6 := if_pos c
    rw [ew] at h8
    have e1 := c_nodeOf (x2 := y) x1 x2 h4.2.2.2.2.1.2.2 m10 c h4.1.P1303 h8.1 cm.K h4.2.2.2.2.2.2.2.2 cm.2.2.2.2.2.2.2.2
    obtain ⟨t, ht⟩ : ∃ t, t = vu_I s 1800 (B + 639) 0 := ⟨_, rfl⟩
    have kt : vk [1800] [] [] (fun _ => True) s t := by rw [ht]; exact vk.pI (vk.refl s) (by decide)
    obtain ⟨s3, b1, b2, b3⟩ := r_node (x2 := y) x1 x2 (trQ_K.mp (kt.keep0 (P := trQ B gm (gm 6)) h8))
    have k2 : vk (1705 :: 1800 :: rnI) rnA [] (fun _ => True) s s3 := (kt.weak (by decide) (by decide) (by decide)).trans (b3.weak (by decide) (by decide) (by decide))
    refine ⟨_, s, s3, e1, ?_, Inv.tree hk ⟨p, p', R0, R, K, KN, gi, ni, go, no, fa, pl, mp, gm, nm, D, wk, a, tk, I, m, st, h1, h2, h3, h4, h5, h6, h7, by rw [ew]; exact trQ_K.mpr b2, h9⟩ k2⟩
    unfold ab_X17_nodeOf ab_X17_nodeOf_25
    rw [slet, ← ht, slet, kt.eI (by decide), (h7 c).1.2.2.2.2.2.2, if_neg (by decide), slet, (kt.keep0 (P := rS B) h6.1).P1804, b1, vbs]
  · have e : mp = 0 := by omega
    have n9 := (h6.2.2.2.2 e).1
    have hm := h4.2.2.2.2.1.2.2
    rw [e] at hm
    refine ⟨-1, s, vu_I s 1800 (B + 639) 0, ?_, ?_, h0.v1800 hk⟩
    · unfold ab_X12_nodeOf ab_X12_nodeOf_22
      rw [c_noMap hm, vbs, if_pos rfl]
    · unfold ab_X17_nodeOf ab_X17_nodeOf_25
      rw [slet, slet, t1800 (by decide), n9, if_pos rfl]
end OS1
