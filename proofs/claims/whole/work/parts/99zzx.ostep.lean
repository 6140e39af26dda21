-- obligation: stepBy
section OST
variable {B : Nat}
theorem r_stepNo {s : vt_S} {i : IN} (h1 : i32 i.1) (h2 : i32 i.2.1) (h3 : i32 i.2.2.1) (hn : ¬ inOk i) (h9 : vt_I (vu_I s 1800 (B + 639) 0) 1809 (B + 639) = 1) : ab_X17_stepBy (B + 639) (zI i.1) (zI i.2.1) (zI i.2.2.1) (bI i.2.2.2) s = some (-1, vu_I s 1800 (B + 639) 0) := by
  unfold ab_X17_stepBy ab_X17_stepBy_43 ab_X17_stepBy_44 ab_X17_stepBy_64
  rw [slet, slet, h9, if_neg (show ¬ (1 : Int32) = 0 by decide), show (64 : Int32) = zI 64 from rfl, show (16 : Int32) = zI 16 from rfl, r_isIn h1 (by omega) (by omega), vbs]
  by_cases c : -64 ≤ i.1 ∧ i.1 ≤ 64
  · rw [decide_eq_true c, if_neg (show ¬ bI true = 0 by decide), r_isIn h2 (by omega) (by omega), vbs]
    by_cases d : -64 ≤ i.2.1 ∧ i.2.1 ≤ 64
    · rw [decide_eq_true d, if_neg (show ¬ bI true = 0 by decide), r_isIn h3 (by omega) (by omega), vbs]
      by_cases e : -16 ≤ i.2.2.1 ∧ i.2.2.1 ≤ 16
      · exact absurd ⟨c, d, e⟩ hn
      · rw [decide_eq_false e, if_pos (show bI false = 0 from rfl), if_pos rfl]
    · rw [decide_eq_false d, if_pos (show bI false = 0 from rfl), if_pos rfl]
  · rw [decide_eq_false c, if_pos (show bI false = 0 from rfl), if_pos rfl]
theorem r_stepYes {s : vt_S} {i : IN} (hi : inOk i) (h9 : vt_I (vu_I s 1800 (B + 639) 0) 1809 (B + 639) = 1) : ab_X17_stepBy (B + 639) (zI i.1) (zI i.2.1) (zI i.2.2.1) (bI i.2.2.2) s = vt_b (ab_X17_go (B + 639) (zI i.1) (zI i.2.1) (zI i.2.2.1) (bI i.2.2.2) (vu_I s 1800 (B + 639) 0)) fun r1 h2 => some (r1, h2) := by
  obtain ⟨a1, a2, a3⟩ := hi
  unfold ab_X17_stepBy ab_X17_stepBy_44 ab_X17_stepBy_64
  rw [slet, slet, h9, if_neg (show ¬ (1 : Int32) = 0 by decide), show (64 : Int32) = zI 64 from rfl, show (16 : Int32) = zI 16 from rfl, r_isIn ⟨by omega, by omega⟩ (by omega) (by omega), vbs, decide_eq_true a1, if_neg (show ¬ bI true = 0 by decide), r_isIn ⟨by omega, by omega⟩ (by omega) (by omega), vbs, decide_eq_true a2, if_neg (show ¬ bI true = 0 by decide), r_isIn ⟨by omega, by omega⟩ (by omega) (by omega), vbs, decide_eq_true a3, if_neg (show ¬ bI true = 0 by decide), if_neg (show ¬ (1 : Int32) = 0 by decide)]
theorem o_step : ∀ (k : Nat), k + 5 ≤ 2560 → ∀ (x y z d : Int32) (hd : d = 0 ∨ d = 1), vb2 (Inv B k) (Inv B (k + 5)) (ab_X12_stepBy B x y z d) (ab_X17_stepBy (B + 639) x y z d) := by
  intro k hk x y z d hd s h
  have h0 := h
  obtain ⟨x, rfl, x1, x2⟩ := zI_ex x
  obtain ⟨y, rfl, y1, y2⟩ := zI_ex y
  obtain ⟨z, rfl, z1, z2⟩ := zI_ex z
  obtain ⟨b, rfl⟩ : ∃ b : Bool, d = bI b := by
    rcases hd with e | e
    · exact ⟨false, e⟩
    · exact ⟨true, e⟩
  obtain ⟨i, hi⟩ : ∃ i : IN, i = (x, y, z, b) := ⟨_, rfl⟩
  have e1 : x = i.1 := by rw [hi]
  have e2 : y = i.2.1 := by rw [hi]
  have e3 : z = i.2.2.1 := by rw [hi]
  have e4 : b = i.2.2.2 := by rw [hi]
  have q1 : i32 i.1 := by rw [← e1]; exact ⟨by omega, by omega⟩
  have q2 : i32 i.2.1 := by rw [← e2]; exact ⟨by omega, by omega⟩
  have q3 : i32 i.2.2.1 := by rw [← e3]; exact ⟨by omega, by omega⟩
  rw [e1, e2, e3, e4]
  obtain ⟨p, p', R0, R, K, KN, gi, ni, go, no, fa, pl, mp, gm, nm, D, wk, a, tk, I, m, st, h1, h2, h3, h4, h5, h6, h7, h8, h9⟩ := h
  have m10 := no_map h3 hk
  have f3 := h4.2.2.2.2.1.2.2
  by_cases c : 0 < mp
  · obtain ⟨d1, d2, d3, d4, d5⟩ := h3.2.2 c
    have v9 := (h7 c).1.2.2.2.2.2.2
    have isI := c_isInput (i := i) (s := s) q1 q2 q3
    by_cases g : inOk i
    · obtain ⟨w1, w2, w3, w4, w5, w6, -⟩ := h5 c
      obtain ⟨r, s1, E, k1, a1, a2, a3, a4, a5, a6, a7, a8, a9⟩ := c_step (i := i) g w1 w3 d3 w4 w5 d2
      have eC : ab_X12_stepBy B (zI i.1) (zI i.2.1) (zI i.2.2.1) (bI i.2.2.2) s = some (nI r, s1) := by
        unfold ab_X12_stepBy
        rw [c_isMap f3 m10 c, vbs, if_neg (by decide), isI, vbs, inB_t g, if_neg (show ¬ bI true = 0 by decide), slet, h4.1.P1304, c_inputOf g, vbs, a1, vbs]
      have kk : vk wlI wlA [] (fun _ => True) s s1 := ((vk_X12_stepBy (O := fun _ => True) vclT trivial eC).1).weak (by decide) (by decide) (by decide)
      have cl := clO_vk kk (by decide)
      have hr := h6.cl cl
      have m1 := (h7 c).cl cl
      obtain ⟨t, ht⟩ : ∃ t, t = vu_I s1 1800 (B + 639) 0 := ⟨_, rfl⟩
      have kt : vk [1800] [] [] (fun _ => True) s1 t := by rw [ht]; exact vk.pI (vk.refl s1) (by decide)
      have mt := kt.keep0 (P := rMp2 B gm nm D wk a tk st) m1
      obtain ⟨r2, s3, E2, k2, b1, b2, b3, b4, b5, b6, b7, b8, b9⟩ := r_goS (i := i) g mt.1 mt.2.1 d3 mt.2.2.1 mt.2.2.2.1 d2
      obtain ⟨j1, j2, j3⟩ := stS.uniq a9 b9
      have t9 : vt_I (vu_I s1 1800 (B + 639) 0) 1809 (B + 639) = 1 := by rw [← ht]; exact mt.1.2.2.2.2.2.2
      have eR : ab_X17_stepBy (B + 639) (zI i.1) (zI i.2.1) (zI i.2.2.1) (bI i.2.2.2) s1 = some (nI r, s3) := by
        rw [r_stepYes g t9, ← ht, b1, vbs, j1]
      have k3 : vk wqI wqA [] (fun _ => True) s1 s3 := (vk_X17_stepBy (O := fun _ => True) vclT trivial eR).1
      rw [j2] at b5
      rw [j3] at b3
      exact ⟨nI r, s1, s3, eC, eR, Inv.walk hk c h2 h3 h4 h5 h6 h7 h8 h9 kk k3 ⟨a2, a3, a5, a6, by rw [a7, w6]⟩ ⟨b2, b3, b5, b6, by rw [b7, mt.2.2.2.2.1]⟩ ⟨a8, a4⟩⟩
    · refine ⟨-1, s, vu_I s 1800 (B + 639) 0, ?_, r_stepNo q1 q2 q3 g (by rw [t1800 (by decide)]; exact v9), h0.v1800 hk⟩
      unfold ab_X12_stepBy ab_X12_stepBy_16
      rw [c_isMap f3 m10 c, vbs, if_neg (by decide), isI, vbs, inB_f g, if_pos (show bI false = 0 from rfl)]
  · have e : mp = 0 := by omega
    have n9 := (h6.2.2.2.2 e).1
    have hm := f3
    rw [e] at hm
    refine ⟨-1, s, vu_I s 1800 (B + 639) 0, ?_, ?_, h0.v1800 hk⟩
    · unfold ab_X12_stepBy ab_X12_stepBy_16
      rw [c_noMap hm, vbs, if_pos rfl]
    · unfold ab_X17_stepBy ab_X17_stepBy_43 ab_X17_stepBy_44 ab_X17_stepBy_64
      rw [slet, slet, t1800 (by decide), n9, if_pos rfl, if_pos rfl]
end OST
