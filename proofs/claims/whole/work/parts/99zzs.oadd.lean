-- obligation: addInput
section OA1
variable {B : Nat}
theorem r_recNo {s : vt_S} {i : IN} (h1 : i32 i.1) (h2 : i32 i.2.1) (h3 : i32 i.2.2.1) (hn : ¬ inOk i) : ab_X15_record (B + 643) (zI i.1) (zI i.2.1) (zI i.2.2.1) (bI i.2.2.2) 1 s = some (-1, s) := by
  unfold ab_X15_record ab_X15_record_54
  rw [show (64 : Int32) = zI 64 from rfl, show (16 : Int32) = zI 16 from rfl, r_isIn h1 (by omega) (by omega), vbs]
  by_cases c : -64 ≤ i.1 ∧ i.1 ≤ 64
  · rw [decide_eq_true c, if_neg (show ¬ bI true = 0 by decide), r_isIn h2 (by omega) (by omega), vbs]
    by_cases d : -64 ≤ i.2.1 ∧ i.2.1 ≤ 64
    · rw [decide_eq_true d, if_neg (show ¬ bI true = 0 by decide), r_isIn h3 (by omega) (by omega), vbs]
      by_cases e : -16 ≤ i.2.2.1 ∧ i.2.2.1 ≤ 16
      · exact absurd ⟨c, d, e⟩ hn
      · rw [decide_eq_false e, if_pos (show bI false = 0 from rfl)]
    · rw [decide_eq_false d, if_pos (show bI false = 0 from rfl)]
  · rw [decide_eq_false c, if_pos (show bI false = 0 from rfl)]
theorem r_recYes {s : vt_S} {i : IN} {m : Nat} (hi : inOk i) (h5 : vt_I s 1605 (B + 643) = nI m) (hm : m ≤ 1024) : ab_X15_record (B + 643) (zI i.1) (zI i.2.1) (zI i.2.2.1) (bI i.2.2.2) 1 s = if m < 1024 then ab_X15_record_59 sv_fuel (B + 643) (zI i.1) (zI i.2.1) (zI i.2.2.1) (bI i.2.2.2) 1 0 s else some (-1, s) := by
  obtain ⟨a1, a2, a3⟩ := hi
  have le : (nI (m + 1) ≤ (1024 : Int32)) = (m < 1024) := by
    rw [show (1024 : Int32) = zI 1024 from rfl, nI_z, zI_le (by omega) (by omega) (by omega) (by omega)]
    exact propext ⟨fun h => by omega, fun h => by omega⟩
  unfold ab_X15_record ab_X15_record_54
  rw [show (64 : Int32) = zI 64 from rfl, show (16 : Int32) = zI 16 from rfl, r_isIn ⟨by omega, by omega⟩ (by omega) (by omega), vbs, decide_eq_true a1, if_neg (show ¬ bI true = 0 by decide), r_isIn ⟨by omega, by omega⟩ (by omega) (by omega), vbs, decide_eq_true a2, if_neg (show ¬ bI true = 0 by decide), r_isIn ⟨by omega, by omega⟩ (by omega) (by omega), vbs, decide_eq_true a3, if_neg (show ¬ bI true = 0 by decide), if_neg (show ¬ (1 : Int32) < 1 by decide), if_neg (show ¬ (1024 : Int32) < 1 by decide), slet, h5, nI_1, ifc le]
theorem o_add : ∀ (k : Nat), k + 5 ≤ 2560 → ∀ (x y z d : Int32) (hd : d = 0 ∨ d = 1), vb2 (Inv B k) (Inv B (k + 5)) (ab_X12_addInput B x y z d) (ab_X17_addInput (B + 639) x y z d) := by
  intro k hk x y z d hd s h
  have h0 := h
  obtain ⟨x, rfl, x1, x2⟩ := zI_ex x
  obtain ⟨y, rfl, y1, y2⟩ := zI_ex y
  obtain ⟨z, rfl, z1, z2⟩ := zI_ex z
  obtain ⟨b, rfl⟩ : ∃ b : Bool, d = bI b := by
    rcases hd with e | e
    · exact ⟨false, e⟩
    · exact ⟨true, e⟩
  obtain ⟨i, hi⟩ : ∃ i : IN, i = (x, y, z, b) := ⟨_, rfl⟩
  have e1 : x = i.1 := by rw [hi]
  have e2 : y = i.2.1 := by rw [hi]
  have e3 : z = i.2.2.1 := by rw [hi]
  have e4 : b = i.2.2.2 := by rw [hi]
  have q1 : i32 i.1 := by rw [← e1]; exact ⟨by omega, by omega⟩
  have q2 : i32 i.2.1 := by rw [← e2]; exact ⟨by omega, by omega⟩
  have q3 : i32 i.2.2.1 := by rw [← e3]; exact ⟨by omega, by omega⟩
  rw [e1, e2, e3, e4]
  obtain ⟨p, p', R0, R, K, KN, gi, ni, go, no, fa, pl, mp, gm, nm, D, wk, a, tk, I, m, st, h1, h2, h3, h4, h5, h6, h7, h8, h9⟩ := h
  have m10 := no_map h3 hk
  obtain ⟨c1, c2, c6, c7, c8, ⟨u1, u2⟩, t1⟩ := id h4
  obtain ⟨ad1, ad2⟩ := id h2
  have m4 := u1.2.1
  by_cases c : 0 < mp
  · have v9 := (h7 c).1.2.2.2.2.2.2
    have isI := c_isInput (i := i) (s := s) q1 q2 q3
    by_cases g : inOk i ∧ m < 1024
    · obtain ⟨g1, g2⟩ := g
      obtain ⟨s1, a1, a2, a3, a4, a5, a6⟩ := c_add (i := i) u1 g2 g1
      have k1 : vk [602] [601] [601] (fun _ => True) s s1 := (vk_X5_add (O := fun _ => True) vclT trivial a1).1
      have cl := clO_vk k1 (by decide)
      have hr := h6.cl cl
      have tr := h8.cl cl
      have m1 := fun q => (h7 q).cl cl
      have RR : R ≠ R0 := by omega
      obtain ⟨t, ht⟩ : ∃ t, t = vu_I s1 1800 (B + 639) 0 := ⟨_, rfl⟩
      have kt : vk [1800] [] [] (fun _ => True) s1 t := by rw [ht]; exact vk.pI (vk.refl s1) (by decide)
      have rt : runR B t I m := kt.keep0 (P := fun u => runR B u I m) hr.2.2.2.1
      obtain ⟨s3, b1, b2⟩ := r_put (i := i) rt g2 g1
      have hf : 2 < sv_fuel := fuel_ge (by omega)
      have b1 : ab_X15_record_59 sv_fuel (B + 643) (zI i.1) (zI i.2.1) (zI i.2.2.1) (bI i.2.2.2) 1 0 t = some (nI (m + 1), s3) := by
        have := b1 (sv_fuel - 2)
        rw [show sv_fuel - 2 + 2 = sv_fuel by omega] at this
        exact this
      have er : ab_X17_addInput (B + 639) (zI i.1) (zI i.2.1) (zI i.2.2.1) (bI i.2.2.2) s1 = some (nI (m + 1), s3) := by
        unfold ab_X17_addInput ab_X17_addInput_29
        rw [slet, ← ht, slet, kt.eI (by decide), (m1 c).1.2.2.2.2.2.2, if_neg (by decide), slet, (kt.keep0 (P := rS B) hr.1).P1802, r_recYes g1 rt.1 m4, if_pos g2, b1, vbs]
      have k3 := (vk_X17_addInput (O := fun _ => True) vclT trivial er).1
      have rf := rfO_vk k3 (by decide)
      refine ⟨nI (m + 1), s1, s3, ?_, er, p, p', R0, R, K, KN, gi, ni, go, no, fa, pl, mp, gm, nm, D, wk, a, tk, _, m + 1, st, by omega, h2, ⟨by have := h3.1; omega, fun z => by omega, h3.2.2⟩, (h4.run k1 a2 (fun J n q => q.ong a6 RR)).rf rf, fun q => ((h5 q).run k1).rf rf, hr.run k3 b2, fun q => k3.keep0 (P := rMp2 B gm nm D wk a tk st) (m1 q), k3.keep0 (P := trQ B gm (wallN mp gm)) tr, rmI.rf rf ?_⟩
      · unfold ab_X12_addInput
        have lt : (nI m < (1024 : Int32)) = (m < 1024) := by
          rw [show (1024 : Int32) = zI 1024 from rfl, nI_z, zI_lt (by omega) (by omega) (by omega) (by omega)]
          exact propext ⟨fun h => by omega, fun h => by omega⟩
        rw [c_isMap c8.2.2 m10 c, vbs, if_neg (by decide), isI, vbs, inB_t g1, if_neg (show ¬ bI true = 0 by decide), slet, c6.1, slet, u1.1, ifc lt, if_pos g2, slet, c_inputOf g1, vbs, a1, vbs, slet, a6.P, c6.1, slet, a2.1]
      · obtain ⟨o1, o2⟩ := h9
        have Lo : ∀ f b, ¬ b = R0 → vt_L s1 f b = vt_L s f b := fun f b hb => a6.L hb
        unfold rmI
        rw [Lo 100 (B + 1) (by omega), Lo 100 (B + 3) (by omega), Lo 100 (B + 24) (by omega), Lo 100 (B + 323) (by omega)]
        rcases ad2 with ⟨i1, i2⟩ | ⟨i1, i2⟩
        · rw [Lo 601 (B + 636) (by omega)]
          rw [i1] at a3 a4 a5
          exact ⟨by omega, by omega⟩
        · rw [Lo 601 (B + 633) (by omega)]
          rw [i1] at a3 a4 a5
          exact ⟨by omega, by omega⟩
    · obtain ⟨t, ht⟩ : ∃ t, t = vu_I s 1800 (B + 639) 0 := ⟨_, rfl⟩
      have kt : vk [1800] [] [] (fun _ => True) s t := by rw [ht]; exact vk.pI (vk.refl s) (by decide)
      have q0 : vt_I t 1605 (B + 643) = nI m := (kt.eI (by decide)).trans h6.2.2.2.1.1
      refine ⟨-1, s, t, ?_, ?_, by rw [ht]; exact h0.v1800 hk⟩
      · unfold ab_X12_addInput ab_X12_addInput_29
        rw [c_isMap c8.2.2 m10 c, vbs, if_neg (by decide), isI, vbs]
        by_cases g1 : inOk i
        · have lt : (nI m < (1024 : Int32)) = (m < 1024) := by
            rw [show (1024 : Int32) = zI 1024 from rfl, nI_z, zI_lt (by omega) (by omega) (by omega) (by omega)]
            exact propext ⟨fun h => by omega, fun h => by omega⟩
          rw [inB_t g1, if_neg (show ¬ bI true = 0 by decide), slet, c6.1, slet, u1.1, ifc lt, if_neg (fun z => g ⟨g1, z⟩)]
        · rw [inB_f g1, if_pos (show bI false = 0 from rfl)]
      · unfold ab_X17_addInput ab_X17_addInput_29
        rw [slet, ← ht, slet, kt.eI (by decide), v9, if_neg (by decide), slet, (kt.keep0 (P := rS B) h6.1).P1802]
        by_cases g1 : inOk i
        · rw [r_recYes g1 q0 m4, if_neg (fun z => g ⟨g1, z⟩), vbs]
        · rw [r_recNo q1 q2 q3 g1, vbs]
  · have e : mp = 0 := by omega
    have n9 := (h6.2.2.2.2 e).1
    have hm := c8.2.2
    rw [e] at hm
    refine ⟨-1, s, vu_I s 1800 (B + 639) 0, ?_, ?_, h0.v1800 hk⟩
    · unfold ab_X12_addInput ab_X12_addInput_29
      rw [c_noMap hm, vbs, if_pos rfl]
    · unfold ab_X17_addInput ab_X17_addInput_29
      rw [slet, slet, t1800 (by decide), n9, if_pos rfl]
end OA1
