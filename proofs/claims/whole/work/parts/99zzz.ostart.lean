-- obligation: startAt
section OSA
variable {B : Nat}
theorem c_put {s : vt_S} {q : Nat} {st : WS} : ∃ s1, ab_X7_put q (zI st.1) (zI st.2.1) (nI st.2.2.1) (nI st.2.2.2) s = some ((), s1) ∧ stC s1 q st ∧ ong (· = q) s s1 := by
  refine ⟨vu_I (vu_I (vu_I (vu_I s 800 q (zI st.1)) 801 q (zI st.2.1)) 802 q (nI st.2.2.1)) 803 q (nI st.2.2.2), ?_, ⟨?_, ?_, ?_, ?_⟩, ong.putI (ong.putI (ong.putI (ong.putI ong.refl rfl) rfl) rfl) rfl⟩
  · unfold ab_X7_put
    rw [slet, slet, slet, slet]
  · rw [I_ne (by omega), I_ne (by omega), I_ne (by omega), I_at]
  · rw [I_ne (by omega), I_ne (by omega), I_at]
  · rw [I_ne (by omega), I_at]
  · rw [I_at]
theorem r_stPut {s : vt_S} {st : WS} (hL : vt_L s 1600 (B + 643) = 4) : ∃ s1, ((vs_I s 1600 (B + 643) 0 (zI st.1)).bind fun h2 => (vs_I h2 1600 (B + 643) 1 (zI st.2.1)).bind fun h4 => (vs_I h4 1600 (B + 643) 2 (nI st.2.2.1)).bind fun h6 => (vs_I h6 1600 (B + 643) 3 (nI st.2.2.2)).bind fun h8 => some ((1 : Int32), h8)) = some (1, s1) ∧ stR B s1 st ∧ vk [] [1600] [] (fun _ => True) s s1 := by
  obtain ⟨a, ha⟩ : ∃ u, u = vu_A s 1600 (B + 643) 0 (zI st.1) := ⟨_, rfl⟩
  obtain ⟨b, hb⟩ : ∃ u, u = vu_A a 1600 (B + 643) 1 (zI st.2.1) := ⟨_, rfl⟩
  obtain ⟨c, hc⟩ : ∃ u, u = vu_A b 1600 (B + 643) 2 (nI st.2.2.1) := ⟨_, rfl⟩
  obtain ⟨d, hd⟩ : ∃ u, u = vu_A c 1600 (B + 643) 3 (nI st.2.2.2) := ⟨_, rfl⟩
  have La : vt_L a = vt_L s := by rw [ha, sL_A]
  have Lb : vt_L b = vt_L s := by rw [hb, sL_A, La]
  have Lc : vt_L c = vt_L s := by rw [hc, sL_A, Lb]
  have kd : vk [] [1600] [] (fun _ => True) s d := by
    rw [hd]; refine vk.pA ?_ (by decide)
    rw [hc]; refine vk.pA ?_ (by decide)
    rw [hb]; refine vk.pA ?_ (by decide)
    rw [ha]; exact vk.pA (vk.refl s) (by decide)
  refine ⟨d, ?_, ⟨?_, ?_, ?_, ?_⟩, kd⟩
  · rw [show (0 : Int32) = nI 0 from rfl, show (1 : Int32) = nI 1 from rfl, show (2 : Int32) = nI 2 from rfl, show (3 : Int32) = nI 3 from rfl, vs_I_ok (by omega) (by omega), obs, ← ha, vs_I_ok (by rw [La]; omega) (by rw [La]; omega), obs, ← hb, vs_I_ok (by rw [Lb]; omega) (by rw [Lb]; omega), obs, ← hc, vs_I_ok (by rw [Lc]; omega) (by rw [Lc]; omega), obs, ← hd]
  · rw [hd, A_at, if_neg (by decide), hc, A_at, if_neg (by decide), hb, A_at, if_neg (by decide), ha, A_at, if_pos rfl]
  · rw [hd, A_at, if_neg (by decide), hc, A_at, if_neg (by decide), hb, A_at, if_pos rfl]
  · rw [hd, A_at, if_neg (by decide), hc, A_at, if_pos rfl]
  · rw [hd, A_at, if_pos rfl]
theorem r_stNo {s : vt_S} {x y z w : Int} (hx : -2147483648 ≤ x ∧ x ≤ 2147483647) (hy : -2147483648 ≤ y ∧ y ≤ 2147483647) (hz : -2147483648 ≤ z ∧ z ≤ 2147483647) (hw : -2147483648 ≤ w ∧ w ≤ 2147483647) : ab_X15_start (B + 643) (zI x) (zI y) (zI z) (zI w) s = if (-32768 ≤ x ∧ x ≤ 32767) ∧ (-32768 ≤ y ∧ y ≤ 32767) ∧ (0 ≤ z ∧ z < 64) ∧ 0 ≤ w ∧ w ≤ 255 then ((vs_I s 1600 (B + 643) 0 (zI x)).bind fun h2 => (vs_I h2 1600 (B + 643) 1 (zI y)).bind fun h4 => (vs_I h4 1600 (B + 643) 2 (zI z)).bind fun h6 => (vs_I h6 1600 (B + 643) 3 (zI w)).bind fun h8 => some ((1 : Int32), h8)) else some (0, s) := by
  unfold ab_X15_start ab_X15_start_51
  have a1 : (zI x < (-32768 : Int32)) = (x < -32768) := by rw [show (-32768 : Int32) = zI (-32768) from rfl, zI_lt hx.1 hx.2 (by omega) (by omega)]
  have a2 : ((32767 : Int32) < zI x) = (32767 < x) := by rw [show (32767 : Int32) = zI 32767 from rfl, zI_lt (by omega) (by omega) hx.1 hx.2]
  have b1 : (zI y < (-32768 : Int32)) = (y < -32768) := by rw [show (-32768 : Int32) = zI (-32768) from rfl, zI_lt hy.1 hy.2 (by omega) (by omega)]
  have b2 : ((32767 : Int32) < zI y) = (32767 < y) := by rw [show (32767 : Int32) = zI 32767 from rfl, zI_lt (by omega) (by omega) hy.1 hy.2]
  have c2 : ((63 : Int32) < zI z) = (63 < z) := by rw [show (63 : Int32) = zI 63 from rfl, zI_lt (by omega) (by omega) hz.1 hz.2]
  have d2 : (zI w ≤ (255 : Int32)) = (w ≤ 255) := by rw [show (255 : Int32) = zI 255 from rfl, zI_le hw.1 hw.2 (by omega) (by omega)]
  rw [ifc a1, ifc a2, ifc b1, ifc b2, ifc (z_neg hz.1 hz.2), ifc c2, ifc (z_neg hw.1 hw.2), ifc d2]
  by_cases e1 : x < -32768
  · rw [if_pos e1, if_neg (by omega)]
  rw [if_neg e1]
  by_cases e2 : 32767 < x
  · rw [if_pos e2, if_neg (by omega)]
  rw [if_neg e2]
  by_cases e3 : y < -32768
  · rw [if_pos e3, if_neg (by omega)]
  rw [if_neg e3]
  by_cases e4 : 32767 < y
  · rw [if_pos e4, if_neg (by omega)]
  rw [if_neg e4]
  by_cases e5 : z < 0
  · rw [if_pos e5, if_neg (by omega)]
  rw [if_neg e5]
  by_cases e6 : 63 < z
  · rw [if_pos e6, if_neg (by omega)]
  rw [if_neg e6]
  by_cases e7 : w < 0
  · rw [if_pos e7, if_neg (by omega)]
  rw [if_neg e7]
  by_cases e8 : w ≤ 255
  · rw [if_pos e8, if_pos (by omega)]
  · rw [if_neg e8, if_neg (by omega)]
theorem plB_iff {x : Int} : plB x = true ↔ (-32768 ≤ x ∧ x ≤ 32767) := by
  unfold plB
  simp
theorem o_start : ∀ (k : Nat), k + 5 ≤ 2560 → ∀ (x y z w : Int32), vb2 (Inv B k) (Inv B (k + 5)) (ab_X12_startAt B x y z w) (ab_X17_startAt (B + 639) x y z w) := by
  intro k hk x y z w s h
  have h0 := h
  obtain ⟨x, rfl, hx⟩ := zI_ex x
  obtain ⟨y, rfl, hy⟩ := zI_ex y
  obtain ⟨z, rfl, hz⟩ := zI_ex z
  obtain ⟨w, rfl, hw⟩ := zI_ex w
  obtain ⟨p, p', R0, R, K, KN, gi, ni, go, no, fa, pl, mp, gm, nm, D, wk, a, tk, I, m, st, h1, h2, h3, h4, h5, h6, h7, h8, h9⟩ := h
  have m10 := no_map h3 hk
  have f3 := h4.2.2.2.2.1.2.2
  have c6 := h4.2.2.1
  obtain ⟨ad1, ad2⟩ := id h2
  by_cases c : 0 < mp
  · obtain ⟨d1, d2, d3, d4, d5⟩ := h3.2.2 c
    have S := d1.S
    obtain ⟨q1, q2, q3, q4, q5, q6, q7, q8⟩ := h5 c
    have pf := q1.2.2.2.2.2.1
    have le : (nI (gm 5) ≤ zI w) = ((gm 5 : Int) ≤ w) := by rw [nI_z, zI_le (by omega) (by omega) (by omega) (by omega)]
    have l64 : ((64 : Int32) ≤ zI z) = (64 ≤ z) := by rw [show (64 : Int32) = zI 64 from rfl, zI_le (by omega) (by omega) (by omega) (by omega)]
    have isS : ab_X12_isSector B (zI w) s = some (bI (decide (0 ≤ w ∧ w < gm 5)), s) := by
      unfold ab_X12_isSector ab_X12_isSector_19 ab_X12_isSector_20
      rw [ifc (z_neg hw.1 hw.2), slet, h4.2.1.2.2.1, slet, pf.1.2.2.1, ifc le]
      by_cases e : w < 0
      · rw [if_pos e, decide_eq_false (fun q => by omega)]; rfl
      · rw [if_neg e]
        by_cases f : (gm 5 : Int) ≤ w
        · rw [if_pos f, decide_eq_false (fun q => by omega)]; rfl
        · rw [if_neg f, decide_eq_true (show 0 ≤ w ∧ w < gm 5 by omega)]; rfl
    by_cases g : (-32768 ≤ x ∧ x ≤ 32767) ∧ (-32768 ≤ y ∧ y ≤ 32767) ∧ (0 ≤ z ∧ z < 64) ∧ 0 ≤ w ∧ w < gm 5
    · obtain ⟨gx, gy, gz, gw⟩ := g
      obtain ⟨v, rfl⟩ : ∃ v : Nat, z = (v : Int) := ⟨z.toNat, by omega⟩
      obtain ⟨u, rfl⟩ : ∃ u : Nat, w = (u : Int) := ⟨w.toNat, by omega⟩
      obtain ⟨sn, hsn⟩ : ∃ sn : WS, sn = (x, y, v, u) := ⟨_, rfl⟩
      have n1 : sn.1 = x := by rw [hsn]
      have n2 : sn.2.1 = y := by rw [hsn]
      have n3 : sn.2.2.1 = v := by rw [hsn]
      have n4 : sn.2.2.2 = u := by rw [hsn]
      have so : stOk sn := ⟨by rw [n1]; exact gx, by rw [n2]; exact gy, by rw [n3]; omega, by rw [n4]; omega⟩
      have s5 : sn.2.2.2 < gm 5 := by rw [n4]; omega
      obtain ⟨s1, a1, a2, a3⟩ := c_put (s := s) (q := R0 + 1) (st := sn)
      rw [n1, n2, n3, n4] at a1
      have w1 : cWk B p gm nm s1 := q1.ong a3 (fun b z1 z2 => by omega) (by omega)
      obtain ⟨s2, b1, b2, b3, b4, b5, b6⟩ := c_begin (q := R0 + 1) w1.again a2
      have kb := (vk_X10_begin (O := fun _ => True) vclT trivial trivial trivial b1).1
      have eC : ab_X12_startAt B (zI x) (zI y) (zI (v : Int)) (zI (u : Int)) s = some (1, s2) := by
        unfold ab_X12_startAt
        rw [c_isMap f3 m10 c, vbs, if_neg (by decide), c_isPlace hx.1 hx.2 hy.1 hy.2, vbs, plB_iff.mpr gx, plB_iff.mpr gy, Bool.and_self, if_neg (show ¬ bI true = 0 by decide), ifc (z_neg hz.1 hz.2), if_neg (by omega), ifc l64, if_neg (by omega), isS, vbs, decide_eq_true gw, if_neg (show ¬ bI true = 0 by decide), slet, c6.1, slet, c6.2.2.1, ← nI_z, ← nI_z, a1, vbs, slet, a3.P, h4.1.P1304, slet, h4.2.1.2.2.1, slet, c6.1, slet, c6.2.2.1, b1, vbs]
      have kC := (vk_X12_startAt (O := fun _ => True) vclT trivial eC).1
      have cl := clO_vk kC (by decide)
      have hr := h6.cl cl
      have tr := h8.cl cl
      have m1 := (h7 c).cl cl
      have I2 : cIv B p p' R0 R K KN gi ni go no fa pl mp I m s2 := kC.keep0 (P := cIv B p p' R0 R K KN gi ni go no fa pl mp I m) h4
      have C2 : cMp B p R0 KN gm nm (rest0 gm) (sn.1, sn.2.1, sn.2.2.2) sn.2.2.1 0 sn s2 := ⟨b2, kC.keep0 (P := fun t => rowC t (p + 1) gm nm) q2, b3, b4, b5, b6, kb.keep0 (P := fun t => stC t (R0 + 1) sn) a2, kC.keep0 (P := fun t => (vt_I t 911 (B + 6) = nI (trN gm (gm 6)).length ∧ vt_I t 913 (B + 6) = nI (gm 6 + bcut gm 128 (l00 (gm 6))) ∧ (∀ j, j < (trN gm (gm 6)).length → ndC B t j (trD gm (gm 6) j)) ∧ szC B gm (gm 6) t) ∧ (trN gm (gm 6)).length ≤ KN) q8⟩
      have X2 := kC.keep0 (P := rmI B K KN) h9
      obtain ⟨t, ht⟩ : ∃ t, t = vu_I s2 1800 (B + 639) 0 := ⟨_, rfl⟩
      have kt : vk [1800] [] [] (fun _ => True) s2 t := by rw [ht]; exact vk.pI (vk.refl s2) (by decide)
      have mt := kt.keep0 (P := rMp2 B gm nm D wk a tk st) m1
      have St := kt.keep0 (P := rS B) hr.1
      obtain ⟨t2, e1, e2, e3⟩ := r_stPut (B := B) (s := t) (st := sn) St.L1600
      rw [n1, n2, n3, n4] at e1
      have S2 := e3.keep0 (P := rS B) St
      have W2 := e3.keep0 (P := rWk B gm nm) mt.1
      obtain ⟨s3, g1, g2, g3, g4, g5, g6⟩ := r_begun (st := sn) W2 S2.P1802 S2.L1600 e2
      have kr := (vk_X17_begin (O := fun _ => True) vclT trivial g1).1
      have sc := r_sectors (B := B) (s := t) mt.1.1 mt.1.2.2.2.2.2.2 mt.1.2.2.2.1
      have eR : ab_X17_startAt (B + 639) (zI x) (zI y) (zI (v : Int)) (zI (u : Int)) s2 = some (1, s3) := by
        unfold ab_X17_startAt
        rw [slet, ← ht, slet, mt.1.2.2.2.2.2.2, if_neg (by decide), sc, vbs, ifc le, if_neg (by omega), slet, St.P1802, r_stNo hx hy hz hw, if_pos (by omega), ← nI_z, ← nI_z, e1, vbs, if_neg (by decide), g1, vbs]
      have kR := (vk_X17_startAt (O := fun _ => True) vclT trivial eR).1
      have rf := rfO_vk kR (by decide)
      exact ⟨1, s2, s3, eC, eR, p, p', R0, R, K, KN, gi, ni, go, no, fa, pl, mp, gm, nm, _, _, _, _, I, m, sn, by omega, h2, ⟨by have := h3.1; omega, h3.2.1, fun _ => ⟨d1, st_wk so s5, fun _ _ => rest0_ok, so, s5⟩⟩, I2.rf rf, fun _ => C2.rf rf, kR.keep0 (P := rIv B gi ni go no fa pl mp I m) hr, fun _ => ⟨g2, g3, g4, g5, g6, kr.keep0 (P := fun t => stR B t sn) e2⟩, kR.keep0 (P := trQ B gm (wallN mp gm)) tr, X2.rf rf⟩
    · obtain ⟨t, ht⟩ : ∃ t, t = vu_I s 1800 (B + 639) 0 := ⟨_, rfl⟩
      have kt : vk [1800] [] [] (fun _ => True) s t := by rw [ht]; exact vk.pI (vk.refl s) (by decide)
      have mt := kt.keep0 (P := rMp2 B gm nm D wk a tk st) (h7 c)
      have St := kt.keep0 (P := rS B) h6.1
      have sc := r_sectors (B := B) (s := t) mt.1.1 mt.1.2.2.2.2.2.2 mt.1.2.2.2.1
      refine ⟨0, s, t, ?_, ?_, by rw [ht]; exact h0.v1800 hk⟩
      · unfold ab_X12_startAt ab_X12_startAt_34
        rw [c_isMap f3 m10 c, vbs, if_neg (by decide), c_isPlace hx.1 hx.2 hy.1 hy.2, vbs]
        by_cases e : plB x = true ∧ plB y = true
        · rw [e.1, e.2, Bool.and_self, if_neg (show ¬ bI true = 0 by decide), ifc (z_neg hz.1 hz.2), ifc l64]
          have ex := plB_iff.mp e.1
          have ey := plB_iff.mp e.2
          by_cases f1 : z < 0
          · rw [if_pos f1]
          rw [if_neg f1]
          by_cases f2 : 64 ≤ z
          · rw [if_pos f2]
          rw [if_neg f2, isS, vbs, decide_eq_false (fun q => g ⟨ex, ey, by omega, q⟩), if_pos (show bI false = 0 from rfl)]
        · have : (plB x && plB y) = false := by
            cases a : plB x with
            | false => rfl
            | true =>
              cases b : plB y with
              | false => rfl
              | true => exact absurd ⟨a, b⟩ e
          rw [this, if_pos (show bI false = 0 from rfl)]
      · unfold ab_X17_startAt ab_X17_startAt_36
        rw [slet, ← ht, slet, mt.1.2.2.2.2.2.2, if_neg (by decide), sc, vbs, ifc le]
        by_cases e : (gm 5 : Int) ≤ w
        · rw [if_pos e]
        · rw [if_neg e, slet, St.P1802, r_stNo hx hy hz hw, if_neg (by omega), vbs, if_pos rfl]
  · have e : mp = 0 := by omega
    have n9 := (h6.2.2.2.2 e).1
    have hm := f3
    rw [e] at hm
    refine ⟨0, s, vu_I s 1800 (B + 639) 0, ?_, ?_, h0.v1800 hk⟩
    · unfold ab_X12_startAt ab_X12_startAt_34
      rw [c_noMap hm, vbs, if_pos rfl]
    · unfold ab_X17_startAt ab_X17_startAt_36
      rw [slet, slet, t1800 (by decide), n9, if_pos rfl]
end OSA
