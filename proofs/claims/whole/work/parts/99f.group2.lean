-- THE TAPE: a group's input
section T5
variable {B n : Nat} {g : Nat → Nat} {st : PE} {s : vt_S}
def tpW : List Nat := [1616, 1617, 1618, 1619, 1620]
theorem sub_z (a b : Nat) : nI a - nI b = zI ((a : Int) - b) := by rw [nI_z, nI_z, zI_sub]
theorem t_whl {h : Nat} (hh : h < 256) (hS : TpS B g n st s) : ∃ (i : Int × Int × Int) (s1 : vt_S), (∀ tp a t, ab_X15_readGroup_46 (B + 643) (nI h) tp a t s = ab_X15_readGroup_118 (B + 643) (nI h) tp a t (zI i.1) (zI i.2.1) (zI i.2.2) s1) ∧ vk tpW [] [] (fun _ => True) s s1 ∧ TpS B g n (pWhl g n h st) s1 ∧ (∀ p q, st = .ok p → pWhl g n h st = .ok q → i = ((inG g h p).1, (inG g h p).2.1, (inG g h p).2.2.1) ∧ inOk (inG g h p)) := by
  obtain ⟨b1, s1, a1, a2, a3, a4, a5⟩ := t_upTo (hi := 128) (off := 64) (by decide) hS
  rw [sub_z] at a1
  have a1 : ab_X15_nextUpTo (B + 643) 128 64 s = some (zI ((b1 : Int) - 64), s1) := a1
  by_cases c : h < 128
  · have e : pWhl g n h st = pbd st (pIn g n 0 128) := by unfold pWhl; rw [if_pos c]
    rw [e]
    refine ⟨((b1 : Int) - 64, 0, 0), s1, fun tp a t => ?_, a3, a4, fun p q hp hq => ?_⟩
    · unfold ab_X15_readGroup_46
      rw [a1, vbs, show (127 : Int32) = nI 127 from rfl, if_pos (nI_le (by omega) (by omega))]
      rfl
    · obtain ⟨x1, x2, x3⟩ := a5 q hq
      rw [hp] at hq
      obtain ⟨y1, y2, -⟩ := pIn_ok (show pIn g n 0 128 p = .ok q from hq)
      have ei : inG g h p = ((g p : Int) - 64, 0, 0, decide (h / 64 % 2 = 1)) := by unfold inG; rw [if_pos c]
      rw [ei]
      rw [show q - 1 = p by omega] at x1
      refine ⟨by rw [x1], ⟨?_, ?_⟩, ⟨?_, ?_⟩, ?_, ?_⟩ <;> dsimp only <;> omega
  · obtain ⟨b2, s2, c1, c2, c3, c4, c5⟩ := t_upTo (hi := 128) (off := 64) (by decide) a4
    rw [sub_z] at c1
    have c1 : ab_X15_nextUpTo (B + 643) 128 64 s1 = some (zI ((b2 : Int) - 64), s2) := c1
    obtain ⟨b3, s3, d1, d2, d3, d4, d5⟩ := t_upTo (hi := 32) (off := 16) (by decide) c4
    rw [sub_z] at d1
    have d1 : ab_X15_nextUpTo (B + 643) 32 16 s2 = some (zI ((b3 : Int) - 16), s3) := d1
    have d4 : TpS B g n (pbd (pbd (pbd st (pIn g n 0 128)) (pIn g n 0 128)) (pIn g n 0 32)) s3 := d4
    have k3 : vk tpW [] [] (fun _ => True) s s3 := (a3.trans c3).trans d3
    have e : pWhl g n h st = pbd (pbd (pbd (pbd st (pIn g n 0 128)) (pIn g n 0 128)) (pIn g n 0 32)) (fun q => if g (q - 2) = 64 ∧ g (q - 1) = 16 then .error (3, q - 1) else .ok q) := by unfold pWhl; rw [if_neg c]
    have o2 : (zI ((b2 : Int) - 64) = 0) = (b2 = 64) := by
      rw [show (0 : Int32) = zI 0 from rfl, zI_eq (by omega) (by omega) (by omega) (by omega)]
      exact propext ⟨fun z => by omega, fun z => by omega⟩
    have o3 : (zI ((b3 : Int) - 16) = 0) = (b3 = 16) := by
      rw [show (0 : Int32) = zI 0 from rfl, zI_eq (by omega) (by omega) (by omega) (by omega)]
      exact propext ⟨fun z => by omega, fun z => by omega⟩
    have e46 : ∀ tp a t, ab_X15_readGroup_46 (B + 643) (nI h) tp a t s = sv_let (vt_I s3 1617 (B + 643)) fun v7 => if v7 = 0 then if b2 = 64 then if b3 = 16 then sv_let (vt_I s3 1616 (B + 643)) fun v8 => vt_b (ab_X15_wrong (B + 643) 3 (v8 - 1) s3) fun _ h9 => ab_X15_readGroup_118 (B + 643) (nI h) tp a t (zI ((b1 : Int) - 64)) (zI ((b2 : Int) - 64)) (zI ((b3 : Int) - 16)) h9 else ab_X15_readGroup_118 (B + 643) (nI h) tp a t (zI ((b1 : Int) - 64)) (zI ((b2 : Int) - 64)) (zI ((b3 : Int) - 16)) s3 else ab_X15_readGroup_118 (B + 643) (nI h) tp a t (zI ((b1 : Int) - 64)) (zI ((b2 : Int) - 64)) (zI ((b3 : Int) - 16)) s3 else ab_X15_readGroup_118 (B + 643) (nI h) tp a t (zI ((b1 : Int) - 64)) (zI ((b2 : Int) - 64)) (zI ((b3 : Int) - 16)) s3 := by
      intro tp a t
      unfold ab_X15_readGroup_46
      rw [a1, vbs, show (127 : Int32) = nI 127 from rfl, if_neg (nI_ge (by omega) (by omega)), c1, vbs, d1, vbs, ifc o2, ifc o3]
    rw [e]
    cases hst : pbd (pbd (pbd st (pIn g n 0 128)) (pIn g n 0 128)) (pIn g n 0 32) with
    | error er =>
      rw [hst] at d4
      refine ⟨((b1 : Int) - 64, (b2 : Int) - 64, (b3 : Int) - 16), s3, fun tp a t => ?_, k3, d4, fun p q _ z => (by cases z)⟩
      rw [e46, slet, if_neg d4.bad]
    | ok r =>
      obtain ⟨z1, z2, z3⟩ := d5 r hst
      rw [hst] at d4
      obtain ⟨r2, m1, m2⟩ := pbd_ok hst
      obtain ⟨r1, m3, m4⟩ := pbd_ok m1
      obtain ⟨r0, m5, m6⟩ := pbd_ok m3
      obtain ⟨w1, w2, w3⟩ := c5 r2 m1
      obtain ⟨u1, u2, u3⟩ := a5 r1 m3
      obtain ⟨-, q2, -⟩ := pIn_ok m2
      obtain ⟨-, q1, -⟩ := pIn_ok m4
      obtain ⟨-, q0, -⟩ := pIn_ok m6
      rw [show r2 - 1 = r - 2 by omega] at w1
      have y7 : vt_I s3 1617 (B + 643) = 0 := d4.2.2.1
      have y6 : vt_I s3 1616 (B + 643) = nI r := d4.2.2.2.2.1
      show ∃ (i : Int × Int × Int) (s1 : vt_S), _ ∧ _ ∧ TpS B g n (if g (r - 2) = 64 ∧ g (r - 1) = 16 then .error (3, r - 1) else .ok r) s1 ∧ (∀ p q, st = .ok p → (if g (r - 2) = 64 ∧ g (r - 1) = 16 then Except.error (3, r - 1) else .ok r) = .ok q → _)
      have good : ∀ p, st = .ok p → ((b1 : Int) - 64, (b2 : Int) - 64, (b3 : Int) - 16) = ((inG g h p).1, (inG g h p).2.1, (inG g h p).2.2.1) ∧ inOk (inG g h p) := by
        intro p hp
        have e0 : p = r0 := by rw [hp] at m5; cases m5; rfl
        have ei : inG g h p = ((g p : Int) - 64, (g (p + 1) : Int) - 64, (g (p + 2) : Int) - 16, decide (h / 64 % 2 = 1)) := by unfold inG; rw [if_neg c]
        rw [ei]
        rw [show r1 - 1 = p by omega] at u1
        rw [show r - 2 = p + 1 by omega] at w1
        rw [show r - 1 = p + 2 by omega] at z1
        refine ⟨by rw [u1, w1, z1], ⟨?_, ?_⟩, ⟨?_, ?_⟩, ?_, ?_⟩ <;> dsimp only <;> omega
      by_cases cc : g (r - 2) = 64 ∧ g (r - 1) = 16
      · obtain ⟨s4, f1, f2, f3⟩ := t_wrong (f := 3) (q := r - 1) (by decide) (by decide) d4
        rw [if_pos cc]
        refine ⟨((b1 : Int) - 64, (b2 : Int) - 64, (b3 : Int) - 16), s4, fun tp a t => ?_, k3.trans (f2.weak (by decide) (by decide) (by decide)), f3, fun p q _ z => (by cases z)⟩
        have ep : nI r - 1 = nI (r - 1) := by
          have := (z_down (r - 1)).1
          rwa [show r - 1 + 1 = r by omega] at this
        rw [e46, slet, y7, if_pos rfl, if_pos (w1.trans cc.1), if_pos (z1.trans cc.2), slet, y6, ep, show (3 : Int32) = nI 3 from rfl, f1, vbs]
      · rw [if_neg cc]
        refine ⟨((b1 : Int) - 64, (b2 : Int) - 64, (b3 : Int) - 16), s3, fun tp a t => ?_, k3, d4, fun p q hp _ => good p hp⟩
        rw [e46, slet, y7, if_pos rfl]
        by_cases g1 : b2 = 64
        · rw [if_pos g1, if_neg (fun z => cc ⟨w1.symm.trans g1, z1.symm.trans z⟩)]
        · rw [if_neg g1]
end T5
