-- THE CLASS reads an input
section CI
variable {B n : Nat} {g : Nat → Nat} {st : PE} {s : vt_S}
theorem vIn_rng {lo hi : Int} {x : PE} (hx : ∃ y, x = pbd y (pIn g n lo hi)) (h : lo ≤ hi) : lo ≤ vOf x (fun q => g (q - 1)) lo ∧ vOf x (fun q => g (q - 1)) lo ≤ hi := by
  obtain ⟨y, rfl⟩ := hx
  cases e : pbd y (pIn g n lo hi) with
  | error er => exact ⟨Int.le_refl _, h⟩
  | ok q =>
    obtain ⟨p, h1, h2⟩ := pbd_ok e
    obtain ⟨-, b, c, d⟩ := pIn_ok h2
    show lo ≤ (g (q - 1) : Int) ∧ (g (q - 1) : Int) ≤ hi
    rw [show q - 1 = p by omega]
    exact ⟨c, d⟩
theorem c_input {R h : Nat} {u : Bool} (hS : RdS B g n st s) : ∃ (i : IN) (s1 : vt_S), ab_X5_readInput R (B + 5) (bI u) (bI (decide (128 ≤ h))) s = some (zI (inN i), s1) ∧ inOk i ∧ i.2.2.2 = u ∧ RdS B g n (pWhl g n h st) s1 ∧ onl (· = B + 5) s s1 ∧ (∀ p q, st = .ok p → pWhl g n h st = .ok q → i.1 = (inG g h p).1 ∧ i.2.1 = (inG g h p).2.1 ∧ i.2.2.1 = (inG g h p).2.2.1) := by
  obtain ⟨s1, a1, a2, a3⟩ := rd_within hS 0 128 (by decide) (by decide) (by decide) (by decide)
  have ra := vIn_rng (g := g) (n := n) (lo := 0) (hi := 128) ⟨st, rfl⟩ (by decide)
  have a1 : ab_X4_within (B + 5) 0 128 s = _ := a1
  by_cases c : 128 ≤ h
  · obtain ⟨s2, b1, b2, b3⟩ := rd_within a2 0 128 (by decide) (by decide) (by decide) (by decide)
    have b1 : ab_X4_within (B + 5) 0 128 s1 = _ := b1
    have rb := vIn_rng (g := g) (n := n) (lo := 0) (hi := 128) ⟨pbd st (pIn g n 0 128), rfl⟩ (by decide)
    obtain ⟨p5, n1, n2, n3⟩ := rd_next b2
    obtain ⟨s3, d1, d2, d3⟩ := rd_within b2 0 32 (by decide) (by decide) (by decide) (by decide)
    have d1 : ab_X4_within (B + 5) 0 32 s2 = _ := d1
    have rd := vIn_rng (g := g) (n := n) (lo := 0) (hi := 32) ⟨pbd (pbd st (pIn g n 0 128)) (pIn g n 0 128), rfl⟩ (by decide)
    obtain ⟨x1, hx1⟩ : ∃ x, x = vOf (pbd st (pIn g n 0 128)) (fun q => g (q - 1)) 0 := ⟨_, rfl⟩
    obtain ⟨x2, hx2⟩ : ∃ x, x = vOf (pbd (pbd st (pIn g n 0 128)) (pIn g n 0 128)) (fun q => g (q - 1)) 0 := ⟨_, rfl⟩
    obtain ⟨x3, hx3⟩ : ∃ x, x = vOf (pbd (pbd (pbd st (pIn g n 0 128)) (pIn g n 0 128)) (pIn g n 0 32)) (fun q => g (q - 1)) 0 := ⟨_, rfl⟩
    rw [← hx1] at a1 ra
    rw [← hx2] at b1 rb
    rw [← hx3] at d1 rd
    have ok : inOk (x1 - 64, x2 - 64, x3 - 16, u) := ⟨⟨by dsimp only; omega, by dsimp only; omega⟩, ⟨by dsimp only; omega, by dsimp only; omega⟩, by dsimp only; omega, by dsimp only; omega⟩
    have io := fun t => c_inputOf ok t
    dsimp only at io
    have o2 : (zI (x2 - 64) = 0) = (x2 = 64) := by
      rw [show (0 : Int32) = zI 0 from rfl, zI_eq (by omega) (by omega) (by omega) (by omega)]
      exact propext ⟨fun z => by omega, fun z => by omega⟩
    have o3 : (zI (x3 - 16) = 0) = (x3 = 16) := by
      rw [show (0 : Int32) = zI 0 from rfl, zI_eq (by omega) (by omega) (by omega) (by omega)]
      exact propext ⟨fun z => by omega, fun z => by omega⟩
    have e : pWhl g n h st = pbd (pbd (pbd (pbd st (pIn g n 0 128)) (pIn g n 0 128)) (pIn g n 0 32)) (fun q => if g (q - 2) = 64 ∧ g (q - 1) = 16 then .error (3, q - 1) else .ok q) := by unfold pWhl; rw [if_neg (by omega)]
    obtain ⟨s4, w1, w2, w3⟩ := rd_blame d2 3 p5 (by decide) (by decide)
    have e0 : ab_X5_readInput R (B + 5) (bI u) (bI (decide (128 ≤ h))) s = if x2 = 64 then if x3 = 16 then some (zI (inN (x1 - 64, x2 - 64, x3 - 16, u)), s4) else some (zI (inN (x1 - 64, x2 - 64, x3 - 16, u)), s3) else some (zI (inN (x1 - 64, x2 - 64, x3 - 16, u)), s3) := by
      unfold ab_X5_readInput ab_X5_readInput_71
      rw [decide_eq_true c, a1, vbs, if_neg (show ¬ bI true = 0 by decide), b1, vbs, slet, n1, d1, vbs, z_64, z_16, zI_sub, zI_sub, zI_sub, ifc o2, ifc o3, show (3 : Int32) = nI 3 from rfl, w1, vbs, io, vbs, io, vbs]
    have o4 : onl (· = B + 5) s s3 := (a3.trans b3).trans d3
    have st3ok : ∀ q, pbd (pbd (pbd st (pIn g n 0 128)) (pIn g n 0 128)) (pIn g n 0 32) = .ok q → x3 = g (q - 1) ∧ x2 = g (q - 2) ∧ x1 = g (q - 3) ∧ p5 = q - 1 ∧ 3 ≤ q ∧ st = .ok (q - 3) := by
      intro q hq
      obtain ⟨r2, m1, m2⟩ := pbd_ok hq
      obtain ⟨r1, m3, m4⟩ := pbd_ok m1
      obtain ⟨r0, m5, m6⟩ := pbd_ok m3
      obtain ⟨-, q2, -⟩ := pIn_ok m2
      obtain ⟨-, q1, -⟩ := pIn_ok m4
      obtain ⟨-, q0, -⟩ := pIn_ok m6
      have y := n3 r2 m1
      rw [hq] at hx3
      rw [m1] at hx2
      rw [m3] at hx1
      have hx3 : x3 = (g (q - 1) : Int) := hx3
      have hx2 : x2 = (g (r2 - 1) : Int) := hx2
      have hx1 : x1 = (g (r1 - 1) : Int) := hx1
      rw [show r2 - 1 = q - 2 by omega] at hx2
      rw [show r1 - 1 = q - 3 by omega] at hx1
      exact ⟨hx3, hx2, hx1, by omega, by omega, by rw [m5, show q - 3 = r0 by omega]⟩
    refine ⟨(x1 - 64, x2 - 64, x3 - 16, u), if x2 = 64 ∧ x3 = 16 then s4 else s3, ?_, ok, rfl, ?_, ?_, ?_⟩
    · rw [e0]
      by_cases q1 : x2 = 64
      · by_cases q2 : x3 = 16
        · rw [if_pos q1, if_pos q2, if_pos ⟨q1, q2⟩]
        · rw [if_pos q1, if_neg q2, if_neg (fun z => q2 z.2)]
      · rw [if_neg q1, if_neg (fun z => q1 z.1)]
    · rw [e]
      cases hst : pbd (pbd (pbd st (pIn g n 0 128)) (pIn g n 0 128)) (pIn g n 0 32) with
      | error er =>
        rw [hst] at d2 w2
        split
        · exact w2
        · exact d2
      | ok q =>
        obtain ⟨y3, y2, y1, y5, -, -⟩ := st3ok q hst
        rw [hst] at d2 w2
        show RdS B g n (if g (q - 2) = 64 ∧ g (q - 1) = 16 then .error (3, q - 1) else .ok q) _
        by_cases cc : g (q - 2) = 64 ∧ g (q - 1) = 16
        · rw [if_pos cc, if_pos (show x2 = 64 ∧ x3 = 16 by omega), ← y5]
          exact w2
        · rw [if_neg cc, if_neg (show ¬ (x2 = 64 ∧ x3 = 16) by omega)]
          exact d2
    · split
      · exact o4.trans w3
      · exact o4
    · intro p q hp hq
      rw [e] at hq
      obtain ⟨r, m1, -⟩ := pbd_ok hq
      obtain ⟨y3, y2, y1, -, y6, y7⟩ := st3ok r m1
      have ep : p = r - 3 := by rw [hp] at y7; cases y7; rfl
      have ei : inG g h p = ((g p : Int) - 64, (g (p + 1) : Int) - 64, (g (p + 2) : Int) - 16, decide (h / 64 % 2 = 1)) := by unfold inG; rw [if_neg (by omega)]
      rw [ei]
      dsimp only
      rw [y1, y2, y3, ep, show r - 3 + 1 = r - 2 by omega, show r - 3 + 2 = r - 1 by omega]
      exact ⟨rfl, rfl, rfl⟩
  · obtain ⟨x1, hx1⟩ : ∃ x, x = vOf (pbd st (pIn g n 0 128)) (fun q => g (q - 1)) 0 := ⟨_, rfl⟩
    rw [← hx1] at a1 ra
    have ok : inOk (x1 - 64, 0, 0, u) := ⟨⟨by dsimp only; omega, by dsimp only; omega⟩, ⟨by dsimp only; omega, by dsimp only; omega⟩, by dsimp only; omega, by dsimp only; omega⟩
    have io := fun t => c_inputOf ok t
    dsimp only at io
    have e : pWhl g n h st = pbd st (pIn g n 0 128) := by unfold pWhl; rw [if_pos (by omega)]
    rw [e]
    refine ⟨(x1 - 64, 0, 0, u), s1, ?_, ok, rfl, a2, a3, ?_⟩
    · unfold ab_X5_readInput ab_X5_readInput_71
      rw [decide_eq_false c, a1, vbs, if_pos (show bI false = 0 from rfl), z_64, zI_sub, show (0 : Int32) = zI 0 from rfl, io, vbs]
    · intro p q hp hq
      rw [hq] at hx1
      have hx1 : x1 = (g (q - 1) : Int) := hx1
      rw [hp] at hq
      obtain ⟨-, y2, -⟩ := pIn_ok (show pIn g n 0 128 p = .ok q from hq)
      have ei : inG g h p = ((g p : Int) - 64, 0, 0, decide (h / 64 % 2 = 1)) := by unfold inG; rw [if_pos (by omega)]
      rw [ei]
      dsimp only
      rw [hx1, show q - 1 = p by omega]
      exact ⟨rfl, rfl, rfl⟩
end CI
