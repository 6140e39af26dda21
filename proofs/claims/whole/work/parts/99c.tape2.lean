-- THE TAPE: a number up to a bound, a pair
section T2
variable {B n : Nat} {g : Nat → Nat} {st : PE} {s : vt_S}
theorem TpS.bad {e : Nat × Nat} (h : TpS B g n (.error e) s) : ¬ vt_I s 1617 (B + 643) = 0 := by
  have h3 := h.2.2
  have h7 : vt_I s 1617 (B + 643) = nI e.1 := h3.1
  rw [h7]
  exact e_nz h3.2.1 h3.2.2.1
theorem t_upTo {hi off : Nat} (hhi : hi ≤ 255) (h : TpS B g n st s) : ∃ b s1, ab_X15_nextUpTo (B + 643) (nI hi) (nI off) s = some (nI b - nI off, s1) ∧ b < 256 ∧ vk [1616, 1617, 1618, 1619, 1620] [] [] (fun _ => True) s s1 ∧ TpS B g n (pbd st (pIn g n 0 hi)) s1 ∧ (∀ q, pbd st (pIn g n 0 hi) = .ok q → b = g (q - 1) ∧ b ≤ hi ∧ q ≠ 0) := by
  obtain ⟨b, s1, a1, a2, a3, a4, a5, a6⟩ := t_next h
  unfold ab_X15_nextUpTo ab_X15_nextUpTo_28
  rw [a1, vbs, slet]
  cases st with
  | ok p =>
    by_cases c : p < n
    · have e1 : pbd (.ok p) (pOne n) = .ok (p + 1) := by
        show pOne n p = _
        unfold pOne
        rw [if_pos c]
      have e2 : pbd (.ok p) (pIn g n 0 hi) = if (g p : Int) < 0 ∨ (hi : Int) < g p then .error (3, p) else .ok (p + 1) := by
        show pIn g n 0 hi p = _
        unfold pIn
        rw [if_pos c]
      obtain ⟨hb, -⟩ := a5 (p + 1) e1
      rw [Nat.add_sub_cancel] at hb
      rw [e1] at a4
      have z7 : vt_I s1 1617 (B + 643) = 0 := a4.2.2.1
      have z6 : vt_I s1 1616 (B + 643) = nI (p + 1) := a4.2.2.2.2.1
      rw [z7, if_pos rfl, e2]
      by_cases d : b ≤ hi
      · rw [if_pos (nI_le d (by omega)), if_neg (by omega)]
        exact ⟨b, s1, rfl, a2, a3, a4, fun q z => (by cases z; exact ⟨by rw [Nat.add_sub_cancel]; exact hb, d, by omega⟩)⟩
      · obtain ⟨s2, w1, w2, w3⟩ := t_wrong (f := 3) (q := p) (by decide) (by decide) a4
        rw [if_neg (nI_ge (by omega) (by omega)), slet, z6, (z_down p).1, show (3 : Int32) = nI 3 from rfl, w1, vbs, if_pos (by omega)]
        exact ⟨b, s2, rfl, a2, a3.trans (w2.weak (by decide) (by decide) (by decide)), w3, fun q z => (by cases z)⟩
    · have e1 : pbd (.ok p) (pOne n) = .error (1, n) := by
        show pOne n p = _
        unfold pOne
        rw [if_neg c]
      have e2 : pbd (.ok p) (pIn g n 0 hi) = .error (1, n) := by
        show pIn g n 0 hi p = _
        unfold pIn
        rw [if_neg c]
      rw [e1] at a4
      rw [if_neg a4.bad, e2]
      exact ⟨b, s1, rfl, a2, a3, a4, fun q z => (by cases z)⟩
  | error e =>
    have a4 : TpS B g n (.error e) s1 := a4
    rw [if_neg a4.bad]
    exact ⟨b, s1, rfl, a2, a3, a4, fun q z => (by cases z)⟩
theorem t_two (h : TpS B g n st s) : ∃ v s1, ab_X15_nextTwo (B + 643) s = some (zI v, s1) ∧ (-32768 ≤ v ∧ v ≤ 32767) ∧ vk [1616, 1617, 1618, 1619, 1620] [] [] (fun _ => True) s s1 ∧ TpS B g n (pbd st (pTwo n)) s1 ∧ (∀ q, pbd st (pTwo n) = .ok q → v = pr g (q - 2)) := by
  obtain ⟨b, s1, a1, a2, a3, a4, a5, a6⟩ := t_next h
  obtain ⟨c, s2, b1, b2, b3, b4, b5, b6⟩ := t_next a4
  rw [pbd_assoc] at b4 b5
  have ev : ∀ x y : Nat, x < 256 → y < 256 → -32768 ≤ sg16 (256 * (x : Int) + y) ∧ sg16 (256 * (x : Int) + y) ≤ 32767 := by
    intro x y hx hy
    unfold sg16
    omega
  refine ⟨sg16 (256 * (b : Int) + c), s2, ?_, ev b c a2 b2, a3.trans b3, b4, ?_⟩
  · unfold ab_X15_nextTwo ab_X15_nextTwo_31
    rw [a1, vbs, b1, vbs, nI_z b, nI_z c, z_256, zI_mul, zI_add, z_32767, z_65536, zI_sub, ifc (zI_le (by omega) (by omega) (by omega) (by omega))]
    unfold sg16
    by_cases d : (b : Int) * 256 + c ≤ 32767
    · rw [if_pos d]
      refine congrArg (fun v => some (zI v, s2)) ?_
      omega
    · rw [if_neg d]
      refine congrArg (fun v => some (zI v, s2)) ?_
      omega
  · intro q hq
    have hq' : pbd st (pTwo n) = .ok q := hq
    rw [show pTwo n = fun p => pbd (pOne n p) (pOne n) from rfl, ← pbd_assoc] at hq'
    obtain ⟨r, r1, r2⟩ := pbd_ok hq'
    obtain ⟨x1, x2⟩ := a5 r r1
    obtain ⟨y1, y2⟩ := pOne_ok r2
    obtain ⟨z1, -⟩ := b5 q hq
    unfold pr
    rw [x1, z1, show q - 2 = r - 1 by omega, show r - 1 + 1 = q - 1 by omega]
end T2
