-- THE TAPE is read: the reference's steps
def TpS (B : Nat) (g : Nat → Nat) (n : Nat) (st : PE) (s : vt_S) : Prop := (vt_I s 1609 (B + 643) = nI n ∧ n ≤ 8192 ∧ vt_L s 1608 (B + 643) = 8192 ∧ ∀ i, i < n → vt_A s 1608 (B + 643) i = nI (g i) ∧ g i < 256) ∧ (∃ p, vt_I s 1616 (B + 643) = nI p ∧ p ≤ n) ∧ match st with
  | .ok p => vt_I s 1617 (B + 643) = 0 ∧ vt_I s 1618 (B + 643) = -1 ∧ vt_I s 1616 (B + 643) = nI p ∧ p ≤ n ∧ vt_I s 1619 (B + 643) = nI (adN g p).1 ∧ vt_I s 1620 (B + 643) = nI (adN g p).2
  | .error e => vt_I s 1617 (B + 643) = nI e.1 ∧ e.1 ≠ 0 ∧ e.1 < 100 ∧ vt_I s 1618 (B + 643) = nI e.2
section TP
variable {B n : Nat} {g : Nat → Nat} {st : PE} {s : vt_S}
theorem e_nz {e : Nat} (h : e ≠ 0) (h1 : e < 100) : ¬ nI e = 0 := fun z => h (by rwa [show (0 : Int32) = nI 0 from rfl, nI_eq (by omega) (by omega)] at z)
theorem t_wrong {f q : Nat} (hf : f ≠ 0) (hf1 : f < 100) (h : TpS B g n st s) : ∃ s1, ab_X15_wrong (B + 643) (nI f) (nI q) s = some ((), s1) ∧ vk [1617, 1618] [] [] (fun _ => True) s s1 ∧ TpS B g n (pbd st (fun _ => .error (f, q))) s1 := by
  obtain ⟨h1, h2, h3⟩ := h
  unfold ab_X15_wrong ab_X15_wrong_17
  cases st with
  | ok p =>
    have h7 : vt_I s 1617 (B + 643) = 0 := h3.1
    rw [slet, h7, if_pos rfl, slet, slet]
    refine ⟨_, rfl, vk.pI (vk.pI (vk.refl s) (by decide)) (by decide), ?_, ?_, ?_, hf, hf1, I_at⟩
    · rw [I_ne (by omega), I_ne (by omega)]; exact h1
    · rw [I_ne (by omega), I_ne (by omega)]; exact h2
    · rw [I_ne (by omega), I_at]
  | error e =>
    have h7 : vt_I s 1617 (B + 643) = nI e.1 := h3.1
    rw [slet, h7, if_neg (e_nz h3.2.1 h3.2.2.1)]
    exact ⟨s, rfl, vk.refl s, h1, h2, h3⟩
theorem t_next (h : TpS B g n st s) : ∃ b s1, ab_X15_next (B + 643) s = some (nI b, s1) ∧ b < 256 ∧ vk [1616, 1617, 1618, 1619, 1620] [] [] (fun _ => True) s s1 ∧ TpS B g n (pbd st (pOne n)) s1 ∧ (∀ q, pbd st (pOne n) = .ok q → b = g (q - 1) ∧ q ≠ 0) ∧ (∀ e, pbd st (pOne n) = .error e → b = 0) := by
  have hh := h
  obtain ⟨⟨a1, a2, a3, a4⟩, h2, h3⟩ := h
  unfold ab_X15_next
  cases st with
  | ok p =>
    obtain ⟨b1, b2, b3, b4, b5, b6⟩ := h3
    rw [slet, b1, if_pos rfl, slet, slet, b3, a1]
    by_cases c : p = n
    · obtain ⟨s1, w1, w2, w3⟩ := t_wrong (f := 1) (q := n) (by decide) (by decide) hh
      rw [if_pos (by rw [c]), slet, show (1 : Int32) = nI 1 from rfl, w1, vbs]
      have e : pbd (.ok p) (pOne n) = .error (1, n) := by
        show pOne n p = _
        unfold pOne
        rw [if_neg (by omega)]
      rw [e]
      have w7 : vt_I s1 1617 (B + 643) = nI 1 := w3.2.2.1
      unfold ab_X15_next_27
      rw [slet, w7, if_neg (by decide)]
      exact ⟨0, s1, rfl, by decide, w2.weak (by decide) (by decide) (by decide), w3, fun q z => (by cases z), fun _ _ => rfl⟩
    · rw [if_neg (show ¬ nI p = nI n from fun z => c ((nI_eq (by omega) (by omega)).mp z))]
      have e : pbd (.ok p) (pOne n) = .ok (p + 1) := by
        show pOne n p = _
        unfold pOne
        rw [if_pos (by omega)]
      rw [e]
      obtain ⟨x1, x2⟩ := a4 p (by omega)
      have lt := adN_lt g p
      have lt1 := adN_lt g (p + 1)
      have e1 : (nI (adN g p).1 + nI (g p)) - (nI (adN g p).1 + nI (g p)) / 65521 * 65521 = nI (adN g (p + 1)).1 := by
        rw [nI_add, nI_z, modI (by omega) (by omega), nI_z]
        refine congrArg zI ?_
        show _ = ((((adN g p).1 + g p) % 65521 : Nat) : Int)
        omega
      have e2 : (nI (adN g p).2 + nI (adN g (p + 1)).1) - (nI (adN g p).2 + nI (adN g (p + 1)).1) / 65521 * 65521 = nI (adN g (p + 1)).2 := by
        rw [nI_add, nI_z, modI (by omega) (by omega), nI_z]
        refine congrArg zI ?_
        show _ = ((((adN g p).2 + (adN g (p + 1)).1) % 65521 : Nat) : Int)
        omega
      unfold ab_X15_next_27 ab_X15_sum
      rw [slet, b1, if_pos (by decide), slet, b3, vl_I_ok (by omega) (by omega), obs, x1, slet, slet, slet, I_ne (by omega), b5, e1, slet, slet, slet, I_at, I_ne (by omega), I_ne (by omega), b6, e2, slet, vbs, nI_1]
      refine ⟨g p, _, rfl, x2, vk.pI (vk.pI (vk.pI (vk.refl s) (by decide)) (by decide)) (by decide), ⟨⟨?_, a2, a3, a4⟩, ⟨p + 1, ?_, by omega⟩, ?_, ?_, ?_, by omega, ?_, I_at⟩, fun q z => (by cases z; exact ⟨rfl, by omega⟩), fun _ z => (by cases z)⟩
      · rw [I_ne (by omega), I_ne (by omega), I_ne (by omega)]; exact a1
      · rw [I_ne (by omega), I_ne (by omega), I_at]
      · rw [I_ne (by omega), I_ne (by omega), I_ne (by omega)]; exact b1
      · rw [I_ne (by omega), I_ne (by omega), I_ne (by omega)]; exact b2
      · rw [I_ne (by omega), I_ne (by omega), I_at]
      · rw [I_ne (by omega), I_at]
  | error e =>
    have h7 : vt_I s 1617 (B + 643) = nI e.1 := h3.1
    have ez : ¬ nI e.1 ≤ 0 := fun z => by
      have := h3.2.1
      have := h3.2.2.1
      exact nI_ge (b := e.1) (a := 0) (by omega) (by omega) z
    unfold ab_X15_next_27
    rw [slet, h7, if_neg (e_nz h3.2.1 h3.2.2.1), slet, if_neg ez]
    exact ⟨0, s, rfl, by decide, vk.refl s, hh, fun q z => (by cases z), fun _ _ => rfl⟩
end TP
