-- A RUN is written, the class
theorem clen (I : Nat → IN) (m : Nat) : ∀ d t i, (cl I m d t i).length ≤ 4 * d := by
  intro d
  induction d with
  | zero => intro t i; exact Nat.le_refl _
  | succ d ih =>
    intro t i
    unfold cl
    split
    · rw [List.length_append]
      have := grp_len (I i) (t + 1)
      have := ih 0 (i + 1)
      omega
    · have := ih (t + 1) (i + 1)
      omega
def fin4 (l : List Nat) : List Nat := (l ++ [0]) ++ ckL (adN (lf (l ++ [0])) (l ++ [0]).length)
theorem inN_inj {i j : IN} (hi : inOk i) (hj : inOk j) (h : inN i = inN j) : i = j := by
  have a1 := inN_ahead hi
  have a2 := inN_aside hi
  have a3 := inN_turn hi
  have b1 := inN_ahead hj
  have b2 := inN_aside hj
  have b3 := inN_turn hj
  have u1 := inN_uses hi
  have u2 := inN_uses hj
  rw [h] at a1 a2 a3 u1
  have e4 : i.2.2.2 = j.2.2.2 := by
    cases c : j.2.2.2
    · exact u1.mp (u2.mpr c)
    · cases c2 : i.2.2.2
      · have := u2.mp (u1.mpr c2)
        rw [c] at this
        cases this
      · rfl
  exact Prod.ext (by omega) (Prod.ext (by omega) (Prod.ext (by omega) e4))
section W2
variable {a R m : Nat} {I : Nat → IN}
theorem runC.rwk {s s1 : vt_S} (h : runC s R I m) (k : rwk a s s1) : runC s1 R I m := by
  obtain ⟨r1, r2, r3, r4, r5⟩ := h
  refine ⟨by rw [k.I (by decide)]; exact r1, r2, by rw [k.L (by decide)]; exact r3, by rw [k.L (by decide)]; exact r4, fun j hj => by rw [k.A (by decide)]; exact r5 j hj⟩
theorem c_write_loop : ∀ (d t i fu : Nat) (s : vt_S) (l : List Nat), i + d = m → t < 63 → d < fu → runC s R I m → rowL s a l → l.length + 4 * d + 5 ≤ 8192 → ∃ s1, ab_X5_write_70 fu R a (nI t) (nI i) s = some ((), s1) ∧ rwk a s s1 ∧ rowL s1 a (fin4 (l ++ cl I m d t i)) := by
  intro d
  induction d with
  | zero =>
    intro t i fu s l hi ht hf hr hl hn
    obtain ⟨fu, rfl⟩ : ∃ q, fu = q + 1 := ⟨fu - 1, by omega⟩
    have hm := hr.2.1
    obtain ⟨s1, a1, a2, a3⟩ := c_putL 0 hl (by omega)
    rw [show by8 0 = 0 from rfl] at a3
    have len1 : (l ++ [0]).length = l.length + 1 := by rw [List.length_append]; rfl
    obtain ⟨s2, b1, b2, b3⟩ := c_ck4 (p := adN (lf (l ++ [0])) (l ++ [0]).length) (adN_lt _ _) a3 (by omega)
    refine ⟨s2, ?_, a2.trans b2, ?_⟩
    · show ab_X5_write_70b _ R a (nI t) (nI i) s = _
      unfold ab_X5_write_70b
      obtain ⟨q, hq⟩ : ∃ q, sv_fuel = q + 5 := ⟨sv_fuel - 5, by have : 5 < sv_fuel := fuel_ge (by omega); omega⟩
      rw [slet, hr.1, if_pos (nI_le (by omega) (by omega)), a1, vbs, slet, a3.1, c_adl a3, vbs, hq]
      exact b1 q
    · show rowL s2 a (fin4 (l ++ []))
      rw [List.append_nil]
      exact b3
  | succ d ih =>
    intro t i fu s l hi ht hf hr hl hn
    obtain ⟨fu, rfl⟩ : ∃ q, fu = q + 1 := ⟨fu - 1, by omega⟩
    obtain ⟨r1, r2, r3, ⟨r4, r4'⟩, r5⟩ := hr
    obtain ⟨x1, x2⟩ := r5 i (by omega)
    have g114 : ∃ s1, ab_X5_write_114 (ab_X5_write_70 fu) R a (nI (t + 1)) (nI i) s = some ((), s1) ∧ rwk a s s1 ∧ rowL s1 a (fin4 (l ++ (grp (I i) (t + 1) ++ cl I m d 0 (i + 1)))) := by
      obtain ⟨s1, b1, b2, b3⟩ := c_group x2 (show t + 1 ≤ 63 by omega) hl (by omega)
      have gl := grp_len (I i) (t + 1)
      have hr1 : runC s1 R I m := runC.rwk ⟨r1, r2, r3, ⟨r4, r4'⟩, r5⟩ b2
      obtain ⟨s2, c1, c2, c3⟩ := ih 0 (i + 1) fu s1 (l ++ grp (I i) (t + 1)) (by omega) (by omega) (by omega) hr1 b3 (by rw [List.length_append]; omega)
      refine ⟨s2, ?_, b2.trans c2, by rw [← List.append_assoc]; exact c3⟩
      unfold ab_X5_write_114 ab_X5_write_127
      rw [vl_I_ok (by omega) (by omega), obs, x1, b1, vbs, nI_1]
      exact c1
    have e0 : ab_X5_write_70 (fu + 1) R a (nI t) (nI i) s = if t + 1 = 63 ∨ i + 1 = m ∨ I (i + 1) ≠ I i then ab_X5_write_114 (ab_X5_write_70 fu) R a (nI (t + 1)) (nI i) s else ab_X5_write_70 fu R a (nI (t + 1)) (nI (i + 1)) s := by
      show ab_X5_write_70b _ R a (nI t) (nI i) s = _
      unfold ab_X5_write_70b
      rw [slet, r1, if_neg (nI_ge (by omega) (by omega)), nI_1, slet, nI_1]
      by_cases c1 : t + 1 = 63
      · rw [if_pos (show nI (t + 1) = 63 by rw [c1]; rfl), if_pos (Or.inl c1)]
      · rw [if_neg (show ¬ nI (t + 1) = 63 from fun z => c1 (by rwa [show (63 : Int32) = nI 63 from rfl, nI_eq (by omega) (by omega)] at z))]
        by_cases c2 : i + 1 = m
        · rw [if_pos (show nI (i + 1) = nI m by rw [c2]), if_pos (Or.inr (Or.inl c2))]
        · obtain ⟨y1, y2⟩ := r5 (i + 1) (by omega)
          rw [if_neg (show ¬ nI (i + 1) = nI m from fun z => c2 ((nI_eq (by omega) (by omega)).mp z)), vl_I_ok (by omega) (by omega), obs, vl_I_ok (by omega) (by omega), obs, y1, x1]
          have q1 := inN_rng x2
          have q2 := inN_rng y2
          by_cases c3 : I (i + 1) = I i
          · rw [if_pos (by rw [c3]), if_neg (by intro z; rcases z with z | z | z <;> contradiction)]
            unfold ab_X5_write_127
            rw [nI_1]
          · rw [if_neg (fun z => c3 (inN_inj y2 x2 (by rwa [zI_eq (by omega) (by omega) (by omega) (by omega)] at z))), if_pos (Or.inr (Or.inr c3))]
    rw [e0]
    show ∃ s1, _ ∧ _ ∧ rowL s1 a (fin4 (l ++ if t + 1 = 63 ∨ i + 1 = m ∨ I (i + 1) ≠ I i then grp (I i) (t + 1) ++ cl I m d 0 (i + 1) else cl I m d (t + 1) (i + 1)))
    by_cases c : t + 1 = 63 ∨ i + 1 = m ∨ I (i + 1) ≠ I i
    · rw [if_pos c, if_pos c]
      exact g114
    · rw [if_neg c, if_neg c]
      exact ih (t + 1) (i + 1) fu s l (by omega) (by omega) (by omega) ⟨r1, r2, r3, ⟨r4, r4'⟩, r5⟩ hl (by omega)
end W2
