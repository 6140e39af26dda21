-- A RUN is played
def runC (s : vt_S) (R : Nat) (I : Nat → IN) (m : Nat) : Prop := vt_I s 602 R = nI m ∧ m ≤ 1024 ∧ m ≤ vt_L s 601 R ∧ (1 ≤ vt_L s 601 R ∧ vt_L s 601 R ≤ 2048) ∧ ∀ j, j < m → vt_A s 601 R j = zI (inN (I j)) ∧ inOk (I j)
def runR (B : Nat) (s : vt_S) (I : Nat → IN) (m : Nat) : Prop := vt_I s 1605 (B + 643) = nI m ∧ m ≤ 1024 ∧ (vt_L s 1601 (B + 643) = 1024 ∧ vt_L s 1602 (B + 643) = 1024 ∧ vt_L s 1603 (B + 643) = 1024 ∧ vt_L s 1604 (B + 643) = 1024) ∧ ∀ j, j < m → vt_A s 1601 (B + 643) j = zI (I j).1 ∧ vt_A s 1602 (B + 643) j = zI (I j).2.1 ∧ vt_A s 1603 (B + 643) j = zI (I j).2.2.1 ∧ vt_A s 1604 (B + 643) j = bI (I j).2.2.2 ∧ inOk (I j)
def plS (g : Nat → Nat) (I : Nat → IN) : Nat → Nat → WK → Nat → (Nat → SD) → Nat → WK → Nat → (Nat → SD) → Nat → Prop
  | 0, _, k, a, D, c, k', a', D', c' => k' = k ∧ a' = a ∧ D' = D ∧ c' = c
  | d + 1, i, k, a, D, c, k', a', D', c' => ∃ r k1 E, stS g (I i) k a D r k1 E ∧ plS g I d (i + 1) k1 (tnA a (I i).2.2.1) E (c + if r = 2 then 1 else 0) k' a' D' c'
theorem plS.uniq {g : Nat → Nat} {I : Nat → IN} : ∀ d i k a D c k1 a1 D1 c1 k2 a2 D2 c2, plS g I d i k a D c k1 a1 D1 c1 → plS g I d i k a D c k2 a2 D2 c2 → k2 = k1 ∧ a2 = a1 ∧ D2 = D1 ∧ c2 = c1
  | 0, i, k, a, D, c, k1, a1, D1, c1, k2, a2, D2, c2, h, h2 => by
    obtain ⟨x1, x2, x3, x4⟩ := h
    obtain ⟨y1, y2, y3, y4⟩ := h2
    exact ⟨y1.trans x1.symm, y2.trans x2.symm, y3.trans x3.symm, y4.trans x4.symm⟩
  | d + 1, i, k, a, D, c, k1, a1, D1, c1, k2, a2, D2, c2, h, h2 => by
    obtain ⟨r, q, E, x1, x2⟩ := h
    obtain ⟨r', q', E', y1, y2⟩ := h2
    obtain ⟨e1, e2, e3⟩ := x1.uniq y1
    subst e1 e2 e3
    exact plS.uniq d (i + 1) _ _ _ _ k1 a1 D1 c1 k2 a2 D2 c2 x2 y2
theorem stS_r {g : Nat → Nat} {i : IN} {k : WK} {a : Nat} {D E : Nat → SD} {r : Nat} {k1 : WK} (h : stS g i k a D r k1 E) : r ≤ 2 := by
  obtain ⟨F, G, h1, -⟩ := h
  rcases h1 with ⟨-, e, -⟩ | ⟨-, b, -, e⟩
  · omega
  · rw [e]; cases b <;> decide
section PL
variable {B p n m R : Nat} {g : Nat → Nat} {I : Nat → IN}
theorem c_play_loop {N : Nat} (hN : N ≤ m) : ∀ (d i fu : Nat) (s : vt_S) (k : WK) (a : Nat) (D : Nat → SD) (c : Nat), i + d = N → d < fu → vt_P s 1304 B = B + 628 → vt_P s 1308 B = R → runC s R I m → cWk B p g n s → secsC s p (g 5) D → (∀ j, j < g 5 → sdOk (D j)) → wkC B s k → vt_I s 1104 (B + 628) = nI a → wkOk g k a → ∃ s1 k1 a1 E c1, ab_X12_playTo_46 fu B (nI N) (nI c) (nI i) s = some (nI c1, s1) ∧ cWk B p g n s1 ∧ secsC s1 p (g 5) E ∧ (∀ j, j < g 5 → sdOk (E j)) ∧ wkC B s1 k1 ∧ vt_I s1 1104 (B + 628) = nI a1 ∧ vt_I s1 1106 (B + 628) = vt_I s 1106 (B + 628) + nI d ∧ wkOk g k1 a1 ∧ plS g I d i k a D c k1 a1 E c1 := by
  intro d
  induction d with
  | zero =>
    intro i fu s k a D c hi hf h4 h8 hr hk hD hv hw ha ok
    obtain ⟨fu, rfl⟩ : ∃ q, fu = q + 1 := ⟨fu - 1, by omega⟩
    have hm := hr.2.1
    refine ⟨s, k, a, D, c, ?_, hk, hD, hv, hw, ha, ?_, ok, rfl, rfl, rfl, rfl⟩
    · show ab_X12_playTo_46b _ B (nI N) (nI c) (nI i) s = _
      unfold ab_X12_playTo_46b
      rw [if_pos (nI_le (by omega) (by omega))]
    · rw [show nI 0 = (0 : Int32) from rfl, Int32.add_zero]
  | succ d ih =>
    intro i fu s k a D c hi hf h4 h8 hr hk hD hv hw ha ok
    obtain ⟨fu, rfl⟩ : ∃ q, fu = q + 1 := ⟨fu - 1, by omega⟩
    obtain ⟨r1, r2, r3, r4, r5⟩ := hr
    obtain ⟨x1, x2⟩ := r5 i (by omega)
    obtain ⟨r, s1, E, k1, b1, b2, b3, b4, b5, b6, b7, b8, b9⟩ := c_step x2 hk hD hv hw ha ok
    have kk := (vk_X10_step vclT trivial b1).1
    have rr := stS_r b9
    obtain ⟨s2, k2, a2, E2, c2, y1, y2, y3, y4, y5, y6, y7, y8, y9⟩ := ih (i + 1) fu s1 k1 _ E (c + if r = 2 then 1 else 0) (by omega) (by omega) (kk.keep0 (P := fun t => vt_P t 1304 B = B + 628) h4) (kk.keep0 (P := fun t => vt_P t 1308 B = R) h8) (kk.keep0 (P := fun t => runC t R I m) ⟨r1, r2, r3, r4, r5⟩) b2 b3 b4 b5 b6 b8
    refine ⟨s2, k2, a2, E2, c2, ?_, y2, y3, y4, y5, y6, ?_, y8, r, k1, E, b9, y9⟩
    · show ab_X12_playTo_46b _ B (nI N) (nI c) (nI i) s = _
      unfold ab_X12_playTo_46b ab_X12_playTo_74
      rw [if_neg (nI_ge (by omega) (by omega)), slet, slet, h4, h8, vl_I_ok (by omega) (by omega), obs, x1, b1, vbs, nI_1, nI_1]
      by_cases z : r = 2
      · rw [if_pos (by rw [z]; rfl)]
        rw [if_pos z] at y1
        exact y1
      · rw [if_neg (fun q => z (by rwa [show (2 : Int32) = nI 2 from rfl, nI_eq (by omega) (by omega)] at q))]
        rw [if_neg z] at y1
        exact y1
    · rw [y7, b7, Int32.add_assoc, show (1 : Int32) = nI 1 from rfl, nI_add, Nat.add_comm 1 d]
theorem r_play_loop {N : Nat} (hN : N ≤ m) : ∀ (d i fu : Nat) (s : vt_S) (k : WK) (a : Nat) (D : Nat → SD) (c : Nat), i + d = N → d < fu → vt_P s 1802 (B + 639) = B + 643 → runR B s I m → rWk B g n s → secsR s (B + 656) (g 5) D → (∀ j, j < g 5 → sdOk (D j)) → wkR B s k → vt_I s 1813 (B + 639) = nI a → wkOk g k a → ∃ s1 k1 a1 E c1, ab_X17_playTo_37 fu (B + 639) (nI N) (nI c) (nI i) s = some (nI c1, s1) ∧ rWk B g n s1 ∧ secsR s1 (B + 656) (g 5) E ∧ (∀ j, j < g 5 → sdOk (E j)) ∧ wkR B s1 k1 ∧ vt_I s1 1813 (B + 639) = nI a1 ∧ hTk B s1 = hTk B s + nI d ∧ wkOk g k1 a1 ∧ plS g I d i k a D c k1 a1 E c1 := by
  intro d
  induction d with
  | zero =>
    intro i fu s k a D c hi hf h2 hr hk hD hv hw ha ok
    obtain ⟨fu, rfl⟩ : ∃ q, fu = q + 1 := ⟨fu - 1, by omega⟩
    have hm := hr.2.1
    refine ⟨s, k, a, D, c, ?_, hk, hD, hv, hw, ha, ?_, ok, rfl, rfl, rfl, rfl⟩
    · show ab_X17_playTo_37b _ (B + 639) (nI N) (nI c) (nI i) s = _
      unfold ab_X17_playTo_37b
      rw [if_pos (nI_le (by omega) (by omega))]
    · rw [show nI 0 = (0 : Int32) from rfl, Int32.add_zero]
  | succ d ih =>
    intro i fu s k a D c hi hf h2 hr hk hD hv hw ha ok
    obtain ⟨fu, rfl⟩ : ∃ q, fu = q + 1 := ⟨fu - 1, by omega⟩
    obtain ⟨r1, r2, ⟨l1, l2, l3, l4⟩, r5⟩ := hr
    obtain ⟨x1, x2, x3, x4, x5⟩ := r5 i (by omega)
    obtain ⟨r, s1, E, k1, b1, b2, b3, b4, b5, b6, b7, b8, b9⟩ := r_goS x5 hk hD hv hw ha ok
    have kk := (vk_X17_go vclT trivial b1).1
    have rr := stS_r b9
    obtain ⟨s2, k2, a2, E2, c2, y1, y2, y3, y4, y5, y6, y7, y8, y9⟩ := ih (i + 1) fu s1 k1 _ E (c + if r = 2 then 1 else 0) (by omega) (by omega) (kk.keep0 (P := fun t => vt_P t 1802 (B + 639) = B + 643) h2) (kk.keep0 (P := fun t => runR B t I m) ⟨r1, r2, ⟨l1, l2, l3, l4⟩, r5⟩) b2 b3 b4 b5 b6 b8
    refine ⟨s2, k2, a2, E2, c2, ?_, y2, y3, y4, y5, y6, ?_, y8, r, k1, E, b9, y9⟩
    · show ab_X17_playTo_37b _ (B + 639) (nI N) (nI c) (nI i) s = _
      unfold ab_X17_playTo_37b ab_X17_playTo_92
      rw [if_neg (nI_ge (by omega) (by omega)), slet, h2, vl_I_ok (by omega) (by omega), obs, x1, slet, vl_I_ok (by omega) (by omega), obs, x2, slet, vl_I_ok (by omega) (by omega), obs, x3, slet, vl_I_ok (by omega) (by omega), obs, x4, b1, vbs, nI_1, nI_1]
      by_cases z : r = 2
      · rw [if_pos (by rw [z]; rfl)]
        rw [if_pos z] at y1
        exact y1
      · rw [if_neg (fun q => z (by rwa [show (2 : Int32) = nI 2 from rfl, nI_eq (by omega) (by omega)] at q)), Int32.add_zero]
        rw [if_neg z] at y1
        exact y1
    · rw [y7, b7, Int32.add_assoc, show (1 : Int32) = nI 1 from rfl, nI_add, Nat.add_comm 1 d]
end PL
