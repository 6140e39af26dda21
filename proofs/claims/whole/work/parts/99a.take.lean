-- A RUN that was read is taken, the reference
section TK
variable {m B : Nat} {I : Nat → IN} {st : WS}
def inR4 (s : vt_S) (T f : Nat) (i : IN) (j : Nat) : Prop := vt_A s f T j = zI i.1 ∧ vt_A s (f + 1) T j = zI i.2.1 ∧ vt_A s (f + 2) T j = zI i.2.2.1 ∧ vt_A s (f + 3) T j = bI i.2.2.2
def runT (B : Nat) (s : vt_S) (I : Nat → IN) (m : Nat) : Prop := m ≤ 1024 ∧ (vt_L s 1611 (B + 643) = 1024 ∧ vt_L s 1612 (B + 643) = 1024 ∧ vt_L s 1613 (B + 643) = 1024 ∧ vt_L s 1614 (B + 643) = 1024) ∧ ∀ j, j < m → inR4 s (B + 643) 1611 (I j) j ∧ inOk (I j)
def runLn (B : Nat) (s : vt_S) : Prop := vt_L s 1601 (B + 643) = 1024 ∧ vt_L s 1602 (B + 643) = 1024 ∧ vt_L s 1603 (B + 643) = 1024 ∧ vt_L s 1604 (B + 643) = 1024
theorem r_take_loop : ∀ (d i fu : Nat) (s : vt_S), i + d = m → d < fu → vt_I s 1605 (B + 643) = nI m → runT B s I m → runLn B s → (∀ j, j < i → inR4 s (B + 643) 1601 (I j) j) → ∃ s1, ab_X15_read_101 fu (B + 643) (nI i) s = some (0, s1) ∧ vk [] [1601, 1602, 1603, 1604] [] (fun _ => True) s s1 ∧ runR B s1 I m := by
  intro d
  induction d with
  | zero =>
    intro i fu s hi hf h5 hT hL hA
    obtain ⟨fu, rfl⟩ : ∃ q, fu = q + 1 := ⟨fu - 1, by omega⟩
    obtain ⟨t1, t2, t3⟩ := hT
    refine ⟨s, ?_, vk.refl s, h5, t1, hL, fun j hj => ?_⟩
    · show ab_X15_read_101b _ (B + 643) (nI i) s = _
      unfold ab_X15_read_101b
      rw [slet, h5, if_pos (nI_le (by omega) (by omega))]
    · obtain ⟨a1, a2, a3, a4⟩ := hA j (by omega)
      exact ⟨a1, a2, a3, a4, (t3 j hj).2⟩
  | succ d ih =>
    intro i fu s hi hf h5 hT hL hA
    obtain ⟨fu, rfl⟩ : ∃ q, fu = q + 1 := ⟨fu - 1, by omega⟩
    obtain ⟨t1, ⟨u1, u2, u3, u4⟩, t3⟩ := hT
    obtain ⟨l1, l2, l3, l4⟩ := hL
    obtain ⟨⟨x1, x2, x3, x4⟩, x5⟩ := t3 i (by omega)
    have x2 : vt_A s 1612 (B + 643) i = zI (I i).2.1 := x2
    have x3 : vt_A s 1613 (B + 643) i = zI (I i).2.2.1 := x3
    have x4 : vt_A s 1614 (B + 643) i = bI (I i).2.2.2 := x4
    have eL : ∀ f a k v t, vt_L (vu_A t f a k v) = vt_L t := fun _ _ _ _ _ => Eq.trans rfl rfl
    obtain ⟨t, ht⟩ : ∃ t, t = vu_A (vu_A (vu_A (vu_A s 1601 (B + 643) i (zI (I i).1)) 1602 (B + 643) i (zI (I i).2.1)) 1603 (B + 643) i (zI (I i).2.2.1)) 1604 (B + 643) i (bI (I i).2.2.2) := ⟨_, rfl⟩
    have k1 : vk [] [1601, 1602, 1603, 1604] [] (fun _ => True) s t := by rw [ht]; exact vk.pA (vk.pA (vk.pA (vk.pA (vk.refl s) (by decide)) (by decide)) (by decide)) (by decide)
    have hA1 : ∀ j, j < i + 1 → inR4 t (B + 643) 1601 (I j) j := by
      intro j hj
      show vt_A t 1601 (B + 643) j = _ ∧ vt_A t 1602 (B + 643) j = _ ∧ vt_A t 1603 (B + 643) j = _ ∧ vt_A t 1604 (B + 643) j = _
      rw [ht, A_at, A_nf (show 1601 ≠ 1604 by decide), A_nf (show 1601 ≠ 1603 by decide), A_nf (show 1601 ≠ 1602 by decide), A_at, A_nf (show 1602 ≠ 1604 by decide), A_nf (show 1602 ≠ 1603 by decide), A_at, A_nf (show 1603 ≠ 1604 by decide), A_at]
      by_cases z : j = i
      · rw [if_pos z, if_pos z, if_pos z, if_pos z, z]; exact ⟨rfl, rfl, rfl, rfl⟩
      · rw [if_neg z, if_neg z, if_neg z, if_neg z]
        simp (disch := decide) only [A_nf]
        exact hA j (by omega)
    obtain ⟨s1, b1, b2, b3⟩ := ih (i + 1) fu t (by omega) (by omega) (k1.keep0 (P := fun t => vt_I t 1605 (B + 643) = nI m) h5) (k1.keep0 (P := fun t => runT B t I m) ⟨t1, ⟨u1, u2, u3, u4⟩, t3⟩) (k1.keep0 (P := runLn B) ⟨l1, l2, l3, l4⟩) hA1
    refine ⟨s1, ?_, k1.trans b2, b3⟩
    show ab_X15_read_101b _ (B + 643) (nI i) s = _
    unfold ab_X15_read_101b
    rw [slet, h5, if_neg (nI_ge (by omega) (by omega)), vl_I_ok (by omega) (by omega), obs, x1, vs_I_ok (by omega) (by omega), obs, vl_I_ok (by rw [eL]; omega) (by rw [eL]; omega), obs, A_nf (show 1612 ≠ 1601 by decide), x2, vs_I_ok (by rw [eL]; omega) (by rw [eL]; omega), obs, vl_I_ok (by rw [eL, eL]; omega) (by rw [eL, eL]; omega), obs, A_nf (show 1613 ≠ 1602 by decide), A_nf (show 1613 ≠ 1601 by decide), x3, vs_I_ok (by rw [eL, eL]; omega) (by rw [eL, eL]; omega), obs, vl_I_ok (by rw [eL, eL, eL]; omega) (by rw [eL, eL, eL]; omega), obs, A_nf (show 1614 ≠ 1603 by decide), A_nf (show 1614 ≠ 1602 by decide), A_nf (show 1614 ≠ 1601 by decide), x4, nar_b, vs_I_ok (by rw [eL, eL, eL]; omega) (by rw [eL, eL, eL]; omega), obs, ← ht, nI_1]
    exact b1
def stT (B : Nat) (s : vt_S) (st : WS) : Prop := (vt_L s 1610 (B + 643) = 4 ∧ vt_L s 1600 (B + 643) = 4) ∧ vt_A s 1610 (B + 643) 0 = zI st.1 ∧ vt_A s 1610 (B + 643) 1 = zI st.2.1 ∧ vt_A s 1610 (B + 643) 2 = nI st.2.2.1 ∧ vt_A s 1610 (B + 643) 3 = nI st.2.2.2
theorem r_take {s : vt_S} (h7 : vt_I s 1617 (B + 643) = 0) (h15 : vt_I s 1615 (B + 643) = nI m) (hT : runT B s I m) (hL : runLn B s) (hs : stT B s st) : ∃ s1, ab_X15_read_54 (B + 643) s = some (0, s1) ∧ runR B s1 I m ∧ stR B s1 st ∧ vk [1605] [1600, 1601, 1602, 1603, 1604] [] (fun _ => True) s s1 := by
  obtain ⟨⟨u1, u2⟩, y0, y1, y2, y3⟩ := hs
  have hm := hT.1
  have eL : ∀ f a k v t, vt_L (vu_A t f a k v) = vt_L t := fun _ _ _ _ _ => Eq.trans rfl rfl
  obtain ⟨q, hq⟩ : ∃ q, sv_fuel = q + 5 := ⟨sv_fuel - 5, by have : 5 < sv_fuel := fuel_ge (by omega); omega⟩
  have one : ∀ (t : vt_S) (fu j : Nat) (v : Int32), j < 4 → vt_L t 1610 (B + 643) = 4 → vt_L t 1600 (B + 643) = 4 → vt_A t 1610 (B + 643) j = v → ab_X15_read_68 (fu + 1) (B + 643) (nI j) t = ab_X15_read_68 fu (B + 643) (nI (j + 1)) (vu_A t 1600 (B + 643) j v) := by
    intro t fu j v hj h1 h2 h3
    show ab_X15_read_68b _ (B + 643) (nI j) t = _
    unfold ab_X15_read_68b
    rw [show (4 : Int32) = nI 4 from rfl, if_neg (nI_ge (by omega) (by omega)), vl_I_ok (by omega) (by omega), obs, h3, vs_I_ok (by omega) (by omega), obs, nI_1]
  obtain ⟨t, ht⟩ : ∃ t, t = vu_A (vu_A (vu_A (vu_A s 1600 (B + 643) 0 (zI st.1)) 1600 (B + 643) 1 (zI st.2.1)) 1600 (B + 643) 2 (nI st.2.2.1)) 1600 (B + 643) 3 (nI st.2.2.2) := ⟨_, rfl⟩
  have k1 : vk [1605] [1600] [] (fun _ => True) s t := by rw [ht]; exact vk.pA (vk.pA (vk.pA (vk.pA (vk.refl s) (by decide)) (by decide)) (by decide)) (by decide)
  have hst : stR B t st := by
    unfold stR
    rw [ht]
    refine ⟨?_, ?_, ?_, ?_⟩
    · rw [A_at, if_neg (by decide), A_at, if_neg (by decide), A_at, if_neg (by decide), A_at, if_pos rfl]
    · rw [A_at, if_neg (by decide), A_at, if_neg (by decide), A_at, if_pos rfl]
    · rw [A_at, if_neg (by decide), A_at, if_pos rfl]
    · rw [A_at, if_pos rfl]
  have e4 : ab_X15_read_68 sv_fuel (B + 643) 0 s = ab_X15_read_68 (q + 1) (B + 643) (nI 4) t := by
    rw [hq, show (0 : Int32) = nI 0 from rfl, one s (q + 4) 0 _ (by omega) u1 u2 y0, one _ (q + 3) 1 (zI st.2.1) (by omega) (by rw [eL]; exact u1) (by rw [eL]; exact u2) (by rw [A_nf (by decide)]; exact y1), one _ (q + 2) 2 (nI st.2.2.1) (by omega) (by rw [eL, eL]; exact u1) (by rw [eL, eL]; exact u2) (by rw [A_nf (by decide), A_nf (by decide)]; exact y2), one _ (q + 1) 3 (nI st.2.2.2) (by omega) (by rw [eL, eL, eL]; exact u1) (by rw [eL, eL, eL]; exact u2) (by rw [A_nf (by decide), A_nf (by decide), A_nf (by decide)]; exact y3), ht]
  have t15 : vt_I t 1615 (B + 643) = nI m := by rw [k1.eI (by decide)]; exact h15
  clear ht
  have k2 : vk [1605] [1600] [] (fun _ => True) s (vu_I t 1605 (B + 643) (nI m)) := k1.pI (by decide)
  obtain ⟨s1, b1, b2, b3⟩ := r_take_loop (B := B) (I := I) (m := m) m 0 sv_fuel (vu_I t 1605 (B + 643) (nI m)) (by omega) (fuel_ge (by omega)) I_at (k2.keep0 (P := fun t => runT B t I m) hT) (k2.keep0 (P := runLn B) hL) (fun j hj => absurd hj (by omega))
  refine ⟨s1, ?_, b3, b2.keep0 (P := fun t => stR B t st) hst, (k2.weak (by decide) (by decide) (by decide)).trans (b2.weak (by decide) (by decide) (by decide))⟩
  unfold ab_X15_read_54
  rw [slet, h7, if_pos (by decide), e4]
  show ab_X15_read_68b _ (B + 643) (nI 4) t = _
  unfold ab_X15_read_68b
  rw [if_pos (by decide), slet, t15, slet]
  exact b1
end TK
