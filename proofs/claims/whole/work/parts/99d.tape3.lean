-- THE TAPE: a group's input is added so often
section T3
variable {B n : Nat} {g : Nat → Nat} {F : Nat → IN}
theorem t_add1 {s : vt_S} {i : IN} {c : Nat} (hc : c < 1024) (hi : inOk i) (hF : F c = i) (h15 : vt_I s 1615 (B + 643) = nI c) (hT : runT B s F c) : ∃ s1, (∀ (K : vt_S → Option (Unit × vt_S)), ((vs_I s 1611 (B + 643) (nI c) (zI i.1)).bind fun h4 => sv_let (vt_I h4 1615 (B + 643)) fun v6 => (vs_I h4 1612 (B + 643) v6 (zI i.2.1)).bind fun h7 => sv_let (vt_I h7 1615 (B + 643)) fun v9 => (vs_I h7 1613 (B + 643) v9 (zI i.2.2.1)).bind fun h10 => sv_let (vt_I h10 1615 (B + 643)) fun v12 => (vs_I h10 1614 (B + 643) v12 (vp_nar .boolean (bI i.2.2.2))).bind fun h13 => sv_let (vt_I h13 1615 (B + 643)) fun v14 => sv_let (vu_I h13 1615 (B + 643) (v14 + 1)) fun h15 => K h15) = K s1) ∧ vk [1615] [1611, 1612, 1613, 1614] [] (fun _ => True) s s1 ∧ vt_I s1 1615 (B + 643) = nI (c + 1) ∧ runT B s1 F (c + 1) := by
  obtain ⟨t1, ⟨l1, l2, l3, l4⟩, t3⟩ := hT
  have eL : ∀ f a k v t, vt_L (vu_A t f a k v) = vt_L t := fun _ _ _ _ _ => Eq.trans rfl rfl
  obtain ⟨t, ht⟩ : ∃ t, t = vu_A (vu_A (vu_A (vu_A s 1611 (B + 643) c (zI i.1)) 1612 (B + 643) c (zI i.2.1)) 1613 (B + 643) c (zI i.2.2.1)) 1614 (B + 643) c (bI i.2.2.2) := ⟨_, rfl⟩
  have tI : vt_I t = vt_I s := by rw [ht]; exact Eq.trans rfl rfl
  have tL : vt_L t = vt_L s := by rw [ht, eL, eL, eL, eL]
  have k1 : vk [1615] [1611, 1612, 1613, 1614] [] (fun _ => True) s t := by rw [ht]; exact vk.pA (vk.pA (vk.pA (vk.pA (vk.refl s) (by decide)) (by decide)) (by decide)) (by decide)
  refine ⟨vu_I t 1615 (B + 643) (nI (c + 1)), fun K => ?_, k1.pI (by decide), I_at, by omega, ?_, fun j hj => ?_⟩
  · rw [vs_I_ok (by omega) (by omega), obs, slet, I_A, h15, vs_I_ok (by rw [eL]; omega) (by rw [eL]; omega), obs, slet, I_A, I_A, h15, vs_I_ok (by rw [eL, eL]; omega) (by rw [eL, eL]; omega), obs, slet, I_A, I_A, I_A, h15, nar_b, vs_I_ok (by rw [eL, eL, eL]; omega) (by rw [eL, eL, eL]; omega), obs, ← ht, slet, tI, h15, slet, nI_1]
  · show vt_L t 1611 (B + 643) = 1024 ∧ vt_L t 1612 (B + 643) = 1024 ∧ vt_L t 1613 (B + 643) = 1024 ∧ vt_L t 1614 (B + 643) = 1024
    rw [tL]
    exact ⟨l1, l2, l3, l4⟩
  · show (vt_A t 1611 (B + 643) j = _ ∧ vt_A t 1612 (B + 643) j = _ ∧ vt_A t 1613 (B + 643) j = _ ∧ vt_A t 1614 (B + 643) j = _) ∧ inOk (F j)
    rw [ht, A_at, A_nf (show 1611 ≠ 1614 by decide), A_nf (show 1611 ≠ 1613 by decide), A_nf (show 1611 ≠ 1612 by decide), A_at, A_nf (show 1612 ≠ 1614 by decide), A_nf (show 1612 ≠ 1613 by decide), A_at, A_nf (show 1613 ≠ 1614 by decide), A_at]
    by_cases z : j = c
    · rw [if_pos z, if_pos z, if_pos z, if_pos z, z, hF]; exact ⟨⟨rfl, rfl, rfl, rfl⟩, hi⟩
    · rw [if_neg z, if_neg z, if_neg z, if_neg z]
      simp (disch := decide) only [A_nf]
      exact t3 j (by omega)
theorem t_add_loop {i : IN} {t : Nat} (hi : inOk i) (ht : t ≤ 63) : ∀ (d k fu : Nat) (s : vt_S) (c : Nat), k + d = t → d < fu → vt_I s 1617 (B + 643) = 0 → vt_I s 1615 (B + 643) = nI c → c + d ≤ 1024 → (∀ j, c ≤ j → F j = i) → runT B s F c → ∃ s1, ab_X15_readGroup_229 fu (B + 643) (nI t) (zI i.1) (zI i.2.1) (zI i.2.2.1) (bI i.2.2.2) (nI k) s = some ((), s1) ∧ vk [1615] [1611, 1612, 1613, 1614] [] (fun _ => True) s s1 ∧ vt_I s1 1615 (B + 643) = nI (c + d) ∧ runT B s1 F (c + d) := by
  intro d
  induction d with
  | zero =>
    intro k fu s c hk hf h7 h15 hc hF hT
    obtain ⟨fu, rfl⟩ : ∃ q, fu = q + 1 := ⟨fu - 1, by omega⟩
    refine ⟨s, ?_, vk.refl s, h15, hT⟩
    show ab_X15_readGroup_229b _ (B + 643) (nI t) _ _ _ _ (nI k) s = _
    unfold ab_X15_readGroup_229b ab_X15_readGroup_303
    rw [if_pos (nI_le (by omega) (by omega))]
  | succ d ih =>
    intro k fu s c hk hf h7 h15 hc hF hT
    obtain ⟨fu, rfl⟩ : ∃ q, fu = q + 1 := ⟨fu - 1, by omega⟩
    obtain ⟨s1, a1, a2, a3, a4⟩ := t_add1 (by omega) hi (hF c (Nat.le_refl _)) h15 hT
    obtain ⟨s2, b1, b2, b3, b4⟩ := ih (k + 1) fu s1 (c + 1) (by omega) (by omega) (by rw [a2.eI (by decide)]; exact h7) a3 (by omega) (fun j hj => hF j (by omega)) a4
    refine ⟨s2, ?_, a2.trans b2, by rw [b3, show c + 1 + d = c + (d + 1) by omega], by rw [show c + (d + 1) = c + 1 + d by omega]; exact b4⟩
    show ab_X15_readGroup_229b _ (B + 643) (nI t) _ _ _ _ (nI k) s = _
    unfold ab_X15_readGroup_229b
    rw [if_neg (nI_ge (by omega) (by omega)), slet, h7, if_pos rfl, slet, h15, nI_1]
    rw [a1]
    exact b1
theorem t_add_bad {t : Nat} {x5 x6 x7 x8 : Int32} {fu k : Nat} {s : vt_S} (h7 : ¬ vt_I s 1617 (B + 643) = 0) : ab_X15_readGroup_229 (fu + 1) (B + 643) (nI t) x5 x6 x7 x8 (nI k) s = some ((), s) := by
  show ab_X15_readGroup_229b _ (B + 643) (nI t) _ _ _ _ (nI k) s = _
  unfold ab_X15_readGroup_229b ab_X15_readGroup_303
  rw [slet, if_neg h7]
  split <;> rfl
end T3
