-- loadMap, the reference
def mapSt (g : Nat → Nat) : WS := (pr g (stp g), pr g (stp g + 2), g (stp g + 4), g (stp g + 5))
section RL
variable {B n : Nat} {g : Nat → Nat}
theorem r_lm68 {s : vt_S} (hk : rWk B g n s) (hS : rS B s) : ∃ s0 s1, ab_X17_loadMap_68 sv_fuel (B + 639) 0 s = some (0, s1) ∧ ab_X17_begin (B + 639) s0 = some ((), s1) ∧ vk [] [1600] [] (fun _ => True) s s0 ∧ stR B s0 (mapSt g) ∧ rWk B g n s1 ∧ secsR s1 (B + 656) (g 5) (rest0 g) ∧ wkR B s1 ((mapSt g).1, (mapSt g).2.1, (mapSt g).2.2.2) ∧ vt_I s1 1813 (B + 639) = nI (mapSt g).2.2.1 ∧ hTk B s1 = 0 := by
  obtain ⟨q, hq⟩ : ∃ q, sv_fuel = q + 5 := ⟨sv_fuel - 5, by have : 5 < sv_fuel := fuel_ge (by omega); omega⟩
  have one : ∀ (t : vt_S) (fu j : Nat) (v : Int32), j < 4 → vk [] [1600] [] (fun _ => True) s t → (∀ u, rMap B g n u → ab_X14_start (B + 640) (nI j) u = some (v, u)) → ab_X17_loadMap_68 (fu + 1) (B + 639) (nI j) t = ab_X17_loadMap_68 fu (B + 639) (nI (j + 1)) (vu_A t 1600 (B + 643) j v) ∧ vk [] [1600] [] (fun _ => True) s (vu_A t 1600 (B + 643) j v) := by
    intro t fu j v hj kt hv
    refine ⟨?_, vk.pA kt (by decide)⟩
    have St : rS B t := kt.keep0 (P := rS B) hS
    have L := St.L1600
    show ab_X17_loadMap_68b _ (B + 639) (nI j) t = _
    unfold ab_X17_loadMap_68b
    rw [show (4 : Int32) = nI 4 from rfl, if_neg (nI_ge (by omega) (by omega)), slet, slet, St.P1802, St.P1801, hv t (kt.keep0 (P := rMap B g n) hk.1), vbs, vs_I_ok (by omega) (by omega), obs, nI_1]
  obtain ⟨a1, a2⟩ := one s (q + 4) 0 (zI (pr g (stp g))) (by omega) (vk.refl s) (fun u hu => (rm_start01 hu).1)
  obtain ⟨b1, b2⟩ := one _ (q + 3) 1 (zI (pr g (stp g + 2))) (by omega) a2 (fun u hu => (rm_start01 hu).2)
  obtain ⟨c1, c2⟩ := one _ (q + 2) 2 (nI (g (stp g + 4))) (by omega) b2 (fun u hu => rm_start hu (k := 2) (by omega) (by omega))
  obtain ⟨d1, d2⟩ := one _ (q + 1) 3 (nI (g (stp g + 5))) (by omega) c2 (fun u hu => rm_start hu (k := 3) (by omega) (by omega))
  obtain ⟨t, ht⟩ : ∃ t, t = vu_A (vu_A (vu_A (vu_A s 1600 (B + 643) 0 (zI (pr g (stp g)))) 1600 (B + 643) 1 (zI (pr g (stp g + 2)))) 1600 (B + 643) 2 (nI (g (stp g + 4)))) 1600 (B + 643) 3 (nI (g (stp g + 5))) := ⟨_, rfl⟩
  rw [← ht] at d1 d2
  have hst : stR B t (mapSt g) := by
    unfold stR
    rw [ht]
    refine ⟨?_, ?_, ?_, ?_⟩
    · rw [A_at, if_neg (by decide), A_at, if_neg (by decide), A_at, if_neg (by decide), A_at, if_pos rfl]; rfl
    · rw [A_at, if_neg (by decide), A_at, if_neg (by decide), A_at, if_pos rfl]; rfl
    · rw [A_at, if_neg (by decide), A_at, if_pos rfl]; rfl
    · rw [A_at, if_pos rfl]; rfl
  have St : rS B t := d2.keep0 (P := rS B) hS
  obtain ⟨s1, e1, e2, e3, e4, e5, e6⟩ := r_begun (d2.keep0 (P := rWk B g n) hk) St.P1802 St.L1600 hst
  refine ⟨t, s1, ?_, e1, d2, hst, e2, e3, e4, e5, e6⟩
  rw [hq, show (0 : Int32) = nI 0 from rfl, a1, b1, c1, d1]
  show ab_X17_loadMap_68b _ (B + 639) (nI 4) t = _
  unfold ab_X17_loadMap_68b
  rw [if_pos (by decide), e1, vbs]
  rfl
theorem r_loadMap {s : vt_S} {v : Int32} (hS : rS B s) (hI : rIn B s g n) (hv : vt_I s 1810 (B + 639) = v) : ∃ s1, ab_X17_loadMap (B + 639) s = some (fz (pMp g n), s1) ∧ vt_I s1 1807 (B + 639) = fz (pMp g n) ∧ vt_I s1 1808 (B + 639) = pz (pMp g n) ∧ (∀ q, pMp g n = .ok q → rWk B g n s1 ∧ secsR s1 (B + 656) (g 5) (rest0 g) ∧ wkR B s1 ((mapSt g).1, (mapSt g).2.1, (mapSt g).2.2.2) ∧ vt_I s1 1813 (B + 639) = nI (mapSt g).2.2.1 ∧ hTk B s1 = 0 ∧ tTh B g s1 ∧ vt_I s1 1705 (B + 670) = 0 ∧ vt_I s1 1605 (B + 643) = 0 ∧ stR B s1 (mapSt g) ∧ vt_I s1 1810 (B + 639) = v + 1) ∧ (∀ e, pMp g n = .error e → vk [1504, 1505, 1506, 1507, 1508, 1509, 1800, 1807, 1808] [] [] (fun _ => True) s s1) := by
  obtain ⟨t, ht⟩ : ∃ t, t = vu_I s 1800 (B + 639) 0 := ⟨_, rfl⟩
  have k0 : vk [1504, 1505, 1506, 1507, 1508, 1509, 1800, 1807, 1808] [] [] (fun _ => True) s t := by rw [ht]; exact vk.pI (vk.refl s) (by decide)
  have St : rS B t := k0.keep0 (P := rS B) hS
  obtain ⟨s1, a1, a2, a3, a4⟩ := r_readMap St (k0.keep0 (P := fun t => rIn B t g n) hI)
  have k1 := (vk_X14_read vclT trivial a1).1
  obtain ⟨t1, ht1⟩ : ∃ t, t = vu_I (vu_I s1 1807 (B + 639) (fz (pMp g n))) 1808 (B + 639) (pz (pMp g n)) := ⟨_, rfl⟩
  have kt : vk [1807, 1808] [] [] (fun _ => True) s1 t1 := by rw [ht1]; exact vk.pI (vk.pI (vk.refl s1) (by decide)) (by decide)
  have z7 : vt_I t1 1807 (B + 639) = fz (pMp g n) := by rw [ht1, I_ne (by omega), I_at]
  have z8 : vt_I t1 1808 (B + 639) = pz (pMp g n) := by rw [ht1, I_at]
  have S1 : rS B s1 := k1.keep0 (P := rS B) St
  have T1 : rS B t1 := kt.keep0 (P := rS B) S1
  obtain ⟨X, hX⟩ : ∃ X : vt_S → Option (Int32 × vt_S), X = fun h8 => (vq_Z h8 1809 (B + 639) 1).bind fun h10 => sv_let (vt_I h10 1810 (B + 639)) fun v11 => sv_let (vu_I h10 1810 (B + 639) (v11 + 1)) fun h12 => vt_b (ab_X17_furnish (B + 639) h12) fun _ h13 => sv_let (vt_P h13 1802 (B + 639)) fun v14 => sv_let (vu_I h13 1605 v14 0) fun h15 => ab_X17_loadMap_68 sv_fuel (B + 639) 0 h15 := ⟨_, rfl⟩
  have e0 : ab_X17_loadMap (B + 639) s = if fz (pMp g n) ≤ 0 then X t1 else some (fz (pMp g n), t1) := by
    unfold ab_X17_loadMap
    rw [slet, ← ht, slet, St.P1801, a1, vbs, slet, slet, slet, slet, slet, slet]
    rw [show vt_P (vu_I s1 1807 (B + 639) (fz (pMp g n))) 1801 (B + 639) = B + 640 from S1.P1801, I_ne (show ¬ (1505 = 1807 ∧ B + 640 = B + 639) by omega), a2, ← ht1, z7, hX]
  rw [e0]
  cases hst : pMp g n with
  | error e =>
    rw [hst] at z7 z8
    obtain ⟨⟨y1, y2⟩, y3⟩ := a4 e hst
    rw [if_neg (show ¬ fz (.error e) ≤ 0 from nI_ge (a := 0) (b := e.1) (by omega) (by omega))]
    exact ⟨t1, rfl, z7, z8, fun q z => (by cases z), fun _ _ => (k0.trans (y3.weak (by decide) (by decide) (by decide))).trans (kt.weak (by decide) (by decide) (by decide))⟩
  | ok q =>
    rw [hst] at z7 z8
    rw [if_pos (show fz (.ok q) ≤ 0 from (by decide : (0 : Int32) ≤ 0))]
    obtain ⟨t2, ht2⟩ : ∃ t, t = vu_I (vu_I t1 1809 (B + 639) 1) 1810 (B + 639) (v + 1) := ⟨_, rfl⟩
    have k2 : vk [1809, 1810] [] [] (fun _ => True) t1 t2 := by rw [ht2]; exact vk.pI (vk.pI (vk.refl t1) (by decide)) (by decide)
    have m2 : rMa B g n t2 := ⟨k2.keep0 (P := rS B) T1, k2.keep0 (P := rMap B g n) (kt.keep0 (P := rMap B g n) (a3 q hst)), by rw [ht2, I_ne (by omega), I_at]⟩
    obtain ⟨s3, b1, b2, b3, b4, b5, b6⟩ := r_furnish m2
    have k3 := (vk_X17_furnish vclT trivial b1).1
    obtain ⟨t3, ht3⟩ : ∃ t, t = vu_I s3 1605 (B + 643) 0 := ⟨_, rfl⟩
    have k4 : vk [1605] [] [] (fun _ => True) s3 t3 := by rw [ht3]; exact vk.pI (vk.refl s3) (by decide)
    have w3 : rWk B g n s3 := ⟨b2.2.1, b3, b4, b2.1.P1801, b2.1.P1803, b2.1.L1820, b2.2.2⟩
    obtain ⟨s4, s5, c1, c2, c3, c4, c5, c6, c7, c8, c9⟩ := r_lm68 (k4.keep0 (P := rWk B g n) w3) (k4.keep0 (P := rS B) b2.1)
    have k5 := (vk_X17_begin vclT trivial c2).1
    have z10 : vt_I t1 1810 (B + 639) = v := by
      rw [kt.eI (by decide), k1.eI (by decide), k0.eI (by decide)]; exact hv
    have eX : X t1 = some (0, s5) := by
      rw [hX]
      dsimp only
      unfold vq_Z
      rw [if_pos (Or.inr rfl), obs, slet, I_ne (by omega), z10, slet, ← ht2, b1, vbs, slet, b2.1.P1802, slet, ← ht3, c1]
    have q5 : ∀ f, f ∈ [1807, 1808, 1810] → vt_I s5 f (B + 639) = vt_I t2 f (B + 639) := by
      intro f hf
      have n1 : f ∉ [1415, 1416, 1417, 1811, 1812, 1813, 1814] := by
        intro z; simp only [List.mem_cons, List.not_mem_nil, or_false] at hf z; omega
      have n2 : f ∉ ([] : List Nat) := by intro z; cases z
      have n3 : f ∉ [1605] := by
        intro z; simp only [List.mem_cons, List.not_mem_nil, or_false] at hf z; omega
      have n4 : f ∉ [1400, 1407, 1415, 1416, 1417, 1705] := by
        intro z; simp only [List.mem_cons, List.not_mem_nil, or_false] at hf z; omega
      rw [k5.eI n1, c3.eI n2, k4.eI n3, k3.eI n4]
    refine ⟨s5, eX, ?_, ?_, fun _ _ => ⟨c5, c6, c7, c8, c9, ?_, ?_, ?_, ?_, ?_⟩, fun _ z => (by cases z)⟩
    · rw [q5 1807 (by decide), k2.eI (by decide)]; exact z7
    · rw [q5 1808 (by decide), k2.eI (by decide)]; exact z8
    · exact k5.keep0 (P := tTh B g) (c3.keep0 (P := tTh B g) (k4.keep0 (P := tTh B g) b5))
    · rw [k5.eI (by decide), c3.eI (by decide), k4.eI (by decide)]; exact b6
    · rw [k5.eI (by decide), c3.eI (by decide), ht3, I_at]
    · exact k5.keep0 (P := fun t => stR B t (mapSt g)) c4
    · rw [q5 1810 (by decide), ht2, I_at]
end RL
