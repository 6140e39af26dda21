-- THE HALL is furnished: resets, sectors
section FN
variable {B n : Nat} {g : Nat → Nat} {s : vt_S}
theorem r_rst_loop {k : Nat} (hk : k ≤ 32) : ∀ (d i fu : Nat) (s : vt_S), i + d = k → d < fu → rS B s → vt_I s 1400 (B + 656) = nI k → ∃ s1, ab_X13_reset_2 fu (B + 656) (nI i) s = some ((), s1) := by
  intro d
  induction d with
  | zero =>
    intro i fu s hi hf hS h0
    obtain ⟨fu, rfl⟩ : ∃ q, fu = q + 1 := ⟨fu - 1, by omega⟩
    refine ⟨vu_I (vu_I (vu_I s 1415 (B + 656) 0) 1416 (B + 656) (-1)) 1417 (B + 656) 0, ?_⟩
    · show ab_X13_reset_2b _ (B + 656) (nI i) s = _
      unfold ab_X13_reset_2b
      rw [slet, h0, if_pos (nI_le (by omega) (by omega)), slet, slet, slet]
  | succ d ih =>
    intro i fu s hi hf hS h0
    obtain ⟨fu, rfl⟩ : ∃ q, fu = q + 1 := ⟨fu - 1, by omega⟩
    have L1 := hS.L1401
    have L2 := hS.L1402
    have M8 := hS.L1408
    have M9 := hS.L1409
    have M10 := hS.L1410
    have M11 := hS.L1411
    have M12 := hS.L1412
    have M13 := hS.L1413
    obtain ⟨v1, x1⟩ : ∃ v, v = vt_A s 1401 (B + 656) i := ⟨_, rfl⟩
    obtain ⟨v2, x2⟩ : ∃ v, v = vt_A s 1402 (B + 656) i := ⟨_, rfl⟩
    obtain ⟨t, ht⟩ : ∃ t, t = vu_A (vu_A (vu_A (vu_A (vu_A (vu_A s 1408 (B + 656) i v1) 1409 (B + 656) i v2) 1410 (B + 656) i (-1)) 1411 (B + 656) i 0) 1412 (B + 656) i 0) 1413 (B + 656) i (-1) := ⟨_, rfl⟩
    have k1 : vk [] [1408, 1409, 1410, 1411, 1412, 1413] [] (fun _ => True) s t := by rw [ht]; exact vk.pA (vk.pA (vk.pA (vk.pA (vk.pA (vk.pA (vk.refl s) (by decide)) (by decide)) (by decide)) (by decide)) (by decide)) (by decide)
    obtain ⟨s2, b1⟩ := ih (i + 1) fu t (by omega) (by omega) (k1.keep0 (P := rS B) hS) (k1.keep0 (P := fun t => vt_I t 1400 (B + 656) = nI k) h0)
    refine ⟨s2, ?_⟩
    show ab_X13_reset_2b _ (B + 656) (nI i) s = _
    unfold ab_X13_reset_2b
    have eL : ∀ f a v t, vt_L (vu_A t f a i v) = vt_L t := fun _ _ _ _ => Eq.trans rfl rfl
    rw [slet, h0, if_neg (nI_ge (by omega) (by omega)), vl_I_ok (by omega) (by omega), obs, ← x1, vs_I_ok (by omega) (by omega), obs, vl_I_ok (by rw [eL]; omega) (by rw [eL]; omega), obs, A_nf (by decide), ← x2, vs_I_ok (by rw [eL]; omega) (by rw [eL]; omega), obs, vs_I_ok (by rw [eL, eL]; omega) (by rw [eL, eL]; omega), obs, vs_I_ok (by rw [eL, eL, eL]; omega) (by rw [eL, eL, eL]; omega), obs, vs_I_ok (by rw [eL, eL, eL, eL]; omega) (by rw [eL, eL, eL, eL]; omega), obs, vs_I_ok (by rw [eL, eL, eL, eL, eL]; omega) (by rw [eL, eL, eL, eL, eL]; omega), obs, nI_1, ← ht]
    exact b1
theorem r_rst {k : Nat} (hk : k ≤ 32) (hS : rS B s) (h0 : vt_I s 1400 (B + 656) = nI k) : ∃ s1, ab_X13_reset (B + 656) s = some ((), s1) := r_rst_loop hk k 0 sv_fuel s (by omega) (fuel_ge (by omega)) hS h0
theorem r_clr_loop : ∀ (d i fu : Nat) (s : vt_S), i + d = 1024 → d < fu → rS B s → vt_I s 1400 (B + 656) = nI 0 → (∀ j, j < i → vt_A s 1406 (B + 656) j = 0) → ∃ s1 s0, ab_X13_clear_12 fu (B + 656) (nI i) s = some ((), s1) ∧ ab_X13_reset (B + 656) s0 = some ((), s1) ∧ vk [] [1406] [] (fun _ => True) s s0 ∧ (∀ j, j < 1024 → vt_A s0 1406 (B + 656) j = 0) := by
  intro d
  induction d with
  | zero =>
    intro i fu s hi hf hS h0 hA
    obtain ⟨fu, rfl⟩ : ∃ q, fu = q + 1 := ⟨fu - 1, by omega⟩
    obtain ⟨s1, a1⟩ := r_rst (k := 0) (by omega) hS h0
    refine ⟨s1, s, ?_, a1, vk.refl s, fun j hj => hA j (by omega)⟩
    show ab_X13_clear_12b _ (B + 656) (nI i) s = _
    unfold ab_X13_clear_12b
    rw [show (1024 : Int32) = nI 1024 from rfl, if_pos (nI_le (by omega) (by omega)), a1, vbs]
  | succ d ih =>
    intro i fu s hi hf hS h0 hA
    obtain ⟨fu, rfl⟩ : ∃ q, fu = q + 1 := ⟨fu - 1, by omega⟩
    have L := hS.L1406
    have k1 : vk [] [1406] [] (fun _ => True) s (vu_A s 1406 (B + 656) i 0) := vk.pA (vk.refl s) (by decide)
    obtain ⟨s1, s0, a1, a2, a3, a4⟩ := ih (i + 1) fu (vu_A s 1406 (B + 656) i 0) (by omega) (by omega) (k1.keep0 (P := rS B) hS) (k1.keep0 (P := fun t => vt_I t 1400 (B + 656) = nI 0) h0) (fun j hj => by
      rw [A_at]
      by_cases z : j = i
      · rw [if_pos z]
      · rw [if_neg z]; exact hA j (by omega))
    refine ⟨s1, s0, ?_, a2, k1.trans a3, a4⟩
    show ab_X13_clear_12b _ (B + 656) (nI i) s = _
    unfold ab_X13_clear_12b
    rw [show (1024 : Int32) = nI 1024 from rfl, if_neg (nI_ge (by omega) (by omega)), show vp_nar .boolean 0 = 0 from rfl, vs_I_ok (by omega) (by omega), obs, nI_1]
    exact a1
theorem r_clear (hS : rS B s) : ∃ s1, ab_X13_clear (B + 656) s = some ((), s1) ∧ vt_I s1 1400 (B + 656) = nI 0 ∧ (∀ j, j < 1024 → vt_A s1 1406 (B + 656) j = 0) := by
  obtain ⟨t, ht⟩ : ∃ t, t = vu_I (vu_I s 1400 (B + 656) 0) 1407 (B + 656) 0 := ⟨_, rfl⟩
  have k0 : vk [1400, 1407] [] [] (fun _ => True) s t := by rw [ht]; exact vk.pI (vk.pI (vk.refl s) (by decide)) (by decide)
  have z0 : vt_I t 1400 (B + 656) = nI 0 := by rw [ht, I_ne (by omega), I_at]; rfl
  obtain ⟨s1, s0, a1, a2, a3, a4⟩ := r_clr_loop (B := B) 1024 0 sv_fuel t (by omega) (fuel_ge (by omega)) (k0.keep0 (P := rS B) hS) z0 (fun j hj => absurd hj (by omega))
  have k1 := (vk_X13_reset vclT trivial a2).1
  refine ⟨s1, ?_, ?_, ?_⟩
  · unfold ab_X13_clear
    rw [slet, slet, ← ht]
    exact a1
  · rw [k1.eI (by decide), a3.eI (by decide)]; exact z0
  · exact k1.keep0 (P := fun t => ∀ j, j < 1024 → vt_A t 1406 (B + 656) j = 0) a4
theorem r_sec1 {k : Nat} {f c : Int} {l kd tg : Nat} (hk : k < 32) (hf : -1024 ≤ f) (hc : c ≤ 1024) (hfc : f < c) (hl : l < 16) (hkd : kd < 4) (htg : tg < 256) (hS : rS B s) (h0 : vt_I s 1400 (B + 656) = nI k) : ∃ s1, ab_X13_sector (B + 656) (zI f) (zI c) (nI l) (nI kd) (nI tg) s = some (nI k, s1) ∧ vt_I s1 1400 (B + 656) = nI (k + 1) ∧ (∀ j, vt_A s1 1401 (B + 656) j = if j = k then zI f else vt_A s 1401 (B + 656) j) ∧ (∀ j, vt_A s1 1402 (B + 656) j = if j = k then zI c else vt_A s 1402 (B + 656) j) ∧ (∀ j, vt_A s1 1403 (B + 656) j = if j = k then nI l else vt_A s 1403 (B + 656) j) ∧ (∀ j, vt_A s1 1404 (B + 656) j = if j = k then nI kd else vt_A s 1404 (B + 656) j) ∧ (∀ j, vt_A s1 1405 (B + 656) j = if j = k then nI tg else vt_A s 1405 (B + 656) j) := by
  have L1 := hS.L1401
  have L2 := hS.L1402
  have L3 := hS.L1403
  have L4 := hS.L1404
  have L5 := hS.L1405
  obtain ⟨t, ht⟩ : ∃ t, t = vu_A (vu_A (vu_A (vu_A (vu_A s 1401 (B + 656) k (zI f)) 1402 (B + 656) k (zI c)) 1403 (B + 656) k (nI l)) 1404 (B + 656) k (nI kd)) 1405 (B + 656) k (nI tg) := ⟨_, rfl⟩
  have kt : vk [1400] [1401, 1402, 1403, 1404, 1405] [] (fun _ => True) s t := by rw [ht]; exact vk.pA (vk.pA (vk.pA (vk.pA (vk.pA (vk.refl s) (by decide)) (by decide)) (by decide)) (by decide)) (by decide)
  have tI : vt_I t = vt_I s := by rw [ht]; exact Eq.trans rfl rfl
  have eL : ∀ f a v t, vt_L (vu_A t f a k v) = vt_L t := fun _ _ _ _ => Eq.trans rfl rfl
  have ku : vk [1400] [1401, 1402, 1403, 1404, 1405] [] (fun _ => True) s (vu_I t 1400 (B + 656) (nI (k + 1))) := vk.pI kt (by decide)
  obtain ⟨s1, a1⟩ := r_rst (k := k + 1) (by omega) (ku.keep0 (P := rS B) hS) I_at
  have k1 := (vk_X13_reset vclT trivial a1).1
  have z1 : vt_I s1 1400 (B + 656) = nI (k + 1) := by rw [k1.eI (by decide)]; exact I_at
  have tA : ∀ f', f' ∈ [1401, 1402, 1403, 1404, 1405] → vt_A s1 f' (B + 656) = vt_A t f' (B + 656) := by
    intro f' hf'
    have : f' ∉ [1408, 1409, 1410, 1411, 1412, 1413] := by
      intro z
      simp only [List.mem_cons, List.not_mem_nil, or_false] at hf' z
      omega
    exact (k1.2.2.1 f' (B + 656) (Or.inl this)).1
  refine ⟨s1, ?_, z1, fun j => ?_, fun j => ?_, fun j => ?_, fun j => ?_, fun j => ?_⟩
  · unfold ab_X13_sector
    rw [show (-1024 : Int32) = zI (-1024) from rfl, show (1024 : Int32) = zI 1024 from rfl, if_neg (by rw [zI_lt (by omega) (by omega) (by omega) (by omega)]; omega), if_neg (by rw [zI_lt (by omega) (by omega) (by omega) (by omega)]; omega), if_neg (by rw [zI_le (by omega) (by omega) (by omega) (by omega)]; omega)]
    rw [show (0 : Int32) = nI 0 from rfl, show (16 : Int32) = nI 16 from rfl, show (4 : Int32) = nI 4 from rfl, show (256 : Int32) = nI 256 from rfl, if_neg (Int32.not_lt.mpr (nI_le (a := 0) (b := l) (by omega) (by omega))), if_neg (nI_ge (by omega) (by omega)), if_neg (Int32.not_lt.mpr (nI_le (a := 0) (b := kd) (by omega) (by omega))), if_neg (nI_ge (by omega) (by omega)), if_neg (Int32.not_lt.mpr (nI_le (a := 0) (b := tg) (by omega) (by omega))), if_neg (nI_ge (by omega) (by omega)), slet, h0, show (32 : Int32) = nI 32 from rfl, if_neg (nI_ge (by omega) (by omega))]
    unfold ab_X13_sector_67
    rw [if_neg (by decide), slet, h0, vs_I_ok (by omega) (by omega), obs, slet, I_A, h0, vs_I_ok (by rw [eL]; omega) (by rw [eL]; omega), obs, slet, I_A, I_A, h0, vs_I_ok (by rw [eL, eL]; omega) (by rw [eL, eL]; omega), obs, slet, I_A, I_A, I_A, h0, vs_I_ok (by rw [eL, eL, eL]; omega) (by rw [eL, eL, eL]; omega), obs, slet, I_A, I_A, I_A, I_A, h0, vs_I_ok (by rw [eL, eL, eL, eL]; omega) (by rw [eL, eL, eL, eL]; omega), obs, ← ht, slet, tI, h0, nI_1, slet, a1, vbs, slet, z1, (z_down k).1]
  · rw [tA 1401 (by decide), ht]
    simp (disch := decide) only [A_nf]
    rw [A_at]
  · rw [tA 1402 (by decide), ht]
    simp (disch := decide) only [A_nf]
    rw [A_at]
    simp (disch := decide) only [A_nf]
  · rw [tA 1403 (by decide), ht]
    simp (disch := decide) only [A_nf]
    rw [A_at]
    simp (disch := decide) only [A_nf]
  · rw [tA 1404 (by decide), ht]
    simp (disch := decide) only [A_nf]
    rw [A_at]
    simp (disch := decide) only [A_nf]
  · rw [tA 1405 (by decide), ht, A_at]
    simp (disch := decide) only [A_nf]
end FN
