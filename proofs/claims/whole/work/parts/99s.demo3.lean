-- loadDemo, the reference
section DR
variable {B n nm mp : Nat} {g gm : Nat → Nat}
theorem r_cpy : ∀ (d i fu : Nat) (s : vt_S), i + d = n → d < fu → rIn B s g n → vt_P s 1801 (B + 639) = B + 640 → vt_P s 1802 (B + 639) = B + 643 → vt_L s 1608 (B + 643) = 8192 → vt_L s 1500 (B + 640) = 8192 → (∀ j, j < i → vt_A s 1608 (B + 643) j = nI (g j)) → ∃ s1, ab_X17_loadDemo_7 fu (B + 639) (nI i) s = ab_X17_loadDemo_7b (fun _ _ _ => none) (B + 639) (nI n) s1 ∧ vk [] [1608] [] (fun _ => True) s s1 ∧ ∀ j, j < n → vt_A s1 1608 (B + 643) j = nI (g j) := by
  intro d
  induction d with
  | zero =>
    intro i fu s hi hf hI h1 h2 l1 l2 hA
    obtain ⟨fu, rfl⟩ : ∃ q, fu = q + 1 := ⟨fu - 1, by omega⟩
    refine ⟨s, ?_, vk.refl s, fun j hj => hA j (by omega)⟩
    rw [show i = n by omega]
    show ab_X17_loadDemo_7b _ (B + 639) (nI n) s = _
    unfold ab_X17_loadDemo_7b
    have c : nI n ≤ nI n := nI_le (Nat.le_refl _) (by have := hI.2.1; omega)
    simp only [sv_let, h1, hI.1, if_pos c]
  | succ d ih =>
    intro i fu s hi hf hI h1 h2 l1 l2 hA
    obtain ⟨fu, rfl⟩ : ∃ q, fu = q + 1 := ⟨fu - 1, by omega⟩
    have n8 := hI.2.1
    obtain ⟨x1, x2⟩ := hI.2.2 i (by omega)
    have k1 : vk [] [1608] [] (fun _ => True) s (vu_A s 1608 (B + 643) i (nI (g i))) := vk.pA (vk.refl s) (by decide)
    obtain ⟨s1, a1, a2, a3⟩ := ih (i + 1) fu (vu_A s 1608 (B + 643) i (nI (g i))) (by omega) (by omega) (k1.keep0 (P := fun t => rIn B t g n) hI) (k1.keep0 (P := fun t => vt_P t 1801 (B + 639) = B + 640) h1) (k1.keep0 (P := fun t => vt_P t 1802 (B + 639) = B + 643) h2) (k1.keep0 (P := fun t => vt_L t 1608 (B + 643) = 8192) l1) (k1.keep0 (P := fun t => vt_L t 1500 (B + 640) = 8192) l2) (fun j hj => by
      rw [A_at]
      by_cases z : j = i
      · rw [if_pos z, z]
      · rw [if_neg z]; exact hA j (by omega))
    refine ⟨s1, ?_, k1.trans a2, a3⟩
    rw [← a1]
    show ab_X17_loadDemo_7b _ (B + 639) (nI i) s = _
    unfold ab_X17_loadDemo_7b
    rw [slet, slet, h1, hI.1, if_neg (nI_ge (by omega) (by omega)), slet, slet, h2, vl_I_ok (by omega) (by omega), obs, x1, sg8_and x2, vs_I_ok (by omega) (by omega), obs, nI_1]
theorem TpS.fp {s : vt_S} {st : PE} (h : TpS B g n st s) : vt_I s 1617 (B + 643) = fz st ∧ vt_I s 1618 (B + 643) = pz st := by
  cases st with
  | ok p => exact ⟨h.2.2.1, h.2.2.2.1⟩
  | error e => exact ⟨h.2.2.1, h.2.2.2.2.2⟩
def rMp (B : Nat) (s : vt_S) (gm : Nat → Nat) (nm mp : Nat) : Prop := if 0 < mp then rWk B gm nm s else vt_I s 1809 (B + 639) = 0
theorem r_secN {s : vt_S} (h : rMp B s gm nm mp) : ab_X17_sectors (B + 639) s = some (nI (secN mp gm), s) := by
  unfold rMp at h
  unfold secN
  by_cases c : 0 < mp
  · rw [if_pos c] at h ⊢
    exact r_sectors h.1 h.2.2.2.2.2.2 h.2.2.2.1
  · rw [if_neg c] at h ⊢
    unfold ab_X17_sectors ab_X17_sectors_19
    rw [slet, h, if_pos rfl]
    rfl
theorem r_readT {s : vt_S} {S : Nat} (hS : S < 256) (hR : rS B s) (h9 : vt_I s 1609 (B + 643) = nI n) (n8 : n ≤ 8192) (hA : ∀ i, i < n → vt_A s 1608 (B + 643) i = nI (g i) ∧ g i < 256) : ∃ s1, ab_X15_read (B + 643) (nI S) s = some (fz (pDemo g n S), s1) ∧ vt_I s1 1618 (B + 643) = pz (pDemo g n S) ∧ (∀ q, pDemo g n S = .ok q → runR B s1 (rdI g n) (rdM g n) ∧ stR B s1 (rdS g) ∧ g 8 < S ∧ g 7 ≤ 63) ∧ (∀ e, pDemo g n S = .error e → (e.1 ≠ 0 ∧ e.1 < 100) ∧ vk [1615, 1616, 1617, 1618, 1619, 1620] [1610, 1611, 1612, 1613, 1614] [] (fun _ => True) s s1) := by
  obtain ⟨t, ht⟩ : ∃ t, t = vu_I (vu_I (vu_I (vu_I (vu_I s 1616 (B + 643) 0) 1617 (B + 643) 0) 1618 (B + 643) (-1)) 1619 (B + 643) 1) 1620 (B + 643) 0 := ⟨_, rfl⟩
  have k0 : vk [1616, 1617, 1618, 1619, 1620] [] [] (fun _ => True) s t := by rw [ht]; exact vk.pI (vk.pI (vk.pI (vk.pI (vk.pI (vk.refl s) (by decide)) (by decide)) (by decide)) (by decide)) (by decide)
  have hT : TpS B g n (.ok 0) t := by
    refine ⟨k0.keep0 (P := fun t => vt_I t 1609 (B + 643) = nI n ∧ n ≤ 8192 ∧ vt_L t 1608 (B + 643) = 8192 ∧ ∀ i, i < n → vt_A t 1608 (B + 643) i = nI (g i) ∧ g i < 256) ⟨h9, n8, hR.L1608, hA⟩, ⟨0, ?_, Nat.zero_le _⟩, ?_, ?_, ?_, Nat.zero_le _, ?_, ?_⟩
    · rw [ht, I_ne (by omega), I_ne (by omega), I_ne (by omega), I_ne (by omega), I_at]; rfl
    · rw [ht, I_ne (by omega), I_ne (by omega), I_ne (by omega), I_at]
    · rw [ht, I_ne (by omega), I_ne (by omega), I_at]
    · rw [ht, I_ne (by omega), I_ne (by omega), I_ne (by omega), I_ne (by omega), I_at]; rfl
    · rw [ht, I_ne (by omega), I_at]; rfl
    · rw [ht, I_at]; rfl
  have rt : rS B t := k0.keep0 (P := rS B) hR
  obtain ⟨s1, a1, a2, a3, a4⟩ := t_readAll hT rt.L1610 rt.L1600 ⟨rt.L1611, rt.L1612, rt.L1613, rt.L1614⟩
  have k1 : vk [1615, 1616, 1617, 1618, 1619, 1620] [1610, 1611, 1612, 1613, 1614] [] (fun _ => True) s s1 := (k0.weak (by decide) (by decide) (by decide)).trans a3
  have r1 : rS B s1 := k1.keep0 (P := rS B) hR
  have L1 : vt_L s1 1610 (B + 643) = 4 := r1.L1610
  have e0 : ab_X15_read (B + 643) (nI S) s = if vt_I s1 1617 (B + 643) = 0 then (vl_I s1 1610 (B + 643) 3).bind fun v9 => if v9 < nI S then ab_X15_read_54 (B + 643) s1 else vt_b (ab_X15_wrong (B + 643) 8 8 s1) fun _ h10 => ab_X15_read_54 (B + 643) h10 else ab_X15_read_54 (B + 643) s1 := by
    unfold ab_X15_read
    rw [slet, slet, slet, slet, slet, ← ht, a1, vbs, slet]
  have bad : ∀ {e : Nat × Nat} {t : vt_S}, TpS B g n (.error e) t → ab_X15_read_54 (B + 643) t = some (nI e.1, t) := by
    intro e t h
    have z := h.fp.1
    have z : vt_I t 1617 (B + 643) = nI e.1 := z
    unfold ab_X15_read_54
    rw [slet, slet, z, if_neg (show ¬ nI e.1 ≤ 0 from nI_ge (a := 0) (b := e.1) (by have := h.2.2.2.1; omega) (by have := h.2.2.2.2.1; omega))]
  rw [e0]
  unfold pDemo
  cases hst : pRun g n with
  | error e =>
    rw [hst] at a2
    rw [if_neg a2.bad, bad a2]
    exact ⟨s1, rfl, a2.fp.2, fun q z => (by cases z), fun _ z => (by cases z; exact ⟨⟨a2.2.2.2.1, a2.2.2.2.2.1⟩, k1⟩)⟩
  | ok q =>
    rw [hst] at a2
    have z7 : vt_I s1 1617 (B + 643) = 0 := a2.2.2.1
    obtain ⟨x1, x2, x3⟩ := a4 q hst
    obtain ⟨h1, -⟩ := pRun_ok hst
    obtain ⟨-, -, h7, h8, -⟩ := pHed_ok h1
    have z8 : vt_A s1 1610 (B + 643) 3 = nI (g 8) := x1.2.2.2.2
    rw [z7, if_pos rfl, show (3 : Int32) = nI 3 from rfl, vl_I_ok (by omega) (by omega), obs, z8]
    by_cases c : g 8 < S
    · have e2 : pbd (.ok q) (fun q => if g 8 < S then .ok q else .error (8, 8)) = .ok q := if_pos c
      rw [if_pos (nI_lt c (by omega)), e2]
      have lr : runLn B s1 := ⟨r1.L1601, r1.L1602, r1.L1603, r1.L1604⟩
      obtain ⟨s2, b1, b2, b3, b4⟩ := r_take z7 x2 x3 lr x1
      have k2 : vt_I s2 1618 (B + 643) = -1 := by rw [b4.eI (by decide)]; exact a2.fp.2
      exact ⟨s2, b1, k2, fun r z => ⟨b2, b3, c, h7⟩, fun e z => (by cases z)⟩
    · obtain ⟨s2, w1, w2, w3⟩ := t_wrong (f := 8) (q := 8) (by decide) (by decide) a2
      have e2 : pbd (.ok q) (fun q => if g 8 < S then .ok q else .error (8, 8)) = .error (8, 8) := if_neg c
      rw [if_neg (Int32.not_lt.mpr (nI_le (by omega) (by omega))), show (8 : Int32) = nI 8 from rfl, w1, vbs, e2, bad w3]
      exact ⟨s2, rfl, w3.fp.2, fun q z => (by cases z), fun _ z => (by cases z; exact ⟨⟨by decide, by decide⟩, k1.trans (w2.weak (by decide) (by decide) (by decide))⟩)⟩
def dmW : List Nat := [1609, 1615, 1616, 1617, 1618, 1619, 1620, 1800, 1807, 1808]
theorem r_demo {s : vt_S} (hR : rS B s) (hI : rIn B s g n) (hm : rMp B s gm nm mp) (hS : secN mp gm < 256) : ∃ s1, ab_X17_loadDemo (B + 639) s = some (fz (pDemo g n (secN mp gm)), s1) ∧ vt_I s1 1807 (B + 639) = fz (pDemo g n (secN mp gm)) ∧ vt_I s1 1808 (B + 639) = pz (pDemo g n (secN mp gm)) ∧ (∀ q, pDemo g n (secN mp gm) = .ok q → rWk B gm nm s1 ∧ secsR s1 (B + 656) (gm 5) (rest0 gm) ∧ wkR B s1 ((rdS g).1, (rdS g).2.1, (rdS g).2.2.2) ∧ vt_I s1 1813 (B + 639) = nI (rdS g).2.2.1 ∧ hTk B s1 = 0 ∧ runR B s1 (rdI g n) (rdM g n) ∧ stR B s1 (rdS g)) ∧ (∀ e, pDemo g n (secN mp gm) = .error e → vk dmW [1608, 1610, 1611, 1612, 1613, 1614] [] (fun _ => True) s s1) := by
  obtain ⟨t, ht⟩ : ∃ t, t = vu_I s 1800 (B + 639) 0 := ⟨_, rfl⟩
  have k0 : vk dmW [1608, 1610, 1611, 1612, 1613, 1614] [] (fun _ => True) s t := by rw [ht]; exact vk.pI (vk.refl s) (by decide)
  have rt : rS B t := k0.keep0 (P := rS B) hR
  obtain ⟨s1, a1, a2, a3⟩ := r_cpy (B := B) (g := g) n 0 sv_fuel t (by omega) (fuel_ge (by have := hI.2.1; omega)) (k0.keep0 (P := fun t => rIn B t g n) hI) rt.P1801 rt.P1802 rt.L1608 rt.L1500 (fun j hj => absurd hj (by omega))
  have k1 : vk dmW [1608, 1610, 1611, 1612, 1613, 1614] [] (fun _ => True) s s1 := k0.trans (a2.weak (by decide) (by decide) (by decide))
  obtain ⟨t1, ht1⟩ : ∃ t, t = vu_I s1 1609 (B + 643) (nI n) := ⟨_, rfl⟩
  have k2 : vk dmW [1608, 1610, 1611, 1612, 1613, 1614] [] (fun _ => True) s t1 := by rw [ht1]; exact vk.pI k1 (by decide)
  have r2 : rS B t1 := k2.keep0 (P := rS B) hR
  have m2 : rMp B t1 gm nm mp := by
    unfold rMp at hm ⊢
    by_cases c : 0 < mp
    · rw [if_pos c] at hm ⊢; exact k2.keep0 (P := rWk B gm nm) hm
    · rw [if_neg c] at hm ⊢; exact k2.keep0 (P := fun t => vt_I t 1809 (B + 639) = 0) hm
  have i1 : rIn B s1 g n := k1.keep0 (P := fun t => rIn B t g n) hI
  obtain ⟨s3, b1, b2, b3, b4⟩ := r_readT hS r2 (by rw [ht1, I_at]) hI.2.1 (fun i hi => ⟨by rw [ht1]; exact a3 i hi, (hI.2.2 i hi).2⟩)
  have k3 := (vk_X15_read vclT trivial b1).1
  obtain ⟨t3, ht3⟩ : ∃ t, t = vu_I (vu_I s3 1807 (B + 639) (fz (pDemo g n (secN mp gm)))) 1808 (B + 639) (pz (pDemo g n (secN mp gm))) := ⟨_, rfl⟩
  have kt : vk [1807, 1808] [] [] (fun _ => True) s3 t3 := by rw [ht3]; exact vk.pI (vk.pI (vk.refl s3) (by decide)) (by decide)
  have P3 : vt_P s3 1802 (B + 639) = B + 643 := k3.keep0 (P := fun t => vt_P t 1802 (B + 639) = B + 643) r2.P1802
  have z7 : vt_I t3 1807 (B + 639) = fz (pDemo g n (secN mp gm)) := by rw [ht3, I_ne (by omega), I_at]
  have z8 : vt_I t3 1808 (B + 639) = pz (pDemo g n (secN mp gm)) := by rw [ht3, I_at]
  have e0 : ab_X17_loadDemo (B + 639) s = if fz (pDemo g n (secN mp gm)) = 0 then vt_b (ab_X17_begin (B + 639) t3) fun _ h17 => ab_X17_loadDemo_97 (B + 639) h17 else ab_X17_loadDemo_97 (B + 639) t3 := by
    unfold ab_X17_loadDemo
    rw [slet, ← ht, show (0 : Int32) = nI 0 from rfl, a1]
    unfold ab_X17_loadDemo_7b
    have P1 : vt_P s1 1801 (B + 639) = B + 640 := k1.keep0 (P := fun t => vt_P t 1801 (B + 639) = B + 640) hR.P1801
    have P2 : vt_P s1 1802 (B + 639) = B + 643 := k1.keep0 (P := fun t => vt_P t 1802 (B + 639) = B + 643) hR.P1802
    rw [slet, slet, P1, i1.1, if_pos (nI_le (Nat.le_refl _) (by have := hI.2.1; omega)), slet, slet, slet, slet, P2, i1.1, ← ht1, slet, r2.P1802, r_secN m2, vbs, b1, vbs, slet, slet, slet, slet, slet]
    rw [show vt_P (vu_I s3 1807 (B + 639) (fz (pDemo g n (secN mp gm)))) 1802 (B + 639) = B + 643 from P3, I_ne (show ¬ (1618 = 1807 ∧ B + 643 = B + 639) by omega), b2, ← ht3, z7]
    rfl
  have fin : ∀ u : vt_S, vt_I u 1807 (B + 639) = fz (pDemo g n (secN mp gm)) → ab_X17_loadDemo_97 (B + 639) u = some (fz (pDemo g n (secN mp gm)), u) := by
    intro u hu
    unfold ab_X17_loadDemo_97
    rw [slet, hu]
  rw [e0]
  cases hst : pDemo g n (secN mp gm) with
  | error e =>
    rw [hst] at z7 z8 fin
    have e1 : e.1 ≠ 0 ∧ e.1 < 100 := (b4 e hst).1
    rw [if_neg (show ¬ fz (.error e) = 0 from e_nz e1.1 e1.2), fin t3 z7]
    exact ⟨t3, rfl, z7, z8, fun q z => (by cases z), fun _ _ => (k2.trans ((b4 e hst).2.weak (by decide) (by decide) (by decide))).trans (kt.weak (by decide) (by decide) (by decide))⟩
  | ok q =>
    rw [hst] at z7 z8 fin
    obtain ⟨x1, x2, x3, x4⟩ := b3 q hst
    have mp0 : 0 < mp := by
      by_cases c : 0 < mp
      · exact c
      · have : secN mp gm = 0 := if_neg c
        omega
    unfold rMp at m2
    rw [if_pos mp0] at m2
    have m3 : rWk B gm nm t3 := kt.keep0 (P := rWk B gm nm) (k3.keep0 (P := rWk B gm nm) m2)
    have l6 : vt_L t3 1600 (B + 643) = 4 := kt.keep0 (P := fun t => vt_L t 1600 (B + 643) = 4) (k3.keep0 (P := fun t => vt_L t 1600 (B + 643) = 4) r2.L1600)
    obtain ⟨s4, c1, c2, c3, c4, c5, c6⟩ := r_begun m3 (kt.keep0 (P := fun t => vt_P t 1802 (B + 639) = B + 643) P3) l6 (kt.keep0 (P := fun t => stR B t (rdS g)) x2)
    have k4 := (vk_X17_begin vclT trivial c1).1
    have y7 : vt_I s4 1807 (B + 639) = fz (.ok q) := by rw [k4.eI (by decide)]; exact z7
    have y8 : vt_I s4 1808 (B + 639) = pz (.ok q) := by rw [k4.eI (by decide)]; exact z8
    rw [if_pos (show fz (.ok q) = 0 from rfl), c1, vbs, fin s4 y7]
    exact ⟨s4, rfl, y7, y8, fun _ _ => ⟨c2, c3, c4, c5, c6, k4.keep0 (P := fun t => runR B t (rdI g n) (rdM g n)) (kt.keep0 (P := fun t => runR B t (rdI g n) (rdM g n)) x1), k4.keep0 (P := fun t => stR B t (rdS g)) (kt.keep0 (P := fun t => stR B t (rdS g)) x2)⟩, fun e z => (by cases z)⟩
end DR
