section GA
variable {B : Nat} {g : Nat → Nat} {y : RY} {n : Nat}
def gatR (B : Nat) (s : vt_S) (q : (Nat → Nat) × Nat) : Prop := vt_I s 1821 (B + 639) = nI q.2 ∧ ∀ j, j < q.2 → vt_A s 1820 (B + 639) j = nI (q.1 j)
theorem rMap.mgk {s s1 : vt_S} (h : rMap B g n s) (k : mgk (B + 639) s s1) : rMap B g n s1 := by
  obtain ⟨a1, a2, a3, a4, a5⟩ := h
  exact ⟨by rw [k.I (by omega)]; exact a1, by rw [k.L]; exact a2, a3, fun i hi => by rw [k.A (by omega)]; exact a4 i hi, a5⟩
theorem r_gin (hy : ryOk y) {W : Nat} {m : Nat → Nat} {c w : Nat} (hc : c < 128) (hw : w < W) (hm : ∀ j, j < c → rmet y g (m j) ∧ m j < W) (hmw : rmet y g w) {K : Nat → Int32 → vt_S → Option (Unit × vt_S)} : ∀ (k fu : Nat) (s : vt_S), k ≤ c → k < fu → vt_L s 1820 (B + 639) = 128 → rTr B g W s → aimR B s y → vt_I s 1821 (B + 639) = nI c → (∀ j, j < k → vt_A s 1820 (B + 639) j = nI (m j)) → (∀ j, k < j → j ≤ c → vt_A s 1820 (B + 639) j = nI (m (j - 1))) →
    ∃ s1, ab_X17_gather_54 K fu (B + 639) (nI w) (zL (rov y g w)) (zL (run y g w)) (nI k) s = K (B + 639) (nI (w + 1)) s1 ∧ mgk (B + 639) s s1 ∧ gatR B s1 (insM m (insP (rlt y g) m w c) w, c + 1) ∨ (insP (rlt y g) m w k ≠ insP (rlt y g) m w c) := by
  intro k
  induction k with
  | zero =>
    intro fu s hk hf hL hT hA h21 h1 h2
    obtain ⟨fu, rfl⟩ : ∃ q, fu = q + 1 := ⟨fu - 1, by omega⟩
    by_cases ne : insP (rlt y g) m w 0 = insP (rlt y g) m w c
    · refine ⟨vu_I (vu_A s 1820 (B + 639) 0 (nI w)) 1821 (B + 639) (nI (c + 1)), Or.inl ⟨?_, mgk.refl.putA.putI (Or.inr rfl), I_at, fun j hj => ?_⟩⟩
      · show ab_X17_gather_54b _ _ (B + 639) (nI w) _ _ (nI 0) s = _
        unfold ab_X17_gather_54b ab_X17_gather_115 ab_X17_gather_134
        rw [if_pos (by decide), vs_I_ok (by omega) (by omega), obs, slet, slet, I_A, h21, nI_1, nI_1]
      · rw [A_I, A_at]
        have e0 : insP (rlt y g) m w c = 0 := ne.symm
        unfold insM
        dsimp only
        rw [e0, if_neg (show ¬ j < 0 by omega)]
        by_cases z : j = 0
        · rw [if_pos z, if_pos z]
        · rw [if_neg z, if_neg z]
          exact h2 j (by omega) (by have hj : j < c + 1 := hj; omega)
    · exact ⟨s, Or.inr ne⟩
  | succ k ih =>
    intro fu s hk hf hL hT hA h21 h1 h2
    obtain ⟨fu, rfl⟩ : ∃ q, fu = q + 1 := ⟨fu - 1, by omega⟩
    by_cases ne : insP (rlt y g) m w (k + 1) = insP (rlt y g) m w c
    · have hWW := hT.2.1
      obtain ⟨mk, mkW⟩ := hm k (by omega)
      obtain ⟨s1, a1, a2, a3, a4, a5, a6, a7, a8, a9⟩ := r_meets (B := B) hy mkW hT hA
      have b1 := met_un mk
      have b2 := met_un hmw
      have b3 := rov_rng hy g (m k)
      have b4 := rov_rng hy g w
      have ord := ordJ (a := rov y g w) (b := run y g (m k)) (c := rov y g (m k)) (d := run y g w) (by omega) (by omega) (by omega) (by omega) (by omega) (by omega) (by omega) (by omega) s1
      have ec := cmp_neg (rov y g w * run y g (m k)) (rov y g (m k) * run y g w)
      have e0 : ab_X17_gather_54 K (fu + 1) (B + 639) (nI w) (zL (rov y g w)) (zL (run y g w)) (nI (k + 1)) s = if (0 : Int32) ≤ zI (cmpZ (rov y g w * run y g (m k)) (rov y g (m k) * run y g w)) then ab_X17_gather_115 K (B + 639) (nI w) (nI (k + 1)) s1 else ab_X17_gather_54 K fu (B + 639) (nI w) (zL (rov y g w)) (zL (run y g w)) (nI k) (vu_A s1 1820 (B + 639) (k + 1) (nI (m k))) := by
        show ab_X17_gather_54b _ _ (B + 639) (nI w) _ _ (nI (k + 1)) s = _
        unfold ab_X17_gather_54b
        rw [if_neg (show ¬ nI (k + 1) ≤ 0 from nI_ge (b := k + 1) (a := 0) (by omega) (by omega)), (z_down k).1, vl_I_ok (by omega) (by omega), obs, h1 k (by omega), a1, vbs, rmB_iff.mpr mk, if_neg (show ¬ bI true = 0 by decide), slet, slet, a7, a9 mk, ord, vbs, vl_I_ok (by rw [a2.L]; omega) (by rw [a2.L]; omega), obs, a4, h1 k (by omega), vs_I_ok (by rw [a2.L]; omega) (by rw [a2.L]; omega), obs, show nI (k + 1) + (-1) = nI k by rw [(z_down (k + 1)).2, (z_down k).1]]
      by_cases c1 : rov y g w * run y g (m k) < rov y g (m k) * run y g w
      · have il : insP (rlt y g) m w (k + 1) = insP (rlt y g) m w k := by
          show (if rlt y g w (m k) = true then _ else _) = _
          rw [if_pos (show rlt y g w (m k) = true from decide_eq_true c1)]
        have k2 : mgk (B + 639) s (vu_A s1 1820 (B + 639) (k + 1) (nI (m k))) := a2.putA
        obtain ⟨s2, hs2⟩ := ih fu (vu_A s1 1820 (B + 639) (k + 1) (nI (m k))) (by omega) (by omega) (by rw [k2.L]; exact hL) (hT.k k2) (hA.k k2) (by rw [I_A, a3]; exact h21) (fun j hj => by
          rw [A_at, if_neg (by omega), a4]; exact h1 j (by omega)) (fun j hj hj2 => by
          rw [A_at]
          by_cases z : j = k + 1
          · rw [if_pos z, z]; rfl
          · rw [if_neg z, a4]; exact h2 j (by omega) hj2)
        rcases hs2 with ⟨e1, e2, e3⟩ | e1
        · refine ⟨s2, Or.inl ⟨?_, k2.trans e2, e3⟩⟩
          rw [e0, if_neg (show ¬ (0 : Int32) ≤ _ by rw [show (0 : Int32) = zI 0 from rfl, ec]; omega)]
          exact e1
        · exact ⟨s, Or.inr (by rw [il]; exact e1)⟩
      · have il : insP (rlt y g) m w (k + 1) = k + 1 := by
          show (if rlt y g w (m k) = true then _ else _) = _
          rw [if_neg (by unfold rlt; rw [decide_eq_true_eq]; exact c1)]
        rw [e0]
        refine ⟨vu_I (vu_A s1 1820 (B + 639) (k + 1) (nI w)) 1821 (B + 639) (nI (c + 1)), Or.inl ⟨?_, a2.putA.putI (Or.inr rfl), I_at, fun j hj => ?_⟩⟩
        · rw [if_pos (show (0 : Int32) ≤ _ by rw [show (0 : Int32) = zI 0 from rfl, ec]; omega)]
          unfold ab_X17_gather_115 ab_X17_gather_134
          rw [vs_I_ok (by rw [a2.L]; omega) (by rw [a2.L]; omega), obs, slet, slet, I_A, a3, h21, nI_1, nI_1]
        · rw [A_I, A_at, a4]
          unfold insM
          dsimp only
          rw [← ne, il]
          have hj : j < c + 1 := hj
          by_cases z1 : j < k + 1
          · rw [if_pos z1, if_neg (by omega)]; exact h1 j z1
          · rw [if_neg z1]
            by_cases z2 : j = k + 1
            · rw [if_pos z2, if_pos z2]
            · rw [if_neg z2, if_neg z2]; exact h2 j (by omega) (by omega)
    · exact ⟨s, Or.inr ne⟩
theorem r_gout (hy : ryOk y) : ∀ (d i fu : Nat) (s : vt_S), i + d = g 6 → d < fu → rMap B g n s → vt_P s 1801 (B + 639) = B + 640 → vt_L s 1820 (B + 639) = 128 → rTr B g (g 6) s → aimR B s y → gatR B s (gat (rlt y g) (rmB y g) i) → ∃ s1, ab_X17_gather_18 fu (B + 639) (nI i) s = some ((), s1) ∧ mgk (B + 639) s s1 ∧ gatR B s1 (gat (rlt y g) (rmB y g) (g 6)) := by
  intro d
  induction d with
  | zero =>
    intro i fu s hi hf hM hP hL hT hA h
    obtain ⟨fu, rfl⟩ : ∃ q, fu = q + 1 := ⟨fu - 1, by omega⟩
    obtain rfl : i = g 6 := by omega
    have hW := hT.2.1
    refine ⟨s, ?_, mgk.refl, h⟩
    show ab_X17_gather_18b _ (B + 639) (nI (g 6)) s = _
    unfold ab_X17_gather_18b
    rw [r_wallN hM hP, vbs, if_pos (nI_le (by omega) (by omega))]
  | succ d ih =>
    intro i fu s hi hf hM hP hL hT hA h
    obtain ⟨fu, rfl⟩ : ∃ q, fu = q + 1 := ⟨fu - 1, by omega⟩
    have hW := hT.2.1
    obtain ⟨ga, gb⟩ := gat_in (rlt y g) (rmB y g) i
    obtain ⟨s1, a1, a2, a3, a4, a5, a6, a7, a8, a9⟩ := r_meets (B := B) (w := i) (W := g 6) hy (by omega) hT hA
    have e0 : ab_X17_gather_18 (fu + 1) (B + 639) (nI i) s = if bI (rmB y g i) = 0 then ab_X17_gather_18 fu (B + 639) (nI (i + 1)) s1 else ab_X17_gather_54 (ab_X17_gather_18 fu) sv_fuel (B + 639) (nI i) (vt_J s1 1817 (B + 639)) (vt_J s1 1818 (B + 639)) (vt_I s1 1821 (B + 639)) s1 := by
      show ab_X17_gather_18b _ (B + 639) (nI i) s = _
      unfold ab_X17_gather_18b ab_X17_gather_134
      rw [r_wallN hM hP, vbs, if_neg (nI_ge (by omega) (by omega)), a1, vbs, nI_1]
      simp only [slet]
    rw [e0]
    have hc : (gat (rlt y g) (rmB y g) i).2 < 128 := by omega
    have gn : gat (rlt y g) (rmB y g) (i + 1) = if rmB y g i = true then (insM (gat (rlt y g) (rmB y g) i).1 (insP (rlt y g) (gat (rlt y g) (rmB y g) i).1 i (gat (rlt y g) (rmB y g) i).2) i, (gat (rlt y g) (rmB y g) i).2 + 1) else gat (rlt y g) (rmB y g) i := rfl
    cases hb : rmB y g i with
    | false =>
      rw [if_pos (show bI false = 0 from rfl)]
      rw [hb, if_neg (by decide)] at gn
      obtain ⟨s2, b1, b2, b3⟩ := ih (i + 1) fu s1 (by omega) (by omega) (hM.mgk a2) (by rw [a2.P]; exact hP) (by rw [a2.L]; exact hL) (hT.k a2) (hA.k a2) (by rw [gn]; exact ⟨by rw [a3]; exact h.1, fun j hj => by rw [a4]; exact h.2 j hj⟩)
      exact ⟨s2, b1, a2.trans b2, b3⟩
    | true =>
      rw [if_neg (show ¬ bI true = 0 by decide), a7, a9 (rmB_iff.mp hb), a3, h.1]
      rw [hb, if_pos rfl] at gn
      obtain ⟨s2, hs2⟩ := r_gin (B := B) hy (W := g 6) (w := i) hc (by omega) (fun j hj => ⟨rmB_iff.mp (gb j hj).1, by have := (gb j hj).2; omega⟩) (rmB_iff.mp hb) (K := ab_X17_gather_18 fu) (gat (rlt y g) (rmB y g) i).2 sv_fuel s1 (Nat.le_refl _) (fuel_ge (by omega)) (by rw [a2.L]; exact hL) (hT.k a2) (hA.k a2) (by rw [a3]; exact h.1) (fun j hj => by rw [a4]; exact h.2 j hj) (fun j hj hj2 => by omega)
      rcases hs2 with ⟨e1, e2, e3⟩ | e1
      · have k2 := a2.trans e2
        obtain ⟨s3, b1, b2, b3⟩ := ih (i + 1) fu s2 (by omega) (by omega) (hM.mgk k2) (by rw [k2.P]; exact hP) (by rw [k2.L]; exact hL) (hT.k k2) (hA.k k2) (by rw [gn]; exact e3)
        exact ⟨s3, by rw [e1]; exact b1, k2.trans b2, b3⟩
      · exact absurd rfl e1
theorem r_gather (hy : ryOk y) {s : vt_S} (hM : rMap B g n s) (hP : vt_P s 1801 (B + 639) = B + 640) (hL : vt_L s 1820 (B + 639) = 128) (hT : rTr B g (g 6) s) (h1 : vt_I s 1811 (B + 639) = zI y.1) (h2 : vt_I s 1812 (B + 639) = zI y.2.1) : ∃ s0 s1, ab_X17_gather (B + 639) (zL y.2.2.1) (zL y.2.2.2) s = some ((), s1) ∧ s0 = vu_J (vu_J s 1827 (B + 639) (zL y.2.2.1)) 1828 (B + 639) (zL y.2.2.2) ∧ mgk (B + 639) s0 s1 ∧ aimR B s1 y ∧ gatR B s1 (gat (rlt y g) (rmB y g) (g 6)) := by
  have k : mgk (B + 639) (vu_J (vu_J s 1827 (B + 639) (zL y.2.2.1)) 1828 (B + 639) (zL y.2.2.2)) (vu_I (vu_J (vu_J s 1827 (B + 639) (zL y.2.2.1)) 1828 (B + 639) (zL y.2.2.2)) 1821 (B + 639) 0) := mgk.refl.putI (Or.inr rfl)
  have A0 : aimR B (vu_I (vu_J (vu_J s 1827 (B + 639) (zL y.2.2.1)) 1828 (B + 639) (zL y.2.2.2)) 1821 (B + 639) 0) y := by
    refine ⟨?_, ?_, ?_, ?_⟩
    · rw [I_nf (by decide), I_J, I_J]; exact h1
    · rw [I_nf (by decide), I_J, I_J]; exact h2
    · rw [J_I, J_nf (by decide), J_at]
    · rw [J_I, J_at]
  have hM0 : rMap B g n (vu_I (vu_J (vu_J s 1827 (B + 639) (zL y.2.2.1)) 1828 (B + 639) (zL y.2.2.2)) 1821 (B + 639) 0) := by
    obtain ⟨a1, a2, a3, a4, a5⟩ := hM
    exact ⟨by rw [I_nf (by decide), I_J, I_J]; exact a1, a2, a3, a4, a5⟩
  obtain ⟨s1, e1, e2, e3⟩ := r_gout (B := B) (g := g) (n := n) hy (g 6) 0 sv_fuel (vu_I (vu_J (vu_J s 1827 (B + 639) (zL y.2.2.1)) 1828 (B + 639) (zL y.2.2.2)) 1821 (B + 639) 0) (by omega) (fuel_ge (by have := hT.2.1; omega)) hM0 hP hL hT A0 ⟨I_at, fun j hj => absurd hj (by show ¬ j < 0; omega)⟩
  refine ⟨_, s1, ?_, rfl, k.trans e2, A0.k e2, e3⟩
  unfold ab_X17_gather
  simp only [slet]
  exact e1
end GA
-- THE CLOSE ones come first
theorem rlt_iff {y : RY} {g : Nat → Nat} {v w : Nat} : rlt y g v w = true ↔ rov y g v * run y g w < rov y g w * run y g v := by unfold rlt; rw [decide_eq_true_eq]
theorem insP_eq {lt : Nat → Nat → Bool} {m m2 : Nat → Nat} {w : Nat} : ∀ {c}, (∀ j, j < c → m j = m2 j) → insP lt m w c = insP lt m2 w c
  | 0, _ => rfl
  | c + 1, h => by
    unfold insP
    rw [h c (by omega), insP_eq (fun j hj => h j (by omega))]
theorem insP_skip {lt : Nat → Nat → Bool} {m : Nat → Nat} {w c : Nat} : ∀ {d}, (∀ j, c ≤ j → j < c + d → lt w (m j) = true) → insP lt m w (c + d) = insP lt m w c
  | 0, _ => rfl
  | d + 1, h => by
    show (if lt w (m (c + d)) = true then insP lt m w (c + d) else c + d + 1) = _
    rw [if_pos (h (c + d) (by omega) (by omega)), insP_skip (fun j h1 h2 => h j h1 (by omega))]
theorem insP_stay {lt : Nat → Nat → Bool} {m : Nat → Nat} {w c : Nat} (h : ∀ j, j < c → lt w (m j) = false) : ∀ {d}, c ≤ insP lt m w (c + d)
  | 0 => by
    cases c with
    | zero => exact Nat.zero_le _
    | succ c =>
      show c + 1 ≤ if lt w (m c) = true then _ else _
      rw [if_neg (by rw [h c (by omega)]; decide)]
      exact Nat.le_refl _
  | d + 1 => by
    show c ≤ if lt w (m (c + d)) = true then insP lt m w (c + d) else c + d + 1
    split
    · exact insP_stay h
    · omega
/-- of all, the close ones stand first, as if they alone had been gathered -/
theorem gat_close {lt : Nat → Nat → Bool} {pm cl : Nat → Bool} (h1 : ∀ v w, pm v = true → pm w = true → cl v = true → cl w = false → lt v w = true) (h2 : ∀ v w, pm v = true → pm w = true → cl v = false → cl w = true → lt v w = false) : ∀ w, (gat lt (fun u => pm u && cl u) w).2 ≤ (gat lt pm w).2 ∧ (∀ j, j < (gat lt (fun u => pm u && cl u) w).2 → (gat lt pm w).1 j = (gat lt (fun u => pm u && cl u) w).1 j) ∧ ∀ j, j < (gat lt pm w).2 → (cl ((gat lt pm w).1 j) = true ↔ j < (gat lt (fun u => pm u && cl u) w).2)
  | 0 => ⟨Nat.le_refl 0, fun j hj => absurd hj (by show ¬ j < 0; omega), fun j hj => absurd hj (by show ¬ j < 0; omega)⟩
  | w + 1 => by
    obtain ⟨a, b, c⟩ := gat_close h1 h2 w
    obtain ⟨i1, i2⟩ := gat_in lt pm w
    have gA : gat lt pm (w + 1) = if pm w = true then (insM (gat lt pm w).1 (insP lt (gat lt pm w).1 w (gat lt pm w).2) w, (gat lt pm w).2 + 1) else gat lt pm w := rfl
    have gB : gat lt (fun u => pm u && cl u) (w + 1) = if (pm w && cl w) = true then (insM (gat lt (fun u => pm u && cl u) w).1 (insP lt (gat lt (fun u => pm u && cl u) w).1 w (gat lt (fun u => pm u && cl u) w).2) w, (gat lt (fun u => pm u && cl u) w).2 + 1) else gat lt (fun u => pm u && cl u) w := rfl
    rw [gA, gB]
    generalize gat lt pm w = q at *
    generalize gat lt (fun u => pm u && cl u) w = r at *
    obtain ⟨m, n⟩ := q
    obtain ⟨mc, k⟩ := r
    dsimp only at *
    cases hp : pm w with
    | false => rw [if_neg (show ¬ (false && cl w) = true by rw [Bool.false_and]; decide), if_neg (show ¬ false = true by decide)]; exact ⟨a, b, c⟩
    | true =>
      rw [if_pos rfl]
      cases hc : cl w with
      | true =>
        rw [if_pos (by decide)]
        have e1 : insP lt m w n = insP lt mc w k := by
          obtain ⟨d, rfl⟩ : ∃ d, n = k + d := ⟨n - k, by omega⟩
          rw [insP_skip (fun j g1 g2 => h1 w (m j) hp (i2 j (by omega)).1 hc (by
            cases z : cl (m j) with
            | false => rfl
            | true => have := (c j (by omega)).mp z; omega)), insP_eq (m2 := mc) (fun j hj => b j hj)]
        rw [e1]
        have il := insP_le lt mc w k
        refine ⟨by show k + 1 ≤ n + 1; omega, fun j hj => ?_, fun j hj => ?_⟩
        · show insM m (insP lt mc w k) w j = insM mc (insP lt mc w k) w j
          have hj : j < k + 1 := hj
          unfold insM
          by_cases z1 : j < insP lt mc w k
          · rw [if_pos z1, if_pos z1]; exact b j (by omega)
          · rw [if_neg z1, if_neg z1]
            by_cases z2 : j = insP lt mc w k
            · rw [if_pos z2, if_pos z2]
            · rw [if_neg z2, if_neg z2]; exact b (j - 1) (by omega)
        · show cl (insM m (insP lt mc w k) w j) = true ↔ j < k + 1
          have hj : j < n + 1 := hj
          unfold insM
          by_cases z1 : j < insP lt mc w k
          · rw [if_pos z1, c j (by omega)]; omega
          · rw [if_neg z1]
            by_cases z2 : j = insP lt mc w k
            · rw [if_pos z2, hc]; exact ⟨fun _ => by omega, fun _ => rfl⟩
            · rw [if_neg z2, c (j - 1) (by omega)]; omega
      | false =>
        rw [if_neg (by decide)]
        have e1 : k ≤ insP lt m w n := by
          obtain ⟨d, rfl⟩ : ∃ d, n = k + d := ⟨n - k, by omega⟩
          exact insP_stay (fun j hj => h2 w (m j) hp (i2 j (by omega)).1 hc ((c j (by omega)).mpr hj))
        have il := insP_le lt m w n
        refine ⟨by show k ≤ n + 1; omega, fun j hj => ?_, fun j hj => ?_⟩
        · show insM m (insP lt m w n) w j = mc j
          unfold insM
          rw [if_pos (by omega)]; exact b j hj
        · show cl (insM m (insP lt m w n) w j) = true ↔ j < k
          have hj : j < n + 1 := hj
          unfold insM
          by_cases z1 : j < insP lt m w n
          · rw [if_pos z1]; exact c j (by omega)
          · rw [if_neg z1]
            by_cases z2 : j = insP lt m w n
            · rw [if_pos z2, hc]
              constructor
              · intro z; cases z
              · intro z; omega
            · rw [if_neg z2, c (j - 1) (by omega)]; omega
theorem close_lt {y : RY} {g : Nat → Nat} {share v w : Nat} (hv : rmet y g v) (hw : rmet y g w) : (rcB y g share v = true → rcB y g share w = false → rlt y g v w = true) ∧ (rcB y g share v = false → rcB y g share w = true → rlt y g v w = false) := by
  obtain ⟨u1, o1⟩ := met_un hv
  obtain ⟨u2, o2⟩ := met_un hw
  unfold rcB rlt
  generalize rov y g v = a at *
  generalize run y g v = b at *
  generalize rov y g w = c at *
  generalize run y g w = d at *
  constructor
  · intro h1 h2
    have h1 := of_decide_eq_true h1
    have h2 := of_decide_eq_false h2
    apply decide_eq_true
    -- a * s ≤ b, d < c * s
    have e1 : a * d < a * (c * share) := Int.mul_lt_mul_of_pos_left (by omega) o1
    have e2 : c * (a * share) ≤ c * b := Int.mul_le_mul_of_nonneg_left h1 (by omega)
    have e3 : a * (c * share) = c * (a * share) := by grind
    omega
  · intro h1 h2
    have h1 := of_decide_eq_false h1
    have h2 := of_decide_eq_true h2
    apply decide_eq_false
    have e1 : a * (c * share) ≤ a * d := Int.mul_le_mul_of_nonneg_left h2 (by omega)
    have e2 : c * b < c * (a * share) := Int.mul_lt_mul_of_pos_left (by omega) o2
    have e3 : a * (c * share) = c * (a * share) := by grind
    omega
