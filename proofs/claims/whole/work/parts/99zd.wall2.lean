-- VIEW: a wall's part is painted by the class
section CX
variable {B p n : Nat} {g : Nat → Nat} {D : Nat → SD} {y : RY} {m : Nat → Nat} {i : Nat}
theorem c_wallP_loop {a b kd : Nat} {lt eye : Int32} (hy : ryOk y) (hkd : kd ≤ 5) (hi : i < 128) (ha : a ≤ 48) (hb : b ≤ 48) (hw : m i < g 6) (hm : rmet y g (m i)) : ∀ (d r0 fu : Nat) (s : vt_S), r0 + d = b → d < fu → cVy B p g n y eye s → rayC s (B + 621) y g m i → ∃ s1, ab_X9_paintWall_159 fu (B + 629) p (nI a) (nI b) (nI kd) (nI i) (zI (n255 (tW y g kd (m i)))) (zL (uW y g (m i))) (Int32.toInt64 ((anW g D kd (m i) (rfr y g (m i)) (hW g (tW y g kd (m i))) - 1) + nI (g (wlp g (m i) + 10) % 16))) (sv_maxl (Int32.toInt64 lt - flD (64 * zL (rov y g (m i))) (zL (run y g (m i)))) 0) (nI r0) s = some ((), s1) ∧ (∀ r, vt_A s1 1002 (B + 629) r = if r0 ≤ r ∧ r < b then wlP y g D kd (m i) lt eye r else vt_A s 1002 (B + 629) r) ∧ vt_A s1 1001 (B + 629) = upR (vt_A s 1001 (B + 629)) a b (fun _ => nI (256 * kd + m i)) ∧ vk [] [1001, 1002] [] (fun _ => True) s s1 := by
  intro d
  induction d with
  | zero =>
    intro r0 fu s hr hf hk hc
    obtain ⟨fu, rfl⟩ : ∃ q, fu = q + 1 := ⟨fu - 1, by omega⟩
    obtain ⟨⟨hW, hrow, h0, l1, l2, l3⟩, hA, he⟩ := id hk
    have L0 := hW.2.2.2.1.1
    obtain ⟨s1, a1, a2, a3⟩ := c_mark (V := B + 629) (a := a) (b := b) (v := nI (256 * kd + m i)) ha hb l1
    refine ⟨s1, ?_, fun r => ?_, a2, a3.weak (by decide) (by decide) (by decide)⟩
    · show ab_X9_paintWall_159b _ (B + 629) p (nI a) (nI b) (nI kd) (nI i) _ _ _ _ (nI r0) s = _
      unfold ab_X9_paintWall_159b
      rw [if_pos (nI_le (by omega) (by omega)), slet, h0, vl_I_ok (by omega) (by omega), obs, hc.1, show (256 : Int32) = nI 256 from rfl, pk_mul, nI_add, a1, vbs]
    · rw [if_neg (by omega), (a3.2.2.1 1002 (B + 629) (Or.inl (by decide))).1]
  | succ d ih =>
    intro r0 fu s hr hf hk hc
    obtain ⟨fu, rfl⟩ : ∃ q, fu = q + 1 := ⟨fu - 1, by omega⟩
    have hr48 : r0 < 48 := by omega
    have k1 : vk [] [1001, 1002] [] (fun _ => True) s (vu_A s 1002 (B + 629) r0 (wlP y g D kd (m i) lt eye r0)) := vk.pA (vk.refl s) (by decide)
    obtain ⟨s1, a1, a2, a4, a3⟩ := ih (r0 + 1) fu _ (by omega) (by omega) (k1.keep0 (P := cVy B p g n y eye) hk) (k1.keep0 (P := fun t => rayC t (B + 621) y g m i) hc)
    obtain ⟨⟨hWk, hrow, h0, l1, l2, l3⟩, hA, he⟩ := id hk
    obtain ⟨L0, L1, L2, L3, -⟩ := hWk.2.2.2.1
    obtain ⟨c0, c1, c2, c3, -⟩ := id hc
    obtain ⟨u1, u2⟩ := met_un hm
    have ru := (rov_rng hy g (m i))
    have hcm := hWk.2.2.2.2.2.2
    have tv := hcm.xV (y := y) (kd := kd) hw
    have n0 : zL (run y g (m i)) ≠ 0 := by
      rw [show (0 : Int64) = zL 0 from rfl]
      intro z
      rw [zL_eq (by omega) (by omega) (by omega) (by omega)] at z
      omega
    have t4 : tW y g kd (m i) = 255 ∨ g (txp g (tW y g kd (m i)) + 1) ≤ 4 := by
      rcases tv with z | z
      · exact Or.inr (hcm.1.1.2.2.2.1 _ z).1.2.1
      · exact Or.inl z
    have d16 : g (wlp g (m i) + 10) % 16 < 256 := by omega
    refine ⟨s1, ?_, fun r => ?_, ?_, k1.trans a3⟩
    · show ab_X9_paintWall_159b _ (B + 629) p (nI a) (nI b) (nI kd) (nI i) _ _ _ _ (nI r0) s = _
      unfold ab_X9_paintWall_159b
      rw [if_neg (nI_ge (by omega) (by omega)), slet, he, slet, h0, vl_J_ok (by omega) (by omega), obs, slet, vl_J_ok (by omega) (by omega), obs, c2, c3, low_L hr48, c_flD n0, vbs, c_texel hk.1 tv, vbs, vs_I_ok (by omega) (by omega), obs, nI_1, tx_z d16 t4]
      exact a1
    · rw [a2, A_at]
      exact upR_cons (v := wlP y g D kd (m i) lt eye) (by omega) r
    · rw [a4, A_nf (by decide)]
theorem c_wallP {a b kd : Nat} {lt eye : Int32} {s : vt_S} (hy : ryOk y) (hkd : kd = 3 ∨ kd = 4 ∨ kd = 5) (hi : i < 128) (ha : a ≤ 48) (hb : b ≤ 48) (hw : m i < g 6) (hm : rmet y g (m i)) (hn : rfr y g (m i) = true ∨ g (wlp g (m i) + 3) ≠ 255) (hbk : kd ≠ 3 → g (wlp g (m i) + 3) ≠ 255) (hD : secsC s p (g 5) D) (hk : cVy B p g n y eye s) (hc : rayC s (B + 621) y g m i) : ∃ s1, ab_X9_paintWall (B + 629) p (nI a) (nI b) (nI kd) (nI i) lt s = some ((), s1) ∧ vt_A s1 1002 (B + 629) = upR (vt_A s 1002 (B + 629)) a b (wlP y g D kd (m i) lt eye) ∧ vt_A s1 1001 (B + 629) = upR (vt_A s 1001 (B + 629)) a b (fun _ => nI (256 * kd + m i)) ∧ vk [] [1001, 1002] [] (fun _ => True) s s1 := by
  by_cases c : a < b
  · obtain ⟨⟨hWk, hrow, h0, l1, l2, l3⟩, hA, he⟩ := id hk
    obtain ⟨L0, L1, L2, L3, L4, L5⟩ := hWk.2.2.2.1
    obtain ⟨c0, c1, c2, c3, -⟩ := id hc
    obtain ⟨u1, u2⟩ := met_un hm
    have ru := (rov_rng hy g (m i))
    have hcm := hWk.2.2.2.2.2.2
    have hp := hWk.2.2.2.2.1
    have tv := hcm.xV (y := y) (kd := kd) hw
    have g6 := hcm.S.2.1
    have hF : wallF s (p + 43 + 2 * m i) g (wlp g (m i)) := hWk.2.2.2.2.2.1.2.2.2.2.1 (m i) hw
    have L8 := hp.L308
    have LT := hp.L1211 (m i) (by omega)
    have fT := hF.2.2.2.2.2.2.1
    have f6 : vt_I s 1206 (p + 43 + 2 * m i) = nI (g (wlp g (m i) + 10) / 16) := hF.2.2.2.2.2.2.2.1
    have f7 : vt_I s 1207 (p + 43 + 2 * m i) = nI (g (wlp g (m i) + 10) % 16) := hF.2.2.2.2.2.2.2.2.1
    have b10 := hcm.2 (wlp g (m i) + 10) (by have := (hcm.1.1.2.2.2.2.2 (m i) hw).2; omega)
    have n0 : ¬ zL (run y g (m i)) = 0 := by
      rw [show (0 : Int64) = zL 0 from rfl]
      intro z
      rw [zL_eq (by omega) (by omega) (by omega) (by omega)] at z
      omega
    have pt : ptN kd + 3 < 6 := by rcases hkd with rfl | rfl | rfl <;> decide
    obtain ⟨s1, a1, a2, a3, a4⟩ := c_wallP_loop (B := B) (p := p) (n := n) (D := D) (a := a) (lt := lt) (eye := eye) (kd := kd) hy (by omega) hi ha hb hw hm (b - a) a sv_fuel s (by omega) (fuel_ge (by omega)) hk hc
    refine ⟨s1, ?_, funext a2, a3, a4⟩
    have sh : (64 : Int64) * zL (rov y g (m i)) / zL (run y g (m i)) = flD (64 * zL (rov y g (m i))) (zL (run y g (m i))) := by
      rw [show (64 : Int64) = zL 64 from rfl, zL_mul, flD_pos (by omega) (by omega) (by omega) (by omega), zL_divP (by omega) (by omega) (by omega) (by omega)]
    have ua : (0 : Int) ≤ lnW g (m i) * (if rfr y g (m i) then r1 y g (m i) else r2 y g (m i)) / run y g (m i) := by
      refine Int.ediv_nonneg (Int.mul_nonneg (lnW_rng g (m i)).1 ?_) (by omega)
      obtain ⟨mf1, mf2⟩ := met_fr hm
      cases hf : rfr y g (m i) with
      | true => exact (mf1 hf).1
      | false => exact (mf2 hf).2.1
    have e73 : ab_X9_paintWall_73 (B + 629) p (nI a) (nI b) (nI kd) (nI i) lt (p + 43 + 2 * m i) (p + 43 + 2 * m i) (nI (ptN kd + if rfr y g (m i) then 0 else 3)) s = some ((), s1) := by
      have q6 : ptN kd + (if rfr y g (m i) then 0 else 3) < 6 := by split <;> omega
      unfold ab_X9_paintWall_73
      rw [vl_I_ok (by omega) (by omega), obs, fT _ q6]
      rw [c_across hy hi h0 hWk.2.2.2.1 hc hm hF, vbs, slet, f6]
      have eT : g (wlp g (m i) + 4 + (ptN kd + if rfr y g (m i) then 0 else 3)) = tW y g kd (m i) := rfl
      rw [eT, c_height hWk tv, vbs, c_anchor hkd hi hk.1 hc hw hn hbk hD, vbs, slet, f7, slet, h0, vl_J_ok (by omega) (by omega), obs, slet, vl_J_ok (by omega) (by omega), obs, c2, c3, if_neg n0, slet, sh, nI_z (g (wlp g (m i) + 10) / 16), zI_wide (by omega) (by omega), zL_add]
      exact a1
    have e44 : ab_X9_paintWall_44 (B + 629) p (nI a) (nI b) (nI kd) (nI i) lt (p + 43 + 2 * m i) (nI (ptN kd)) s = some ((), s1) := by
      unfold ab_X9_paintWall_44
      rw [slet, h0, vl_I_ok (by omega) (by omega), obs, c1]
      cases hf : rfr y g (m i) with
      | true => rw [if_neg (show ¬ bI true = 0 by decide)]; rw [hf] at e73; exact e73
      | false =>
        rw [if_pos (show bI false = 0 from rfl), show (3 : Int32) = nI 3 from rfl, nI_add]
        rw [hf] at e73; exact e73
    unfold ab_X9_paintWall
    rw [if_pos (nI_lt c (by omega)), slet, h0, vl_I_ok (by omega) (by omega), obs, c0, vl_P_ok (by omega) (by omega), obs, hp.E308 _ (by omega)]
    rcases hkd with rfl | rfl | rfl
    · rw [if_neg (show ¬ nI 3 = 4 by decide), if_pos (show nI 3 = 3 from rfl)]; exact e44
    · rw [if_pos (show nI 4 = 4 from rfl)]; exact e44
    · rw [if_neg (show ¬ nI 5 = 4 by decide), if_neg (show ¬ nI 5 = 3 by decide)]; exact e44
  · refine ⟨s, ?_, funext fun r => ?_, funext fun r => ?_, vk.refl s⟩
    · unfold ab_X9_paintWall
      rw [if_neg (Int32.not_lt.mpr (nI_le (by omega) (by omega)))]
    · unfold upR
      rw [if_neg (by omega)]
    · unfold upR
      rw [if_neg (by omega)]
end CX
