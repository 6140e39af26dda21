-- VIEW: a wall's part is painted by the reference
section RP
variable {B n : Nat} {g : Nat → Nat} {D : Nat → SD} {y : RY}
def mtR (B : Nat) (y : RY) (g : Nat → Nat) (w : Nat) (s : vt_S) : Prop := vt_J s 1815 (B + 639) = zL (r1 y g w) ∧ vt_J s 1816 (B + 639) = zL (r2 y g w) ∧ vt_J s 1817 (B + 639) = zL (rov y g w) ∧ vt_J s 1818 (B + 639) = zL (run y g w) ∧ vt_I s 1819 (B + 639) = bI (rfr y g w)
theorem low_L2 {r : Nat} (h : r < 48) : Int32.toInt64 (47 - 2 * nI r) * 256 = zL (lowZ r) := by
  rw [nI_z, show (47 : Int32) = zI 47 from rfl, show (2 : Int32) = zI 2 from rfl, zI_mul, zI_sub, zI_wide (by omega) (by omega), show (256 : Int64) = zL 256 from rfl, zL_mul]
  rfl
theorem run_n0 {w : Nat} (hy : ryOk y) (hm : rmet y g w) : zL (run y g w) ≠ 0 := by
  obtain ⟨u1, u2⟩ := met_un hm
  have ru := (rov_rng hy g w)
  rw [show (0 : Int64) = zL 0 from rfl]
  intro z
  rw [zL_eq (by omega) (by omega) (by omega) (by omega)] at z
  omega
theorem r_part_loop {b kd w sec : Nat} {lt tk : Int32} (hy : ryOk y) (hsec : sec < g 5) (hb : b ≤ 48) (hw : w < g 6) (hm : rmet y g w) : ∀ (d r0 fu : Nat) (s : vt_S), r0 + d = b → d < fu → rVy B g n y D sec tk s → mtR B y g w s → ∃ s1, ab_X17_part_393 fu (B + 639) (nI b) (nI kd) (nI w) (nI (tW y g kd w)) (anW g D kd w (rfr y g w) (hW g (tW y g kd w))) (zL (uW y g w)) (shS lt (flD (64 * zL (rov y g w)) (zL (run y g w)))) (nI r0) s = some ((), s1) ∧ (∀ r, vt_A s1 1825 (B + 639) r = if r0 ≤ r ∧ r < b then wlP y g D kd w lt (eyS D sec) r else vt_A s 1825 (B + 639) r) ∧ (∀ r, vt_A s1 1824 (B + 639) r = if r0 ≤ r ∧ r < b then nI (256 * kd + w) else vt_A s 1824 (B + 639) r) ∧ vk [] [1824, 1825] [] (fun _ => True) s s1 := by
  intro d
  induction d with
  | zero =>
    intro r0 fu s hr hf hk hM
    obtain ⟨fu, rfl⟩ : ∃ q, fu = q + 1 := ⟨fu - 1, by omega⟩
    refine ⟨s, ?_, fun r => by rw [if_neg (by omega)], fun r => by rw [if_neg (by omega)], vk.refl s⟩
    show ab_X17_part_393b _ (B + 639) (nI b) _ _ _ _ _ _ (nI r0) s = _
    unfold ab_X17_part_393b
    rw [if_pos (nI_le (by omega) (by omega))]
  | succ d ih =>
    intro r0 fu s hr hf hk hM
    obtain ⟨fu, rfl⟩ : ∃ q, fu = q + 1 := ⟨fu - 1, by omega⟩
    have hr48 : r0 < 48 := by omega
    obtain ⟨hW', hA, hD, hs, htk, l4, l5, l2⟩ := id hk
    obtain ⟨j5, j6, j7, j8, j9⟩ := hM
    have hc := hW'.C
    have tv := hc.xV (y := y) (kd := kd) hw
    have ey := r_eye (k := (0, 0, sec)) hW'.2.2.2.2.1 hW'.2.1 hD hs hsec
    have b10 := hc.2 (wlp g w + 10) (by have := (hc.1.1.2.2.2.2.2 w hw).2; omega)
    obtain ⟨t1, ht1⟩ : ∃ u, u = vu_A s 1824 (B + 639) r0 (nI (256 * kd + w)) := ⟨_, rfl⟩
    have k1 : vk [] [1824, 1825] [] (fun _ => True) s t1 := by rw [ht1]; exact vk.pA (vk.refl s) (by decide)
    have hk1 : rVy B g n y D sec tk t1 := k1.keep0 (P := rVy B g n y D sec tk) hk
    obtain ⟨t2, ht2⟩ : ∃ u, u = vu_A t1 1825 (B + 639) r0 (wlP y g D kd w lt (eyS D sec) r0) := ⟨_, rfl⟩
    have k2 : vk [] [1824, 1825] [] (fun _ => True) s t2 := by rw [ht2]; exact vk.pA k1 (by decide)
    obtain ⟨s1, a1, a2, a3, a4⟩ := ih (r0 + 1) fu t2 (by omega) (by omega) (k2.keep0 (P := rVy B g n y D sec tk) hk) (k2.keep0 (P := mtR B y g w) ⟨j5, j6, j7, j8, j9⟩)
    have p11 := r_part (k := 11) hk1.1.1 hk1.1.2.2.2.1 hw (by omega)
    rw [show wP g (wlp g w) 11 = g (wlp g w + 10) % 16 from rfl] at p11
    have l5' : vt_L t1 1825 (B + 639) = 48 := hk1.2.2.2.2.2.2.1
    refine ⟨s1, ?_, fun r => ?_, fun r => ?_, k2.trans a4⟩
    · show ab_X17_part_393b _ (B + 639) (nI b) _ _ _ _ _ _ (nI r0) s = _
      unfold ab_X17_part_393b
      rw [if_neg (nI_ge (by omega) (by omega)), ey, vbs, slet, slet, j7, j8, low_L2 hr48, r_flD (run_n0 hy hm), vbs, vs_I_ok (by omega) (by omega), obs, show (256 : Int32) = nI 256 from rfl, pk_mul, nI_add, ← ht1, show (11 : Int32) = nI 11 from rfl, p11, vbs, r_texel hk1.1 tv, vbs, vs_I_ok (by omega) (by omega), obs, nI_1, nI_z (g (wlp g w + 10) % 16), zI_wide (by omega) (by omega)]
      rw [show vu_A t1 1825 (B + 639) r0 (16 * nI (txS g (tW y g kd w) (zL (uW y g w)) (Int32.toInt64 (anW g D kd w (rfr y g w) (hW g (tW y g kd w)) - 1) - (Int32.toInt64 (eyS D sec) + flD (zL (lowZ r0) * zL (rov y g w)) (zL (run y g w))) + zL ((g (wlp g w + 10) % 16 : Nat) : Int))) + shS lt (flD (64 * zL (rov y g w)) (zL (run y g w)))) = t2 from ht2.symm]
      exact a1
    · rw [a2, ht2, A_at, ht1, A_nf (show 1825 ≠ 1824 by decide)]
      exact upR_cons (v := wlP y g D kd w lt (eyS D sec)) (by omega) r
    · rw [a3, ht2, A_nf (show 1824 ≠ 1825 by decide), ht1, A_at]
      exact upR_cons (v := fun _ => nI (256 * kd + w)) (by omega) r
theorem len_sel {α : Type} {X : Int64 → α} {dx dy : Int} (h1 : -100000 ≤ dx) (h2 : dx ≤ 100000) (h3 : -100000 ≤ dy) (h4 : dy ≤ 100000) : (if 0 ≤ lg_cmp (zL dx) 0 then (if 0 ≤ lg_cmp (zL dy) 0 then (if lg_cmp (zL dx) (zL dy) ≤ 0 then X (zL dy) else X (zL dx)) else (if lg_cmp (zL dx) (-zL dy) ≤ 0 then X (-zL dy) else X (zL dx))) else (if 0 ≤ lg_cmp (zL dy) 0 then (if lg_cmp (-zL dx) (zL dy) ≤ 0 then X (zL dy) else X (-zL dx)) else (if lg_cmp (-zL dx) (-zL dy) ≤ 0 then X (-zL dy) else X (-zL dx)))) = X (zL (max (dx.natAbs : Int) (dy.natAbs : Int))) := by
  rw [zL_neg, zL_neg, show (0 : Int64) = zL 0 from rfl, show (0 : Int32) = zI 0 from rfl, ifc (lg_ge (a := dx) (b := 0) (by omega) (by omega) (by omega) (by omega)), ifc (lg_ge (a := dy) (b := 0) (by omega) (by omega) (by omega) (by omega)), ifc (lg_ge (a := dy) (b := 0) (by omega) (by omega) (by omega) (by omega)), ifc (lg_le (a := dx) (b := dy) (by omega) (by omega) (by omega) (by omega)), ifc (lg_le (a := dx) (b := -dy) (by omega) (by omega) (by omega) (by omega)), ifc (lg_le (a := -dx) (b := dy) (by omega) (by omega) (by omega) (by omega)), ifc (lg_le (a := -dx) (b := -dy) (by omega) (by omega) (by omega) (by omega))]
  have fin : ∀ a : Int, a = max (dx.natAbs : Int) (dy.natAbs : Int) → X (zL a) = X (zL (max (dx.natAbs : Int) (dy.natAbs : Int))) := fun a h => by rw [h]
  by_cases c1 : 0 ≤ dx
  · rw [if_pos c1]
    by_cases c2 : 0 ≤ dy
    · rw [if_pos c2]
      by_cases c3 : dx ≤ dy
      · rw [if_pos c3]; exact fin _ (by omega)
      · rw [if_neg c3]; exact fin _ (by omega)
    · rw [if_neg c2]
      by_cases c3 : dx ≤ -dy
      · rw [if_pos c3]; exact fin _ (by omega)
      · rw [if_neg c3]; exact fin _ (by omega)
  · rw [if_neg c1]
    by_cases c2 : 0 ≤ dy
    · rw [if_pos c2]
      by_cases c3 : -dx ≤ dy
      · rw [if_pos c3]; exact fin _ (by omega)
      · rw [if_neg c3]; exact fin _ (by omega)
    · rw [if_neg c2]
      by_cases c3 : -dx ≤ -dy
      · rw [if_pos c3]; exact fin _ (by omega)
      · rw [if_neg c3]; exact fin _ (by omega)
theorem r_len {s : vt_S} {w : Nat} {x1 x2 x3 x5 x7 an : Int32} (hT : rTr B g (g 6) s) (hw : w < g 6) : ab_X17_part_206 (B + 639) x1 x2 x3 (nI w) x5 x7 an s = ab_X17_part_305 (B + 639) x1 x2 x3 (nI w) x5 x7 an (zL (lnW g w)) s := by
  obtain ⟨tP, tW', ⟨t1, t2, t3, t4⟩, tA⟩ := hT
  obtain ⟨wa, wb, wc, wd⟩ := tA w hw
  have aa1 : -32768 ≤ aX g (wlp g w) ∧ aX g (wlp g w) ≤ 32767 := pr_rng g (7 + 4 * g (wlp g w))
  have aa2 : -32768 ≤ aY g (wlp g w) ∧ aY g (wlp g w) ≤ 32767 := pr_rng g (9 + 4 * g (wlp g w))
  have aa3 : -32768 ≤ bX g (wlp g w) ∧ bX g (wlp g w) ≤ 32767 := pr_rng g (7 + 4 * g (wlp g w + 1))
  have aa4 : -32768 ≤ bY g (wlp g w) ∧ bY g (wlp g w) ≤ 32767 := pr_rng g (9 + 4 * g (wlp g w + 1))
  have hw8 : w < 128 := Nat.lt_of_lt_of_le hw tW'
  unfold ab_X17_part_206 ab_X17_part_271 ab_X17_part_288 lnW
  clear tA hw tW'
  generalize aX g (wlp g w) = axx at *
  generalize aY g (wlp g w) = ayy at *
  generalize bX g (wlp g w) = bxx at *
  generalize bY g (wlp g w) = byy at *
  rw [slet, tP, vl_I_ok (by omega) (by omega), obs, slet, vl_I_ok (by omega) (by omega), obs, slet, vl_I_ok (by omega) (by omega), obs, slet, vl_I_ok (by omega) (by omega), obs, wa, wb, wc, wd, zI_sub, zI_sub, zI_wide (by omega) (by omega), zI_wide (by omega) (by omega)]
  exact len_sel (X := fun L => ab_X17_part_305 (B + 639) x1 x2 x3 (nI w) x5 x7 an L s) (by omega) (by omega) (by omega) (by omega)
theorem r_355 {a b kd w sec near : Nat} {tk : Int32} {s : vt_S} (hy : ryOk y) (hv : ∀ j, j < g 5 → sdOk (D j)) (hsec : sec < g 5) (hnr : near < g 5) (ha : a ≤ 48) (hb : b ≤ 48) (hw : w < g 6) (hm : rmet y g w) (hk : rVy B g n y D sec tk s) (hM : mtR B y g w s) : ∃ s1, ab_X17_part_305 (B + 639) (nI a) (nI b) (nI kd) (nI w) (nI near) (nI (tW y g kd w)) (anW g D kd w (rfr y g w) (hW g (tW y g kd w))) (zL (lnW g w)) s = some ((), s1) ∧ vt_A s1 1825 (B + 639) = upR (vt_A s 1825 (B + 639)) a b (wlP y g D kd w (litS g D tk near) (eyS D sec)) ∧ vt_A s1 1824 (B + 639) = upR (vt_A s 1824 (B + 639)) a b (fun _ => nI (256 * kd + w)) ∧ vk [] [1824, 1825] [] (fun _ => True) s s1 := by
  obtain ⟨j5, j6, j7, j8, j9⟩ := id hM
  obtain ⟨hW', hA, hD, hs, htk, l4, l5, l2⟩ := id hk
  have hc := hW'.C
  obtain ⟨u1, u2⟩ := met_un hm
  have ru := (rov_rng hy g w)
  obtain ⟨⟨n1, n1'⟩, ⟨n2, n2'⟩, -⟩ := r_rng hy g w
  have ln := lnW_rng g w
  obtain ⟨mf1, mf2⟩ := met_fr hm
  have b10 := hc.2 (wlp g w + 10) (by have := (hc.1.1.2.2.2.2.2 w hw).2; omega)
  have p10 := r_part (k := 10) hW'.1 hW'.2.2.2.1 hw (by omega)
  rw [show wP g (wlp g w) 10 = g (wlp g w + 10) / 16 from rfl] at p10
  have loop : ∃ s1, ab_X17_part_393 sv_fuel (B + 639) (nI b) (nI kd) (nI w) (nI (tW y g kd w)) (anW g D kd w (rfr y g w) (hW g (tW y g kd w))) (zL (uW y g w)) (shS (litS g D tk near) (flD (64 * zL (rov y g w)) (zL (run y g w)))) (nI a) s = some ((), s1) ∧ vt_A s1 1825 (B + 639) = upR (vt_A s 1825 (B + 639)) a b (wlP y g D kd w (litS g D tk near) (eyS D sec)) ∧ vt_A s1 1824 (B + 639) = upR (vt_A s 1824 (B + 639)) a b (fun _ => nI (256 * kd + w)) ∧ vk [] [1824, 1825] [] (fun _ => True) s s1 := by
    by_cases c : a ≤ b
    · obtain ⟨s1, a1, a2, a3, a4⟩ := r_part_loop (B := B) (n := n) (D := D) (kd := kd) (lt := litS g D tk near) hy hsec hb hw hm (b - a) a sv_fuel s (by omega) (fuel_ge (by omega)) hk hM
      exact ⟨s1, a1, funext a2, funext a3, a4⟩
    · refine ⟨s, ?_, funext fun r => ?_, funext fun r => ?_, vk.refl s⟩
      · obtain ⟨fu, hf⟩ : ∃ fu, sv_fuel = fu + 1 := ⟨sv_fuel - 1, by have : 5 < sv_fuel := fuel_ge (by omega); omega⟩
        rw [hf]
        show ab_X17_part_393b _ (B + 639) (nI b) _ _ _ _ _ _ (nI a) s = _
        unfold ab_X17_part_393b
        rw [if_pos (nI_le (by omega) (by omega))]
      · unfold upR
        rw [if_neg (by omega)]
      · unfold upR
        rw [if_neg (by omega)]
  have e355 : ab_X17_part_355 (B + 639) (nI a) (nI b) (nI kd) (nI w) (nI near) (nI (tW y g kd w)) (anW g D kd w (rfr y g w) (hW g (tW y g kd w))) (zL (lnW g w * (if rfr y g w then r1 y g w else r2 y g w) / run y g w)) s = ab_X17_part_393 sv_fuel (B + 639) (nI b) (nI kd) (nI w) (nI (tW y g kd w)) (anW g D kd w (rfr y g w) (hW g (tW y g kd w))) (zL (uW y g w)) (shS (litS g D tk near) (flD (64 * zL (rov y g w)) (zL (run y g w)))) (nI a) s := by
    unfold ab_X17_part_355
    rw [show (10 : Int32) = nI 10 from rfl, p10, vbs, slet, slet, j7, j8, r_flD (run_n0 hy hm), vbs, r_shade hv hnr hk, vbs, nI_z (g (wlp g w + 10) / 16), zI_wide (by omega) (by omega), zL_add]
    rfl
  have fin : ∀ x d : Int, 0 ≤ x → x ≤ 10621440000 → d = run y g w → flD (zL (lnW g w) * zL x) (zL d) = zL (lnW g w * x / run y g w) := by
    intro x d x1 x2 hd
    have pr1 : 0 ≤ lnW g w * x := Int.mul_nonneg ln.1 x1
    have pr2 : lnW g w * x ≤ 65535 * 10621440000 := Int.mul_le_mul ln.2 x2 x1 (by omega)
    rw [hd, zL_mul, flD_pos (by omega) (by omega) (by omega) (by omega)]
  have e305 : ab_X17_part_305 (B + 639) (nI a) (nI b) (nI kd) (nI w) (nI near) (nI (tW y g kd w)) (anW g D kd w (rfr y g w) (hW g (tW y g kd w))) (zL (lnW g w)) s = ab_X17_part_355 (B + 639) (nI a) (nI b) (nI kd) (nI w) (nI near) (nI (tW y g kd w)) (anW g D kd w (rfr y g w) (hW g (tW y g kd w))) (zL (lnW g w * (if rfr y g w then r1 y g w else r2 y g w) / run y g w)) s := by
    unfold ab_X17_part_305
    rw [slet, j9]
    cases hf : rfr y g w with
    | true =>
      obtain ⟨q1, q2, q3⟩ := mf1 hf
      have n0 := run_n0 hy hm
      rw [q3] at n0
      rw [if_neg (show ¬ bI true = 0 by decide), slet, slet, slet, j5, j6, zL_sub, r_flD n0, vbs, fin _ _ q1 n1' q3.symm]
      rfl
    | false =>
      obtain ⟨q1, q2, q3⟩ := mf2 hf
      have n0 := run_n0 hy hm
      rw [q3] at n0
      rw [if_pos (show bI false = 0 from rfl), slet, slet, slet, j5, j6, zL_sub, r_flD n0, vbs, fin _ _ q2 n2' q3.symm]
      rfl
  rw [e305, e355]
  exact loop
end RP
