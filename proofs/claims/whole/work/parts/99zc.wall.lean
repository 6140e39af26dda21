-- VIEW: walls of the class
theorem bm32 (q : Int) : ∃ j c : Int, Int32.toInt64 (zI q) = zL j ∧ j = q + 4294967296 * c := by
  have e : (zI q).toInt = Int.bmod q 4294967296 := Int32.toInt_ofInt ..
  obtain ⟨j, h, h1, h2⟩ := zI_ex (zI q)
  rw [h, zI_toInt h1 h2] at e
  rw [h, zI_wide h1 h2]
  unfold Int.bmod at e
  refine ⟨j, (j - q) / 4294967296, rfl, ?_⟩
  have e : j = if q % 4294967296 < (4294967296 + 1) / 2 then q % 4294967296 else q % 4294967296 - 4294967296 := e
  split at e <;> omega
theorem bm64 (q : Int) : ∃ c : Int, (zL q).toInt = q + 18446744073709551616 * c := by
  have e : (zL q).toInt = Int.bmod q 18446744073709551616 := Int64.toInt_ofInt ..
  unfold Int.bmod at e
  have e : (zL q).toInt = if q % 18446744073709551616 < (18446744073709551616 + 1) / 2 then q % 18446744073709551616 else q % 18446744073709551616 - 18446744073709551616 := e
  refine ⟨((zL q).toInt - q) / 18446744073709551616, ?_⟩
  generalize (zL q).toInt = t at *
  split at e <;> omega
theorem md_add (q c M : Int) (k : Nat) (hk : k ≤ 4) (hM : M = 4294967296 ∨ M = 18446744073709551616) : (q + M * c) % (2 ^ k : Nat) = q % (2 ^ k : Nat) := by
  have e : M % ((2 ^ k : Nat) : Int) = 0 := by
    match k, hk with
    | 0, _ => rcases hM with rfl | rfl <;> decide
    | 1, _ => rcases hM with rfl | rfl <;> decide
    | 2, _ => rcases hM with rfl | rfl <;> decide
    | 3, _ => rcases hM with rfl | rfl <;> decide
    | 4, _ => rcases hM with rfl | rfl <;> decide
  have d : ((2 ^ k : Nat) : Int) ∣ M * c := Int.dvd_mul_of_dvd_left (Int.dvd_of_emod_eq_zero e)
  obtain ⟨m, hm⟩ := d
  rw [hm, Int.add_mul_emod_self_left]
theorem tx_z {g : Nat → Nat} {t : Nat} {u Z : Int64} {A : Int32} {d : Nat} (hd : d < 256) (h4 : t = 255 ∨ g (txp g t + 1) ≤ 4) : txS g t u (Int32.toInt64 (A + nI d) - Z) = txS g t u (Int32.toInt64 A - Z + zL (d : Int)) := by
  unfold txS
  by_cases c : t = 255
  · rw [if_pos c, if_pos c]
  · have h4 : g (txp g t + 1) ≤ 4 := h4.resolve_left c
    rw [if_neg c, if_neg c]
    have key : (Int32.toInt64 (A + nI d) - Z).toInt % (2 ^ g (txp g t + 1) : Nat) = (Int32.toInt64 A - Z + zL (d : Int)).toInt % (2 ^ g (txp g t + 1) : Nat) := by
      obtain ⟨i, rfl, i1, i2⟩ := zI_ex A
      obtain ⟨m, rfl, m1, m2⟩ := zL_ex Z
      rw [nI_z, zI_add, zI_wide i1 i2]
      obtain ⟨j, c1, e1, e2⟩ := bm32 (i + d)
      rw [e1, zL_sub, zL_sub, zL_add]
      obtain ⟨c2, e3⟩ := bm64 (j - m)
      obtain ⟨c3, e4⟩ := bm64 (i - m + d)
      rw [e3, e4, md_add _ _ _ _ h4 (Or.inr rfl), md_add _ _ _ _ h4 (Or.inr rfl), show j - m = (i - m + d) + 4294967296 * c1 by omega, md_add _ _ _ _ h4 (Or.inl rfl)]
    rw [key]
section CW
variable {B p n : Nat} {g : Nat → Nat} {D : Nat → SD} {y : RY} {m : Nat → Nat} {s : vt_S} {i : Nat}
theorem c_length {x w : Nat} (h : wallF s x g (wlp g w)) : ab_X11_length x s = some (zI (lnW g w), s) := by
  obtain ⟨f0, f1, f2, f3, -⟩ := h
  have a1 := pr_rng g (7 + 4 * g (wlp g w))
  have a2 := pr_rng g (9 + 4 * g (wlp g w))
  have a3 := pr_rng g (7 + 4 * g (wlp g w + 1))
  have a4 := pr_rng g (9 + 4 * g (wlp g w + 1))
  unfold ab_X11_length
  rw [slet, slet, slet, slet, slet, slet, slet, f0, f1, f2, f3, zI_sub, zI_sub, zI_abs (by omega) (by omega), zI_abs (by omega) (by omega), zI_max (by omega) (by omega) (by omega) (by omega)]
  rfl
theorem c_across {x : Nat} (hy : ryOk y) (hi : i < 128) (h0 : vt_P s 1000 (B + 629) = B + 621) (hL : rayL (B + 621) s) (hr : rayC s (B + 621) y g m i) (hm : rmet y g (m i)) (hx : wallF s x g (wlp g (m i))) : ab_X9_acrossAt (B + 629) x (nI i) s = some (zL (lnW g (m i) * (if rfr y g (m i) then r1 y g (m i) else r2 y g (m i)) / run y g (m i)), s) := by
  obtain ⟨r0, r1', r2', r3', r4', r5'⟩ := hr
  obtain ⟨L0, L1, L2, L3, L4, L5⟩ := hL
  obtain ⟨u1, u2⟩ := met_un hm
  obtain ⟨⟨n1, n1'⟩, ⟨n2, n2'⟩, -⟩ := r_rng hy g (m i)
  have ru := (rov_rng hy g (m i)).2
  have ln := lnW_rng g (m i)
  obtain ⟨mf1, mf2⟩ := met_fr hm
  have fin : ∀ a : Int, 0 ≤ a → a ≤ 10621440000 → ab_X9_acrossAt_33 (B + 629) x (nI i) (zL a) s = some (zL (lnW g (m i) * a / run y g (m i)), s) := by
    intro a a1 a2
    have e : (a.natAbs : Int) = a := by omega
    have pr1 : 0 ≤ lnW g (m i) * a := Int.mul_nonneg ln.1 a1
    have pr2 : lnW g (m i) * a ≤ 65535 * 10621440000 := Int.mul_le_mul ln.2 a2 a1 (by omega)
    unfold ab_X9_acrossAt_33
    rw [c_length hx, vbs, slet, zL_abs (by omega) (by omega), slet, h0, vl_J_ok (by omega) (by omega), obs, r3', if_neg (show ¬ zL (run y g (m i)) = 0 by rw [show (0 : Int64) = zL 0 from rfl, zL_eq (by omega) (by omega) (by omega) (by omega)]; omega), zI_wide (by omega) (by omega), e, zL_mul, zL_divP (by omega) (by omega) (by omega) (by omega)]
  unfold ab_X9_acrossAt
  rw [slet, h0, vl_I_ok (by omega) (by omega), obs, r1']
  cases hf : rfr y g (m i) with
  | true =>
    obtain ⟨q1, -, -⟩ := mf1 hf
    rw [if_neg (show ¬ bI true = 0 by decide), slet, vl_J_ok (by omega) (by omega), obs, r4']
    exact fin _ q1 n1'
  | false =>
    obtain ⟨-, q1, -⟩ := mf2 hf
    rw [if_pos (show bI false = 0 from rfl), slet, vl_J_ok (by omega) (by omega), obs, r5']
    exact fin _ q1 n2'
theorem c_height {t : Nat} (hk : cWk B p g n s) (ht : t < g 4 ∨ t = 255) : ab_X2_heightOf p (zI (n255 t)) s = some (nI (hW g t), s) := by
  have hp := hk.2.2.2.2.1
  have hF := hk.2.2.2.2.2.1
  have hc := hk.2.2.2.2.2.2
  have g4 : g 4 ≤ 16 := hc.1.1.1.2.1
  have l5 := hp.L305
  unfold ab_X2_heightOf ab_X2_heightOf_15 hW
  by_cases c : t = 255
  · rw [if_pos (show zI (n255 t) = -1 by rw [c]; rfl), if_pos c]; rfl
  · have ht : t < g 4 := by omega
    rw [if_neg c, n255_nI c, if_neg (show ¬ nI t = -1 from fun z => by
      rw [show (-1 : Int32) = zI (-1) from rfl, nI_z, zI_eq (by omega) (by omega) (by omega) (by omega)] at z
      omega), vl_I_ok (by omega) (by omega), obs, (hF.2.2.1 t ht).2.1]
theorem c_anchor {kd h : Nat} (hkd : kd = 3 ∨ kd = 4 ∨ kd = 5) (hi : i < 128) (hk : cVw B p g n s) (hr : rayC s (B + 621) y g m i) (hw : m i < g 6) (hn : rfr y g (m i) = true ∨ g (wlp g (m i) + 3) ≠ 255) (hb : kd ≠ 3 → g (wlp g (m i) + 3) ≠ 255) (hD : secsC s p (g 5) D) : ab_X9_anchorOf (B + 629) p (p + 43 + 2 * m i) (nI kd) (nI i) (nI h) s = some (anW g D kd (m i) (rfr y g (m i)) h, s) := by
  obtain ⟨hW, hrow, h0, l1, l2, l3⟩ := id hk
  obtain ⟨r0, r1', -⟩ := hr
  obtain ⟨L0, L1, -⟩ := hW.2.2.2.1
  have hp := hW.2.2.2.2.1
  have hc := hW.2.2.2.2.2.2
  have g5 := hc.S.1
  have hF : wallF s (p + 43 + 2 * m i) g (wlp g (m i)) := hW.2.2.2.2.2.1.2.2.2.2.1 (m i) hw
  have L7 := hp.L307
  have pg : vt_I s 1208 (p + 43 + 2 * m i) = nI (g (wlp g (m i) + 11)) := hF.2.2.2.2.2.2.2.2.2.1
  have sn : sdOn g (m i) (rfr y g (m i)) < g 5 := by
    rcases hn with a | a
    · rw [a]; exact (hc.wV hw).1
    · exact sdOn_lt hc hw a
  have zf : ∀ j, j < g 5 → vt_I s 707 (p + 11 + j) = (D j).1 ∧ vt_I s 708 (p + 11 + j) = (D j).2.1 := fun j hj => ⟨(hD j hj).1, (hD j hj).2.1⟩
  obtain ⟨n7, n8⟩ := zf _ sn
  have far : kd ≠ 3 → ∀ s0, ab_X9_anchorOf_35 (B + 629) p (p + 43 + 2 * m i) (nI kd) (nI i) (nI h) (p + 11 + sdOn g (m i) (rfr y g (m i))) s0 s = (if nI kd = 4 then if nI (g (wlp g (m i) + 11)) &&& 1 = 0 then some ((D (sdOn g (m i) (!rfr y g (m i)))).2.1 + nI h, s) else some ((D (sdOn g (m i) (rfr y g (m i)))).2.1, s) else if s0 = 0 then some ((D (sdOn g (m i) (!rfr y g (m i)))).1, s) else some ((D (sdOn g (m i) (rfr y g (m i)))).2.1, s)) := by
    intro k3 s0
    have bk := hb k3
    have sf : sdOn g (m i) (!rfr y g (m i)) < g 5 := sdOn_lt hc hw bk
    obtain ⟨f7, f8⟩ := zf _ sf
    have e87 : ∀ q : Int32, q = bI (!rfr y g (m i)) → ab_X9_anchorOf_87 (p + 43 + 2 * m i) (nI kd) (nI h) (p + 11 + sdOn g (m i) (rfr y g (m i))) s0 p (p + 43 + 2 * m i) q s = (if nI kd = 4 then if nI (g (wlp g (m i) + 11)) &&& 1 = 0 then some ((D (sdOn g (m i) (!rfr y g (m i)))).2.1 + nI h, s) else some ((D (sdOn g (m i) (rfr y g (m i)))).2.1, s) else if s0 = 0 then some ((D (sdOn g (m i) (!rfr y g (m i)))).1, s) else some ((D (sdOn g (m i) (rfr y g (m i)))).2.1, s)) := by
      intro q hq
      unfold ab_X9_anchorOf_87 ab_X9_anchorOf_123 ab_X9_anchorOf_142
      rw [hq, c_secOn hF _ (Or.inr bk), vbs, vl_P_ok (by omega) (by omega), obs, hp.E307 _ (by omega), slet, pg, slet, slet, f8, n8, slet, f7]
    unfold ab_X9_anchorOf_35
    rw [if_neg (show ¬ nI kd = 3 by rcases hkd with rfl | rfl | rfl; exact absurd rfl k3; decide; decide), slet, h0, vl_I_ok (by omega) (by omega), obs, r1']
    cases hf : rfr y g (m i) with
    | true => rw [if_neg (show ¬ bI true = 0 by decide), ← hf]; exact e87 0 (by rw [hf]; rfl)
    | false => rw [if_pos (show bI false = 0 from rfl), ← hf]; exact e87 1 (by rw [hf]; rfl)
  have e0 : ab_X9_anchorOf (B + 629) p (p + 43 + 2 * m i) (nI kd) (nI i) (nI h) s = if nI (g (wlp g (m i) + 11)) &&& 2 = 0 then ab_X9_anchorOf_35 (B + 629) p (p + 43 + 2 * m i) (nI kd) (nI i) (nI h) (p + 11 + sdOn g (m i) (rfr y g (m i))) 0 s else ab_X9_anchorOf_35 (B + 629) p (p + 43 + 2 * m i) (nI kd) (nI i) (nI h) (p + 11 + sdOn g (m i) (rfr y g (m i))) 1 s := by
    unfold ab_X9_anchorOf
    rw [slet, h0, vl_I_ok (by omega) (by omega), obs, r1', c_secOn hF _ hn, vbs, vl_P_ok (by omega) (by omega), obs, hp.E307 _ (by omega), slet, pg]
  rw [e0]
  rcases hkd with rfl | rfl | rfl
  · have e35 : ∀ q : Int32, ab_X9_anchorOf_35 (B + 629) p (p + 43 + 2 * m i) (nI 3) (nI i) (nI h) (p + 11 + sdOn g (m i) (rfr y g (m i))) q s = if q = 0 then some ((D (sdOn g (m i) (rfr y g (m i)))).2.1, s) else some ((D (sdOn g (m i) (rfr y g (m i)))).1 + nI h, s) := by
      intro q
      unfold ab_X9_anchorOf_35 ab_X9_anchorOf_63
      rw [if_pos (show nI 3 = 3 from rfl), slet, slet, n7, n8]
    rw [e35, e35, if_pos rfl, if_neg (show ¬ (1 : Int32) = 0 by decide)]
    unfold anW
    rw [if_neg (show ¬ 3 = 4 by decide), if_pos rfl]
    by_cases c1 : nI (g (wlp g (m i) + 11)) &&& 2 = 0
    · rw [if_pos c1, if_pos c1]
    · rw [if_neg c1, if_neg c1]
  · rw [far (by decide), far (by decide), if_pos (show nI 4 = 4 from rfl), if_pos (show nI 4 = 4 from rfl)]
    unfold anW
    rw [if_pos rfl]
    by_cases c1 : nI (g (wlp g (m i) + 11)) &&& 1 = 0
    · rw [if_pos c1, if_pos c1, ite_self]
    · rw [if_neg c1, if_neg c1, ite_self]
  · rw [far (by decide), far (by decide), if_neg (show ¬ nI 5 = 4 by decide), if_neg (show ¬ nI 5 = 4 by decide), if_pos rfl, if_neg (show ¬ (1 : Int32) = 0 by decide)]
    unfold anW
    rw [if_neg (show ¬ 5 = 4 by decide), if_neg (show ¬ 5 = 3 by decide)]
    by_cases c1 : nI (g (wlp g (m i) + 11)) &&& 2 = 0
    · rw [if_pos c1, if_pos c1]
    · rw [if_neg c1, if_neg c1]
end CW
