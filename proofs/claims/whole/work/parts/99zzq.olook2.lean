-- obligation: lookAt
section OW2
variable {B : Nat}
theorem ite_some {c : Prop} [Decidable c] {a b : Int32} {s : vt_S} : (if c then some (a, s) else some (b, s)) = some (if c then a else b, s) := by
  by_cases h : c
  · rw [if_pos h, if_pos h]
  · rw [if_neg h, if_neg h]
def lkA (mp : Nat) (gm : Nat → Nat) (m ni no : Nat) (fa pl : Int32) (D : Nat → SD) (x : Int32) : Int32 := if x = 0 then (if 0 < mp then nI (gm 3) else -1) else if x = 1 then (if 0 < mp then nI (gm 4) else -1) else if x = 2 then (if 0 < mp then nI (gm 5) else -1) else if x = 3 then (if 0 < mp then nI (gm 6) else -1) else if x = 4 then nI m else if x = 5 then nI ni else if x = 6 then nI no else if x = 7 then fa else if x = 8 then pl else if x = 9 then (if 0 < mp then nI (trN gm (gm 6)).length else -1) else if x = 10 then (if 0 < mp then nI (gm 6 + bcut gm 128 (l00 (gm 6))) else -1) else if x = 11 then (if 0 < mp then nI (cntM D (gm 5)) else 0) else if x = 12 then nI mp else -1
theorem r_many0 {s : vt_S} (h : vt_I s 1400 (B + 656) = nI 0) : ab_X13_many (B + 656) s = some (0, s) := by
  have hf : 1 < sv_fuel := fuel_ge (by omega)
  obtain ⟨q, hq⟩ : ∃ q, sv_fuel = q + 1 := ⟨sv_fuel - 1, by omega⟩
  unfold ab_X13_many
  rw [hq]
  show ab_X13_many_4b _ (B + 656) 0 0 s = _
  unfold ab_X13_many_4b
  rw [slet, h, if_pos (show nI 0 ≤ 0 by decide)]
theorem o_look : ∀ (k : Nat), k + 5 ≤ 2560 → ∀ (x : Int32), vb2 (Inv B k) (Inv B (k + 5)) (ab_X12_lookAt B x) (ab_X17_lookAt (B + 639) x) := by
  intro k hk x s h
  have h0 := h
  obtain ⟨p, p', R0, R, K, KN, gi, ni, go, no, fa, pl, mp, gm, nm, D, wk, a, tk, I, m, st, h1, h2, h3, h4, h5, h6, h7, h8, h9⟩ := h
  have m10 := no_map h3 hk
  obtain ⟨c1, ⟨c2, c3, c4, c5⟩, c6, ⟨r1, r2, r34⟩, ⟨f1, f2, f3⟩, ⟨u1, u2⟩, t1, t2, t3⟩ := id h4
  obtain ⟨g1, ⟨g2, g3⟩, ⟨g4, g5, g6⟩, g7, g8⟩ := id h6
  obtain ⟨t, ht⟩ : ∃ t, t = vu_I s 1800 (B + 639) 0 := ⟨_, rfl⟩
  have kt : vk [1800] [] [] (fun _ => True) s t := by rw [ht]; exact vk.pI (vk.refl s) (by decide)
  have St : rS B t := kt.keep0 (P := rS B) g1
  have Kt : trK B gm (wallN mp gm) t := trQ_K.mp (kt.keep0 (P := trQ B gm (wallN mp gm)) h8)
  obtain ⟨s3, b1, b2, b3, b4, b5⟩ := r_know Kt
  have k2 : vk (1705 :: 1800 :: rnI) rnA [] (fun _ => True) s s3 := (kt.weak (by decide) (by decide) (by decide)).trans (b5.weak (by decide) (by decide) (by decide))
  have ans : ab_X12_lookAt B x s = some (lkA mp gm m ni no fa pl D x, s) := by
    by_cases c : 0 < mp
    · obtain ⟨x1, x2, x3, x4, x5, x6, x7, ⟨q1, q2, q3, q4⟩, x9⟩ := h5 c
      have pf := x1.2.2.2.2.2.1
      have S := x1.2.2.2.2.2.2.S
      have cc := c_count S.1 c2 pf.1.2.2.1 x3
      unfold ab_X12_lookAt lkA ab_X12_lookAt_86 ab_X12_lookAt_105 ab_X12_lookAt_124 ab_X12_lookAt_143 ab_X12_lookAt_202 ab_X12_lookAt_221 ab_X12_lookAt_240
      simp only [c_isMap f3 m10 c, vbs, slet, c4, pf.1.1, pf.1.2.1, pf.1.2.2.1, pf.1.2.2.2, c6.1, u1.1, c1.P1300, c1.P1301, c1.P1302, c1.P1303, r1.1, r2.1, f1, f2, f3, q1, q2, cc, if_pos c, if_neg (show ¬ (1 : Int32) = 0 by decide)]
      simp only [ite_some]
    · have e : mp = 0 := by omega
      have hm := f3
      rw [e] at hm
      unfold ab_X12_lookAt lkA ab_X12_lookAt_86 ab_X12_lookAt_105 ab_X12_lookAt_124 ab_X12_lookAt_143 ab_X12_lookAt_202 ab_X12_lookAt_221 ab_X12_lookAt_240
      simp only [c_noMap hm, vbs, slet, c6.1, u1.1, c1.P1300, c1.P1301, c1.P1302, c1.P1303, r1.1, r2.1, f1, f2, f3, if_neg c, if_true]
      simp only [ite_some]
  have i9 : vt_I t 1809 (B + 639) = vt_I s 1809 (B + 639) := kt.eI (by decide)
  by_cases d : x = 9 ∨ x = 10
  · refine ⟨_, s, s3, ans, ?_, Inv.tree hk ⟨p, p', R0, R, K, KN, gi, ni, go, no, fa, pl, mp, gm, nm, D, wk, a, tk, I, m, st, h1, h2, h3, h4, h5, h6, h7, trQ_K.mpr b2, h9⟩ k2⟩
    have j9 : vt_I s3 1809 (B + 639) = vt_I s 1809 (B + 639) := k2.eI (by decide)
    have P4 : vt_P s3 1804 (B + 639) = B + 670 := b2.2.1.2.P1804
    obtain ⟨q1, q2, -⟩ := b4
    unfold ab_X17_lookAt ab_X17_lookAt_150 ab_X17_lookAt_176
    rw [slet, ← ht]
    by_cases c : 0 < mp
    · have v9 := (h7 c).1.2.2.2.2.2.2
      have ew : wallN mp gm = gm 6 := if_pos c
      rw [ew] at q1 q2
      rcases d with d | d
      · subst d
        have e : lkA mp gm m ni no fa pl D 9 = nI (trN gm (gm 6)).length := by unfold lkA; rw [if_neg (by decide), if_neg (by decide), if_neg (by decide), if_neg (by decide), if_neg (by decide), if_neg (by decide), if_neg (by decide), if_neg (by decide), if_neg (by decide), if_pos rfl, if_pos c]
        rw [e, if_neg (by decide), if_neg (by decide), if_neg (by decide), if_neg (by decide), if_neg (by decide), if_neg (by decide), if_neg (by decide), if_neg (by decide), if_neg (by decide), if_pos rfl, slet, St.P1804, b1, vbs, slet, j9, v9, if_neg (by decide), slet, P4, slet, q1]
      · subst d
        have e : lkA mp gm m ni no fa pl D 10 = nI (gm 6 + bcut gm 128 (l00 (gm 6))) := by unfold lkA; rw [if_neg (by decide), if_neg (by decide), if_neg (by decide), if_neg (by decide), if_neg (by decide), if_neg (by decide), if_neg (by decide), if_neg (by decide), if_neg (by decide), if_neg (by decide), if_pos rfl, if_pos c]
        rw [e, if_neg (by decide), if_neg (by decide), if_neg (by decide), if_neg (by decide), if_neg (by decide), if_neg (by decide), if_neg (by decide), if_neg (by decide), if_neg (by decide), if_neg (by decide), if_pos rfl, slet, St.P1804, b1, vbs, slet, j9, v9, if_neg (by decide), slet, P4, slet, q2]
    · have e0 : mp = 0 := by omega
      have v9 := (g8 e0).1
      rcases d with d | d
      · subst d
        have e : lkA mp gm m ni no fa pl D 9 = -1 := by unfold lkA; rw [if_neg (by decide), if_neg (by decide), if_neg (by decide), if_neg (by decide), if_neg (by decide), if_neg (by decide), if_neg (by decide), if_neg (by decide), if_neg (by decide), if_pos rfl, if_neg c]
        rw [e, if_neg (by decide), if_neg (by decide), if_neg (by decide), if_neg (by decide), if_neg (by decide), if_neg (by decide), if_neg (by decide), if_neg (by decide), if_neg (by decide), if_pos rfl, slet, St.P1804, b1, vbs, slet, j9, v9, if_pos rfl]
      · subst d
        have e : lkA mp gm m ni no fa pl D 10 = -1 := by unfold lkA; rw [if_neg (by decide), if_neg (by decide), if_neg (by decide), if_neg (by decide), if_neg (by decide), if_neg (by decide), if_neg (by decide), if_neg (by decide), if_neg (by decide), if_neg (by decide), if_pos rfl, if_neg c]
        rw [e, if_neg (by decide), if_neg (by decide), if_neg (by decide), if_neg (by decide), if_neg (by decide), if_neg (by decide), if_neg (by decide), if_neg (by decide), if_neg (by decide), if_neg (by decide), if_pos rfl, slet, St.P1804, b1, vbs, slet, j9, v9, if_pos rfl]
  · refine ⟨_, s, t, ans, ?_, by rw [ht]; exact h0.v1800 hk⟩
    have d9 : ¬ x = 9 := fun z => d (Or.inl z)
    have d10 : ¬ x = 10 := fun z => d (Or.inr z)
    have q0 : vt_I t 1605 (B + 643) = nI m := (kt.eI (by decide)).trans g7.1
    have q1 : vt_I t 1501 (B + 640) = nI ni := (kt.eI (by decide)).trans g2.1
    have q2 : vt_I t 1806 (B + 639) = nI no := (kt.eI (by decide)).trans g3.1
    have q3 : vt_I t 1807 (B + 639) = fa := (kt.eI (by decide)).trans g4
    have q4 : vt_I t 1808 (B + 639) = pl := (kt.eI (by decide)).trans g5
    have q5 : vt_I t 1810 (B + 639) = nI mp := (kt.eI (by decide)).trans g6
    unfold ab_X17_lookAt ab_X17_lookAt_72 ab_X17_lookAt_93 lkA
    rw [slet, ← ht, if_neg d9, if_neg d9, if_neg d10, if_neg d10]
    by_cases c : 0 < mp
    · have y1 := (h7 c).1
      have v9 : vt_I t 1809 (B + 639) = 1 := i9.trans y1.2.2.2.2.2.2
      have Mt : rMap B gm nm t := kt.keep0 (P := rMap B gm nm) y1.1
      have mn : ab_X13_many (B + 656) t = some (nI (cntM D (gm 5)), t) := r_count (kt.keep0 (P := rHal B gm) y1.2.1) ((h3.2.2 c).2.2.1) (kt.keep0 (P := fun u => secsR u (B + 656) (gm 5) D) (h7 c).2.1)
      by_cases x0 : x = 0
      · subst x0
        rw [if_pos rfl, if_pos rfl, if_pos c, slet, v9, if_neg (by decide), slet, St.P1801, show (0 : Int32) + 3 = nI 3 from rfl, rm_many Mt (by omega), vbs]
      rw [if_neg x0, if_neg x0]
      by_cases x1 : x = 1
      · subst x1
        rw [if_pos rfl, if_pos rfl, if_pos c, slet, v9, if_neg (by decide), slet, St.P1801, show (1 : Int32) + 3 = nI 4 from rfl, rm_many Mt (by omega), vbs]
      rw [if_neg x1, if_neg x1]
      by_cases x2 : x = 2
      · subst x2
        rw [if_pos rfl, if_pos rfl, if_pos c, slet, v9, if_neg (by decide), slet, St.P1801, show (2 : Int32) + 3 = nI 5 from rfl, rm_many Mt (by omega), vbs]
      rw [if_neg x2, if_neg x2]
      by_cases x3 : x = 3
      · subst x3
        rw [if_pos rfl, if_pos rfl, if_pos c, slet, v9, if_neg (by decide), slet, St.P1801, show (3 : Int32) + 3 = nI 6 from rfl, rm_many Mt (by omega), vbs]
      rw [if_neg x3, if_neg x3]
      simp only [slet, St.P1801, St.P1802, St.P1803, q0, q1, q2, q3, q4, q5, mn, vbs, if_pos c]
      simp only [ite_some]
    · have e0 : mp = 0 := by omega
      have v9 : vt_I t 1809 (B + 639) = 0 := i9.trans (g8 e0).1
      have mn := r_many0 (s := t) ((kt.eI (by decide)).trans (g8 e0).2)
      simp only [slet, v9, St.P1801, St.P1802, St.P1803, q0, q1, q2, q3, q4, q5, mn, vbs, if_neg c, if_true]
      simp only [ite_some]
end OW2
