-- WALLS that stop the walker
def sdOn (g : Nat → Nat) (w : Nat) (fr : Bool) : Nat := if fr then g (wlp g w + 2) else g (wlp g w + 3)
def stB (D : Nat → SD) (g : Nat → Nat) (w : Nat) (fr : Bool) : Bool := if g (wlp g w + 3) = 255 then true else decide (24 < (D (sdOn g w (!fr))).1 - (D (sdOn g w fr)).1 ∨ ¬ 56 ≤ sv_min (D (sdOn g w fr)).2.1 (D (sdOn g w (!fr))).2.1 - sv_max (D (sdOn g w fr)).1 (D (sdOn g w (!fr))).1)
def cMap (g : Nat → Nat) (n : Nat) : Prop := mapV g n ∧ ∀ i, i < n → g i < 256
theorem cMap.wV {g : Nat → Nat} {n w : Nat} (h : cMap g n) (hw : w < g 6) : g (wlp g w + 2) < g 5 ∧ (g (wlp g w + 3) < g 5 ∨ g (wlp g w + 3) = 255) ∧ g (wlp g w + 12) ≤ 5 ∧ g (wlp g w + 13) < 256 := by
  obtain ⟨a, b⟩ := h.1.1.2.2.2.2.2 w hw
  exact ⟨a.2.2.2.1, a.2.2.2.2.1, a.2.2.2.2.2.2.2.2, h.2 _ (by omega)⟩
theorem cMap.S {g : Nat → Nat} {n : Nat} (h : cMap g n) : g 5 ≤ 32 ∧ g 6 ≤ 128 ∧ 1 ≤ g 5 := ⟨h.1.1.1.2.2.2.1, h.1.1.1.2.2.2.2, h.1.1.1.2.2.1⟩
theorem sdOn_lt {g : Nat → Nat} {n w : Nat} {fr : Bool} (h : cMap g n) (hw : w < g 6) (hb : g (wlp g w + 3) ≠ 255) : sdOn g w fr < g 5 := by
  have := h.wV hw
  unfold sdOn
  cases fr
  · exact this.2.1.resolve_right hb
  · exact this.1
theorem n255_nI {b : Nat} (h : b ≠ 255) : zI (n255 b) = nI b := by unfold n255; rw [if_neg h, nI_z]
theorem c_secOn {s : vt_S} {x w : Nat} {g : Nat → Nat} (h : wallF s x g (wlp g w)) (fr : Bool) (hb : fr = true ∨ g (wlp g w + 3) ≠ 255) : ab_X11_sectorOn x (bI fr) s = some (nI (sdOn g w fr), s) := by
  unfold ab_X11_sectorOn ab_X11_sectorOn_15 sdOn
  cases fr
  · rw [if_pos (show bI false = 0 from rfl), slet, h.2.2.2.2.2.1, n255_nI (hb.resolve_left (by decide)), if_neg (by decide)]
  · rw [if_neg (show ¬ bI true = 0 by decide), slet, h.2.2.2.2.1, if_pos rfl]
section ST
variable {B p n : Nat} {g : Nat → Nat} {D : Nat → SD} {s : vt_S}
theorem c_stops41 {K w : Nat} {fr : Bool} (hc : cMap g n) (hw : w < g 6) (hb : g (wlp g w + 3) ≠ 255) (hp : pS p s) (hF : wallF s (p + 43 + 2 * w) g (wlp g w)) (hD : secsC s p (g 5) D) : ab_X10_stops_41 (p + 11 + sdOn g w (!fr)) p (p + 43 + 2 * w) (bI fr) s = some (bI (stB D g w (!fr)), s) := by
  have q1 := sdOn_lt (fr := fr) hc hw hb
  have q2 := sdOn_lt (fr := !fr) hc hw hb
  have hS := hc.S
  have L := hp.L307
  obtain ⟨a1, a2, -⟩ := hD _ q1
  obtain ⟨b1, b2, -⟩ := hD _ q2
  have e : stB D g w (!fr) = decide (24 < (D (sdOn g w fr)).1 - (D (sdOn g w (!fr))).1 ∨ ¬ 56 ≤ sv_min (D (sdOn g w (!fr))).2.1 (D (sdOn g w fr)).2.1 - sv_max (D (sdOn g w (!fr))).1 (D (sdOn g w fr)).1) := by
    unfold stB
    rw [if_neg hb, Bool.not_not]
  unfold ab_X10_stops_41 ab_X10_stops_96 ab_X10_stops_101
  rw [c_secOn hF fr (Or.inr hb), vbs, vl_P_ok (by omega) (by omega), obs, hp.E307 _ (by omega), slet, slet, slet, slet, slet, slet, slet, slet, a1, a2, b1, b2, e]
  generalize (D (sdOn g w fr)).1 - (D (sdOn g w (!fr))).1 = u
  generalize sv_min (D (sdOn g w (!fr))).2.1 (D (sdOn g w fr)).2.1 - sv_max (D (sdOn g w (!fr))).1 (D (sdOn g w fr)).1 = v
  by_cases c1 : 24 < u
  · rw [if_pos c1, decide_eq_true (Or.inl c1)]; rfl
  · rw [if_neg c1]
    by_cases c2 : 56 ≤ v
    · rw [if_pos c2, decide_eq_false (fun z => z.elim c1 (fun y => y c2))]; rfl
    · rw [if_neg c2, decide_eq_true (Or.inr c2)]; rfl
theorem c_stops {K w : Nat} {fr : Bool} (hc : cMap g n) (hw : w < g 6) (hK : vt_P s 1101 K = p) (hp : pS p s) (hF : wallF s (p + 43 + 2 * w) g (wlp g w)) (hD : secsC s p (g 5) D) : ab_X10_stops K (p + 43 + 2 * w) (bI fr) s = some (bI (stB D g w fr), s) := by
  have hS := hc.S
  have hv := hc.wV hw
  have L := hp.L307
  unfold ab_X10_stops
  rw [slet, hF.2.2.2.2.2.1]
  by_cases hb : g (wlp g w + 3) = 255
  · rw [if_pos ((n255_neg (by omega)).mpr hb)]
    unfold stB
    rw [if_pos hb]; rfl
  · have q := sdOn_lt (fr := fr) hc hw hb
    rw [if_neg (fun z => hb ((n255_neg (by omega)).mp z)), slet, hK, c_secOn hF fr (Or.inr hb), vbs, vl_P_ok (by omega) (by omega), obs, hp.E307 _ (by omega), slet]
    have k := c_stops41 (K := K) (fr := !fr) hc hw hb hp hF hD
    rw [Bool.not_not] at k
    cases fr
    · rw [if_pos (show bI false = 0 from rfl), hK]; exact k
    · rw [if_neg (show ¬ bI true = 0 by decide), hK]; exact k
theorem r_side {w : Nat} {f fr : Bool} (hM : rMap B g n s) (hP : vt_P s 1801 (B + 639) = B + 640) (hw : w < g 6) (h19 : vt_I s 1819 (B + 639) = bI f) : ab_X17_sideOf (B + 639) (nI w) (bI fr) s = some (if fr = f then nI (g (wlp g w + 2)) else zI (n255 (g (wlp g w + 3))), s) := by
  have hv : g (wlp g w + 2) < g 5 ∧ g (wlp g w + 3) < 256 ∧ g 5 ≤ 32 := by
    obtain ⟨a, b⟩ := hM.V.1.2.2.2.2.2 w hw
    exact ⟨a.2.2.2.1, (hM.2.2.2.1 _ (by omega)).2, hM.V.1.1.2.2.2.1⟩
  have e2 := rm_wall hM hw (show 2 ≤ 14 by omega)
  have e3 := rm_wall hM hw (show 3 ≤ 14 by omega)
  rw [show wP g (wlp g w) 2 = g (wlp g w + 2) from rfl] at e2
  rw [show wP g (wlp g w) 3 = g (wlp g w + 3) from rfl] at e3
  have be : (bI fr = bI f) = (fr = f) := by cases fr <;> cases f <;> decide
  have w2 : ab_X17_sideOf_15 (B + 639) (nI w) 2 s = some (nI (g (wlp g w + 2)), s) := by
    unfold ab_X17_sideOf_15 ab_X17_sideOf_31 ab_X17_wallPart
    rw [slet, hP, show (2 : Int32) = nI 2 from rfl, e2, vbs, vbs, show (255 : Int32) = nI 255 from rfl, if_neg (by rw [nI_eq (by omega) (by omega)]; omega)]
  have w3 : ab_X17_sideOf_15 (B + 639) (nI w) 3 s = some (zI (n255 (g (wlp g w + 3))), s) := by
    unfold ab_X17_sideOf_15 ab_X17_sideOf_31 ab_X17_wallPart
    rw [slet, hP, show (3 : Int32) = nI 3 from rfl, e3, vbs, vbs, show (255 : Int32) = nI 255 from rfl]
    by_cases c : g (wlp g w + 3) = 255
    · rw [if_pos (by rw [c]), c]; rfl
    · rw [if_neg (by rw [nI_eq (by omega) (by omega)]; exact c), n255_nI c]
  unfold ab_X17_sideOf
  rw [slet, h19]
  by_cases c : fr = f
  · rw [if_pos (by rw [c]), if_pos c, w2]
  · rw [if_neg (by rw [be]; exact c), if_neg c, w3]
theorem side_lt {b : Nat} (h : b < 256) : (zI (n255 b) < 0) ↔ b = 255 := by
  rw [show (0 : Int32) = zI 0 from rfl]
  unfold n255
  split
  · rw [zI_lt (by omega) (by omega) (by omega) (by omega)]; omega
  · rw [zI_lt (by omega) (by omega) (by omega) (by omega)]; omega
theorem r_stops_eq {k1 k2 : Nat} (h1 : k1 < g 5) (h2 : k2 < g 5) (hS : g 5 ≤ 32) (hP3 : vt_P s 1803 (B + 639) = B + 656) (hL : hlL (B + 656) s) (hD : secsR s (B + 656) (g 5) D) : ab_X17_stops_66 (B + 639) (nI k1) (nI k2) (sv_min (D k1).2.1 (D k2).2.1) s = some (bI (decide (24 < (D k2).1 - (D k1).1 ∨ ¬ 56 ≤ sv_min (D k1).2.1 (D k2).2.1 - sv_max (D k1).1 (D k2).1)), s) := by
  have L8 := hL.1
  obtain ⟨a1, a2, -⟩ := hD _ h1
  obtain ⟨b1, b2, -⟩ := hD _ h2
  have t : ∀ v, ab_X17_stops_110 (B + 639) (nI k1) (nI k2) (sv_min (D k1).2.1 (D k2).2.1) v s = some (bI (decide (24 < (D k2).1 - (D k1).1 ∨ ¬ 56 ≤ sv_min (D k1).2.1 (D k2).2.1 - v)), s) := by
    intro v
    unfold ab_X17_stops_110 ab_X17_stops_146 ab_X17_stops_151
    rw [slet, hP3, vl_I_ok (by omega) (by omega), obs, slet, vl_I_ok (by omega) (by omega), obs, a1, b1]
    generalize (D k2).1 - (D k1).1 = u
    generalize sv_min (D k1).2.1 (D k2).2.1 - v = v
    by_cases c1 : 24 < u
    · rw [if_pos c1, decide_eq_true (Or.inl c1)]; rfl
    · rw [if_neg c1]
      by_cases c2 : 56 ≤ v
      · rw [if_pos c2, decide_eq_false (fun z => z.elim c1 (fun y => y c2))]; rfl
      · rw [if_neg c2, decide_eq_true (Or.inr c2)]; rfl
  unfold ab_X17_stops_66
  rw [slet, hP3, vl_I_ok (by omega) (by omega), obs, slet, vl_I_ok (by omega) (by omega), obs, a1, b1, ← max_flip]
  by_cases c : (D k1).1 ≤ (D k2).1
  · rw [if_pos c, if_pos c, slet, vl_I_ok (by omega) (by omega), obs, b1, t]
  · rw [if_neg c, if_neg c, slet, vl_I_ok (by omega) (by omega), obs, a1, t]
theorem r_stops {w : Nat} {f : Bool} (hM : rMap B g n s) (hP : vt_P s 1801 (B + 639) = B + 640) (hP3 : vt_P s 1803 (B + 639) = B + 656) (hL : hlL (B + 656) s) (hw : w < g 6) (h19 : vt_I s 1819 (B + 639) = bI f) (hD : secsR s (B + 656) (g 5) D) : ab_X17_stops (B + 639) (nI w) s = some (bI (stB D g w f), s) := by
  have hc : cMap g n := ⟨hM.V, fun i hi => (hM.2.2.2.1 i hi).2⟩
  have hS := hc.S
  have hv := hc.wV hw
  have L9 := hL.2.1
  have hbb : g (wlp g w + 3) < 256 := by omega
  unfold ab_X17_stops ab_X17_stops_22
  rw [show (1 : Int32) = bI true from rfl, r_side hM hP hw h19, vbs, show (0 : Int32) = bI false from rfl, r_side hM hP hw h19, vbs]
  by_cases hb : g (wlp g w + 3) = 255
  · have es : stB D g w f = true := by unfold stB; rw [if_pos hb]
    rw [es]
    cases f
    · rw [if_neg (show ¬ true = false by decide), if_pos (show zI (n255 (g (wlp g w + 3))) < bI false from (side_lt hbb).mpr hb)]
    · rw [if_pos rfl, if_neg (show ¬ nI (g (wlp g w + 2)) < bI false from fun z => by
        have : nI 0 ≤ nI (g (wlp g w + 2)) := nI_le (by omega) (by omega)
        exact absurd z (Int32.not_lt.mpr this)), if_neg (show ¬ false = true by decide), if_neg (show ¬ bI false ≤ zI (n255 (g (wlp g w + 3))) from fun z => absurd ((side_lt hbb).mpr hb) (Int32.not_lt.mpr z))]
  · have q1 := sdOn_lt (fr := f) hc hw hb
    have q2 := sdOn_lt (fr := !f) hc hw hb
    have es : stB D g w f = decide (24 < (D (sdOn g w (!f))).1 - (D (sdOn g w f)).1 ∨ ¬ 56 ≤ sv_min (D (sdOn g w f)).2.1 (D (sdOn g w (!f))).2.1 - sv_max (D (sdOn g w f)).1 (D (sdOn g w (!f))).1) := by
      unfold stB
      rw [if_neg hb]
    have e1 : (if true = f then nI (g (wlp g w + 2)) else zI (n255 (g (wlp g w + 3)))) = nI (sdOn g w f) := by
      rw [n255_nI hb]; cases f <;> rfl
    have e2 : (if false = f then nI (g (wlp g w + 2)) else zI (n255 (g (wlp g w + 3)))) = nI (sdOn g w (!f)) := by
      rw [n255_nI hb]; cases f <;> rfl
    rw [e1, e2, es]
    obtain ⟨a1, a2, -⟩ := hD _ q1
    obtain ⟨b1, b2, -⟩ := hD _ q2
    have key := r_stops_eq (B := B) q1 q2 hS.1 hP3 hL hD
    generalize sdOn g w f = k1 at *
    generalize sdOn g w (!f) = k2 at *
    rw [if_neg (show ¬ nI k1 < bI false from fun z => by
      have : nI 0 ≤ nI k1 := nI_le (by omega) (by omega)
      exact absurd z (Int32.not_lt.mpr this)), if_pos (show bI false ≤ nI k2 from nI_le (a := 0) (by omega) (by omega)), slet, hP3, vl_I_ok (by omega) (by omega), obs, slet, vl_I_ok (by omega) (by omega), obs, a2, b2, ← key, ← min_flip]
    by_cases c : (D k2).2.1 ≤ (D k1).2.1
    · rw [if_pos c, if_pos c, slet, vl_I_ok (by omega) (by omega), obs, b2]
    · rw [if_neg c, if_neg c, slet, vl_I_ok (by omega) (by omega), obs, a2]
end ST
