-- VIEW: a wall's part is painted by the reference, from its beginning
section RQ
variable {B n : Nat} {g : Nat → Nat} {D : Nat → SD} {y : RY}
theorem nr_V {w : Nat} {f : Bool} (hn : f = true ∨ g (wlp g w + 3) ≠ 255) : (if true = f then nI (g (wlp g w + 2)) else zI (n255 (g (wlp g w + 3)))) = nI (sdOn g w f) := by
  cases f with
  | true => rw [if_pos rfl]; rfl
  | false =>
    have : g (wlp g w + 3) ≠ 255 := hn.resolve_left (by decide)
    rw [if_neg (by decide), n255_nI this]; rfl
theorem fr_V {w : Nat} {f : Bool} (hn : g (wlp g w + 3) ≠ 255) : (if false = f then nI (g (wlp g w + 2)) else zI (n255 (g (wlp g w + 3)))) = nI (sdOn g w (!f)) := by
  cases f with
  | true => rw [if_neg (by decide), n255_nI hn]; rfl
  | false => rw [if_pos rfl]; rfl
theorem r_partP {a b kd w sec : Nat} {tk : Int32} {s : vt_S} (hy : ryOk y) (hv : ∀ j, j < g 5 → sdOk (D j)) (hsec : sec < g 5) (hkd : kd = 3 ∨ kd = 4 ∨ kd = 5) (ha : a ≤ 48) (hb : b ≤ 48) (hw : w < g 6) (hm : rmet y g w) (hn : rfr y g w = true ∨ g (wlp g w + 3) ≠ 255) (hbk : kd ≠ 3 → g (wlp g w + 3) ≠ 255) (hk : rVy B g n y D sec tk s) (hM : mtR B y g w s) : ∃ s1, ab_X17_part (B + 639) (nI a) (nI b) (nI kd) (nI w) s = some ((), s1) ∧ vt_A s1 1825 (B + 639) = upR (vt_A s 1825 (B + 639)) a b (wlP y g D kd w (litS g D tk (sdOn g w (rfr y g w))) (eyS D sec)) ∧ vt_A s1 1824 (B + 639) = upR (vt_A s 1824 (B + 639)) a b (fun _ => nI (256 * kd + w)) ∧ vk [] [1824, 1825] [] (fun _ => True) s s1 := by
  obtain ⟨hW', hA, hD, hs, htk, l4, l5, l2⟩ := id hk
  have hc := hW'.C
  have g5 := hc.S.1
  have g4 : g 4 ≤ 16 := hc.1.1.1.2.1
  have sn : sdOn g w (rfr y g w) < g 5 := by
    rcases hn with z | z
    · rw [z]; exact (hc.wV hw).1
    · exact sdOn_lt hc hw z
  have tv := hc.xV (y := y) (kd := kd) hw
  have j9 := hM.2.2.2.2
  have L8 := hW'.2.1.2.1.1
  have L9 := hW'.2.1.2.1.2.1
  have zD : ∀ j, j < g 5 → vt_A s 1408 (B + 656) j = (D j).1 ∧ vt_A s 1409 (B + 656) j = (D j).2.1 := fun j hj => ⟨(hD j hj).1, (hD j hj).2.1⟩
  obtain ⟨n8, n9⟩ := zD _ sn
  have P3 := hW'.2.2.2.2.1
  obtain ⟨fv, hfv⟩ : ∃ v, v = (if false = rfr y g w then nI (g (wlp g w + 2)) else zI (n255 (g (wlp g w + 3)))) := ⟨_, rfl⟩
  have p12 := r_part (k := 12) hW'.1 hW'.2.2.2.1 hw (by omega)
  rw [show wP g (wlp g w) 12 = g (wlp g w + 11) from rfl] at p12
  have e110 : ab_X17_part_81 (B + 639) (nI a) (nI b) (nI kd) (nI w) (nI (sdOn g w (rfr y g w))) fv (nI (tW y g kd w)) (nI (hW g (tW y g kd w))) s = ab_X17_part_206 (B + 639) (nI a) (nI b) (nI kd) (nI w) (nI (sdOn g w (rfr y g w))) (nI (tW y g kd w)) (anW g D kd w (rfr y g w) (hW g (tW y g kd w))) s := by
    unfold ab_X17_part_81 ab_X17_part_101 ab_X17_part_110 anW
    rw [show (12 : Int32) = nI 12 from rfl, p12, vbs]
    rcases hkd with rfl | rfl | rfl
    · rw [if_neg (show ¬ nI 3 = 4 by decide), if_neg (show ¬ 3 = 4 by decide), if_pos (show (3 : Nat) = 3 from rfl)]
      by_cases c1 : nI (g (wlp g w + 11)) &&& 2 = 0
      · rw [if_pos c1, if_pos c1, slet, P3, vl_I_ok (by omega) (by omega), obs, n9, if_neg (show ¬ nI 3 = 4 by decide), if_pos (show nI 3 = 3 from rfl), if_pos rfl]
      · rw [if_neg c1, if_neg c1, slet, P3, vl_I_ok (by omega) (by omega), obs, if_neg (show ¬ nI 3 = 4 by decide), if_pos (show nI 3 = 3 from rfl), if_neg (show ¬ (1 : Int32) = 0 by decide), slet, vl_I_ok (by omega) (by omega), obs, n8]
    · have bk := hbk (by decide)
      have sf : sdOn g w (!rfr y g w) < g 5 := sdOn_lt hc hw bk
      obtain ⟨f8, f9⟩ := zD _ sf
      rw [hfv, fr_V bk, if_pos (show nI 4 = 4 from rfl), if_pos (show (4 : Nat) = 4 from rfl)]
      by_cases c1 : nI (g (wlp g w + 11)) &&& 1 = 0
      · rw [if_pos c1, if_pos c1, slet, P3, vl_I_ok (by omega) (by omega), obs, if_pos (show nI 4 = 4 from rfl), if_pos rfl, slet, vl_I_ok (by omega) (by omega), obs, f9]
      · rw [if_neg c1, if_neg c1, slet, P3, vl_I_ok (by omega) (by omega), obs, n9, if_pos (show nI 4 = 4 from rfl), if_neg (show ¬ (1 : Int32) = 0 by decide)]
    · have bk := hbk (by decide)
      have sf : sdOn g w (!rfr y g w) < g 5 := sdOn_lt hc hw bk
      obtain ⟨f8, f9⟩ := zD _ sf
      rw [hfv, fr_V bk, if_neg (show ¬ nI 5 = 4 by decide), if_neg (show ¬ (5 : Nat) = 4 by decide), if_neg (show ¬ (5 : Nat) = 3 by decide)]
      by_cases c1 : nI (g (wlp g w + 11)) &&& 2 = 0
      · rw [if_pos c1, if_pos c1, slet, P3, vl_I_ok (by omega) (by omega), obs, if_neg (show ¬ nI 5 = 4 by decide), if_neg (show ¬ nI 5 = 3 by decide), if_pos rfl, slet, vl_I_ok (by omega) (by omega), obs, f8]
      · rw [if_neg c1, if_neg c1, slet, P3, vl_I_ok (by omega) (by omega), obs, n9, if_neg (show ¬ nI 5 = 4 by decide), if_neg (show ¬ nI 5 = 3 by decide), if_neg (show ¬ (1 : Int32) = 0 by decide)]
  obtain ⟨bs, hbs⟩ : ∃ k : Nat, k = (if rfr y g w then 4 else 7) := ⟨_, rfl⟩
  have bs7 : bs ≤ 7 := by rw [hbs]; split <;> omega
  have pt2 : ptN kd ≤ 2 := by rcases hkd with rfl | rfl | rfl <;> decide
  have eT : wP g (wlp g w) (bs + ptN kd) = tW y g kd w := by
    unfold wP tW
    rw [if_neg (by omega), if_neg (by omega), if_pos (by omega)]
    have : wlp g w + (bs + ptN kd) = wlp g w + 4 + (ptN kd + if rfr y g w then 0 else 3) := by
      rw [hbs]
      split <;> omega
    rw [this]
  have pT := r_part (k := bs + ptN kd) hW'.1 hW'.2.2.2.1 hw (by omega)
  rw [eT] at pT
  have e53 : ab_X17_part_53 (B + 639) (nI a) (nI b) (nI kd) (nI w) (nI (sdOn g w (rfr y g w))) fv (B + 639) (nI w) (nI bs) (nI (ptN kd)) s = ab_X17_part_81 (B + 639) (nI a) (nI b) (nI kd) (nI w) (nI (sdOn g w (rfr y g w))) fv (nI (tW y g kd w)) (nI (hW g (tW y g kd w))) s := by
    unfold ab_X17_part_53
    rw [nI_add, pT, vbs]
    by_cases c : tW y g kd w = 255
    · rw [if_pos (show nI (tW y g kd w) = 255 by rw [c]; rfl)]
      have : hW g (tW y g kd w) = 0 := if_pos c
      rw [this]; rfl
    · have ht : tW y g kd w < g 4 := by omega
      have : hW g (tW y g kd w) = 2 ^ g (txp g (tW y g kd w) + 1) := if_neg c
      rw [if_neg (show ¬ nI (tW y g kd w) = 255 from fun z => c (by rwa [show (255 : Int32) = nI 255 from rfl, nI_eq (by omega) (by omega)] at z)), slet, hW'.2.2.2.1, (rm_texW hW'.1 ht).2, vbs, this]
  have e34 : ab_X17_part_34 (B + 639) (nI a) (nI b) (nI kd) (nI w) (nI (sdOn g w (rfr y g w))) fv (B + 639) (nI w) (nI bs) s = ab_X17_part_53 (B + 639) (nI a) (nI b) (nI kd) (nI w) (nI (sdOn g w (rfr y g w))) fv (B + 639) (nI w) (nI bs) (nI (ptN kd)) s := by
    unfold ab_X17_part_34
    rcases hkd with rfl | rfl | rfl
    · rw [if_neg (show ¬ nI 3 = 4 by decide), if_pos (show nI 3 = 3 from rfl)]; rfl
    · rw [if_pos (show nI 4 = 4 from rfl)]; rfl
    · rw [if_neg (show ¬ nI 5 = 4 by decide), if_neg (show ¬ nI 5 = 3 by decide)]; rfl
  have e0 : ab_X17_part (B + 639) (nI a) (nI b) (nI kd) (nI w) s = ab_X17_part_34 (B + 639) (nI a) (nI b) (nI kd) (nI w) (nI (sdOn g w (rfr y g w))) fv (B + 639) (nI w) (nI bs) s := by
    unfold ab_X17_part
    have q1 := r_side (fr := true) hW'.1 hW'.2.2.2.1 hw j9
    have q2 := r_side (fr := false) hW'.1 hW'.2.2.2.1 hw j9
    rw [nr_V hn] at q1
    rw [← hfv] at q2
    rw [show (1 : Int32) = bI true from rfl, q1, vbs, show (0 : Int32) = bI false from rfl, q2, vbs, slet, j9, hbs]
    cases hf : rfr y g w with
    | true => rw [if_neg (show ¬ bI true = bI false by decide)]; rfl
    | false => rw [if_pos rfl]; rfl
  rw [e0, e34, e53, e110, r_len hW'.2.2.1 hw]
  exact r_355 hy hv hsec sn ha hb hw hm hk hM
end RQ
