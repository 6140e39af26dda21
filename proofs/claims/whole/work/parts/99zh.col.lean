-- VIEW: what a wall adds to a column, the reference
section CO
variable {B n : Nat} {g : Nat → Nat} {D : Nat → SD} {y : RY}
theorem colW_rng {tk eye : Int32} {w : Nat} {x : VS} (h : x.2.2.1 ≤ x.2.2.2) : (colW y g D tk eye w x).2.2.1 ≤ (colW y g D tk eye w x).2.2.2 ∧ (colW y g D tk eye w x).2.2.2 ≤ x.2.2.2 := by
  have cr := clR_rng (v := rwS y g w (D (sdOn g w (rfr y g w))).2.1 eye) h
  have fr : cC y g D eye w x.2.2.1 x.2.2.2 ≤ cF y g D eye w x.2.2.1 x.2.2.2 ∧ cF y g D eye w x.2.2.1 x.2.2.2 ≤ x.2.2.2 := clR_rng (v := rwS y g w (D (sdOn g w (rfr y g w))).1 eye) cr.2
  have ur : cC y g D eye w x.2.2.1 x.2.2.2 ≤ cU y g D eye w (cC y g D eye w x.2.2.1 x.2.2.2) (cF y g D eye w x.2.2.1 x.2.2.2) ∧ cU y g D eye w (cC y g D eye w x.2.2.1 x.2.2.2) (cF y g D eye w x.2.2.1 x.2.2.2) ≤ cF y g D eye w x.2.2.1 x.2.2.2 := by
    unfold cU
    split
    · exact ⟨Nat.le_refl _, fr.1⟩
    · exact clR_rng fr.1
  have lr : cU y g D eye w (cC y g D eye w x.2.2.1 x.2.2.2) (cF y g D eye w x.2.2.1 x.2.2.2) ≤ cL y g D eye w (cU y g D eye w (cC y g D eye w x.2.2.1 x.2.2.2) (cF y g D eye w x.2.2.1 x.2.2.2)) (cF y g D eye w x.2.2.1 x.2.2.2) ∧ cL y g D eye w (cU y g D eye w (cC y g D eye w x.2.2.1 x.2.2.2) (cF y g D eye w x.2.2.1 x.2.2.2)) (cF y g D eye w x.2.2.1 x.2.2.2) ≤ cF y g D eye w x.2.2.1 x.2.2.2 := by
    unfold cL
    split
    · exact ⟨ur.2, Nat.le_refl _⟩
    · exact clR_rng ur.2
  unfold colW
  cases noF y g w with
  | true => rw [if_pos rfl]; exact ⟨Nat.le_refl _, Nat.le_refl _⟩
  | false => rw [if_neg (by decide)]; exact ⟨lr.1, Nat.le_trans lr.2 fr.2⟩
theorem r_paint {top bot w sec : Nat} {tk : Int32} {k : Nat → Int32 → Int32 → Int32 → vt_S → Option (Unit × vt_S)} {x4 : Int32} {s : vt_S} (hy : ryOk y) (hv : ∀ j, j < g 5 → sdOk (D j)) (hsec : sec < g 5) (htb : top ≤ bot) (hb : bot ≤ 48) (hw : w < g 6) (hm : rmet y g w) (hn : rfr y g w = true ∨ g (wlp g w + 3) ≠ 255) (hk : rVy B g n y D sec tk s) (hM : mtR B y g w s) : ∃ s1, (sv_let (vt_P s 1803 (B + 639)) fun v15 =>
        (vl_I s 1409 v15 (nI (sdOn g w (rfr y g w)))).bind fun v17 =>
        vt_b (ab_X17_rowOf (B + 639) v17 (nI top) (nI bot) s) fun r18 h19 =>
        sv_let (vt_P h19 1803 (B + 639)) fun v20 =>
        (vl_I h19 1408 v20 (nI (sdOn g w (rfr y g w)))).bind fun v22 =>
        vt_b (ab_X17_rowOf (B + 639) v22 r18 (nI bot) h19) fun r23 h24 =>
        vt_b (ab_X17_flat (B + 639) (nI top) r18 1 (nI (sdOn g w (rfr y g w))) h24) fun _ h25 =>
        vt_b (ab_X17_flat (B + 639) r23 (nI bot) 2 (nI (sdOn g w (rfr y g w))) h25) fun _ h26 =>
        if 0 ≤ (if false = rfr y g w then nI (g (wlp g w + 2)) else zI (n255 (g (wlp g w + 3)))) then
          sv_let (vt_P h26 1803 (B + 639)) fun v27 =>
          (vl_I h26 1409 v27 (if false = rfr y g w then nI (g (wlp g w + 2)) else zI (n255 (g (wlp g w + 3))))).bind fun v29 =>
          sv_let (vt_P h26 1803 (B + 639)) fun v30 =>
          (vl_I h26 1409 v30 (nI (sdOn g w (rfr y g w)))).bind fun v32 =>
          if v32 ≤ v29 then
            ab_X17_column_315 k (B + 639) x4 (nI w) (nI (sdOn g w (rfr y g w))) (if false = rfr y g w then nI (g (wlp g w + 2)) else zI (n255 (g (wlp g w + 3)))) r18 r23 r18 h26
          else
            sv_let (vt_P h26 1803 (B + 639)) fun v33 =>
            (vl_I h26 1409 v33 (if false = rfr y g w then nI (g (wlp g w + 2)) else zI (n255 (g (wlp g w + 3))))).bind fun v35 =>
            vt_b (ab_X17_rowOf (B + 639) v35 r18 r23 h26) fun r36 h37 =>
            ab_X17_column_315 k (B + 639) x4 (nI w) (nI (sdOn g w (rfr y g w))) (if false = rfr y g w then nI (g (wlp g w + 2)) else zI (n255 (g (wlp g w + 3)))) r18 r23 r36 h37
        else
          vt_b (ab_X17_part (B + 639) r18 r23 3 (nI w) h26) fun _ h38 =>
          ab_X17_column_393 k (B + 639) (nI bot) (nI bot) x4 h38) = k (B + 639) (nI (colW y g D tk (eyS D sec) w (vt_A s 1824 (B + 639), vt_A s 1825 (B + 639), top, bot)).2.2.1) (nI (colW y g D tk (eyS D sec) w (vt_A s 1824 (B + 639), vt_A s 1825 (B + 639), top, bot)).2.2.2) (x4 + 1) s1 ∧ (vt_A s1 1824 (B + 639), vt_A s1 1825 (B + 639), (colW y g D tk (eyS D sec) w (vt_A s 1824 (B + 639), vt_A s 1825 (B + 639), top, bot)).2.2) = colW y g D tk (eyS D sec) w (vt_A s 1824 (B + 639), vt_A s 1825 (B + 639), top, bot) ∧ vk [] [1824, 1825] [] (fun _ => True) s s1 := by
  obtain ⟨hW', hA, hD, hs, htk, l4, l5, l2⟩ := id hk
  have hcm := hW'.C
  have g5 := hcm.S.1
  have g6 := hcm.S.2.1
  have L8 := hW'.2.1.2.1.1
  have L9 := hW'.2.1.2.1.2.1
  have sn : sdOn g w (rfr y g w) < g 5 := by
    rcases hn with z | z
    · rw [z]; exact (hcm.wV hw).1
    · exact sdOn_lt hcm hw z
  obtain ⟨eye, hey⟩ : ∃ e, e = eyS D sec := ⟨_, rfl⟩
  have cr := clR_rng (v := rwS y g w (D (sdOn g w (rfr y g w))).2.1 eye) htb
  have fr := clR_rng (v := rwS y g w (D (sdOn g w (rfr y g w))).1 eye) cr.2
  obtain ⟨c, hcc⟩ : ∃ c, c = clR (rwS y g w (D (sdOn g w (rfr y g w))).2.1 eye) top bot := ⟨_, rfl⟩
  rw [← hcc] at cr fr
  obtain ⟨f, hff⟩ : ∃ f, f = clR (rwS y g w (D (sdOn g w (rfr y g w))).1 eye) c bot := ⟨_, rfl⟩
  rw [← hff] at fr
  have eC : cC y g D eye w top bot = c := hcc.symm
  have eF : cF y g D eye w top bot = f := by unfold cF; rw [eC]; exact hff.symm
  obtain ⟨nr, hnr⟩ : ∃ j, j = sdOn g w (rfr y g w) := ⟨_, rfl⟩
  rw [← hnr] at hcc hff sn ⊢
  rw [← hey]
  have z8 : vt_A s 1408 (B + 656) nr = (D nr).1 := (hD _ sn).1
  have z9 : vt_A s 1409 (B + 656) nr = (D nr).2.1 := (hD _ sn).2.1
  obtain ⟨lt, hlt⟩ : ∃ l, l = litS g D tk nr := ⟨_, rfl⟩
  obtain ⟨fv, hfv⟩ : ∃ v, v = (if false = rfr y g w then nI (g (wlp g w + 2)) else zI (n255 (g (wlp g w + 3)))) := ⟨_, rfl⟩
  rw [← hfv]
  obtain ⟨s1, a1, a2, a3, a4⟩ := r_ceil (a := top) (b := c) (j := nr) hy hv hsec sn (by omega) (by omega) hk
  rw [← hey, ← hlt] at a2
  have y1 : rVy B g n y D sec tk s1 := a4.keep0 (P := rVy B g n y D sec tk) hk
  obtain ⟨s2, b1, b2, b3, b4⟩ := r_floor (a := f) (b := bot) (j := nr) hy hv hsec sn (by omega) hb y1
  rw [← hey, ← hlt] at b2
  have k2 : vk [] [1824, 1825] [] (fun _ => True) s s2 := a4.trans b4
  have y2 : rVy B g n y D sec tk s2 := b4.keep0 (P := rVy B g n y D sec tk) y1
  have M2 : mtR B y g w s2 := k2.keep0 (P := mtR B y g w) hM
  have P2 : vt_A s2 1825 (B + 639) = colP y g D tk eye w (vt_A s 1824 (B + 639), vt_A s 1825 (B + 639), top, bot) := by
    unfold colP
    dsimp only
    rw [b2, a2, eC, eF, ← hnr, hlt]
  have Q2 : vt_A s2 1824 (B + 639) = colQ y g D eye w (vt_A s 1824 (B + 639), vt_A s 1825 (B + 639), top, bot) := by
    unfold colQ
    dsimp only
    rw [b3, a3, eC, eF, ← hnr]
  have R1 : ab_X17_rowOf (B + 639) (D nr).2.1 (nI top) (nI bot) s = some (nI c, s) := by rw [r_rowP hy hsec hm htb hb hk hM, ← hey, ← hcc]
  have R2 : ab_X17_rowOf (B + 639) (D nr).1 (nI c) (nI bot) s = some (nI f, s) := by rw [r_rowP hy hsec hm (by omega) hb hk hM, ← hey, ← hff]
  rw [slet, hW'.2.2.2.2.1, vl_I_ok (by omega) (by omega), obs, z9, R1, vbs, slet, hW'.2.2.2.2.1, vl_I_ok (by omega) (by omega), obs, z8, R2, vbs, a1, vbs, b1, vbs]
  cases hno : noF y g w with
  | true =>
    have hno' := hno
    unfold noF at hno'
    rw [Bool.and_eq_true, decide_eq_true_eq] at hno'
    obtain ⟨nf1, nf2⟩ := hno'
    obtain ⟨s4, f1, f2, f3, f4⟩ := r_partP (a := c) (b := f) (kd := 3) hy hv hsec (Or.inl rfl) (by omega) (by omega) hw hm hn (fun z => absurd rfl z) y2 M2
    rw [← hey, ← hnr, ← hlt] at f2
    have f1 : ab_X17_part (B + 639) (nI c) (nI f) 3 (nI w) s2 = some ((), s4) := f1
    have eW : colW y g D tk eye w (vt_A s 1824 (B + 639), vt_A s 1825 (B + 639), top, bot) = (vt_A s4 1824 (B + 639), vt_A s4 1825 (B + 639), bot, bot) := by
      unfold colW wlX
      rw [if_pos hno]
      dsimp only
      rw [eC, eF, f2, f3, P2, Q2, ← hnr, hlt]
    have fm : fv = -1 := by rw [hfv, nf1, if_neg (by decide), nf2]; rfl
    refine ⟨s4, ?_, by rw [eW], k2.trans f4⟩
    rw [eW, fm, if_neg (by decide), f1, vbs]
    rfl
  | false =>
    have bk : g (wlp g w + 3) ≠ 255 := by
      intro z
      unfold noF at hno
      rw [decide_eq_true z, Bool.and_true] at hno
      rcases hn with q | q
      · rw [q] at hno; cases hno
      · exact q z
    have sf : sdOn g w (!rfr y g w) < g 5 := sdOn_lt hcm hw bk
    obtain ⟨fa, hfa⟩ : ∃ j, j = sdOn g w (!rfr y g w) := ⟨_, rfl⟩
    have efv : fv = nI fa := by rw [hfv, fr_V bk, hfa]
    obtain ⟨hW2, -, D2, -⟩ := id y2
    have w9 : vt_A s2 1409 (B + 656) fa = (D fa).2.1 := by rw [hfa]; exact (D2 _ sf).2.1
    have x9 : vt_A s2 1409 (B + 656) nr = (D nr).2.1 := (D2 _ sn).2.1
    have w8 : vt_A s2 1408 (B + 656) fa = (D fa).1 := by rw [hfa]; exact (D2 _ sf).1
    have x8 : vt_A s2 1408 (B + 656) nr = (D nr).1 := (D2 _ sn).1
    have M8 := hW2.2.1.2.1.1
    have M9 := hW2.2.1.2.1.2.1
    have P32 := hW2.2.2.2.2.1
    obtain ⟨u, hu⟩ : ∃ u, u = cU y g D eye w c f := ⟨_, rfl⟩
    have ur : c ≤ u ∧ u ≤ f := by
      rw [hu]
      unfold cU
      split
      · exact ⟨Nat.le_refl _, fr.1⟩
      · exact clR_rng fr.1
    obtain ⟨l, hl⟩ : ∃ l, l = cL y g D eye w u f := ⟨_, rfl⟩
    have lr : u ≤ l ∧ l ≤ f := by
      rw [hl]
      unfold cL
      split
      · exact ⟨ur.2, Nat.le_refl _⟩
      · exact clR_rng ur.2
    obtain ⟨s4, f1, f2, f3, f4⟩ := r_partP (a := c) (b := u) (kd := 4) hy hv hsec (Or.inr (Or.inl rfl)) (by omega) (by omega) hw hm hn (fun _ => bk) y2 M2
    rw [← hey, ← hnr, ← hlt] at f2
    have f1 : ab_X17_part (B + 639) (nI c) (nI u) 4 (nI w) s2 = some ((), s4) := f1
    have y4 : rVy B g n y D sec tk s4 := f4.keep0 (P := rVy B g n y D sec tk) y2
    have M4 : mtR B y g w s4 := f4.keep0 (P := mtR B y g w) M2
    obtain ⟨s5, m1, m2, m3, m4⟩ := r_partP (a := l) (b := f) (kd := 5) hy hv hsec (Or.inr (Or.inr rfl)) (by omega) (by omega) hw hm hn (fun _ => bk) y4 M4
    rw [← hey, ← hnr, ← hlt] at m2
    have m1 : ab_X17_part (B + 639) (nI l) (nI f) 5 (nI w) s4 = some ((), s5) := m1
    have eW : colW y g D tk eye w (vt_A s 1824 (B + 639), vt_A s 1825 (B + 639), top, bot) = (vt_A s5 1824 (B + 639), vt_A s5 1825 (B + 639), u, l) := by
      unfold colW wlX
      rw [if_neg (by rw [hno]; decide)]
      dsimp only
      rw [eC, eF, ← hu, ← hl, m2, m3, f2, f3, P2, Q2, ← hnr, hlt]
    have e315 : ab_X17_column_315 k (B + 639) x4 (nI w) (nI nr) (nI fa) (nI c) (nI f) (nI u) s2 = k (B + 639) (nI u) (nI l) (x4 + 1) s5 := by
      have e363 : ab_X17_column_363 k (B + 639) x4 (nI w) (nI c) (nI f) (nI u) (nI l) s2 = k (B + 639) (nI u) (nI l) (x4 + 1) s5 := by
        unfold ab_X17_column_363 ab_X17_column_393
        rw [f1, vbs, m1, vbs]
      unfold ab_X17_column_315
      rw [slet, P32, vl_I_ok (by omega) (by omega), obs, w8, slet, vl_I_ok (by omega) (by omega), obs, x8]
      unfold cL at hl
      rw [← hfa, ← hnr] at hl
      by_cases q : (D fa).1 ≤ (D nr).1
      · rw [if_pos q] at hl ⊢
        rw [hl] at e363 ⊢; exact e363
      · rw [if_neg q] at hl ⊢
        rw [slet, vl_I_ok (by omega) (by omega), obs, w8, r_rowP hy hsec hm ur.2 (by omega) y2 M2, vbs, ← hey, ← hl]
        exact e363
    refine ⟨s5, ?_, by rw [eW], (k2.trans f4).trans m4⟩
    rw [eW, efv, if_pos (show (0 : Int32) ≤ nI fa from nI_le (a := 0) (b := fa) (Nat.zero_le _) (by omega)), slet, P32, vl_I_ok (by omega) (by omega), obs, w9, slet, vl_I_ok (by omega) (by omega), obs, x9]
    unfold cU at hu
    rw [← hfa, ← hnr] at hu
    by_cases q : (D nr).2.1 ≤ (D fa).2.1
    · rw [if_pos q] at hu ⊢
      rw [hu] at e315 ⊢; exact e315
    · rw [if_neg q] at hu ⊢
      rw [slet, vl_I_ok (by omega) (by omega), obs, w9, r_rowP hy hsec hm fr.1 (by omega) y2 M2, vbs, ← hey, ← hu]
      exact e315
end CO
