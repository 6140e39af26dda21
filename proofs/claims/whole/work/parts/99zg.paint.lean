-- VIEW: which rows; what a wall adds to a column
def clR (v : Int64) (lo hi : Nat) : Nat := if v.toInt < lo then lo else if (hi : Int) < v.toInt then hi else v.toInt.toNat
def rwS (y : RY) (g : Nat → Nat) (w : Nat) (z eye : Int32) : Int64 := 24 - flD (Int32.toInt64 (z - eye) * zL (run y g w)) (512 * zL (rov y g w))
abbrev VS : Type := (Nat → Int32) × (Nat → Int32) × Nat × Nat
def cC (y : RY) (g : Nat → Nat) (D : Nat → SD) (eye : Int32) (w top bot : Nat) : Nat := clR (rwS y g w (D (sdOn g w (rfr y g w))).2.1 eye) top bot
def cF (y : RY) (g : Nat → Nat) (D : Nat → SD) (eye : Int32) (w top bot : Nat) : Nat := clR (rwS y g w (D (sdOn g w (rfr y g w))).1 eye) (cC y g D eye w top bot) bot
def cU (y : RY) (g : Nat → Nat) (D : Nat → SD) (eye : Int32) (w c f : Nat) : Nat := if (D (sdOn g w (rfr y g w))).2.1 ≤ (D (sdOn g w (!rfr y g w))).2.1 then c else clR (rwS y g w (D (sdOn g w (!rfr y g w))).2.1 eye) c f
def cL (y : RY) (g : Nat → Nat) (D : Nat → SD) (eye : Int32) (w u f : Nat) : Nat := if (D (sdOn g w (!rfr y g w))).1 ≤ (D (sdOn g w (rfr y g w))).1 then f else clR (rwS y g w (D (sdOn g w (!rfr y g w))).1 eye) u f
def noF (y : RY) (g : Nat → Nat) (w : Nat) : Bool := rfr y g w && decide (g (wlp g w + 3) = 255)
def colP (y : RY) (g : Nat → Nat) (D : Nat → SD) (tk eye : Int32) (w : Nat) (x : VS) : Nat → Int32 := upR (upR x.2.1 x.2.2.1 (cC y g D eye w x.2.2.1 x.2.2.2) (ceP y g D (litS g D tk (sdOn g w (rfr y g w))) eye (sdOn g w (rfr y g w)))) (cF y g D eye w x.2.2.1 x.2.2.2) x.2.2.2 (flP y g D (litS g D tk (sdOn g w (rfr y g w))) eye (sdOn g w (rfr y g w)))
def colQ (y : RY) (g : Nat → Nat) (D : Nat → SD) (eye : Int32) (w : Nat) (x : VS) : Nat → Int32 := upR (upR x.1 x.2.2.1 (cC y g D eye w x.2.2.1 x.2.2.2) (fun _ => ceM g (sdOn g w (rfr y g w)))) (cF y g D eye w x.2.2.1 x.2.2.2) x.2.2.2 (fun _ => 512 + nI (sdOn g w (rfr y g w)))
def wlX (y : RY) (g : Nat → Nat) (D : Nat → SD) (tk eye : Int32) (kd w : Nat) : Nat → Int32 := wlP y g D kd w (litS g D tk (sdOn g w (rfr y g w))) eye
def colW (y : RY) (g : Nat → Nat) (D : Nat → SD) (tk eye : Int32) (w : Nat) (x : VS) : VS :=
  if noF y g w then (upR (colQ y g D eye w x) (cC y g D eye w x.2.2.1 x.2.2.2) (cF y g D eye w x.2.2.1 x.2.2.2) (fun _ => nI (256 * 3 + w)), upR (colP y g D tk eye w x) (cC y g D eye w x.2.2.1 x.2.2.2) (cF y g D eye w x.2.2.1 x.2.2.2) (wlX y g D tk eye 3 w), x.2.2.2, x.2.2.2)
  else (upR (upR (colQ y g D eye w x) (cC y g D eye w x.2.2.1 x.2.2.2) (cU y g D eye w (cC y g D eye w x.2.2.1 x.2.2.2) (cF y g D eye w x.2.2.1 x.2.2.2)) (fun _ => nI (256 * 4 + w))) (cL y g D eye w (cU y g D eye w (cC y g D eye w x.2.2.1 x.2.2.2) (cF y g D eye w x.2.2.1 x.2.2.2)) (cF y g D eye w x.2.2.1 x.2.2.2)) (cF y g D eye w x.2.2.1 x.2.2.2) (fun _ => nI (256 * 5 + w)), upR (upR (colP y g D tk eye w x) (cC y g D eye w x.2.2.1 x.2.2.2) (cU y g D eye w (cC y g D eye w x.2.2.1 x.2.2.2) (cF y g D eye w x.2.2.1 x.2.2.2)) (wlX y g D tk eye 4 w)) (cL y g D eye w (cU y g D eye w (cC y g D eye w x.2.2.1 x.2.2.2) (cF y g D eye w x.2.2.1 x.2.2.2)) (cF y g D eye w x.2.2.1 x.2.2.2)) (cF y g D eye w x.2.2.1 x.2.2.2) (wlX y g D tk eye 5 w), cU y g D eye w (cC y g D eye w x.2.2.1 x.2.2.2) (cF y g D eye w x.2.2.1 x.2.2.2), cL y g D eye w (cU y g D eye w (cC y g D eye w x.2.2.1 x.2.2.2) (cF y g D eye w x.2.2.1 x.2.2.2)) (cF y g D eye w x.2.2.1 x.2.2.2))
theorem c_secNo {s : vt_S} {x w : Nat} {g : Nat → Nat} (h : wallF s x g (wlp g w)) (hb : g (wlp g w + 3) = 255) : ab_X11_sectorOn x (bI false) s = some (-1, s) := by
  have f5 : vt_I s 1205 x = zI (n255 (g (wlp g w + 3))) := h.2.2.2.2.2.1
  unfold ab_X11_sectorOn ab_X11_sectorOn_15
  rw [if_pos (show bI false = 0 from rfl), slet, f5, hb]
  rfl
section PT
variable {B p n : Nat} {g : Nat → Nat} {D : Nat → SD} {y : RY} {m : Nat → Nat} {i : Nat}
theorem clR_rng {v : Int64} {lo hi : Nat} (h : lo ≤ hi) : lo ≤ clR v lo hi ∧ clR v lo hi ≤ hi := by
  unfold clR
  split
  · omega
  · split <;> omega
theorem c_clR {v : Int64} {lo hi : Nat} {s : vt_S} (h : lo ≤ hi) (h48 : hi ≤ 48) : ab_X9_between v (nI lo) (nI hi) s = some (nI (clR v lo hi), s) := by
  obtain ⟨i, rfl, i1, i2⟩ := zL_ex v
  unfold ab_X9_between clR
  rw [slet, slet, nI_z lo, nI_z hi, zI_wide (by omega) (by omega), zI_wide (by omega) (by omega), zL_max (by omega) (by omega) (by omega) (by omega), zL_min (by omega) (by omega) (by omega) (by omega), zL_nar, zL_toInt i1 i2]
  have : min (max i (lo : Int)) (hi : Int) = ((if i < lo then lo else if (hi : Int) < i then hi else i.toNat : Nat) : Int) := by
    by_cases c1 : i < lo
    · rw [if_pos c1]; omega
    · rw [if_neg c1]
      by_cases c2 : (hi : Int) < i
      · rw [if_pos c2]; omega
      · rw [if_neg c2]; omega
  rw [this, ← nI_z]
theorem r_clR {v : Int64} {lo hi : Nat} {s : vt_S} (h : lo ≤ hi) (h48 : hi ≤ 48) : (if 0 ≤ lg_cmp v (Int32.toInt64 (nI lo)) then if lg_cmp v (Int32.toInt64 (nI hi)) ≤ 0 then ab_X17_rowOf_56 (Int64.toInt32 v) s else ab_X17_rowOf_56 (nI hi) s else ab_X17_rowOf_56 (nI lo) s) = some (nI (clR v lo hi), s) := by
  obtain ⟨i, rfl, i1, i2⟩ := zL_ex v
  unfold ab_X17_rowOf_56 clR
  rw [nI_z lo, nI_z hi, zI_wide (by omega) (by omega), zI_wide (by omega) (by omega), show (0 : Int32) = zI 0 from rfl, ifc (lg_ge (by omega) (by omega) (by omega) (by omega)), ifc (lg_le (by omega) (by omega) (by omega) (by omega)), zL_nar, zL_toInt i1 i2]
  by_cases c1 : i < lo
  · rw [if_neg (by omega), if_pos c1, nI_z]
  · rw [if_pos (by omega), if_neg c1]
    by_cases c2 : (hi : Int) < i
    · rw [if_neg (by omega), if_pos c2, nI_z]
    · rw [if_pos (by omega), if_neg c2, zI_nI (by omega)]
theorem ov512 {w : Nat} (hy : ryOk y) (hm : rmet y g w) : (512 : Int64) * zL (rov y g w) ≠ 0 := by
  obtain ⟨u1, u2⟩ := met_un hm
  have ru := (rov_rng hy g w)
  rw [show (512 : Int64) = zL 512 from rfl, zL_mul, show (0 : Int64) = zL 0 from rfl]
  intro z
  rw [zL_eq (by omega) (by omega) (by omega) (by omega)] at z
  omega
theorem c_rowP {z eye : Int32} {s : vt_S} (hy : ryOk y) (hi : i < 128) (hm : rmet y g (m i)) (hk : cVy B p g n y eye s) (hc : rayC s (B + 621) y g m i) : ab_X9_rowOf (B + 629) z (nI i) s = some (rwS y g (m i) z eye, s) := by
  obtain ⟨⟨hWk, hrow, h0, l1, l2, l3⟩, hA, he⟩ := id hk
  obtain ⟨L0, L1, L2, L3, L4, L5⟩ := hWk.2.2.2.1
  obtain ⟨c0, c1, c2, c3, -⟩ := id hc
  unfold ab_X9_rowOf rwS
  rw [slet, he, slet, h0, vl_J_ok (by omega) (by omega), obs, slet, vl_J_ok (by omega) (by omega), obs, c2, c3, c_flD (ov512 hy hm), vbs]
theorem r_rowP {z tk : Int32} {w sec lo hi : Nat} {s : vt_S} (hy : ryOk y) (hsec : sec < g 5) (hm : rmet y g w) (h : lo ≤ hi) (h48 : hi ≤ 48) (hk : rVy B g n y D sec tk s) (hM : mtR B y g w s) : ab_X17_rowOf (B + 639) z (nI lo) (nI hi) s = some (nI (clR (rwS y g w z (eyS D sec)) lo hi), s) := by
  obtain ⟨hW', hA, hD, hs, htk, l4, l5, l2⟩ := id hk
  obtain ⟨j5, j6, j7, j8, j9⟩ := hM
  have ey := r_eye (k := (0, 0, sec)) hW'.2.2.2.2.1 hW'.2.1 hD hs hsec
  unfold ab_X17_rowOf
  rw [ey, vbs, slet, slet, j7, j8, r_flD (ov512 hy hm), vbs]
  exact r_clR h h48
theorem c_paint {top bot : Nat} {tk eye : Int32} {s : vt_S} (hy : ryOk y) (hi : i < 128) (htb : top ≤ bot) (hb : bot ≤ 48) (hw : m i < g 6) (hm : rmet y g (m i)) (hn : rfr y g (m i) = true ∨ g (wlp g (m i) + 3) ≠ 255) (hD : secsC s p (g 5) D) (hk : cVy B p g n y eye s) (hc : rayC s (B + 621) y g m i) (h6 : vt_I s 1006 (B + 629) = nI top) (h7 : vt_I s 1007 (B + 629) = nI bot) : ∃ s1, ab_X9_paintUpTo (B + 629) p (nI i) (nI (sdOn g (m i) (rfr y g (m i)))) (litS g D tk (sdOn g (m i) (rfr y g (m i)))) s = some ((), s1) ∧ (vt_A s1 1001 (B + 629), vt_A s1 1002 (B + 629), (colW y g D tk eye (m i) (vt_A s 1001 (B + 629), vt_A s 1002 (B + 629), top, bot)).2.2) = colW y g D tk eye (m i) (vt_A s 1001 (B + 629), vt_A s 1002 (B + 629), top, bot) ∧ vt_I s1 1006 (B + 629) = nI (colW y g D tk eye (m i) (vt_A s 1001 (B + 629), vt_A s 1002 (B + 629), top, bot)).2.2.1 ∧ vt_I s1 1007 (B + 629) = nI (colW y g D tk eye (m i) (vt_A s 1001 (B + 629), vt_A s 1002 (B + 629), top, bot)).2.2.2 ∧ vk [1006, 1007] [1001, 1002] [] (fun _ => True) s s1 := by
  obtain ⟨⟨hWk, hrow, h0, l1, l2, l3⟩, hA, he⟩ := id hk
  obtain ⟨L0, L1, L2, L3, L4, L5⟩ := hWk.2.2.2.1
  obtain ⟨c0, c1, c2, c3, -⟩ := id hc
  have hcm := hWk.2.2.2.2.2.2
  have hp := hWk.2.2.2.2.1
  have g5 := hcm.S.1
  have g6 := hcm.S.2.1
  have L7 := hp.L307
  have L8 := hp.L308
  have hF : wallF s (p + 43 + 2 * m i) g (wlp g (m i)) := hWk.2.2.2.2.2.1.2.2.2.2.1 (m i) hw
  have sn : sdOn g (m i) (rfr y g (m i)) < g 5 := by
    rcases hn with z | z
    · rw [z]; exact (hcm.wV hw).1
    · exact sdOn_lt hcm hw z
  have cr := clR_rng (v := rwS y g (m i) (D (sdOn g (m i) (rfr y g (m i)))).2.1 eye) htb
  have fr := clR_rng (v := rwS y g (m i) (D (sdOn g (m i) (rfr y g (m i)))).1 eye) cr.2
  obtain ⟨c, hcc⟩ : ∃ c, c = clR (rwS y g (m i) (D (sdOn g (m i) (rfr y g (m i)))).2.1 eye) top bot := ⟨_, rfl⟩
  rw [← hcc] at cr fr
  obtain ⟨f, hff⟩ : ∃ f, f = clR (rwS y g (m i) (D (sdOn g (m i) (rfr y g (m i)))).1 eye) c bot := ⟨_, rfl⟩
  rw [← hff] at fr
  have eC : cC y g D eye (m i) top bot = c := hcc.symm
  have eF : cF y g D eye (m i) top bot = f := by unfold cF; rw [eC]; exact hff.symm
  obtain ⟨nr, hnr⟩ : ∃ j, j = sdOn g (m i) (rfr y g (m i)) := ⟨_, rfl⟩
  have z7 : vt_I s 707 (p + 11 + nr) = (D nr).1 := by rw [hnr]; exact (hD _ sn).1
  have z8 : vt_I s 708 (p + 11 + nr) = (D nr).2.1 := by rw [hnr]; exact (hD _ sn).2.1
  have z2 : vt_I s 702 (p + 11 + nr) = nI (g (scp g nr + 4)) := by rw [hnr]; exact (hWk.2.2.2.2.2.1.2.2.2.1 _ sn).2.2.1
  rw [← hnr] at hcc hff sn ⊢
  obtain ⟨lt, hlt⟩ : ∃ l, l = litS g D tk nr := ⟨_, rfl⟩
  rw [← hlt]
  have tv := (hcm.tV sn).1
  have g4 : g 4 ≤ 16 := hcm.1.1.1.2.1
  -- the ceiling
  obtain ⟨s1, a1, a2, a3, a4⟩ := c_ceil (lt := lt) (c := c) (j := nr) (top := top) hy (by omega) cr.1 sn h6 hD hk
  have k1 : vk [1006, 1007] [1001, 1002] [] (fun _ => True) s s1 := a4.weak (by decide) (by decide) (by decide)
  have y1 : cVy B p g n y eye s1 := a4.keep0 (P := cVy B p g n y eye) hk
  -- the floor
  have eT : zI (n255 (g (scp g nr + 4))) = nI (g (scp g nr + 4)) := n255_nI (by omega)
  obtain ⟨s2, b1, b2, b3⟩ := c_plane (a := f) (b := bot) (z := (D nr).1) (lt := lt) hy (Or.inl tv) (by omega) hb y1
  rw [eT] at b1
  have k2 : vk [1006, 1007] [1001, 1002] [] (fun _ => True) s s2 := k1.trans (b3.weak (by decide) (by decide) (by decide))
  have y2 : cVy B p g n y eye s2 := b3.keep0 (P := cVy B p g n y eye) y1
  obtain ⟨s3, d1, d2, d3⟩ := c_mark (V := B + 629) (a := f) (b := bot) (v := 512 + nI nr) (by omega) hb y2.1.2.2.2.1
  have k3 : vk [1006, 1007] [1001, 1002] [] (fun _ => True) s s3 := k2.trans (d3.weak (by decide) (by decide) (by decide))
  have y3 : cVy B p g n y eye s3 := d3.keep0 (P := cVy B p g n y eye) y2
  have i3 : ∀ f a, vt_I s3 f a = vt_I s f a := fun f a => by
    rw [d3.eI (by intro z; cases z), b3.eI (by intro z; cases z), a4.eI (by intro z; cases z)]
  have hc3 : rayC s3 (B + 621) y g m i := k3.keep0 (P := fun t => rayC t (B + 621) y g m i) hc
  have D3 : secsC s3 p (g 5) D := k3.keep0 (P := fun t => secsC t p (g 5) D) hD
  have P3 : vt_A s3 1002 (B + 629) = colP y g D tk eye (m i) (vt_A s 1001 (B + 629), vt_A s 1002 (B + 629), top, bot) := by
    unfold colP
    dsimp only
    rw [(d3.2.2.1 1002 (B + 629) (Or.inl (by decide))).1, b2, a2, eC, eF, ← hnr, hlt]
    rfl
  have Q3 : vt_A s3 1001 (B + 629) = colQ y g D eye (m i) (vt_A s 1001 (B + 629), vt_A s 1002 (B + 629), top, bot) := by
    unfold colQ
    dsimp only
    rw [d2, (b3.2.2.1 1001 (B + 629) (Or.inl (by decide))).1, a3, eC, eF, ← hnr]
  have e0 : ab_X9_paintUpTo (B + 629) p (nI i) (nI nr) lt s = ab_X9_paintUpTo_131 (B + 629) p (nI i) lt (p + 11 + nr) (nI c) (nI f) (p + 43 + 2 * m i) (bI (!rfr y g (m i))) s3 := by
    unfold ab_X9_paintUpTo
    rw [vl_P_ok (by omega) (by omega), obs, hp.E307 _ (by omega), slet, z8, c_rowP hy hi hm hk hc, vbs, slet, slet, h6, h7, c_clR htb hb, vbs, slet, z7, c_rowP hy hi hm hk hc, vbs, slet, h7, ← hcc, c_clR (by omega) hb, vbs, ← hff, a1, vbs]
    rw [slet, slet, slet, a4.eI (by intro z; cases z), a4.eI (by intro z; cases z), a4.eI (by intro z; cases z), h7, z7, z2, b1, vbs, slet, b3.eI (by intro z; cases z), a4.eI (by intro z; cases z), h7, d1, vbs]
    have q0 : vt_P s3 1000 (B + 629) = B + 621 := y3.1.2.2.1
    have M0 := y3.1.1.2.2.2.1
    have hp3 := y3.1.1.2.2.2.2.1
    have N8 := hp3.L308
    rw [slet, q0, vl_I_ok (by rw [M0.1]; omega) (by rw [M0.1]; omega), obs, hc3.1, vl_P_ok (by omega) (by omega), obs, hp3.E308 _ (by omega), slet, vl_I_ok (by rw [M0.2.1]; omega) (by rw [M0.2.1]; omega), obs, hc3.2.1]
    cases hf : rfr y g (m i) with
    | true => rw [if_neg (show ¬ bI true = 0 by decide)]; rfl
    | false => rw [if_pos (show bI false = 0 from rfl)]; rfl
  rw [e0]
  cases hno : noF y g (m i) with
  | true =>
    have hno' := hno
    unfold noF at hno'
    rw [Bool.and_eq_true, decide_eq_true_eq] at hno'
    obtain ⟨nf1, nf2⟩ := hno'
    obtain ⟨s4, f1, f2, f3, f4⟩ := c_wallP (a := c) (b := f) (kd := 3) (lt := lt) hy (Or.inl rfl) hi (by omega) (by omega) hw hm hn (fun z => absurd rfl z) D3 y3 hc3
    have hF3 : wallF s3 (p + 43 + 2 * m i) g (wlp g (m i)) := y3.1.1.2.2.2.2.2.1.2.2.2.2.1 (m i) hw
    have q7 : vt_I s4 1007 (B + 629) = nI bot := by rw [f4.eI (by intro z; cases z), i3]; exact h7
    have eW : colW y g D tk eye (m i) (vt_A s 1001 (B + 629), vt_A s 1002 (B + 629), top, bot) = (vt_A s4 1001 (B + 629), vt_A s4 1002 (B + 629), bot, bot) := by
      unfold colW wlX
      rw [if_pos hno]
      dsimp only
      rw [eC, eF, f2, f3, P3, Q3, ← hnr, hlt]
    refine ⟨vu_I s4 1006 (B + 629) (nI bot), ?_, by rw [eW]; rfl, by rw [eW]; exact I_at, by rw [eW, I_ne (by omega)]; exact q7, ((k3.trans (f4.weak (by decide) (by decide) (by decide))).pI (by decide))⟩
    unfold ab_X9_paintUpTo_131
    rw [nf1, show (!true) = false from rfl, c_secNo hF3 nf2, vbs, if_pos rfl]
    have f1 : ab_X9_paintWall (B + 629) p (nI c) (nI f) 3 (nI i) lt s3 = some ((), s4) := f1
    rw [f1, vbs, slet, q7, slet]
  | false =>
    have bk : g (wlp g (m i) + 3) ≠ 255 := by
      intro z
      unfold noF at hno
      rw [decide_eq_true z, Bool.and_true] at hno
      rcases hn with q | q
      · rw [q] at hno; cases hno
      · exact q z
    have sf : sdOn g (m i) (!rfr y g (m i)) < g 5 := sdOn_lt hcm hw bk
    obtain ⟨fa, hfa⟩ : ∃ j, j = sdOn g (m i) (!rfr y g (m i)) := ⟨_, rfl⟩
    have hF3 : wallF s3 (p + 43 + 2 * m i) g (wlp g (m i)) := y3.1.1.2.2.2.2.2.1.2.2.2.2.1 (m i) hw
    have hp3 := y3.1.1.2.2.2.2.1
    have N7 := hp3.L307
    have w8 : vt_I s3 708 (p + 11 + fa) = (D fa).2.1 := by rw [hfa]; exact (D3 _ sf).2.1
    have x8 : vt_I s3 708 (p + 11 + nr) = (D nr).2.1 := (D3 _ sn).2.1
    obtain ⟨u, hu⟩ : ∃ u, u = cU y g D eye (m i) c f := ⟨_, rfl⟩
    have ur : c ≤ u ∧ u ≤ f := by
      rw [hu]
      unfold cU
      split
      · exact ⟨Nat.le_refl _, fr.1⟩
      · exact clR_rng fr.1
    have e131 : ab_X9_paintUpTo_131 (B + 629) p (nI i) lt (p + 11 + nr) (nI c) (nI f) (p + 43 + 2 * m i) (bI (!rfr y g (m i))) s3 = ab_X9_paintUpTo_208 (B + 629) p (nI i) lt (p + 11 + nr) (nI c) (nI f) (p + 11 + fa) (nI u) s3 := by
      unfold ab_X9_paintUpTo_131
      rw [c_secOn hF3 _ (Or.inr bk), vbs, ← hfa, if_neg (show ¬ nI fa = -1 from fun z => by
        rw [show (-1 : Int32) = zI (-1) from rfl, nI_z, zI_eq (by omega) (by omega) (by omega) (by omega)] at z
        omega), vl_P_ok (by omega) (by omega), obs, hp3.E307 _ (by omega), slet, slet, w8, x8]
      unfold cU at hu
      rw [← hfa, ← hnr] at hu
      by_cases q : (D nr).2.1 ≤ (D fa).2.1
      · rw [if_pos q] at hu ⊢
        rw [hu]
      · rw [if_neg q] at hu ⊢
        rw [slet, c_rowP hy hi hm y3 hc3, vbs, c_clR fr.1 (by omega), vbs, ← hu]
    obtain ⟨s4, f1, f2, f3, f4⟩ := c_wallP (a := c) (b := u) (kd := 4) (lt := lt) hy (Or.inr (Or.inl rfl)) hi (by omega) (by omega) hw hm hn (fun _ => bk) D3 y3 hc3
    have f1 : ab_X9_paintWall (B + 629) p (nI c) (nI u) 4 (nI i) lt s3 = some ((), s4) := f1
    have y4 : cVy B p g n y eye s4 := f4.keep0 (P := cVy B p g n y eye) y3
    have hc4 : rayC s4 (B + 621) y g m i := f4.keep0 (P := fun t => rayC t (B + 621) y g m i) hc3
    have D4 : secsC s4 p (g 5) D := f4.keep0 (P := fun t => secsC t p (g 5) D) D3
    have w7 : vt_I s4 707 (p + 11 + fa) = (D fa).1 := by rw [hfa]; exact (D4 _ sf).1
    have x7 : vt_I s4 707 (p + 11 + nr) = (D nr).1 := (D4 _ sn).1
    obtain ⟨l, hl⟩ : ∃ l, l = cL y g D eye (m i) u f := ⟨_, rfl⟩
    have lr : u ≤ l ∧ l ≤ f := by
      rw [hl]
      unfold cL
      split
      · exact ⟨ur.2, Nat.le_refl _⟩
      · exact clR_rng ur.2
    have e208 : ab_X9_paintUpTo_208 (B + 629) p (nI i) lt (p + 11 + nr) (nI c) (nI f) (p + 11 + fa) (nI u) s3 = ab_X9_paintUpTo_258 (B + 629) p (nI i) lt (nI f) (nI u) (nI l) s4 := by
      unfold ab_X9_paintUpTo_208
      rw [f1, vbs, slet, slet, w7, x7]
      unfold cL at hl
      rw [← hfa, ← hnr] at hl
      by_cases q : (D fa).1 ≤ (D nr).1
      · rw [if_pos q] at hl ⊢
        rw [hl]
      · rw [if_neg q] at hl ⊢
        rw [slet, c_rowP hy hi hm y4 hc4, vbs, c_clR ur.2 (by omega), vbs, ← hl]
    obtain ⟨s5, m1, m2, m3, m4⟩ := c_wallP (a := l) (b := f) (kd := 5) (lt := lt) hy (Or.inr (Or.inr rfl)) hi (by omega) (by omega) hw hm hn (fun _ => bk) D4 y4 hc4
    have m1 : ab_X9_paintWall (B + 629) p (nI l) (nI f) 5 (nI i) lt s4 = some ((), s5) := m1
    have eW : colW y g D tk eye (m i) (vt_A s 1001 (B + 629), vt_A s 1002 (B + 629), top, bot) = (vt_A s5 1001 (B + 629), vt_A s5 1002 (B + 629), u, l) := by
      unfold colW wlX
      rw [if_neg (by rw [hno]; decide)]
      dsimp only
      rw [eC, eF, ← hu, ← hl, m2, m3, f2, f3, P3, Q3, ← hnr, hlt]
    refine ⟨vu_I (vu_I s5 1006 (B + 629) (nI u)) 1007 (B + 629) (nI l), ?_, by rw [eW]; rfl, by rw [eW, I_ne (by omega)]; exact I_at, by rw [eW]; exact I_at, (((k3.trans (f4.weak (by decide) (by decide) (by decide))).trans (m4.weak (by decide) (by decide) (by decide))).pI (by decide)).pI (by decide)⟩
    rw [e131, e208]
    unfold ab_X9_paintUpTo_258
    rw [m1, vbs, slet, slet]
end PT
