-- VIEW: the walls of a column, one after the other
abbrev CX : Type := VS × (Nat → Nat) × Nat
def noN (y : RY) (g : Nat → Nat) (w : Nat) : Bool := !rfr y g w && decide (g (wlp g w + 3) = 255)
def colG (y : RY) (g : Nat → Nat) (D : Nat → SD) (tk eye : Int32) (m : Nat → Nat) : Nat → Nat → CX → CX
  | 0, _, X => X
  | d + 1, i, X => if X.1.2.2.1 < X.1.2.2.2 then (if noN y g (m i) then colG y g D tk eye m d (i + 1) X else colG y g D tk eye m d (i + 1) (colW y g D tk eye (m i) X.1, (fun j => if j = X.2.2 then m i else X.2.1 j), X.2.2 + 1)) else X
theorem colG_end {y : RY} {g : Nat → Nat} {D : Nat → SD} {tk eye : Int32} {m : Nat → Nat} {d i : Nat} {X : CX} (h : ¬ X.1.2.2.1 < X.1.2.2.2) : colG y g D tk eye m d i X = X := by
  cases d with
  | zero => rfl
  | succ d => unfold colG; rw [if_neg h]
theorem upR_pt {F G : Nat → Int32} {a b : Nat} {v : Nat → Int32} {r : Nat} (h : F r = G r) : upR F a b v r = upR G a b v r := by
  unfold upR
  split
  · rfl
  · exact h
theorem colW_pt {y : RY} {g : Nat → Nat} {D : Nat → SD} {tk eye : Int32} {w : Nat} {S P S2 P2 : Nat → Int32} {t b : Nat} (h : ∀ r, r < 48 → S r = S2 r ∧ P r = P2 r) : (colW y g D tk eye w (S, P, t, b)).2.2 = (colW y g D tk eye w (S2, P2, t, b)).2.2 ∧ ∀ r, r < 48 → (colW y g D tk eye w (S, P, t, b)).1 r = (colW y g D tk eye w (S2, P2, t, b)).1 r ∧ (colW y g D tk eye w (S, P, t, b)).2.1 r = (colW y g D tk eye w (S2, P2, t, b)).2.1 r := by
  unfold colW colP colQ
  cases noF y g w with
  | true =>
    rw [if_pos rfl, if_pos rfl]
    dsimp only
    exact ⟨rfl, fun r hr => ⟨upR_pt (upR_pt (upR_pt (h r hr).1)), upR_pt (upR_pt (upR_pt (h r hr).2))⟩⟩
  | false =>
    rw [if_neg (by decide), if_neg (by decide)]
    dsimp only
    exact ⟨rfl, fun r hr => ⟨upR_pt (upR_pt (upR_pt (upR_pt (h r hr).1))), upR_pt (upR_pt (upR_pt (upR_pt (h r hr).2)))⟩⟩
section LK
variable {B p n : Nat} {g : Nat → Nat} {D : Nat → SD} {y : RY}
def cX (B : Nat) (s : vt_S) (X : CX) : Prop := (∀ r, r < 48 → vt_A s 1001 (B + 629) r = X.1.1 r ∧ vt_A s 1002 (B + 629) r = X.1.2.1 r) ∧ vt_I s 1006 (B + 629) = nI X.1.2.2.1 ∧ vt_I s 1007 (B + 629) = nI X.1.2.2.2 ∧ vt_I s 1004 (B + 629) = nI X.2.2 ∧ ∀ j, j < X.2.2 → vt_A s 1003 (B + 629) j = nI (X.2.1 j)
theorem noN_f {w : Nat} (h : noN y g w = false) : rfr y g w = true ∨ g (wlp g w + 3) ≠ 255 := by
  unfold noN at h
  cases hf : rfr y g w with
  | true => exact Or.inl rfl
  | false =>
    rw [hf] at h
    refine Or.inr (fun z => ?_)
    rw [decide_eq_true z] at h
    cases h
theorem noN_t {w : Nat} (h : noN y g w = true) : rfr y g w = false ∧ g (wlp g w + 3) = 255 := by
  unfold noN at h
  rw [Bool.and_eq_true, decide_eq_true_eq] at h
  refine ⟨?_, h.2⟩
  cases hf : rfr y g w with
  | true => rw [hf] at h; cases h.1
  | false => rfl
theorem c_look_loop {tk eye : Int32} {q : (Nat → Nat) × Nat} (hy : ryOk y) (qi1 : q.2 ≤ g 6) (qi2 : ∀ j, j < q.2 → rmet y g (q.1 j) ∧ q.1 j < g 6) : ∀ (d i fu : Nat) (s : vt_S) (X : CX), i + d = q.2 → d < fu → cVy B p g n y eye s → rays s (B + 621) y g q → secsC s p (g 5) D → vt_I s 1106 (B + 628) = tk → cX B s X → X.1.2.2.1 ≤ X.1.2.2.2 → X.1.2.2.2 ≤ 48 → X.2.2 ≤ i → ∃ s1, ab_X9_look_114 fu (B + 629) (B + 628) (nI i) s = some ((), s1) ∧ cX B s1 (colG y g D tk eye q.1 d i X) ∧ (colG y g D tk eye q.1 d i X).2.2 ≤ i + d ∧ vk [1004, 1006, 1007] [1001, 1002, 1003] [] (fun _ => True) s s1 := by
  intro d
  induction d with
  | zero =>
    intro i fu s X hi hf hk hr hD ht hX h1 h2 h3
    obtain ⟨fu, rfl⟩ : ∃ q, fu = q + 1 := ⟨fu - 1, by omega⟩
    have g6 := hk.1.1.2.2.2.2.2.2.S.2.1
    refine ⟨s, ?_, hX, h3, vk.refl s⟩
    show ab_X9_look_114b _ (B + 629) (B + 628) (nI i) s = _
    unfold ab_X9_look_114b ab_X9_look_244
    rw [slet, hk.1.2.2.1, slet, hr.1, if_pos (nI_le (by omega) (by omega))]
  | succ d ih =>
    intro i fu s X hi hf hk hr hD ht hX h1 h2 h3
    obtain ⟨fu, rfl⟩ : ∃ q, fu = q + 1 := ⟨fu - 1, by omega⟩
    obtain ⟨⟨hWk, hrow, h0, l1, l2, l3⟩, hA, he⟩ := id hk
    have hcm := hWk.2.2.2.2.2.2
    have hp := hWk.2.2.2.2.1
    have g6 := hcm.S.2.1
    have g5 := hcm.S.1
    obtain ⟨L0, L1, -⟩ := hWk.2.2.2.1
    have L7 := hp.L307
    have L8 := hp.L308
    obtain ⟨x1, x6, x7, x4, x3⟩ := id hX
    obtain ⟨hm, hw⟩ := qi2 i (by omega)
    have hc := hr.2 i (by omega)
    obtain ⟨c0, c1, -⟩ := id hc
    by_cases hc1 : X.1.2.2.1 < X.1.2.2.2
    · have hF : wallF s (p + 43 + 2 * q.1 i) g (wlp g (q.1 i)) := hWk.2.2.2.2.2.1.2.2.2.2.1 _ hw
      have e0 : ∀ r14, ab_X11_sectorOn (p + 43 + 2 * q.1 i) (bI (rfr y g (q.1 i))) s = some (r14, s) → ab_X9_look_114 (fu + 1) (B + 629) (B + 628) (nI i) s = if r14 = -1 then ab_X9_look_114 fu (B + 629) (B + 628) (nI (i + 1)) s else (vs_I s 1003 (B + 629) (nI X.2.2) (nI (q.1 i))).bind fun h21 =>
        sv_let (vt_I h21 1004 (B + 629)) fun v22 =>
        sv_let (vu_I h21 1004 (B + 629) (v22 + 1)) fun h23 =>
        sv_let (vt_P h23 1101 (B + 628)) fun v24 =>
        sv_let (vt_P h23 1101 (B + 628)) fun v25 =>
        sv_let (vt_P h23 1101 (B + 628)) fun v26 =>
        (vl_P h23 307 v26 r14).bind fun v28 =>
        sv_let (vt_I h23 1106 (B + 628)) fun v29 =>
        vt_b (ab_X2_lightIn v25 v28 v29 h23) fun r30 h31 =>
        vt_b (ab_X9_paintUpTo (B + 629) v24 (nI i) r14 r30 h31) fun _ h32 =>
        ab_X9_look_238 (ab_X9_look_114 fu) (B + 629) (B + 628) (nI i) h32 := by
        intro r14 e14
        show ab_X9_look_114b _ (B + 629) (B + 628) (nI i) s = _
        unfold ab_X9_look_114b
        rw [slet, h0, slet, hr.1, if_neg (nI_ge (by omega) (by omega)), slet, slet, x6, x7, if_neg (nI_ge (by omega) (by omega)), slet, hWk.2.1, slet, vl_I_ok (by omega) (by omega), obs, c0, vl_P_ok (by omega) (by omega), obs, hp.E308 _ (by omega), slet, vl_I_ok (by omega) (by omega), obs, c1, e14, vbs, slet, slet, x4, h0, vl_I_ok (by omega) (by omega), obs, c0]
        unfold ab_X9_look_238
        rw [nI_1]
      cases hno : noN y g (q.1 i) with
      | true =>
        obtain ⟨n1, n2⟩ := noN_t hno
        have e1 := e0 (-1) (by rw [n1]; exact c_secNo hF n2)
        rw [if_pos rfl] at e1
        obtain ⟨s1, a1, a2, a3, a4⟩ := ih (i + 1) fu s X (by omega) (by omega) hk hr hD ht hX h1 h2 (by omega)
        have eG : colG y g D tk eye q.1 (d + 1) i X = colG y g D tk eye q.1 d (i + 1) X := by
          rw [colG, if_pos hc1, if_pos hno]
        rw [eG]
        exact ⟨s1, by rw [e1, a1], a2, by omega, a4⟩
      | false =>
        have hn := noN_f hno
        have sn : sdOn g (q.1 i) (rfr y g (q.1 i)) < g 5 := by
          rcases hn with z | z
          · rw [z]; exact (hcm.wV hw).1
          · exact sdOn_lt hcm hw z
        have e1 := e0 _ (c_secOn hF _ hn)
        rw [if_neg (fun z => by
          rw [show (-1 : Int32) = zI (-1) from rfl, nI_z, zI_eq (by omega) (by omega) (by omega) (by omega)] at z
          omega)] at e1
        obtain ⟨t, ht1⟩ : ∃ u, u = vu_I (vu_A s 1003 (B + 629) X.2.2 (nI (q.1 i))) 1004 (B + 629) (nI (X.2.2 + 1)) := ⟨_, rfl⟩
        have kt : vk [1004] [1003] [] (fun _ => True) s t := by rw [ht1]; exact vk.pI (vk.pA (vk.refl s) (by decide)) (by decide)
        have yt : cVy B p g n y eye t := kt.keep0 (P := cVy B p g n y eye) hk
        have rt : rays t (B + 621) y g q := kt.keep0 (P := fun t => rays t (B + 621) y g q) hr
        have Dt : secsC t p (g 5) D := kt.keep0 (P := fun t => secsC t p (g 5) D) hD
        have t6 : vt_I t 1006 (B + 629) = nI X.1.2.2.1 := by rw [kt.eI (by decide)]; exact x6
        have t7 : vt_I t 1007 (B + 629) = nI X.1.2.2.2 := by rw [kt.eI (by decide)]; exact x7
        have tt : vt_I t 1106 (B + 628) = tk := by rw [kt.eI (by decide)]; exact ht
        obtain ⟨s1, a1, a2, a3, a4, a5⟩ := c_paint (tk := tk) hy (show i < 128 by omega) h1 h2 hw hm hn Dt yt (rt.2 i (by omega)) t6 t7
        have A1 : vt_A t 1001 (B + 629) = vt_A s 1001 (B + 629) := (kt.2.2.1 1001 (B + 629) (Or.inl (by decide))).1
        have A2 : vt_A t 1002 (B + 629) = vt_A s 1002 (B + 629) := (kt.2.2.1 1002 (B + 629) (Or.inl (by decide))).1
        rw [A1, A2] at a2 a3 a4
        obtain ⟨p1, p2⟩ := colW_pt (y := y) (g := g) (D := D) (tk := tk) (eye := eye) (w := q.1 i) (t := X.1.2.2.1) (b := X.1.2.2.2) x1
        have eX : (X.1.1, X.1.2.1, X.1.2.2.1, X.1.2.2.2) = X.1 := rfl
        rw [eX] at p1 p2
        rw [p1] at a3 a4
        have rg := colW_rng (y := y) (g := g) (D := D) (tk := tk) (eye := eye) (w := q.1 i) (x := X.1) h1
        obtain ⟨W0, hW0⟩ : ∃ W, W = colW y g D tk eye (q.1 i) (vt_A s 1001 (B + 629), vt_A s 1002 (B + 629), X.1.2.2.1, X.1.2.2.2) := ⟨_, rfl⟩
        obtain ⟨W, hW⟩ : ∃ W, W = colW y g D tk eye (q.1 i) X.1 := ⟨_, rfl⟩
        rw [← hW0] at a2 p1 p2
        rw [← hW] at a3 a4 p1 p2 rg
        obtain ⟨sn1, hs1⟩ : ∃ f : Nat → Nat, f = fun j => if j = X.2.2 then q.1 i else X.2.1 j := ⟨_, rfl⟩
        have yS : cVy B p g n y eye s1 := a5.keep0 (P := cVy B p g n y eye) yt
        have X1 : cX B s1 (W, sn1, X.2.2 + 1) := by
          refine ⟨fun r hr => ?_, a3, a4, ?_, fun j hj => ?_⟩
          · have q1 : vt_A s1 1001 (B + 629) r = W0.1 r := by rw [← a2]
            have q2 : vt_A s1 1002 (B + 629) r = W0.2.1 r := by rw [← a2]
            rw [q1, q2]
            exact p2 r hr
          · rw [a5.eI (by decide), ht1]; exact I_at
          · rw [(a5.2.2.1 1003 (B + 629) (Or.inl (by decide))).1, ht1, A_I, A_at]
            have hj : j < X.2.2 + 1 := hj
            show _ = nI (sn1 j)
            rw [hs1]
            dsimp only
            by_cases z : j = X.2.2
            · rw [if_pos z, if_pos z]
            · rw [if_neg z, if_neg z]; exact x3 j (by omega)
        obtain ⟨s2, b1, b2, b3, b4⟩ := ih (i + 1) fu s1 (W, sn1, X.2.2 + 1) (by omega) (by omega) yS (a5.keep0 (P := fun t => rays t (B + 621) y g q) rt) (a5.keep0 (P := fun t => secsC t p (g 5) D) Dt) (by rw [a5.eI (by decide)]; exact tt) X1 rg.1 (Nat.le_trans rg.2 h2) (show X.2.2 + 1 ≤ i + 1 by omega)
        have eG : colG y g D tk eye q.1 (d + 1) i X = colG y g D tk eye q.1 d (i + 1) (W, sn1, X.2.2 + 1) := by
          rw [colG, if_pos hc1, if_neg (by rw [hno]; decide), hW, hs1]
        rw [eG]
        have I4 : vt_I (vu_A s 1003 (B + 629) X.2.2 (nI (q.1 i))) 1004 (B + 629) = nI X.2.2 := x4
        have pt := yt.1.1.2.2.2.2.1
        have Lt := pt.L307
        refine ⟨s2, ?_, b2, by omega, ((kt.weak (by decide) (by decide) (by decide)).trans (a5.weak (by decide) (by decide) (by decide))).trans b4⟩
        rw [e1, vs_I_ok (by omega) (by omega), obs, slet, I4, nI_1, slet, ← ht1, slet, slet, slet, yt.1.1.2.1, vl_P_ok (by omega) (by omega), obs, pt.E307 _ (by omega), slet, tt, c_lit yt.1.1 sn Dt, vbs, a1, vbs]
        unfold ab_X9_look_238
        rw [nI_1]
        exact b1
    · rw [colG_end hc1]
      refine ⟨s, ?_, hX, by omega, vk.refl s⟩
      show ab_X9_look_114b _ (B + 629) (B + 628) (nI i) s = _
      unfold ab_X9_look_114b ab_X9_look_244
      rw [slet, h0, slet, hr.1, if_neg (nI_ge (by omega) (by omega)), slet, slet, x6, x7, if_pos (nI_le (by omega) (by omega))]
end LK
