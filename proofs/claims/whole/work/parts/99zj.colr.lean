-- VIEW: the walls of a column, the reference
section RC
variable {B n : Nat} {g : Nat → Nat} {D : Nat → SD} {y : RY}
def rX (B : Nat) (s : vt_S) (X : CX) : Prop := (∀ r, r < 48 → vt_A s 1824 (B + 639) r = X.1.1 r ∧ vt_A s 1825 (B + 639) r = X.1.2.1 r) ∧ vt_I s 1823 (B + 639) = nI X.2.2 ∧ ∀ j, j < X.2.2 → vt_A s 1822 (B + 639) j = nI (X.2.1 j)
theorem r_look_loop {tk : Int32} {sec : Nat} {q : (Nat → Nat) × Nat} (hy : ryOk y) (hv : ∀ j, j < g 5 → sdOk (D j)) (hsec : sec < g 5) (qi1 : q.2 ≤ g 6) (qi2 : ∀ j, j < q.2 → rmet y g (q.1 j) ∧ q.1 j < g 6) : ∀ (d i fu : Nat) (s : vt_S) (X : CX), i + d = q.2 → d < fu → rVy B g n y D sec tk s → gatR B s q → rX B s X → X.1.2.2.1 ≤ X.1.2.2.2 → X.1.2.2.2 ≤ 48 → X.2.2 ≤ i → ∃ s1, ab_X17_column_113 fu (B + 639) (nI X.1.2.2.1) (nI X.1.2.2.2) (nI i) s = some ((), s1) ∧ rX B s1 (colG y g D tk (eyS D sec) q.1 d i X) := by
  intro d
  induction d with
  | zero =>
    intro i fu s X hi hf hk hG hX h1 h2 h3
    obtain ⟨fu, rfl⟩ : ∃ q, fu = q + 1 := ⟨fu - 1, by omega⟩
    have g6 := hk.1.C.S.2.1
    refine ⟨s, ?_, hX⟩
    show ab_X17_column_113b _ (B + 639) _ _ (nI i) s = _
    unfold ab_X17_column_113b ab_X17_column_399
    rw [slet, hG.1, if_pos (nI_le (by omega) (by omega))]
  | succ d ih =>
    intro i fu s X hi hf hk hG hX h1 h2 h3
    obtain ⟨fu, rfl⟩ : ∃ q, fu = q + 1 := ⟨fu - 1, by omega⟩
    have hcm := hk.1.C
    have g6 := hcm.S.2.1
    have g5 := hcm.S.1
    have L0 := hk.1.2.2.2.2.2.1
    obtain ⟨x1, x4, x3⟩ := id hX
    obtain ⟨hm, hw⟩ := qi2 i (by omega)
    have c0 := hG.2 i (by omega)
    by_cases hc1 : X.1.2.2.1 < X.1.2.2.2
    · obtain ⟨s0, a1, a2, a3, a4, a5, a6, a7, a8, a9⟩ := r_meets (W := g 6) hy hw hk.1.2.2.1 hk.2.1
      have k0 := (vk_X17_meets vclT trivial a1).1
      have y0 : rVy B g n y D sec tk s0 := k0.keep0 (P := rVy B g n y D sec tk) hk
      have M0 : mtR B y g (q.1 i) s0 := ⟨a5, a6, a9 hm, a7, a8⟩
      have G0 : gatR B s0 q := k0.keep0 (P := fun t => gatR B t q) hG
      have X0 : rX B s0 X := k0.keep0 (P := fun t => rX B t X) hX
      have q1 := r_side (fr := true) y0.1.1 y0.1.2.2.2.1 hw a8
      have q2 := r_side (fr := false) y0.1.1 y0.1.2.2.2.1 hw a8
      obtain ⟨nv, hnv⟩ : ∃ v, v = (if true = rfr y g (q.1 i) then nI (g (wlp g (q.1 i) + 2)) else zI (n255 (g (wlp g (q.1 i) + 3)))) := ⟨_, rfl⟩
      rw [← hnv] at q1
      have q1 : ab_X17_sideOf (B + 639) (nI (q.1 i)) 1 s0 = some (nv, s0) := q1
      have q2 : ab_X17_sideOf (B + 639) (nI (q.1 i)) 0 s0 = some (if false = rfr y g (q.1 i) then nI (g (wlp g (q.1 i) + 2)) else zI (n255 (g (wlp g (q.1 i) + 3))), s0) := q2
      cases hno : noN y g (q.1 i) with
      | true =>
        obtain ⟨n1, n2⟩ := noN_t hno
        have e1 : nv = -1 := by rw [hnv, n1, if_neg (by decide), n2]; rfl
        obtain ⟨s1, b1, b2⟩ := ih (i + 1) fu s0 X (by omega) (by omega) y0 G0 X0 h1 h2 (by omega)
        have eG : colG y g D tk (eyS D sec) q.1 (d + 1) i X = colG y g D tk (eyS D sec) q.1 d (i + 1) X := by
          rw [colG, if_pos hc1, if_pos hno]
        rw [eG]
        refine ⟨s1, ?_, b2⟩
        show ab_X17_column_113b _ (B + 639) _ _ (nI i) s = _
        unfold ab_X17_column_113b ab_X17_column_393
        rw [slet, hG.1, if_neg (nI_ge (by omega) (by omega)), if_neg (nI_ge (by omega) (by omega)), vl_I_ok (by omega) (by omega), obs, c0, a1, vbs, q1, vbs, q2, vbs, e1, if_neg (by decide), nI_1]
        exact b1
      | false =>
        have hn := noN_f hno
        have sn : sdOn g (q.1 i) (rfr y g (q.1 i)) < g 5 := by
          rcases hn with z | z
          · rw [z]; exact (hcm.wV hw).1
          · exact sdOn_lt hcm hw z
        have e1 : nv = nI (sdOn g (q.1 i) (rfr y g (q.1 i))) := by rw [hnv, nr_V hn]
        obtain ⟨t, ht1⟩ : ∃ u, u = vu_I (vu_A s0 1822 (B + 639) X.2.2 (nI (q.1 i))) 1823 (B + 639) (nI (X.2.2 + 1)) := ⟨_, rfl⟩
        have kt : vk [1823] [1822] [] (fun _ => True) s0 t := by rw [ht1]; exact vk.pI (vk.pA (vk.refl s0) (by decide)) (by decide)
        have yt : rVy B g n y D sec tk t := kt.keep0 (P := rVy B g n y D sec tk) y0
        have Mt : mtR B y g (q.1 i) t := kt.keep0 (P := mtR B y g (q.1 i)) M0
        have Gt : gatR B t q := kt.keep0 (P := fun t => gatR B t q) G0
        obtain ⟨s1, b1, b2, b3⟩ := r_paint (tk := tk) (k := ab_X17_column_113 fu) (x4 := nI i) (top := X.1.2.2.1) (bot := X.1.2.2.2) hy hv hsec h1 h2 hw hm hn yt Mt
        have A1 : vt_A t 1824 (B + 639) = vt_A s 1824 (B + 639) := by rw [(kt.2.2.1 1824 (B + 639) (Or.inl (by decide))).1, (k0.2.2.1 1824 (B + 639) (Or.inl (by decide))).1]
        have A2 : vt_A t 1825 (B + 639) = vt_A s 1825 (B + 639) := by rw [(kt.2.2.1 1825 (B + 639) (Or.inl (by decide))).1, (k0.2.2.1 1825 (B + 639) (Or.inl (by decide))).1]
        rw [A1, A2] at b1 b2
        obtain ⟨p1, p2⟩ := colW_pt (y := y) (g := g) (D := D) (tk := tk) (eye := eyS D sec) (w := q.1 i) (t := X.1.2.2.1) (b := X.1.2.2.2) x1
        have eX : (X.1.1, X.1.2.1, X.1.2.2.1, X.1.2.2.2) = X.1 := rfl
        rw [eX] at p1 p2
        rw [p1] at b1
        have rg := colW_rng (y := y) (g := g) (D := D) (tk := tk) (eye := eyS D sec) (w := q.1 i) (x := X.1) h1
        obtain ⟨W0, hW0⟩ : ∃ W, W = colW y g D tk (eyS D sec) (q.1 i) (vt_A s 1824 (B + 639), vt_A s 1825 (B + 639), X.1.2.2.1, X.1.2.2.2) := ⟨_, rfl⟩
        obtain ⟨W, hW⟩ : ∃ W, W = colW y g D tk (eyS D sec) (q.1 i) X.1 := ⟨_, rfl⟩
        rw [← hW0] at b2 p1 p2
        rw [← hW] at b1 p1 p2 rg
        obtain ⟨sn1, hs1⟩ : ∃ f : Nat → Nat, f = fun j => if j = X.2.2 then q.1 i else X.2.1 j := ⟨_, rfl⟩
        have yS : rVy B g n y D sec tk s1 := b3.keep0 (P := rVy B g n y D sec tk) yt
        have X1 : rX B s1 (W, sn1, X.2.2 + 1) := by
          refine ⟨fun r hr => ?_, ?_, fun j hj => ?_⟩
          · have q1 : vt_A s1 1824 (B + 639) r = W0.1 r := by rw [← b2]
            have q2 : vt_A s1 1825 (B + 639) r = W0.2.1 r := by rw [← b2]
            rw [q1, q2]
            exact p2 r hr
          · rw [b3.eI (by intro z; cases z), ht1]; exact I_at
          · rw [(b3.2.2.1 1822 (B + 639) (Or.inl (by decide))).1, ht1, A_I, A_at]
            have hj : j < X.2.2 + 1 := hj
            show _ = nI (sn1 j)
            rw [hs1]
            dsimp only
            by_cases z : j = X.2.2
            · rw [if_pos z, if_pos z]
            · rw [if_neg z, if_neg z, (k0.2.2.1 1822 (B + 639) (Or.inl (by decide))).1]; exact x3 j (by omega)
        obtain ⟨s2, d1, d2⟩ := ih (i + 1) fu s1 (W, sn1, X.2.2 + 1) (by omega) (by omega) yS (b3.keep0 (P := fun t => gatR B t q) Gt) X1 rg.1 (Nat.le_trans rg.2 h2) (show X.2.2 + 1 ≤ i + 1 by omega)
        have eG : colG y g D tk (eyS D sec) q.1 (d + 1) i X = colG y g D tk (eyS D sec) q.1 d (i + 1) (W, sn1, X.2.2 + 1) := by
          rw [colG, if_pos hc1, if_neg (by rw [hno]; decide), hW, hs1]
        rw [eG]
        refine ⟨s2, ?_, d2⟩
        have L22 : vt_L s0 1822 (B + 639) = 128 := y0.2.2.2.2.2.2.2
        have I4 : vt_I s0 1823 (B + 639) = nI X.2.2 := X0.2.1
        have I5 : vt_I (vu_A s0 1822 (B + 639) X.2.2 (nI (q.1 i))) 1823 (B + 639) = nI X.2.2 := I4
        show ab_X17_column_113b _ (B + 639) _ _ (nI i) s = _
        unfold ab_X17_column_113b
        rw [slet, hG.1, if_neg (nI_ge (by omega) (by omega)), if_neg (nI_ge (by omega) (by omega)), vl_I_ok (by omega) (by omega), obs, c0, a1, vbs, q1, vbs, q2, vbs, e1, if_pos (show (0 : Int32) ≤ nI (sdOn g (q.1 i) (rfr y g (q.1 i))) from nI_le (a := 0) (Nat.zero_le _) (by omega)), slet, I4, vs_I_ok (by omega) (by omega), obs, slet, I5, nI_1, slet, ← ht1, b1, nI_1]
        exact d1
    · rw [colG_end hc1]
      refine ⟨s, ?_, hX⟩
      show ab_X17_column_113b _ (B + 639) _ _ (nI i) s = _
      unfold ab_X17_column_113b ab_X17_column_399
      rw [slet, hG.1, if_neg (nI_ge (by omega) (by omega)), if_pos (nI_le (by omega) (by omega))]
end RC
