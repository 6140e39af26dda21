-- THE HALL is furnished: all sectors, the walls that are there, the neighbours and the tree's places
section FM
variable {B n : Nat} {g : Nat → Nat}
def rMa (B : Nat) (g : Nat → Nat) (n : Nat) (s : vt_S) : Prop := rS B s ∧ rMap B g n s ∧ vt_I s 1809 (B + 639) = 1
def hPl (B : Nat) (g : Nat → Nat) (i : Nat) (s : vt_S) : Prop := vt_I s 1400 (B + 656) = nI i ∧ (∀ j, j < i → vt_A s 1401 (B + 656) j = zI (pr g (scp g j)) ∧ vt_A s 1402 (B + 656) j = zI (pr g (scp g j + 2)) ∧ vt_A s 1403 (B + 656) j = nI (g (scp g j + 6)) ∧ vt_A s 1404 (B + 656) j = nI (g (scp g j + 7)) ∧ vt_A s 1405 (B + 656) j = nI (g (scp g j + 8)))
def hNo (B : Nat) (s : vt_S) : Prop := ∀ j, j < 1024 → vt_A s 1406 (B + 656) j = 0
theorem r_fsec : ∀ (d i fu : Nat) (s : vt_S), i + d = g 5 → d < fu → rMa B g n s → hPl B g i s → hNo B s → ∃ s1, ab_X17_furnish_9 fu (B + 639) (nI i) s = ab_X17_furnish_79 sv_fuel (B + 639) 0 s1 ∧ rMa B g n s1 ∧ hPl B g (g 5) s1 ∧ hNo B s1 := by
  intro d
  induction d with
  | zero =>
    intro i fu s hi hf hM hP hN
    obtain ⟨fu, rfl⟩ : ∃ q, fu = q + 1 := ⟨fu - 1, by omega⟩
    have g5 := hM.2.1.V.1.1.2.2.2.1
    refine ⟨s, ?_, hM, by rw [show g 5 = i by omega]; exact hP, hN⟩
    show ab_X17_furnish_9b _ (B + 639) (nI i) s = _
    unfold ab_X17_furnish_9b
    rw [r_sectors hM.2.1 hM.2.2 hM.1.P1801, vbs, if_pos (nI_le (by omega) (by omega))]
  | succ d ih =>
    intro i fu s hi hf hM hP hN
    obtain ⟨fu, rfl⟩ : ∃ q, fu = q + 1 := ⟨fu - 1, by omega⟩
    have g5 := hM.2.1.V.1.1.2.2.2.1
    have hi5 : i < g 5 := by omega
    obtain ⟨sv, sn⟩ := hM.2.1.V.1.2.2.2.2.1 i hi5
    obtain ⟨v1, v2, v3, v4, v5, v6, v7⟩ := sv
    have b8 := (hM.2.1.2.2.2.1 (scp g i + 8) (by omega)).2
    obtain ⟨s1, a1, a2, a3, a4, a5, a6, a7⟩ := r_sec1 (k := i) (f := pr g (scp g i)) (c := pr g (scp g i + 2)) (l := g (scp g i + 6)) (kd := g (scp g i + 7)) (tg := g (scp g i + 8)) (by omega) v1 v3 v2 (by omega) (by omega) b8 hM.1 hP.1
    have k1 := (vk_X13_sector vclT trivial a1).1
    have hM1 : rMa B g n s1 := k1.keep0 (P := rMa B g n) hM
    have hN1 : hNo B s1 := k1.keep0 (P := hNo B) hN
    obtain ⟨s2, b1, b2, b3, b4⟩ := ih (i + 1) fu s1 (by omega) (by omega) hM1 ⟨a2, fun j hj => by
      rw [a3, a4, a5, a6, a7]
      by_cases z : j = i
      · rw [if_pos z, if_pos z, if_pos z, if_pos z, if_pos z, z]; exact ⟨rfl, rfl, rfl, rfl, rfl⟩
      · rw [if_neg z, if_neg z, if_neg z, if_neg z, if_neg z]; exact hP.2 j (by omega)⟩ hN1
    refine ⟨s2, ?_, b2, b3, b4⟩
    obtain ⟨c1, c2⟩ := rm_sec0 hM.2.1 hi5
    have c3 := rm_sec hM.2.1 hi5 (k := 4) (by omega) (by omega)
    have c4 := rm_sec hM.2.1 hi5 (k := 5) (by omega) (by omega)
    have c5 := rm_sec hM.2.1 hi5 (k := 6) (by omega) (by omega)
    rw [show scp g i + 2 + 4 = scp g i + 6 by omega] at c3
    rw [show scp g i + 2 + 5 = scp g i + 7 by omega] at c4
    rw [show scp g i + 2 + 6 = scp g i + 8 by omega] at c5
    show ab_X17_furnish_9b _ (B + 639) (nI i) s = _
    unfold ab_X17_furnish_9b
    rw [r_sectors hM.2.1 hM.2.2 hM.1.P1801, vbs, if_neg (nI_ge (by omega) (by omega)), slet, slet, hM.1.P1803, hM.1.P1801, c1, vbs, slet, hM.1.P1801, c2, vbs, slet, hM.1.P1801, show (4 : Int32) = nI 4 from rfl, c3, vbs, slet, hM.1.P1801, show (5 : Int32) = nI 5 from rfl, c4, vbs, slet, hM.1.P1801, show (6 : Int32) = nI 6 from rfl, c5, vbs, a1, vbs, nI_1]
    exact b1
def tTh (B : Nat) (g : Nat → Nat) (s : vt_S) : Prop := ∀ w, w < 128 → vt_A s 1700 (B + 670) w = bI (decide (w < g 6))
theorem r_fthere : ∀ (d i fu : Nat) (s : vt_S), i + d = 128 → d < fu → rMa B g n s → (∀ w, w < i → vt_A s 1700 (B + 670) w = bI (decide (w < g 6))) → ∃ s1, ab_X17_furnish_79 fu (B + 639) (nI i) s = ab_X17_furnish_116 sv_fuel (B + 639) 0 s1 ∧ vk [] [1700] [] (fun _ => True) s s1 ∧ tTh B g s1 := by
  intro d
  induction d with
  | zero =>
    intro i fu s hi hf hM hT
    obtain ⟨fu, rfl⟩ : ∃ q, fu = q + 1 := ⟨fu - 1, by omega⟩
    refine ⟨s, ?_, vk.refl s, fun w hw => hT w (by omega)⟩
    show ab_X17_furnish_79b _ (B + 639) (nI i) s = _
    unfold ab_X17_furnish_79b
    rw [show (128 : Int32) = nI 128 from rfl, if_pos (nI_le (by omega) (by omega))]
  | succ d ih =>
    intro i fu s hi hf hM hT
    obtain ⟨fu, rfl⟩ : ∃ q, fu = q + 1 := ⟨fu - 1, by omega⟩
    have g6 := hM.2.1.V.1.1.2.2.2.2
    have L := hM.1.L1700
    have k1 : vk [] [1700] [] (fun _ => True) s (vu_A s 1700 (B + 670) i (bI (decide (i < g 6)))) := vk.pA (vk.refl s) (by decide)
    obtain ⟨s1, a1, a2, a3⟩ := ih (i + 1) fu (vu_A s 1700 (B + 670) i (bI (decide (i < g 6)))) (by omega) (by omega) (k1.keep0 (P := rMa B g n) hM) (fun w hw => by
      rw [A_at]
      by_cases z : w = i
      · rw [if_pos z, z]
      · rw [if_neg z]; exact hT w (by omega))
    refine ⟨s1, ?_, k1.trans a2, a3⟩
    rw [← a1]
    show ab_X17_furnish_79b _ (B + 639) (nI i) s = _
    unfold ab_X17_furnish_79b ab_X17_furnish_107
    rw [show (128 : Int32) = nI 128 from rfl, if_neg (nI_ge (by omega) (by omega)), slet, hM.1.P1804, r_wallN hM.2.1 hM.1.P1801, vbs]
    by_cases c : i < g 6
    · rw [if_neg (nI_ge (by omega) (by omega)), show (1 : Int32) = bI true from rfl, nar_b, vs_I_ok (by omega) (by omega), obs, decide_eq_true c]
      show ab_X17_furnish_79 fu (B + 639) (nI i + 1) _ = _
      rw [nI_1]
    · rw [if_pos (nI_le (by omega) (by omega)), show vp_nar .boolean 0 = bI false from rfl, vs_I_ok (by omega) (by omega), obs, decide_eq_false c]
      show ab_X17_furnish_79 fu (B + 639) (nI i + 1) _ = _
      rw [nI_1]
theorem nbS_symm {k W t : Nat} (h : nbS g k W t) : nbS g t W k := by
  obtain ⟨w, h1, h2, h3, h4⟩ := h
  refine ⟨w, h1, h2, h3, ?_⟩
  rcases h4 with ⟨x, y⟩ | ⟨x, y⟩
  · exact Or.inr ⟨y.symm, x.symm⟩
  · exact Or.inl ⟨y.symm, x.symm⟩
def hJn (B : Nat) (g : Nat → Nat) (W : Nat) (s : vt_S) : Prop := vt_I s 1400 (B + 656) = nI (g 5) ∧ ∀ a b, a < g 5 → b < g 5 → (vt_A s 1406 (B + 656) (32 * a + b) ≠ 0 ↔ nbS g a W b)
theorem r_isSc {s : vt_S} {a N : Nat} (h : vt_I s 1400 (B + 656) = nI N) (ha : a < N) (hN : N ≤ 32) : ab_X13_isSector (B + 656) (nI a) s = some (1, s) := by
  unfold ab_X13_isSector ab_X13_isSector_17
  rw [if_neg (nI_pos (by omega)), slet, h, if_neg (nI_ge (by omega) (by omega))]
  rfl
theorem r_join {s : vt_S} {w : Nat} (hS : rS B s) (h5 : g 5 ≤ 32) (hb : g (wlp g w + 3) ≠ 255) (h2 : g (wlp g w + 2) < g 5) (h3 : g (wlp g w + 3) < g 5) (h : hJn B g w s) : ∃ r s1, ab_X13_join (B + 656) (nI (g (wlp g w + 2))) (nI (g (wlp g w + 3))) s = some (r, s1) ∧ hJn B g (w + 1) s1 := by
  have nW : ∀ k t, nbW g k w t ↔ g (wlp g w + 2) ≠ g (wlp g w + 3) ∧ ((g (wlp g w + 2) = k ∧ t = g (wlp g w + 3)) ∨ (g (wlp g w + 3) = k ∧ t = g (wlp g w + 2))) := fun k t => ⟨fun z => z.2, fun z => ⟨hb, z⟩⟩
  generalize g (wlp g w + 2) = a at *
  generalize g (wlp g w + 3) = b at *
  have L := hS.L1406
  have same : (∀ k t, nbW g k w t → nbS g k w t) → hJn B g (w + 1) s := by
    intro z
    refine ⟨h.1, fun x y hx hy => ?_⟩
    rw [h.2 x y hx hy, nbS_succ]
    exact ⟨Or.inl, fun q => q.elim id (z x y)⟩
  unfold ab_X13_join ab_X13_join_35
  rw [r_isSc h.1 h2 h5, vbs, if_neg (by decide), r_isSc h.1 h3 h5, vbs, if_neg (by decide)]
  by_cases c : a = b
  · rw [if_pos (by rw [c])]
    exact ⟨0, s, rfl, same (fun k t z => absurd c ((nW k t).mp z).1)⟩
  rw [if_neg (fun z => c ((nI_eq (by omega) (by omega)).mp z)), show (32 : Int32) = nI 32 from rfl, pk_mul, pk_mul, nI_add, nI_add, vl_I_ok (by omega) (by omega), obs]
  by_cases d : vt_A s 1406 (B + 656) (32 * a + b) = 0
  · rw [if_pos d, show vp_nar .boolean 1 = 1 from rfl, vs_I_ok (by omega) (by omega), obs, vs_I_ok (by show 32 * b + a < vt_L s 1406 (B + 656); omega) (by show vt_L s 1406 (B + 656) < _; omega), obs, slet, slet]
    refine ⟨1, _, rfl, ?_, fun x y hx hy => ?_⟩
    · rw [I_ne (by omega)]; exact h.1
    · rw [A_I, A_at, A_at, nbS_succ, nW]
      by_cases z1 : 32 * x + y = 32 * b + a
      · rw [if_pos z1]
        have : x = b ∧ y = a := by omega
        exact ⟨fun _ => Or.inr ⟨c, Or.inr ⟨this.1.symm, this.2⟩⟩, fun _ => by decide⟩
      · rw [if_neg z1]
        by_cases z2 : 32 * x + y = 32 * a + b
        · rw [if_pos z2]
          have : x = a ∧ y = b := by omega
          exact ⟨fun _ => Or.inr ⟨c, Or.inl ⟨this.1.symm, this.2⟩⟩, fun _ => by decide⟩
        · rw [if_neg z2, h.2 x y hx hy]
          refine ⟨Or.inl, fun q => q.elim id (fun q => ?_)⟩
          rcases q.2 with ⟨q1, q2⟩ | ⟨q1, q2⟩
          · exact absurd (by rw [q1, q2]) z2
          · exact absurd (by rw [q1, q2]) z1
  · rw [if_neg d]
    have y := (h.2 a b h2 h3).mp d
    refine ⟨0, s, rfl, same (fun k t z => ?_)⟩
    rcases ((nW k t).mp z).2 with ⟨q1, q2⟩ | ⟨q1, q2⟩
    · rw [← q1, q2]; exact y
    · rw [← q1, q2]; exact nbS_symm y
def tXY (B : Nat) (g : Nat → Nat) (i : Nat) (s : vt_S) : Prop := ∀ w, w < i → vt_A s 1701 (B + 670) w = zI (aX g (wlp g w)) ∧ vt_A s 1702 (B + 670) w = zI (aY g (wlp g w)) ∧ vt_A s 1703 (B + 670) w = zI (bX g (wlp g w)) ∧ vt_A s 1704 (B + 670) w = zI (bY g (wlp g w))
theorem r_f172 {s : vt_S} {w : Nat} {k : Nat → Int32 → vt_S → Option (Unit × vt_S)} {x : Int32} (hw : w < g 6) (hM : rMa B g n s) (hT : tXY B g w s) : ∃ s1, ab_X17_furnish_172 k (B + 639) (nI w) x s = k (B + 639) (nI (w + 1)) s1 ∧ vk [] [1701, 1702, 1703, 1704] [] (fun _ => True) s s1 ∧ tXY B g (w + 1) s1 := by
  have g6 := hM.2.1.V.1.1.2.2.2.2
  obtain ⟨wv, wn⟩ := hM.2.1.V.1.2.2.2.2.2 w hw
  have w0 := rm_wall hM.2.1 hw (k := 0) (by omega)
  have w1 := rm_wall hM.2.1 hw (k := 1) (by omega)
  have e0 : wP g (wlp g w) 0 = g (wlp g w) := rfl
  have e1 : wP g (wlp g w) 1 = g (wlp g w + 1) := rfl
  rw [e0] at w0
  rw [e1] at w1
  have x0 := rm_vertex hM.2.1 wv.1
  have x1 := rm_vertex hM.2.1 wv.2.1
  have L1 := hM.1.L1701
  have L2 := hM.1.L1702
  have L3 := hM.1.L1703
  have L4 := hM.1.L1704
  have eL : ∀ f a v t, vt_L (vu_A t f a w v) = vt_L t := fun _ _ _ _ => Eq.trans rfl rfl
  obtain ⟨t1, h1⟩ : ∃ t, t = vu_A s 1701 (B + 670) w (zI (aX g (wlp g w))) := ⟨_, rfl⟩
  have k1 : vk [] [1701, 1702, 1703, 1704] [] (fun _ => True) s t1 := by rw [h1]; exact vk.pA (vk.refl s) (by decide)
  have m1 : rMa B g n t1 := k1.keep0 (P := rMa B g n) hM
  obtain ⟨t2, h2⟩ : ∃ t, t = vu_A t1 1702 (B + 670) w (zI (aY g (wlp g w))) := ⟨_, rfl⟩
  have k2 : vk [] [1701, 1702, 1703, 1704] [] (fun _ => True) s t2 := by rw [h2]; exact vk.pA k1 (by decide)
  have m2 : rMa B g n t2 := k2.keep0 (P := rMa B g n) hM
  obtain ⟨t3, h3⟩ : ∃ t, t = vu_A t2 1703 (B + 670) w (zI (bX g (wlp g w))) := ⟨_, rfl⟩
  have k3 : vk [] [1701, 1702, 1703, 1704] [] (fun _ => True) s t3 := by rw [h3]; exact vk.pA k2 (by decide)
  have m3 : rMa B g n t3 := k3.keep0 (P := rMa B g n) hM
  obtain ⟨t4, h4⟩ : ∃ t, t = vu_A t3 1704 (B + 670) w (zI (bY g (wlp g w))) := ⟨_, rfl⟩
  have k4 : vk [] [1701, 1702, 1703, 1704] [] (fun _ => True) s t4 := by rw [h4]; exact vk.pA k3 (by decide)
  have y0 := rm_wall m1.2.1 hw (k := 0) (by omega)
  have y1 := rm_wall m2.2.1 hw (k := 1) (by omega)
  have y2 := rm_wall m3.2.1 hw (k := 1) (by omega)
  rw [e0] at y0
  rw [e1] at y1 y2
  have v1 : vt_L t1 1702 (B + 670) = 128 := m1.1.L1702
  have v2 : vt_L t2 1703 (B + 670) = 128 := m2.1.L1703
  have v3 : vt_L t3 1704 (B + 670) = 128 := m3.1.L1704
  refine ⟨t4, ?_, k4, fun j hj => ?_⟩
  · unfold ab_X17_furnish_172
    rw [slet, slet, slet, hM.1.P1804, hM.1.P1801, show (0 : Int32) = nI 0 from rfl, w0, vbs, x0.1, vbs, vs_I_ok (by omega) (by omega), obs]
    rw [show zI (vX g (g (wlp g w))) = zI (aX g (wlp g w)) from rfl, ← h1, slet, slet, slet, m1.1.P1804, m1.1.P1801, y0, vbs, show nI 0 = 0 from rfl, (rm_vertex m1.2.1 wv.1).2, vbs, vs_I_ok (by omega) (by omega), obs]
    rw [show zI (vY g (g (wlp g w))) = zI (aY g (wlp g w)) from rfl, ← h2, slet, slet, slet, m2.1.P1804, m2.1.P1801, show (1 : Int32) = nI 1 from rfl, y1, vbs]
    rw [show nI 1 = 1 from rfl, (rm_vertex m2.2.1 wv.2.1).1, vbs, vs_I_ok (by omega) (by omega), obs]
    rw [show zI (vX g (g (wlp g w + 1))) = zI (bX g (wlp g w)) from rfl, ← h3, slet, slet, slet, m3.1.P1804, m3.1.P1801, show (1 : Int32) = nI 1 from rfl, y2, vbs, (rm_vertex m3.2.1 wv.2.1).2, vbs, vs_I_ok (by omega) (by omega), obs]
    rw [show zI (vY g (g (wlp g w + 1))) = zI (bY g (wlp g w)) from rfl, ← h4]
    show k (B + 639) (nI w + 1) t4 = _
    rw [nI_1]
  · rw [h4, A_nf (show 1701 ≠ 1704 by decide), A_nf (show 1702 ≠ 1704 by decide), A_nf (show 1703 ≠ 1704 by decide), A_at, h3, A_nf (show 1701 ≠ 1703 by decide), A_nf (show 1702 ≠ 1703 by decide), A_at, h2, A_nf (show 1701 ≠ 1702 by decide), A_at, h1, A_at, A_nf (show 1704 ≠ 1703 by decide), A_nf (show 1704 ≠ 1702 by decide), A_nf (show 1704 ≠ 1701 by decide), A_nf (show 1703 ≠ 1702 by decide), A_nf (show 1703 ≠ 1701 by decide), A_nf (show 1702 ≠ 1701 by decide)]
    by_cases z : j = w
    · rw [if_pos z, if_pos z, if_pos z, if_pos z, z]; exact ⟨rfl, rfl, rfl, rfl⟩
    · rw [if_neg z, if_neg z, if_neg z, if_neg z]; exact hT j (by omega)
end FM
