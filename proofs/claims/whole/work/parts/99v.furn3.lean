-- THE HALL is furnished, and the reference's map is read
section FO
variable {B n : Nat} {g : Nat → Nat}
def fwW : List Nat := [1701, 1702, 1703, 1704]
theorem r_fwall : ∀ (d i fu : Nat) (s : vt_S), i + d = g 6 → d < fu → rMa B g n s → hJn B g i s → tXY B g i s → ∃ s1, ab_X17_furnish_116 fu (B + 639) (nI i) s = some ((), s1) ∧ vk [1407, 1705] [1406, 1701, 1702, 1703, 1704] [] (fun _ => True) s s1 ∧ hJn B g (g 6) s1 ∧ tXY B g (g 6) s1 ∧ vt_I s1 1705 (B + 670) = 0 := by
  intro d
  induction d with
  | zero =>
    intro i fu s hi hf hM hJ hT
    obtain ⟨fu, rfl⟩ : ∃ q, fu = q + 1 := ⟨fu - 1, by omega⟩
    have g6 := hM.2.1.V.1.1.2.2.2.2
    have e : i = g 6 := by omega
    rw [e] at hJ hT ⊢
    have k1 : vk [1407, 1705] [1406, 1701, 1702, 1703, 1704] [] (fun _ => True) s (vu_I s 1705 (B + 670) 0) := vk.pI (vk.refl s) (by decide)
    refine ⟨vu_I s 1705 (B + 670) 0, ?_, k1, ⟨by rw [I_ne (by omega)]; exact hJ.1, hJ.2⟩, hT, I_at⟩
    show ab_X17_furnish_116b _ (B + 639) (nI (g 6)) s = _
    unfold ab_X17_furnish_116b vq_Z
    rw [r_wallN hM.2.1 hM.1.P1801, vbs, if_pos (nI_le (Nat.le_refl _) (by omega)), slet, hM.1.P1804, if_pos (Or.inl rfl), obs]
  | succ d ih =>
    intro i fu s hi hf hM hJ hT
    obtain ⟨fu, rfl⟩ : ∃ q, fu = q + 1 := ⟨fu - 1, by omega⟩
    have g6 := hM.2.1.V.1.1.2.2.2.2
    have g5 := hM.2.1.V.1.1.2.2.2.1
    have hw : i < g 6 := by omega
    obtain ⟨wv, wn⟩ := hM.2.1.V.1.2.2.2.2.2 i hw
    have b3 := (hM.2.1.2.2.2.1 (wlp g i + 3) (by omega)).2
    have w2 := rm_wall hM.2.1 hw (k := 2) (by omega)
    have w3 := rm_wall hM.2.1 hw (k := 3) (by omega)
    rw [show wP g (wlp g i) 2 = g (wlp g i + 2) from rfl] at w2
    rw [show wP g (wlp g i) 3 = g (wlp g i + 3) from rfl] at w3
    have step : ∀ (t : vt_S) (x : Int32), vk [1407, 1705] [1406, 1701, 1702, 1703, 1704] [] (fun _ => True) s t → hJn B g (i + 1) t → tXY B g i t → ab_X17_furnish_116 (fu + 1) (B + 639) (nI i) s = ab_X17_furnish_172 (ab_X17_furnish_116 fu) (B + 639) (nI i) x t → ∃ s1, ab_X17_furnish_116 (fu + 1) (B + 639) (nI i) s = some ((), s1) ∧ vk [1407, 1705] [1406, 1701, 1702, 1703, 1704] [] (fun _ => True) s s1 ∧ hJn B g (g 6) s1 ∧ tXY B g (g 6) s1 ∧ vt_I s1 1705 (B + 670) = 0 := by
      intro t x kt hJt hTt e
      have mt : rMa B g n t := kt.keep0 (P := rMa B g n) hM
      obtain ⟨t2, b1, b2, b3⟩ := r_f172 (k := ab_X17_furnish_116 fu) (x := x) hw mt hTt
      have m2 : rMa B g n t2 := b2.keep0 (P := rMa B g n) mt
      obtain ⟨s1, c1, c2, c3, c4, c5⟩ := ih (i + 1) fu t2 (by omega) (by omega) m2 (b2.keep0 (P := hJn B g (i + 1)) hJt) b3
      exact ⟨s1, by rw [e, b1, c1], (kt.trans (b2.weak (by decide) (by decide) (by decide))).trans c2, c3, c4, c5⟩
    have e0 : ab_X17_furnish_116 (fu + 1) (B + 639) (nI i) s = if nI (g (wlp g i + 3)) = 255 then ab_X17_furnish_171 (ab_X17_furnish_116 fu) (B + 639) (nI i) s else vt_b (ab_X13_join (B + 656) (nI (g (wlp g i + 2))) (nI (g (wlp g i + 3))) s) fun r15 h16 => if r15 = 0 then ab_X17_furnish_171 (ab_X17_furnish_116 fu) (B + 639) (nI i) h16 else ab_X17_furnish_172 (ab_X17_furnish_116 fu) (B + 639) (nI i) 1 h16 := by
      show ab_X17_furnish_116b _ (B + 639) (nI i) s = _
      unfold ab_X17_furnish_116b
      rw [r_wallN hM.2.1 hM.1.P1801, vbs, if_neg (nI_ge (by omega) (by omega)), slet, hM.1.P1801, show (3 : Int32) = nI 3 from rfl, w3, vbs, slet, slet, hM.1.P1803, hM.1.P1801, show (2 : Int32) = nI 2 from rfl, w2, vbs, slet, hM.1.P1801, w3, vbs]
    by_cases c : g (wlp g i + 3) = 255
    · rw [if_pos (by rw [c]; rfl)] at e0
      refine step s 0 (vk.refl s) ⟨hJ.1, fun a b ha hb => ?_⟩ hT e0
      rw [hJ.2 a b ha hb, nbS_succ]
      exact ⟨Or.inl, fun z => z.elim id (fun y => absurd c y.1)⟩
    · have n255 : ¬ nI (g (wlp g i + 3)) = 255 := fun z => c (by rwa [show (255 : Int32) = nI 255 from rfl, nI_eq (by omega) (by omega)] at z)
      have h3 : g (wlp g i + 3) < g 5 := by
        have := wv.2.2.2.2.1
        omega
      obtain ⟨r, t, j1, j2⟩ := r_join (w := i) hM.1 g5 c wv.2.2.2.1 h3 hJ
      have kj := (vk_X13_join vclT trivial j1).1
      have kt : vk [1407, 1705] [1406, 1701, 1702, 1703, 1704] [] (fun _ => True) s t := kj.weak (by decide) (by decide) (by decide)
      rw [if_neg n255, j1, vbs] at e0
      have hTt : tXY B g i t := kj.keep0 (P := tXY B g i) hT
      by_cases d0 : r = 0
      · rw [if_pos d0] at e0
        exact step t 0 kt j2 hTt e0
      · rw [if_neg d0] at e0
        exact step t 1 kt j2 hTt e0
theorem r_furnish {s : vt_S} (hM : rMa B g n s) : ∃ s1, ab_X17_furnish (B + 639) s = some ((), s1) ∧ rMa B g n s1 ∧ rHal B g s1 ∧ rTr B g (g 6) s1 ∧ tTh B g s1 ∧ vt_I s1 1705 (B + 670) = 0 := by
  have g6 := hM.2.1.V.1.1.2.2.2.2
  have g5 := hM.2.1.V.1.1.2.2.2.1
  obtain ⟨s1, a1, a2, a3⟩ := r_clear hM.1
  have k1 := (vk_X13_clear vclT trivial a1).1
  obtain ⟨s2, b1, b2, b3, b4⟩ := r_fsec (B := B) (g := g) (n := n) (g 5) 0 sv_fuel s1 (by omega) (fuel_ge (by omega)) (k1.keep0 (P := rMa B g n) hM) ⟨a2, fun j hj => absurd hj (by omega)⟩ a3
  obtain ⟨s3, c1, c2, c3⟩ := r_fthere (B := B) (g := g) (n := n) 128 0 sv_fuel s2 (by omega) (fuel_ge (by omega)) b2 (fun w hw => absurd hw (by omega))
  have m3 : rMa B g n s3 := c2.keep0 (P := rMa B g n) b2
  have p3 : hPl B g (g 5) s3 := c2.keep0 (P := hPl B g (g 5)) b3
  have n3 : hNo B s3 := c2.keep0 (P := hNo B) b4
  have j3 : hJn B g 0 s3 := ⟨p3.1, fun a b ha hb => by
    rw [n3 (32 * a + b) (by omega)]
    exact ⟨fun z => absurd rfl z, fun ⟨w, z, _⟩ => absurd z (by omega)⟩⟩
  obtain ⟨s4, d1, d2, d3, d4, d5⟩ := r_fwall (B := B) (g := g) (n := n) (g 6) 0 sv_fuel s3 (by omega) (fuel_ge (by omega)) m3 j3 (fun w hw => absurd hw (by omega))
  have m4 : rMa B g n s4 := d2.keep0 (P := rMa B g n) m3
  have p4 : hPl B g (g 5) s4 := d2.keep0 (P := hPl B g (g 5)) p3
  have t4 : tTh B g s4 := d2.keep0 (P := tTh B g) c3
  refine ⟨s4, ?_, m4, ⟨⟨d3.1, g5, m4.1.L1406, d3.2, ?_⟩, ⟨m4.1.L1408, m4.1.L1409, m4.1.L1410, m4.1.L1411, m4.1.L1412, m4.1.L1413, m4.1.L1414⟩, ⟨m4.1.L1401, m4.1.L1402, m4.1.L1403, m4.1.L1404, m4.1.L1405⟩, p4.2⟩, ⟨m4.1.P1804, g6, ⟨m4.1.L1701, m4.1.L1702, m4.1.L1703, m4.1.L1704⟩, d4⟩, t4, d5⟩
  · unfold ab_X17_furnish
    rw [slet, hM.1.P1803, a1, vbs, show (0 : Int32) = nI 0 from rfl, b1, show (0 : Int32) = nI 0 from rfl, c1, show (0 : Int32) = nI 0 from rfl, d1]
  · intro a b hab
    obtain ⟨w, hw, x1, x2, x3⟩ := hab
    have wv := (hM.2.1.V.1.2.2.2.2.2 w hw).1
    have y1 := wv.2.2.2.1
    have y2 := wv.2.2.2.2.1
    rcases x3 with ⟨-, x⟩ | ⟨-, x⟩
    · rw [x]; omega
    · rw [x]; exact y1
theorem LuS.fp {s : vt_S} {st : PE} (h : LuS B g n st s) : vt_I s 1504 (B + 640) = fz st ∧ vt_I s 1505 (B + 640) = pz st := by
  cases st with
  | ok p => exact ⟨h.2.2.2.1, h.2.2.2.2.1⟩
  | error e => exact ⟨h.2.2.2.1, h.2.2.2.2.2.2⟩
def pMp (g : Nat → Nat) (n : Nat) : PE := pMap (ovR g (wlp g 0)) g n
theorem r_cpm : ∀ (d i fu : Nat) (s : vt_S), i + d = n → d < fu → rIn B s g n → vt_L s 1500 (B + 640) = 8192 → vt_L s 1502 (B + 640) = 8192 → vt_I s 1504 (B + 640) = 0 → (∀ j, j < i → vt_A s 1502 (B + 640) j = zI (sg8 (g j))) → ∃ s1, ab_X14_read_43 fu (B + 640) (nI i) s = some (0, s1) ∧ vt_I s1 1503 (B + 640) = nI n ∧ (∀ j, j < n → vt_A s1 1502 (B + 640) j = zI (sg8 (g j))) ∧ vk [1503] [1502] [] (fun _ => True) s s1 := by
  intro d
  induction d with
  | zero =>
    intro i fu s hi hf hI l1 l2 h4 hA
    obtain ⟨fu, rfl⟩ : ∃ q, fu = q + 1 := ⟨fu - 1, by omega⟩
    have n8 := hI.2.1
    refine ⟨vu_I s 1503 (B + 640) (nI n), ?_, I_at, fun j hj => hA j (by omega), vk.pI (vk.refl s) (by decide)⟩
    show ab_X14_read_43b _ (B + 640) (nI i) s = _
    unfold ab_X14_read_43b ab_X14_read_77
    rw [slet, hI.1, if_pos (nI_le (by omega) (by omega)), slet, slet, slet, I_ne (by omega), h4]
  | succ d ih =>
    intro i fu s hi hf hI l1 l2 h4 hA
    obtain ⟨fu, rfl⟩ : ∃ q, fu = q + 1 := ⟨fu - 1, by omega⟩
    have n8 := hI.2.1
    obtain ⟨x1, x2⟩ := hI.2.2 i (by omega)
    have k1 : vk [1503] [1502] [] (fun _ => True) s (vu_A s 1502 (B + 640) i (zI (sg8 (g i)))) := vk.pA (vk.refl s) (by decide)
    obtain ⟨s1, a1, a2, a3, a4⟩ := ih (i + 1) fu (vu_A s 1502 (B + 640) i (zI (sg8 (g i)))) (by omega) (by omega) (k1.keep0 (P := fun t => rIn B t g n) hI) (k1.keep0 (P := fun t => vt_L t 1500 (B + 640) = 8192) l1) (k1.keep0 (P := fun t => vt_L t 1502 (B + 640) = 8192) l2) (k1.keep0 (P := fun t => vt_I t 1504 (B + 640) = 0) h4) (fun j hj => by
      rw [A_at]
      by_cases z : j = i
      · rw [if_pos z, z]
      · rw [if_neg z]; exact hA j (by omega))
    refine ⟨s1, ?_, a2, a3, k1.trans a4⟩
    show ab_X14_read_43b _ (B + 640) (nI i) s = _
    unfold ab_X14_read_43b
    rw [slet, hI.1, if_neg (nI_ge (by omega) (by omega)), vl_I_ok (by omega) (by omega), obs, x1, nar_byte, sg8_sg8, vs_I_ok (by omega) (by omega), obs, nI_1]
    exact a1
theorem r_readMap {s : vt_S} (hS : rS B s) (hI : rIn B s g n) : ∃ s1, ab_X14_read (B + 640) s = some (fz (pMp g n), s1) ∧ vt_I s1 1505 (B + 640) = pz (pMp g n) ∧ (∀ q, pMp g n = .ok q → rMap B g n s1) ∧ (∀ e, pMp g n = .error e → (e.1 ≠ 0 ∧ e.1 < 100) ∧ vk [1504, 1505, 1506, 1507, 1508, 1509] [] [] (fun _ => True) s s1) := by
  obtain ⟨t, ht⟩ : ∃ t, t = vu_I (vu_I (vu_I (vu_I (vu_I (vu_I s 1507 (B + 640) 0) 1508 (B + 640) 0) 1509 (B + 640) 0) 1504 (B + 640) 0) 1505 (B + 640) (-1)) 1506 (B + 640) (-1) := ⟨_, rfl⟩
  have k0 : vk [1504, 1505, 1506, 1507, 1508, 1509] [] [] (fun _ => True) s t := by rw [ht]; exact vk.pI (vk.pI (vk.pI (vk.pI (vk.pI (vk.pI (vk.refl s) (by decide)) (by decide)) (by decide)) (by decide)) (by decide)) (by decide)
  have hT : LuS B g n (.ok 0) t := by
    refine ⟨k0.keep0 (P := fun t => rIn B t g n) hI, k0.keep0 (P := fun t => vt_L t 1500 (B + 640) = 8192) hS.L1500, ⟨0, ?_⟩, ?_, ?_, ?_, Nat.zero_le _, ?_, ?_⟩
    · rw [ht, I_ne (by omega), I_ne (by omega), I_ne (by omega), I_ne (by omega), I_ne (by omega), I_at]; rfl
    · rw [ht, I_ne (by omega), I_ne (by omega), I_at]
    · rw [ht, I_ne (by omega), I_at]
    · rw [ht, I_ne (by omega), I_ne (by omega), I_ne (by omega), I_ne (by omega), I_ne (by omega), I_at]; rfl
    · rw [ht, I_ne (by omega), I_ne (by omega), I_ne (by omega), I_ne (by omega), I_at]; rfl
    · rw [ht, I_ne (by omega), I_ne (by omega), I_ne (by omega), I_at]; rfl
  obtain ⟨s1, a1, a2, -⟩ := r_readAll hT
  have k1 := (vk_X14_readAll vclT trivial a1).1
  have k2 : vk [1504, 1505, 1506, 1507, 1508, 1509] [] [] (fun _ => True) s s1 := k0.trans k1
  have a2 : LuS B g n (pMp g n) s1 := a2
  have e0 : ab_X14_read (B + 640) s = if fz (pMp g n) = 0 then ab_X14_read_43 sv_fuel (B + 640) (nI 0) s1 else ab_X14_read_77 (B + 640) s1 := by
    unfold ab_X14_read
    rw [slet, slet, slet, slet, slet, slet, ← ht, a1, vbs, slet, a2.fp.1]
    rfl
  rw [e0]
  cases hst : pMp g n with
  | error e =>
    rw [hst] at a2
    have e1 : e.1 ≠ 0 ∧ e.1 < 100 := ⟨a2.2.2.2.2.1, a2.2.2.2.2.2.1⟩
    rw [if_neg (show ¬ fz (.error e) = 0 from e_nz e1.1 e1.2)]
    refine ⟨s1, ?_, a2.fp.2, fun q z => (by cases z), fun _ z => (by cases z; exact ⟨e1, k2⟩)⟩
    unfold ab_X14_read_77
    rw [slet, a2.fp.1]
  | ok q =>
    rw [hst] at a2
    rw [if_pos (show fz (.ok q) = 0 from rfl)]
    have hS1 : rS B s1 := k2.keep0 (P := rS B) hS
    obtain ⟨s2, b1, b2, b3, b4⟩ := r_cpm (B := B) (g := g) n 0 sv_fuel s1 (by omega) (fuel_ge (by have := hI.2.1; omega)) a2.1 hS1.L1500 hS1.L1502 a2.2.2.2.1 (fun j hj => absurd hj (by omega))
    refine ⟨s2, b1, ?_, fun r z => ⟨b2, b4.keep0 (P := fun t => vt_L t 1502 (B + 640) = 8192) hS1.L1502, hI.2.1, fun i hi => ⟨b3 i hi, (hI.2.2 i hi).2⟩, map_ok hst⟩, fun _ z => (by cases z)⟩
    rw [b4.eI (by decide)]
    exact a2.fp.2
end FO
