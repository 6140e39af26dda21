-- VIEW: a whole column, both sides
def vRy (k : WK) (a c : Nat) : RY := (k.1, k.2.1, 64 * cosT a + (2 * (c : Int) - 63) * sinT a, 64 * sinT a - (2 * (c : Int) - 63) * cosT a)
def X00 : CX := ((fun _ => 0, fun _ => 0, 0, 48), fun _ => 0, 0)
def viewX (g : Nat → Nat) (D : Nat → SD) (tk : Int32) (k : WK) (a c : Nat) : CX := colG (vRy k a c) g D tk (eyS D k.2.2) (qal (vRy k a c) g).1 (qal (vRy k a c) g).2 0 X00
theorem fA_at (s : vt_S) (f a : Nat) (v : Int32) : vt_A (vf_I s f a v) f a = fun j => if j < vt_L s f a then v else vt_A s f a j := by
  show (if f = f ∧ a = a then _ else vt_A s f a) = _
  rw [if_pos ⟨rfl, rfl⟩]
theorem fA_nf (s : vt_S) {f f' a b : Nat} {v : Int32} (h : f' ≠ f) : vt_A (vf_I s f a v) f' b = vt_A s f' b := by
  show (if f' = f ∧ b = a then _ else vt_A s f' b) = _
  rw [if_neg (fun z => h z.1)]
section VV
variable {B p n : Nat} {g : Nat → Nat} {D : Nat → SD} {k : WK} {a c : Nat} {tk : Int32} {s : vt_S}
theorem mul_rng {u v : Int} (h1 : -63 ≤ u) (h2 : u ≤ 63) (h3 : -256 ≤ v) (h4 : v ≤ 256) : -16128 ≤ u * v ∧ u * v ≤ 16128 := by
  have e : (u * v).natAbs = u.natAbs * v.natAbs := Int.natAbs_mul u v
  have : u.natAbs * v.natAbs ≤ 63 * 256 := Nat.mul_le_mul (by omega) (by omega)
  omega
theorem vRy_rng (ha : a < 64) (hc : c < 64) : (-32512 ≤ (vRy k a c).2.2.1 ∧ (vRy k a c).2.2.1 ≤ 32512) ∧ (-32512 ≤ (vRy k a c).2.2.2 ∧ (vRy k a c).2.2.2 ≤ 32512) := by
  have c1 := cosT_rng a ha
  have s1 := sinT_rng a ha
  have m1 := mul_rng (u := 2 * (c : Int) - 63) (v := sinT a) (by omega) (by omega) s1.1 s1.2
  have m2 := mul_rng (u := 2 * (c : Int) - 63) (v := cosT a) (by omega) (by omega) c1.1 c1.2
  unfold vRy
  dsimp only
  omega
theorem vRy_ok (ok : wkOk g k a) (hc : c < 64) : ryOk (vRy k a c) := by
  obtain ⟨k1, k2, -, ha⟩ := ok
  have r := vRy_rng (k := k) ha hc
  exact ⟨⟨show _ ≤ k.1 by omega, show k.1 ≤ _ by omega⟩, ⟨show _ ≤ k.2.1 by omega, show k.2.1 ≤ _ by omega⟩, by omega, by omega⟩
theorem c_viewZ (hk : cVw B p g n s) (hD : secsC s p (g 5) D) (hw : wkC B s k) (ha : vt_I s 1104 (B + 628) = nI a) (ok : wkOk g k a) (ht : vt_I s 1106 (B + 628) = tk) (hc : c < 64) : ∃ s1, ab_X9_look (B + 629) (B + 628) (nI c) s = some ((), s1) ∧ cX B s1 (viewX g D tk k a c) ∧ (viewX g D tk k a c).2.2 ≤ 128 := by
  have hy := vRy_ok (c := c) ok hc
  have al := ok.2.2.2
  obtain ⟨y, hyy⟩ : ∃ y, y = vRy k a c := ⟨_, rfl⟩
  rw [← hyy] at hy
  obtain ⟨hWk, hrow, h0, l1, l2, l3⟩ := id hk
  have hcm := hWk.2.2.2.2.2.2
  have g6 := hcm.S.2.1
  obtain ⟨s1, a1, a2, a3⟩ := c_aim (y := y) (Y := B + 621) (s := s)
  have k1 : cVw B p g n s1 := a2.keep0 (P := cVw B p g n) hk
  obtain ⟨s2, b1, b2, b3⟩ := c_meetAll (Y := B + 621) (W := g 6) hy (by have := hWk.1; omega) (fun j hj => by have := hWk.1; omega) k1.1.2.2.2.2.1 k1.1.V k1.1.2.2.2.1 a3
  have km := (vk_X3_meetAll vclT trivial trivial b1).1
  have k2 : cVw B p g n s2 := km.keep0 (P := cVw B p g n) k1
  have A2 : aimC s2 (B + 621) y := km.keep0 (P := fun t => aimC t (B + 621) y) a3
  have D2 : secsC s2 p (g 5) D := km.keep0 (P := fun t => secsC t p (g 5) D) (a2.keep0 (P := fun t => secsC t p (g 5) D) hD)
  have w2 : wkC B s2 k := km.keep0 (P := fun t => wkC B t k) (a2.keep0 (P := fun t => wkC B t k) hw)
  have t2 : vt_I s2 1106 (B + 628) = tk := by rw [km.eI (by decide), a2.eI (by decide)]; exact ht
  obtain ⟨s3, hs3⟩ : ∃ u, u = vf_I (vf_I s2 1001 (B + 629) 0) 1002 (B + 629) 0 := ⟨_, rfl⟩
  have kf : vk [] [1001, 1002] [] (fun _ => True) s2 s3 := by
    rw [hs3]
    exact (vw_W (vw_W ⟨vk.refl s2, vclT⟩ (by decide) trivial) (by decide) trivial).1
  have k3 : cVw B p g n s3 := kf.keep0 (P := cVw B p g n) k2
  have D3 : secsC s3 p (g 5) D := kf.keep0 (P := fun t => secsC t p (g 5) D) D2
  have w3 : wkC B s3 k := kf.keep0 (P := fun t => wkC B t k) w2
  have ey := c_eye k3.1 D3 w3 ok.2.2.1
  obtain ⟨s4, hs4⟩ : ∃ u, u = vu_I (vu_I (vu_I (vu_I s3 1005 (B + 629) (eyS D k.2.2)) 1006 (B + 629) 0) 1007 (B + 629) 48) 1004 (B + 629) 0 := ⟨_, rfl⟩
  have k4 : vk [1004, 1005, 1006, 1007] [] [] (fun _ => True) s3 s4 := by rw [hs4]; exact vk.pI (vk.pI (vk.pI (vk.pI (vk.refl s3) (by decide)) (by decide)) (by decide)) (by decide)
  have F0 : ∀ r, r < 48 → vt_A s3 1001 (B + 629) r = 0 ∧ vt_A s3 1002 (B + 629) r = 0 := by
    intro r hr
    have m1 := k2.2.2.2.1
    have m2 := k2.2.2.2.2.1
    rw [hs3]
    constructor
    · rw [fA_nf _ (by decide), fA_at]
      exact if_pos (by omega)
    · rw [fA_at]
      exact if_pos (show r < vt_L s2 1002 (B + 629) by omega)
  have X4 : cX B s4 X00 := by
    refine ⟨fun r hr => ?_, ?_, ?_, ?_, fun j hj => absurd hj (Nat.not_lt_zero j)⟩
    · have e : vt_A s4 = vt_A s3 := by rw [hs4]; exact Eq.trans rfl rfl
      rw [e]; exact F0 r hr
    · rw [hs4, I_ne (by omega), I_ne (by omega), I_at]; rfl
    · rw [hs4, I_ne (by omega), I_at]; rfl
    · rw [hs4, I_at]; rfl
  have y4 : cVy B p g n y (eyS D k.2.2) s4 := ⟨k4.keep0 (P := cVw B p g n) k3, k4.keep0 (P := fun t => aimC t (B + 621) y) (kf.keep0 (P := fun t => aimC t (B + 621) y) A2), by rw [hs4, I_ne (by omega), I_ne (by omega), I_ne (by omega), I_at]⟩
  obtain ⟨qi1, qi2⟩ := qal_in (y := y) (g := g)
  have b3 : rays s2 (B + 621) y g (qal y g) := b3
  obtain ⟨s5, d1, d2, d3, -⟩ := c_look_loop (B := B) (p := p) (n := n) (D := D) (tk := tk) (eye := eyS D k.2.2) (q := qal y g) hy qi1 qi2 (qal y g).2 0 sv_fuel s4 X00 (by omega) (fuel_ge (by omega)) y4 (k4.keep0 (P := fun t => rays t (B + 621) y g (qal y g)) (kf.keep0 (P := fun t => rays t (B + 621) y g (qal y g)) b3)) (k4.keep0 (P := fun t => secsC t p (g 5) D) D3) (by rw [k4.eI (by decide), kf.eI (by intro z; cases z)]; exact t2) X4 (Nat.zero_le _) (Nat.le_refl _) (Nat.le_refl _)
  have eV : viewX g D tk k a c = colG y g D tk (eyS D k.2.2) (qal y g).1 (qal y g).2 0 X00 := by rw [hyy]; rfl
  refine ⟨s5, ?_, by rw [eV]; exact d2, by rw [eV]; omega⟩
  unfold ab_X9_look
  have c1 := cosT_rng a al
  have sr := sinT_rng a al
  have e1 : 64 * zI (cosT a) + (2 * nI c - 63) * zI (sinT a) = zI y.2.2.1 := by
    rw [hyy, nI_z, show (64 : Int32) = zI 64 from rfl, show (2 : Int32) = zI 2 from rfl, show (63 : Int32) = zI 63 from rfl, zI_mul, zI_mul, zI_sub, zI_mul, zI_add]; rfl
  have e2 : 64 * zI (sinT a) - (2 * nI c - 63) * zI (cosT a) = zI y.2.2.2 := by
    rw [hyy, nI_z, show (64 : Int32) = zI 64 from rfl, show (2 : Int32) = zI 2 from rfl, show (63 : Int32) = zI 63 from rfl, zI_mul, zI_mul, zI_sub, zI_mul, zI_sub]; rfl
  have y1 : k.1 = y.1 := by rw [hyy]; rfl
  have y2 : k.2.1 = y.2.1 := by rw [hyy]; rfl
  rw [slet, ha, c_cos s a al, vbs, slet, ha, c_sin s a al, vbs, slet, h0, slet, slet, hw.1, hw.2.1, e1, e2, y1, y2, a1, vbs, slet, k1.2.2.1, slet, k1.1.2.1, b1, vbs, slet, slet, ← hs3, ey, vbs, slet, slet, slet, slet, ← hs4]
  exact d1
theorem r_zero (hk : rVy B g n (vRy k a c) D k.2.2 tk s) {q : (Nat → Nat) × Nat} (hG : gatR B s q) (h3 : vt_I s 1823 (B + 639) = 0) : ∀ (d i fu : Nat) (s : vt_S), i + d = 48 → d < fu → rVy B g n (vRy k a c) D k.2.2 tk s → gatR B s q → vt_I s 1823 (B + 639) = 0 → (∀ r, r < i → vt_A s 1824 (B + 639) r = 0 ∧ vt_A s 1825 (B + 639) r = 0) → ∃ s1, ab_X17_column_81 fu (B + 639) 0 48 (nI i) s = ab_X17_column_113 sv_fuel (B + 639) 0 48 0 s1 ∧ rVy B g n (vRy k a c) D k.2.2 tk s1 ∧ gatR B s1 q ∧ vt_I s1 1823 (B + 639) = 0 ∧ (∀ r, r < 48 → vt_A s1 1824 (B + 639) r = 0 ∧ vt_A s1 1825 (B + 639) r = 0) := by
  intro d
  induction d with
  | zero =>
    intro i fu s hi hf hk hG h3 hA
    obtain ⟨fu, rfl⟩ : ∃ q, fu = q + 1 := ⟨fu - 1, by omega⟩
    refine ⟨s, ?_, hk, hG, h3, fun r hr => hA r (by omega)⟩
    show ab_X17_column_81b _ (B + 639) 0 48 (nI i) s = _
    unfold ab_X17_column_81b
    rw [if_pos (show (48 : Int32) ≤ nI i from nI_le (a := 48) (by omega) (by omega))]
  | succ d ih =>
    intro i fu s hi hf hk hG h3 hA
    obtain ⟨fu, rfl⟩ : ∃ q, fu = q + 1 := ⟨fu - 1, by omega⟩
    have l4 := hk.2.2.2.2.2.1
    have l5 := hk.2.2.2.2.2.2.1
    obtain ⟨t, ht⟩ : ∃ u, u = vu_A (vu_A s 1824 (B + 639) i 0) 1825 (B + 639) i 0 := ⟨_, rfl⟩
    have kt : vk [] [1824, 1825] [] (fun _ => True) s t := by rw [ht]; exact vk.pA (vk.pA (vk.refl s) (by decide)) (by decide)
    obtain ⟨s1, a1, a2⟩ := ih (i + 1) fu t (by omega) (by omega) (kt.keep0 (P := rVy B g n (vRy k a c) D k.2.2 tk) hk) (kt.keep0 (P := fun t => gatR B t q) hG) (by rw [kt.eI (by intro z; cases z)]; exact h3) (fun r hr => by
      rw [ht, A_at, A_nf (show 1824 ≠ 1825 by decide), A_at, A_nf (show 1825 ≠ 1824 by decide)]
      by_cases z : r = i
      · rw [if_pos z, if_pos z]; exact ⟨rfl, rfl⟩
      · rw [if_neg z, if_neg z]; exact hA r (by omega))
    refine ⟨s1, ?_, a2⟩
    rw [← a1]
    show ab_X17_column_81b _ (B + 639) 0 48 (nI i) s = _
    unfold ab_X17_column_81b
    rw [if_neg (show ¬ (48 : Int32) ≤ nI i from nI_ge (b := 48) (by omega) (by omega)), vs_I_ok (by omega) (by omega), obs, vs_I_ok (by show i < vt_L s 1825 (B + 639); omega) (by show vt_L s 1825 (B + 639) < _; omega), obs, ← ht, nI_1]
theorem r_viewZ (hk : rWk B g n s) (hS : rS B s) (hD : secsR s (B + 656) (g 5) D) (hv : ∀ j, j < g 5 → sdOk (D j)) (hw : wkR B s k) (ha : vt_I s 1813 (B + 639) = nI a) (ok : wkOk g k a) (ht : hTk B s = tk) (hc : c < 64) : ∃ s1, ab_X17_column (B + 639) (nI c) s = some ((), s1) ∧ rX B s1 (viewX g D tk k a c) := by
  have hy := vRy_ok (c := c) ok hc
  have al := ok.2.2.2
  have c1 := cosT_rng a al
  have sr := sinT_rng a al
  have rr := vRy_rng (k := k) al hc
  obtain ⟨s0, s1, b1, b2, b3⟩ := r_gather (y := vRy k a c) hy hk.1 hk.2.2.2.1 hk.2.2.2.2.2.1 hk.2.2.1 hw.1 hw.2.1
  have kg := (vk_X17_gather vclT trivial b1).1
  obtain ⟨s2, hs2⟩ : ∃ u, u = vu_I s1 1823 (B + 639) 0 := ⟨_, rfl⟩
  have k2 : vk [1815, 1816, 1817, 1818, 1819, 1821, 1823, 1827, 1828] [1820] [] (fun _ => True) s s2 := by rw [hs2]; exact vk.pI (kg.weak (by decide) (by decide) (by decide)) (by decide)
  have k12 : vk [1823] [] [] (fun _ => True) s1 s2 := by rw [hs2]; exact vk.pI (vk.refl s1) (by decide)
  have S2 : rS B s2 := k2.keep0 (P := rS B) hS
  have y2 : rVy B g n (vRy k a c) D k.2.2 tk s2 := ⟨k2.keep0 (P := rWk B g n) hk, k12.keep0 (P := fun t => aimR B t (vRy k a c)) b3.2.1, k2.keep0 (P := fun t => secsR t (B + 656) (g 5) D) hD, by rw [k2.eI (by decide)]; exact hw.2.2, k2.keep0 (P := fun t => hTk B t = tk) ht, S2.L1824, S2.L1825, S2.L1822⟩
  have G2 : gatR B s2 (qal (vRy k a c) g) := k12.keep0 (P := fun t => gatR B t (qal (vRy k a c) g)) b3.2.2
  have z3 : vt_I s2 1823 (B + 639) = 0 := by rw [hs2, I_at]
  obtain ⟨s3, d1, d2, d3, d4, d5⟩ := r_zero y2 G2 z3 48 0 sv_fuel s2 (by omega) (fuel_ge (by omega)) y2 G2 z3 (fun r hr => absurd hr (by omega))
  obtain ⟨qi1, qi2⟩ := qal_in (y := vRy k a c) (g := g)
  have g6 := hk.C.S.2.1
  obtain ⟨s4, e1, e2⟩ := r_look_loop (B := B) (n := n) (D := D) (tk := tk) (q := qal (vRy k a c) g) hy hv ok.2.2.1 qi1 qi2 (qal (vRy k a c) g).2 0 sv_fuel s3 X00 (by omega) (fuel_ge (by omega)) d2 d3 ⟨d5, d4, fun j hj => absurd hj (Nat.not_lt_zero j)⟩ (Nat.zero_le _) (Nat.le_refl _) (Nat.le_refl _)
  refine ⟨s4, ?_, e2⟩
  have e64 : ∀ u : Int, -1000 ≤ u → u ≤ 1000 → Int32.toInt64 (zI u) = zL u := fun u h1 h2 => zI_wide (by omega) (by omega)
  have g1 : 64 * Int32.toInt64 (zI (cosT a)) + (2 * Int32.toInt64 (nI c) - 63) * Int32.toInt64 (zI (sinT a)) = zL (vRy k a c).2.2.1 := by
    rw [nI_z, e64 _ (by omega) (by omega), e64 _ (by omega) (by omega), e64 _ (by omega) (by omega), show (64 : Int64) = zL 64 from rfl, show (2 : Int64) = zL 2 from rfl, show (63 : Int64) = zL 63 from rfl, zL_mul, zL_mul, zL_sub, zL_mul, zL_add]; rfl
  have g2 : 64 * Int32.toInt64 (zI (sinT a)) - (2 * Int32.toInt64 (nI c) - 63) * Int32.toInt64 (zI (cosT a)) = zL (vRy k a c).2.2.2 := by
    rw [nI_z, e64 _ (by omega) (by omega), e64 _ (by omega) (by omega), e64 _ (by omega) (by omega), show (64 : Int64) = zL 64 from rfl, show (2 : Int64) = zL 2 from rfl, show (63 : Int64) = zL 63 from rfl, zL_mul, zL_mul, zL_sub, zL_mul, zL_sub]; rfl
  unfold ab_X17_column
  rw [slet, ha, r_cos s a al, vbs, slet, ha, r_sin s a al, vbs, slet, ha, r_sin s a al, vbs, slet, ha, r_cos s a al, vbs, g1, g2, b1, vbs, slet, ← hs2]
  have d1 : ab_X17_column_81 sv_fuel (B + 639) 0 48 0 s2 = _ := d1
  rw [d1]
  exact e1
end VV
