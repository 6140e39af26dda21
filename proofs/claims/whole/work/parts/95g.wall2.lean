section PW2
variable {B : Nat} {g : Nat → Nat} {n p : Nat}
theorem in_rng2 {st : PE} {lo hi top : Int} (h : lo ≤ top) (ht : hi ≤ top) : lo ≤ vOf (pbd st (pIn g n lo hi)) (fun q => g (q - 1)) lo ∧ vOf (pbd st (pIn g n lo hi)) (fun q => g (q - 1)) lo ≤ top := by
  refine vOf_rng (fun q hq => ?_) (by omega) h
  obtain ⟨r, -, h2⟩ := pbd_ok hq
  obtain ⟨-, b2, b3, b4⟩ := pIn_ok h2
  subst b2
  exact ⟨b3, by rw [show r + 1 - 1 = r by omega]; omega⟩
set_option maxHeartbeats 4000000 in
theorem c_wall {x V T S : Nat} {s : vt_S} {st : PE} (h5 : x ≠ B + 5) (h1 : x ≠ B + 1) (hp5 : p ≠ B + 5) (hpx : p ≠ x) (hT : T ≤ 255) (hV : V ≤ 128) (hS : S ≤ 255) (hp : pS p s) (hL : vt_L s 1211 x = 6) (hv : vt_I s 309 p = nI V) (ht : vt_I s 310 p = nI T) (hs : vt_I s 311 p = nI S) (h : RdS B g n st s) (hb : ∀ i, i < n → g i < 256)
    (hd : ∀ q, st = .ok q → 7 ≤ q ∧ ∀ j, j < V → vt_A s 302 p j = zI (pr g (7 + 4 * j)) ∧ vt_A s 303 p j = zI (pr g (9 + 4 * j))) :
    ∃ s1, ab_X2_readWall p (B + 5) x s = some ((), s1) ∧ RdS B g n (pbd st (pWall g n V T S)) s1 ∧ onl (fun a => a = B + 5 ∨ a = x) s s1 ∧ (∀ q0 q, st = .ok q0 → pbd st (pWall g n V T S) = .ok q → wallF s1 x g q0) := by
  have L2 := hp.L302
  have L3 := hp.L303
  have npx : ¬ (p = B + 5 ∨ p = x) := fun z => z.elim hp5 hpx
  obtain ⟨s1, a1, a2, a3⟩ := rd_within h 0 ((V : Int) - 1) (by omega) (by omega) (by omega) (by omega)
  have xr := in_rng2 (g := g) (n := n) (st := st) (lo := 0) (hi := (V : Int) - 1) (top := 127) (by omega) (by omega)
  obtain ⟨v1, hv1⟩ : ∃ v, v = vOf (pbd st (pIn g n 0 ((V : Int) - 1))) (fun q => g (q - 1)) 0 := ⟨_, rfl⟩
  rw [← hv1] at a1 xr
  obtain ⟨at_, t1, t2, t3⟩ := rd_next a2
  obtain ⟨s2, b1, b2, b3⟩ := rd_within a2 0 ((V : Int) - 1) (by omega) (by omega) (by omega) (by omega)
  have yr := in_rng2 (g := g) (n := n) (st := pbd st (pIn g n 0 ((V : Int) - 1))) (lo := 0) (hi := (V : Int) - 1) (top := 127) (by omega) (by omega)
  obtain ⟨v2, hv2⟩ : ∃ v, v = vOf (pbd (pbd st (pIn g n 0 ((V : Int) - 1))) (pIn g n 0 ((V : Int) - 1))) (fun q => g (q - 1)) 0 := ⟨_, rfl⟩
  rw [← hv2] at b1 yr
  have o2 := a3.trans b3
  obtain ⟨s3, f1, f2, f3⟩ : ∃ s3, (if zI v1 = zI v2 then vt_b (ab_X4_blame (B + 5) 3 (nI at_) s2) fun _ h8 => ab_X2_readWall_44 p (B + 5) x (zI v1) (zI v2) h8 else ab_X2_readWall_44 p (B + 5) x (zI v1) (zI v2) s2) = ab_X2_readWall_44 p (B + 5) x (zI v1) (zI v2) s3 ∧ RdS B g n (pbd (pbd (pbd st (pIn g n 0 ((V : Int) - 1))) (pIn g n 0 ((V : Int) - 1))) (fun q => pIf (decide (g (q - 2) = g (q - 1))) (3, q - 1) q)) s3 ∧ onl (· = B + 5) s2 s3 := by
    have key : (pbd (pbd (pbd st (pIn g n 0 ((V : Int) - 1))) (pIn g n 0 ((V : Int) - 1))) (fun q => pIf (decide (g (q - 2) = g (q - 1))) (3, q - 1) q)) = pbd (pbd (pbd st (pIn g n 0 ((V : Int) - 1))) (pIn g n 0 ((V : Int) - 1))) (fun q => pIf (decide (v1 = v2)) (3, at_) q) := by
      cases z : pbd (pbd st (pIn g n 0 ((V : Int) - 1))) (pIn g n 0 ((V : Int) - 1)) with
      | error e => simp only [pbd]
      | ok q2 =>
        obtain ⟨q1, z1, z2⟩ := pbd_ok z
        obtain ⟨u1, u2, -⟩ := pIn_ok z2
        have w1 : v1 = g (q1 - 1) := by rw [hv1, z1]; simp only [vOf]
        have w2 : v2 = g (q2 - 1) := by rw [hv2, z]; simp only [vOf]
        have w3 := t3 q1 z1
        simp only [pbd]
        rw [w1, w2, show q1 - 1 = q2 - 2 by omega, show q2 - 1 = at_ by omega]
        refine congrArg (fun b => pIf b (3, at_) q2) ?_
        rw [decide_eq_decide]
        omega
    rw [key]
    by_cases c : v1 = v2
    · rw [if_pos (by rw [c])]
      obtain ⟨s3, g1, g2, g3⟩ := rd_blame b2 3 at_ (by decide) (by decide)
      rw [show (3 : Int32) = nI 3 from rfl, g1, vt_bs]
      refine ⟨s3, rfl, ?_, g3⟩
      rw [show decide (v1 = v2) = true from decide_eq_true c]
      exact g2
    · rw [if_neg (by rw [zI_eq (by omega) (by omega) (by omega) (by omega)]; exact c)]
      refine ⟨_, rfl, ?_, onl.refl⟩
      rw [show decide (v1 = v2) = false from decide_eq_false c]
      show RdS B g n (pbd _ Except.ok) _
      rw [pbd_id]; exact b2
  have o3 := o2.trans f3
  have A2 : vt_A s3 302 p = vt_A s 302 p := o3.A hp5
  have A3 : vt_A s3 303 p = vt_A s 303 p := o3.A hp5
  obtain ⟨h4, hh4⟩ : ∃ h4, h4 = vu_I (vu_I (vu_I (vu_I s3 1200 x (vt_A s 302 p v1.toNat)) 1201 x (vt_A s 303 p v1.toNat)) 1202 x (vt_A s 302 p v2.toNat)) 1203 x (vt_A s 303 p v2.toNat) := ⟨_, rfl⟩
  have o4 : onl (fun a => a = B + 5 ∨ a = x) s h4 := by rw [hh4]; exact o3.w5.qI.qI.qI.qI
  obtain ⟨st3, hst3⟩ : ∃ st3, st3 = (pbd (pbd (pbd st (pIn g n 0 ((V : Int) - 1))) (pIn g n 0 ((V : Int) - 1))) (fun q => pIf (decide (g (q - 2) = g (q - 1))) (3, q - 1) q)) := ⟨_, rfl⟩
  rw [← hst3] at f2
  have g4 : RdS B g n st3 h4 := by rw [hh4]; exact (((f2.putI h1 h5).putI h1 h5).putI h1 h5).putI h1 h5
  obtain ⟨s5, i1, i2, i3⟩ := rd_within g4 0 ((S : Int) - 1) (by omega) (by omega) (by omega) (by omega)
  obtain ⟨v5, hv5⟩ : ∃ v, v = vOf (pbd st3 (pIn g n 0 ((S : Int) - 1))) (fun q => g (q - 1)) 0 := ⟨_, rfl⟩
  rw [← hv5] at i1
  have i4 : RdS B g n _ (vu_I s5 1204 x (zI v5)) := i2.putI h1 h5
  have o5 : onl (fun a => a = B + 5 ∨ a = x) s (vu_I s5 1204 x (zI v5)) := (o4.trans i3.w5).qI
  obtain ⟨s6, j1, j2, j3⟩ := rd_or i4 S hS
  obtain ⟨v6, hv6⟩ : ∃ v, v = vOf (pbd (pbd st3 (pIn g n 0 ((S : Int) - 1))) (pOr g n S)) (fun q => n255 (g (q - 1))) 0 := ⟨_, rfl⟩
  rw [← hv6] at j1
  have j4 : RdS B g n _ (vu_I s6 1205 x (zI v6)) := j2.putI h1 h5
  have o6 : onl (fun a => a = B + 5 ∨ a = x) s (vu_I s6 1205 x (zI v6)) := (o5.trans j3.w5).qI
  have hH : pbd (pbd st3 (pIn g n 0 ((S : Int) - 1))) (pOr g n S) = pWallH g n V S st := by rw [hst3]; rfl
  rw [hH] at j4
  obtain ⟨s7, fu1, l1, l2, l3, l4, l5⟩ := c_wtx_loop (B := B) (g := g) (n := n) h5 h1 hp5 hpx hT 6 0 sv_fuel (vu_I s6 1205 x (zI v6)) (pWallH g n V S st) (by omega) (fuel_ge (by omega)) (by rw [o6.I npx]; exact ht) (by rw [o6.L]; exact hL) j4 (fun q hq => by
    rw [← hH] at hq
    obtain ⟨q5, y5, z5⟩ := pbd_ok hq
    obtain ⟨u1, u2, u3⟩ := pOr_ok z5
    obtain ⟨q4, y4, z4⟩ := pbd_ok y5
    obtain ⟨u4, u5, -⟩ := pIn_ok z4
    rw [hst3] at y4
    obtain ⟨q3, y3, z3⟩ := pbd_ok y4
    obtain ⟨-, u6⟩ := pIf_ok z3
    obtain ⟨q2, y2, z2⟩ := pbd_ok y3
    obtain ⟨-, u7, -⟩ := pIn_ok z2
    obtain ⟨q1, y1, z1⟩ := pbd_ok y2
    obtain ⟨-, u8, -⟩ := pIn_ok z1
    have := (hd q1 y1).1
    refine ⟨by omega, ?_, fun j hj => by omega⟩
    rw [I_at, hv6, hq]
    simp only [vOf]
    rw [n255_neg (hb _ (by omega)), show q - 1 - 0 = q - 1 by omega])
  have o7 := o6.trans l3
  obtain ⟨s8, m1, m2, m3, m4, m5, m6⟩ := c_wallT (B := B) (g := g) (n := n) (p := p) (k := ab_X2_readWall_116 fu1) h5 h1 l2
  refine ⟨s8, ?_, ?_, o7.trans m3, fun q0 q hq0 hq => ?_⟩
  · simp only [ab_X2_readWall, sv_let]
    rw [hv, nI_z V, show (1 : Int32) = zI 1 from rfl, zI_sub, show (0 : Int32) = zI 0 from rfl, a1, vt_bs, t1, a3.I hp5, hv, nI_z V, zI_sub, b1, vt_bs, f1]
    simp only [ab_X2_readWall_44, sv_let]
    have e1 : vl_I s3 302 p (zI v1) = some (vt_A s 302 p v1.toNat) := by rw [vl_I_z (by omega) (by rw [o3.L]; omega) (by rw [o3.L]; omega), A2]
    rw [e1, Option.bind_some]
    have e2 : vl_I (vu_I s3 1200 x (vt_A s 302 p v1.toNat)) 303 p (zI v1) = some (vt_A s 303 p v1.toNat) := by
      rw [vl_I_z (by omega) (by show _ < (vt_L s3 303 p : Int); rw [o3.L]; omega) (by show vt_L s3 303 p < _; rw [o3.L]; omega)]
      exact congrArg some (congrFun A3 _)
    rw [e2, Option.bind_some]
    have e3 : vl_I (vu_I (vu_I s3 1200 x (vt_A s 302 p v1.toNat)) 1201 x (vt_A s 303 p v1.toNat)) 302 p (zI v2) = some (vt_A s 302 p v2.toNat) := by
      rw [vl_I_z (by omega) (by show _ < (vt_L s3 302 p : Int); rw [o3.L]; omega) (by show vt_L s3 302 p < _; rw [o3.L]; omega)]
      exact congrArg some (congrFun A2 _)
    rw [e3, Option.bind_some]
    have e4 : vl_I (vu_I (vu_I (vu_I s3 1200 x (vt_A s 302 p v1.toNat)) 1201 x (vt_A s 303 p v1.toNat)) 1202 x (vt_A s 302 p v2.toNat)) 303 p (zI v2) = some (vt_A s 303 p v2.toNat) := by
      rw [vl_I_z (by omega) (by show _ < (vt_L s3 303 p : Int); rw [o3.L]; omega) (by show vt_L s3 303 p < _; rw [o3.L]; omega)]
      exact congrArg some (congrFun A3 _)
    rw [e4, Option.bind_some, ← hh4]
    rw [o4.I npx, hs, nI_z S, show (1 : Int32) = zI 1 from rfl, zI_sub, show (0 : Int32) = zI 0 from rfl, i1, vt_bs, o5.I npx, hs, j1, vt_bs]
    rw [show zI 0 = nI 0 from rfl, l1]
    exact m1
  · rw [← pWallC_eq]; exact m2
  · rw [← pWallC_eq] at hq
    have hq : pWallT g n (pL (pWtx g n T) 6 0 (pWallH g n V S st)) = .ok q := hq
    have hstx : ∃ qT, pL (pWtx g n T) 6 0 (pWallH g n V S st) = .ok qT := by
      obtain ⟨w1, hq, -⟩ := pbd_ok hq
      obtain ⟨w2, hq, -⟩ := pbd_ok hq
      obtain ⟨w3, hq, -⟩ := pbd_ok hq
      obtain ⟨w4, hq, -⟩ := pbd_ok hq
      exact ⟨w4, hq⟩
    obtain ⟨qT, hqT⟩ := hstx
    have hstH : ∃ qH, pWallH g n V S st = .ok qH := by
      cases z : pWallH g n V S st with
      | ok qH => exact ⟨qH, rfl⟩
      | error e => rw [z, pL_err] at hqT; cases hqT
    obtain ⟨qH, hqH⟩ := hstH
    have hqT2 := hqT
    rw [hqH] at hqT2
    obtain ⟨w1, w2, w3⟩ := pWtx_ok 6 0 qH qT hqT2
    have hqH2 := hqH
    rw [hq0] at hqH2
    obtain ⟨x1, x2, x3, x4, x5, x6, x7⟩ := pWallH_ok hqH2
    rw [← hH] at hqH
    obtain ⟨q5, y5, z5⟩ := pbd_ok hqH
    obtain ⟨q4, y4, z4⟩ := pbd_ok y5
    rw [hst3] at y4
    obtain ⟨q3, y3, z3⟩ := pbd_ok y4
    obtain ⟨q2, y2, z2⟩ := pbd_ok y3
    obtain ⟨q1, y1, z1⟩ := pbd_ok y2
    rw [hq0] at y1
    cases y1
    obtain ⟨-, u1, -⟩ := pIn_ok z1
    obtain ⟨-, u2, -⟩ := pIn_ok z2
    obtain ⟨-, u3⟩ := pIf_ok z3
    obtain ⟨-, u4, -⟩ := pIn_ok z4
    have V1 : v1 = g q0 := by rw [hv1, y2]; simp only [vOf]; rw [show q2 - 1 = q0 by omega]
    have V2 : v2 = g (q0 + 1) := by rw [hv2, y3]; simp only [vOf]; rw [show q3 - 1 = q0 + 1 by omega]
    have V5 : v5 = g (q0 + 2) := by rw [hv5, y5]; simp only [vOf]; rw [show q5 - 1 = q0 + 2 by omega]
    have V6 : v6 = n255 (g (q0 + 3)) := by rw [hv6, hqH]; simp only [vOf]; rw [show qH - 1 = q0 + 3 by omega]
    have D := (hd q0 hq0).2
    have T6 := m6 qT q hqT hq
    have S8 : ∀ f, f < 1206 → vt_I s8 f x = vt_I (vu_I s6 1205 x (zI v6)) f x := fun f hf => by rw [m4 f hf, l4]
    have S6 : ∀ f, vt_I s6 f x = vt_I (vu_I s5 1204 x (zI v5)) f x := fun f => j3.I h5
    have S5 : ∀ f, vt_I s5 f x = vt_I h4 f x := fun f => i3.I h5
    have E1 : v1.toNat = g q0 := by omega
    have E2 : v2.toNat = g (q0 + 1) := by omega
    refine ⟨?_, ?_, ?_, ?_, ?_, ?_, fun k hk => ?_, ?_, ?_, ?_, ?_, ?_⟩
    · rw [S8 _ (by omega), I_ne (by omega), S6, I_ne (by omega), S5, hh4, I_ne (by omega), I_ne (by omega), I_ne (by omega), I_at, E1, (D _ x3).1]
    · rw [S8 _ (by omega), I_ne (by omega), S6, I_ne (by omega), S5, hh4, I_ne (by omega), I_ne (by omega), I_at, E1, (D _ x3).2]
    · rw [S8 _ (by omega), I_ne (by omega), S6, I_ne (by omega), S5, hh4, I_ne (by omega), I_at, E2, (D _ x4).1]
    · rw [S8 _ (by omega), I_ne (by omega), S6, I_ne (by omega), S5, hh4, I_at, E2, (D _ x4).2]
    · rw [S8 _ (by omega), I_ne (by omega), S6, I_at, V5, nI_z]
    · rw [S8 _ (by omega), I_at, V6]
    · rw [m5, l5 qT hqT k hk, show qT - 6 + k = q0 + 4 + k by omega]
    · rw [T6.1, show qT = q0 + 10 by omega]
    · rw [T6.2.1, show qT = q0 + 10 by omega]
    · rw [T6.2.2.1, show qT + 1 = q0 + 11 by omega]
    · rw [T6.2.2.2.1, show qT + 2 = q0 + 12 by omega]
    · rw [T6.2.2.2.2, show qT + 3 = q0 + 13 by omega]
end PW2
