-- A SECTOR's bytes
def pSecC (g : Nat → Nat) (n T : Nat) (st : PE) : PE :=
  pbd (pbd (pbd (pbd (pbd (pbd (pbd (pbd st (pTwoIn g n (-1024) 1024)) (pTwoIn g n (-1024) 1024)) (fun q => pIf (decide (pr g (q - 2) ≤ pr g (q - 4))) (3, q - 2) q)) (pIn g n 0 ((T : Int) - 1))) (pOr g n T)) (pIn g n 0 15)) (pIn g n 0 3)) (pOne n)
def pSec (g : Nat → Nat) (n T p : Nat) : PE := pSecC g n T (.ok p)
theorem pSecC_eq (g : Nat → Nat) (n T : Nat) (st : PE) : pSecC g n T st = pbd st (pSec g n T) := by
  cases st with
  | ok p => rfl
  | error e => simp only [pSecC, pbd]
/-- a sector's bytes are as they must be -/
def secV (g : Nat → Nat) (T p : Nat) : Prop := -1024 ≤ pr g p ∧ pr g p < pr g (p + 2) ∧ pr g (p + 2) ≤ 1024 ∧ g (p + 4) < T ∧ (g (p + 5) < T ∨ g (p + 5) = 255) ∧ g (p + 6) ≤ 15 ∧ g (p + 7) ≤ 3
theorem pSec_ok {g : Nat → Nat} {n T p q : Nat} (h : pSec g n T p = .ok q) : q = p + 9 ∧ q ≤ n ∧ secV g T p := by
  obtain ⟨a1, h, e1⟩ := pbd_ok h
  obtain ⟨a2, h, e2⟩ := pbd_ok h
  obtain ⟨a3, h, e3⟩ := pbd_ok h
  obtain ⟨a4, h, e4⟩ := pbd_ok h
  obtain ⟨a5, h, e5⟩ := pbd_ok h
  obtain ⟨a6, h, e6⟩ := pbd_ok h
  obtain ⟨a7, h, e7⟩ := pbd_ok h
  have e8 := h
  obtain ⟨b1, b2, b3, b4⟩ := pTwoIn_ok e8
  obtain ⟨c1, c2, c3, c4⟩ := pTwoIn_ok e7
  obtain ⟨d1, d2⟩ := pIf_ok e6
  obtain ⟨f1, f2, f3, f4⟩ := pIn_ok e5
  obtain ⟨i1, i2, i3⟩ := pOr_ok e4
  obtain ⟨j1, j2, j3, j4⟩ := pIn_ok e3
  obtain ⟨k1, k2, k3, k4⟩ := pIn_ok e2
  obtain ⟨l1, l2⟩ := pOne_ok e1
  have d1 := of_decide_eq_false d1
  subst b2 c2 d2 f2 i2 j2 k2 l2
  rw [show p + 2 + 2 - 2 = p + 2 by omega, show p + 2 + 2 - 4 = p by omega] at d1
  rw [show p + 2 + 2 = p + 4 by omega] at *
  rw [show p + 4 + 1 = p + 5 by omega] at *
  rw [show p + 5 + 1 = p + 6 by omega] at *
  rw [show p + 6 + 1 = p + 7 by omega] at *
  exact ⟨by omega, by omega, b3, by omega, c4, by omega, i3, by omega, by omega⟩
/-- what the class keeps of a sector's bytes -/
def secF (s : vt_S) (x : Nat) (g : Nat → Nat) (p : Nat) : Prop := vt_I s 700 x = zI (pr g p) ∧ vt_I s 701 x = zI (pr g (p + 2)) ∧ vt_I s 702 x = nI (g (p + 4)) ∧ vt_I s 703 x = zI (n255 (g (p + 5))) ∧ vt_I s 704 x = nI (g (p + 6)) ∧ vt_I s 705 x = nI (g (p + 7)) ∧ vt_I s 706 x = nI (g (p + 8))
section PSC
variable {B : Nat} {g : Nat → Nat} {n p : Nat}
set_option maxHeartbeats 4000000 in
theorem c_sec {x T : Nat} {s : vt_S} {st : PE} (h5 : x ≠ B + 5) (h1 : x ≠ B + 1) (hp5 : p ≠ B + 5) (hpx : p ≠ x) (hT : T ≤ 255) (ht : vt_I s 310 p = nI T) (h : RdS B g n st s) :
    ∃ s1, ab_X2_readSector p (B + 5) x s = some ((), s1) ∧ RdS B g n (pbd st (pSec g n T)) s1 ∧ onl (fun a => a = B + 5 ∨ a = x) s s1 ∧ (∀ q0 q, st = .ok q0 → pbd st (pSec g n T) = .ok q → secF s1 x g q0) := by
  obtain ⟨s1, a1, a2, a3⟩ := rd_pairWithin h (-1024) 1024 (by omega) (by omega) (by omega) (by omega)
  obtain ⟨v1, hv1⟩ : ∃ v, v = vOf (pbd st (pTwoIn g n (-1024) 1024)) (fun q => pr g (q - 2)) (-1024) := ⟨_, rfl⟩
  rw [← hv1] at a1
  have b2 : RdS B g n _ (vu_I s1 700 x (zI v1)) := a2.putI h1 h5
  have o1 : onl (fun a => a = B + 5 ∨ a = x) s (vu_I s1 700 x (zI v1)) := a3.w5.qI
  obtain ⟨at_, t1, t2, t3⟩ := rd_next b2
  obtain ⟨s2, c1, c2, c3⟩ := rd_pairWithin b2 (-1024) 1024 (by omega) (by omega) (by omega) (by omega)
  obtain ⟨v2, hv2⟩ : ∃ v, v = vOf (pbd (pbd st (pTwoIn g n (-1024) 1024)) (pTwoIn g n (-1024) 1024)) (fun q => pr g (q - 2)) (-1024) := ⟨_, rfl⟩
  rw [← hv2] at c1
  have d2 : RdS B g n _ (vu_I s2 701 x (zI v2)) := c2.putI h1 h5
  have o2 : onl (fun a => a = B + 5 ∨ a = x) s (vu_I s2 701 x (zI v2)) := (o1.trans c3.w5).qI
  have r1 : -32768 ≤ v1 ∧ v1 ≤ 32767 := by rw [hv1]; exact vOf_rng (fun q _ => pr_rng g _) (by omega) (by omega)
  have r2 : -32768 ≤ v2 ∧ v2 ≤ 32767 := by rw [hv2]; exact vOf_rng (fun q _ => pr_rng g _) (by omega) (by omega)
  have k1 : vt_I (vu_I s2 701 x (zI v2)) 701 x = zI v2 := I_at
  have k2 : vt_I (vu_I s2 701 x (zI v2)) 700 x = zI v1 := by rw [I_ne (by omega), c3.I h5, I_at]
  -- the check of both heights
  obtain ⟨s3, f1, f2, f3⟩ : ∃ s3, (if vt_I (vu_I s2 701 x (zI v2)) 700 x < vt_I (vu_I s2 701 x (zI v2)) 701 x then ab_X2_readSector_50 p (B + 5) x (vu_I s2 701 x (zI v2)) else vt_b (ab_X4_blame (B + 5) 3 (nI at_) (vu_I s2 701 x (zI v2))) fun _ h10 => ab_X2_readSector_50 p (B + 5) x h10) = ab_X2_readSector_50 p (B + 5) x s3 ∧ RdS B g n (pbd (pbd (pbd st (pTwoIn g n (-1024) 1024)) (pTwoIn g n (-1024) 1024)) (fun q => pIf (decide (pr g (q - 2) ≤ pr g (q - 4))) (3, q - 2) q)) s3 ∧ onl (· = B + 5) (vu_I s2 701 x (zI v2)) s3 := by
    rw [k1, k2]
    have key : (pbd (pbd (pbd st (pTwoIn g n (-1024) 1024)) (pTwoIn g n (-1024) 1024)) (fun q => pIf (decide (pr g (q - 2) ≤ pr g (q - 4))) (3, q - 2) q)) = pbd (pbd (pbd st (pTwoIn g n (-1024) 1024)) (pTwoIn g n (-1024) 1024)) (fun q => pIf (decide (v2 ≤ v1)) (3, at_) q) := by
      cases z : pbd (pbd st (pTwoIn g n (-1024) 1024)) (pTwoIn g n (-1024) 1024) with
      | error e => simp only [pbd]
      | ok q2 =>
        obtain ⟨q1, z1, z2⟩ := pbd_ok z
        obtain ⟨u1, u2, -⟩ := pTwoIn_ok z2
        have w1 : v1 = pr g (q1 - 2) := by rw [hv1, z1]; simp only [vOf]
        have w2 : v2 = pr g (q2 - 2) := by rw [hv2, z]; simp only [vOf]
        have w3 := t3 q1 z1
        simp only [pbd]
        rw [w1, w2, show q1 - 2 = q2 - 4 by omega, show q2 - 2 = at_ by omega]
    rw [key]
    by_cases c : v1 < v2
    · rw [if_pos (by rw [zI_lt (by omega) (by omega) (by omega) (by omega)]; exact c)]
      refine ⟨_, rfl, ?_, onl.refl⟩
      rw [show decide (v2 ≤ v1) = false from decide_eq_false (by omega)]
      show RdS B g n (pbd _ Except.ok) _
      rw [pbd_id]; exact d2
    · rw [if_neg (by rw [zI_lt (by omega) (by omega) (by omega) (by omega)]; exact c)]
      obtain ⟨s3, g1, g2, g3⟩ := rd_blame d2 3 at_ (by decide) (by decide)
      rw [show (3 : Int32) = nI 3 from rfl, g1, vt_bs]
      refine ⟨s3, rfl, ?_, g3⟩
      rw [show decide (v2 ≤ v1) = true from decide_eq_true (by omega)]
      exact g2
  obtain ⟨st3, hst3⟩ : ∃ st3, st3 = (pbd (pbd (pbd st (pTwoIn g n (-1024) 1024)) (pTwoIn g n (-1024) 1024)) (fun q => pIf (decide (pr g (q - 2) ≤ pr g (q - 4))) (3, q - 2) q)) := ⟨_, rfl⟩
  rw [← hst3] at f2
  have o3 := o2.trans f3.w5
  have ht3 : vt_I s3 310 p = nI T := by rw [o3.I (fun z => z.elim hp5 hpx)]; exact ht
  obtain ⟨s4, g1, g2, g3⟩ := rd_within f2 0 ((T : Int) - 1) (by omega) (by omega) (by omega) (by omega)
  obtain ⟨v4, hv4⟩ : ∃ v, v = vOf (pbd st3 (pIn g n 0 ((T : Int) - 1))) (fun q => g (q - 1)) 0 := ⟨_, rfl⟩
  rw [← hv4] at g1
  have g4 : RdS B g n _ (vu_I s4 702 x (zI v4)) := g2.putI h1 h5
  have o4 : onl (fun a => a = B + 5 ∨ a = x) s (vu_I s4 702 x (zI v4)) := (o3.trans g3.w5).qI
  have ht4 : vt_I (vu_I s4 702 x (zI v4)) 310 p = nI T := by rw [o4.I (fun z => z.elim hp5 hpx)]; exact ht
  obtain ⟨s5, i1, i2, i3⟩ := rd_or g4 T hT
  obtain ⟨v5, hv5⟩ : ∃ v, v = vOf (pbd (pbd st3 (pIn g n 0 ((T : Int) - 1))) (pOr g n T)) (fun q => n255 (g (q - 1))) 0 := ⟨_, rfl⟩
  rw [← hv5] at i1
  have i4 : RdS B g n _ (vu_I s5 703 x (zI v5)) := i2.putI h1 h5
  have o5 : onl (fun a => a = B + 5 ∨ a = x) s (vu_I s5 703 x (zI v5)) := (o4.trans i3.w5).qI
  obtain ⟨s6, j1, j2, j3⟩ := rd_within i4 0 15 (by omega) (by omega) (by omega) (by omega)
  obtain ⟨v6, hv6⟩ : ∃ v, v = vOf (pbd (pbd (pbd st3 (pIn g n 0 ((T : Int) - 1))) (pOr g n T)) (pIn g n 0 15)) (fun q => g (q - 1)) 0 := ⟨_, rfl⟩
  rw [← hv6] at j1
  have j4 : RdS B g n _ (vu_I s6 704 x (zI v6)) := j2.putI h1 h5
  have o6 : onl (fun a => a = B + 5 ∨ a = x) s (vu_I s6 704 x (zI v6)) := (o5.trans j3.w5).qI
  obtain ⟨s7, l1, l2, l3⟩ := rd_within j4 0 3 (by omega) (by omega) (by omega) (by omega)
  obtain ⟨v7, hv7⟩ : ∃ v, v = vOf (pbd (pbd (pbd (pbd st3 (pIn g n 0 ((T : Int) - 1))) (pOr g n T)) (pIn g n 0 15)) (pIn g n 0 3)) (fun q => g (q - 1)) 0 := ⟨_, rfl⟩
  rw [← hv7] at l1
  have l4 : RdS B g n _ (vu_I s7 705 x (zI v7)) := l2.putI h1 h5
  have o7 : onl (fun a => a = B + 5 ∨ a = x) s (vu_I s7 705 x (zI v7)) := (o6.trans l3.w5).qI
  obtain ⟨r8, s8, m1, m2, m3, -, m4, -⟩ := rd_one l4
  have m5 : RdS B g n _ (vu_I s8 706 x (nI r8)) := m2.putI h1 h5
  have o8 : onl (fun a => a = B + 5 ∨ a = x) s (vu_I s8 706 x (nI r8)) := (o7.trans m3.w5).qI
  have chain : pbd st (pSec g n T) = pbd (pbd (pbd (pbd (pbd st3 (pIn g n 0 ((T : Int) - 1))) (pOr g n T)) (pIn g n 0 15)) (pIn g n 0 3)) (pOne n) := by
    rw [← pSecC_eq, hst3]; simp only [pSecC]
  refine ⟨_, ?_, by rw [chain]; exact m5, o8, fun q0 q hq0 hq => ?_⟩
  · simp only [ab_X2_readSector, sv_let]
    rw [show (-1024 : Int32) = zI (-1024) from rfl, show (1024 : Int32) = zI 1024 from rfl, a1, vt_bs, t1, c1, vt_bs, f1]
    simp only [ab_X2_readSector_50, sv_let]
    rw [ht3, nI_z, show (1 : Int32) = zI 1 from rfl, zI_sub, show (0 : Int32) = zI 0 from rfl, g1, vt_bs, ht4, i1, vt_bs, show (15 : Int32) = zI 15 from rfl, j1, vt_bs, show (3 : Int32) = zI 3 from rfl, l1, vt_bs, m1, vt_bs]
  · rw [chain] at hq
    obtain ⟨p7, y7, z7⟩ := pbd_ok hq
    obtain ⟨p6, y6, z6⟩ := pbd_ok y7
    obtain ⟨p5, y5, z5⟩ := pbd_ok y6
    obtain ⟨p4, y4, z4⟩ := pbd_ok y5
    obtain ⟨p3, y3, z3⟩ := pbd_ok y4
    rw [hst3] at y3
    obtain ⟨p2, y2, z2⟩ := pbd_ok y3
    obtain ⟨p1, y1, z1⟩ := pbd_ok y2
    obtain ⟨p0, y0, z0⟩ := pbd_ok y1
    rw [hq0] at y0
    cases y0
    obtain ⟨-, u0, -⟩ := pTwoIn_ok z0
    obtain ⟨-, u1, -⟩ := pTwoIn_ok z1
    obtain ⟨-, u2⟩ := pIf_ok z2
    obtain ⟨-, u3, -⟩ := pIn_ok z3
    obtain ⟨-, u4, -⟩ := pOr_ok z4
    obtain ⟨-, u5, -⟩ := pIn_ok z5
    obtain ⟨-, u6, -⟩ := pIn_ok z6
    obtain ⟨-, u7⟩ := pOne_ok z7
    have V1 : v1 = pr g q0 := by rw [hv1, y1]; simp only [vOf]; rw [u0, show q0 + 2 - 2 = q0 by omega]
    have V2 : v2 = pr g (q0 + 2) := by rw [hv2, y2]; simp only [vOf]; rw [u1, u0, show q0 + 2 + 2 - 2 = q0 + 2 by omega]
    have V4 : v4 = g (q0 + 4) := by rw [hv4, y4]; simp only [vOf]; rw [show p4 - 1 = q0 + 4 by omega]
    have V5 : v5 = n255 (g (q0 + 5)) := by rw [hv5, y5]; simp only [vOf]; rw [show p5 - 1 = q0 + 5 by omega]
    have V6 : v6 = g (q0 + 6) := by rw [hv6, y6]; simp only [vOf]; rw [show p6 - 1 = q0 + 6 by omega]
    have V7 : v7 = g (q0 + 7) := by rw [hv7, y7]; simp only [vOf]; rw [show p7 - 1 = q0 + 7 by omega]
    have V8 : r8 = g (q0 + 8) := by rw [m4 q hq, show q - 1 = q0 + 8 by omega]
    have S3 : vt_I s3 700 x = zI v1 ∧ vt_I s3 701 x = zI v2 := ⟨by rw [f3.I h5]; exact k2, by rw [f3.I h5]; exact k1⟩
    have S4 : ∀ f, vt_I s4 f x = vt_I s3 f x := fun f => g3.I h5
    have S5 : ∀ f, vt_I s5 f x = vt_I (vu_I s4 702 x (zI v4)) f x := fun f => i3.I h5
    have S6 : ∀ f, vt_I s6 f x = vt_I (vu_I s5 703 x (zI v5)) f x := fun f => j3.I h5
    have S7 : ∀ f, vt_I s7 f x = vt_I (vu_I s6 704 x (zI v6)) f x := fun f => l3.I h5
    have S8 : ∀ f, vt_I s8 f x = vt_I (vu_I s7 705 x (zI v7)) f x := fun f => m3.I h5
    refine ⟨?_, ?_, ?_, ?_, ?_, ?_, ?_⟩
    · rw [I_ne (by omega), S8, I_ne (by omega), S7, I_ne (by omega), S6, I_ne (by omega), S5, I_ne (by omega), S4, S3.1, V1]
    · rw [I_ne (by omega), S8, I_ne (by omega), S7, I_ne (by omega), S6, I_ne (by omega), S5, I_ne (by omega), S4, S3.2, V2]
    · rw [I_ne (by omega), S8, I_ne (by omega), S7, I_ne (by omega), S6, I_ne (by omega), S5, I_at, V4, nI_z]
    · rw [I_ne (by omega), S8, I_ne (by omega), S7, I_ne (by omega), S6, I_at, V5]
    · rw [I_ne (by omega), S8, I_ne (by omega), S7, I_at, V6, nI_z]
    · rw [I_ne (by omega), S8, I_at, V7, nI_z]
    · rw [I_at, V8]
end PSC
