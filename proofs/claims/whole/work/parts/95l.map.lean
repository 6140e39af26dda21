-- THE WHOLE MAP, as it is read
def pHeadC (g : Nat → Nat) (n : Nat) (st : PE) : PE := pbd (pbd (pbd (pbd (pbd (pbd (pbd st (pEq g n 77 2)) (pEq g n 72 2)) (pEq g n 1 2)) (pIn g n 0 128)) (pIn g n 0 16)) (pIn g n 1 32)) (pIn g n 0 128)
def pBody (g : Nat → Nat) (n : Nat) : PE := pL (fun _ => pSec g n (g 4)) (g 5) 0 (pL (fun _ => pTex g n) (g 4) 0 (pL (pVtx g n) (g 3) 0 (pHeadC g n (.ok 0))))
def pTail (g : Nat → Nat) (n : Nat) (st : PE) : PE := pbd (pCheckC g n (pStartC g n (g 5) st)) (fun p => if p < n then .error (5, p) else .ok p)
def pMap (ov : Nat → Nat → Bool) (g : Nat → Nat) (n : Nat) : PE := pL (pOv ov (wlp g 0)) (g 6) 0 (pTail g n (pL (fun _ => pWall g n (g 3) (g 4) (g 5)) (g 6) 0 (pBody g n)))
theorem pHead_ok {g : Nat → Nat} {n q : Nat} (h : pHeadC g n (.ok 0) = .ok q) : q = 7 ∧ 7 ≤ n ∧ g 0 = 77 ∧ g 1 = 72 ∧ g 2 = 1 ∧ g 3 ≤ 128 ∧ g 4 ≤ 16 ∧ 1 ≤ g 5 ∧ g 5 ≤ 32 ∧ g 6 ≤ 128 := by
  obtain ⟨a1, h, e1⟩ := pbd_ok h
  obtain ⟨a2, h, e2⟩ := pbd_ok h
  obtain ⟨a3, h, e3⟩ := pbd_ok h
  obtain ⟨a4, h, e4⟩ := pbd_ok h
  obtain ⟨a5, h, e5⟩ := pbd_ok h
  obtain ⟨a6, e7, e6⟩ := pbd_ok h
  obtain ⟨b1, b2, b3⟩ := pEq_ok e7
  obtain ⟨c1, c2, c3⟩ := pEq_ok e6
  obtain ⟨d1, d2, d3⟩ := pEq_ok e5
  obtain ⟨f1, f2, f3, f4⟩ := pIn_ok e4
  obtain ⟨i1, i2, i3, i4⟩ := pIn_ok e3
  obtain ⟨j1, j2, j3, j4⟩ := pIn_ok e2
  obtain ⟨k1, k2, k3, k4⟩ := pIn_ok e1
  subst b2 c2 d2 f2 i2 j2 k2
  simp only [Nat.zero_add, Nat.reduceAdd] at *
  exact ⟨trivial, by omega, b3, c3, d3, by omega, by omega, by omega, by omega, by omega⟩
/-- what the class keeps of a map -/
def planF (s : vt_S) (p : Nat) (g : Nat → Nat) : Prop := (vt_I s 309 p = nI (g 3) ∧ vt_I s 310 p = nI (g 4) ∧ vt_I s 311 p = nI (g 5) ∧ vt_I s 312 p = nI (g 6)) ∧ (∀ j, j < g 3 → vtxF s p g j) ∧ (∀ j, j < g 4 → texF s p g j) ∧ (∀ j, j < g 5 → secF s (p + 11 + j) g (scp g j)) ∧ (∀ j, j < g 6 → wallF s (p + 43 + 2 * j) g (wlp g j)) ∧ startF s (p + 3) g (stp g)
section HM
variable {B : Nat} {g : Nat → Nat} {n p : Nat}
set_option maxHeartbeats 4000000 in
theorem c_head {s : vt_S} {st : PE} (hp6 : B + 6 ≤ p) (h : RdS B g n st s) : ∃ s1 V T S W, ab_X2_read p (B + 5) s = ab_X2_read_68 sv_fuel p (B + 5) (nI 0) s1 ∧ RdS B g n (pHeadC g n st) s1 ∧ onl (fun a => a = B + 5 ∨ a = p) s s1 ∧ vt_I s1 309 p = nI V ∧ vt_I s1 310 p = nI T ∧ vt_I s1 311 p = nI S ∧ vt_I s1 312 p = nI W ∧ V ≤ 128 ∧ T ≤ 16 ∧ S ≤ 32 ∧ W ≤ 128 ∧ (∀ q, pHeadC g n st = .ok q → V = g (q - 4) ∧ T = g (q - 3) ∧ S = g (q - 2) ∧ W = g (q - 1)) := by
  have n5 : p ≠ B + 5 := by omega
  have n1 : p ≠ B + 1 := by omega
  obtain ⟨s1, a1, a2, a3⟩ := rd_expect h 77 2 (by decide) (by decide) (by decide)
  obtain ⟨s2, b1, b2, b3⟩ := rd_expect a2 72 2 (by decide) (by decide) (by decide)
  obtain ⟨s3, c1, c2, c3⟩ := rd_expect b2 1 2 (by decide) (by decide) (by decide)
  obtain ⟨s4, d1, d2, d3⟩ := rd_within c2 0 128 (by omega) (by omega) (by omega) (by omega)
  have d5 := in_rng (g := g) (n := n) (st := pbd (pbd (pbd st (pEq g n 77 2)) (pEq g n 72 2)) (pEq g n 1 2)) (show (0 : Int) ≤ 128 by omega)
  obtain ⟨v4, hv4⟩ : ∃ v, v = vOf (pbd (pbd (pbd (pbd st (pEq g n 77 2)) (pEq g n 72 2)) (pEq g n 1 2)) (pIn g n 0 128)) (fun q => g (q - 1)) 0 := ⟨_, rfl⟩
  rw [← hv4] at d1 d5
  have d4 : RdS B g n _ (vu_I s4 309 p (zI v4)) := d2.putI n1 n5
  have o4 : onl (fun a => a = B + 5 ∨ a = p) s (vu_I s4 309 p (zI v4)) := (((a3.trans b3).trans c3).trans d3).w5.qI
  obtain ⟨s5, f1, f2, f3⟩ := rd_within d4 0 16 (by omega) (by omega) (by omega) (by omega)
  have f5 := in_rng (g := g) (n := n) (st := pbd (pbd (pbd (pbd st (pEq g n 77 2)) (pEq g n 72 2)) (pEq g n 1 2)) (pIn g n 0 128)) (show (0 : Int) ≤ 16 by omega)
  obtain ⟨v5, hv5⟩ : ∃ v, v = vOf (pbd (pbd (pbd (pbd (pbd st (pEq g n 77 2)) (pEq g n 72 2)) (pEq g n 1 2)) (pIn g n 0 128)) (pIn g n 0 16)) (fun q => g (q - 1)) 0 := ⟨_, rfl⟩
  rw [← hv5] at f1 f5
  have f4 : RdS B g n _ (vu_I s5 310 p (zI v5)) := f2.putI n1 n5
  have o5 : onl (fun a => a = B + 5 ∨ a = p) s (vu_I s5 310 p (zI v5)) := (o4.trans f3.w5).qI
  obtain ⟨s6, i1, i2, i3⟩ := rd_within f4 1 32 (by omega) (by omega) (by omega) (by omega)
  have i5 := in_rng (g := g) (n := n) (st := pbd (pbd (pbd (pbd (pbd st (pEq g n 77 2)) (pEq g n 72 2)) (pEq g n 1 2)) (pIn g n 0 128)) (pIn g n 0 16)) (show (1 : Int) ≤ 32 by omega)
  obtain ⟨v6, hv6⟩ : ∃ v, v = vOf (pbd (pbd (pbd (pbd (pbd (pbd st (pEq g n 77 2)) (pEq g n 72 2)) (pEq g n 1 2)) (pIn g n 0 128)) (pIn g n 0 16)) (pIn g n 1 32)) (fun q => g (q - 1)) 1 := ⟨_, rfl⟩
  rw [← hv6] at i1 i5
  have i4 : RdS B g n _ (vu_I s6 311 p (zI v6)) := i2.putI n1 n5
  have o6 : onl (fun a => a = B + 5 ∨ a = p) s (vu_I s6 311 p (zI v6)) := (o5.trans i3.w5).qI
  obtain ⟨s7, j1, j2, j3⟩ := rd_within i4 0 128 (by omega) (by omega) (by omega) (by omega)
  have j5 := in_rng (g := g) (n := n) (st := pbd (pbd (pbd (pbd (pbd (pbd st (pEq g n 77 2)) (pEq g n 72 2)) (pEq g n 1 2)) (pIn g n 0 128)) (pIn g n 0 16)) (pIn g n 1 32)) (show (0 : Int) ≤ 128 by omega)
  obtain ⟨v7, hv7⟩ : ∃ v, v = vOf (pHeadC g n st) (fun q => g (q - 1)) 0 := ⟨_, rfl⟩
  have hv7' : v7 = vOf (pbd (pbd (pbd (pbd (pbd (pbd (pbd st (pEq g n 77 2)) (pEq g n 72 2)) (pEq g n 1 2)) (pIn g n 0 128)) (pIn g n 0 16)) (pIn g n 1 32)) (pIn g n 0 128)) (fun q => g (q - 1)) 0 := hv7
  rw [← hv7'] at j1 j5
  have j4 : RdS B g n (pHeadC g n st) (vu_I s7 312 p (zI v7)) := j2.putI n1 n5
  have o7 : onl (fun a => a = B + 5 ∨ a = p) s (vu_I s7 312 p (zI v7)) := (o6.trans j3.w5).qI
  have S5 : ∀ f, vt_I s5 f p = vt_I (vu_I s4 309 p (zI v4)) f p := fun f => f3.I n5
  have S6 : ∀ f, vt_I s6 f p = vt_I (vu_I s5 310 p (zI v5)) f p := fun f => i3.I n5
  have S7 : ∀ f, vt_I s7 f p = vt_I (vu_I s6 311 p (zI v6)) f p := fun f => j3.I n5
  refine ⟨_, v4.toNat, v5.toNat, v6.toNat, v7.toNat, ?_, j4, o7, ?_, ?_, ?_, ?_, by omega, by omega, by omega, by omega, fun q hq => ?_⟩
  · unfold ab_X2_read
    rw [show (77 : Int32) = nI 77 from rfl, show (2 : Int32) = nI 2 from rfl, a1, vbs, show (72 : Int32) = nI 72 from rfl, b1, vbs, show (1 : Int32) = nI 1 from rfl, c1, vbs]
    rw [show (0 : Int32) = zI 0 from rfl, show (128 : Int32) = zI 128 from rfl, d1, vbs, slet, show (16 : Int32) = zI 16 from rfl, f1, vbs, slet, show nI 1 = zI 1 from rfl, show (32 : Int32) = zI 32 from rfl, i1, vbs, slet, j1, vbs, slet]
    rfl
  · rw [I_ne (by omega), S7, I_ne (by omega), S6, I_ne (by omega), S5, I_at, zI_nI (by omega)]
  · rw [I_ne (by omega), S7, I_ne (by omega), S6, I_at, zI_nI (by omega)]
  · rw [I_ne (by omega), S7, I_at, zI_nI (by omega)]
  · rw [I_at, zI_nI (by omega)]
  · have h7 := hq
    obtain ⟨p6, y6, z6⟩ := pbd_ok h7
    obtain ⟨p5, y5, z5⟩ := pbd_ok y6
    obtain ⟨p4, y4, z4⟩ := pbd_ok y5
    obtain ⟨p3, y3, z3⟩ := pbd_ok y4
    obtain ⟨-, u6, -⟩ := pIn_ok z6
    obtain ⟨-, u5, -⟩ := pIn_ok z5
    obtain ⟨-, u4, -⟩ := pIn_ok z4
    obtain ⟨-, u3, -⟩ := pIn_ok z3
    have V4 : v4 = g (q - 4) := by rw [hv4, y4]; simp only [vOf]; rw [show p4 - 1 = q - 4 by omega]
    have V5 : v5 = g (q - 3) := by rw [hv5, y5]; simp only [vOf]; rw [show p5 - 1 = q - 3 by omega]
    have V6 : v6 = g (q - 2) := by rw [hv6, y6]; simp only [vOf]; rw [show p6 - 1 = q - 2 by omega]
    have V7 : v7 = g (q - 1) := by rw [hv7, hq]; simp only [vOf]
    omega
theorem pL_ok_of {f : Nat → Nat → PE} : ∀ {d i : Nat} {st : PE} {q : Nat}, pL f d i st = .ok q → ∃ q0, st = .ok q0
  | d, i, .ok q0, q, _ => ⟨q0, rfl⟩
  | d, i, .error e, q, h => by rw [pL_err] at h; cases h
set_option maxHeartbeats 4000000 in
theorem c_read {s : vt_S} (hp : p = B + 23 ∨ p = B + 322) (hs : pS p s) (h : RdS B g n (.ok 0) s) : ∃ s1, ab_X2_read p (B + 5) s = some ((), s1) ∧ RdS B g n (pMap (ovW g (wlp g 0)) g n) s1 ∧ onl (fun a => a = B + 5 ∨ (p ≤ a ∧ a < p + 299)) s s1 ∧ (∀ q, pMap (ovW g (wlp g 0)) g n = .ok q → planF s1 p g) := by
  have hp6 : B + 6 ≤ p := by omega
  have n8 := h.n8
  have hb : ∀ i, i < n → g i < 256 := fun i hi => (h.2.1.2.2.2 i hi).2
  obtain ⟨s0, V, T, S, W, a1, a2, a3, a4, a5, a6, a7, a8, a9, a10, a11, a12⟩ := c_head (p := p) hp6 h
  obtain ⟨st0, hst0⟩ : ∃ st0, st0 = pHeadC g n (.ok 0) := ⟨_, rfl⟩
  have K0 : ∀ q, st0 = .ok q → q = 7 ∧ V = g 3 ∧ T = g 4 ∧ S = g 5 ∧ W = g 6 ∧ g 3 ≤ 128 ∧ g 4 ≤ 16 ∧ g 5 ≤ 32 ∧ g 6 ≤ 128 := by
    intro q hq
    rw [hst0] at hq
    have e := a12 q hq
    obtain ⟨b1, b2, b3, b4, b5, b6, b7, b8, b9, b10⟩ := pHead_ok hq
    subst b1
    exact ⟨rfl, e.1, e.2.1, e.2.2.1, e.2.2.2, b6, b7, b9, b10⟩
  rw [← hst0] at a2
  -- vertices
  obtain ⟨s1, b1, b2, b3, b4, b6⟩ : ∃ s1, ab_X2_read_68 sv_fuel p (B + 5) (nI 0) s0 = ab_X2_read_95 p (B + 5) s1 ∧ RdS B g n (pL (pVtx g n) (g 3) 0 st0) s1 ∧ onl (fun a => a = B + 5 ∨ a = p) s0 s1 ∧ (∀ f, vt_I s1 f p = vt_I s0 f p) ∧ (∀ q, pL (pVtx g n) (g 3) 0 st0 = .ok q → q = 7 + 4 * g 3 ∧ ∀ j, j < g 3 → vtxF s1 p g j) := by
    cases hst : st0 with
    | ok q =>
      have k := K0 q hst
      exact c_vtxs hp6 (V := g 3) (V' := V) k.2.2.2.2.2.1 a8 (g 3) 0 sv_fuel s0 _ (by omega) (fuel_ge (by omega)) (hs.of a3.P a3.L a3.E) a4 (by rw [← hst]; exact a2) (fun q1 h1 => by cases h1; exact ⟨k.2.1, by omega, fun j hj => by omega⟩)
    | error e =>
      have := c_vtxs (B := B) (g := g) (n := n) hp6 (V := 0) (V' := V) (by omega) a8 0 0 sv_fuel s0 (.error e) (by omega) (fuel_ge (by omega)) (hs.of a3.P a3.L a3.E) a4 (by rw [← hst]; exact a2) (fun q1 h1 => by cases h1)
      obtain ⟨s1, b1, b2, b3, b4, b6⟩ := this
      exact ⟨s1, b1, by rw [pL_err]; exact b2, b3, b4, fun q hq => by rw [pL_err] at hq; cases hq⟩
  have o1 := a3.trans b3
  obtain ⟨st1, hst1⟩ : ∃ st1, st1 = pL (pVtx g n) (g 3) 0 st0 := ⟨_, rfl⟩
  rw [← hst1] at b2 b6
  have K1 : ∀ q, st1 = .ok q → ∃ q0, st0 = .ok q0 := fun q hq => by rw [hst1] at hq; exact pL_ok_of hq
  -- textures
  obtain ⟨s2, c1, c2, c3, c4, c5, c6⟩ : ∃ s2, ab_X2_read_95 p (B + 5) s1 = ab_X2_read_124 p (B + 5) s2 ∧ RdS B g n (pL (fun _ => pTex g n) (g 4) 0 st1) s2 ∧ onl (fun a => a = B + 5 ∨ a = p) s1 s2 ∧ (∀ f, vt_I s2 f p = vt_I s1 f p) ∧ (∀ f, f < 304 → vt_A s2 f p = vt_A s1 f p) ∧ (∀ q, pL (fun _ => pTex g n) (g 4) 0 st1 = .ok q → q = txp g (g 4) ∧ ∀ j, j < g 4 → texF s2 p g j) := by
    cases hst : st1 with
    | ok q =>
      obtain ⟨q0, h0⟩ := K1 q hst
      have k := K0 q0 h0
      have k6 := b6 q hst
      exact c_texs hp6 (T := g 4) (T' := T) k.2.2.2.2.2.2.1 a9 (g 4) 0 sv_fuel s1 _ (by omega) (fuel_ge (by omega)) (hs.of o1.P o1.L o1.E) (by rw [b4]; exact a5) (by rw [← hst]; exact b2) (fun q1 h1 => by cases h1; exact ⟨k.2.2.1, k6.1, fun j hj => by omega⟩)
    | error e =>
      have := c_texs (B := B) (g := g) (n := n) hp6 (T := 0) (T' := T) (by omega) a9 0 0 sv_fuel s1 (.error e) (by omega) (fuel_ge (by omega)) (hs.of o1.P o1.L o1.E) (by rw [b4]; exact a5) (by rw [← hst]; exact b2) (fun q1 h1 => by cases h1)
      obtain ⟨s1, b1, b2, b3, b4, b5, b6⟩ := this
      exact ⟨s1, b1, by rw [pL_err]; exact b2, b3, b4, b5, fun q hq => by rw [pL_err] at hq; cases hq⟩
  have o2 := o1.trans c3
  obtain ⟨st2, hst2⟩ : ∃ st2, st2 = pL (fun _ => pTex g n) (g 4) 0 st1 := ⟨_, rfl⟩
  rw [← hst2] at c2 c6
  have K2 : ∀ q, st2 = .ok q → ∃ q0, st1 = .ok q0 := fun q hq => by rw [hst2] at hq; exact pL_ok_of hq
  -- sectors
  obtain ⟨s3, d1, d2, d3, d6⟩ : ∃ s3, ab_X2_read_124 p (B + 5) s2 = ab_X2_read_158 p (B + 5) s3 ∧ RdS B g n (pL (fun _ => pSec g n (g 4)) (g 5) 0 st2) s3 ∧ onl (fun a => a = B + 5 ∨ (p + 11 ≤ a ∧ a < p + 43)) s2 s3 ∧ (∀ q, pL (fun _ => pSec g n (g 4)) (g 5) 0 st2 = .ok q → q = txp g (g 4) + 9 * g 5 ∧ ∀ j, j < g 5 → secF s3 (p + 11 + j) g (txp g (g 4) + 9 * j)) := by
    cases hst : st2 with
    | ok q =>
      obtain ⟨q1, h1⟩ := K2 q hst
      obtain ⟨q0, h0⟩ := K1 q1 h1
      have k := K0 q0 h0
      have k6 := c6 q hst
      exact c_secs hp6 (T := g 4) (S := g 5) (S' := S) (by omega) k.2.2.2.2.2.2.2.1 a10 (P0 := txp g (g 4)) (g 5) 0 sv_fuel s2 _ (by omega) (fuel_ge (by omega)) (hs.of o2.P o2.L o2.E) (by rw [c4, b4]; exact a6) (fun _ _ => by rw [c4, b4, a5, k.2.2.1]) (by rw [← hst]; exact c2) (fun q1 h1 => by cases h1; exact ⟨k.2.2.2.1, by omega, fun j hj => by omega⟩)
    | error e =>
      have := c_secs (B := B) (g := g) (n := n) hp6 (T := g 4 % 255) (S := 0) (S' := S) (by omega) (by omega) a10 (P0 := 0) 0 0 sv_fuel s2 (.error e) (by omega) (fuel_ge (by omega)) (hs.of o2.P o2.L o2.E) (by rw [c4, b4]; exact a6) (fun q1 h1 => by cases h1) (by rw [← hst]; exact c2) (fun q1 h1 => by cases h1)
      obtain ⟨s1, b1, b2, b3, b6⟩ := this
      exact ⟨s1, b1, by rw [pL_err]; exact b2, b3, fun q hq => by rw [pL_err] at hq; cases hq⟩
  obtain ⟨st3, hst3⟩ : ∃ st3, st3 = pL (fun _ => pSec g n (g 4)) (g 5) 0 st2 := ⟨_, rfl⟩
  rw [← hst3] at d2 d6
  have K3 : ∀ q, st3 = .ok q → ∃ q0, st2 = .ok q0 := fun q hq => by rw [hst3] at hq; exact pL_ok_of hq
  have ob : st3 = pBody g n := by rw [hst3, hst2, hst1, hst0]; rfl
  have KK : ∀ q, st3 = .ok q → (V = g 3 ∧ T = g 4 ∧ S = g 5 ∧ W = g 6 ∧ g 3 ≤ 128 ∧ g 4 ≤ 16 ∧ g 5 ≤ 32 ∧ g 6 ≤ 128) ∧ (∀ j, j < g 3 → vtxF s3 p g j) ∧ (∀ j, j < g 4 → texF s3 p g j) ∧ q = wlp g 0 := by
    intro q hq
    obtain ⟨q2, h2⟩ := K3 q hq
    obtain ⟨q1, h1⟩ := K2 q2 h2
    obtain ⟨q0, h0⟩ := K1 q1 h1
    have np : ¬ (p = B + 5 ∨ (p + 11 ≤ p ∧ p < p + 43)) := by omega
    refine ⟨(K0 q0 h0).2, fun j hj => ?_, fun j hj => ?_, (d6 q hq).1⟩
    · have := (b6 q1 h1).2 j hj
      unfold vtxF
      rw [d3.A np, d3.A np, c5 _ (by omega), c5 _ (by omega)]; exact this
    · have := (c6 q2 h2).2 j hj
      unfold texF
      rw [d3.A np, d3.A np, d3.A np]; exact this
  have o3 : onl (fun a => a = B + 5 ∨ (p ≤ a ∧ a < p + 299)) s s3 := (o2.mono (V := fun a => a = B + 5 ∨ (p ≤ a ∧ a < p + 299)) fun a ha => by omega).trans (d3.mono fun a ha => by omega)
  have I3 : ∀ f, vt_I s3 f p = vt_I s0 f p := fun f => by rw [d3.I (by omega), c4, b4]
  -- walls
  obtain ⟨F', t1, t2, t3⟩ := rd_next d2
  obtain ⟨s4, f1, f2, f3, f6⟩ : ∃ s4, ab_X2_read_158 p (B + 5) s3 = ab_X2_read_197 p (B + 5) (nI F') s4 ∧ RdS B g n (pL (fun _ => pWall g n (g 3) (g 4) (g 5)) (g 6) 0 st3) s4 ∧ onl (fun a => a = B + 5 ∨ (p + 43 ≤ a ∧ a < p + 299)) s3 s4 ∧ (∀ q, pL (fun _ => pWall g n (g 3) (g 4) (g 5)) (g 6) 0 st3 = .ok q → q = wlp g 0 + 14 * g 6 ∧ ∀ j, j < g 6 → wallF s4 (p + 43 + 2 * j) g (wlp g 0 + 14 * j)) := by
    unfold ab_X2_read_158
    rw [slet, t1]
    have hw7 : 7 ≤ wlp g 0 := by
      have : ∀ j, 7 ≤ txp g j := by
        intro j
        induction j with
        | zero => show 7 ≤ 7 + 4 * g 3; omega
        | succ j ih => exact Nat.le_trans ih (by show txp g j ≤ txp g j + 2 + 2 ^ (g (txp g j) + g (txp g j + 1)); rw [Nat.add_assoc]; exact Nat.le_add_right _ _)
      have := this (g 4)
      unfold wlp scp
      omega
    cases hst : st3 with
    | ok q =>
      have k := KK q hst
      exact c_walls hp6 (V := g 3) (T := g 4) (S := g 5) (W := g 6) (W' := W) k.1.2.2.2.2.1 (by omega) (by omega) k.1.2.2.2.2.2.2.2 a11 (P0 := wlp g 0) (fi := nI F') hb hw7 (g 6) 0 sv_fuel s3 _ (by omega) (fuel_ge (by omega)) (hs.of o3.P o3.L o3.E) (by rw [I3]; exact a7) (fun _ _ => by rw [I3, I3, I3, a4, a5, a6, k.1.1, k.1.2.1, k.1.2.2.1]; exact ⟨rfl, rfl, rfl, k.2.1⟩) (by rw [← hst]; exact d2) (fun q1 h1 => by cases h1; exact ⟨k.1.2.2.2.1, by omega, fun j hj => by omega⟩)
    | error e =>
      have := c_walls (B := B) (g := g) (n := n) hp6 (V := 0) (T := 0) (S := 0) (W := 0) (W' := W) (by omega) (by omega) (by omega) (by omega) a11 (P0 := wlp g 0) (fi := nI F') hb hw7 0 0 sv_fuel s3 (.error e) (by omega) (fuel_ge (by omega)) (hs.of o3.P o3.L o3.E) (by rw [I3]; exact a7) (fun q1 h1 => by cases h1) (by rw [← hst]; exact d2) (fun q1 h1 => by cases h1)
      obtain ⟨s1, b1, b2, b3, b6⟩ := this
      exact ⟨s1, b1, by rw [pL_err]; exact b2, b3, fun q hq => by rw [pL_err] at hq; cases hq⟩
  obtain ⟨st4, hst4⟩ : ∃ st4, st4 = pL (fun _ => pWall g n (g 3) (g 4) (g 5)) (g 6) 0 st3 := ⟨_, rfl⟩
  rw [← hst4] at f2 f6
  have K4 : ∀ q, st4 = .ok q → ∃ q0, st3 = .ok q0 := fun q hq => by rw [hst4] at hq; exact pL_ok_of hq
  have o4 := o3.trans (f3.mono (V := fun a => a = B + 5 ∨ (p ≤ a ∧ a < p + 299)) fun a ha => by omega)
  have I4 : ∀ f, vt_I s4 f p = vt_I s0 f p := fun f => by rw [f3.I (by omega), I3]
  have hs4 := hs.of o4.P o4.L o4.E
  -- start
  obtain ⟨s5, i1, i2, i3, i4⟩ := c_start (B := B) (g := g) (n := n) (x := p + 3) (S := S) (by omega) (by omega) (by omega) f2
  have eS : pStartC g n S st4 = pStartC g n (g 5) st4 := by
    cases hst : st4 with
    | ok q =>
      obtain ⟨q3, h3⟩ := K4 q hst
      rw [(KK q3 h3).1.2.2.1]
    | error e => rfl
  rw [eS] at i2 i4
  -- check and end
  obtain ⟨s6, j1, j2, j3⟩ := c_check (p := p) i2
  obtain ⟨s7, k1, k2, k3⟩ := rd_end j2 5 (by decide) (by decide)
  have k2 : RdS B g n (pTail g n st4) s7 := k2
  have o57 : onl (fun a => a = B + 5 ∨ a = p + 3) s4 s7 := (i3.trans j3.w5).trans k3.w5
  have K7 : ∀ q, pTail g n st4 = .ok q → (∃ q4, st4 = .ok q4) ∧ (∃ q5, pStartC g n (g 5) st4 = .ok q5) := by
    intro q hq
    obtain ⟨r1, y1, -⟩ := pbd_ok hq
    obtain ⟨r2, y2, -⟩ := pbd_ok y1
    obtain ⟨r3, y3, -⟩ := pbd_ok y2
    have y3' := y3
    obtain ⟨r4, y4, -⟩ := pbd_ok y3'
    obtain ⟨r5, y5, -⟩ := pbd_ok y4
    obtain ⟨r6, y6, -⟩ := pbd_ok y5
    obtain ⟨r7, y7, -⟩ := pbd_ok y6
    exact ⟨⟨r7, y7⟩, ⟨r3, y3⟩⟩
  have o7 := o4.trans (o57.mono (V := fun a => a = B + 5 ∨ (p ≤ a ∧ a < p + 299)) fun a ha => by omega)
  have I7 : ∀ f, vt_I s7 f p = vt_I s0 f p := fun f => by rw [o57.I (by omega), I4]
  -- overlaps
  obtain ⟨s8, l1, l2, l3⟩ : ∃ s8, ab_X2_findOverlap p (B + 5) (nI F') s7 = some ((), s8) ∧ RdS B g n (pL (pOv (ovW g (wlp g 0)) (wlp g 0)) (g 6) 0 (pTail g n st4)) s8 ∧ onl (· = B + 5) s7 s8 := by
    unfold ab_X2_findOverlap
    have hs7 := hs.of o7.P o7.L o7.E
    by_cases c0 : W = 0
    · refine ⟨s7, ?_, ?_, onl.refl⟩
      · rw [sv_fuel_succ.choose_spec]
        show ab_X2_findOverlap_2b _ p (B + 5) (nI F') 1 s7 = _
        unfold ab_X2_findOverlap_2b
        rw [slet, I7, a7, c0, if_pos (by decide), ab_X2_findOverlap_76]
      · cases hst : pTail g n st4 with
        | error e => rw [pL_err, ← hst]; exact k2
        | ok q =>
          obtain ⟨⟨q4, h4⟩, -⟩ := K7 q hst
          obtain ⟨q3, h3⟩ := K4 q4 h4
          have := (KK q3 h3).1.2.2.2.1
          rw [← this, c0]
          show RdS B g n (.ok q) s7
          rw [← hst]; exact k2
    · have hov := c_ov_out (B := B) (g := g) (n := n) (p := p) (F := wlp g 0) (W := W) hp6 a11 (fi := nI F') (W - 1) 1 sv_fuel s7 (pTail g n st4) (by omega) (fuel_ge (by omega)) hs7 (by rw [I7]; exact a7) k2 (fun q hq j hj => by
        obtain ⟨⟨q4, h4⟩, -⟩ := K7 q hq
        obtain ⟨q3, h3⟩ := K4 q4 h4
        have e := (KK q3 h3).1.2.2.2.1
        exact ((f6 q4 h4).2 j (by omega)).onl o57 (by omega)) (fun q hq => by
        obtain ⟨⟨q4, h4⟩, -⟩ := K7 q hq
        obtain ⟨q3, h3⟩ := K4 q4 h4
        rw [t3 q3 h3, (KK q3 h3).2.2.2])
      obtain ⟨s8, m1, m2, m3⟩ := hov
      refine ⟨s8, m1, ?_, m3⟩
      cases hst : pTail g n st4 with
      | error e => rw [hst, pL_err] at m2; rw [pL_err]; exact m2
      | ok q =>
        obtain ⟨⟨q4, h4⟩, -⟩ := K7 q hst
        obtain ⟨q3, h3⟩ := K4 q4 h4
        have e := (KK q3 h3).1.2.2.2.1
        rw [hst] at m2
        have : pL (pOv (ovW g (wlp g 0)) (wlp g 0)) (g 6) 0 (.ok q) = pL (pOv (ovW g (wlp g 0)) (wlp g 0)) (W - 1) 1 (.ok q) := by
          obtain ⟨w, hw⟩ : ∃ w, W = w + 1 := ⟨W - 1, by omega⟩
          rw [← e, hw]
          rfl
        rw [this]; exact m2
  have o8 := o7.trans (l3.mono (V := fun a => a = B + 5 ∨ (p ≤ a ∧ a < p + 299)) fun a ha => Or.inl ha)
  have eM : pMap (ovW g (wlp g 0)) g n = pL (pOv (ovW g (wlp g 0)) (wlp g 0)) (g 6) 0 (pTail g n st4) := by
    unfold pMap
    rw [hst4, ob]
  refine ⟨s8, ?_, by rw [eM]; exact l2, o8, fun q hq => ?_⟩
  · rw [a1, b1, c1, d1, f1]
    unfold ab_X2_read_197
    simp only [slet]
    rw [hs4.P301, I4, a6, i1, vbs, j1, vbs, show (5 : Int32) = nI 5 from rfl, k1, vbs, l1, vbs]
  · rw [eM] at hq
    obtain ⟨q7, h7⟩ := pL_ok_of hq
    obtain ⟨⟨q4, h4⟩, ⟨q5, h5⟩⟩ := K7 q7 h7
    obtain ⟨q3, h3⟩ := K4 q4 h4
    have k := KK q3 h3
    have np : ¬ (p = B + 5 ∨ p = p + 3) := by omega
    have I8 : ∀ f, vt_I s8 f p = vt_I s0 f p := fun f => by rw [l3.I (by omega), I7]
    have A8 : ∀ f, vt_A s8 f p = vt_A s3 f p := fun f => by rw [l3.A (by omega), o57.A np, f3.A (by omega)]
    refine ⟨⟨by rw [I8, a4, k.1.1], by rw [I8, a5, k.1.2.1], by rw [I8, a6, k.1.2.2.1], by rw [I8, a7, k.1.2.2.2.1]⟩, fun j hj => ?_, fun j hj => ?_, fun j hj => ?_, fun j hj => ?_, ?_⟩
    · unfold vtxF; rw [A8, A8]; exact k.2.1 j hj
    · unfold texF; rw [A8, A8, A8]; exact k.2.2.1 j hj
    · have hj32 := k.1.2.2.2.2.2.2.1
      exact ((((d6 q3 h3).2 j hj).onl f3 (by omega)).onl o57 (by omega)).onl l3 (by omega)
    · have hj128 := k.1.2.2.2.2.2.2.2
      exact (((f6 q4 h4).2 j hj).onl o57 (by omega)).onl l3 (by omega)
    · have := i4 q4 q5 h4 h5
      have e := (f6 q4 h4).1
      rw [e] at this
      exact ((this.onl j3 (by omega)).onl k3 (by omega)).onl l3 (by omega)
end HM
