-- THE CHECK of a map, and where a run begins
def ck1 (g : Nat → Nat) : Nat → Nat
  | 0 => 0
  | k + 1 => (ck1 g k + g k) % 251
def ck2 (g : Nat → Nat) : Nat → Nat
  | 0 => 0
  | k + 1 => (ck2 g k + ck1 g (k + 1)) % 251
theorem ck1_lt (g : Nat → Nat) (k : Nat) : ck1 g k < 251 := by
  cases k with
  | zero => exact (by decide : 0 < 251)
  | succ k => exact Nat.mod_lt _ (by decide)
theorem ck2_lt (g : Nat → Nat) (k : Nat) : ck2 g k < 251 := by
  cases k with
  | zero => exact (by decide : 0 < 251)
  | succ k => exact Nat.mod_lt _ (by decide)
theorem rem_nI {a c : Nat} (ha : a ≤ 100000000) (hc : 0 < c) (hc2 : c ≤ 100000) : nI a - nI a / nI c * nI c = nI (a % c) := by
  rw [nI_z, nI_z c, zI_divP (by omega) (by omega) (by omega) (by omega), zI_mul, zI_sub, nI_z]
  congr 1
  have := Nat.mod_add_div a c
  have e : ((a : Int) / (c : Int)) = ((a / c : Nat) : Int) := rfl
  rw [e, ← Int.natCast_mul, Nat.mul_comm]
  omega
section CK
variable {B : Nat} {g : Nat → Nat} {n p : Nat}
theorem c_check_loop {s : vt_S} {st : PE} {q : Nat} (r : RdS B g n st s) (hq : vt_I s 501 (B + 5) = nI q) (hqn : q ≤ n) : ∀ (d i fu : Nat), i + d = q → d < fu → ab_X2_readCheck_7 fu (B + 5) (nI (ck1 g i)) (nI (ck2 g i)) (nI i) s = (vt_b (ab_X4_expect (B + 5) (nI (ck1 g q)) 4 s) fun _ h2 => vt_b (ab_X4_expect (B + 5) (nI (ck2 g q)) 4 h2) fun _ h3 => some ((), h3)) := by
  have n8 := r.n8
  have hl := r.2.1.len
  obtain ⟨g1, g2, g3, g4⟩ := id r.2.1
  intro d
  induction d with
  | zero =>
    intro i fu hi hf
    obtain ⟨fu, rfl⟩ : ∃ q, fu = q + 1 := ⟨fu - 1, by omega⟩
    obtain rfl : i = q := by omega
    show ab_X2_readCheck_7b _ (B + 5) _ _ _ s = _
    simp only [ab_X2_readCheck_7b, sv_let, hq]
    rw [if_pos (nI_le (by omega) (by omega))]
  | succ d ih =>
    intro i fu hi hf
    obtain ⟨fu, rfl⟩ : ∃ q, fu = q + 1 := ⟨fu - 1, by omega⟩
    show ab_X2_readCheck_7b _ (B + 5) _ _ _ s = _
    simp only [ab_X2_readCheck_7b, sv_let, hq]
    have b1 := ck1_lt g i
    have b2 := ck2_lt g i
    have b3 := ck1_lt g (i + 1)
    have b4 := (g4 i (by omega)).2
    rw [if_neg (nI_ge (by omega) (by omega)), r.1, vl_I_ok (by omega) (by omega), Option.bind_some, (g4 i (by omega)).1, nI_add, show (251 : Int32) = nI 251 from rfl, rem_nI (by omega) (by omega) (by omega), show (ck1 g i + g i) % 251 = ck1 g (i + 1) from rfl, nI_add, rem_nI (by omega) (by omega) (by omega), show (ck2 g i + ck1 g (i + 1)) % 251 = ck2 g (i + 1) from rfl, nI_1]
    exact ih (i + 1) fu (by omega) (by omega)
def pCheckC (g : Nat → Nat) (n : Nat) (st : PE) : PE := pbd (pbd st (fun q => pEq g n (ck1 g q) 4 q)) (fun q => pEq g n (ck2 g (q - 1)) 4 q)
theorem c_check {s : vt_S} {st : PE} (r : RdS B g n st s) : ∃ s1, ab_X2_readCheck p (B + 5) s = some ((), s1) ∧ RdS B g n (pCheckC g n st) s1 ∧ onl (· = B + 5) s s1 := by
  obtain ⟨q, t1, t2, t3⟩ := rd_next r
  have b1 := ck1_lt g q
  have b2 := ck2_lt g q
  have n8 := r.n8
  obtain ⟨s1, a1, a2, a3⟩ := rd_expect r (ck1 g q) 4 (by omega) (by decide) (by decide)
  obtain ⟨s2, c1, c2, c3⟩ := rd_expect a2 (ck2 g q) 4 (by omega) (by decide) (by decide)
  refine ⟨s2, ?_, ?_, a3.trans c3⟩
  · unfold ab_X2_readCheck
    have := c_check_loop r t1 t2 q 0 sv_fuel (by omega) (fuel_ge (by omega))
    rw [show (0 : Int32) = nI (ck1 g 0) from rfl] at *
    refine this.trans ?_
    rw [show (4 : Int32) = nI 4 from rfl, a1, vt_bs, c1, vt_bs]
  · have : pCheckC g n st = pbd (pbd st (pEq g n (ck1 g q) 4)) (pEq g n (ck2 g q) 4) := by
      cases st with
      | error e => rfl
      | ok q0 =>
        have := t3 q0 rfl
        subst this
        unfold pCheckC
        show pbd (pEq g n (ck1 g q) 4 q) _ = pbd (pEq g n (ck1 g q) 4 q) _
        cases z : pEq g n (ck1 g q) 4 q with
        | error e => rfl
        | ok q1 =>
          obtain ⟨u1, u2, u3⟩ := pEq_ok z
          subst u2
          rfl
    rw [this]; exact c2
def pStartC (g : Nat → Nat) (n S : Nat) (st : PE) : PE := pbd (pbd (pbd (pbd st (pTwo n)) (pTwo n)) (pIn g n 0 63)) (pIn g n 0 ((S : Int) - 1))
def startF (s : vt_S) (x : Nat) (g : Nat → Nat) (p : Nat) : Prop := vt_I s 800 x = zI (pr g p) ∧ vt_I s 801 x = zI (pr g (p + 2)) ∧ vt_I s 802 x = nI (g (p + 4)) ∧ vt_I s 803 x = nI (g (p + 5))
theorem pStart_ok {g : Nat → Nat} {n S p q : Nat} (h : pStartC g n S (.ok p) = .ok q) : q = p + 6 ∧ q ≤ n ∧ g (p + 4) ≤ 63 ∧ g (p + 5) < S := by
  obtain ⟨a1, h, e1⟩ := pbd_ok h
  obtain ⟨a2, h, e2⟩ := pbd_ok h
  obtain ⟨a3, e4, e3⟩ := pbd_ok h
  obtain ⟨b1, b2⟩ := pTwo_ok e4
  obtain ⟨c1, c2⟩ := pTwo_ok e3
  obtain ⟨d1, d2, d3, d4⟩ := pIn_ok e2
  obtain ⟨f1, f2, f3, f4⟩ := pIn_ok e1
  subst b2 c2 d2 f2
  rw [show p + 2 + 2 = p + 4 by omega] at *
  rw [show p + 4 + 1 = p + 5 by omega] at *
  exact ⟨by omega, by omega, by omega, by omega⟩
set_option maxHeartbeats 4000000 in
theorem c_start {x S : Nat} {s : vt_S} {st : PE} (h5 : x ≠ B + 5) (h1 : x ≠ B + 1) (hS : S ≤ 256) (h : RdS B g n st s) :
    ∃ s1, ab_X4_readStart (B + 5) x (nI S) s = some ((), s1) ∧ RdS B g n (pStartC g n S st) s1 ∧ onl (fun a => a = B + 5 ∨ a = x) s s1 ∧ (∀ q0 q, st = .ok q0 → pStartC g n S st = .ok q → startF s1 x g q0) := by
  obtain ⟨v1, s1, a1, a2, a3, -, -, a6⟩ := rd_pair h
  have a4 : RdS B g n _ (vu_I s1 800 x (zI v1)) := a2.putI h1 h5
  have o1 : onl (fun a => a = B + 5 ∨ a = x) s (vu_I s1 800 x (zI v1)) := a3.w5.qI
  obtain ⟨v2, s2, b1, b2, b3, -, -, b6⟩ := rd_pair a4
  have b4 : RdS B g n _ (vu_I s2 801 x (zI v2)) := b2.putI h1 h5
  have o2 : onl (fun a => a = B + 5 ∨ a = x) s (vu_I s2 801 x (zI v2)) := (o1.trans b3.w5).qI
  obtain ⟨s3, c1, c2, c3⟩ := rd_within b4 0 63 (by omega) (by omega) (by omega) (by omega)
  obtain ⟨v3, hv3⟩ : ∃ v, v = vOf (pbd (pbd (pbd st (pTwo n)) (pTwo n)) (pIn g n 0 63)) (fun q => g (q - 1)) 0 := ⟨_, rfl⟩
  rw [← hv3] at c1
  have c4 : RdS B g n _ (vu_I s3 802 x (zI v3)) := c2.putI h1 h5
  have o3 : onl (fun a => a = B + 5 ∨ a = x) s (vu_I s3 802 x (zI v3)) := (o2.trans c3.w5).qI
  obtain ⟨s4, d1, d2, d3⟩ := rd_within c4 0 ((S : Int) - 1) (by omega) (by omega) (by omega) (by omega)
  obtain ⟨v4, hv4⟩ : ∃ v, v = vOf (pbd (pbd (pbd (pbd st (pTwo n)) (pTwo n)) (pIn g n 0 63)) (pIn g n 0 ((S : Int) - 1))) (fun q => g (q - 1)) 0 := ⟨_, rfl⟩
  rw [← hv4] at d1
  have d4 : RdS B g n (pStartC g n S st) (vu_I s4 803 x (zI v4)) := d2.putI h1 h5
  have o4 : onl (fun a => a = B + 5 ∨ a = x) s (vu_I s4 803 x (zI v4)) := (o3.trans d3.w5).qI
  refine ⟨_, ?_, d4, o4, fun q0 q hq0 hq => ?_⟩
  · simp only [ab_X4_readStart, sv_let]
    rw [a1, vt_bs, b1, vt_bs, show (0 : Int32) = zI 0 from rfl, show (63 : Int32) = zI 63 from rfl, c1, vt_bs, nI_z, show (1 : Int32) = zI 1 from rfl, zI_sub, d1, vt_bs]
  · obtain ⟨p3, y3, z3⟩ := pbd_ok hq
    obtain ⟨p2, y2, z2⟩ := pbd_ok y3
    obtain ⟨p1, y1, z1⟩ := pbd_ok y2
    obtain ⟨p0, y0, z0⟩ := pbd_ok y1
    rw [hq0] at y0
    cases y0
    obtain ⟨-, u0⟩ := pTwo_ok z0
    obtain ⟨-, u1⟩ := pTwo_ok z1
    obtain ⟨-, u2, -⟩ := pIn_ok z2
    obtain ⟨-, u3, -⟩ := pIn_ok z3
    have V1 : v1 = pr g q0 := by rw [a6 p1 y1, show p1 - 2 = q0 by omega]
    have V2 : v2 = pr g (q0 + 2) := by rw [b6 p2 y2, show p2 - 2 = q0 + 2 by omega]
    have V3 : v3 = g (q0 + 4) := by rw [hv3, y3]; simp only [vOf]; rw [show p3 - 1 = q0 + 4 by omega]
    have hq' : pbd (pbd (pbd (pbd st (pTwo n)) (pTwo n)) (pIn g n 0 63)) (pIn g n 0 ((S : Int) - 1)) = .ok q := hq
    have V4 : v4 = g (q0 + 5) := by rw [hv4, hq']; simp only [vOf]; rw [show q - 1 = q0 + 5 by omega]
    have S2 : ∀ f, vt_I s2 f x = vt_I (vu_I s1 800 x (zI v1)) f x := fun f => b3.I h5
    have S3 : ∀ f, vt_I s3 f x = vt_I (vu_I s2 801 x (zI v2)) f x := fun f => c3.I h5
    have S4 : ∀ f, vt_I s4 f x = vt_I (vu_I s3 802 x (zI v3)) f x := fun f => d3.I h5
    refine ⟨?_, ?_, ?_, ?_⟩
    · rw [I_ne (by omega), S4, I_ne (by omega), S3, I_ne (by omega), S2, I_at, V1]
    · rw [I_ne (by omega), S4, I_ne (by omega), S3, I_at, V2]
    · rw [I_ne (by omega), S4, I_at, V3, nI_z]
    · rw [I_at, V4, nI_z]
end CK
