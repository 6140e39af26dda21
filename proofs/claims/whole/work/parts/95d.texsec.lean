theorem shl1 {v : Int} (h0 : 0 ≤ v) (h1 : v ≤ 8) : (1 : Int32) <<< (zI v &&& 31) = nI (2 ^ v.toNat) := by
  have h : ∀ q : Nat, q < 9 → (1 : Int32) <<< (zI (q : Int) &&& 31) = nI (2 ^ q) := by decide
  have := h v.toNat (by omega)
  rw [Int.toNat_of_nonneg h0] at this
  exact this
def pTex (g : Nat → Nat) (n p : Nat) : PE := pbd (pbd (pIn g n 0 4 p) (pIn g n 0 4)) (fun q => pL (fun _ => pIn g n 0 15) (2 ^ (g (q - 2) + g (q - 1))) 0 (.ok q))
theorem pL_in_ok {g : Nat → Nat} {n : Nat} {lo hi : Int} : ∀ d i p q, pL (fun _ => pIn g n lo hi) d i (.ok p) = .ok q → q = p + d ∧ (d ≠ 0 → p + d ≤ n) ∧ ∀ j, j < d → lo ≤ g (p + j) ∧ (g (p + j) : Int) ≤ hi
  | 0, i, p, q, h => by cases h; exact ⟨rfl, fun z => absurd rfl z, fun j hj => by omega⟩
  | d + 1, i, p, q, h => by
    have h : pL (fun _ => pIn g n lo hi) d (i + 1) (pIn g n lo hi p) = .ok q := h
    cases e : pIn g n lo hi p with
    | error x => rw [e, pL_err] at h; cases h
    | ok p1 =>
      rw [e] at h
      obtain ⟨a1, a2, a3, a4⟩ := pIn_ok e
      subst a2
      obtain ⟨b1, b2, b3⟩ := pL_in_ok d (i + 1) (p + 1) q h
      refine ⟨by omega, fun _ => ?_, fun j hj => ?_⟩
      · by_cases z : d = 0
        · omega
        · have := b2 z; omega
      · by_cases z : j = 0
        · subst z; exact ⟨a3, a4⟩
        · have := b3 (j - 1) (by omega)
          rw [show p + 1 + (j - 1) = p + j by omega] at this
          exact this
theorem pTex_ok {g : Nat → Nat} {n p q : Nat} (h : pTex g n p = .ok q) : q = p + 2 + 2 ^ (g p + g (p + 1)) ∧ q ≤ n ∧ g p ≤ 4 ∧ g (p + 1) ≤ 4 ∧ ∀ j, j < 2 ^ (g p + g (p + 1)) → g (p + 2 + j) ≤ 15 := by
  obtain ⟨r, h1, h2⟩ := pbd_ok h
  obtain ⟨r2, h3, h4⟩ := pbd_ok h1
  obtain ⟨a1, a2, a3, a4⟩ := pIn_ok h3
  obtain ⟨b1, b2, b3, b4⟩ := pIn_ok h4
  subst a2
  subst b2
  obtain ⟨c1, c2, c3⟩ := pL_in_ok _ _ _ _ h2
  rw [show p + 1 + 1 - 2 = p by omega, show p + 1 + 1 - 1 = p + 1 by omega] at c1 c2 c3
  have := Nat.pow_pos (n := g p + g (p + 1)) (show 0 < 2 by decide)
  have := c2 (by omega)
  refine ⟨by omega, by omega, by omega, by omega, fun j hj => ?_⟩
  have := c3 j hj
  rw [show p + 1 + 1 + j = p + 2 + j by omega] at this
  omega
section RK
variable {B : Nat} {g : Nat → Nat} {n : Nat} {st : PE} {s : vt_S}
theorem RdS.putI {f a : Nat} {v : Int32} (h : RdS B g n st s) (h1 : a ≠ B + 1) (h5 : a ≠ B + 5) : RdS B g n st (vu_I s f a v) := h.keep ((onl.refl (W := (· = a))).pI) (fun z => h1 z.symm) (fun z => h5 z.symm)
theorem RdS.putA {f a i : Nat} {v : Int32} (h : RdS B g n st s) (h1 : a ≠ B + 1) (h5 : a ≠ B + 5) : RdS B g n st (vu_A s f a i v) := h.keep ((onl.refl (W := (· = a))).putA rfl) (fun z => h1 z.symm) (fun z => h5 z.symm)
theorem onl.w5 {s1 : vt_S} {x : Nat} (h : onl (· = B + 5) s s1) : onl (fun a => a = B + 5 ∨ a = x) s s1 := h.mono fun _ => Or.inl
theorem onl.qI {s1 : vt_S} {x f : Nat} {v : Int32} (h : onl (fun a => a = B + 5 ∨ a = x) s s1) : onl (fun a => a = B + 5 ∨ a = x) s (vu_I s1 f x v) := h.putI (Or.inr rfl)
theorem onl.qA {s1 : vt_S} {x f i : Nat} {v : Int32} (h : onl (fun a => a = B + 5 ∨ a = x) s s1) : onl (fun a => a = B + 5 ∨ a = x) s (vu_A s1 f x i v) := h.putA (Or.inr rfl)
end RK
section PT
variable {B : Nat} {g : Nat → Nat} {n p : Nat}
theorem c_tex_loop {i w h T : Nat} (hi : i < 16) (hT : w * h = T) (hT2 : T ≤ 65536) (h5 : p ≠ B + 5) : ∀ (d k fu : Nat) (s : vt_S) (st : PE), k + d = T → d < fu → pS p s → vt_A s 304 p i = nI w → vt_A s 305 p i = nI h → RdS B g n st s → ∃ s1, ab_X2_readTexture_40 fu p (B + 5) (nI i) (nI k) s = some ((), s1) ∧ RdS B g n (pL (fun _ => pIn g n 0 15) d k st) s1 ∧ onl (· = B + 5) s s1 := by
  intro d
  induction d with
  | zero =>
    intro k fu s st hk hf hp hw hh r
    obtain ⟨fu, rfl⟩ : ∃ q, fu = q + 1 := ⟨fu - 1, by omega⟩
    have L4 := hp.L304
    have L5 := hp.L305
    refine ⟨s, ?_, r, onl.refl⟩
    show ab_X2_readTexture_40b _ p (B + 5) (nI i) (nI k) s = _
    unfold ab_X2_readTexture_40b
    rw [vl_I_ok (by omega) (by omega), Option.bind_some, vl_I_ok (by omega) (by omega), Option.bind_some, hw, hh, pk_mul, hT, if_pos (nI_le (by omega) (by omega)), ab_X2_readTexture_78]
  | succ d ih =>
    intro k fu s st hk hf hp hw hh r
    obtain ⟨fu, rfl⟩ : ∃ q, fu = q + 1 := ⟨fu - 1, by omega⟩
    have L4 := hp.L304
    have L5 := hp.L305
    show ∃ s1, ab_X2_readTexture_40b _ p (B + 5) (nI i) (nI k) s = _ ∧ _
    unfold ab_X2_readTexture_40b
    rw [vl_I_ok (by omega) (by omega), Option.bind_some, vl_I_ok (by omega) (by omega), Option.bind_some, hw, hh, pk_mul, hT, if_neg (nI_ge (by omega) (by omega)), rd_well r, vt_bs]
    cases st with
    | error e =>
      refine ⟨s, ?_, by rw [pL_err]; exact r, onl.refl⟩
      rw [if_pos pWell_err, ab_X2_readTexture_78]
    | ok q =>
      rw [if_neg pWell_ok]
      obtain ⟨s2, a1, a2, a3⟩ := rd_within r 0 15 (by omega) (by omega) (by omega) (by omega)
      rw [show (0 : Int32) = zI 0 from rfl, show (15 : Int32) = zI 15 from rfl, a1, vt_bs, nI_1]
      obtain ⟨s1, e1, e2, e3⟩ := ih (k + 1) fu s2 _ (by omega) (by omega) (hp.of a3.P a3.L a3.E) (by rw [a3.A h5]; exact hw) (by rw [a3.A h5]; exact hh) a2
      exact ⟨s1, e1, e2, a3.trans e3⟩
theorem vOf_rng {st : PE} {v : Nat → Int} {els lo hi : Int} (h : ∀ q, st = .ok q → lo ≤ v q ∧ v q ≤ hi) (h1 : lo ≤ els) (h2 : els ≤ hi) : lo ≤ vOf st v els ∧ vOf st v els ≤ hi := by
  cases st with
  | ok q => exact h q rfl
  | error e => exact ⟨h1, h2⟩
theorem in_rng {st : PE} {lo hi : Int} (h : lo ≤ hi) : lo ≤ vOf (pbd st (pIn g n lo hi)) (fun q => g (q - 1)) lo ∧ vOf (pbd st (pIn g n lo hi)) (fun q => g (q - 1)) lo ≤ hi := by
  refine vOf_rng (fun q hq => ?_) (by omega) h
  obtain ⟨r, -, h2⟩ := pbd_ok hq
  obtain ⟨-, b2, b3, b4⟩ := pIn_ok h2
  subst b2
  exact ⟨b3, b4⟩
theorem c_tex {i : Nat} {s : vt_S} {st : PE} (hi : i < 16) (h5 : p ≠ B + 5) (h1 : p ≠ B + 1) (hp : pS p s) (h : RdS B g n st s) :
    ∃ s1, ab_X2_readTexture p (B + 5) (nI i) s = some ((), s1) ∧ RdS B g n (pbd st (pTex g n)) s1 ∧ onl (fun a => a = B + 5 ∨ a = p) s s1 ∧ (∀ f, vt_I s1 f p = vt_I s f p) ∧ (∀ f j, ¬ (f = 304 ∨ f = 305 ∨ f = 306) ∨ j ≠ i → vt_A s1 f p j = vt_A s f p j) ∧
      (∀ q0 q, st = .ok q0 → pbd st (pTex g n) = .ok q → vt_A s1 304 p i = nI (2 ^ g q0) ∧ vt_A s1 305 p i = nI (2 ^ g (q0 + 1)) ∧ vt_A s1 306 p i = nI (q0 + 2)) := by
  have L4 := hp.L304
  have L5 := hp.L305
  have L6 := hp.L306
  obtain ⟨s1, a1, a2, a3⟩ := rd_within h 0 4 (by omega) (by omega) (by omega) (by omega)
  obtain ⟨x, hx⟩ : ∃ x, x = vOf (pbd st (pIn g n 0 4)) (fun q => g (q - 1)) 0 := ⟨_, rfl⟩
  have xr := in_rng (g := g) (n := n) (st := st) (show (0 : Int) ≤ 4 by omega)
  rw [← hx] at a1 xr
  have r1 : RdS B g n _ (vu_A s1 304 p i (nI (2 ^ x.toNat))) := a2.putA h1 h5
  obtain ⟨s2, b1, b2, b3⟩ := rd_within r1 0 4 (by omega) (by omega) (by omega) (by omega)
  obtain ⟨y, hy⟩ : ∃ y, y = vOf (pbd (pbd st (pIn g n 0 4)) (pIn g n 0 4)) (fun q => g (q - 1)) 0 := ⟨_, rfl⟩
  have yr := in_rng (g := g) (n := n) (st := pbd st (pIn g n 0 4)) (show (0 : Int) ≤ 4 by omega)
  rw [← hy] at b1 yr
  have r2 : RdS B g n _ (vu_A s2 305 p i (nI (2 ^ y.toNat))) := b2.putA h1 h5
  obtain ⟨q9, t1, t2, t3⟩ := rd_next r2
  have o2 : onl (fun a => a = B + 5 ∨ a = p) s (vu_A (vu_A s2 305 p i (nI (2 ^ y.toNat))) 306 p i (nI q9)) := ((a3.w5.qA.trans b3.w5).qA).qA
  have r3 : RdS B g n _ (vu_A (vu_A s2 305 p i (nI (2 ^ y.toNat))) 306 p i (nI q9)) := r2.putA h1 h5
  have w1 : vt_A (vu_A (vu_A s2 305 p i (nI (2 ^ y.toNat))) 306 p i (nI q9)) 304 p i = nI (2 ^ x.toNat) := by
    rw [A_ne (by omega), A_ne (by omega), b3.A h5, A_at, if_pos rfl]
  have w2 : vt_A (vu_A (vu_A s2 305 p i (nI (2 ^ y.toNat))) 306 p i (nI q9)) 305 p i = nI (2 ^ y.toNat) := by
    rw [A_ne (by omega), A_at, if_pos rfl]
  have hxy : 2 ^ (x.toNat + y.toNat) ≤ 2 ^ 8 := Nat.pow_le_pow_right (by decide) (by omega)
  obtain ⟨s3, e1, e2, e3⟩ := c_tex_loop (B := B) (g := g) (n := n) (w := 2 ^ x.toNat) (h := 2 ^ y.toNat) (T := 2 ^ (x.toNat + y.toNat)) hi (Nat.pow_add 2 _ _).symm (by omega) h5 (2 ^ (x.toNat + y.toNat)) 0 sv_fuel _ _ (by omega) (fuel_ge (by omega)) (hp.of o2.P o2.L o2.E) w1 w2 r3
  have o3 := o2.trans e3.w5
  refine ⟨s3, ?_, ?_, o3, fun f => ?_, fun f j hfj => ?_, fun q0 q hq0 hq => ?_⟩
  · simp only [ab_X2_readTexture, sv_let]
    rw [show (0 : Int32) = zI 0 from rfl, show (4 : Int32) = zI 4 from rfl, a1, vt_bs, shl1 (by omega) (by omega), vs_I_ok (by rw [a3.L]; omega) (by rw [a3.L]; omega), Option.bind_some, b1, vt_bs, shl1 (by omega) (by omega), vs_I_ok (by rw [b3.L]; show i < vt_L s1 305 p; rw [a3.L]; omega) (by rw [b3.L]; show vt_L s1 305 p < _; rw [a3.L]; omega), Option.bind_some]
    rw [t1, vs_I_ok (by show i < vt_L s2 306 p; rw [b3.L]; show i < vt_L s1 306 p; rw [a3.L]; omega) (by show vt_L s2 306 p < _; rw [b3.L]; show vt_L s1 306 p < _; rw [a3.L]; omega), Option.bind_some]
    exact e1
  · have : pbd st (pTex g n) = pL (fun _ => pIn g n 0 15) (2 ^ (x.toNat + y.toNat)) 0 (pbd (pbd st (pIn g n 0 4)) (pIn g n 0 4)) := by
      cases z : pbd (pbd st (pIn g n 0 4)) (pIn g n 0 4) with
      | error e =>
        rw [pL_err]
        cases st with
        | error e2 => rw [← z]; rfl
        | ok q0 =>
          show pbd (pbd (pIn g n 0 4 q0) (pIn g n 0 4)) _ = _
          rw [show pbd (pIn g n 0 4 q0) (pIn g n 0 4) = .error e from z]; rfl
      | ok q =>
        obtain ⟨q1, z1, z2⟩ := pbd_ok z
        obtain ⟨q0, z3, z4⟩ := pbd_ok z1
        obtain ⟨u1, u2, -⟩ := pIn_ok z2
        obtain ⟨u3, u4, -⟩ := pIn_ok z4
        have hx2 : x = g q0 := by rw [hx, z1]; show (g (q1 - 1) : Int) = _; rw [u4]; rfl
        have hy2 : y = g (q0 + 1) := by rw [hy, z]; show (g (q - 1) : Int) = _; rw [u2, u4]; rfl
        rw [z3]
        show pbd (pbd (pIn g n 0 4 q0) (pIn g n 0 4)) _ = _
        rw [show pbd (pIn g n 0 4 q0) (pIn g n 0 4) = .ok q by rw [z4]; exact z2]
        show pL _ (2 ^ (g (q - 2) + g (q - 1))) 0 _ = _
        rw [hx2, hy2, show q - 2 = q0 by omega, show q - 1 = q0 + 1 by omega]
        rfl
    rw [this]; exact e2
  · rw [e3.I h5]
    show vt_I s2 f p = _
    rw [b3.I h5]
    show vt_I s1 f p = _
    rw [a3.I h5]
  · have k1 : vt_A s3 f p j = vt_A (vu_A (vu_A s2 305 p i (nI (2 ^ y.toNat))) 306 p i (nI q9)) f p j := by rw [e3.A h5]
    have k2 : vt_A s2 f p j = vt_A (vu_A s1 304 p i (nI (2 ^ x.toNat))) f p j := by rw [b3.A h5]
    have k3 : vt_A s1 f p j = vt_A s f p j := by rw [a3.A h5]
    rw [k1]
    show vu3 (vu3 (vt_A s2) 305 p i _) 306 p i _ f p j = _
    rw [vu3_ap, if_neg (by omega), vu3_ap, if_neg (by omega), k2]
    show vu3 (vt_A s1) 304 p i _ f p j = _
    rw [vu3_ap, if_neg (by omega), k3]
  · subst hq0
    obtain ⟨q3, z1, z2⟩ := pbd_ok hq
    cases z1
    obtain ⟨r3, z3, z4⟩ := pbd_ok z2
    obtain ⟨r4, z5, z6⟩ := pbd_ok z3
    obtain ⟨u1, u2, -⟩ := pIn_ok z5
    obtain ⟨u3, u4, -⟩ := pIn_ok z6
    have z7 : pbd (.ok q0) (pIn g n 0 4) = .ok r4 := z5
    have z8 : pbd (pbd (.ok q0) (pIn g n 0 4)) (pIn g n 0 4) = .ok r3 := z3
    have hx2 : x = g q0 := by rw [hx, z7]; show (g (r4 - 1) : Int) = _; rw [u2]; rfl
    have hy2 : y = g (q0 + 1) := by rw [hy, z8]; show (g (r3 - 1) : Int) = _; rw [u4, u2]; rfl
    have h9 := t3 r3 z8
    refine ⟨?_, ?_, ?_⟩
    · rw [e3.A h5, w1, hx2]; rfl
    · rw [e3.A h5, w2, hy2]; rfl
    · rw [e3.A h5, A_at, if_pos rfl, h9, u4, u2]
end PT
