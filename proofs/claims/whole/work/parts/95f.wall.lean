-- A WALL's bytes
def pWtx (g : Nat → Nat) (n T k q : Nat) : PE := pOr g n (if k < 3 ∨ g (q - 1 - k) ≠ 255 then T else 0) q
def pWallH (g : Nat → Nat) (n V S : Nat) (st : PE) : PE :=
  pbd (pbd (pbd (pbd (pbd st (pIn g n 0 ((V : Int) - 1))) (pIn g n 0 ((V : Int) - 1))) (fun q => pIf (decide (g (q - 2) = g (q - 1))) (3, q - 1) q)) (pIn g n 0 ((S : Int) - 1))) (pOr g n S)
def pWallT (g : Nat → Nat) (n : Nat) (st : PE) : PE := pbd (pbd (pbd (pbd st (pOne n)) (pIn g n 0 3)) (pIn g n 0 5)) (pOne n)
def pWallC (g : Nat → Nat) (n V T S : Nat) (st : PE) : PE := pWallT g n (pL (pWtx g n T) 6 0 (pWallH g n V S st))
def pWall (g : Nat → Nat) (n V T S p : Nat) : PE := pWallC g n V T S (.ok p)
theorem pWallC_eq (g : Nat → Nat) (n V T S : Nat) (st : PE) : pWallC g n V T S st = pbd st (pWall g n V T S) := by
  cases st with
  | ok p => rfl
  | error e => simp only [pWallC, pWallH, pWallT, pbd, pL_err]
def wallV (g : Nat → Nat) (V T S p : Nat) : Prop := g p < V ∧ g (p + 1) < V ∧ g p ≠ g (p + 1) ∧ g (p + 2) < S ∧ (g (p + 3) < S ∨ g (p + 3) = 255) ∧ (∀ k, k < 6 → g (p + 4 + k) < T ∨ g (p + 4 + k) = 255) ∧ (g (p + 3) = 255 → ∀ k, 3 ≤ k → k < 6 → g (p + 4 + k) = 255) ∧ g (p + 11) ≤ 3 ∧ g (p + 12) ≤ 5
theorem pWallH_ok {g : Nat → Nat} {n V S p q : Nat} (h : pWallH g n V S (.ok p) = .ok q) : q = p + 4 ∧ q ≤ n ∧ g p < V ∧ g (p + 1) < V ∧ g p ≠ g (p + 1) ∧ g (p + 2) < S ∧ (g (p + 3) < S ∨ g (p + 3) = 255) := by
  obtain ⟨a1, h, e1⟩ := pbd_ok h
  obtain ⟨a2, h, e2⟩ := pbd_ok h
  obtain ⟨a3, h, e3⟩ := pbd_ok h
  obtain ⟨a4, e5, e4⟩ := pbd_ok h
  obtain ⟨b1, b2, b3, b4⟩ := pIn_ok e5
  obtain ⟨c1, c2, c3, c4⟩ := pIn_ok e4
  obtain ⟨d1, d2⟩ := pIf_ok e3
  obtain ⟨f1, f2, f3, f4⟩ := pIn_ok e2
  obtain ⟨i1, i2, i3⟩ := pOr_ok e1
  have d1 := of_decide_eq_false d1
  subst b2 c2 d2 f2 i2
  rw [show p + 1 + 1 - 2 = p by omega, show p + 1 + 1 - 1 = p + 1 by omega] at d1
  rw [show p + 1 + 1 = p + 2 by omega] at *
  rw [show p + 2 + 1 = p + 3 by omega] at *
  exact ⟨by omega, by omega, by omega, by omega, d1, by omega, i3⟩
theorem pWtx_ok {g : Nat → Nat} {n T : Nat} : ∀ d k p q, pL (pWtx g n T) d k (.ok p) = .ok q → q = p + d ∧ (d ≠ 0 → q ≤ n) ∧ ∀ j, j < d → (g (p + j) < (if k + j < 3 ∨ g (p - 1 - k) ≠ 255 then T else 0) ∨ g (p + j) = 255)
  | 0, k, p, q, h => by cases h; exact ⟨rfl, fun z => absurd rfl z, fun j hj => by omega⟩
  | d + 1, k, p, q, h => by
    have h : pL (pWtx g n T) d (k + 1) (pWtx g n T k p) = .ok q := h
    cases e : pWtx g n T k p with
    | error x => rw [e, pL_err] at h; cases h
    | ok p1 =>
      rw [e] at h
      obtain ⟨a1, a2, a3⟩ := pOr_ok e
      subst a2
      obtain ⟨b1, b2, b3⟩ := pWtx_ok d (k + 1) (p + 1) q h
      refine ⟨by omega, fun _ => ?_, fun j hj => ?_⟩
      · by_cases z : d = 0
        · omega
        · exact b2 z
      · by_cases z : j = 0
        · subst z; exact a3
        · have := b3 (j - 1) (by omega)
          rw [show p + 1 + (j - 1) = p + j by omega, show k + 1 + (j - 1) = k + j by omega, show p + 1 - 1 - (k + 1) = p - 1 - k by omega] at this
          exact this
theorem pWall_ok {g : Nat → Nat} {n V T S p q : Nat} (h : pWall g n V T S p = .ok q) : q = p + 14 ∧ q ≤ n ∧ wallV g V T S p := by
  obtain ⟨a1, h, e1⟩ := pbd_ok h
  obtain ⟨a2, h, e2⟩ := pbd_ok h
  obtain ⟨a3, h, e3⟩ := pbd_ok h
  obtain ⟨a4, h, e4⟩ := pbd_ok h
  cases z : pWallH g n V S (.ok p) with
  | error x => rw [z, pL_err] at h; cases h
  | ok p1 =>
    rw [z] at h
    obtain ⟨b1, b2, b3, b4, b5, b6, b7⟩ := pWallH_ok z
    obtain ⟨c1, c2, c3⟩ := pWtx_ok 6 0 p1 a4 h
    obtain ⟨d1, d2⟩ := pOne_ok e4
    obtain ⟨f1, f2, f3, f4⟩ := pIn_ok e3
    obtain ⟨i1, i2, i3, i4⟩ := pIn_ok e2
    obtain ⟨j1, j2⟩ := pOne_ok e1
    subst b1 c1 d2 f2 i2 j2
    rw [show p + 4 + 6 + 1 = p + 11 by omega] at *
    rw [show p + 11 + 1 = p + 12 by omega] at *
    refine ⟨by omega, by omega, b3, b4, b5, b6, b7, fun k hk => ?_, fun hb k h3 hk => ?_, by omega, by omega⟩
    · have := c3 k hk
      by_cases c : 0 + k < 3 ∨ g (p + 4 - 1 - 0) ≠ 255
      · rw [if_pos c] at this; exact this
      · rw [if_neg c] at this; omega
    · have := c3 k hk
      rw [if_neg (by rintro (a | a); omega; exact a hb)] at this
      omega
/-- what the class keeps of a wall's bytes -/
def wallF (s : vt_S) (x : Nat) (g : Nat → Nat) (p : Nat) : Prop := vt_I s 1200 x = zI (pr g (7 + 4 * g p)) ∧ vt_I s 1201 x = zI (pr g (9 + 4 * g p)) ∧ vt_I s 1202 x = zI (pr g (7 + 4 * g (p + 1))) ∧ vt_I s 1203 x = zI (pr g (9 + 4 * g (p + 1))) ∧ vt_I s 1204 x = nI (g (p + 2)) ∧ vt_I s 1205 x = zI (n255 (g (p + 3))) ∧ (∀ k, k < 6 → vt_A s 1211 x k = zI (n255 (g (p + 4 + k)))) ∧ vt_I s 1206 x = nI (g (p + 10) / 16) ∧ vt_I s 1207 x = nI (g (p + 10) % 16) ∧ vt_I s 1208 x = nI (g (p + 11)) ∧ vt_I s 1209 x = nI (g (p + 12)) ∧ vt_I s 1210 x = nI (g (p + 13))
theorem shr4 : ∀ r : Nat, r < 256 → nI r >>> (4 &&& 31) = nI (r / 16) := by decide +kernel
theorem n255_neg {b : Nat} (h : b < 256) : zI (n255 b) = -1 ↔ b = 255 := by
  unfold n255
  by_cases c : b = 255
  · rw [if_pos c]; exact ⟨fun _ => c, fun _ => rfl⟩
  · rw [if_neg c, show (-1 : Int32) = zI (-1) from rfl, zI_eq (by omega) (by omega) (by omega) (by omega)]
    exact ⟨fun z => by omega, fun z => absurd z c⟩
section PWL
variable {B : Nat} {g : Nat → Nat} {n p : Nat}
theorem c_wtx_loop {x T : Nat} (h5 : x ≠ B + 5) (h1 : x ≠ B + 1) (hp5 : p ≠ B + 5) (hpx : p ≠ x) (hT : T ≤ 255) : ∀ (d k fu : Nat) (s : vt_S) (st : PE), k + d = 6 → d < fu → vt_I s 310 p = nI T → vt_L s 1211 x = 6 → RdS B g n st s → (∀ q, st = .ok q → 6 ≤ q ∧ (vt_I s 1205 x = -1 ↔ g (q - 1 - k) = 255) ∧ ∀ j, j < k → vt_A s 1211 x j = zI (n255 (g (q - k + j)))) →
    ∃ s1 fu1, ab_X2_readWall_116 fu p (B + 5) x (nI k) s = ab_X2_readWall_116b (ab_X2_readWall_116 fu1) p (B + 5) x (nI 6) s1 ∧ RdS B g n (pL (pWtx g n T) d k st) s1 ∧ onl (fun a => a = B + 5 ∨ a = x) s s1 ∧ (∀ f, vt_I s1 f x = vt_I s f x) ∧ ∀ q, pL (pWtx g n T) d k st = .ok q → ∀ j, j < 6 → vt_A s1 1211 x j = zI (n255 (g (q - 6 + j))) := by
  intro d
  induction d with
  | zero =>
    intro k fu s st hk hf ht hL r hd
    obtain ⟨fu, rfl⟩ : ∃ q, fu = q + 1 := ⟨fu - 1, by omega⟩
    obtain rfl : k = 6 := by omega
    exact ⟨s, fu, rfl, r, onl.refl, fun _ => rfl, fun q hq j hj => (hd q hq).2.2 j hj⟩
  | succ d ih =>
    intro k fu s st hk hf ht hL r hd
    obtain ⟨fu, rfl⟩ : ∃ q, fu = q + 1 := ⟨fu - 1, by omega⟩
    obtain ⟨c, hc, hc2⟩ : ∃ c, ab_X2_readWall_116 (fu + 1) p (B + 5) x (nI k) s = ab_X2_readWall_164 (ab_X2_readWall_116 fu) p (B + 5) x (nI k) x (nI k) (B + 5) (nI c) s ∧ c = if k < 3 ∨ vt_I s 1205 x ≠ -1 then T else 0 := by
      refine ⟨_, ?_, rfl⟩
      show ab_X2_readWall_116b _ p (B + 5) x (nI k) s = _
      unfold ab_X2_readWall_116b
      rw [if_neg (show ¬ (6 : Int32) ≤ nI k from nI_ge (b := 6) (by omega) (by omega))]
      by_cases c3 : k < 3
      · rw [if_pos (show nI k < 3 from nI_lt (b := 3) c3 (by omega)), if_pos (Or.inl c3)]
        simp only [ab_X2_readWall_137, ab_X2_readWall_142, sv_let, ht]
        rw [if_neg (by decide)]
      · rw [if_neg (show ¬ nI k < 3 from Int32.not_lt.mpr (nI_le (show 3 ≤ k by omega) (by omega)))]
        simp only [sv_let]
        by_cases c4 : vt_I s 1205 x = -1
        · rw [if_pos c4, if_neg (by rintro (a | a); exact c3 a; exact a c4)]
          simp only [ab_X2_readWall_142, sv_let, ht]
          rw [if_pos trivial]; rfl
        · rw [if_neg c4, if_pos (Or.inr c4)]
          simp only [ab_X2_readWall_137, ab_X2_readWall_142, sv_let, ht]
          rw [if_neg (by decide)]
    have hc3 : c ≤ 255 := by rw [hc2]; split <;> omega
    obtain ⟨s2, a1, a2, a3⟩ := rd_or r c hc3
    obtain ⟨v, hv⟩ : ∃ v, v = vOf (pbd st (pOr g n c)) (fun q => n255 (g (q - 1))) 0 := ⟨_, rfl⟩
    rw [← hv] at a1
    have eq : pbd st (pWtx g n T k) = pbd st (pOr g n c) := by
      cases st with
      | error e => rfl
      | ok q =>
        show pWtx g n T k q = pOr g n c q
        unfold pWtx
        have := (hd q rfl).2.1
        have : c = if k < 3 ∨ g (q - 1 - k) ≠ 255 then T else 0 := by
          rw [hc2]
          by_cases c4 : vt_I s 1205 x = -1
          · by_cases c3 : k < 3
            · rw [if_pos (Or.inl c3), if_pos (Or.inl c3)]
            · rw [if_neg (by rintro (a | a); exact c3 a; exact a c4), if_neg (by rintro (a | a); exact c3 a; exact a (this.mp c4))]
          · rw [if_pos (Or.inr c4), if_pos (Or.inr (fun z => c4 (this.mpr z)))]
        rw [this]
    have b2 : RdS B g n (pbd st (pWtx g n T k)) (vu_A s2 1211 x k (zI v)) := by rw [eq]; exact a2.putA h1 h5
    have o : onl (fun a => a = B + 5 ∨ a = x) s (vu_A s2 1211 x k (zI v)) := a3.w5.qA
    obtain ⟨s1, fu1, e1, e2, e3, e4, e5⟩ := ih (k + 1) fu (vu_A s2 1211 x k (zI v)) _ (by omega) (by omega) (by rw [o.I (fun z => z.elim hp5 hpx)]; exact ht) (by rw [o.L]; exact hL) b2 (fun q hq => by
      rw [eq] at hq
      obtain ⟨q0, y1, y2⟩ := pbd_ok hq
      obtain ⟨u1, u2, u3⟩ := pOr_ok y2
      have hd0 := hd q0 y1
      refine ⟨by omega, ?_, fun j hj => ?_⟩
      · show vt_I s2 1205 x = -1 ↔ _
        rw [a3.I h5, show q - 1 - (k + 1) = q0 - 1 - k by omega]; exact hd0.2.1
      · rw [A_at]
        by_cases z : j = k
        · rw [if_pos z, hv, hq]
          simp only [vOf]
          rw [show q - 1 = q - (k + 1) + j by omega]
        · rw [if_neg z, a3.A h5, hd0.2.2 j (by omega), show q0 - k + j = q - (k + 1) + j by omega])
    refine ⟨s1, fu1, ?_, e2, o.trans e3, fun f => ?_, e5⟩
    · rw [hc, ab_X2_readWall_164, a1, vt_bs, vs_I_ok (by rw [a3.L]; omega) (by rw [a3.L]; omega), Option.bind_some, nI_1]
      exact e1
    · rw [e4]
      show vt_I s2 f x = _
      exact a3.I h5
set_option maxHeartbeats 4000000 in
theorem c_wallT {x : Nat} {s : vt_S} {st : PE} {k : Nat → Nat → Nat → Int32 → vt_S → Option (Unit × vt_S)} (h5 : x ≠ B + 5) (h1 : x ≠ B + 1) (r : RdS B g n st s) :
    ∃ s1, ab_X2_readWall_116b k p (B + 5) x (nI 6) s = some ((), s1) ∧ RdS B g n (pWallT g n st) s1 ∧ onl (fun a => a = B + 5 ∨ a = x) s s1 ∧ (∀ f, f < 1206 → vt_I s1 f x = vt_I s f x) ∧ (∀ f, vt_A s1 f x = vt_A s f x) ∧ ∀ q0 q, st = .ok q0 → pWallT g n st = .ok q → vt_I s1 1206 x = nI (g q0 / 16) ∧ vt_I s1 1207 x = nI (g q0 % 16) ∧ vt_I s1 1208 x = nI (g (q0 + 1)) ∧ vt_I s1 1209 x = nI (g (q0 + 2)) ∧ vt_I s1 1210 x = nI (g (q0 + 3)) := by
  obtain ⟨r1, s1, a1, a2, a3, a4, a5, -⟩ := rd_one r
  have b2 : RdS B g n _ (vu_I (vu_I s1 1206 x (nI (r1 / 16))) 1207 x (nI (r1 % 16))) := (a2.putI h1 h5).putI h1 h5
  have o1 : onl (fun a => a = B + 5 ∨ a = x) s (vu_I (vu_I s1 1206 x (nI (r1 / 16))) 1207 x (nI (r1 % 16))) := a3.w5.qI.qI
  obtain ⟨s2, c1, c2, c3⟩ := rd_within b2 0 3 (by omega) (by omega) (by omega) (by omega)
  obtain ⟨v2, hv2⟩ : ∃ v, v = vOf (pbd (pbd st (pOne n)) (pIn g n 0 3)) (fun q => g (q - 1)) 0 := ⟨_, rfl⟩
  rw [← hv2] at c1
  have c4 : RdS B g n _ (vu_I s2 1208 x (zI v2)) := c2.putI h1 h5
  have o2 : onl (fun a => a = B + 5 ∨ a = x) s (vu_I s2 1208 x (zI v2)) := (o1.trans c3.w5).qI
  obtain ⟨s3, d1, d2, d3⟩ := rd_within c4 0 5 (by omega) (by omega) (by omega) (by omega)
  obtain ⟨v3, hv3⟩ : ∃ v, v = vOf (pbd (pbd (pbd st (pOne n)) (pIn g n 0 3)) (pIn g n 0 5)) (fun q => g (q - 1)) 0 := ⟨_, rfl⟩
  rw [← hv3] at d1
  have d4 : RdS B g n _ (vu_I s3 1209 x (zI v3)) := d2.putI h1 h5
  have o3 : onl (fun a => a = B + 5 ∨ a = x) s (vu_I s3 1209 x (zI v3)) := (o2.trans d3.w5).qI
  obtain ⟨r4, s4, f1, f2, f3, f4, f5, -⟩ := rd_one d4
  have f6 : RdS B g n _ (vu_I s4 1210 x (nI r4)) := f2.putI h1 h5
  have o4 : onl (fun a => a = B + 5 ∨ a = x) s (vu_I s4 1210 x (nI r4)) := (o3.trans f3.w5).qI
  have S1 : ∀ f, vt_I s1 f x = vt_I s f x := fun f => a3.I h5
  have S2 : ∀ f, vt_I s2 f x = vt_I (vu_I (vu_I s1 1206 x (nI (r1 / 16))) 1207 x (nI (r1 % 16))) f x := fun f => c3.I h5
  have S3 : ∀ f, vt_I s3 f x = vt_I (vu_I s2 1208 x (zI v2)) f x := fun f => d3.I h5
  have S4 : ∀ f, vt_I s4 f x = vt_I (vu_I s3 1209 x (zI v3)) f x := fun f => f3.I h5
  refine ⟨_, ?_, f6, o4, fun f hf => ?_, fun f => ?_, fun q0 q hq0 hq => ?_⟩
  · unfold ab_X2_readWall_116b
    rw [if_pos (show (6 : Int32) ≤ nI 6 from nI_le (a := 6) (by omega) (by omega)), a1, vt_bs]
    simp only [sv_let]
    rw [shr4 r1 a4, nI_z r1, zI_and15, show zI ((r1 : Int) % 16) = nI (r1 % 16) by rw [nI_z]; rfl, show (0 : Int32) = zI 0 from rfl, show (3 : Int32) = zI 3 from rfl, c1, vt_bs, show (5 : Int32) = zI 5 from rfl, d1, vt_bs, f1, vt_bs]
  · rw [I_ne (by omega), S4, I_ne (by omega), S3, I_ne (by omega), S2, I_ne (by omega), I_ne (by omega), S1]
  · show vt_A s4 f x = _
    rw [f3.A h5]
    show vt_A s3 f x = _
    rw [d3.A h5]
    show vt_A s2 f x = _
    rw [c3.A h5]
    show vt_A s1 f x = _
    rw [a3.A h5]
  · obtain ⟨p3, y3, z3⟩ := pbd_ok hq
    obtain ⟨p2, y2, z2⟩ := pbd_ok y3
    obtain ⟨p1, y1, z1⟩ := pbd_ok y2
    obtain ⟨p0, y0, z0⟩ := pbd_ok y1
    rw [hq0] at y0
    cases y0
    obtain ⟨-, u0⟩ := pOne_ok z0
    obtain ⟨-, u1, -⟩ := pIn_ok z1
    obtain ⟨-, u2, -⟩ := pIn_ok z2
    obtain ⟨-, u3⟩ := pOne_ok z3
    have V1 : r1 = g q0 := by rw [a5 p1 y1, show p1 - 1 = q0 by omega]
    have V2 : v2 = g (q0 + 1) := by rw [hv2, y2]; simp only [vOf]; rw [show p2 - 1 = q0 + 1 by omega]
    have V3 : v3 = g (q0 + 2) := by rw [hv3, y3]; simp only [vOf]; rw [show p3 - 1 = q0 + 2 by omega]
    have V4 : r4 = g (q0 + 3) := by rw [f5 q hq, show q - 1 = q0 + 3 by omega]
    refine ⟨?_, ?_, ?_, ?_, ?_⟩
    · rw [I_ne (by omega), S4, I_ne (by omega), S3, I_ne (by omega), S2, I_ne (by omega), I_at, V1]
    · rw [I_ne (by omega), S4, I_ne (by omega), S3, I_ne (by omega), S2, I_at, V1]
    · rw [I_ne (by omega), S4, I_ne (by omega), S3, I_at, V2, nI_z]
    · rw [I_ne (by omega), S4, I_at, V3, nI_z]
    · rw [I_at, V4]
end PWL
