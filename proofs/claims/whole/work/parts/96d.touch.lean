-- WALLS that touch, as the reference has it
def vX (g : Nat → Nat) (v : Nat) : Int := pr g (7 + 4 * v)
def vY (g : Nat → Nat) (v : Nat) : Int := pr g (9 + 4 * v)
/-- the side of vertex v of the line from vertex a to vertex b -/
def sdV (g : Nat → Nat) (a b v : Nat) : Int := sideZ (vX g a) (vY g a) (vX g b) (vY g b) (vX g v) (vY g v)
def lieV (g : Nat → Nat) (a b v : Nat) : Bool := decide (v ≠ a ∧ v ≠ b ∧ sdV g a b v = 0 ∧ (vX g a - vX g v) * (vX g b - vX g v) + (vY g a - vY g v) * (vY g b - vY g v) < 0)
def tchV (g : Nat → Nat) (a b c d : Nat) : Bool :=
  decide ((a = c ∨ a = d) ∧ (b = c ∨ b = d)) || decide (sgn (sdV g a b c) * sgn (sdV g a b d) < 0 ∧ sgn (sdV g c d a) * sgn (sdV g c d b) < 0) || lieV g a b c || lieV g a b d || lieV g c d a || lieV g c d b
/-- walls w and v touch, as the reference has it -/
def ovR (g : Nat → Nat) (F w v : Nat) : Bool := tchV g (g (F + 14 * v)) (g (F + 14 * v + 1)) (g (F + 14 * w)) (g (F + 14 * w + 1))
theorem vX_rng (g : Nat → Nat) (v : Nat) : sh16 (vX g v) ∧ sh16 (vY g v) := ⟨pr_rng _ _, pr_rng _ _⟩
section TC
variable {B : Nat} {g : Nat → Nat} {n : Nat} {s : vt_S}
theorem lu_vof {p : Nat} {e : Nat} (h : rIn B s g n) (hL : vt_L s 1500 (B + 640) = 8192) (he : p + e < n) : ab_X14_vertexOf (B + 640) (nI p) (nI e) s = some (nI (g (p + e)), s) := by
  have := h.2.1
  unfold ab_X14_vertexOf
  rw [nI_add, vl_I_ok (by omega) (by omega), obs, (h.2.2 _ he).1, sg8_and (h.2.2 _ he).2]
theorem lu_side {p v : Nat} (h : rIn B s g n) (hL : vt_L s 1500 (B + 640) = 8192) (hp : p + 1 < n) (ha : 10 + 4 * g p < n) (hb : 10 + 4 * g (p + 1) < n) (hv : 10 + 4 * v < n) : ab_X14_side (B + 640) (nI p) (nI v) s = some (zI (sgn (sdV g (g p) (g (p + 1)) v)), s) := by
  have v0 : ab_X14_vertexOf (B + 640) (nI p) 0 s = some (nI (g p), s) := lu_vof (e := 0) h hL (by omega)
  have v1 : ab_X14_vertexOf (B + 640) (nI p) 1 s = some (nI (g (p + 1)), s) := lu_vof (e := 1) h hL hp
  have w : ∀ u : Nat, 10 + 4 * u < n → ab_X14_pair 1500 (B + 640) (7 + 4 * nI u) s = some (zI (vX g u), s) ∧ ab_X14_pair 1500 (B + 640) (9 + 4 * nI u) s = some (zI (vY g u), s) := by
    intro u hu
    rw [(i74 u).1, (i74 u).2]
    exact ⟨lu_pair h hL (by omega), lu_pair h hL (by omega)⟩
  have wa := w _ ha
  have wb := w _ hb
  have wv := w _ hv
  clear w
  have ra := vX_rng g (g p)
  have rb := vX_rng g (g (p + 1))
  have rv := vX_rng g v
  show _ = some (zI (sgn (sideZ (vX g (g p)) (vY g (g p)) (vX g (g (p + 1))) (vY g (g (p + 1))) (vX g v) (vY g v))), s)
  generalize vX g (g p) = ax at *
  generalize vY g (g p) = ay at *
  generalize vX g (g (p + 1)) = bx at *
  generalize vY g (g (p + 1)) = bv at *
  generalize vX g v = x at *
  generalize vY g v = y at *
  obtain ⟨⟨a1, a2⟩, a3, a4⟩ := ra
  obtain ⟨⟨b1, b2⟩, b3, b4⟩ := rb
  obtain ⟨⟨c1, c2⟩, c3, c4⟩ := rv
  have r := side_rng (ax := ax) (ay := ay) (bx := bx) (bv := bv) (x := x) (y := y) ⟨a1, a2⟩ ⟨a3, a4⟩ ⟨b1, b2⟩ ⟨b3, b4⟩ (by omega) (by omega)
  unfold ab_X14_side ab_X14_cross
  rw [v0, vbs, wa.1, vbs, v0, vbs, wa.2, vbs, v1, vbs, wb.1, vbs, v1, vbs, wb.2, vbs, wv.1, vbs, wv.2, vbs, zI_wide (by omega) (by omega), zI_wide (by omega) (by omega), zI_wide (by omega) (by omega), zI_wide (by omega) (by omega), zI_wide (by omega) (by omega), zI_wide (by omega) (by omega), zL_sub, zL_sub, zL_sub, zL_sub, zL_mul, zL_mul, zL_sub, vbs]
  rw [show (bx - ax) * (y - ay) - (bv - ay) * (x - ax) = sideZ ax ay bx bv x y from rfl]
  generalize sideZ ax ay bx bv x y = u at *
  have e1 := lg_ge (a := u) (b := 0) (by omega) (by omega) (by omega) (by omega)
  have e2 := lg_le (a := u) (b := 0) (by omega) (by omega) (by omega) (by omega)
  rw [show (0 : Int64) = zL 0 from rfl, show (0 : Int32) = zI 0 from rfl]
  unfold sgn
  by_cases x1 : u < 0
  · rw [if_neg (by rw [e1]; omega), if_pos x1]; rfl
  · rw [if_pos (by rw [e1]; omega), if_neg x1]
    by_cases x2 : u = 0
    · rw [if_pos (by rw [e2]; omega), if_pos x2]; rfl
    · rw [if_neg (by rw [e2]; omega), if_neg x2]; rfl
theorem lu_lies {p v : Nat} (h : rIn B s g n) (hL : vt_L s 1500 (B + 640) = 8192) (hp : p + 1 < n) (ha : 10 + 4 * g p < n) (hb : 10 + 4 * g (p + 1) < n) (hv : 10 + 4 * v < n) : ab_X14_lies (B + 640) (nI p) (nI v) s = some (bI (lieV g (g p) (g (p + 1)) v), s) := by
  have hn := h.2.1
  have v0 : ab_X14_vertexOf (B + 640) (nI p) 0 s = some (nI (g p), s) := lu_vof (e := 0) h hL (by omega)
  have v1 : ab_X14_vertexOf (B + 640) (nI p) 1 s = some (nI (g (p + 1)), s) := lu_vof (e := 1) h hL hp
  have w : ∀ u : Nat, 10 + 4 * u < n → ab_X14_pair 1500 (B + 640) (7 + 4 * nI u) s = some (zI (vX g u), s) ∧ ab_X14_pair 1500 (B + 640) (9 + 4 * nI u) s = some (zI (vY g u), s) := by
    intro u hu
    rw [(i74 u).1, (i74 u).2]
    exact ⟨lu_pair h hL (by omega), lu_pair h hL (by omega)⟩
  have wa := w _ ha
  have wb := w _ hb
  have wv := w _ hv
  clear w
  have ra := vX_rng g (g p)
  have rb := vX_rng g (g (p + 1))
  have rv := vX_rng g v
  have hside := lu_side h hL hp ha hb hv
  unfold ab_X14_lies lieV
  rw [v0, vbs, v1, vbs]
  generalize sdV g (g p) (g (p + 1)) v = u at *
  generalize vX g (g p) = ax at *
  generalize vY g (g p) = ay at *
  generalize vX g (g (p + 1)) = bx at *
  generalize vY g (g (p + 1)) = bv at *
  generalize vX g v = x at *
  generalize vY g v = y at *
  obtain ⟨⟨a1, a2⟩, a3, a4⟩ := ra
  obtain ⟨⟨b1, b2⟩, b3, b4⟩ := rb
  obtain ⟨⟨c1, c2⟩, c3, c4⟩ := rv
  have m1 := mulb (a := ax - x) (b := bx - x) (A := 65535) (C := 65535) (by omega) (by omega) (by omega) (by omega)
  have m2 := mulb (a := ay - y) (b := bv - y) (A := 65535) (C := 65535) (by omega) (by omega) (by omega) (by omega)
  by_cases c1 : v = g p
  · rw [if_pos (by rw [c1]), decide_eq_false (fun z => z.1 c1)]; rfl
  rw [if_neg (by rw [nI_eq (by omega) (by omega)]; exact c1)]
  by_cases c2 : v = g (p + 1)
  · rw [if_pos (by rw [c2]), decide_eq_false (fun z => z.2.1 c2)]; rfl
  rw [if_neg (by rw [nI_eq (by omega) (by omega)]; exact c2), hside, vbs]
  have sg := sgn_rng u
  have es : (zI (sgn u) = 0) = (u = 0) := by
    rw [show (0 : Int32) = zI 0 from rfl, zI_eq (by omega) (by omega) (by omega) (by omega)]
    unfold sgn
    exact propext ⟨fun z => by split at z <;> (try split at z) <;> omega, fun z => by rw [z]; rfl⟩
  by_cases c3 : u = 0
  · rw [if_pos (by rw [es]; exact c3), wv.1, vbs, wv.2, vbs, wa.1, vbs, wb.1, vbs, wa.2, vbs, wb.2, vbs, zI_wide (by omega) (by omega), zI_wide (by omega) (by omega), zI_wide (by omega) (by omega), zI_wide (by omega) (by omega), zI_wide (by omega) (by omega), zI_wide (by omega) (by omega), zL_sub, zL_sub, zL_sub, zL_sub, zL_mul, zL_mul, zL_add, show (0 : Int64) = zL 0 from rfl, show (0 : Int32) = zI 0 from rfl]
    have e1 := lg_ge (a := (ax - x) * (bx - x) + (ay - y) * (bv - y)) (b := 0) (by omega) (by omega) (by omega) (by omega)
    by_cases c4 : 0 ≤ (ax - x) * (bx - x) + (ay - y) * (bv - y)
    · rw [if_pos (by rw [e1]; exact c4), decide_eq_false (fun z => by have := z.2.2.2; omega)]; rfl
    · rw [if_neg (by rw [e1]; exact c4), decide_eq_true ⟨c1, c2, c3, by omega⟩]; rfl
  · rw [if_neg (by rw [es]; exact c3), decide_eq_false (fun z => c3 z.2.2.1)]; rfl
theorem lu_touch {p q : Nat} (h : rIn B s g n) (hL : vt_L s 1500 (B + 640) = 8192) (hp : p + 1 < n) (hq : q + 1 < n) (ha : 10 + 4 * g p < n) (hb : 10 + 4 * g (p + 1) < n) (hc : 10 + 4 * g q < n) (hd : 10 + 4 * g (q + 1) < n) : ab_X14_touch (B + 640) (nI p) (nI q) s = some (bI (tchV g (g p) (g (p + 1)) (g q) (g (q + 1))), s) := by
  have hn := h.2.1
  have v0 : ab_X14_vertexOf (B + 640) (nI p) 0 s = some (nI (g p), s) := lu_vof (e := 0) h hL (by omega)
  have v1 : ab_X14_vertexOf (B + 640) (nI p) 1 s = some (nI (g (p + 1)), s) := lu_vof (e := 1) h hL hp
  have v2 : ab_X14_vertexOf (B + 640) (nI q) 0 s = some (nI (g q), s) := lu_vof (e := 0) h hL (by omega)
  have v3 : ab_X14_vertexOf (B + 640) (nI q) 1 s = some (nI (g (q + 1)), s) := lu_vof (e := 1) h hL hq
  have s1 := lu_side h hL hp ha hb hc
  have s2 := lu_side h hL hp ha hb hd
  have s3 := lu_side h hL hq hc hd ha
  have s4 := lu_side h hL hq hc hd hb
  have l1 := lu_lies h hL hp ha hb hc
  have l2 := lu_lies h hL hp ha hb hd
  have l3 := lu_lies h hL hq hc hd ha
  have l4 := lu_lies h hL hq hc hd hb
  generalize g p = a at *
  generalize g (p + 1) = b at *
  generalize g q = c at *
  generalize g (q + 1) = d at *
  have eq : ∀ {x y : Nat}, 10 + 4 * x < n → 10 + 4 * y < n → (nI x = nI y) = (x = y) := fun hx hy => by rw [nI_eq (by omega) (by omega)]
  have r1 := sgn_rng (sdV g a b c)
  have r2 := sgn_rng (sdV g a b d)
  have r3 := sgn_rng (sdV g c d a)
  have r4 := sgn_rng (sdV g c d b)
  have m1 := mulb (A := 1) (C := 1) r1.1 r1.2 r2.1 r2.2
  have m2 := mulb (A := 1) (C := 1) r3.1 r3.2 r4.1 r4.2
  have t104 : ∀ (u v : Bool), ab_X14_touch_104 (B + 640) (nI p) (nI q) (nI a) (nI b) (nI c) (nI d) (bI u) (bI v) s = some (bI (u || v || lieV g a b c || lieV g a b d || lieV g c d a || lieV g c d b), s) := by
    intro u v
    unfold ab_X14_touch_104 ab_X14_touch_155 ab_X14_touch_160
    cases u with
    | true => rw [if_neg (by decide)]; rfl
    | false =>
      rw [if_pos (by decide)]
      cases v with
      | true => rw [if_neg (by decide)]; rfl
      | false =>
        rw [if_pos (by decide), l1, vbs]
        cases lieV g a b c with
        | true => rw [if_neg (by decide)]; rfl
        | false =>
          rw [if_pos (by decide), l2, vbs]
          cases lieV g a b d with
          | true => rw [if_neg (by decide)]; rfl
          | false =>
            rw [if_pos (by decide), l3, vbs]
            cases lieV g c d a with
            | true => rw [if_neg (by decide)]; rfl
            | false =>
              rw [if_pos (by decide), l4, vbs]
              cases lieV g c d b with
              | true => rw [if_neg (by decide)]; rfl
              | false => rw [if_pos (by decide)]; rfl
  have t62 : ∀ u : Bool, ab_X14_touch_62 (B + 640) (nI p) (nI q) (nI a) (nI b) (nI c) (nI d) (bI u) s = some (bI (u || decide (sgn (sdV g a b c) * sgn (sdV g a b d) < 0 ∧ sgn (sdV g c d a) * sgn (sdV g c d b) < 0) || lieV g a b c || lieV g a b d || lieV g c d a || lieV g c d b), s) := by
    intro u
    unfold ab_X14_touch_62 ab_X14_touch_103
    rw [s1, vbs, s2, vbs, zI_mul, s3, vbs, s4, vbs, zI_mul, show (0 : Int32) = bI false from rfl, show (1 : Int32) = bI true from rfl, t104, t104]
    have e1 := zI_le (a := 0) (b := sgn (sdV g a b c) * sgn (sdV g a b d)) (by omega) (by omega) (by omega) (by omega)
    have e2 := zI_le (a := 0) (b := sgn (sdV g c d a) * sgn (sdV g c d b)) (by omega) (by omega) (by omega) (by omega)
    by_cases x1 : 0 ≤ sgn (sdV g a b c) * sgn (sdV g a b d)
    · rw [if_pos (show bI false ≤ zI _ by rw [show bI false = zI 0 from rfl, e1]; exact x1), decide_eq_false (fun z => by have := z.1; omega)]
    · rw [if_neg (show ¬ bI false ≤ zI _ by rw [show bI false = zI 0 from rfl, e1]; exact x1)]
      by_cases x2 : 0 ≤ sgn (sdV g c d a) * sgn (sdV g c d b)
      · rw [if_pos (show bI false ≤ zI _ by rw [show bI false = zI 0 from rfl, e2]; exact x2), decide_eq_false (fun z => by have := z.2; omega)]
      · rw [if_neg (show ¬ bI false ≤ zI _ by rw [show bI false = zI 0 from rfl, e2]; exact x2), decide_eq_true ⟨by omega, by omega⟩]
  have t57 : ab_X14_touch_57 (B + 640) (nI p) (nI q) (nI a) (nI b) (nI c) (nI d) s = some (bI (true || decide (sgn (sdV g a b c) * sgn (sdV g a b d) < 0 ∧ sgn (sdV g c d a) * sgn (sdV g c d b) < 0) || lieV g a b c || lieV g a b d || lieV g c d a || lieV g c d b), s) := t62 true
  have t61 : ab_X14_touch_61 (B + 640) (nI p) (nI q) (nI a) (nI b) (nI c) (nI d) s = some (bI (false || decide (sgn (sdV g a b c) * sgn (sdV g a b d) < 0 ∧ sgn (sdV g c d a) * sgn (sdV g c d b) < 0) || lieV g a b c || lieV g a b d || lieV g c d a || lieV g c d b), s) := t62 false
  unfold ab_X14_touch
  rw [v0, vbs, v1, vbs, v2, vbs, v3, vbs]
  unfold ab_X14_touch_43 tchV
  rw [t57, t61]
  by_cases c1 : (a = c ∨ a = d) ∧ (b = c ∨ b = d)
  · rw [decide_eq_true c1]
    have x2 : (if nI b = nI c then some (bI (true || decide (sgn (sdV g a b c) * sgn (sdV g a b d) < 0 ∧ sgn (sdV g c d a) * sgn (sdV g c d b) < 0) || lieV g a b c || lieV g a b d || lieV g c d a || lieV g c d b), s) else if nI b = nI d then some (bI (true || decide (sgn (sdV g a b c) * sgn (sdV g a b d) < 0 ∧ sgn (sdV g c d a) * sgn (sdV g c d b) < 0) || lieV g a b c || lieV g a b d || lieV g c d a || lieV g c d b), s) else some (bI (false || decide (sgn (sdV g a b c) * sgn (sdV g a b d) < 0 ∧ sgn (sdV g c d a) * sgn (sdV g c d b) < 0) || lieV g a b c || lieV g a b d || lieV g c d a || lieV g c d b), s)) = some (bI (true || decide (sgn (sdV g a b c) * sgn (sdV g a b d) < 0 ∧ sgn (sdV g c d a) * sgn (sdV g c d b) < 0) || lieV g a b c || lieV g a b d || lieV g c d a || lieV g c d b), s) := by
      by_cases y1 : b = c
      · rw [if_pos (by rw [y1])]
      · rw [if_neg (by rw [eq hb hc]; exact y1), if_pos (by rw [eq hb hd]; omega)]
    rw [x2]
    by_cases y1 : a = c
    · rw [if_pos (by rw [y1])]
    · rw [if_neg (by rw [eq ha hc]; exact y1), if_pos (by rw [eq ha hd]; omega)]
  · rw [decide_eq_false c1]
    by_cases y1 : a = c
    · rw [if_pos (by rw [y1]), if_neg (by rw [eq hb hc]; omega), if_neg (by rw [eq hb hd]; omega)]
    · rw [if_neg (by rw [eq ha hc]; exact y1)]
      by_cases y2 : a = d
      · rw [if_pos (by rw [y2]), if_neg (by rw [eq hb hc]; omega), if_neg (by rw [eq hb hd]; omega)]
      · rw [if_neg (by rw [eq ha hd]; exact y2)]
end TC
