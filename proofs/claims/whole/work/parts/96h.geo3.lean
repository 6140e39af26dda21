theorem line1 {a b c d : Int} (h1 : a ≠ b) (h2 : c ≠ d) (h3 : a ≠ c) (h4 : a ≠ d) (h5 : b ≠ c) (h6 : b ≠ d) : (min a b ≤ max c d ∧ min c d ≤ max a b) ↔ ((c - a) * (d - a) < 0 ∨ (c - b) * (d - b) < 0 ∨ (a - c) * (b - c) < 0 ∨ (a - d) * (b - d) < 0) := by
  rw [mul_neg, mul_neg, mul_neg, mul_neg]
  constructor
  · rintro ⟨x, y⟩
    by_cases u1 : a < c <;> by_cases u2 : a < d <;> by_cases u3 : b < c <;> by_cases u4 : b < d
    all_goals first
      | (exact Or.inl (by omega))
      | (exact Or.inr (Or.inl (by omega)))
      | (exact Or.inr (Or.inr (Or.inl (by omega))))
      | (exact Or.inr (Or.inr (Or.inr (by omega))))
      | omega
  · rintro (h | h | h | h) <;> omega
theorem le0_of {K E M F : Int} (hK : 0 < K) (hM : 0 ≤ M) (hF : F < 0) (h : K * E = M * F) : E ≤ 0 := by
  by_cases c : 0 < E
  · have a := Int.mul_pos hK c
    have b : M * F ≤ 0 := Int.mul_nonpos_of_nonneg_of_nonpos hM (by omega)
    omega
  · omega
theorem btw {a c d : Int} (h : (c - a) * (d - a) ≤ 0) : min c d ≤ a ∧ a ≤ max c d := by
  by_cases x : 0 < c - a ∧ 0 < d - a
  · have := Int.mul_pos x.1 x.2; omega
  · by_cases y : c - a < 0 ∧ d - a < 0
    · have := Int.mul_pos_of_neg_of_neg y.1 y.2; omega
    · omega
theorem col_dot {px py ux uy vx vy : Int} (hp : px ≠ 0) (hu : px * uy = py * ux) (hv : px * vy = py * vx) : (ux * vx + uy * vy < 0 ↔ ux * vx < 0) ∧ (ux * vx < 0 → uy * vy ≤ 0) := by
  have hP : 0 < px * px + py * py := by
    have := sq_pos hp
    have := sq_nn py
    omega
  constructor
  · refine sgn_tr (sq_pos hp) hP ?_
    have : px * px * (ux * vx + uy * vy) = px * px * (ux * vx) + (px * uy) * (px * vy) := by grind
    rw [this, hu, hv]
    grind
  · intro h
    refine le0_of (sq_pos hp) (sq_nn py) h ?_
    have : px * px * (uy * vy) = (px * uy) * (px * vy) := by grind
    rw [this, hu, hv]
    grind
theorem geo_line {ax ay bx bv cx cy dx dy px py qx qy rx ry : Int} (hpx : bx = ax + px) (hpy : bv = ay + py) (hrx : cx = ax + rx) (hry : cy = ay + ry) (hqx : dx = cx + qx) (hqy : dy = cy + qy)
    (hp : px ≠ 0) (k0 : px * qy = py * qx) (s0 : px * ry = py * rx) (hq : qx ≠ 0 ∨ qy ≠ 0)
    (n1 : rx ≠ 0 ∨ ry ≠ 0) (n2 : rx + qx ≠ 0 ∨ ry + qy ≠ 0) (n3 : rx - px ≠ 0 ∨ ry - py ≠ 0) (n4 : rx + qx - px ≠ 0 ∨ ry + qy - py ≠ 0) :
    (min ax bx ≤ max cx dx ∧ min cx dx ≤ max ax bx ∧ min ay bv ≤ max cy dy ∧ min cy dy ≤ max ay bv) ↔
    (rx * (rx + qx) + ry * (ry + qy) < 0 ∨ (rx - px) * (rx + qx - px) + (ry - py) * (ry + qy - py) < 0 ∨ (-rx) * (px - rx) + (-ry) * (py - ry) < 0 ∨ (-(rx + qx)) * (px - (rx + qx)) + (-(ry + qy)) * (py - (ry + qy)) < 0) := by
  have z : ∀ {y : Int}, px * y = py * 0 → y = 0 := fun h => (Int.mul_eq_zero.mp (h.trans (Int.mul_zero py))).resolve_left hp
  have m1 : rx ≠ 0 := fun e => n1.elim (fun h => h e) (fun h => h (z (by rw [s0, e])))
  have m2 : rx + qx ≠ 0 := fun e => n2.elim (fun h => h e) (fun h => h (z (by rw [← e]; grind)))
  have m3 : rx - px ≠ 0 := fun e => n3.elim (fun h => h e) (fun h => h (z (by rw [← e]; grind)))
  have m4 : rx + qx - px ≠ 0 := fun e => n4.elim (fun h => h e) (fun h => h (z (by rw [← e]; grind)))
  have m5 : qx ≠ 0 := fun e => hq.elim (fun h => h e) (fun h => h (z (by rw [k0, e])))
  clear n1 n2 n3 n4 hq z
  have L := line1 (a := ax) (b := bx) (c := cx) (d := dx) (by clear m1 m2 m3 m4 m5; omega) (by clear m1 m2 m3 m4 hp; omega) (by clear m2 m3 m4 m5 hp; omega) (by clear m1 m3 m4 m5 hp; omega) (by clear m1 m2 m4 m5 hp; omega) (by clear m1 m2 m3 m5 hp; omega)
  have A := col_dot (px := px) (py := py) (ux := rx) (uy := ry) (vx := rx + qx) (vy := ry + qy) hp s0 (by grind)
  have B := col_dot (px := px) (py := py) (ux := rx - px) (uy := ry - py) (vx := rx + qx - px) (vy := ry + qy - py) hp (by grind) (by grind)
  have C := col_dot (px := px) (py := py) (ux := -rx) (uy := -ry) (vx := px - rx) (vy := py - ry) hp (by grind) (by grind)
  have D := col_dot (px := px) (py := py) (ux := -(rx + qx)) (uy := -(ry + qy)) (vx := px - (rx + qx)) (vy := py - (ry + qy)) hp (by grind) (by grind)
  clear m1 m2 m3 m4 m5
  rw [A.1, B.1, C.1, D.1]
  have eA : (cx - ax) * (dx - ax) = rx * (rx + qx) := by rw [show cx - ax = rx by omega, show dx - ax = rx + qx by omega]
  have eB : (cx - bx) * (dx - bx) = (rx - px) * (rx + qx - px) := by rw [show cx - bx = rx - px by omega, show dx - bx = rx + qx - px by omega]
  have eC : (ax - cx) * (bx - cx) = (-rx) * (px - rx) := by rw [show ax - cx = -rx by omega, show bx - cx = px - rx by omega]
  have eD : (ax - dx) * (bx - dx) = (-(rx + qx)) * (px - (rx + qx)) := by rw [show ax - dx = -(rx + qx) by omega, show bx - dx = px - (rx + qx) by omega]
  rw [eA, eB, eC, eD] at L
  constructor
  · rintro ⟨x, y, -, -⟩
    exact L.mp ⟨x, y⟩
  · intro h
    have hx := L.mpr h
    have hy : min ay bv ≤ max cy dy ∧ min cy dy ≤ max ay bv := by
      rcases h with h | h | h | h
      · have := btw (a := ay) (c := cy) (d := dy) (by rw [show cy - ay = ry by omega, show dy - ay = ry + qy by omega]; exact A.2 h)
        clear A B C D L hx h eA eB eC eD; omega
      · have := btw (a := bv) (c := cy) (d := dy) (by rw [show cy - bv = ry - py by omega, show dy - bv = ry + qy - py by omega]; exact B.2 h)
        clear A B C D L hx h eA eB eC eD; omega
      · have := btw (a := cy) (c := ay) (d := bv) (by rw [show ay - cy = -ry by omega, show bv - cy = py - ry by omega]; exact C.2 h)
        clear A B C D L hx h eA eB eC eD; omega
      · have := btw (a := dy) (c := ay) (d := bv) (by rw [show ay - dy = -(ry + qy) by omega, show bv - dy = py - (ry + qy) by omega]; exact D.2 h)
        clear A B C D L hx h eA eB eC eD; omega
    exact ⟨hx.1, hx.2, hy.1, hy.2⟩
theorem geo_par {ax ay bx bv cx cy dx dy s1 s2 t1 t2 px py qx qy rx ry : Int} (hpx : bx = ax + px) (hpy : bv = ay + py) (hrx : cx = ax + rx) (hry : cy = ay + ry) (hqx : dx = cx + qx) (hqy : dy = cy + qy)
    (k0 : px * qy - py * qx = 0) (h1 : s1 = px * ry - py * rx) (h2 : s2 = px * (ry + qy) - py * (rx + qx)) (h3 : t1 = qy * rx - qx * ry) (h4 : t2 = qx * (py - ry) - qy * (px - rx)) (hp : px ≠ 0 ∨ py ≠ 0) (hq : qx ≠ 0 ∨ qy ≠ 0)
    (n1 : rx ≠ 0 ∨ ry ≠ 0) (n2 : rx + qx ≠ 0 ∨ ry + qy ≠ 0) (n3 : rx - px ≠ 0 ∨ ry - py ≠ 0) (n4 : rx + qx - px ≠ 0 ∨ ry + qy - py ≠ 0) :
    ((min ax bx ≤ max cx dx ∧ min cx dx ≤ max ax bx ∧ min ay bv ≤ max cy dy ∧ min cy dy ≤ max ay bv) ∧ nss s1 s2 ∧ nss t1 t2) ↔
    ((opp s1 s2 ∧ opp t1 t2) ∨ (t1 = 0 ∧ rx * (rx + qx) + ry * (ry + qy) < 0) ∨ (t2 = 0 ∧ (rx - px) * (rx + qx - px) + (ry - py) * (ry + qy - py) < 0) ∨ (s1 = 0 ∧ (-rx) * (px - rx) + (-ry) * (py - ry) < 0) ∨ (s2 = 0 ∧ (-(rx + qx)) * (px - (rx + qx)) + (-(ry + qy)) * (py - (ry + qy)) < 0)) := by
  have e2 : s2 = s1 := by rw [h2, h1]; grind
  have e4 : t2 = t1 := by rw [h4, h3]; grind
  have hP : 0 < px * px + py * py := by
    have := sq_nn px
    have := sq_nn py
    rcases hp with h | h
    · have := sq_pos h; omega
    · have := sq_pos h; omega
  have hQ : 0 < qx * qx + qy * qy := by
    have := sq_nn qx
    have := sq_nn qy
    rcases hq with h | h
    · have := sq_pos h; omega
    · have := sq_pos h; omega
  have key : t1 * (px * px + py * py) = -s1 * (px * qx + py * qy) := by rw [h3, h1]; grind
  have pq : (px * qx + py * qy) * (px * qx + py * qy) = (px * px + py * py) * (qx * qx + qy * qy) := by grind
  have pq0 : px * qx + py * qy ≠ 0 := fun e => by
    rw [e] at pq
    exact absurd pq.symm (Int.ne_of_gt (Int.mul_pos hP hQ))
  by_cases c : s1 = 0
  · have t0 : t1 = 0 := by
      rw [c] at key
      have : t1 * (px * px + py * py) = 0 := by rw [key]; grind
      rcases Int.mul_eq_zero.mp this with h | h
      · exact h
      · exact absurd h (Int.ne_of_gt hP)
    have geoL : (min ax bx ≤ max cx dx ∧ min cx dx ≤ max ax bx ∧ min ay bv ≤ max cy dy ∧ min cy dy ≤ max ay bv) ↔ (rx * (rx + qx) + ry * (ry + qy) < 0 ∨ (rx - px) * (rx + qx - px) + (ry - py) * (ry + qy - py) < 0 ∨ (-rx) * (px - rx) + (-ry) * (py - ry) < 0 ∨ (-(rx + qx)) * (px - (rx + qx)) + (-(ry + qy)) * (py - (ry + qy)) < 0) := by
      by_cases d : px = 0
      · have py0 : py ≠ 0 := hp.resolve_left (fun h => h d)
        have g := geo_line (ax := ay) (ay := ax) (bx := bv) (bv := bx) (cx := cy) (cy := cx) (dx := dy) (dy := dx) (px := py) (py := px) (qx := qy) (qy := qx) (rx := ry) (ry := rx) hpy hpx hry hrx hqy hqx py0 (Int.sub_eq_zero.mp k0).symm (Int.sub_eq_zero.mp (h1.symm.trans c)).symm hq.symm n1.symm n2.symm n3.symm n4.symm
        have sw : ∀ {a b : Int}, a + b = b + a := fun {a b} => Int.add_comm a b
        rw [sw (a := rx * (rx + qx)), sw (a := (rx - px) * (rx + qx - px)), sw (a := (-rx) * (px - rx)), sw (a := (-(rx + qx)) * (px - (rx + qx))), ← g]
        exact ⟨fun ⟨a, b, c, d⟩ => ⟨c, d, a, b⟩, fun ⟨a, b, c, d⟩ => ⟨c, d, a, b⟩⟩
      · exact geo_line hpx hpy hrx hry hqx hqy d (Int.sub_eq_zero.mp k0) (Int.sub_eq_zero.mp (h1.symm.trans c)) hq n1 n2 n3 n4
    rw [geoL, e2, e4, c, t0]
    unfold nss opp
    simp
  · have t0 : t1 ≠ 0 := fun e => by
      rw [e] at key
      have : -s1 * (px * qx + py * qy) = 0 := by rw [← key]; grind
      rcases Int.mul_eq_zero.mp this with h | h
      · exact c (Int.neg_eq_zero.mp h)
      · exact pq0 h
    rw [e2, e4]
    constructor
    · rintro ⟨-, a, -⟩
      unfold nss at a
      clear key pq n1 n2 n3 n4 hp hq pq0 hP hQ h1 h2 h3 h4 k0
      omega
    · rintro (⟨a, -⟩ | ⟨a, -⟩ | ⟨a, -⟩ | ⟨a, -⟩ | ⟨a, -⟩)
      · unfold opp at a; clear key pq n1 n2 n3 n4 hp hq pq0 hP hQ h1 h2 h3 h4 k0; omega
      · exact absurd a t0
      · exact absurd a t0
      · exact absurd a c
      · exact absurd a c
/-- two walls from one vertex: they go the same way if one's end lies on the other -/
theorem geo_along {px py qx qy : Int} (hp : px ≠ 0 ∨ py ≠ 0) (hq : qx ≠ 0 ∨ qy ≠ 0) (hn : px ≠ qx ∨ py ≠ qy) (h0 : px * qy - py * qx = 0) : 0 < px * qx + py * qy ↔ ((-px) * (qx - px) + (-py) * (qy - py) < 0 ∨ (-qx) * (px - qx) + (-qy) * (py - qy) < 0) := by
  have hP : 0 < px * px + py * py := by
    have := sq_nn px
    have := sq_nn py
    rcases hp with h | h
    · have := sq_pos h; omega
    · have := sq_pos h; omega
  have hQ : 0 < qx * qx + qy * qy := by
    have := sq_nn qx
    have := sq_nn qy
    rcases hq with h | h
    · have := sq_pos h; omega
    · have := sq_pos h; omega
  have pq : (px * qx + py * qy) * (px * qx + py * qy) = (px * px + py * py) * (qx * qx + qy * qy) := by grind
  have dd : 0 < (px - qx) * (px - qx) + (py - qy) * (py - qy) := by
    have := sq_nn (px - qx)
    have := sq_nn (py - qy)
    rcases hn with h | h
    · have := sq_pos (show px - qx ≠ 0 by omega); omega
    · have := sq_pos (show py - qy ≠ 0 by omega); omega
  have e1 : (-px) * (qx - px) + (-py) * (qy - py) = (px * px + py * py) - (px * qx + py * qy) := by grind
  have e2 : (-qx) * (px - qx) + (-qy) * (py - qy) = (qx * qx + qy * qy) - (px * qx + py * qy) := by grind
  have e3 : (px - qx) * (px - qx) + (py - qy) * (py - qy) = (px * px + py * py) + (qx * qx + qy * qy) - 2 * (px * qx + py * qy) := by grind
  rw [e1, e2]
  rw [e3] at dd
  generalize px * px + py * py = P at *
  generalize qx * qx + qy * qy = Q at *
  generalize px * qx + py * qy = N at *
  constructor
  · intro hN
    by_cases a : P < N
    · exact Or.inl (by omega)
    · by_cases b : Q < N
      · exact Or.inr (by omega)
      · exfalso
        have c1 : N * N ≤ P * N := Int.mul_le_mul_of_nonneg_right (by omega) (by omega)
        have c2 : P * N ≤ P * Q := Int.mul_le_mul_of_nonneg_left (by omega) (by omega)
        have c3 : P * (Q - N) = 0 := by rw [Int.mul_sub]; omega
        have c4 : N * (P - N) = 0 := by rw [Int.mul_sub, Int.mul_comm N P]; omega
        rcases Int.mul_eq_zero.mp c3 with h | h
        · omega
        · rcases Int.mul_eq_zero.mp c4 with h2 | h2
          · omega
          · omega
  · rintro (h | h) <;> omega
