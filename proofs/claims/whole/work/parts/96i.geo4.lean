theorem sgn_cases (a : Int) : (a < 0 ∧ sgn a = -1) ∨ (a = 0 ∧ sgn a = 0) ∨ (0 < a ∧ sgn a = 1) := by
  unfold sgn
  by_cases a1 : a < 0
  · rw [if_pos a1]; exact Or.inl ⟨a1, rfl⟩
  · rw [if_neg a1]
    by_cases a2 : a = 0
    · rw [if_pos a2]; exact Or.inr (Or.inl ⟨a2, rfl⟩)
    · rw [if_neg a2]; exact Or.inr (Or.inr ⟨by omega, rfl⟩)
theorem sgn_opp {a b : Int} : sgn a * sgn b < 0 ↔ opp a b := by
  unfold opp
  rcases sgn_cases a with ⟨h1, e1⟩ | ⟨h1, e1⟩ | ⟨h1, e1⟩ <;> rcases sgn_cases b with ⟨h2, e2⟩ | ⟨h2, e2⟩ | ⟨h2, e2⟩ <;> rw [e1, e2] <;> omega
theorem sgn_nss {a b : Int} : sgn a * sgn b ≤ 0 ↔ nss a b := by
  unfold nss
  rcases sgn_cases a with ⟨h1, e1⟩ | ⟨h1, e1⟩ | ⟨h1, e1⟩ <;> rcases sgn_cases b with ⟨h2, e2⟩ | ⟨h2, e2⟩ | ⟨h2, e2⟩ <;> rw [e1, e2] <;> omega
/-- the place v lies between a and b, and is none of them -/
def lieP (ax ay bx bv vx vy : Int) : Prop := ¬ (vx = ax ∧ vy = ay) ∧ ¬ (vx = bx ∧ vy = bv) ∧ sideZ ax ay bx bv vx vy = 0 ∧ (ax - vx) * (bx - vx) + (ay - vy) * (bv - vy) < 0
def tchP (ax ay bx bv cx cy dx dy : Int) : Prop := (((cx = ax ∧ cy = ay) ∨ (cx = bx ∧ cy = bv)) ∧ ((dx = ax ∧ dy = ay) ∨ (dx = bx ∧ dy = bv))) ∨ (opp (sideZ cx cy dx dy ax ay) (sideZ cx cy dx dy bx bv) ∧ opp (sideZ ax ay bx bv cx cy) (sideZ ax ay bx bv dx dy)) ∨ lieP cx cy dx dy ax ay ∨ lieP cx cy dx dy bx bv ∨ lieP ax ay bx bv cx cy ∨ lieP ax ay bx bv dx dy
/-- from one place s to p and to q -/
theorem share {sx sy px py qx qy : Int} (hp : ¬ (px = sx ∧ py = sy)) (hq : ¬ (qx = sx ∧ qy = sy)) : alongZ sx sy px py qx qy = true ↔ ((px = qx ∧ py = qy) ∨ lieP sx sy qx qy px py ∨ lieP sx sy px py qx qy) := by
  unfold alongZ lieP sideZ crossZ
  rw [decide_eq_true_eq]
  obtain ⟨ux, hux⟩ : ∃ u, px = sx + u := ⟨px - sx, by omega⟩
  obtain ⟨uy, huy⟩ : ∃ u, py = sy + u := ⟨py - sy, by omega⟩
  obtain ⟨wx, hwx⟩ : ∃ u, qx = sx + u := ⟨qx - sx, by omega⟩
  obtain ⟨wy, hwy⟩ : ∃ u, qy = sy + u := ⟨qy - sy, by omega⟩
  subst hux huy hwx hwy
  have hu : ux ≠ 0 ∨ uy ≠ 0 := by
    by_cases c : ux = 0
    · by_cases d : uy = 0
      · exact absurd ⟨by omega, by omega⟩ hp
      · exact Or.inr d
    · exact Or.inl c
  have hw : wx ≠ 0 ∨ wy ≠ 0 := by
    by_cases c : wx = 0
    · by_cases d : wy = 0
      · exact absurd ⟨by omega, by omega⟩ hq
      · exact Or.inr d
    · exact Or.inl c
  rw [show sx + ux - sx = ux by omega, show sy + uy - sy = uy by omega, show sx + wx - sx = wx by omega, show sy + wy - sy = wy by omega, show sx - (sx + ux) = -ux by omega, show sy - (sy + uy) = -uy by omega, show sx + wx - (sx + ux) = wx - ux by omega, show sy + wy - (sy + uy) = wy - uy by omega, show sx - (sx + wx) = -wx by omega, show sy - (sy + wy) = -wy by omega, show sx + ux - (sx + wx) = ux - wx by omega, show sy + uy - (sy + wy) = uy - wy by omega]
  by_cases e : ux = wx ∧ uy = wy
  · obtain ⟨rfl, rfl⟩ := e
    refine ⟨fun _ => Or.inl ⟨rfl, rfl⟩, fun _ => ⟨by rw [Int.mul_comm uy ux]; omega, ?_⟩⟩
    have := sq_nn ux
    have := sq_nn uy
    rcases hu with h | h
    · have := sq_pos h; omega
    · have := sq_pos h; omega
  · have hn : ux ≠ wx ∨ uy ≠ wy := by
      by_cases c : ux = wx
      · exact Or.inr (fun d => e ⟨c, d⟩)
      · exact Or.inl c
    have e' : ¬ (sx + ux = sx + wx ∧ sy + uy = sy + wy) := fun z => e ⟨by omega, by omega⟩
    have e'' : ¬ (sx + wx = sx + ux ∧ sy + wy = sy + uy) := fun z => e ⟨by omega, by omega⟩
    have c1 : (wx * uy - wy * ux = 0) ↔ (ux * wy - uy * wx = 0) := by
      rw [Int.mul_comm wx uy, Int.mul_comm wy ux]
      omega
    constructor
    · rintro ⟨a, b⟩
      rcases (geo_along hu hw hn a).mp b with h | h
      · exact Or.inr (Or.inl ⟨hp, e', c1.mpr a, h⟩)
      · exact Or.inr (Or.inr ⟨hq, e'', a, h⟩)
    · rintro (h | ⟨-, -, a, b⟩ | ⟨-, -, a, b⟩)
      · exact absurd h e'
      · exact ⟨c1.mp a, (geo_along hu hw hn (c1.mp a)).mpr (Or.inl b)⟩
      · exact ⟨a, (geo_along hu hw hn a).mpr (Or.inr b)⟩
theorem side_a {ax ay bx bv : Int} : sideZ ax ay bx bv ax ay = 0 := by unfold sideZ; grind
theorem side_b {ax ay bx bv : Int} : sideZ ax ay bx bv bx bv = 0 := by unfold sideZ; grind
theorem opp_0 {a : Int} : ¬ opp 0 a ∧ ¬ opp a 0 := by unfold opp; omega
theorem lie_sym {ax ay bx bv vx vy : Int} : lieP ax ay bx bv vx vy ↔ lieP bx bv ax ay vx vy := by
  unfold lieP
  have e : sideZ bx bv ax ay vx vy = -sideZ ax ay bx bv vx vy := by unfold sideZ; grind
  rw [e, Int.mul_comm (bx - vx), Int.mul_comm (bv - vy)]
  constructor
  · rintro ⟨a, b, c, d⟩; exact ⟨b, a, by omega, d⟩
  · rintro ⟨a, b, c, d⟩; exact ⟨b, a, by omega, d⟩
set_option maxHeartbeats 4000000 in
theorem ov_geo {ax ay bx bv cx cy dx dy : Int} (hab : ¬ (ax = bx ∧ ay = bv)) (hcd : ¬ (cx = dx ∧ cy = dy)) : ovC ax ay bx bv cx cy dx dy = true ↔ tchP ax ay bx bv cx cy dx dy := by
  unfold ovC
  have hba : ¬ (bx = ax ∧ bv = ay) := fun z => hab ⟨z.1.symm, z.2.symm⟩
  have hdc : ¬ (dx = cx ∧ dy = cy) := fun z => hcd ⟨z.1.symm, z.2.symm⟩
  by_cases c1 : ax = cx ∧ ay = cy
  · rw [if_pos c1]
    obtain ⟨rfl, rfl⟩ := c1
    rw [share hba hdc]
    unfold tchP
    have l1 : ¬ lieP ax ay dx dy ax ay := fun z => z.1 ⟨rfl, rfl⟩
    have l2 : ¬ lieP ax ay bx bv ax ay := fun z => z.1 ⟨rfl, rfl⟩
    rw [side_a]
    constructor
    · rintro (h | h | h)
      · exact Or.inl ⟨Or.inl ⟨rfl, rfl⟩, Or.inr ⟨h.1.symm, h.2.symm⟩⟩
      · exact Or.inr (Or.inr (Or.inr (Or.inl h)))
      · exact Or.inr (Or.inr (Or.inr (Or.inr (Or.inr h))))
    · rintro (⟨-, h | h⟩ | ⟨h, -⟩ | h | h | h | h)
      · exact absurd h hdc
      · exact Or.inl ⟨h.1.symm, h.2.symm⟩
      · exact absurd h opp_0.1
      · exact absurd h l1
      · exact Or.inr (Or.inl h)
      · exact absurd h l2
      · exact Or.inr (Or.inr h)
  rw [if_neg c1]
  by_cases c2 : ax = dx ∧ ay = dy
  · rw [if_pos c2]
    obtain ⟨rfl, rfl⟩ := c2
    rw [share hba hcd]
    unfold tchP
    have l1 : ¬ lieP cx cy ax ay ax ay := fun z => z.2.1 ⟨rfl, rfl⟩
    have l2 : ¬ lieP ax ay bx bv ax ay := fun z => z.1 ⟨rfl, rfl⟩
    rw [side_b]
    constructor
    · rintro (h | h | h)
      · exact Or.inl ⟨Or.inr ⟨h.1.symm, h.2.symm⟩, Or.inl ⟨rfl, rfl⟩⟩
      · exact Or.inr (Or.inr (Or.inr (Or.inl (lie_sym.mp h))))
      · exact Or.inr (Or.inr (Or.inr (Or.inr (Or.inl h))))
    · rintro (⟨h | h, -⟩ | ⟨h, -⟩ | h | h | h | h)
      · exact absurd h hcd
      · exact Or.inl ⟨h.1.symm, h.2.symm⟩
      · exact absurd h opp_0.1
      · exact absurd h l1
      · exact Or.inr (Or.inl (lie_sym.mp h))
      · exact Or.inr (Or.inr h)
      · exact absurd h l2
  rw [if_neg c2]
  by_cases c3 : bx = cx ∧ bv = cy
  · rw [if_pos c3]
    obtain ⟨rfl, rfl⟩ := c3
    rw [share hab hdc]
    unfold tchP
    have l1 : ¬ lieP bx bv dx dy bx bv := fun z => z.1 ⟨rfl, rfl⟩
    have l2 : ¬ lieP ax ay bx bv bx bv := fun z => z.2.1 ⟨rfl, rfl⟩
    rw [side_a (ax := bx)]
    constructor
    · rintro (h | h | h)
      · exact Or.inl ⟨Or.inr ⟨rfl, rfl⟩, Or.inl ⟨h.1.symm, h.2.symm⟩⟩
      · exact Or.inr (Or.inr (Or.inl h))
      · exact Or.inr (Or.inr (Or.inr (Or.inr (Or.inr (lie_sym.mp h)))))
    · rintro (⟨-, h | h⟩ | ⟨h, -⟩ | h | h | h | h)
      · exact Or.inl ⟨h.1.symm, h.2.symm⟩
      · exact absurd h hdc
      · exact absurd h opp_0.2
      · exact Or.inr (Or.inl h)
      · exact absurd h l1
      · exact absurd h l2
      · exact Or.inr (Or.inr (lie_sym.mp h))
  rw [if_neg c3]
  by_cases c4 : bx = dx ∧ bv = dy
  · rw [if_pos c4]
    obtain ⟨rfl, rfl⟩ := c4
    rw [share hab hcd]
    unfold tchP
    have l1 : ¬ lieP cx cy bx bv bx bv := fun z => z.2.1 ⟨rfl, rfl⟩
    have l2 : ¬ lieP ax ay bx bv bx bv := fun z => z.2.1 ⟨rfl, rfl⟩
    rw [side_b (bx := bx)]
    constructor
    · rintro (h | h | h)
      · exact Or.inl ⟨Or.inl ⟨h.1.symm, h.2.symm⟩, Or.inr ⟨rfl, rfl⟩⟩
      · exact Or.inr (Or.inr (Or.inl (lie_sym.mp h)))
      · exact Or.inr (Or.inr (Or.inr (Or.inr (Or.inl (lie_sym.mp h)))))
    · rintro (⟨h | h, -⟩ | ⟨h, -⟩ | h | h | h | h)
      · exact Or.inl ⟨h.1.symm, h.2.symm⟩
      · exact absurd h hcd
      · exact absurd h opp_0.2
      · exact Or.inr (Or.inl (lie_sym.mp h))
      · exact absurd h l1
      · exact Or.inr (Or.inr (lie_sym.mp h))
      · exact absurd h l2
  rw [if_neg c4]
  unfold touchZ boxZ partsZ tchP lieP
  simp only [Bool.and_eq_true, decide_eq_true_eq, sgn_nss]
  obtain ⟨px, hpx⟩ : ∃ u, bx = ax + u := ⟨bx - ax, by omega⟩
  obtain ⟨py, hpy⟩ : ∃ u, bv = ay + u := ⟨bv - ay, by omega⟩
  obtain ⟨rx, hrx⟩ : ∃ u, cx = ax + u := ⟨cx - ax, by omega⟩
  obtain ⟨ry, hry⟩ : ∃ u, cy = ay + u := ⟨cy - ay, by omega⟩
  obtain ⟨qx, hqx⟩ : ∃ u, dx = cx + u := ⟨dx - cx, by omega⟩
  obtain ⟨qy, hqy⟩ : ∃ u, dy = cy + u := ⟨dy - cy, by omega⟩
  have ne : ∀ {u v x y : Int}, ¬ (x = u ∧ y = v) → x - u ≠ 0 ∨ y - v ≠ 0 := by
    intro u v x y h
    by_cases a : x - u = 0
    · exact Or.inr (fun b => h ⟨by omega, by omega⟩)
    · exact Or.inl a
  have E1 : sideZ ax ay bx bv cx cy = px * ry - py * rx := by unfold sideZ; rw [show bx - ax = px by omega, show cy - ay = ry by omega, show bv - ay = py by omega, show cx - ax = rx by omega]
  have E2 : sideZ ax ay bx bv dx dy = px * (ry + qy) - py * (rx + qx) := by unfold sideZ; rw [show bx - ax = px by omega, show dy - ay = ry + qy by omega, show bv - ay = py by omega, show dx - ax = rx + qx by omega]
  have E3 : sideZ cx cy dx dy ax ay = qy * rx - qx * ry := by
    unfold sideZ
    rw [show dx - cx = qx by omega, show ay - cy = -ry by omega, show dy - cy = qy by omega, show ax - cx = -rx by omega]
    grind
  have E4 : sideZ cx cy dx dy bx bv = qx * (py - ry) - qy * (px - rx) := by unfold sideZ; rw [show dx - cx = qx by omega, show bv - cy = py - ry by omega, show dy - cy = qy by omega, show bx - cx = px - rx by omega]
  have n1 : rx ≠ 0 ∨ ry ≠ 0 := by
    have := ne (u := ax) (v := ay) (x := cx) (y := cy) (fun z => c1 ⟨z.1.symm, z.2.symm⟩)
    rw [show cx - ax = rx by omega, show cy - ay = ry by omega] at this; exact this
  have n2 : rx + qx ≠ 0 ∨ ry + qy ≠ 0 := by
    have := ne (u := ax) (v := ay) (x := dx) (y := dy) (fun z => c2 ⟨z.1.symm, z.2.symm⟩)
    rw [show dx - ax = rx + qx by omega, show dy - ay = ry + qy by omega] at this; exact this
  have n3 : rx - px ≠ 0 ∨ ry - py ≠ 0 := by
    have := ne (u := bx) (v := bv) (x := cx) (y := cy) (fun z => c3 ⟨z.1.symm, z.2.symm⟩)
    rw [show cx - bx = rx - px by omega, show cy - bv = ry - py by omega] at this; exact this
  have n4 : rx + qx - px ≠ 0 ∨ ry + qy - py ≠ 0 := by
    have := ne (u := bx) (v := bv) (x := dx) (y := dy) (fun z => c4 ⟨z.1.symm, z.2.symm⟩)
    rw [show dx - bx = rx + qx - px by omega, show dy - bv = ry + qy - py by omega] at this; exact this
  have hp : px ≠ 0 ∨ py ≠ 0 := by
    have := ne hba
    rw [show bx - ax = px by omega, show bv - ay = py by omega] at this; exact this
  have hq : qx ≠ 0 ∨ qy ≠ 0 := by
    have := ne hdc
    rw [show dx - cx = qx by omega, show dy - cy = qy by omega] at this; exact this
  have G : ((min ax bx ≤ max cx dx ∧ min cx dx ≤ max ax bx ∧ min ay bv ≤ max cy dy ∧ min cy dy ≤ max ay bv) ∧ nss (sideZ ax ay bx bv cx cy) (sideZ ax ay bx bv dx dy) ∧ nss (sideZ cx cy dx dy ax ay) (sideZ cx cy dx dy bx bv)) ↔ ((opp (sideZ ax ay bx bv cx cy) (sideZ ax ay bx bv dx dy) ∧ opp (sideZ cx cy dx dy ax ay) (sideZ cx cy dx dy bx bv)) ∨ (sideZ cx cy dx dy ax ay = 0 ∧ rx * (rx + qx) + ry * (ry + qy) < 0) ∨ (sideZ cx cy dx dy bx bv = 0 ∧ (rx - px) * (rx + qx - px) + (ry - py) * (ry + qy - py) < 0) ∨ (sideZ ax ay bx bv cx cy = 0 ∧ (-rx) * (px - rx) + (-ry) * (py - ry) < 0) ∨ (sideZ ax ay bx bv dx dy = 0 ∧ (-(rx + qx)) * (px - (rx + qx)) + (-(ry + qy)) * (py - (ry + qy)) < 0)) := by
    by_cases k : px * qy - py * qx = 0
    · exact geo_par hpx hpy hrx hry hqx hqy k E1 E2 E3 E4 hp hq n1 n2 n3 n4
    · exact geo_np hpx hpy hrx hry hqx hqy rfl E1 E2 E3 E4 k n1 n2 n3 n4
  have D1 : (cx - ax) * (dx - ax) + (cy - ay) * (dy - ay) = rx * (rx + qx) + ry * (ry + qy) := by rw [show cx - ax = rx by omega, show dx - ax = rx + qx by omega, show cy - ay = ry by omega, show dy - ay = ry + qy by omega]
  have D2 : (cx - bx) * (dx - bx) + (cy - bv) * (dy - bv) = (rx - px) * (rx + qx - px) + (ry - py) * (ry + qy - py) := by rw [show cx - bx = rx - px by omega, show dx - bx = rx + qx - px by omega, show cy - bv = ry - py by omega, show dy - bv = ry + qy - py by omega]
  have D3 : (ax - cx) * (bx - cx) + (ay - cy) * (bv - cy) = (-rx) * (px - rx) + (-ry) * (py - ry) := by rw [show ax - cx = -rx by omega, show bx - cx = px - rx by omega, show ay - cy = -ry by omega, show bv - cy = py - ry by omega]
  have D4 : (ax - dx) * (bx - dx) + (ay - dy) * (bv - dy) = (-(rx + qx)) * (px - (rx + qx)) + (-(ry + qy)) * (py - (ry + qy)) := by rw [show ax - dx = -(rx + qx) by omega, show bx - dx = px - (rx + qx) by omega, show ay - dy = -(ry + qy) by omega, show bv - dy = py - (ry + qy) by omega]
  rw [← D1, ← D2, ← D3, ← D4] at G
  have c1' : ¬ (cx = ax ∧ cy = ay) := fun z => c1 ⟨z.1.symm, z.2.symm⟩
  have c2' : ¬ (dx = ax ∧ dy = ay) := fun z => c2 ⟨z.1.symm, z.2.symm⟩
  have c3' : ¬ (cx = bx ∧ cy = bv) := fun z => c3 ⟨z.1.symm, z.2.symm⟩
  have c4' : ¬ (dx = bx ∧ dy = bv) := fun z => c4 ⟨z.1.symm, z.2.symm⟩
  constructor
  · rintro ⟨⟨b, s⟩, t⟩
    rcases G.mp ⟨b, s, t⟩ with ⟨u, v⟩ | u | u | u | u
    · exact Or.inr (Or.inl ⟨v, u⟩)
    · exact Or.inr (Or.inr (Or.inl ⟨c1, c2, u⟩))
    · exact Or.inr (Or.inr (Or.inr (Or.inl ⟨c3, c4, u⟩)))
    · exact Or.inr (Or.inr (Or.inr (Or.inr (Or.inl ⟨c1', c3', u⟩))))
    · exact Or.inr (Or.inr (Or.inr (Or.inr (Or.inr ⟨c2', c4', u⟩))))
  · rintro (⟨h | h, -⟩ | ⟨u, v⟩ | u | u | u | u)
    · exact absurd h c1'
    · exact absurd h c3'
    · have := G.mpr (Or.inl ⟨v, u⟩); exact ⟨⟨this.1, this.2.1⟩, this.2.2⟩
    · have := G.mpr (Or.inr (Or.inl u.2.2)); exact ⟨⟨this.1, this.2.1⟩, this.2.2⟩
    · have := G.mpr (Or.inr (Or.inr (Or.inl u.2.2))); exact ⟨⟨this.1, this.2.1⟩, this.2.2⟩
    · have := G.mpr (Or.inr (Or.inr (Or.inr (Or.inl u.2.2)))); exact ⟨⟨this.1, this.2.1⟩, this.2.2⟩
    · have := G.mpr (Or.inr (Or.inr (Or.inr (Or.inr u.2.2)))); exact ⟨⟨this.1, this.2.1⟩, this.2.2⟩
/-- both answer alike, where vertices are where they are once only -/
theorem ov_eq {g : Nat → Nat} {V F w v : Nat} (hd : ∀ i j, i < V → j < V → vX g i = vX g j ∧ vY g i = vY g j → i = j) (hw : g (F + 14 * w) < V ∧ g (F + 14 * w + 1) < V ∧ g (F + 14 * w) ≠ g (F + 14 * w + 1)) (hv : g (F + 14 * v) < V ∧ g (F + 14 * v + 1) < V ∧ g (F + 14 * v) ≠ g (F + 14 * v + 1)) : ovW g F w v = ovR g F w v := by
  have e1 : ovW g F w v = ovC (vX g (g (F + 14 * w))) (vY g (g (F + 14 * w))) (vX g (g (F + 14 * w + 1))) (vY g (g (F + 14 * w + 1))) (vX g (g (F + 14 * v))) (vY g (g (F + 14 * v))) (vX g (g (F + 14 * v + 1))) (vY g (g (F + 14 * v + 1))) := rfl
  rw [e1]
  unfold ovR
  generalize g (F + 14 * w) = a at *
  generalize g (F + 14 * w + 1) = b at *
  generalize g (F + 14 * v) = c at *
  generalize g (F + 14 * v + 1) = d at *
  have q : ∀ {i j : Nat}, i < V → j < V → ((vX g i = vX g j ∧ vY g i = vY g j) ↔ i = j) := fun hi hj => ⟨hd _ _ hi hj, fun e => by rw [e]; exact ⟨rfl, rfl⟩⟩
  have G := ov_geo (ax := vX g a) (ay := vY g a) (bx := vX g b) (bv := vY g b) (cx := vX g c) (cy := vY g c) (dx := vX g d) (dy := vY g d) (by rw [q hw.1 hw.2.1]; exact hw.2.2) (by rw [q hv.1 hv.2.1]; exact hv.2.2)
  have T : tchV g c d a b = true ↔ tchP (vX g a) (vY g a) (vX g b) (vY g b) (vX g c) (vY g c) (vX g d) (vY g d) := by
    unfold tchV tchP lieV lieP
    simp only [Bool.or_eq_true, decide_eq_true_eq, sgn_opp, q hv.1 hw.1, q hv.1 hw.2.1, q hv.2.1 hw.1, q hv.2.1 hw.2.1, q hw.1 hv.1, q hw.1 hv.2.1, q hw.2.1 hv.1, q hw.2.1 hv.2.1, or_assoc]
    rfl
  rw [Bool.eq_iff_iff, G, T]
