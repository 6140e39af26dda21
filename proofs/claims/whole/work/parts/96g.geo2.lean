-- GEOMETRY: two ways to see whether walls overlap
theorem mul_neg {a b : Int} : a * b < 0 ↔ (a < 0 ∧ 0 < b) ∨ (0 < a ∧ b < 0) := by
  constructor
  · intro h
    rcases Int.lt_trichotomy a 0 with h1 | h1 | h1
    · rcases Int.lt_trichotomy b 0 with h2 | h2 | h2
      · have := Int.mul_pos_of_neg_of_neg h1 h2; omega
      · subst h2; simp at h
      · exact Or.inl ⟨h1, h2⟩
    · subst h1; simp at h
    · rcases Int.lt_trichotomy b 0 with h2 | h2 | h2
      · exact Or.inr ⟨h1, h2⟩
      · subst h2; simp at h
      · have := Int.mul_pos h1 h2; omega
  · rintro (⟨h1, h2⟩ | ⟨h1, h2⟩)
    · exact Int.mul_neg_of_neg_of_pos h1 h2
    · exact Int.mul_neg_of_pos_of_neg h1 h2
theorem sq_pos {a : Int} (h : a ≠ 0) : 0 < a * a := by
  rcases Int.lt_trichotomy a 0 with h1 | h1 | h1
  · exact Int.mul_pos_of_neg_of_neg h1 h1
  · exact absurd h1 h
  · exact Int.mul_pos h1 h1
theorem sq_nn (a : Int) : 0 ≤ a * a := by
  by_cases h : a = 0
  · subst h; decide
  · exact Int.le_of_lt (sq_pos h)
/-- equal up to positive factors: the same sign -/
theorem sgn_tr {K P E M : Int} (hK : 0 < K) (hP : 0 < P) (h : K * E = M * P) : E < 0 ↔ M < 0 := by
  constructor
  · intro hE
    have : M * P < 0 := by rw [← h]; exact Int.mul_neg_of_pos_of_neg hK hE
    rcases mul_neg.mp this with a | a <;> omega
  · intro hM
    have : K * E < 0 := by rw [h]; exact Int.mul_neg_of_neg_of_pos hM hP
    rcases mul_neg.mp this with a | a <;> omega
theorem np_dot {k t px py rx ry : Int} (hk : k ≠ 0) (hp : px ≠ 0 ∨ py ≠ 0) (hx : k * rx = t * px) (hy : k * ry = t * py) : (-rx) * (px - rx) + (-ry) * (py - ry) < 0 ↔ t * (t - k) < 0 := by
  have hP : 0 < px * px + py * py := by
    have := sq_nn px
    have := sq_nn py
    rcases hp with h | h
    · have := sq_pos h; omega
    · have := sq_pos h; omega
  refine sgn_tr (sq_pos hk) hP ?_
  have e1 : k * k * ((-rx) * (px - rx) + (-ry) * (py - ry)) = (k * rx) * (k * rx) - k * px * (k * rx) + ((k * ry) * (k * ry) - k * py * (k * ry)) := by grind
  rw [e1, hx, hy]
  grind
theorem conv {K T m a b : Int} (h0 : 0 ≤ T) (h1 : T ≤ K) (ha : m ≤ a) (hb : m ≤ b) : K * m ≤ K * a + T * (b - a) := by
  have e1 := Int.mul_le_mul_of_nonneg_left ha (show 0 ≤ K - T by omega)
  have e2 := Int.mul_le_mul_of_nonneg_left hb h0
  have : K * a + T * (b - a) = (K - T) * a + T * b := by grind
  have e3 : (K - T) * m + T * m = K * m := by grind
  omega
theorem conv2 {K T m a b : Int} (h0 : 0 ≤ T) (h1 : T ≤ K) (ha : a ≤ m) (hb : b ≤ m) : K * a + T * (b - a) ≤ K * m := by
  have e1 := Int.mul_le_mul_of_nonneg_left ha (show 0 ≤ K - T by omega)
  have e2 := Int.mul_le_mul_of_nonneg_left hb h0
  have : K * a + T * (b - a) = (K - T) * a + T * b := by grind
  have e3 : (K - T) * m + T * m = K * m := by grind
  omega
/-- one place of both, so the intervals meet -/
theorem meet1 {K T S a b c d : Int} (hK : 0 < K) (h0 : 0 ≤ T) (h1 : T ≤ K) (h2 : 0 ≤ S) (h3 : S ≤ K) (e : K * a + T * (b - a) = K * c + S * (d - c)) : min a b ≤ max c d ∧ min c d ≤ max a b := by
  have a1 := conv h0 h1 (show min a b ≤ a by omega) (show min a b ≤ b by omega)
  have a2 := conv2 h0 h1 (show a ≤ max a b by omega) (show b ≤ max a b by omega)
  have a3 := conv h2 h3 (show min c d ≤ c by omega) (show min c d ≤ d by omega)
  have a4 := conv2 h2 h3 (show c ≤ max c d by omega) (show d ≤ max c d by omega)
  rw [e] at a1 a2
  constructor
  · exact Int.le_of_mul_le_mul_left (Int.le_trans a1 a4) hK
  · exact Int.le_of_mul_le_mul_left (Int.le_trans a3 a2) hK
/-- not on the same side -/
def nss (a b : Int) : Prop := ¬ (0 < a ∧ 0 < b) ∧ ¬ (a < 0 ∧ b < 0)
def opp (a b : Int) : Prop := (a < 0 ∧ 0 < b) ∨ (0 < a ∧ b < 0)
theorem opp_neg {s k : Int} : (-s < 0 ∧ 0 < -s - k ∨ 0 < -s ∧ -s - k < 0) ↔ opp s (s + k) := by
  unfold opp
  omega
theorem np_logic {k s1 s2 t1 t2 : Int} (e2 : s2 = s1 + k) (e4 : t2 = t1 - k) (k0 : k ≠ 0) (x1 : ¬ (s1 = 0 ∧ t1 = 0)) (x2 : ¬ (s2 = 0 ∧ t1 = 0)) (x3 : ¬ (s1 = 0 ∧ t2 = 0)) (x4 : ¬ (s2 = 0 ∧ t2 = 0)) :
    (nss s1 s2 ∧ nss t1 t2) ↔ ((opp s1 s2 ∧ opp t1 t2) ∨ (t1 = 0 ∧ opp s1 s2) ∨ (t2 = 0 ∧ opp s1 s2) ∨ (s1 = 0 ∧ opp t1 t2) ∨ (s2 = 0 ∧ opp t1 t2)) := by
  unfold nss opp
  constructor
  · rintro ⟨⟨a, b⟩, c, d⟩
    by_cases c1 : s1 = 0
    · exact Or.inr (Or.inr (Or.inr (Or.inl ⟨c1, by clear a b; omega⟩)))
    by_cases c2 : s2 = 0
    · exact Or.inr (Or.inr (Or.inr (Or.inr ⟨c2, by clear a b; omega⟩)))
    by_cases c3 : t1 = 0
    · exact Or.inr (Or.inl ⟨c3, by clear c d; omega⟩)
    by_cases c4 : t2 = 0
    · exact Or.inr (Or.inr (Or.inl ⟨c4, by clear c d; omega⟩))
    exact Or.inl ⟨by clear c d x1 x2 x3 x4; omega, by clear a b x1 x2 x3 x4; omega⟩
  · clear x1 x2 x3 x4
    rintro (⟨a, b⟩ | ⟨a, b⟩ | ⟨a, b⟩ | ⟨a, b⟩ | ⟨a, b⟩) <;> refine ⟨⟨?_, ?_⟩, ?_, ?_⟩ <;> omega
theorem np_pos {k s1 s2 t1 t2 : Int} (e2 : s2 = s1 + k) (e4 : t2 = t1 - k) (h : nss s1 s2 ∧ nss t1 t2) (k0 : k ≠ 0) : (0 < k ∧ 0 ≤ t1 ∧ t1 ≤ k ∧ 0 ≤ -s1 ∧ -s1 ≤ k) ∨ (0 < -k ∧ 0 ≤ -t1 ∧ -t1 ≤ -k ∧ 0 ≤ s1 ∧ s1 ≤ -k) := by
  unfold nss at h
  omega
theorem geo_np {ax ay bx bv cx cy dx dy k s1 s2 t1 t2 px py qx qy rx ry : Int} (hpx : bx = ax + px) (hpy : bv = ay + py) (hrx : cx = ax + rx) (hry : cy = ay + ry) (hqx : dx = cx + qx) (hqy : dy = cy + qy)
    (hk : k = px * qy - py * qx) (h1 : s1 = px * ry - py * rx) (h2 : s2 = px * (ry + qy) - py * (rx + qx)) (h3 : t1 = qy * rx - qx * ry) (h4 : t2 = qx * (py - ry) - qy * (px - rx)) (k0 : k ≠ 0)
    (n1 : rx ≠ 0 ∨ ry ≠ 0) (n2 : rx + qx ≠ 0 ∨ ry + qy ≠ 0) (n3 : rx - px ≠ 0 ∨ ry - py ≠ 0) (n4 : rx + qx - px ≠ 0 ∨ ry + qy - py ≠ 0) :
    ((min ax bx ≤ max cx dx ∧ min cx dx ≤ max ax bx ∧ min ay bv ≤ max cy dy ∧ min cy dy ≤ max ay bv) ∧ nss s1 s2 ∧ nss t1 t2) ↔
    ((opp s1 s2 ∧ opp t1 t2) ∨ (t1 = 0 ∧ rx * (rx + qx) + ry * (ry + qy) < 0) ∨ (t2 = 0 ∧ (rx - px) * (rx + qx - px) + (ry - py) * (ry + qy - py) < 0) ∨ (s1 = 0 ∧ (-rx) * (px - rx) + (-ry) * (py - ry) < 0) ∨ (s2 = 0 ∧ (-(rx + qx)) * (px - (rx + qx)) + (-(ry + qy)) * (py - (ry + qy)) < 0)) := by
  have e2 : s2 = s1 + k := by rw [h2, h1, hk]; grind
  have e4 : t2 = t1 - k := by rw [h4, h3, hk]; grind
  have ex : k * rx = t1 * px + s1 * qx := by rw [hk, h3, h1]; grind
  have ey : k * ry = t1 * py + s1 * qy := by rw [hk, h3, h1]; grind
  have hp0 : px ≠ 0 ∨ py ≠ 0 := by
    by_cases c : px = 0
    · by_cases d : py = 0
      · subst c d; simp at hk; omega
      · exact Or.inr d
    · exact Or.inl c
  have hq0 : qx ≠ 0 ∨ qy ≠ 0 := by
    by_cases c : qx = 0
    · by_cases d : qy = 0
      · subst c d; simp at hk; omega
      · exact Or.inr d
    · exact Or.inl c
  have z : ∀ {x : Int}, k * x = 0 → x = 0 := fun h => (Int.mul_eq_zero.mp h).resolve_left k0
  have x1 : ¬ (s1 = 0 ∧ t1 = 0) := by
    rintro ⟨a, b⟩
    rw [a, b] at ex ey
    have := z (x := rx) (by rw [ex]; grind)
    have := z (x := ry) (by rw [ey]; grind)
    omega
  have x2 : ¬ (s2 = 0 ∧ t1 = 0) := by
    rintro ⟨a, b⟩
    have hs : s1 = -k := by omega
    rw [hs, b] at ex ey
    have := z (x := rx + qx) (by rw [Int.mul_add, ex]; grind)
    have := z (x := ry + qy) (by rw [Int.mul_add, ey]; grind)
    omega
  have x3 : ¬ (s1 = 0 ∧ t2 = 0) := by
    rintro ⟨a, b⟩
    have ht : t1 = k := by omega
    rw [a, ht] at ex ey
    have := z (x := rx - px) (by rw [Int.mul_sub, ex]; grind)
    have := z (x := ry - py) (by rw [Int.mul_sub, ey]; grind)
    omega
  have x4 : ¬ (s2 = 0 ∧ t2 = 0) := by
    rintro ⟨a, b⟩
    have hs : s1 = -k := by omega
    have ht : t1 = k := by omega
    rw [hs, ht] at ex ey
    have := z (x := rx + qx - px) (by rw [Int.mul_sub, Int.mul_add, ex]; grind)
    have := z (x := ry + qy - py) (by rw [Int.mul_sub, Int.mul_add, ey]; grind)
    omega
  have dC : s1 = 0 → ((-rx) * (px - rx) + (-ry) * (py - ry) < 0 ↔ opp t1 t2) := by
    intro a
    rw [a] at ex ey
    rw [np_dot k0 hp0 (t := t1) (by rw [ex]; grind) (by rw [ey]; grind), mul_neg, e4]
    rfl
  have dD : s2 = 0 → ((-(rx + qx)) * (px - (rx + qx)) + (-(ry + qy)) * (py - (ry + qy)) < 0 ↔ opp t1 t2) := by
    intro a
    have hs : s1 = -k := by omega
    rw [hs] at ex ey
    rw [np_dot k0 hp0 (t := t1) (by rw [Int.mul_add, ex]; grind) (by rw [Int.mul_add, ey]; grind), mul_neg, e4]
    rfl
  have dA : t1 = 0 → (rx * (rx + qx) + ry * (ry + qy) < 0 ↔ opp s1 s2) := by
    intro a
    rw [a] at ex ey
    have := np_dot (k := k) (t := -s1) (px := qx) (py := qy) (rx := -rx) (ry := -ry) k0 hq0 (by grind) (by grind)
    rw [show rx * (rx + qx) + ry * (ry + qy) = -(-rx) * (qx - -rx) + -(-ry) * (qy - -ry) by grind, this, mul_neg, e2]
    exact opp_neg
  have dB : t2 = 0 → ((rx - px) * (rx + qx - px) + (ry - py) * (ry + qy - py) < 0 ↔ opp s1 s2) := by
    intro a
    have ht : t1 = k := by omega
    rw [ht] at ex ey
    have := np_dot (k := k) (t := -s1) (px := qx) (py := qy) (rx := px - rx) (ry := py - ry) k0 hq0 (by grind) (by grind)
    rw [show (rx - px) * (rx + qx - px) + (ry - py) * (ry + qy - py) = -(px - rx) * (qx - (px - rx)) + -(py - ry) * (qy - (py - ry)) by grind, this, mul_neg, e2]
    exact opp_neg
  have L := np_logic e2 e4 k0 x1 x2 x3 x4
  have R : ((opp s1 s2 ∧ opp t1 t2) ∨ (t1 = 0 ∧ rx * (rx + qx) + ry * (ry + qy) < 0) ∨ (t2 = 0 ∧ (rx - px) * (rx + qx - px) + (ry - py) * (ry + qy - py) < 0) ∨ (s1 = 0 ∧ (-rx) * (px - rx) + (-ry) * (py - ry) < 0) ∨ (s2 = 0 ∧ (-(rx + qx)) * (px - (rx + qx)) + (-(ry + qy)) * (py - (ry + qy)) < 0)) ↔ ((opp s1 s2 ∧ opp t1 t2) ∨ (t1 = 0 ∧ opp s1 s2) ∨ (t2 = 0 ∧ opp s1 s2) ∨ (s1 = 0 ∧ opp t1 t2) ∨ (s2 = 0 ∧ opp t1 t2)) := by
    rw [and_congr_right dA, and_congr_right dB, and_congr_right dC, and_congr_right dD]
  rw [R, ← L]
  constructor
  · exact fun h => h.2
  · intro hs
    refine ⟨?_, hs⟩
    obtain ⟨K, T, S, ⟨hK, hT, hT2, hS, hS2⟩, ee⟩ : ∃ K T S : Int, (0 < K ∧ 0 ≤ T ∧ T ≤ K ∧ 0 ≤ S ∧ S ≤ K) ∧ (K * ax + T * (bx - ax) = K * cx + S * (dx - cx) ∧ K * ay + T * (bv - ay) = K * cy + S * (dy - cy)) := by
      rcases np_pos e2 e4 hs k0 with c | c
      · refine ⟨k, t1, -s1, c, ?_, ?_⟩
        · rw [hpx, hqx, hrx]; grind
        · rw [hpy, hqy, hry]; grind
      · refine ⟨-k, -t1, s1, c, ?_, ?_⟩
        · rw [hpx, hqx, hrx]; grind
        · rw [hpy, hqy, hry]; grind
    have m1 := meet1 hK hT hT2 hS hS2 ee.1
    have m2 := meet1 hK hT hT2 hS hS2 ee.2
    exact ⟨m1.1, m1.2, m2.1, m2.2⟩
