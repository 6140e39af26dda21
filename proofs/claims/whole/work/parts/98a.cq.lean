/-- the order of two numbers, as the programs answer it -/
def pu_cmp (a b : Nat) : Int32 := if a < b then -1 else if a = b then 0 else 1
theorem pu_nat_halve {o u : Nat} (hu : 0 < u) (h : u ≤ o) : 2 * (o % u) ≤ o := by
  have h1 := Nat.mod_lt o hu
  have h2 := Nat.mod_add_div o u
  have h3 : 1 ≤ o / u := (Nat.le_div_iff_mul_le hu).mpr (by omega)
  have h4 : u * 1 ≤ u * (o / u) := Nat.mul_le_mul_left u h3
  omega
/-- the whole parts differ: they decide -/
theorem pu_div_lt {o1 u1 o2 u2 : Nat} (h1 : 0 < u1) (h2 : 0 < u2) (h : o1 / u1 < o2 / u2) : o1 * u2 < o2 * u1 := by
  have a1 : o1 < u1 * (o1 / u1 + 1) := by
    have := Nat.mod_lt o1 h1
    have := Nat.mod_add_div o1 u1
    rw [Nat.mul_add]
    omega
  have a2 : u2 * (o2 / u2) ≤ o2 := Nat.mul_div_le o2 u2
  have a3 : u1 * (o1 / u1 + 1) ≤ u1 * (o2 / u2) := Nat.mul_le_mul_left u1 h
  calc o1 * u2 < u1 * (o1 / u1 + 1) * u2 := (Nat.mul_lt_mul_right h2).mpr a1
    _ ≤ u1 * (o2 / u2) * u2 := Nat.mul_le_mul_right u2 a3
    _ = u1 * (u2 * (o2 / u2)) := by rw [Nat.mul_assoc, Nat.mul_comm (o2 / u2) u2]
    _ ≤ u1 * o2 := Nat.mul_le_mul_left u1 a2
    _ = o2 * u1 := Nat.mul_comm u1 o2
/-- the whole parts are the same: the rests decide -/
theorem pu_div_eq {o1 u1 o2 u2 : Nat} (h : o1 / u1 = o2 / u2) : (o1 * u2 < o2 * u1 ↔ (o1 % u1) * u2 < (o2 % u2) * u1) ∧ (o1 * u2 = o2 * u1 ↔ (o1 % u1) * u2 = (o2 % u2) * u1) := by
  have e1 : o1 * u2 = (o1 % u1) * u2 + u1 * u2 * (o1 / u1) := by
    have := Nat.mod_add_div o1 u1
    calc o1 * u2 = (o1 % u1 + u1 * (o1 / u1)) * u2 := by rw [this]
      _ = _ := by rw [Nat.add_mul, Nat.mul_assoc, Nat.mul_comm (o1 / u1) u2, ← Nat.mul_assoc]
  have e2 : o2 * u1 = (o2 % u2) * u1 + u1 * u2 * (o1 / u1) := by
    have := Nat.mod_add_div o2 u2
    calc o2 * u1 = (o2 % u2 + u2 * (o2 / u2)) * u1 := by rw [this]
      _ = _ := by rw [Nat.add_mul, ← h, Nat.mul_assoc, Nat.mul_comm (o1 / u1) u1, ← Nat.mul_assoc, Nat.mul_comm u2 u1]
  omega
theorem pu_cmp_congr {a b c d : Nat} (h1 : a < b ↔ c < d) (h2 : a = b ↔ c = d) : pu_cmp a b = pu_cmp c d := by
  unfold pu_cmp
  by_cases x : a < b
  · rw [if_pos x, if_pos (h1.mp x)]
  · rw [if_neg x, if_neg (fun q => x (h1.mpr q))]
    by_cases y : a = b
    · rw [if_pos y, if_pos (h2.mp y)]
    · rw [if_neg y, if_neg (fun q => y (h2.mpr q))]
theorem pu_l0 {n : Nat} (h : n < 2 ^ 63) : lN n = 0 ↔ n = 0 := pk_lEQ (b := 0) h (by decide)
theorem pu_c0 {n : Nat} (h : n < 2 ^ 63) : lg_cmp (lN n) 0 = 0 ↔ n = 0 := by
  unfold lg_cmp
  have h1 : (lN n > 0) ↔ 0 < n := pk_lLT (a := 0) (by decide) h
  by_cases x : n = 0
  · subst x
    simp [show lN 0 = 0 from rfl]
  · rw [if_pos (h1.mpr (by omega))]
    simp [x]
theorem pu_cle {n : Nat} (h : n < 2 ^ 63) : lg_cmp (lN n) 0 ≤ 0 ↔ n = 0 := by
  unfold lg_cmp
  have h1 : (lN n > 0) ↔ 0 < n := pk_lLT (a := 0) (by decide) h
  by_cases x : n = 0
  · subst x
    simp [show lN 0 = 0 from rfl]
  · rw [if_pos (h1.mpr (by omega))]
    simp [x]
theorem pu_ceq {a b : Nat} (ha : a < 2 ^ 63) (hb : b < 2 ^ 63) : lg_cmp (lN a) (lN b) = 0 ↔ a = b := by
  unfold lg_cmp
  have h1 : (lN a > lN b) ↔ b < a := pk_lLT hb ha
  have h2 : (lN a = lN b) ↔ a = b := pk_lEQ ha hb
  by_cases x : b < a
  · rw [if_pos (h1.mpr x)]
    simp; omega
  · rw [if_neg (fun q => x (h1.mp q))]
    by_cases y : a = b
    · rw [if_pos (h2.mpr y)]; simp [y]
    · rw [if_neg (fun q => y (h2.mp q))]; simp [y]
theorem pu_cge {a b : Nat} (ha : a < 2 ^ 63) (hb : b < 2 ^ 63) : 0 ≤ lg_cmp (lN a) (lN b) ↔ b ≤ a := (lg_cmp_ge _ _).trans (pk_lLE hb ha)
theorem pu_rest {o u : Nat} (ho : o < 2 ^ 63) (hu : 0 < u) (hu2 : u < 2 ^ 63) : lN o - lN o / lN u * lN u = lN (o % u) := pk_lRem ho hu hu2
set_option maxHeartbeats 1000000 in
/-- SectorView.compareQuotients at its loop's head -/
theorem pu_cq_loop (h : vt_S) : ∀ (n i o1 u1 o2 u2 : Nat), 200 ≤ i + n → i ≤ 200 → 0 < u1 → 0 < u2 → o1 < 2 ^ 62 → u1 < 2 ^ 62 → o2 < 2 ^ 62 → u2 < 2 ^ 62 → (i = 0 ∨ (u1 ≤ o1 ∧ u2 ≤ o2)) → o1 * u1 * 2 ^ i ≤ 2 ^ 125 → o2 * u2 * 2 ^ i ≤ 2 ^ 125 → ab_X12_compareQuotients_17 (n + 1) (lN o1) (lN u1) (lN o2) (lN u2) (nI i) h = some (pu_cmp (o1 * u2) (o2 * u1), h) := by
  intro n
  induction n with
  | zero =>
    intro i o1 u1 o2 u2 g1 g2 p1 p2 a1 a2 a3 a4 g3 g4 g5
    have hi : i = 200 := by omega
    subst hi
    rcases g3 with g | ⟨g, g'⟩
    · omega
    · have : 1 ≤ o1 * u1 := Nat.mul_pos (by omega) p1
      have : 1 * 2 ^ 200 ≤ o1 * u1 * 2 ^ 200 := Nat.mul_le_mul_right _ this
      have e1 : (2 : Nat) ^ 125 < 2 ^ 200 := by decide
      omega
  | succ n ih =>
    intro i o1 u1 o2 u2 g1 g2 p1 p2 a1 a2 a3 a4 g3 g4 g5
    have b1 : o1 < 2 ^ 63 := by omega
    have b2 : u1 < 2 ^ 63 := by omega
    have b3 : o2 < 2 ^ 63 := by omega
    have b4 : u2 < 2 ^ 63 := by omega
    have hi : i < 200 := by
      rcases Nat.lt_or_ge i 200 with q | q
      · exact q
      · rcases g3 with g | ⟨g, g'⟩
        · omega
        · have e0 : i = 200 := by omega
          subst e0
          have : 1 ≤ o1 * u1 := Nat.mul_pos (by omega) p1
          have : 1 * 2 ^ 200 ≤ o1 * u1 * 2 ^ 200 := Nat.mul_le_mul_right _ this
          have e1 : (2 : Nat) ^ 125 < 2 ^ 200 := by decide
          omega
    have c1 : ¬ (200 : Int32) ≤ nI i := nI_ge (b := 200) hi (by decide)
    have q1 : o1 / u1 < 2 ^ 63 := Nat.lt_of_le_of_lt (Nat.div_le_self _ _) b1
    have q2 : o2 / u2 < 2 ^ 63 := Nat.lt_of_le_of_lt (Nat.div_le_self _ _) b3
    have m1 := Nat.mod_lt o1 p1
    have m2 := Nat.mod_lt o2 p2
    show ab_X12_compareQuotients_17b (ab_X12_compareQuotients_17 (n + 1)) (lN o1) (lN u1) (lN o2) (lN u2) (nI i) h = _
    unfold ab_X12_compareQuotients_17b
    rw [if_neg c1, if_neg (fun q => by have := (pu_cle b2).mp q; omega), if_neg (fun q => by have := (pu_cle b4).mp q; omega), if_neg (fun q => by have := (pu_l0 b2).mp q; omega), if_neg (fun q => by have := (pu_l0 b4).mp q; omega)]
    rw [pk_lDiv b1 p1 b2, pk_lDiv b3 p2 b4]
    have r1 : lN o1 - lN (o1 / u1) * lN u1 = lN (o1 % u1) := by rw [← pk_lDiv b1 p1 b2]; exact pu_rest b1 p1 b2
    have r2 : lN o2 - lN (o2 / u2) * lN u2 = lN (o2 % u2) := by rw [← pk_lDiv b3 p2 b4]; exact pu_rest b3 p2 b4
    rw [r1, r2]
    have k1 : o1 % u1 < 2 ^ 63 := by omega
    have k2 : o2 % u2 < 2 ^ 63 := by omega
    by_cases x : o1 / u1 = o2 / u2
    · obtain ⟨y1, y2⟩ := pu_div_eq x
      rw [if_pos ((pu_ceq q1 q2).mpr x), pu_cmp_congr y1 y2]
      have go : ¬ o1 % u1 = 0 → ¬ o2 % u2 = 0 → ab_X12_compareQuotients_17 (n + 1) (lN u2) (lN (o2 % u2)) (lN u1) (lN (o1 % u1)) (nI i + 1) h = some (pu_cmp (o1 % u1 * u2) (o2 % u2 * u1), h) := by
        intro z1 z2
        rw [nI_1, ih (i + 1) u2 (o2 % u2) u1 (o1 % u1) (by omega) (by omega) (by omega) (by omega) a4 (by omega) a2 (by omega) (Or.inr ⟨by omega, by omega⟩) ?_ ?_]
        · rw [Nat.mul_comm u2, Nat.mul_comm u1]
        · rcases g3 with g | ⟨-, g⟩
          · subst g
            have : u2 * (o2 % u2) ≤ u2 * o2 := Nat.mul_le_mul_left _ (Nat.mod_le _ _)
            have w1 : u2 * o2 ≤ 2 ^ 62 * 2 ^ 62 := Nat.mul_le_mul (by omega) (by omega)
            have w2 : (2 : Nat) ^ 62 * 2 ^ 62 * 2 ^ 1 = 2 ^ 125 := by decide
            rw [← w2]
            exact Nat.mul_le_mul_right _ (Nat.le_trans this w1)
          · have : u2 * (2 * (o2 % u2)) ≤ u2 * o2 := Nat.mul_le_mul_left _ (pu_nat_halve p2 g)
            calc u2 * (o2 % u2) * 2 ^ (i + 1) = u2 * (2 * (o2 % u2)) * 2 ^ i := by rw [Nat.pow_succ, Nat.mul_comm (2 ^ i) 2, ← Nat.mul_assoc, Nat.mul_assoc u2, Nat.mul_comm (o2 % u2) 2]
              _ ≤ u2 * o2 * 2 ^ i := Nat.mul_le_mul_right _ this
              _ = o2 * u2 * 2 ^ i := by rw [Nat.mul_comm u2 o2]
              _ ≤ 2 ^ 125 := g5
        · rcases g3 with g | ⟨g, -⟩
          · subst g
            have : u1 * (o1 % u1) ≤ u1 * o1 := Nat.mul_le_mul_left _ (Nat.mod_le _ _)
            have w1 : u1 * o1 ≤ 2 ^ 62 * 2 ^ 62 := Nat.mul_le_mul (by omega) (by omega)
            have w2 : (2 : Nat) ^ 62 * 2 ^ 62 * 2 ^ 1 = 2 ^ 125 := by decide
            rw [← w2]
            exact Nat.mul_le_mul_right _ (Nat.le_trans this w1)
          · have : u1 * (2 * (o1 % u1)) ≤ u1 * o1 := Nat.mul_le_mul_left _ (pu_nat_halve p1 g)
            calc u1 * (o1 % u1) * 2 ^ (i + 1) = u1 * (2 * (o1 % u1)) * 2 ^ i := by rw [Nat.pow_succ, Nat.mul_comm (2 ^ i) 2, ← Nat.mul_assoc, Nat.mul_assoc u1, Nat.mul_comm (o1 % u1) 2]
              _ ≤ u1 * o1 * 2 ^ i := Nat.mul_le_mul_right _ this
              _ = o1 * u1 * 2 ^ i := by rw [Nat.mul_comm u1 o1]
              _ ≤ 2 ^ 125 := g4
      by_cases z1 : o1 % u1 = 0
      · rw [if_pos ((pu_c0 k1).mpr z1)]
        by_cases z2 : o2 % u2 = 0
        · rw [if_pos ((pu_c0 k2).mpr z2), z1, z2]
          simp [pu_cmp]
        · rw [if_neg (fun q => z2 ((pu_c0 k2).mp q))]
          unfold ab_X12_compareQuotients_111 ab_X12_compareQuotients_125 ab_X12_compareQuotients_137
          rw [if_pos ((pu_c0 k1).mpr z1), if_pos ((pu_c0 k1).mpr z1), z1]
          have : 0 < o2 % u2 * u1 := Nat.mul_pos (by omega) p1
          simp [pu_cmp, this]
      · rw [if_neg (fun q => z1 ((pu_c0 k1).mp q))]
        unfold ab_X12_compareQuotients_111
        rw [if_neg (fun q => z1 ((pu_c0 k1).mp q))]
        by_cases z2 : o2 % u2 = 0
        · rw [if_pos ((pu_c0 k2).mpr z2)]
          unfold ab_X12_compareQuotients_125 ab_X12_compareQuotients_137
          rw [if_neg (fun q => z1 ((pu_c0 k1).mp q)), z2]
          have : 0 < o1 % u1 * u2 := Nat.mul_pos (by omega) p2
          have e9 : ¬ (o1 % u1 * u2 < 0 * u1) := by omega
          have e8 : ¬ (o1 % u1 * u2 = 0 * u1) := by omega
          rw [pu_cmp, if_neg e9, if_neg e8]
        · rw [if_neg (fun q => z2 ((pu_c0 k2).mp q))]
          exact go z1 z2
    · rw [if_neg (fun q => x ((pu_ceq q1 q2).mp q))]
      unfold ab_X12_compareQuotients_74
      by_cases y : o1 / u1 < o2 / u2
      · rw [if_neg (fun q => by have := (pu_cge q1 q2).mp q; omega)]
        rw [pu_cmp, if_pos (pu_div_lt p1 p2 y)]
      · rw [if_pos ((pu_cge q1 q2).mpr (by omega))]
        have w := pu_div_lt p2 p1 (show o2 / u2 < o1 / u1 by omega)
        rw [pu_cmp, if_neg (by omega), if_neg (by omega)]
/-- SectorView.compareQuotients: n / d against m / e, for numbers below 2^62 -/
theorem pu_cq {n d m e : Nat} (h : vt_S) (hd : 0 < d) (he : 0 < e) (h1 : n < 2 ^ 62) (h2 : d < 2 ^ 62) (h3 : m < 2 ^ 62) (h4 : e < 2 ^ 62) : ab_X12_compareQuotients (lN n) (lN d) (lN m) (lN e) h = some (pu_cmp (n * e) (m * d), h) := by
  have w : ∀ a b : Nat, a < 2 ^ 62 → b < 2 ^ 62 → a * b * 2 ^ 0 ≤ 2 ^ 125 := by
    intro a b ha hb
    have w1 : a * b ≤ 2 ^ 62 * 2 ^ 62 := Nat.mul_le_mul (by omega) (by omega)
    have w2 : (2 : Nat) ^ 62 * 2 ^ 62 ≤ 2 ^ 125 := by decide
    omega
  exact pu_cq_loop h 999999999 0 n d m e (by omega) (by omega) hd he h1 h2 h3 h4 (Or.inl rfl) (w _ _ h1 h2) (w _ _ h3 h4)
