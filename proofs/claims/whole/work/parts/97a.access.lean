-- THE REFERENCE's map: what its bytes say
def rMap (B : Nat) (g : Nat → Nat) (n : Nat) (s : vt_S) : Prop := vt_I s 1503 (B + 640) = nI n ∧ vt_L s 1502 (B + 640) = 8192 ∧ n ≤ 8192 ∧ (∀ i, i < n → vt_A s 1502 (B + 640) i = zI (sg8 (g i)) ∧ g i < 256) ∧ mapV g n
theorem txp_ge (g : Nat → Nat) (j : Nat) : 7 ≤ txp g j := by
  induction j with
  | zero => show 7 ≤ 7 + 4 * g 3; omega
  | succ j ih => exact Nat.le_trans ih (by show txp g j ≤ txp g j + 2 + 2 ^ (g (txp g j) + g (txp g j + 1)); rw [Nat.add_assoc]; exact Nat.le_add_right _ _)
theorem stp_ge (g : Nat → Nat) : 7 ≤ scp g 0 ∧ scp g 0 ≤ wlp g 0 ∧ wlp g 0 ≤ stp g ∧ 7 ≤ stp g := by
  have := txp_ge g (g 4)
  unfold stp wlp scp
  omega
section RM
variable {B : Nat} {g : Nat → Nat} {n : Nat} {s : vt_S}
theorem rMap.n15 (h : rMap B g n s) : 15 ≤ n := by
  have := h.2.2.2.2.2.1
  have := stp_ge g
  omega
theorem rMap.V (h : rMap B g n s) : mapV g n := h.2.2.2.2
theorem rm_ld (h : rMap B g n s) {i : Nat} (hi : i < n) : vl_I s 1502 (B + 640) (nI i) = some (zI (sg8 (g i))) := by
  obtain ⟨h1, h2, h3, h4, h5⟩ := h
  rw [vl_I_ok (by omega) (by omega), (h4 i hi).1]
theorem rm_ld8 (h : rMap B g n s) {i : Nat} (hi : i < n) : ∃ v, vl_I s 1502 (B + 640) (nI i) = some v ∧ v &&& 255 = nI (g i) := ⟨_, rm_ld h hi, sg8_and (h.2.2.2.1 i hi).2⟩
theorem rm_many (h : rMap B g n s) {k : Nat} (hk : k < 8) : ab_X14_many (B + 640) (nI k) s = some (nI (g k), s) := by
  have := h.n15
  have h3 := h.2.2.1
  unfold ab_X14_many
  rw [slet, h.1, if_neg (by rw [show (0 : Int32) = nI 0 from rfl, nI_eq (by omega) (by omega)]; omega), rm_ld h (by omega), obs, sg8_and (h.2.2.2.1 k (by omega)).2, ab_X14_many_21]
theorem sg8_small {b : Nat} (h : b < 128) : zI (sg8 b) = nI b := by
  rw [nI_z]; congr 1; unfold sg8; omega
theorem rm_texAt_loop (h : rMap B g n s) {k : Nat} (hk : k ≤ g 4) : ∀ (d i fu : Nat), i + d = k → d < fu → ab_X14_textureAt_13 fu (B + 640) (nI k) (nI (txp g i)) (nI i) s = some (nI (txp g k), s) := by
  have hT := h.V.1.1.2.1
  have h3 := h.2.2.1
  intro d
  induction d with
  | zero =>
    intro i fu hi hf
    obtain ⟨fu, rfl⟩ : ∃ q, fu = q + 1 := ⟨fu - 1, by omega⟩
    obtain rfl : i = k := by omega
    show ab_X14_textureAt_13b _ (B + 640) _ _ _ s = _
    unfold ab_X14_textureAt_13b
    rw [if_pos (nI_le (by omega) (by omega))]
  | succ d ih =>
    intro i fu hi hf
    obtain ⟨fu, rfl⟩ : ∃ q, fu = q + 1 := ⟨fu - 1, by omega⟩
    show ab_X14_textureAt_13b _ (B + 640) _ _ _ s = _
    unfold ab_X14_textureAt_13b
    obtain ⟨⟨v1, v2, v3⟩, v4⟩ := h.V.1.2.2.2.1 i (by omega)
    have hp : 0 < 2 ^ (g (txp g i) + g (txp g i + 1)) := Nat.pow_pos (by decide)
    have e : txp g (i + 1) = txp g i + 2 + 2 ^ (g (txp g i) + g (txp g i + 1)) := rfl
    rw [if_neg (nI_ge (by omega) (by omega)), rm_ld h (by omega), obs, nI_1, rm_ld h (by omega), obs, sg8_small (by omega), sg8_small (by omega), nI_add, shlS (by omega), show (2 : Int32) = nI 2 from rfl, nI_add, nI_add, nI_1, ← Nat.add_assoc, ← e]
    exact ih (i + 1) fu (by omega) (by omega)
theorem rm_texAt (h : rMap B g n s) {k : Nat} (hk : k ≤ g 4) : ab_X14_textureAt (B + 640) (nI k) s = some (nI (txp g k), s) := by
  have hT := h.V.1.1.2.1
  unfold ab_X14_textureAt
  rw [show (3 : Int32) = nI 3 from rfl, rm_many h (by omega), vbs, (i74 _).1]
  exact rm_texAt_loop h hk k 0 sv_fuel (by omega) (fuel_ge (by omega))
theorem rm_secAt (h : rMap B g n s) (k : Nat) : ab_X14_sectorAt (B + 640) (nI k) s = some (nI (scp g k), s) := by
  unfold ab_X14_sectorAt
  rw [show (4 : Int32) = nI 4 from rfl, rm_many h (by omega), vbs, rm_texAt h (Nat.le_refl _), vbs, show (9 : Int32) = nI 9 from rfl, pk_mul, nI_add]
  rfl
theorem rm_wallAt (h : rMap B g n s) (k : Nat) : ab_X14_wallAt (B + 640) (nI k) s = some (nI (wlp g k), s) := by
  unfold ab_X14_wallAt
  rw [show (5 : Int32) = nI 5 from rfl, rm_many h (by omega), vbs, rm_secAt h, vbs, show (14 : Int32) = nI 14 from rfl, pk_mul, nI_add]
  rfl
theorem rm_has (h : rMap B g n s) {k j : Nat} (hk : k < 8) (hj : j < g k) : ab_X14_has (B + 640) (nI k) (nI j) s = some (1, s) := by
  have := h.n15
  have hb := (h.2.2.2.1 k (by omega)).2
  unfold ab_X14_has
  rw [if_neg (nI_pos (by omega)), rm_many h hk, vbs, if_neg (nI_ge (by omega) (by omega))]
  rfl
theorem rm_has0 (h : rMap B g n s) {k : Nat} {a : Int32} (hk : k < 8) (ha : a < 0 ∨ nI (g k) ≤ a) : ab_X14_has (B + 640) (nI k) a s = some (0, s) := by
  unfold ab_X14_has
  by_cases c : a < 0
  · rw [if_pos c]; rfl
  · rw [if_neg c, rm_many h hk, vbs, if_pos (ha.resolve_left c)]; rfl
theorem rm_pair (h : rMap B g n s) {i : Nat} (hi : i + 1 < n) : ab_X14_pair 1502 (B + 640) (nI i) s = some (zI (pr g i), s) := by
  obtain ⟨h1, h2, h3, h4, h5⟩ := h
  exact pr_of (h4 i (by omega)).1 (h4 _ hi).1 (h4 i (by omega)).2 (h4 _ hi).2 (by omega) (by omega)
theorem rm_vertex (h : rMap B g n s) {j : Nat} (hj : j < g 3) : ab_X14_vertex (B + 640) (nI j) 1 s = some (zI (vX g j), s) ∧ ab_X14_vertex (B + 640) (nI j) 0 s = some (zI (vY g j), s) := by
  have hn := h.V.1.2.2.1
  unfold ab_X14_vertex ab_X14_vertex_24
  rw [show (3 : Int32) = nI 3 from rfl, rm_has h (by omega) hj, vbs, if_neg (by decide), if_neg (by decide), vbs, if_neg (by decide), if_pos rfl, (i74 j).1, (i74 j).2, rm_pair h (by omega), rm_pair h (by omega), vbs, vbs]
  exact ⟨rfl, rfl⟩
theorem rm_sec0 (h : rMap B g n s) {j : Nat} (hj : j < g 5) : ab_X14_sector (B + 640) (nI j) 0 s = some (zI (pr g (scp g j)), s) ∧ ab_X14_sector (B + 640) (nI j) 1 s = some (zI (pr g (scp g j + 2)), s) := by
  have hn := (h.V.1.2.2.2.2.1 j hj).2
  constructor
  · unfold ab_X14_sector
    rw [show (5 : Int32) = nI 5 from rfl, rm_has h (by omega) hj, vbs, if_neg (by decide), if_neg (by decide), if_pos (by decide), rm_secAt h, vbs, if_neg (by decide), show (2 * 0 : Int32) = nI 0 from rfl, nI_add, rm_pair h (by omega), vbs]
    rfl
  · unfold ab_X14_sector
    rw [show (5 : Int32) = nI 5 from rfl, rm_has h (by omega) hj, vbs, if_neg (by decide), if_neg (by decide), if_pos (by decide), rm_secAt h, vbs, if_neg (by decide), show (2 * 1 : Int32) = nI 2 from rfl, nI_add, rm_pair h (by omega), vbs]
    rfl
theorem rm_sec (h : rMap B g n s) {j k : Nat} (hj : j < g 5) (h2 : 2 ≤ k) (h6 : k ≤ 6) : ab_X14_sector (B + 640) (nI j) (nI k) s = some (nI (g (scp g j + 2 + k)), s) := by
  have hn := (h.V.1.2.2.2.2.1 j hj).2
  obtain ⟨v, e1, e2⟩ := rm_ld8 h (i := scp g j + 2 + k) (by omega)
  unfold ab_X14_sector
  rw [show (5 : Int32) = nI 5 from rfl, rm_has h (by omega) hj, vbs, if_neg (by decide), if_neg (nI_pos (by omega)), if_pos (show nI k ≤ 6 from nI_le (b := 6) (by omega) (by omega)), rm_secAt h, vbs, if_pos (show (2 : Int32) ≤ nI k from nI_le (a := 2) (by omega) (by omega)), show (2 : Int32) = nI 2 from rfl, nI_add, nI_add, e1, obs, e2]
  rfl
/-- what a wall's bytes say -/
def wP (g : Nat → Nat) (p k : Nat) : Nat := if k = 10 then g (p + 10) / 16 else if k = 11 then g (p + 10) % 16 else if k ≤ 11 then g (p + k) else g (p + (k - 1))
theorem rm_wall (h : rMap B g n s) {j k : Nat} (hj : j < g 6) (hk : k ≤ 14) : ab_X14_wall (B + 640) (nI j) (nI k) s = some (nI (wP g (wlp g j) k), s) := by
  have hn := (h.V.1.2.2.2.2.2 j hj).2
  have e10 : (nI k = 10) = (k = 10) := by rw [show (10 : Int32) = nI 10 from rfl, nI_eq (by omega) (by omega)]
  have e11 : (nI k = 11) = (k = 11) := by rw [show (11 : Int32) = nI 11 from rfl, nI_eq (by omega) (by omega)]
  obtain ⟨v, x1, x2⟩ := rm_ld8 h (i := wlp g j + 10) (by omega)
  have hb := (h.2.2.2.1 (wlp g j + 10) (by omega)).2
  unfold ab_X14_wall
  rw [show (6 : Int32) = nI 6 from rfl, rm_has h (by omega) hj, vbs, if_neg (by decide), if_neg (nI_pos (by omega)), if_pos (show nI k ≤ 14 from nI_le (b := 14) (by omega) (by omega)), rm_wallAt h, vbs]
  unfold wP
  have g11 : k = 12 ∨ k = 13 ∨ k = 14 → ¬ nI k ≤ 11 := by rintro (rfl | rfl | rfl) <;> decide
  by_cases c : k = 10
  · rw [if_pos (show nI k = 10 by rw [e10]; exact c), if_pos c]
    unfold ab_X14_wall_40
    rw [if_pos (show nI k = 10 by rw [e10]; exact c), show (10 : Int32) = nI 10 from rfl, nI_add, x1, obs, x2, nI_z, show (16 : Int32) = zI 16 from rfl, zI_divP (by omega) (by omega) (by omega) (by omega)]
    rw [nI_z]; rfl
  · rw [if_neg (show ¬ nI k = 10 by rw [e10]; exact c), if_neg c]
    by_cases d : k = 11
    · rw [if_pos (show nI k = 11 by rw [e11]; exact d), if_pos d]
      unfold ab_X14_wall_40
      rw [if_neg (show ¬ nI k = 10 by rw [e10]; exact c), show (10 : Int32) = nI 10 from rfl, nI_add, x1, obs, x2, show (16 : Int32) = nI 16 from rfl, rem_nI (by omega) (by omega) (by omega)]
      rfl
    · rw [if_neg (show ¬ nI k = 11 by rw [e11]; exact d), if_neg d]
      unfold ab_X14_wall_100
      by_cases e : k ≤ 11
      · obtain ⟨v2, y1, y2⟩ := rm_ld8 h (i := wlp g j + k) (by omega)
        rw [if_pos (show nI k ≤ 11 from nI_le (b := 11) e (by omega)), if_pos e, nI_add, y1, obs, y2]
      · obtain ⟨v2, y1, y2⟩ := rm_ld8 h (i := wlp g j + (k - 1)) (by omega)
        rw [if_neg (g11 (by omega)), if_neg e]
        obtain ⟨k', rfl⟩ : ∃ k', k = k' + 1 := ⟨k - 1, by omega⟩
        rw [(z_down k').1, nI_add]
        rw [show k' + 1 - 1 = k' by omega] at y1 y2 ⊢
        rw [y1, obs, y2]
theorem rm_start01 (h : rMap B g n s) : ab_X14_start (B + 640) 0 s = some (zI (pr g (stp g)), s) ∧ ab_X14_start (B + 640) 1 s = some (zI (pr g (stp g + 2)), s) := by
  have hn := h.V.2.1
  have n15 := h.n15
  have h3 := h.2.2.1
  constructor
  · unfold ab_X14_start
    rw [slet, h.1, if_neg (show ¬ nI n = 0 by rw [show (0 : Int32) = nI 0 from rfl, nI_eq (by omega) (by omega)]; omega), if_neg (by decide), if_pos (by decide), show (6 : Int32) = nI 6 from rfl, rm_many h (by omega), vbs, rm_wallAt h, vbs, if_neg (by decide), show (2 * 0 : Int32) = nI 0 from rfl, nI_add, show wlp g (g 6) = stp g from rfl, rm_pair h (by omega), vbs]
    rfl
  · unfold ab_X14_start
    rw [slet, h.1, if_neg (show ¬ nI n = 0 by rw [show (0 : Int32) = nI 0 from rfl, nI_eq (by omega) (by omega)]; omega), if_neg (by decide), if_pos (by decide), show (6 : Int32) = nI 6 from rfl, rm_many h (by omega), vbs, rm_wallAt h, vbs, if_neg (by decide), show (2 * 1 : Int32) = nI 2 from rfl, nI_add, show wlp g (g 6) = stp g from rfl, rm_pair h (by omega), vbs]
    rfl
theorem rm_start (h : rMap B g n s) {k : Nat} (h2 : 2 ≤ k) (hk : k ≤ 3) : ab_X14_start (B + 640) (nI k) s = some (nI (g (stp g + 2 + k)), s) := by
  have hn := h.V.2.1
  have n15 := h.n15
  have h3 := h.2.2.1
  obtain ⟨v, e1, e2⟩ := rm_ld8 h (i := stp g + 2 + k) (by omega)
  unfold ab_X14_start
  rw [slet, h.1, if_neg (by rw [show (0 : Int32) = nI 0 from rfl, nI_eq (by omega) (by omega)]; omega), if_neg (nI_pos (by omega)), if_pos (show nI k ≤ 3 from nI_le (b := 3) (by omega) (by omega)), show (6 : Int32) = nI 6 from rfl, rm_many h (by omega), vbs, rm_wallAt h, vbs, if_pos (show (2 : Int32) ≤ nI k from nI_le (a := 2) (by omega) (by omega)), show (2 : Int32) = nI 2 from rfl, nI_add, nI_add, show wlp g (g 6) = stp g from rfl, e1, obs, e2]
  rfl
theorem rm_texW (h : rMap B g n s) {j : Nat} (hj : j < g 4) : ab_X14_texture (B + 640) (nI j) 0 s = some (nI (2 ^ g (txp g j)), s) ∧ ab_X14_texture (B + 640) (nI j) 1 s = some (nI (2 ^ g (txp g j + 1)), s) := by
  obtain ⟨⟨v1, v2, v3⟩, v4⟩ := h.V.1.2.2.2.1 j hj
  have hp : 0 < 2 ^ (g (txp g j) + g (txp g j + 1)) := Nat.pow_pos (by decide)
  have e : txp g (j + 1) = txp g j + 2 + 2 ^ (g (txp g j) + g (txp g j + 1)) := rfl
  constructor
  · unfold ab_X14_texture
    rw [show (4 : Int32) = nI 4 from rfl, rm_has h (by omega) hj, vbs, if_neg (by decide), if_pos (by decide), rm_texAt h (by omega), vbs, rm_ld h (by omega), obs, nI_1, rm_ld h (by omega), obs, if_neg (by decide), if_pos (by decide), sg8_small (by omega), shlS (by omega)]
    rfl
  · unfold ab_X14_texture
    rw [show (4 : Int32) = nI 4 from rfl, rm_has h (by omega) hj, vbs, if_neg (by decide), if_pos (by decide), rm_texAt h (by omega), vbs, rm_ld h (by omega), obs, nI_1, rm_ld h (by omega), obs, if_neg (by decide), if_neg (by decide), sg8_small (b := g (txp g j + 1)) (by omega), shlS (by omega)]
    rfl
theorem rm_texel (h : rMap B g n s) {j u v : Nat} (hj : j < g 4) (hu : u < 2 ^ g (txp g j)) (hv : v < 2 ^ g (txp g j + 1)) : ab_X14_texture (B + 640) (nI j) (nI (2 + 16 * v + u)) s = some (nI (g (txp g j + 2 + v * 2 ^ g (txp g j) + u)), s) := by
  obtain ⟨⟨v1, v2, v3⟩, v4⟩ := h.V.1.2.2.2.1 j hj
  have e : txp g (j + 1) = txp g j + 2 + 2 ^ (g (txp g j) + g (txp g j + 1)) := rfl
  have w1 : 2 ^ g (txp g j) ≤ 2 ^ 4 := Nat.pow_le_pow_right (by decide) v1
  have w2 : 2 ^ g (txp g j + 1) ≤ 2 ^ 4 := Nat.pow_le_pow_right (by decide) v2
  have hsz : v * 2 ^ g (txp g j) + u < 2 ^ (g (txp g j) + g (txp g j + 1)) := by
    rw [Nat.pow_add, Nat.mul_comm]
    have : 2 ^ g (txp g j) * (v + 1) ≤ 2 ^ g (txp g j) * 2 ^ g (txp g j + 1) := Nat.mul_le_mul_left _ hv
    rw [Nat.mul_add] at this
    omega
  have t15 := v3 _ hsz
  have n8 := h.2.2.1
  have hb : txp g j + 2 + v * 2 ^ g (txp g j) + u = txp g j + 2 + (v * 2 ^ g (txp g j) + u) := by omega
  rw [hb]
  unfold ab_X14_texture
  rw [show (4 : Int32) = nI 4 from rfl, rm_has h (by omega) hj, vbs, if_neg (by decide), if_pos (show (0 : Int32) ≤ nI _ from nI_le (a := 0) (by omega) (by omega)), rm_texAt h (by omega), vbs, rm_ld h (by omega), obs, nI_1, rm_ld h (by omega), obs, if_pos (show (2 : Int32) ≤ nI _ from nI_le (a := 2) (by omega) (by omega)), sg8_small (by omega), sg8_small (by omega), shlS (by omega), shlS (by omega)]
  have m2 : nI (2 + 16 * v + u) - 2 = nI (16 * v + u) := by
    rw [nI_z, show (2 : Int32) = zI 2 from rfl, zI_sub, nI_z]; congr 1; omega
  have q : nI (16 * v + u) / 16 = nI v := by
    rw [nI_z, show (16 : Int32) = zI 16 from rfl, zI_divP (by omega) (by omega) (by omega) (by omega), nI_z]; congr 1; omega
  have r : nI (16 * v + u) - nI v * 16 = nI u := by
    rw [nI_z, nI_z v, show (16 : Int32) = zI 16 from rfl, zI_mul, zI_sub, nI_z]; congr 1; omega
  rw [m2, q, r, if_neg (nI_ge (by omega) (by omega)), if_neg (nI_ge (by omega) (by omega)), show (2 : Int32) = nI 2 from rfl, nI_add, pk_mul, nI_add, nI_add, Nat.mul_comm (2 ^ g (txp g j)) v, Nat.add_assoc, rm_ld h (by omega), obs, sg8_small (by omega)]
  rfl
end RM
