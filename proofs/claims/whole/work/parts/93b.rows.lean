-- THE ROWS OF BYTES of the class
def rwk (a : Nat) (s s1 : vt_S) : Prop := (∃ v, vt_I s1 = vur (vt_I s) 101 a v) ∧ vt_J s1 = vt_J s ∧ vt_P s1 = vt_P s ∧ vt_E s1 = vt_E s ∧ vt_B s1 = vt_B s ∧ (∃ G, vt_A s1 = vur (vt_A s) 100 a G) ∧ (∃ n, vt_L s1 = vur (vt_L s) 100 a n) ∧ vt_L s 100 a ≤ vt_L s1 100 a ∧ vt_z s1 + vt_L s 100 a ≤ vt_z s + vt_L s1 100 a ∧ vt_l s1 + 2 * vt_L s 100 a ≤ vt_l s + 2 * vt_L s1 100 a
theorem rwk.refl (a : Nat) (s : vt_S) : rwk a s s := ⟨⟨vt_I s 101 a, (vur_self _ _ _).symm⟩, rfl, rfl, rfl, rfl, ⟨vt_A s 100 a, (vur_self _ _ _).symm⟩, ⟨vt_L s 100 a, (vur_self _ _ _).symm⟩, Nat.le_refl _, Nat.le_refl _, Nat.le_refl _⟩
theorem rwk.trans {a : Nat} {s s1 s2 : vt_S} (h : rwk a s s1) (g : rwk a s1 s2) : rwk a s s2 := by
  obtain ⟨⟨v, h1⟩, h2, h3, h4, h5, ⟨G, h6⟩, ⟨n, h7⟩, h8, h9, h10⟩ := h
  obtain ⟨⟨v', g1⟩, g2, g3, g4, g5, ⟨G', g6⟩, ⟨n', g7⟩, g8, g9, g10⟩ := g
  refine ⟨⟨v', ?_⟩, g2.trans h2, g3.trans h3, g4.trans h4, g5.trans h5, ⟨G', ?_⟩, ⟨n', ?_⟩, Nat.le_trans h8 g8, by omega, by omega⟩
  · rw [g1, h1, vur_vur]
  · rw [g6, h6, vur_vur]
  · rw [g7, h7, vur_vur]
theorem rwk.agr {a : Nat} {s s1 : vt_S} (h : rwk a s s1) : agr (fun f b => (f = 100 ∨ f = 101) ∧ b = a) (fun f b => f = 100 ∧ b = a) s s1 := by
  obtain ⟨⟨v, h1⟩, h2, h3, h4, h5, ⟨G, h6⟩, ⟨n, h7⟩, -⟩ := h
  refine ⟨h4, fun f b hf => ⟨?_, by rw [h2], by rw [h3], ?_, by rw [h5]⟩, fun f b hf => ?_⟩
  · rw [h1, vur_ne]; rintro ⟨rfl, rfl⟩; exact hf ⟨Or.inr rfl, rfl⟩
  · rw [h6, vur_ne]; rintro ⟨rfl, rfl⟩; exact hf ⟨Or.inl rfl, rfl⟩
  · rw [h7, vur_ne]; exact hf
/-- the row at a holds the n bytes g -/
def rowC (s : vt_S) (a : Nat) (g : Nat → Nat) (n : Nat) : Prop := vt_I s 101 a = nI n ∧ n ≤ vt_L s 100 a ∧ (∃ k, k ≤ 7 ∧ vt_L s 100 a = 64 * 2 ^ k) ∧ ∀ i, i < n → vt_A s 100 a i = nI (g i) ∧ g i < 256
theorem row_le {k : Nat} (h : k ≤ 7) : 64 * 2 ^ k ≤ 8192 := by
  have : 2 ^ k ≤ 2 ^ 7 := Nat.pow_le_pow_right (by decide) h
  omega
theorem rowC.len {s : vt_S} {a : Nat} {g : Nat → Nat} {n : Nat} (h : rowC s a g n) : vt_L s 100 a ≤ 8192 ∧ n ≤ 8192 := by
  obtain ⟨-, h2, ⟨k, h3, h4⟩, -⟩ := h
  have := row_le h3
  omega
theorem rowC.agr {D G : Nat → Nat → Prop} {s s1 : vt_S} {a : Nat} {g : Nat → Nat} {n : Nat} (h : rowC s a g n) (e : agr D G s s1) (h0 : ¬ D 100 a) (h1 : ¬ D 101 a) (h2 : ¬ G 100 a) : rowC s1 a g n := by
  obtain ⟨-, -, -, e4, -⟩ := e.2.1 100 a h0
  obtain ⟨f1, -⟩ := e.2.1 101 a h1
  unfold rowC
  rw [f1, e4, e.2.2 100 a h2]
  exact h
theorem row_room_loop (s : vt_S) (a r : Nat) (hr : r ≤ 8192) : ∀ (d k i fu : Nat), k + d = 7 → i ≤ k → d < fu → ∃ k1, k ≤ k1 ∧ k1 ≤ 7 ∧ r ≤ 64 * 2 ^ k1 ∧ ab_X0_makeRoom_8 fu a (nI r) (nI (64 * 2 ^ k)) (nI i) s = ab_X0_makeRoom_29 a (nI (64 * 2 ^ k1)) s := by
  intro d
  induction d with
  | zero =>
    intro k i fu h1 h2 h3
    obtain ⟨fu, rfl⟩ : ∃ q, fu = q + 1 := ⟨fu - 1, by omega⟩
    have : k = 7 := by omega
    subst this
    refine ⟨7, Nat.le_refl _, Nat.le_refl _, by omega, ?_⟩
    show ab_X0_makeRoom_8b _ a (nI r) (nI (64 * 2 ^ 7)) (nI i) s = _
    unfold ab_X0_makeRoom_8b
    rw [if_neg (show ¬ (16 : Int32) ≤ nI i from nI_ge (b := 16) (by omega) (by omega)), if_pos (nI_le (by omega) (by omega))]
  | succ d ih =>
    intro k i fu h1 h2 h3
    obtain ⟨fu, rfl⟩ : ∃ q, fu = q + 1 := ⟨fu - 1, by omega⟩
    have hk := row_le (k := k) (by omega)
    show ∃ k1, k ≤ k1 ∧ k1 ≤ 7 ∧ r ≤ 64 * 2 ^ k1 ∧ ab_X0_makeRoom_8b (ab_X0_makeRoom_8 fu) a (nI r) (nI (64 * 2 ^ k)) (nI i) s = _
    unfold ab_X0_makeRoom_8b
    rw [if_neg (show ¬ (16 : Int32) ≤ nI i from nI_ge (b := 16) (by omega) (by omega))]
    by_cases c : r ≤ 64 * 2 ^ k
    · exact ⟨k, Nat.le_refl _, by omega, c, by rw [if_pos (nI_le c (by omega))]⟩
    · rw [if_neg (nI_ge (by omega) (by omega))]
      obtain ⟨k1, a1, a2, a3, a4⟩ := ih (k + 1) (i + 1) fu (by omega) (by omega) (by omega)
      refine ⟨k1, by omega, a2, a3, ?_⟩
      rw [← a4, nI_1, show nI (64 * 2 ^ k) * 2 = nI (64 * 2 ^ (k + 1)) by rw [show (2 : Int32) = nI 2 from rfl, pk_mul, Nat.pow_succ, Nat.mul_assoc]]
theorem row_room {s : vt_S} {a k r : Nat} (h7 : k ≤ 7) (hk : vt_L s 100 a = 64 * 2 ^ k) (hr : r ≤ 8192) : ∃ s1, ab_X0_makeRoom a (nI r) s = some ((), s1) ∧ rwk a s s1 ∧ vt_I s1 = vt_I s ∧ r ≤ vt_L s1 100 a ∧ (∃ k1, k1 ≤ 7 ∧ vt_L s1 100 a = 64 * 2 ^ k1) ∧ ∀ i, i < vt_L s 100 a → vt_A s1 100 a i = vt_A s 100 a i := by
  obtain ⟨k1, a1, a2, a3, a4⟩ := row_room_loop s a r hr (7 - k) k 0 sv_fuel (by omega) (by omega) (fuel_ge (by omega))
  have b1 := row_le h7
  have b2 := row_le a2
  have e : ab_X0_makeRoom a (nI r) s = ab_X0_makeRoom_29 a (nI (64 * 2 ^ k1)) s := by
    simp only [ab_X0_makeRoom, sv_let]
    rw [hk]; exact a4
  rw [e]
  simp only [ab_X0_makeRoom_29, sv_let, ab_X0_makeRoom_50]
  rw [hk]
  by_cases c : k1 = k
  · subst c
    rw [if_pos (show nI (64 * 2 ^ k1) ≤ Int32.ofNat (64 * 2 ^ k1) from nI_le (Nat.le_refl _) (by omega))]
    exact ⟨s, rfl, rwk.refl a s, rfl, by rw [hk]; exact a3, ⟨k1, a2, hk⟩, fun i _ => rfl⟩
  · have lt : 2 * (64 * 2 ^ k) ≤ 64 * 2 ^ k1 := by
      have : 2 ^ (k + 1) ≤ 2 ^ k1 := Nat.pow_le_pow_right (by decide) (by omega)
      rw [Nat.pow_succ] at this
      omega
    have p0 : 0 < 2 ^ k := Nat.pow_pos (by decide)
    rw [if_neg (show ¬ nI (64 * 2 ^ k1) ≤ Int32.ofNat (64 * 2 ^ k) from nI_ge (by omega) (by omega))]
    unfold vg_I
    rw [hk, if_neg (show ¬ nI (64 * 2 ^ k1) = Int32.ofNat (64 * 2 ^ k) from fun z => by
      have := (nI_eq (a := 64 * 2 ^ k1) (b := 64 * 2 ^ k) (by omega) (by omega)).mp z
      omega), if_pos ⟨nI_pos (by omega), (nI_leI (b := 1048576) (by omega) (by omega)).mpr (by omega)⟩, nI_clamp (by omega), Option.bind_some]
    refine ⟨_, rfl, ⟨⟨vt_I s 101 a, (vur_self _ _ _).symm⟩, rfl, rfl, rfl, rfl, ⟨_, rfl⟩, ⟨_, rfl⟩, ?_, ?_, ?_⟩, rfl, ?_, ⟨k1, a2, ?_⟩, ?_⟩
    · show _ ≤ vur (vt_L s) 100 a _ 100 a
      rw [vur_at]; omega
    · show vt_z s + 1 + _ ≤ vt_z s + vur (vt_L s) 100 a _ 100 a
      rw [vur_at]; omega
    · show vt_l s + _ + _ ≤ vt_l s + 2 * vur (vt_L s) 100 a _ 100 a
      rw [vur_at]; omega
    · show r ≤ vur (vt_L s) 100 a _ 100 a
      rw [vur_at]; exact a3
    · show vur (vt_L s) 100 a _ 100 a = _
      rw [vur_at]
    · intro i hi
      show vur (vt_A s) 100 a _ 100 a i = _
      rw [vur_at]
      unfold va_cpy
      rw [if_pos ⟨by omega, by omega⟩]
      simp
/-- the low eight bits -/
def by8 (b : Int32) : Nat := b.toBitVec.toNat % 256
theorem by8_lt (b : Int32) : by8 b < 256 := Nat.mod_lt _ (by decide)
theorem by8_and (b : Int32) : b &&& 255 = nI (by8 b) := pk_and b 8 (by decide)
theorem by8_nI {n : Nat} (h : n < 256) : by8 (nI n) = n := by
  unfold by8
  rw [pk_tn (by omega)]
  omega
theorem row_put {s : vt_S} {a n : Nat} {g : Nat → Nat} (b : Int32) (h : rowC s a g n) (hn : n < 8192) : ∃ s1, ab_X0_put a b s = some ((), s1) ∧ rwk a s s1 ∧ rowC s1 a (fun i => if i = n then by8 b else g i) (n + 1) := by
  obtain ⟨h1, h2, ⟨k, h3, h4⟩, h5⟩ := h
  obtain ⟨s1, e1, e2, e3, e4, ⟨k1, e5, e6⟩, e7⟩ := row_room (s := s) (a := a) (k := k) (r := n + 1) h3 h4 (by omega)
  have b1 := row_le e5
  simp only [ab_X0_put, sv_let]
  rw [h1, if_neg (show ¬ (8192 : Int32) ≤ nI n from nI_ge (b := 8192) hn (by omega)), nI_1, e1, vt_bs]
  show ∃ s', (vs_I s1 100 a (vt_I s1 101 a) (b &&& 255)).bind _ = _ ∧ _
  rw [e3, h1, vs_I_ok (by omega) (by omega), Option.bind_some, by8_and]
  unfold ab_X0_put_44
  refine ⟨_, rfl, e2.trans ⟨⟨_, rfl⟩, rfl, rfl, rfl, rfl, ⟨_, vu3_vur _ _ _ _ _⟩, ⟨vt_L s1 100 a, (vur_self _ _ _).symm⟩, Nat.le_refl _, Nat.le_refl _, Nat.le_refl _⟩, ?_, ?_, ⟨k1, e5, e6⟩, ?_⟩
  · show vur (vt_I s1) 101 a (vt_I s1 101 a + 1) 101 a = _
    rw [vur_at, e3, h1, nI_1]
  · show n + 1 ≤ vt_L s1 100 a
    exact e4
  · intro i hi
    show vu3 (vt_A s1) 100 a n (nI (by8 b)) 100 a i = nI (if i = n then by8 b else g i) ∧ (if i = n then by8 b else g i) < 256
    rw [vu3_ap]
    by_cases c : i = n
    · rw [if_pos ⟨rfl, rfl, c⟩, if_pos c]; exact ⟨rfl, by8_lt b⟩
    · rw [if_neg (fun z => c z.2.2), if_neg c, e7 i (by omega)]; exact h5 i (by omega)
theorem row_become {s : vt_S} {a b n m : Nat} {g q : Nat → Nat} (hab : a ≠ b) (ha : rowC s a q m) (h : rowC s b g n) : ∃ s1, ab_X0_become a b s = some ((), s1) ∧ rwk a s s1 ∧ rowC s1 a g n := by
  have hb := h.len
  obtain ⟨h1, h2, -, h5⟩ := id h
  obtain ⟨-, -, ⟨k, h3, h4⟩, -⟩ := ha
  obtain ⟨s1, e1, e2, e3, e4, ⟨k1, e5, e6⟩, e7⟩ := row_room (s := s) (a := a) (k := k) (r := n) h3 h4 hb.2
  have b1 := row_le e5
  have hb1 : rowC s1 b g n := h.agr e2.agr (fun z => hab z.2.symm) (fun z => hab z.2.symm) (fun z => hab z.2.symm)
  obtain ⟨g1, g2, g3, g4⟩ := hb1
  simp only [ab_X0_become, sv_let]
  rw [h1, e1, vt_bs]
  rw [g1]
  unfold vc_I
  rw [nI_clamp (by omega), if_pos ⟨by decide, by decide, nI_pos (by omega), by show 0 + n ≤ _; omega, by show 0 + n ≤ _; omega⟩, Option.bind_some]
  refine ⟨_, rfl, e2.trans ⟨⟨_, rfl⟩, rfl, rfl, rfl, rfl, ⟨_, rfl⟩, ⟨vt_L s1 100 a, (vur_self _ _ _).symm⟩, Nat.le_refl _, Nat.le_refl _, Nat.le_refl _⟩, ?_, ?_, ⟨k1, e5, e6⟩, ?_⟩
  · show vur (vt_I s1) 101 a (vt_I s1 101 b) 101 a = _
    rw [vur_at, g1]
  · exact e4
  · intro i hi
    show vur (vt_A s1) 100 a (va_cpy (vt_A s1 100 b) (vt_A s1 100 a) 0 0 n) 100 a i = _ ∧ _
    rw [vur_at]
    unfold va_cpy
    rw [if_pos ⟨by omega, by omega⟩, Nat.sub_zero, Nat.zero_add]
    exact g4 i hi
