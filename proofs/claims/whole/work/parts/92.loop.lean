/-- both sides answer alike and keep Inv -/
def vb2 {α : Type} (P Q : vt_S → Prop) (x y : vt_S → Option (α × vt_S)) : Prop := ∀ s, P s → ∃ r s1 s2, x s = some (r, s1) ∧ y s1 = some (r, s2) ∧ Q s2
theorem vt_bs {α β : Type} {a : α} {s : vt_S} {k : α → vt_S → Option β} : vt_b (some (a, s)) k = k a s := rfl
theorem law_sc {xs : Nat → Int32} {L k : Nat} (hL : L ≤ 2560) (hk : k + 5 ≤ L) (j : Nat) (hj : j < 5) : sv_sc xs L (nI k + nI j) = some (xs (k + j)) := by
  rw [nI_add, sv_sc, if_pos (nI_in (by omega) (by omega)), nI_clamp (by omega)]
theorem law_end {L k : Nat} (hL : L ≤ 2560) (hk : k ≤ L) : (Int32.ofNat L - 5 < nI k) ↔ L < k + 5 := by
  have e : (nI L - nI 5).toInt = (L : Int) - (5 : Nat) := pk_sub_toInt (by omega) (by omega)
  have e2 : (nI k).toInt = (k : Int) := nI_toInt (by omega)
  rw [Int32.lt_iff_toInt_lt]
  show (nI L - nI 5).toInt < (nI k).toInt ↔ _
  rw [e, e2]
  omega
theorem lg_cmp_self {a : Int64} : lg_cmp a a = 0 := by simp [lg_cmp]
set_option maxHeartbeats 4000000 in
theorem law_loop {Inv : Nat → vt_S → Prop} {x1 x2 L : Nat} {xs : Nat → Int32} (hL : L ≤ 2560)
    (h_giveBytes : ∀ (k : Nat), k + 5 ≤ 2560 → ∀ (v : Int64) (n : Int32), vb2 (Inv k) (Inv (k + 5)) (ab_X12_giveBytes x1 v n) (ab_X17_giveBytes x2 v n))
    (h_cutBytes : ∀ (k : Nat), k + 5 ≤ 2560 → ∀ (a : Int32), vb2 (Inv k) (Inv (k + 5)) (ab_X12_cutBytes x1 a) (ab_X17_cutBytes x2 a))
    (h_pokeByte : ∀ (k : Nat), k + 5 ≤ 2560 → ∀ (a b : Int32), vb2 (Inv k) (Inv (k + 5)) (ab_X12_pokeByte x1 a b) (ab_X17_pokeByte x2 a b))
    (h_loadMap : ∀ (k : Nat), k + 5 ≤ 2560 → vb2 (Inv k) (Inv (k + 5)) (ab_X12_loadMap x1) (ab_X17_loadMap x2))
    (h_loadDemo : ∀ (k : Nat), k + 5 ≤ 2560 → vb2 (Inv k) (Inv (k + 5)) (ab_X12_loadDemo x1) (ab_X17_loadDemo x2))
    (h_saveMap : ∀ (k : Nat), k + 5 ≤ 2560 → vb2 (Inv k) (Inv (k + 5)) (ab_X12_saveMap x1) (ab_X17_saveMap x2))
    (h_saveDemo : ∀ (k : Nat), k + 5 ≤ 2560 → vb2 (Inv k) (Inv (k + 5)) (ab_X12_saveDemo x1) (ab_X17_saveDemo x2))
    (h_turnBytes : ∀ (k : Nat), k + 5 ≤ 2560 → vb2 (Inv k) (Inv (k + 5)) (ab_X12_turnBytes x1) (ab_X17_turnBytes x2))
    (h_startAt : ∀ (k : Nat), k + 5 ≤ 2560 → ∀ (a b c d : Int32), vb2 (Inv k) (Inv (k + 5)) (ab_X12_startAt x1 a b c d) (ab_X17_startAt x2 a b c d))
    (h_addInput : ∀ (k : Nat), k + 5 ≤ 2560 → ∀ (a b c d : Int32) (hd : d = 0 ∨ d = 1), vb2 (Inv k) (Inv (k + 5)) (ab_X12_addInput x1 a b c d) (ab_X17_addInput x2 a b c d))
    (h_dropInputs : ∀ (k : Nat), k + 5 ≤ 2560 → ∀ (a : Int32), vb2 (Inv k) (Inv (k + 5)) (ab_X12_dropInputs x1 a) (ab_X17_dropInputs x2 a))
    (h_playTo : ∀ (k : Nat), k + 5 ≤ 2560 → ∀ (a : Int32), vb2 (Inv k) (Inv (k + 5)) (ab_X12_playTo x1 a) (ab_X17_playTo x2 a))
    (h_stepBy : ∀ (k : Nat), k + 5 ≤ 2560 → ∀ (a b c d : Int32) (hd : d = 0 ∨ d = 1), vb2 (Inv k) (Inv (k + 5)) (ab_X12_stepBy x1 a b c d) (ab_X17_stepBy x2 a b c d))
    (h_walkerOf : ∀ (k : Nat), k + 5 ≤ 2560 → ∀ (a : Int32), vb2 (Inv k) (Inv (k + 5)) (ab_X12_walkerOf x1 a) (ab_X17_walkerOf x2 a))
    (h_sectorOf : ∀ (k : Nat), k + 5 ≤ 2560 → ∀ (a b : Int32), vb2 (Inv k) (Inv (k + 5)) (ab_X12_sectorOf x1 a b) (ab_X17_sectorOf x2 a b))
    (h_pixelAt : ∀ (k : Nat), k + 5 ≤ 2560 → ∀ (a b : Int32), vb2 (Inv k) (Inv (k + 5)) (ab_X12_pixelAt x1 a b) (ab_X17_pixelAt x2 a b))
    (h_surfaceAt : ∀ (k : Nat), k + 5 ≤ 2560 → ∀ (a b : Int32), vb2 (Inv k) (Inv (k + 5)) (ab_X12_surfaceAt x1 a b) (ab_X17_surfaceAt x2 a b))
    (h_metAt : ∀ (k : Nat), k + 5 ≤ 2560 → ∀ (a b : Int32), vb2 (Inv k) (Inv (k + 5)) (ab_X12_metAt x1 a b) (ab_X17_metAt x2 a b))
    (h_frameOf : ∀ (k : Nat), k + 5 ≤ 2560 → vb2 (Inv k) (Inv (k + 5)) (ab_X12_frameOf x1) (ab_X17_frameOf x2))
    (h_nodeOf : ∀ (k : Nat), k + 5 ≤ 2560 → ∀ (a b : Int32), vb2 (Inv k) (Inv (k + 5)) (ab_X12_nodeOf x1 a b) (ab_X17_nodeOf x2 a b))
    (h_leafOf : ∀ (k : Nat), k + 5 ≤ 2560 → ∀ (a b : Int32), vb2 (Inv k) (Inv (k + 5)) (ab_X12_leafOf x1 a b) (ab_X17_leafOf x2 a b))
    (h_byteOf : ∀ (k : Nat), k + 5 ≤ 2560 → ∀ (a d : Int32) (hd : d = 0 ∨ d = 1), vb2 (Inv k) (Inv (k + 5)) (ab_X12_byteOf x1 a d) (ab_X17_byteOf x2 a d))
    (h_lookAt : ∀ (k : Nat), k + 5 ≤ 2560 → ∀ (a : Int32), vb2 (Inv k) (Inv (k + 5)) (ab_X12_lookAt x1 a) (ab_X17_lookAt x2 a)) 
    (hm : ∀ k s, Inv k s → Inv (k + 5) s) : ∀ (n k : Nat) (s : vt_S), k ≤ L → L + 5 ≤ k + 5 * n → Inv k s → ∃ k2 sE, ab_L_law_18 xs L n x1 x2 (nI k) s = some (1, sE) ∧ k2 ≤ L ∧ Inv k2 sE := by
  intro n
  induction n with
  | zero => intro k s h1 h2; omega
  | succ n ih =>
    intro k s h1 h2 hi
    show ∃ k2 sE, ab_L_law_18b xs L (ab_L_law_18 xs L n) x1 x2 (nI k) s = some (1, sE) ∧ k2 ≤ L ∧ Inv k2 sE
    unfold ab_L_law_18b
    by_cases c : L < k + 5
    · rw [if_pos ((law_end hL h1).mpr c)]; exact ⟨k, s, rfl, h1, hi⟩
    rw [if_neg (fun z => c ((law_end hL h1).mp z))]
    have go : ∀ s2, Inv (k + 5) s2 → ∃ k2 sE, ab_L_law_866 xs L (ab_L_law_18 xs L n) x1 x2 (nI k) s2 = some (1, sE) ∧ k2 ≤ L ∧ Inv k2 sE := by
      intro s2 i2
      unfold ab_L_law_866
      rw [show nI k + 5 = nI (k + 5) from nI_add k 5]
      exact ih (k + 5) s2 (by omega) (by omega) i2
    have sc0 : sv_sc xs L (nI k) = some (xs k) := by
      rw [sv_sc, if_pos (nI_in (by omega) (by omega)), nI_clamp (by omega)]
    have sc1 : sv_sc xs L (nI k + 1) = some (xs (k + 1)) := law_sc hL (by omega) 1 (by omega)
    have sc2 : sv_sc xs L (nI k + 2) = some (xs (k + 2)) := law_sc hL (by omega) 2 (by omega)
    have sc3 : sv_sc xs L (nI k + 3) = some (xs (k + 3)) := law_sc hL (by omega) 3 (by omega)
    have sc4 : sv_sc xs L (nI k + 4) = some (xs (k + 4)) := law_sc hL (by omega) 4 (by omega)
    rw [sc0, Option.bind_some]
    by_cases c0 : xs k &&& 31 = 0
    · rw [if_pos c0]
      simp only [sc1, sc2, sc3, Option.bind_some]
      obtain ⟨r, s1, s2, e1, e2, i2⟩ := h_giveBytes k (by omega) (((Int32.toInt64 (xs (k + 1))) <<< (Int32.toInt64 32 &&& 63)) ||| ((Int32.toInt64 (xs (k + 2))) &&& 4294967295)) (xs (k + 3)) s hi
      rw [e1, vt_bs]
      try simp only [sc1, sc2, sc3, Option.bind_some]
      rw [e2, vt_bs, if_pos rfl]
      exact go s2 i2
    rw [if_neg c0]
    by_cases c1 : xs k &&& 31 = 1
    · rw [if_pos c1]
      simp only [sc1, Option.bind_some]
      obtain ⟨r, s1, s2, e1, e2, i2⟩ := h_cutBytes k (by omega) (xs (k + 1)) s hi
      rw [e1, vt_bs]
      try simp only [sc1, Option.bind_some]
      rw [e2, vt_bs, if_pos rfl]
      exact go s2 i2
    rw [if_neg c1]
    by_cases c2 : xs k &&& 31 = 2
    · rw [if_pos c2]
      simp only [sc1, sc2, Option.bind_some]
      obtain ⟨r, s1, s2, e1, e2, i2⟩ := h_pokeByte k (by omega) (xs (k + 1)) (xs (k + 2)) s hi
      rw [e1, vt_bs]
      try simp only [sc1, sc2, Option.bind_some]
      rw [e2, vt_bs, if_pos rfl]
      exact go s2 i2
    rw [if_neg c2]
    by_cases c3 : xs k &&& 31 = 3
    · rw [if_pos c3]
      obtain ⟨r, s1, s2, e1, e2, i2⟩ := h_loadMap k (by omega)  s hi
      rw [e1, vt_bs]
      rw [e2, vt_bs, if_pos rfl]
      exact go s2 i2
    rw [if_neg c3]
    by_cases c4 : xs k &&& 31 = 4
    · rw [if_pos c4]
      obtain ⟨r, s1, s2, e1, e2, i2⟩ := h_loadDemo k (by omega)  s hi
      rw [e1, vt_bs]
      rw [e2, vt_bs, if_pos rfl]
      exact go s2 i2
    rw [if_neg c4]
    by_cases c5 : xs k &&& 31 = 5
    · rw [if_pos c5]
      obtain ⟨r, s1, s2, e1, e2, i2⟩ := h_saveMap k (by omega)  s hi
      rw [e1, vt_bs]
      rw [e2, vt_bs, if_pos rfl]
      exact go s2 i2
    rw [if_neg c5]
    by_cases c6 : xs k &&& 31 = 6
    · rw [if_pos c6]
      obtain ⟨r, s1, s2, e1, e2, i2⟩ := h_saveDemo k (by omega)  s hi
      rw [e1, vt_bs]
      rw [e2, vt_bs, if_pos rfl]
      exact go s2 i2
    rw [if_neg c6]
    by_cases c7 : xs k &&& 31 = 7
    · rw [if_pos c7]
      obtain ⟨r, s1, s2, e1, e2, i2⟩ := h_turnBytes k (by omega)  s hi
      rw [e1, vt_bs]
      rw [e2, vt_bs]
      exact go s2 i2
    rw [if_neg c7]
    by_cases c8 : xs k &&& 31 = 8
    · rw [if_pos c8]
      simp only [sc1, sc2, sc3, sc4, Option.bind_some]
      obtain ⟨r, s1, s2, e1, e2, i2⟩ := h_startAt k (by omega) (xs (k + 1)) (xs (k + 2)) (xs (k + 3)) (xs (k + 4)) s hi
      rw [e1, vt_bs]
      try simp only [sc1, sc2, sc3, sc4, Option.bind_some]
      rw [e2, vt_bs, if_pos rfl]
      exact go s2 i2
    rw [if_neg c8]
    by_cases c9 : xs k &&& 31 = 9
    · rw [if_pos c9]
      simp only [sc1, sc2, sc3, sc4, Option.bind_some]
      by_cases z : xs (k + 4) = 0
      · rw [if_pos z]
        obtain ⟨r, s1, s2, e1, e2, i2⟩ := h_addInput k (by omega) (xs (k + 1)) (xs (k + 2)) (xs (k + 3)) 0 (Or.inl rfl) s hi
        unfold ab_L_law_404
        rw [e1, vt_bs]
        simp only [sc1, sc2, sc3, sc4, Option.bind_some]
        rw [if_pos z]
        unfold ab_L_law_436
        rw [e2, vt_bs, if_pos rfl]
        exact go s2 i2
      · rw [if_neg z]
        obtain ⟨r, s1, s2, e1, e2, i2⟩ := h_addInput k (by omega) (xs (k + 1)) (xs (k + 2)) (xs (k + 3)) 1 (Or.inr rfl) s hi
        unfold ab_L_law_404
        rw [e1, vt_bs]
        simp only [sc1, sc2, sc3, sc4, Option.bind_some]
        rw [if_neg z]
        unfold ab_L_law_436
        rw [e2, vt_bs, if_pos rfl]
        exact go s2 i2
    rw [if_neg c9]
    by_cases c10 : xs k &&& 31 = 10
    · rw [if_pos c10]
      simp only [sc1, Option.bind_some]
      obtain ⟨r, s1, s2, e1, e2, i2⟩ := h_dropInputs k (by omega) (xs (k + 1)) s hi
      rw [e1, vt_bs]
      try simp only [sc1, Option.bind_some]
      rw [e2, vt_bs, if_pos rfl]
      exact go s2 i2
    rw [if_neg c10]
    by_cases c11 : xs k &&& 31 = 11
    · rw [if_pos c11]
      simp only [sc1, Option.bind_some]
      obtain ⟨r, s1, s2, e1, e2, i2⟩ := h_playTo k (by omega) (xs (k + 1)) s hi
      rw [e1, vt_bs]
      try simp only [sc1, Option.bind_some]
      rw [e2, vt_bs, if_pos rfl]
      exact go s2 i2
    rw [if_neg c11]
    by_cases c12 : xs k &&& 31 = 12
    · rw [if_pos c12]
      simp only [sc1, sc2, sc3, sc4, Option.bind_some]
      by_cases z : xs (k + 4) = 0
      · rw [if_pos z]
        obtain ⟨r, s1, s2, e1, e2, i2⟩ := h_stepBy k (by omega) (xs (k + 1)) (xs (k + 2)) (xs (k + 3)) 0 (Or.inl rfl) s hi
        unfold ab_L_law_519
        rw [e1, vt_bs]
        simp only [sc1, sc2, sc3, sc4, Option.bind_some]
        rw [if_pos z]
        unfold ab_L_law_551
        rw [e2, vt_bs, if_pos rfl]
        exact go s2 i2
      · rw [if_neg z]
        obtain ⟨r, s1, s2, e1, e2, i2⟩ := h_stepBy k (by omega) (xs (k + 1)) (xs (k + 2)) (xs (k + 3)) 1 (Or.inr rfl) s hi
        unfold ab_L_law_519
        rw [e1, vt_bs]
        simp only [sc1, sc2, sc3, sc4, Option.bind_some]
        rw [if_neg z]
        unfold ab_L_law_551
        rw [e2, vt_bs, if_pos rfl]
        exact go s2 i2
    rw [if_neg c12]
    by_cases c13 : xs k &&& 31 = 13
    · rw [if_pos c13]
      simp only [sc1, Option.bind_some]
      obtain ⟨r, s1, s2, e1, e2, i2⟩ := h_walkerOf k (by omega) (xs (k + 1)) s hi
      rw [e1, vt_bs]
      try simp only [sc1, Option.bind_some]
      rw [e2, vt_bs, if_pos rfl]
      exact go s2 i2
    rw [if_neg c13]
    by_cases c14 : xs k &&& 31 = 14
    · rw [if_pos c14]
      simp only [sc1, sc2, Option.bind_some]
      obtain ⟨r, s1, s2, e1, e2, i2⟩ := h_sectorOf k (by omega) (xs (k + 1)) (xs (k + 2)) s hi
      rw [e1, vt_bs]
      try simp only [sc1, sc2, Option.bind_some]
      rw [e2, vt_bs, if_pos rfl]
      exact go s2 i2
    rw [if_neg c14]
    by_cases c15 : xs k &&& 31 = 15
    · rw [if_pos c15]
      simp only [sc1, sc2, Option.bind_some]
      obtain ⟨r, s1, s2, e1, e2, i2⟩ := h_pixelAt k (by omega) (xs (k + 1)) (xs (k + 2)) s hi
      rw [e1, vt_bs]
      try simp only [sc1, sc2, Option.bind_some]
      rw [e2, vt_bs, if_pos rfl]
      exact go s2 i2
    rw [if_neg c15]
    by_cases c16 : xs k &&& 31 = 16
    · rw [if_pos c16]
      simp only [sc1, sc2, Option.bind_some]
      obtain ⟨r, s1, s2, e1, e2, i2⟩ := h_surfaceAt k (by omega) (xs (k + 1)) (xs (k + 2)) s hi
      rw [e1, vt_bs]
      try simp only [sc1, sc2, Option.bind_some]
      rw [e2, vt_bs, if_pos rfl]
      exact go s2 i2
    rw [if_neg c16]
    by_cases c17 : xs k &&& 31 = 17
    · rw [if_pos c17]
      simp only [sc1, sc2, Option.bind_some]
      obtain ⟨r, s1, s2, e1, e2, i2⟩ := h_metAt k (by omega) (xs (k + 1)) (xs (k + 2)) s hi
      rw [e1, vt_bs]
      try simp only [sc1, sc2, Option.bind_some]
      rw [e2, vt_bs, if_pos rfl]
      exact go s2 i2
    rw [if_neg c17]
    by_cases c18 : xs k &&& 31 = 18
    · rw [if_pos c18]
      obtain ⟨r, s1, s2, e1, e2, i2⟩ := h_frameOf k (by omega)  s hi
      rw [e1, vt_bs]
      rw [e2, vt_bs, if_pos lg_cmp_self]
      exact go s2 i2
    rw [if_neg c18]
    by_cases c19 : xs k &&& 31 = 19
    · rw [if_pos c19]
      simp only [sc1, sc2, Option.bind_some]
      obtain ⟨r, s1, s2, e1, e2, i2⟩ := h_nodeOf k (by omega) (xs (k + 1)) (xs (k + 2)) s hi
      rw [e1, vt_bs]
      try simp only [sc1, sc2, Option.bind_some]
      rw [e2, vt_bs, if_pos rfl]
      exact go s2 i2
    rw [if_neg c19]
    by_cases c20 : xs k &&& 31 = 20
    · rw [if_pos c20]
      simp only [sc1, sc2, Option.bind_some]
      obtain ⟨r, s1, s2, e1, e2, i2⟩ := h_leafOf k (by omega) (xs (k + 1)) (xs (k + 2)) s hi
      rw [e1, vt_bs]
      try simp only [sc1, sc2, Option.bind_some]
      rw [e2, vt_bs, if_pos rfl]
      exact go s2 i2
    rw [if_neg c20]
    by_cases c21 : xs k &&& 31 = 21
    · rw [if_pos c21]
      simp only [sc1, sc2, Option.bind_some]
      by_cases z : xs (k + 2) = 0
      · rw [if_pos z]
        obtain ⟨r, s1, s2, e1, e2, i2⟩ := h_byteOf k (by omega) (xs (k + 1)) 0 (Or.inl rfl) s hi
        unfold ab_L_law_813
        rw [e1, vt_bs]
        simp only [sc1, sc2, Option.bind_some]
        rw [if_pos z]
        unfold ab_L_law_835
        rw [e2, vt_bs, if_pos rfl]
        exact go s2 i2
      · rw [if_neg z]
        obtain ⟨r, s1, s2, e1, e2, i2⟩ := h_byteOf k (by omega) (xs (k + 1)) 1 (Or.inr rfl) s hi
        unfold ab_L_law_813
        rw [e1, vt_bs]
        simp only [sc1, sc2, Option.bind_some]
        rw [if_neg z]
        unfold ab_L_law_835
        rw [e2, vt_bs, if_pos rfl]
        exact go s2 i2
    rw [if_neg c21]
    by_cases c22 : xs k &&& 31 = 22
    · rw [if_pos c22]
      simp only [sc1, Option.bind_some]
      obtain ⟨r, s1, s2, e1, e2, i2⟩ := h_lookAt k (by omega) (xs (k + 1)) s hi
      rw [e1, vt_bs]
      try simp only [sc1, Option.bind_some]
      rw [e2, vt_bs, if_pos rfl]
      exact go s2 i2
    rw [if_neg c22]
    exact go s (hm k s hi)
theorem start_k1 : ly_K ly_2 0 = 13 := by decide +kernel
theorem start_k2 : ly_K ly_2 639 = 18 := by decide +kernel
/-- the pure claim, out of an invariant that both sides keep -/
theorem law_claim {Inv : Nat → Nat → vt_S → Prop} (hI : ∀ B, 0 < B → Inv B 0 (vt_ab (lay B ly_2))) (hR : ∀ B k s, Inv B k s → vt_z s - B ≤ 600000 ∧ vt_l s ≤ 7302250)
    (ho : ∀ (B L : Nat) (xs : Nat → Int32) (s : vt_S), 0 < B → L ≤ 2560 → Inv B 0 s → ∃ k sE, ab_L_law_18 xs L sv_fuel B (B + 639) (nI 0) s = some (1, sE) ∧ k ≤ L ∧ Inv B k sE) : sv_claim := by
  intro L xs B hL hB
  obtain ⟨k, sE, e1, -, i1⟩ := ho B L xs _ hB hL (hI B hB)
  have G := start_G hB
  have k1 : sv_K (lay B ly_2) (B + 0) = 13 := by rw [lay_K]; exact start_k1
  have k2 : sv_K (lay B ly_2) (B + 639) = 18 := by rw [lay_K]; exact start_k2
  obtain ⟨hE, f1, f2, -, -⟩ := sm_L_law_18 (h0 := lay B ly_2) (xs := xs) (L := L) sv_fuel (x3 := 0) ⟨G, vt_ko.refl _⟩ k1 k2 1 sE e1
  have r := hR B k sE i1
  rw [← f2] at r
  exact ⟨hE, by rw [start_law hB]; exact f1, r.1, r.2⟩
