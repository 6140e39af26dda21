-- TREE: sizes are counted, what lies within is counted, leaves are found
section S2
variable {g : Nat → Nat} {W B p : Nat}
theorem nd_bnd : ∀ (m : Nat) (l : List PCE) (dep base leaf : Nat), pcs W l → l.length ≤ m → l.length ≤ 128 → ∀ N, N ∈ (bld g m l dep base leaf).1 → N.1 < W ∧ N.2.2.1 ≤ dep + m ∧ -1 - ((leaf + (bld g m l dep base leaf).2 : Nat) : Int) ≤ N.2.2.2.1 ∧ -1 - ((leaf + (bld g m l dep base leaf).2 : Nat) : Int) ≤ N.2.2.2.2 := by
  intro m
  induction m with
  | zero => intro l dep base leaf _ _ _ N hN; cases hN
  | succ m ih =>
    intro l dep base leaf hp hm h8 N hN
    cases l with
    | nil => cases hN
    | cons P r =>
      obtain ⟨sp1, -, ⟨sp3, sp4⟩, ⟨sp5, sp6⟩, -⟩ := sp_step (g := g) hp h8
      obtain ⟨v, hv⟩ : ∃ v, v = bst g (P :: r) := ⟨_, rfl⟩
      rw [← hv] at sp1 sp3 sp4 sp5 sp6
      obtain ⟨L, hL⟩ : ∃ L, L = spS g v 1 (P :: r) := ⟨_, rfl⟩
      obtain ⟨R, hR⟩ : ∃ R, R = spS g v (-1) (P :: r) := ⟨_, rfl⟩
      rw [← hL] at sp3 sp4
      rw [← hR] at sp5 sp6
      obtain ⟨A, hA⟩ : ∃ A, A = bld g m L (dep + 1) (base + 1) leaf := ⟨_, rfl⟩
      obtain ⟨C, hC⟩ : ∃ C, C = bld g m R (dep + 1) (base + 1 + A.1.length) (leaf + A.2) := ⟨_, rfl⟩
      obtain ⟨eb, -⟩ := bld_cons m P r dep base leaf v L R A C hv hL hR hA hC
      rw [eb] at hN ⊢
      dsimp only at hN ⊢
      rw [List.length_cons] at hm h8
      have ptr : ∀ (l : List PCE) (b f : Nat), -1 - (f : Int) ≤ ptrT l b f := by
        intro l b f
        cases l with
        | nil => exact Int.le_refl _
        | cons Q q => show -1 - (f : Int) ≤ (b : Int); omega
      rcases List.mem_cons.mp hN with e | e
      · rw [e]
        have h1 := ptr L (base + 1) leaf
        have h2 := ptr R (base + 1 + A.1.length) (leaf + A.2)
        refine ⟨sp1, ?_, ?_, ?_⟩
        · show dep ≤ dep + (m + 1); omega
        · show _ ≤ ptrT L (base + 1) leaf; omega
        · show _ ≤ ptrT R (base + 1 + A.1.length) (leaf + A.2); omega
      · rcases List.mem_append.mp e with e | e
        · have := ih L (dep + 1) (base + 1) leaf sp3 (by omega) (by omega) N (by rw [← hA]; exact e)
          rw [← hA] at this
          obtain ⟨h1, h2, h3, h4⟩ := this
          exact ⟨h1, by omega, by omega, by omega⟩
        · have := ih R (dep + 1) (base + 1 + A.1.length) (leaf + A.2) sp5 (by omega) (by omega) N (by rw [← hC]; exact e)
          rw [← hC] at this
          obtain ⟨h1, h2, h3, h4⟩ := this
          exact ⟨h1, by omega, by omega, by omega⟩
theorem tr_bnd (hB : phB g W) {i : Nat} (hi : i < (trN g W).length) : (trD g W i).1 < W ∧ (trD g W i).2.2.1 ≤ 128 ∧ -9000 ≤ (trD g W i).2.2.2.1 ∧ -9000 ≤ (trD g W i).2.2.2.2 := by
  obtain ⟨n1, n2, n3⟩ := trN_bnd hB
  obtain ⟨p1, p2⟩ := l00_pcs W
  have hW := hB.1
  have e : trD g W i = (trN g W)[i] := by
    unfold trD
    rw [List.getD_eq_getElem?_getD, List.getElem?_eq_getElem hi]
    rfl
  have m : trD g W i ∈ (bld g 128 (l00 W) 0 0 0).1 := by rw [e]; exact List.getElem_mem hi
  obtain ⟨h1, h2, h3, h4⟩ := nd_bnd (g := g) 128 (l00 W) 0 0 0 p1 (by omega) (by omega) _ m
  exact ⟨h1, by omega, by omega, by omega⟩
theorem c_sizeOf {s : vt_S} {q : Int} {a j K : Nat} (hL : vt_L s 905 (B + 6) = K) (hK : K ≤ 16384) (h : (a = 0 ∧ q < 0) ∨ (0 < a ∧ q = (j : Int) ∧ vt_A s 905 (B + 6) j = nI a ∧ j < K)) (hq : -9000 ≤ q) : ab_X8_sizeOf (B + 6) (zI q) s = some (nI a, s) := by
  unfold ab_X8_sizeOf ab_X8_sizeOf_14
  rcases h with ⟨h1, h2⟩ | ⟨h1, h2, h3, h4⟩
  · rw [show (0 : Int32) = zI 0 from rfl, ifc (zI_le (by omega) (by omega) (by omega) (by omega)), if_neg (by omega), h1]; rfl
  · rw [show (0 : Int32) = zI 0 from rfl, ifc (zI_le (by omega) (by omega) (by omega) (by omega)), if_pos (by omega), h2, ← nI_z, vl_I_ok (by omega) (by omega), obs, h3]
theorem nI_n0 {n : Nat} (h : n < 2147483648) : ¬ nI n < 0 := by
  rw [show (0 : Int32) = zI 0 from rfl, nI_z, zI_lt (by omega) (by omega) (by omega) (by omega)]
  omega
def szC (B : Nat) (g : Nat → Nat) (W : Nat) (s : vt_S) : Prop := ∀ j, j < (trN g W).length → vt_A s 905 (B + 6) j = nI (trZ g W j)
theorem c_sizes_loop {KN : Nat} (hB : phB g W) (hK : (trN g W).length ≤ KN) : ∀ (n fu : Nat) (s : vt_S), n ≤ (trN g W).length → n < fu → ndsC B s 0 (trN g W) → ndL B s KN → (∀ j, n ≤ j → j < (trN g W).length → vt_A s 905 (B + 6) j = nI (trZ g W j)) → ∃ s1, ab_X8_countSizes_7 fu (B + 6) (nI n - 1) s = some ((), s1) ∧ vk [] [905] [] (fun _ => True) s s1 ∧ szC B g W s1 := by
  obtain ⟨n1, n2, n3⟩ := trN_bnd hB
  intro n
  induction n with
  | zero =>
    intro fu s hn hf hC hL hj
    obtain ⟨fu, rfl⟩ : ∃ q, fu = q + 1 := ⟨fu - 1, by omega⟩
    refine ⟨s, ?_, vk.refl s, fun j h => hj j (by omega) h⟩
    show ab_X8_countSizes_7b _ (B + 6) (nI 0 - 1) s = _
    unfold ab_X8_countSizes_7b
    rw [if_pos (show nI 0 - 1 < 0 by decide)]
  | succ n ih =>
    intro fu s hn hf hC hL hj
    obtain ⟨fu, rfl⟩ : ∃ q, fu = q + 1 := ⟨fu - 1, by omega⟩
    have hL' := hL
    obtain ⟨⟨l1, l2, l3, l4, l5, l6⟩, ⟨l7, l8⟩, -⟩ := hL'
    have C := ndsC_at _ _ hC n (by omega) (by omega)
    obtain ⟨-, -, -, c4, c5⟩ := C
    have c4 : vt_A s 902 (B + 6) n = zI (trD g W n).2.2.2.1 := c4
    have c5 : vt_A s 903 (B + 6) n = zI (trD g W n).2.2.2.2 := c5
    obtain ⟨b1, b2, b3, b4⟩ := tr_bnd hB (show n < (trN g W).length by omega)
    obtain ⟨f1, f2, -, -, a, b, f3, f4, f5⟩ := tr_nd hB (show n < (trN g W).length by omega)
    have z1 := c_sizeOf (B := B) (s := s) (a := a) (j := n + 1) l5 l8 (f4.elim Or.inl (fun h => Or.inr ⟨h.1, h.2.1, by rw [hj (n + 1) (by omega) (by omega), h.2.2], by omega⟩)) b3
    have z2 := c_sizeOf (B := B) (s := s) (a := b) (j := n + 1 + a) l5 l8 (f5.elim Or.inl (fun h => Or.inr ⟨h.1, h.2.1, by rw [hj (n + 1 + a) (by omega) (by omega), h.2.2], by omega⟩)) b4
    obtain ⟨u, hu⟩ : ∃ u, u = vu_A s 905 (B + 6) n (nI (trZ g W n)) := ⟨_, rfl⟩
    have ku : vk [] [905] [] (fun _ => True) s u := by rw [hu]; exact vk.pA (vk.refl s) (by decide)
    obtain ⟨s1, d1, d2, d3⟩ := ih fu u (by omega) (by omega) (ndsC_cg _ _ (fun j _ _ N hN => by
      obtain ⟨x1, x2, x3, x4, x5⟩ := hN
      exact ⟨by rw [ku.aA (by decide)]; exact x1, by rw [ku.aA (by decide)]; exact x2, by rw [ku.aA (by decide)]; exact x3, by rw [ku.aA (by decide)]; exact x4, by rw [ku.aA (by decide)]; exact x5⟩) hC) (ndL_vk hL ku (by decide)) (fun j h1 h2 => by
      rw [hu, A_at]
      by_cases c : j = n
      · rw [if_pos c, c]
      · rw [if_neg c]; exact hj j (by omega) h2)
    refine ⟨s1, ?_, ku.trans d2, d3⟩
    rw [(z_down n).1]
    show ab_X8_countSizes_7b _ (B + 6) (nI n) s = _
    have es : (1 : Int32) + nI a + nI b = nI (trZ g W n) := by
      rw [f3, show (1 : Int32) = nI 1 from rfl, nI_z, nI_z, nI_z, nI_z, zI_add, zI_add]
      exact congrArg zI (by omega)
    unfold ab_X8_countSizes_7b
    rw [if_neg (nI_n0 (by omega)), vl_I_ok (by omega) (by omega), obs, c4, z1, vbs, vl_I_ok (by omega) (by omega), obs, c5, z2, vbs, es, vs_I_ok (by omega) (by omega), obs, ← hu, (z_down n).2]
    exact d1
theorem c_sizes {KN : Nat} {s : vt_S} (hB : phB g W) (hK : (trN g W).length ≤ KN) (hC : trC B g W s) (hL : ndL B s KN) : ∃ s1, ab_X8_countSizes (B + 6) s = some ((), s1) ∧ vk [] [905] [] (fun _ => True) s s1 ∧ szC B g W s1 := by
  obtain ⟨n1, n2, n3⟩ := trN_bnd hB
  obtain ⟨h1, h2, h3⟩ := hC
  obtain ⟨s1, a1, a2, a3⟩ := c_sizes_loop hB hK (trN g W).length sv_fuel s (Nat.le_refl _) (Nat.lt_of_lt_of_le (show (trN g W).length < 20000 by omega) (Nat.le_of_lt (fuel_ge (by omega)))) h3 hL (fun j x y => by omega)
  refine ⟨s1, ?_, a2, a3⟩
  unfold ab_X8_countSizes
  rw [slet, h1]
  exact a1
/-- the tree of the class, once it has grown -/
def cTK (B : Nat) (g : Nat → Nat) (W : Nat) (s : vt_S) : Prop := trC B g W s ∧ szC B g W s
theorem ndsC_vk {s s1 : vt_S} {ws rs gs : List Nat} (k : vk ws rs gs (fun _ => True) s s1) (h : ∀ f, f ∈ [901, 902, 903, 904, 906] → f ∉ rs) (l : List ND) (j : Nat) (hn : ndsC B s j l) : ndsC B s1 j l := ndsC_cg l j (fun j _ _ N hN => by
  obtain ⟨x1, x2, x3, x4, x5⟩ := hN
  exact ⟨by rw [k.aA (h 901 (by decide))]; exact x1, by rw [k.aA (h 904 (by decide))]; exact x2, by rw [k.aA (h 906 (by decide))]; exact x3, by rw [k.aA (h 902 (by decide))]; exact x4, by rw [k.aA (h 903 (by decide))]; exact x5⟩) hn
theorem c_grow {s : vt_S} {K KN : Nat} (hB : phB g W) (hT : cTw B p g W s) (hL : pcL B s K) (he : ∃ e, K = 128 * 2 ^ e) (hN : ndL B s KN) (hS : skL B s) : ∃ s1 K1 KN1, ab_X8_grow (B + 6) p s = some ((), s1) ∧ cTK B g W s1 ∧ pcL B s1 K1 ∧ (∃ e, K1 = 128 * 2 ^ e) ∧ ndL B s1 KN1 ∧ (trN g W).length ≤ KN1 ∧ skL B s1 ∧ rmT K K1 KN KN1 s s1 := by
  obtain ⟨s1, K1, KN1, a1, a2, a3, a4, a5, a6, a7, a8, a9⟩ := c_grow0 hB hT hL he hN hS
  obtain ⟨s2, b1, b2, b3⟩ := c_sizes hB a7 a2 a6
  have bz := b2.2.2.2.2 rfl
  refine ⟨s2, K1, KN1, by rw [a1, b1, vbs], ⟨⟨by rw [b2.eI (by intro z; cases z)]; exact a2.1, by rw [b2.eI (by intro z; cases z)]; exact a2.2.1, ndsC_vk b2 (by decide) _ _ a2.2.2⟩, b3⟩, pcL_vk a4 b2 (by decide), a5, ndL_vk a6 b2 (by decide), a7, skL_vk a8 b2 (by decide), a9.trans (rmT.same bz.1 bz.2)⟩
theorem r_within {s : vt_S} {i : Nat} (hB : phB g W) (hS : rS B s) (hR : trR B g W s) (hi : i < (trN g W).length) : ab_X16_within (B + 670) (nI i) s = some (nI (trZ g W i), s) := by
  obtain ⟨n1, n2, n3⟩ := trN_bnd hB
  obtain ⟨r1, -, r3⟩ := hR
  have L := hS.L1721
  obtain ⟨f1, f2, f3, f4, -⟩ := tr_nd hB hi
  have dp : ∀ j, j < (trN g W).length → vt_A s 1721 (B + 670) j = nI (trD g W j).2.2.1 ∧ (trD g W j).2.2.1 ≤ 128 := fun j hj => by
    obtain ⟨-, -, c3, -⟩ := ndsR_at _ _ r3 j (by omega) (by omega)
    exact ⟨c3, (tr_bnd hB hj).2.1⟩
  have key : ∀ (d x fu : Nat), x + d = i + trZ g W i → i < x → d < fu → ab_X16_within_4 fu (B + 670) (nI i) (nI x) s = some (nI (trZ g W i), s) := by
    intro d
    induction d with
    | zero =>
      intro x fu hd hx hf
      obtain ⟨fu, rfl⟩ : ∃ q, fu = q + 1 := ⟨fu - 1, by omega⟩
      have fin : ab_X16_within_33 (nI i) (nI x) s = some (nI (trZ g W i), s) := by
        unfold ab_X16_within_33
        rw [nI_sub (by omega), show x - i = trZ g W i by omega]
      show ab_X16_within_4b _ (B + 670) (nI i) (nI x) s = _
      unfold ab_X16_within_4b
      rw [slet, r1]
      by_cases c : (trN g W).length ≤ x
      · rw [if_pos (nI_le c (by omega)), fin]
      · have h4 := f4 (by omega)
        rw [show i + trZ g W i = x by omega] at h4
        obtain ⟨d1, d2⟩ := dp x (by omega)
        obtain ⟨d3, d4⟩ := dp i hi
        rw [if_neg (nI_ge (by omega) (by omega)), vl_I_ok (by omega) (by omega), obs, vl_I_ok (by omega) (by omega), obs, d1, d3, if_pos (nI_le h4 (by omega)), fin]
    | succ d ih =>
      intro x fu hd hx hf
      obtain ⟨fu, rfl⟩ : ∃ q, fu = q + 1 := ⟨fu - 1, by omega⟩
      have h3 := f3 x hx (by omega)
      obtain ⟨d1, d2⟩ := dp x (by omega)
      obtain ⟨d3, d4⟩ := dp i hi
      show ab_X16_within_4b _ (B + 670) (nI i) (nI x) s = _
      unfold ab_X16_within_4b
      rw [slet, r1, if_neg (nI_ge (by omega) (by omega)), vl_I_ok (by omega) (by omega), obs, vl_I_ok (by omega) (by omega), obs, d1, d3, if_neg (nI_ge h3 (by omega)), nI_1]
      exact ih (x + 1) fu (by omega) (by omega) (by omega)
  unfold ab_X16_within
  rw [nI_1]
  exact key (trZ g W i - 1) (i + 1) sv_fuel (by omega) (by omega) (Nat.lt_of_lt_of_le (show trZ g W i - 1 < 20000 by omega) (Nat.le_of_lt (fuel_ge (by omega))))
/-- where a place leads -/
def nxQ (g : Nat → Nat) (W : Nat) (x y q : Int) : Int := if sdL g (trD g W q.toNat).1 x y ≤ 0 then (trD g W q.toNat).2.2.2.2 else (trD g W q.toNat).2.2.2.1
def lfS (g : Nat → Nat) (W : Nat) (x y : Int) : Nat → Int → Int
  | 0, q => -1 - q
  | k + 1, q => if q < 0 then -1 - q else lfS g W x y k (nxQ g W x y q)
def lfA (g : Nat → Nat) (W : Nat) (x y : Int) : Int := lfS g W x y (trN g W).length (if (trN g W).length = 0 then -1 else 0)
theorem nxQ_bnd (hB : phB g W) {x y : Int} {i : Nat} (hi : i < (trN g W).length) : -9000 ≤ nxQ g W x y i ∧ (nxQ g W x y i < 0 ∨ ((i : Int) < nxQ g W x y i ∧ nxQ g W x y i < (trN g W).length)) := by
  obtain ⟨b1, b2, b3, b4⟩ := tr_bnd hB hi
  obtain ⟨f1, f2, -, -, a, b, f3, f4, f5⟩ := tr_nd hB hi
  unfold nxQ
  rw [Int.toNat_natCast]
  split
  · refine ⟨b4, ?_⟩
    rcases f5 with h | ⟨h1, h2, -⟩
    · exact Or.inl h.2
    · rw [h2]; exact Or.inr ⟨by omega, by omega⟩
  · refine ⟨b3, ?_⟩
    rcases f4 with h | ⟨h1, h2, -⟩
    · exact Or.inl h.2
    · rw [h2]; exact Or.inr ⟨by omega, by omega⟩
theorem c_leaf {s : vt_S} {KN : Nat} {x y : Int} (hB : phB g W) (hT : cTw B p g W s) (hC : trC B g W s) (hL : ndL B s KN) (hK : (trN g W).length ≤ KN) (hx : -32768 ≤ x ∧ x ≤ 32767) (hy : -32768 ≤ y ∧ y ≤ 32767) : ab_X8_leafAround (B + 6) p (zI x) (zI y) s = some (zI (lfA g W x y), s) := by
  obtain ⟨n1, n2, n3⟩ := trN_bnd hB
  obtain ⟨h1, h2, h3⟩ := hC
  obtain ⟨⟨l1, l2, l3, l4, l5, l6⟩, ⟨l7, l8⟩, -⟩ := hL
  have L8 := hT.1.L308
  have W8 := hT.2.1.2.1
  have key : ∀ (k c fu : Nat) (q : Int), c + k = (trN g W).length → k < fu → -9000 ≤ q → q < (trN g W).length → ab_X8_leafAround_17 fu (B + 6) p (zI x) (zI y) (zI q) (nI c) s = some (zI (lfS g W x y k q), s) := by
    intro k
    induction k with
    | zero =>
      intro c fu q hc hf hq1 hq2
      obtain ⟨fu, rfl⟩ : ∃ r, fu = r + 1 := ⟨fu - 1, by omega⟩
      show ab_X8_leafAround_17b _ (B + 6) p (zI x) (zI y) (zI q) (nI c) s = _
      unfold ab_X8_leafAround_17b ab_X8_leafAround_90
      rw [slet, h1, if_pos (nI_le (by omega) (by omega)), show (-1 : Int32) = zI (-1) from rfl, zI_sub]
      rfl
    | succ k ih =>
      intro c fu q hc hf hq1 hq2
      obtain ⟨fu, rfl⟩ : ∃ r, fu = r + 1 := ⟨fu - 1, by omega⟩
      have e : lfS g W x y (k + 1) q = if q < 0 then -1 - q else lfS g W x y k (nxQ g W x y q) := rfl
      show ab_X8_leafAround_17b _ (B + 6) p (zI x) (zI y) (zI q) (nI c) s = _
      unfold ab_X8_leafAround_17b ab_X8_leafAround_90 ab_X8_leafAround_58 ab_X8_leafAround_82
      rw [slet, h1, if_neg (nI_ge (by omega) (by omega)), show (0 : Int32) = zI 0 from rfl, ifc (zI_lt (by omega) (by omega) (by omega) (by omega)), e]
      by_cases c0 : q < 0
      · rw [if_pos c0, if_pos c0, show (-1 : Int32) = zI (-1) from rfl, zI_sub]
      · obtain ⟨i, rfl⟩ : ∃ i : Nat, q = (i : Int) := ⟨q.toNat, by omega⟩
        have hi : i < (trN g W).length := by omega
        obtain ⟨b1, b2, b3, b4⟩ := tr_bnd hB hi
        obtain ⟨m1, m2⟩ := nxQ_bnd (x := x) (y := y) hB hi
        have C := ndsC_at _ _ h3 i (by omega) (by omega)
        obtain ⟨c1, -, -, c4, c5⟩ := C
        have c1 : vt_A s 901 (B + 6) i = nI (trD g W i).1 := c1
        have c4 : vt_A s 902 (B + 6) i = zI (trD g W i).2.2.2.1 := c4
        have c5 : vt_A s 903 (B + 6) i = zI (trD g W i).2.2.2.2 := c5
        have sr := sdL_rng g (trD g W i).1 hx hy
        have sd := cT_side (s := s) (p := p) (g := g) (v := (trD g W i).1) (hT.2.1.2.2 _ b1) hx hy
        have nx : nxQ g W x y (i : Int) = if sdL g (trD g W i).1 x y ≤ 0 then (trD g W i).2.2.2.2 else (trD g W i).2.2.2.1 := by
          unfold nxQ
          rw [Int.toNat_natCast]
        rw [if_neg c0, if_neg c0, ← nI_z, vl_I_ok (by omega) (by omega), obs, c1, vl_P_ok (by omega) (by omega), obs, hT.1.E308 _ (by omega), sd, vbs, show (0 : Int64) = zL 0 from rfl, ifc (lg_le (by omega) (by omega) (by omega) (by omega)), nI_1]
        have ihh := ih (c + 1) fu (nxQ g W x y (i : Int)) (by omega) (by omega) m1 (by omega)
        rw [nx] at ihh ⊢
        by_cases z : sdL g (trD g W i).1 x y ≤ 0
        · rw [if_pos z] at ihh ⊢
          rw [if_pos z, if_pos rfl, vl_I_ok (by omega) (by omega), obs, c5]
          exact ihh
        · rw [if_neg z] at ihh ⊢
          rw [if_neg z, if_neg (by decide), vl_I_ok (by omega) (by omega), obs, c4]
          exact ihh
  unfold ab_X8_leafAround ab_X8_leafAround_12 lfA
  have fu : (trN g W).length < sv_fuel := Nat.lt_of_lt_of_le (show (trN g W).length < 20000 by omega) (Nat.le_of_lt (fuel_ge (by omega)))
  rw [slet, h1]
  by_cases c : (trN g W).length = 0
  · rw [if_pos c, c, if_pos (show nI 0 ≤ 0 by decide)]
    have := key (trN g W).length 0 sv_fuel (-1) (by omega) fu (by omega) (by omega)
    rw [c] at this
    rw [show (-1 : Int32) = zI (-1) from rfl, show (0 : Int32) = nI 0 from rfl]
    exact this
  · rw [if_neg c, if_neg (show ¬ nI (trN g W).length ≤ 0 from nI_ge (a := 0) (by omega) (by omega))]
    have := key (trN g W).length 0 sv_fuel 0 (by omega) fu (by omega) (by omega)
    rw [show zI 0 = (0 : Int32) from rfl, show nI 0 = (0 : Int32) from rfl] at this
    exact this
end S2
