-- TREE, the reference: sides, lies, costs, the best line
theorem wide32 {a : Int} (h : -32768 ≤ a ∧ a ≤ 32767) : Int32.toInt64 (zI a) = zL a := zI_wide (by omega) (by omega)
theorem sd_ar {ax ay bx bv x y : Int} (h1 : -32768 ≤ ax ∧ ax ≤ 32767) (h2 : -32768 ≤ ay ∧ ay ≤ 32767) (h3 : -32768 ≤ bx ∧ bx ≤ 32767) (h4 : -32768 ≤ bv ∧ bv ≤ 32767) : Int32.toInt64 (zI bx - zI ax) * (zL y - Int32.toInt64 (zI ay)) - Int32.toInt64 (zI bv - zI ay) * (zL x - Int32.toInt64 (zI ax)) = zL ((bx - ax) * (y - ay) - (bv - ay) * (x - ax)) := by
  rw [wide32 h1, wide32 h2, zI_sub, zI_sub, zI_wide (a := bx - ax) (by omega) (by omega), zI_wide (a := bv - ay) (by omega) (by omega), zL_sub, zL_sub, zL_mul, zL_mul, zL_sub]
section RT
variable {B W : Nat} {g : Nat → Nat} {s : vt_S}
def pvR (B : Nat) (s : vt_S) (i : Nat) (P : PCE) : Prop := vt_A s 1706 (B + 670) i = nI P.1 ∧ vt_B s 1707 (B + 670) i = zL P.2.1 ∧ vt_B s 1708 (B + 670) i = zL P.2.2.1 ∧ vt_B s 1709 (B + 670) i = zL P.2.2.2.1 ∧ vt_B s 1710 (B + 670) i = zL P.2.2.2.2
def rTw (B : Nat) (g : Nat → Nat) (W : Nat) (s : vt_S) : Prop := rTr B g W s ∧ rS B s
theorem rT_side {v : Nat} {x y : Int} (hT : rTr B g W s) (hv : v < W) : ab_X16_sideOf (B + 670) (nI v) (zL x) (zL y) s = some (zL (sdL g v x y), s) := by
  obtain ⟨tP, tW, ⟨t1, t2, t3, t4⟩, tA⟩ := hT
  obtain ⟨wa, wb, wc, wd⟩ := tA v hv
  obtain ⟨a1, a2, a3, a4⟩ := xy_rng g v
  have b1 : v < vt_L s 1701 (B + 670) := by rw [t1]; exact Nat.lt_of_lt_of_le hv tW
  have b2 : v < vt_L s 1702 (B + 670) := by rw [t2]; exact Nat.lt_of_lt_of_le hv tW
  have b3 : v < vt_L s 1703 (B + 670) := by rw [t3]; exact Nat.lt_of_lt_of_le hv tW
  have b4 : v < vt_L s 1704 (B + 670) := by rw [t4]; exact Nat.lt_of_lt_of_le hv tW
  unfold ab_X16_sideOf ab_X16_cross
  rw [vl_I_ok b3 (by rw [t3]; decide), obs, vl_I_ok b1 (by rw [t1]; decide), obs, vl_I_ok b4 (by rw [t4]; decide), obs, vl_I_ok b2 (by rw [t2]; decide), obs, obs, obs, wa, wb, wc, wd, sd_ar a1 a2 a3 a4, vbs]
  rfl
theorem cmp_sg (x y : Int) : cmpZ x (-y) = sgZ (x + y) := by
  unfold sgZ cmpZ
  by_cases c : x < -y
  · rw [if_pos c, if_pos (show x + y < 0 by omega)]
  · rw [if_neg c, if_neg (show ¬ x + y < 0 by omega)]
    by_cases d : x = -y
    · rw [if_pos d, if_pos (show x + y = 0 by omega)]
    · rw [if_neg d, if_neg (show ¬ x + y = 0 by omega)]
theorem ordA {a b o u : Int} {s : vt_S} (ha : -8590000000 ≤ a ∧ a ≤ 8590000000) (hb : -8590000000 ≤ b ∧ b ≤ 8590000000) (h1 : 0 ≤ o) (h2 : o ≤ u) (h3 : u ≤ 20000000000) : ab_X16_order (zL a) (zL u - zL o) (-zL b) (zL o) s = some (zI (sgZ (fT a b o u)), s) := by
  rw [zL_sub, zL_neg, ordJ (by omega) (by omega) (by omega) (by omega) (by omega) (by omega) (by omega) (by omega), Int.neg_mul, cmp_sg]
  rfl
theorem rT_at {v w : Nat} {o u : Int} (hT : rTr B g W s) (hv : v < W) (hw : w < W) (h1 : 0 ≤ o) (h2 : o ≤ u) (h3 : u ≤ 20000000000) : ab_X16_sideAt (B + 670) (nI v) (nI w) (zL o) (zL u) s = some (zI (sgZ (fT (sdA g v w) (sdB g v w) o u)), s) := by
  have hT' := hT
  obtain ⟨tP, tW, ⟨t1, t2, t3, t4⟩, tA⟩ := hT
  obtain ⟨wa, wb, wc, wd⟩ := tA w hw
  obtain ⟨a1, a2, a3, a4⟩ := xy_rng g w
  have b1 : w < vt_L s 1701 (B + 670) := by rw [t1]; exact Nat.lt_of_lt_of_le hw tW
  have b2 : w < vt_L s 1702 (B + 670) := by rw [t2]; exact Nat.lt_of_lt_of_le hw tW
  have b3 : w < vt_L s 1703 (B + 670) := by rw [t3]; exact Nat.lt_of_lt_of_le hw tW
  have b4 : w < vt_L s 1704 (B + 670) := by rw [t4]; exact Nat.lt_of_lt_of_le hw tW
  have q1 : ab_X16_sideOf (B + 670) (nI v) (zL (aX g (wlp g w))) (zL (aY g (wlp g w))) s = some (zL (sdA g v w), s) := rT_side hT' hv
  have q2 : ab_X16_sideOf (B + 670) (nI v) (zL (bX g (wlp g w))) (zL (bY g (wlp g w))) s = some (zL (sdB g v w), s) := rT_side hT' hv
  unfold ab_X16_sideAt
  rw [vl_I_ok b1 (by rw [t1]; decide), obs, vl_I_ok b2 (by rw [t2]; decide), obs, wa, wb, wide32 a1, wide32 a2, q1, vbs, vl_I_ok b3 (by rw [t3]; decide), obs, vl_I_ok b4 (by rw [t4]; decide), obs, wc, wd, wide32 a3, wide32 a4, q2, vbs, ordA (sdA_rng g v w) (sdB_rng g v w) h1 h2 h3, vbs]
theorem lieZ_I {p q : Int} (hp : p = -1 ∨ p = 0 ∨ p = 1) (hq : q = -1 ∨ q = 0 ∨ q = 1) {α : Type} {X : Int32 → α} : (if 0 ≤ zI p * zI q then (if zI p = 0 then X (zI q) else X (zI p)) else X 2) = X (zI (lieZ p q)) := by
  rcases hp with rfl | rfl | rfl <;> rcases hq with rfl | rfl | rfl <;> rfl
theorem sgZ_3 (x : Int) : sgZ x = -1 ∨ sgZ x = 0 ∨ sgZ x = 1 := by
  rcases sgZ_cases x with ⟨-, e⟩ | ⟨-, e⟩ | ⟨-, e⟩
  · exact Or.inl e
  · exact Or.inr (Or.inl e)
  · exact Or.inr (Or.inr e)
theorem rT_lie {v i : Nat} {P : PCE} (hT : rTw B g W s) (hv : v < W) (hi : i < 16600) (hp : pvR B s i P) (ok : pcOk P) (hw : P.1 < W) : ab_X16_lieOf (B + 670) (nI v) (nI i) s = some (zI (lyP g v P), s) := by
  obtain ⟨h1, h2⟩ := hT
  obtain ⟨p0, p1, p2, p3, p4⟩ := hp
  obtain ⟨⟨o1, o2, o3, o4⟩, ⟨o5, o6, o7, o8⟩, -⟩ := ok
  have L6 := h2.L1706
  have L7 := h2.L1707
  have L8 := h2.L1708
  have L9 := h2.L1709
  have L10 := h2.L1710
  unfold ab_X16_lieOf ab_X16_lieOf_71
  rw [vl_I_ok (by omega) (by omega), obs, p0, vl_J_ok (by omega) (by omega), obs, vl_J_ok (by omega) (by omega), obs, p1, p2, rT_at h1 hv hw o1 o2 o4, vbs, vl_J_ok (by omega) (by omega), obs, vl_J_ok (by omega) (by omega), obs, p3, p4, rT_at h1 hv hw o5 o6 o8, vbs]
  exact lieZ_I (X := fun z => some (z, s)) (sgZ_3 _) (sgZ_3 _)
def segR (B : Nat) (s : vt_S) (cnt : Nat) : Nat → List PCE → Prop
  | _, [] => True
  | f, P :: l => (∃ i, i < cnt ∧ vt_A s 1712 (B + 670) f = nI i ∧ pvR B s i P) ∧ segR B s cnt (f + 1) l
theorem segR_mono {c1 c2 : Nat} (h : c1 ≤ c2) : ∀ (l : List PCE) (f : Nat), segR B s c1 f l → segR B s c2 f l
  | [], _, _ => trivial
  | P :: l, f, k => ⟨by obtain ⟨i, a, b⟩ := k.1; exact ⟨i, by omega, b⟩, segR_mono h l (f + 1) k.2⟩
theorem segR_cg {s1 : vt_S} {c : Nat} (hp : ∀ i, i < c → ∀ P, pvR B s i P → pvR B s1 i P) : ∀ (l : List PCE) (f : Nat), (∀ j, f ≤ j → j < f + l.length → vt_A s1 1712 (B + 670) j = vt_A s 1712 (B + 670) j) → segR B s c f l → segR B s1 c f l
  | [], _, _, _ => trivial
  | P :: l, f, hr, k => by
    obtain ⟨i, a, b, d⟩ := k.1
    rw [List.length_cons] at hr
    exact ⟨⟨i, a, by rw [hr f (by omega) (by omega)]; exact b, hp i a P d⟩, segR_cg hp l (f + 1) (fun j h1 h2 => hr j (by omega) (by omega)) k.2⟩
theorem ly_I {g : Nat → Nat} {v : Nat} {P : PCE} (k : Int) (hk : -3 ≤ k ∧ k ≤ 3) : (zI (lyP g v P) = zI k) = (lyP g v P = k) := by
  have : -1 ≤ lyP g v P ∧ lyP g v P ≤ 2 := by rcases lyP_rng g v P with c | c | c | c <;> rw [c] <;> decide
  exact zI_eq (by omega) (by omega) (by omega) (by omega)
theorem rT_cost {v n from_ cnt : Nat} {K : Nat → Int32 → Int32 → Int32 → Int32 → Int32 → vt_S → Option (Int32 × vt_S)} {x3 x4 x5 : Int32} (hT : rTw B g W s) (hv : v < W) (hc : cnt ≤ 16600) (hn : n ≤ 128) (hf : from_ + n ≤ 34000) : ∀ (l : List PCE) (j c fu : Nat) (a : Int), j + l.length = n → l.length < fu → segR B s cnt (from_ + j) l → pcs W l → c ≤ j → a.natAbs ≤ j → ab_X16_bestOf_47 K fu (B + 670) (nI from_) (nI n) x3 x4 x5 (nI v) (nI c) (zI a) (nI j) s = ab_X16_bestOf_126 K (B + 670) (nI from_) (nI n) x3 x4 x5 (nI v) (zI (4 * ((c + cutN g v l : Nat) : Int))) (zI ((a + blZ g v l).natAbs : Int)) s
  | [], j, c, fu, a, hj, hfu, _, _, hc2, ha => by
    obtain ⟨fu, rfl⟩ : ∃ q, fu = q + 1 := ⟨fu - 1, by have : ([] : List PCE).length = 0 := rfl; omega⟩
    rw [List.length_nil] at hj
    show ab_X16_bestOf_47b K _ (B + 670) (nI from_) (nI n) x3 x4 x5 (nI v) (nI c) (zI a) (nI j) s = _
    unfold ab_X16_bestOf_47b
    have e1 : (4 : Int32) * nI c = zI (4 * ((c + cutN g v [] : Nat) : Int)) := by
      rw [nI_z, show (4 : Int32) = zI 4 from rfl, zI_mul]; rfl
    have e2 : a + blZ g v [] = a := Int.add_zero a
    rw [if_pos (nI_le (by omega) (by omega)), e1, e2, show (0 : Int32) = zI 0 from rfl, ifc (zI_le (by omega) (by omega) (by omega) (by omega))]
    by_cases q : 0 ≤ a
    · rw [if_pos q, show (a.natAbs : Int) = a by omega]
    · rw [if_neg q, zI_neg, show (a.natAbs : Int) = -a by omega]
  | P :: l, j, c, fu, a, hj, hfu, hs, hp, hc2, ha => by
    rw [List.length_cons] at hj hfu
    obtain ⟨fu, rfl⟩ : ∃ q, fu = q + 1 := ⟨fu - 1, by omega⟩
    obtain ⟨⟨i, i1, i2, i3⟩, hs2⟩ := hs
    have hP := hp P List.mem_cons_self
    have L12 := hT.2.L1712
    have eC : cutN g v (P :: l) = (if lyP g v P = 2 then 1 else 0) + cutN g v l := rfl
    have eB : blZ g v (P :: l) = (if lyP g v P = 2 then 0 else lyP g v P) + blZ g v l := rfl
    have lr : -1 ≤ lyP g v P ∧ lyP g v P ≤ 2 := by rcases lyP_rng g v P with z | z | z | z <;> rw [z] <;> decide
    have ih := rT_cost (K := K) (x3 := x3) (x4 := x4) (x5 := x5) hT hv hc hn hf l (j + 1)
    have hs2 : segR B s cnt (from_ + (j + 1)) l := by rw [show from_ + (j + 1) = from_ + j + 1 by omega]; exact hs2
    have hp2 : pcs W l := fun Q hQ => hp Q (List.mem_cons_of_mem _ hQ)
    show ab_X16_bestOf_47b K _ (B + 670) (nI from_) (nI n) x3 x4 x5 (nI v) (nI c) (zI a) (nI j) s = _
    unfold ab_X16_bestOf_47b ab_X16_bestOf_83 ab_X16_bestOf_100
    rw [if_neg (nI_ge (by omega) (by omega)), nI_add, vl_I_ok (by omega) (by omega), obs, i2, rT_lie hT hv (by omega) i3 hP.1 hP.2, vbs, show (2 : Int32) = zI 2 from rfl, nI_1, nI_1, eC, eB]
    by_cases q : lyP g v P = 2
    · have qz : zI (lyP g v P) = zI 2 := by rw [q]
      rw [if_pos qz, if_pos qz, if_pos q, if_pos q]
      have := ih (c + 1) fu a (by omega) (by omega) hs2 hp2 (by omega) (by omega)
      rw [show (0 : Int32) = zI 0 from rfl, zI_add, Int.add_zero, this, show c + 1 + cutN g v l = c + (1 + cutN g v l) by omega, Int.zero_add]
    · have qz : ¬ zI (lyP g v P) = zI 2 := by rw [ly_I 2 (by omega)]; exact q
      rw [if_neg qz, if_neg qz, if_neg q, if_neg q]
      have := ih c fu (a + lyP g v P) (by omega) (by omega) hs2 hp2 (by omega) (by omega)
      rw [show nI c + 0 = nI c from nI_add c 0, zI_add, this, Nat.zero_add, Int.add_assoc]
theorem rT_best {n from_ cnt : Nat} {full : List PCE} (hT : rTw B g W s) (hc : cnt ≤ 16600) (hn : full.length = n) (hn8 : n ≤ 128) (hf : from_ + n ≤ 34000) (hF : segR B s cnt from_ full) (hp : pcs W full) : ∀ (l : List PCE) (j fu b : Nat) (m : Int), j + l.length = n → j ≤ 16 → l.length < fu → segR B s cnt (from_ + j) l → (∀ P, P ∈ l → P ∈ full) → 0 ≤ m → m ≤ 1073741824 → ab_X16_bestOf_9 fu (B + 670) (nI from_) (nI n) (nI b) (zI m) (nI j) s = some (nI (bsG g full (16 - j) l b m), s)
  | [], j, fu, b, m, hj, h16, hfu, _, _, _, _ => by
    obtain ⟨fu, rfl⟩ : ∃ q, fu = q + 1 := ⟨fu - 1, by have : ([] : List PCE).length = 0 := rfl; omega⟩
    rw [List.length_nil] at hj
    show ab_X16_bestOf_9b _ (B + 670) (nI from_) (nI n) (nI b) (zI m) (nI j) s = _
    unfold ab_X16_bestOf_9b ab_X16_bestOf_149
    have e : bsG g full (16 - j) [] b m = b := by
      cases 16 - j <;> rfl
    rw [if_pos (nI_le (by omega) (by omega)), e]
  | P :: l, j, fu, b, m, hj, h16, hfu, hs, hl, hm0, hm1 => by
    rw [List.length_cons] at hj hfu
    obtain ⟨fu, rfl⟩ : ∃ q, fu = q + 1 := ⟨fu - 1, by omega⟩
    obtain ⟨⟨i, i1, i2, i3⟩, hs2⟩ := hs
    have hP := hp P (hl P List.mem_cons_self)
    have L12 := hT.2.L1712
    have L6 := hT.2.L1706
    show ab_X16_bestOf_9b _ (B + 670) (nI from_) (nI n) (nI b) (zI m) (nI j) s = _
    unfold ab_X16_bestOf_9b ab_X16_bestOf_149
    rw [if_neg (nI_ge (by omega) (by omega))]
    by_cases c : 16 ≤ j
    · rw [if_pos (show (16 : Int32) ≤ nI j from nI_le (a := 16) c (by omega)), show 16 - j = 0 by omega]; rfl
    · rw [if_neg (show ¬ (16 : Int32) ≤ nI j from nI_ge (b := 16) (by omega) (by omega)), nI_add, vl_I_ok (by omega) (by omega), obs, i2, vl_I_ok (by omega) (by omega), obs, i3.1]
      have k := rT_cost (K := ab_X16_bestOf_9 fu) (x3 := nI b) (x4 := zI m) (x5 := nI j) (n := n) hT hP.2 hc hn8 hf full 0 0 sv_fuel 0 (by omega) (fuel_ge (by omega)) hF hp (Nat.le_refl _) (Nat.le_refl _)
      have k : ab_X16_bestOf_47 (ab_X16_bestOf_9 fu) sv_fuel (B + 670) (nI from_) (nI n) (nI b) (zI m) (nI j) (nI P.1) 0 0 0 s = _ := k
      have cr := cs_rng (g := g) (v := P.1) (l := full) (by omega)
      have ecs : (4 * ((0 + cutN g P.1 full : Nat) : Int)) + ((0 + blZ g P.1 full).natAbs : Int) = csZ g P.1 full := by
        rw [Nat.zero_add, Int.zero_add]; rfl
      rw [k]
      unfold ab_X16_bestOf_126 ab_X16_bestOf_143
      rw [zI_add, ecs, ifc (zI_le (by omega) (by omega) (by omega) (by omega)), nI_1]
      have e : bsG g full (16 - j) (P :: l) b m = if csZ g P.1 full < m then bsG g full (16 - (j + 1)) l P.1 (csZ g P.1 full) else bsG g full (16 - (j + 1)) l b m := by
        rw [show 16 - j = 16 - (j + 1) + 1 by omega]; rfl
      have hs2 : segR B s cnt (from_ + (j + 1)) l := by rw [show from_ + (j + 1) = from_ + j + 1 by omega]; exact hs2
      have hl2 : ∀ Q, Q ∈ l → Q ∈ full := fun Q hQ => hl Q (List.mem_cons_of_mem _ hQ)
      rw [e]
      by_cases d : m ≤ csZ g P.1 full
      · rw [if_pos d, if_neg (by omega)]
        exact rT_best hT hc hn hn8 hf hF hp l (j + 1) fu b m (by omega) (by omega) (by omega) hs2 hl2 hm0 hm1
      · rw [if_neg d, if_pos (by omega)]
        exact rT_best hT hc hn hn8 hf hF hp l (j + 1) fu P.1 (csZ g P.1 full) (by omega) (by omega) (by omega) hs2 hl2 (by omega) (by omega)
end RT
