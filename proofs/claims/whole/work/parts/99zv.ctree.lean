-- TREE, the class: sides, lies, costs, the best line
theorem sg_mulP {x u : Int} (hu : 0 < u) : sgZ (x * u) = sgZ x := by
  rcases sgZ_cases x with ⟨a, e⟩ | ⟨a, e⟩ | ⟨a, e⟩
  · have := Int.mul_neg_of_neg_of_pos a hu
    rcases sgZ_cases (x * u) with ⟨b, f⟩ | ⟨b, f⟩ | ⟨b, f⟩
    · rw [e, f]
    · omega
    · omega
  · rw [a, Int.zero_mul]
  · have := Int.mul_pos a hu
    rcases sgZ_cases (x * u) with ⟨b, f⟩ | ⟨b, f⟩ | ⟨b, f⟩
    · omega
    · omega
    · rw [e, f]
theorem sg_same {a b o u : Int} (h0 : 0 < o) (h1 : o < u) (h : ¬ ((a < 0 ∧ 0 < b) ∨ (0 < a ∧ b < 0))) : sgZ (fT a b o u) = sgZ (a + b) := by
  unfold fT
  have p : 0 < u - o := by omega
  rcases sgZ_cases a with ⟨x, -⟩ | ⟨x, -⟩ | ⟨x, -⟩
  · have m1 := Int.mul_neg_of_neg_of_pos x p
    have m2 := Int.mul_nonpos_of_nonpos_of_nonneg (show b ≤ 0 by omega) (show 0 ≤ o by omega)
    rcases sgZ_cases (a * (u - o) + b * o) with ⟨q, f⟩ | ⟨q, f⟩ | ⟨q, f⟩
    · rcases sgZ_cases (a + b) with ⟨r, e⟩ | ⟨r, e⟩ | ⟨r, e⟩
      · rw [e, f]
      · omega
      · omega
    · omega
    · omega
  · rw [x, Int.zero_mul, Int.zero_add, Int.zero_add]
    exact sg_mulP h0
  · have m1 := Int.mul_pos x p
    have m2 := Int.mul_nonneg (show 0 ≤ b by omega) (show 0 ≤ o by omega)
    rcases sgZ_cases (a * (u - o) + b * o) with ⟨q, f⟩ | ⟨q, f⟩ | ⟨q, f⟩
    · omega
    · omega
    · rcases sgZ_cases (a + b) with ⟨r, e⟩ | ⟨r, e⟩ | ⟨r, e⟩
      · omega
      · omega
      · rw [e, f]
theorem sg_opp {a b o u : Int} (h : (b < 0 ∧ 0 < a) ∨ (a < 0 ∧ 0 < b)) : (cmpZ (o * ((a - b).natAbs : Int)) ((a.natAbs : Int) * u) = 0 → sgZ (fT a b o u) = 0) ∧ (cmpZ (o * ((a - b).natAbs : Int)) ((a.natAbs : Int) * u) = -1 → sgZ (fT a b o u) = sgZ a) ∧ (cmpZ (o * ((a - b).natAbs : Int)) ((a.natAbs : Int) * u) = 1 → sgZ (fT a b o u) = sgZ b) := by
  have e : fT a b o u = a * u - (a - b) * o := by
    unfold fT
    rw [Int.mul_sub, Int.sub_mul]
    omega
  rw [e]
  have sA := sgZ_cases a
  have sB := sgZ_cases b
  have sF := sgZ_cases (a * u - (a - b) * o)
  rcases h with ⟨h1, h2⟩ | ⟨h1, h2⟩
  · have n1 : (a.natAbs : Int) = a := by omega
    have n2 : ((a - b).natAbs : Int) = a - b := by omega
    rw [n1, n2, Int.mul_comm o (a - b)]
    generalize (a - b) * o = X at *
    generalize a * u = Y at *
    unfold cmpZ
    refine ⟨fun z => ?_, fun z => ?_, fun z => ?_⟩ <;> (split at z <;> (try split at z) <;> omega)
  · have n1 : (a.natAbs : Int) = -a := by omega
    have n2 : ((a - b).natAbs : Int) = -(a - b) := by omega
    rw [n1, n2, Int.mul_comm o (-(a - b)), Int.neg_mul, Int.neg_mul]
    generalize (a - b) * o = X at *
    generalize a * u = Y at *
    unfold cmpZ
    refine ⟨fun z => ?_, fun z => ?_, fun z => ?_⟩ <;> (split at z <;> (try split at z) <;> omega)
theorem sg_J {a : Int} (h1 : -1000000000000 ≤ a) (h2 : a ≤ 1000000000000) (s : vt_S) : ab_J13_signum_95d88 (zL a) s = some (zI (sgZ a), s) := sgn_J (by omega) (by omega) s
theorem cT_at {a b o u : Int} {s : vt_S} (ha : -8590000000 ≤ a ∧ a ≤ 8590000000) (hb : -8590000000 ≤ b ∧ b ≤ 8590000000) (h1 : 0 ≤ o) (h2 : o ≤ u) (h0 : 0 < u) (h3 : u ≤ 20000000000) : ab_X1_sideAt (zL a) (zL b) (zL o) (zL u) s = some (zI (sgZ (fT a b o u)), s) := by
  unfold ab_X1_sideAt ab_X1_sideAt_82 ab_X1_sideAt_85
  rw [show (0 : Int64) = zL 0 from rfl, show (0 : Int32) = zI 0 from rfl, ifc (lg_eq (by omega) (by omega) (by omega) (by omega)), ifc (lg_eq (by omega) (by omega) (by omega) (by omega))]
  by_cases c1 : o = 0
  · have e : fT a b o u = a * u := by unfold fT; rw [c1, Int.sub_zero, Int.mul_zero, Int.add_zero]
    rw [if_pos c1, sg_J (by omega) (by omega), vbs, e, sg_mulP h0]
  rw [if_neg c1]
  by_cases c2 : o = u
  · have e : fT a b o u = b * u := by unfold fT; rw [c2, Int.sub_self, Int.mul_zero, Int.zero_add]
    rw [if_pos c2, sg_J (by omega) (by omega), vbs, e, sg_mulP h0]
  rw [if_neg c2, sg_J (by omega) (by omega), vbs, sg_J (by omega) (by omega), vbs]
  have r3a := sgZ_3 a
  have r3b := sgZ_3 b
  have cnd : (zI (sgZ a) * zI (sgZ b) < zI 0) = ((b < 0 ∧ 0 < a) ∨ (a < 0 ∧ 0 < b)) := by
    rw [zI_mul]
    rcases sgZ_cases a with ⟨x, e⟩ | ⟨x, e⟩ | ⟨x, e⟩ <;> rcases sgZ_cases b with ⟨y, f⟩ | ⟨y, f⟩ | ⟨y, f⟩ <;> rw [e, f] <;> refine propext ⟨fun z => ?_, fun z => ?_⟩ <;> first | omega | (exact absurd z (by decide)) | decide
  rw [ifc cnd]
  by_cases c3 : (b < 0 ∧ 0 < a) ∨ (a < 0 ∧ 0 < b)
  · obtain ⟨o1, o2, o3⟩ := sg_opp (o := o) (u := u) c3
    rw [if_pos c3, slet, slet, zL_sub, zL_abs (by omega) (by omega), zL_abs (by omega) (by omega), cq_z (by omega) (by omega) (by omega) (by omega) (by omega) (by omega) (by omega) (by omega), vbs, sg_J (by omega) (by omega), sg_J (by omega) (by omega), vbs, vbs]
    generalize hk : cmpZ (o * ((a - b).natAbs : Int)) ((a.natAbs : Int) * u) = k at *
    have hk3 : k = -1 ∨ k = 0 ∨ k = 1 := by
      rw [← hk]; unfold cmpZ
      split
      · exact Or.inl rfl
      · split
        · exact Or.inr (Or.inl rfl)
        · exact Or.inr (Or.inr rfl)
    rcases hk3 with z | z | z
    · rw [z, if_neg (by decide), if_neg (by decide), o2 z]
    · rw [z, if_pos rfl, o1 z]
    · rw [z, if_neg (by decide), if_pos (by decide), o3 z]
  · rw [if_neg c3, zL_add, sg_J (by omega) (by omega), vbs, sg_same (by omega) (by omega) (fun z => c3 (by omega))]
theorem lieZ_C {p q : Int} (hp : p = -1 ∨ p = 0 ∨ p = 1) (hq : q = -1 ∨ q = 0 ∨ q = 1) {s : vt_S} : (if 0 ≤ zI p * zI q then vt_b (ab_J6_signum_0f7a4 (zI p + zI q) s) (fun r25 h26 => ab_X1_lieOf_107 r25 h26) else ab_X1_lieOf_107 2 s) = some (zI (lieZ p q), s) := by
  rcases hp with rfl | rfl | rfl <;> rcases hq with rfl | rfl | rfl <;> rfl
section CT
variable {B p W : Nat} {g : Nat → Nat} {s : vt_S}
def pvC (B : Nat) (s : vt_S) (i : Nat) (P : PCE) : Prop := vt_A s 200 (B + 7) i = nI P.1 ∧ vt_B s 202 (B + 7) i = zL P.2.1 ∧ vt_B s 203 (B + 7) i = zL P.2.2.1 ∧ vt_B s 204 (B + 7) i = zL P.2.2.2.1 ∧ vt_B s 205 (B + 7) i = zL P.2.2.2.2
def pcL (B : Nat) (s : vt_S) (K : Nat) : Prop := (vt_L s 200 (B + 7) = K ∧ vt_L s 201 (B + 7) = K ∧ vt_L s 202 (B + 7) = K ∧ vt_L s 203 (B + 7) = K ∧ vt_L s 204 (B + 7) = K ∧ vt_L s 205 (B + 7) = K) ∧ 128 ≤ K ∧ K ≤ 16384
def cTw (B p : Nat) (g : Nat → Nat) (W : Nat) (s : vt_S) : Prop := pS p s ∧ plnV s p g W ∧ vt_P s 900 (B + 6) = B + 7
theorem cT_side {v : Nat} {x y : Int} (hF : wallF s (p + 43 + 2 * v) g (wlp g v)) (hx : -32768 ≤ x ∧ x ≤ 32767) (hy : -32768 ≤ y ∧ y ≤ 32767) : ab_X11_sideOf (p + 43 + 2 * v) (zI x) (zI y) s = some (zL (sdL g v x y), s) := by
  obtain ⟨f0, f1, f2, f3, -⟩ := hF
  obtain ⟨a1, a2, a3, a4⟩ := xy_rng g v
  have key : ∀ {ax ay bx bv : Int}, (-32768 ≤ ax ∧ ax ≤ 32767) → (-32768 ≤ ay ∧ ay ≤ 32767) → (-32768 ≤ bx ∧ bx ≤ 32767) → (-32768 ≤ bv ∧ bv ≤ 32767) → Int32.toInt64 (zI bx - zI ax) * Int32.toInt64 (zI y - zI ay) - Int32.toInt64 (zI bv - zI ay) * Int32.toInt64 (zI x - zI ax) = zL ((bx - ax) * (y - ay) - (bv - ay) * (x - ax)) := by
    intro ax ay bx bv h1 h2 h3 h4
    rw [zI_sub, zI_sub, zI_sub, zI_sub, zI_wide (a := bx - ax) (by omega) (by omega), zI_wide (a := y - ay) (by omega) (by omega), zI_wide (a := bv - ay) (by omega) (by omega), zI_wide (a := x - ax) (by omega) (by omega), zL_mul, zL_mul, zL_sub]
  have f0 : vt_I s 1200 (p + 43 + 2 * v) = zI (aX g (wlp g v)) := f0
  have f1 : vt_I s 1201 (p + 43 + 2 * v) = zI (aY g (wlp g v)) := f1
  have f2 : vt_I s 1202 (p + 43 + 2 * v) = zI (bX g (wlp g v)) := f2
  have f3 : vt_I s 1203 (p + 43 + 2 * v) = zI (bY g (wlp g v)) := f3
  unfold ab_X11_sideOf
  rw [slet, slet, slet, slet, slet, slet, f0, f1, f2, f3, key a1 a2 a3 a4]
  rfl
theorem cT_lie {v i K : Nat} {P : PCE} (hT : cTw B p g W s) (hL : pcL B s K) (hv : v < W) (hi : i < K) (hp : pvC B s i P) (ok : pcOk P) (hw : P.1 < W) : ab_X1_lieOf (B + 7) p (nI i) (p + 43 + 2 * v) s = some (zI (lyP g v P), s) := by
  obtain ⟨h1, ⟨h2, h3, h4⟩, -⟩ := hT
  obtain ⟨p0, p1, p2, p3, p4⟩ := hp
  obtain ⟨⟨o1, o2, o3, o4⟩, ⟨o5, o6, o7, o8⟩, -⟩ := ok
  obtain ⟨⟨l0, l1, l2, l3, l4, l5⟩, l6, l7⟩ := hL
  have Fv := h4 v hv
  have Fw := h4 P.1 hw
  obtain ⟨a1, a2, a3, a4⟩ := xy_rng g P.1
  obtain ⟨f0, f1, f2, f3, -⟩ := id Fw
  have f0 : vt_I s 1200 (p + 43 + 2 * P.1) = zI (aX g (wlp g P.1)) := f0
  have f1 : vt_I s 1201 (p + 43 + 2 * P.1) = zI (aY g (wlp g P.1)) := f1
  have f2 : vt_I s 1202 (p + 43 + 2 * P.1) = zI (bX g (wlp g P.1)) := f2
  have f3 : vt_I s 1203 (p + 43 + 2 * P.1) = zI (bY g (wlp g P.1)) := f3
  have L8 := h1.L308
  have q1 : ab_X11_sideOf (p + 43 + 2 * v) (zI (aX g (wlp g P.1))) (zI (aY g (wlp g P.1))) s = some (zL (sdA g v P.1), s) := cT_side Fv a1 a2
  have q2 : ab_X11_sideOf (p + 43 + 2 * v) (zI (bX g (wlp g P.1))) (zI (bY g (wlp g P.1))) s = some (zL (sdB g v P.1), s) := cT_side Fv a3 a4
  clear a1 a2 a3 a4
  unfold ab_X1_lieOf
  rw [vl_I_ok (by omega) (by omega), obs, p0, vl_P_ok (by omega) (by omega), obs, h1.E308 _ (by omega), slet, slet, f0, f1, q1, vbs, slet, slet, f2, f3, q2, vbs, vl_J_ok (by omega) (by omega), obs, vl_J_ok (by omega) (by omega), obs, p1, p2, cT_at (sdA_rng g v P.1) (sdB_rng g v P.1) o1 o2 o3 o4, vbs, vl_J_ok (by omega) (by omega), obs, vl_J_ok (by omega) (by omega), obs, p3, p4, cT_at (sdA_rng g v P.1) (sdB_rng g v P.1) o5 o6 o7 o8, vbs]
  exact lieZ_C (sgZ_3 _) (sgZ_3 _)
def chC (B : Nat) (s : vt_S) : Int32 → List Nat → List PCE → Prop
  | c, [], [] => c = -1
  | c, i :: is, P :: l => c = nI i ∧ pvC B s i P ∧ chC B s (vt_A s 201 (B + 7) i) is l
  | _, _, _ => False
theorem chC_nil {c : Int32} {is : List Nat} (h : chC B s c is []) : is = [] ∧ c = -1 := by
  cases is with
  | nil => exact ⟨rfl, h⟩
  | cons i is => exact h.elim
theorem chC_cons {c : Int32} {is : List Nat} {P : PCE} {l : List PCE} (h : chC B s c is (P :: l)) : ∃ i js, is = i :: js ∧ c = nI i ∧ pvC B s i P ∧ chC B s (vt_A s 201 (B + 7) i) js l := by
  cases is with
  | nil => exact h.elim
  | cons i js => exact ⟨i, js, rfl, h⟩
theorem nI_m1 {i : Nat} (h : i < 100000) : ¬ nI i = -1 := fun z => by
  rw [show (-1 : Int32) = zI (-1) from rfl, nI_z, zI_eq (by omega) (by omega) (by omega) (by omega)] at z
  omega
theorem cT_cost {v K n : Nat} (hT : cTw B p g W s) (hL : pcL B s K) (hv : v < W) (hn : n ≤ 128) : ∀ (l : List PCE) (is : List Nat) (c0 : Int32) (j c fu : Nat) (a : Int), j + l.length = n → l.length < fu → chC B s c0 is l → (∀ i, i ∈ is → i < K) → pcs W l → c ≤ j → a.natAbs ≤ j → ab_X8_costOf_12 fu (B + 6) p (p + 43 + 2 * v) (nI c) (zI a) c0 (nI j) s = some (zI (4 * ((c + cutN g v l : Nat) : Int) + ((a + blZ g v l).natAbs : Int)), s) := by
  intro l
  induction l with
  | nil =>
    intro is c0 j c fu a hj hf hc hi hp hcj ha
    obtain ⟨fu, rfl⟩ : ∃ q, fu = q + 1 := ⟨fu - 1, by have : ([] : List PCE).length = 0 := rfl; omega⟩
    rw [List.length_nil] at hj
    obtain ⟨-, e⟩ := chC_nil hc
    have e2 : a + blZ g v [] = a := Int.add_zero a
    have e3 : c + cutN g v [] = c := rfl
    show ab_X8_costOf_12b _ (B + 6) p (p + 43 + 2 * v) (nI c) (zI a) c0 (nI j) s = _
    unfold ab_X8_costOf_12b ab_X8_costOf_76
    rw [if_neg (show ¬ (16384 : Int32) ≤ nI j from nI_ge (b := 16384) (by omega) (by omega)), if_pos e, slet, zI_abs (by omega) (by omega), nI_z, show (4 : Int32) = zI 4 from rfl, zI_mul, zI_add, e2, e3]
  | cons P l ih =>
    intro is c0 j c fu a hj hf hc hi hp hcj ha
    rw [List.length_cons] at hj hf
    obtain ⟨fu, rfl⟩ : ∃ q, fu = q + 1 := ⟨fu - 1, by omega⟩
    obtain ⟨i, js, e1, e2, e3, e4⟩ := chC_cons hc
    subst e1
    have hiK := hi i List.mem_cons_self
    have hP := hp P List.mem_cons_self
    have hL' := hL
    obtain ⟨⟨l0, l1, -⟩, l6, l7⟩ := hL'
    have eC : cutN g v (P :: l) = (if lyP g v P = 2 then 1 else 0) + cutN g v l := rfl
    have eB : blZ g v (P :: l) = (if lyP g v P = 2 then 0 else lyP g v P) + blZ g v l := rfl
    have lr : -1 ≤ lyP g v P ∧ lyP g v P ≤ 2 := by rcases lyP_rng g v P with z | z | z | z <;> rw [z] <;> decide
    have ihh := fun c' a' => ih js (vt_A s 201 (B + 7) i) (j + 1) c' fu a' (by omega) (by omega) e4 (fun q hq => hi q (List.mem_cons_of_mem _ hq)) (fun Q hQ => hp Q (List.mem_cons_of_mem _ hQ))
    show ab_X8_costOf_12b _ (B + 6) p (p + 43 + 2 * v) (nI c) (zI a) c0 (nI j) s = _
    unfold ab_X8_costOf_12b ab_X8_costOf_58
    rw [if_neg (show ¬ (16384 : Int32) ≤ nI j from nI_ge (b := 16384) (by omega) (by omega)), e2, if_neg (nI_m1 (by omega)), slet, hT.2.2, cT_lie hT hL hv hiK e3 hP.1 hP.2, vbs, show (2 : Int32) = zI 2 from rfl, ifc (ly_I 2 (by omega)), nI_1, nI_1, eC, eB]
    by_cases q : lyP g v P = 2
    · rw [if_pos q, if_pos q, if_pos q, slet, hT.2.2, vl_I_ok (by omega) (by omega), obs, ihh (c + 1) a (by omega) (by omega), show c + 1 + cutN g v l = c + (1 + cutN g v l) by omega, Int.zero_add]
    · rw [if_neg q, if_neg q, if_neg q, zI_add, slet, hT.2.2, vl_I_ok (by omega) (by omega), obs, ihh c (a + lyP g v P) (by omega) (by omega), Nat.zero_add, Int.add_assoc]
theorem cT_best {K n : Nat} {full : List PCE} {fi : List Nat} {f0 : Int32} (hT : cTw B p g W s) (hL : pcL B s K) (hn : full.length = n) (hn8 : n ≤ 128) (hF : chC B s f0 fi full) (hfi : ∀ i, i ∈ fi → i < K) (hp : pcs W full) : ∀ (l : List PCE) (is : List Nat) (c0 : Int32) (j fu b : Nat) (m : Int), j + l.length = n → j ≤ 16 → l.length < fu → chC B s c0 is l → (∀ i, i ∈ is → i < K) → (∀ P, P ∈ l → P ∈ full) → 0 ≤ m → m ≤ 1073741824 → ab_X8_bestLine_20 fu (B + 6) p f0 (nI b) (zI m) c0 (nI j) s = some (nI (bsG g full (16 - j) l b m), s) := by
  intro l
  induction l with
  | nil =>
    intro is c0 j fu b m hj h16 hf hc hi hl hm0 hm1
    obtain ⟨fu, rfl⟩ : ∃ q, fu = q + 1 := ⟨fu - 1, by have : ([] : List PCE).length = 0 := rfl; omega⟩
    obtain ⟨-, e⟩ := chC_nil hc
    have eb : bsG g full (16 - j) [] b m = b := by cases 16 - j <;> rfl
    show ab_X8_bestLine_20b _ (B + 6) p f0 (nI b) (zI m) c0 (nI j) s = _
    unfold ab_X8_bestLine_20b ab_X8_bestLine_96
    rw [if_pos e, eb, ite_self]
  | cons P l ih =>
    intro is c0 j fu b m hj h16 hf hc hi hl hm0 hm1
    rw [List.length_cons] at hj hf
    obtain ⟨fu, rfl⟩ : ∃ q, fu = q + 1 := ⟨fu - 1, by omega⟩
    obtain ⟨i, js, e1, e2, e3, e4⟩ := chC_cons hc
    subst e1
    have hiK := hi i List.mem_cons_self
    have hP := hp P (hl P List.mem_cons_self)
    have hL' := hL
    obtain ⟨⟨l0, l1, -⟩, l6, l7⟩ := hL'
    have L8 := hT.1.L308
    have W8 := hT.2.1.2.1
    show ab_X8_bestLine_20b _ (B + 6) p f0 (nI b) (zI m) c0 (nI j) s = _
    unfold ab_X8_bestLine_20b ab_X8_bestLine_96 ab_X8_bestLine_78
    by_cases c : 16 ≤ j
    · rw [if_pos (show (16 : Int32) ≤ nI j from nI_le (a := 16) c (by omega)), show 16 - j = 0 by omega]; rfl
    · have cr := cs_rng (g := g) (v := P.1) (l := full) (by omega)
      have k := cT_cost (n := n) hT hL hP.2 hn8 full fi f0 0 0 sv_fuel 0 (by omega) (fuel_ge (by omega)) hF hfi hp (Nat.le_refl _) (Nat.le_refl _)
      have ecs : (4 * ((0 + cutN g P.1 full : Nat) : Int)) + ((0 + blZ g P.1 full).natAbs : Int) = csZ g P.1 full := by
        rw [Nat.zero_add, Int.zero_add]; rfl
      rw [ecs] at k
      have k : ab_X8_costOf (B + 6) p f0 (p + 43 + 2 * P.1) s = some (zI (csZ g P.1 full), s) := k
      have e : bsG g full (16 - j) (P :: l) b m = if csZ g P.1 full < m then bsG g full (16 - (j + 1)) l P.1 (csZ g P.1 full) else bsG g full (16 - (j + 1)) l b m := by
        rw [show 16 - j = 16 - (j + 1) + 1 by omega]; rfl
      have ihh := fun b' m' => ih js (vt_A s 201 (B + 7) i) (j + 1) fu b' m' (by omega) (by omega) (by omega) e4 (fun q hq => hi q (List.mem_cons_of_mem _ hq)) (fun Q hQ => hl Q (List.mem_cons_of_mem _ hQ))
      rw [if_neg (show ¬ (16 : Int32) ≤ nI j from nI_ge (b := 16) (by omega) (by omega)), e2, if_neg (nI_m1 (by omega)), slet, hT.2.2, vl_I_ok (by omega) (by omega), obs, e3.1, vl_P_ok (by omega) (by omega), obs, hT.1.E308 _ (by omega), k, vbs, ifc (zI_le (by omega) (by omega) (by omega) (by omega)), e]
      by_cases d : m ≤ csZ g P.1 full
      · rw [if_pos d, if_neg (by omega), slet, hT.2.2, vl_I_ok (by omega) (by omega), obs, nI_1]
        exact ihh b m hm0 hm1
      · rw [if_neg d, if_pos (by omega), slet, hT.2.2, vl_I_ok (by omega) (by omega), obs, e3.1, slet, vl_I_ok (by omega) (by omega), obs, nI_1]
        exact ihh P.1 (csZ g P.1 full) (by omega) (by omega)
end CT
