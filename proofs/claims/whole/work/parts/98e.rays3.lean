/-- walls in their order, one after the other put in its place -/
def gat (lt : Nat → Nat → Bool) (pm : Nat → Bool) : Nat → (Nat → Nat) × Nat
  | 0 => (fun _ => 0, 0)
  | w + 1 => if pm w = true then (insM (gat lt pm w).1 (insP lt (gat lt pm w).1 w (gat lt pm w).2) w, (gat lt pm w).2 + 1) else gat lt pm w
theorem gat_in (lt : Nat → Nat → Bool) (pm : Nat → Bool) : ∀ w, (gat lt pm w).2 ≤ w ∧ ∀ j, j < (gat lt pm w).2 → pm ((gat lt pm w).1 j) = true ∧ (gat lt pm w).1 j < w
  | 0 => ⟨Nat.le_refl 0, fun j hj => absurd hj (by show ¬ j < 0; omega)⟩
  | w + 1 => by
    obtain ⟨a, b⟩ := gat_in lt pm w
    unfold gat
    by_cases c : pm w = true
    · rw [if_pos c]
      dsimp only
      refine ⟨by omega, fun j hj => ?_⟩
      have il := insP_le lt (gat lt pm w).1 w (gat lt pm w).2
      unfold insM
      by_cases z1 : j < insP lt (gat lt pm w).1 w (gat lt pm w).2
      · rw [if_pos z1]; have := b j (by omega); exact ⟨this.1, by omega⟩
      · rw [if_neg z1]
        by_cases z2 : j = insP lt (gat lt pm w).1 w (gat lt pm w).2
        · rw [if_pos z2]; exact ⟨c, by omega⟩
        · rw [if_neg z2]; have := b (j - 1) (by omega); exact ⟨this.1, by omega⟩
    · rw [if_neg c]; exact ⟨by omega, fun j hj => ⟨(b j hj).1, by have := (b j hj).2; omega⟩⟩
def rmB (y : RY) (g : Nat → Nat) (w : Nat) : Bool := decide (((r1 y g w < 0 ∧ 0 ≤ r2 y g w) ∨ (0 ≤ r1 y g w ∧ r2 y g w < 0)) ∧ 0 < rov y g w)
theorem rmB_iff {y : RY} {g : Nat → Nat} {w : Nat} : rmB y g w = true ↔ rmet y g w := by
  unfold rmB rmet
  rw [decide_eq_true_eq]
/-- no farther than 1 / share -/
def rcB (y : RY) (g : Nat → Nat) (share w : Nat) : Bool := decide (rov y g w * share ≤ run y g w)
theorem meet_wt {K a b u v : Int} (hK : 0 < K) (ha : 0 ≤ a) (hb : 0 ≤ b) (hab : a + b = K) {t : Int} (e : a * u + b * v = t) : K * min u v ≤ t ∧ t ≤ K * max u v := by
  have e1 := Int.mul_le_mul_of_nonneg_left (show min u v ≤ u by omega) ha
  have e2 := Int.mul_le_mul_of_nonneg_left (show min u v ≤ v by omega) hb
  have e3 := Int.mul_le_mul_of_nonneg_left (show u ≤ max u v by omega) ha
  have e4 := Int.mul_le_mul_of_nonneg_left (show v ≤ max u v by omega) hb
  have f1 : a * min u v + b * min u v = K * min u v := by rw [← hab]; grind
  have f2 : a * max u v + b * max u v = K * max u v := by rw [← hab]; grind
  omega
theorem box1 {K O d share D u v rch : Int} (hK : 0 < K) (hO : 0 < O) (hs : 1 ≤ share) (hd1 : d ≤ D) (hd2 : -D ≤ d) (hc : O * share ≤ K) (hr : rch = D / share + 1) (h1 : K * min u v ≤ O * d) (h2 : O * d ≤ K * max u v) : min u v ≤ rch ∧ -rch ≤ max u v := by
  have D0 : 0 ≤ D := by omega
  have e1 : O * d ≤ O * D := Int.mul_le_mul_of_nonneg_left hd1 (by omega)
  have e2 : O * (-D) ≤ O * d := Int.mul_le_mul_of_nonneg_left hd2 (by omega)
  have e3 : O * share * D ≤ K * D := Int.mul_le_mul_of_nonneg_right hc D0
  have dv : D < share * (D / share + 1) := by
    have := Int.emod_add_mul_ediv D share
    have := Int.emod_lt_of_pos D (show 0 < share by omega)
    rw [Int.mul_add]; omega
  rw [← hr] at dv
  constructor
  · -- min u v * share ≤ D
    have a1 : share * (K * min u v) ≤ share * (O * D) := Int.mul_le_mul_of_nonneg_left (by omega) (by omega)
    have a2 : share * (O * D) = O * share * D := by grind
    have a3 : K * (share * min u v) ≤ K * D := by
      have : share * (K * min u v) = K * (share * min u v) := by grind
      omega
    have a4 : share * min u v ≤ D := Int.le_of_mul_le_mul_left a3 hK
    have a5 : share * min u v < share * rch := by omega
    have := Int.lt_of_mul_lt_mul_left a5 (by omega)
    omega
  · have a1 : share * (O * (-D)) ≤ share * (K * max u v) := Int.mul_le_mul_of_nonneg_left (by omega) (by omega)
    have a2 : share * (O * (-D)) = -(O * share * D) := by grind
    have a3 : K * (-D) ≤ K * (share * max u v) := by
      have : share * (K * max u v) = K * (share * max u v) := by grind
      have : K * (-D) = -(K * D) := by grind
      omega
    have a4 : -D ≤ share * max u v := Int.le_of_mul_le_mul_left a3 hK
    have a5 : share * (-rch) < share * max u v := by
      have : share * (-rch) = -(share * rch) := by grind
      omega
    have := Int.lt_of_mul_lt_mul_left a5 (by omega)
    omega
/-- a wall that is met so close reaches the box around -/
theorem close_box {y : RY} {g : Nat → Nat} {w share : Nat} {rch : Int} (hs : 1 ≤ share) (hm : rmet y g w) (hc : rov y g w * share ≤ run y g w) (hr : rch = max (y.2.2.1.natAbs : Int) (y.2.2.2.natAbs : Int) / share + 1) : boxZ (aX g (wlp g w)) (aY g (wlp g w)) (bX g (wlp g w)) (bY g (wlp g w)) (y.1 - rch) (y.2.1 - rch) (y.1 + rch) (y.2.1 + rch) = true := by
  obtain ⟨un0, ov0⟩ := met_un hm
  have side := hm.1
  have D1 : r1 y g w = y.2.2.1 * (aY g (wlp g w) - y.2.1) - y.2.2.2 * (aX g (wlp g w) - y.1) := rfl
  have D2 : r2 y g w = y.2.2.1 * (bY g (wlp g w) - y.2.1) - y.2.2.2 * (bX g (wlp g w) - y.1) := rfl
  have D3 : rp y g w = (aX g (wlp g w) - y.1) * (bY g (wlp g w) - aY g (wlp g w)) - (aY g (wlp g w) - y.2.1) * (bX g (wlp g w) - aX g (wlp g w)) := rfl
  have D4 : rov y g w = if r1 y g w < r2 y g w then rp y g w else -rp y g w := rfl
  have D5 : run y g w = ((r2 y g w - r1 y g w).natAbs : Int) := rfl
  unfold boxZ
  rw [decide_eq_true_eq]
  obtain ⟨ex, ey, dx, dy⟩ := y
  dsimp only at *
  generalize r1 (ex, ey, dx, dy) g w = a at *
  generalize r2 (ex, ey, dx, dy) g w = b at *
  generalize rp (ex, ey, dx, dy) g w = p at *
  generalize rov (ex, ey, dx, dy) g w = O at *
  generalize run (ex, ey, dx, dy) g w = K at *
  generalize aX g (wlp g w) = ax at *
  generalize aY g (wlp g w) = ay at *
  generalize bX g (wlp g w) = bx at *
  generalize bY g (wlp g w) = bv at *
  have px : b * (ax - ex) - a * (bx - ex) = p * dx := by rw [D1, D2, D3]; grind
  have py : b * (ay - ey) - a * (bv - ey) = p * dy := by rw [D1, D2, D3]; grind
  obtain ⟨α, β, hα, hβ, hK, hx, hv⟩ : ∃ α β : Int, 0 ≤ α ∧ 0 ≤ β ∧ α + β = K ∧ α * (ax - ex) + β * (bx - ex) = O * dx ∧ α * (ay - ey) + β * (bv - ey) = O * dy := by
    rcases side with ⟨s1, s2⟩ | ⟨s1, s2⟩
    · rw [if_pos (by omega)] at D4
      refine ⟨b, -a, s2, by omega, by omega, ?_, ?_⟩
      · rw [D4, ← px]; grind
      · rw [D4, ← py]; grind
    · rw [if_neg (by omega)] at D4
      refine ⟨-b, a, by omega, s1, by omega, ?_, ?_⟩
      · rw [D4]; clear D1 D2 D3 D5 hc hr; grind
      · rw [D4]; clear D1 D2 D3 D5 hc hr; grind
  obtain ⟨x1, x2⟩ := meet_wt un0 hα hβ hK hx
  obtain ⟨v1, v2⟩ := meet_wt un0 hα hβ hK hv
  have bx1 := box1 (share := (share : Int)) (D := max (dx.natAbs : Int) (dy.natAbs : Int)) un0 ov0 (by omega) (by omega) (by omega) hc hr x1 x2
  have by1 := box1 (share := (share : Int)) (D := max (dx.natAbs : Int) (dy.natAbs : Int)) un0 ov0 (by omega) (by omega) (by omega) hc hr v1 v2
  clear x1 x2 v1 v2 hx hv px py D1 D2 D3 D4 D5 side hc hα hβ hK hr
  omega
section ML
variable {Y p : Nat} {y : RY} {g : Nat → Nat} {W : Nat}
/-- the rays hold what is gathered -/
def rays (s : vt_S) (Y : Nat) (y : RY) (g : Nat → Nat) (q : (Nat → Nat) × Nat) : Prop := vt_I s 406 Y = nI q.2 ∧ ∀ j, j < q.2 → rayC s Y y g q.1 j
/-- walls of a plan, to be met -/
def plnV (s : vt_S) (p : Nat) (g : Nat → Nat) (W : Nat) : Prop := vt_I s 312 p = nI W ∧ W ≤ 128 ∧ ∀ j, j < W → wallF s (p + 43 + 2 * j) g (wlp g j)
theorem plnV.k {s s1 : vt_S} (h : plnV s p g W) (k : rayk Y s s1) (h1 : p ≠ Y) (h2 : ∀ j, j < 128 → p + 43 + 2 * j ≠ Y) : plnV s1 p g W := by
  obtain ⟨a, b, c⟩ := h
  refine ⟨by rw [k.I (fun z => h1 z.1)]; exact a, b, fun j hj => ?_⟩
  have := c j hj
  have n := h2 j (by omega)
  unfold wallF at this ⊢
  rw [k.2.2.2.2.2.2.2.1 1211 _ n]
  simp only [k.I (show ¬ (p + 43 + 2 * j = Y ∧ _) from fun z => n z.1)]
  exact this
theorem c_all_loop (hy : ryOk y) (h1 : p ≠ Y) (h2 : ∀ j, j < 128 → p + 43 + 2 * j ≠ Y) : ∀ (d i fu : Nat) (s : vt_S), i + d = W → d < fu → pS p s → plnV s p g W → rayL Y s → aimC s Y y → rays s Y y g (gat (rlt y g) (rmB y g) i) → ∃ s1, ab_X3_meetAll_7 fu Y p (nI i) s = some ((), s1) ∧ rayk Y s s1 ∧ rays s1 Y y g (gat (rlt y g) (rmB y g) W) := by
  intro d
  induction d with
  | zero =>
    intro i fu s hi hf hp hV hL hA h
    obtain ⟨fu, rfl⟩ : ∃ q, fu = q + 1 := ⟨fu - 1, by omega⟩
    obtain rfl : i = W := by omega
    have hW := hV.2.1
    refine ⟨s, ?_, rayk.refl, h⟩
    show ab_X3_meetAll_7b _ Y p (nI i) s = _
    unfold ab_X3_meetAll_7b
    rw [slet, hV.1, if_pos (nI_le (by omega) (by omega))]
  | succ d ih =>
    intro i fu s hi hf hp hV hL hA h
    obtain ⟨fu, rfl⟩ : ∃ q, fu = q + 1 := ⟨fu - 1, by omega⟩
    have hW := hV.2.1
    have L8 := hp.L308
    obtain ⟨ga, gb⟩ := gat_in (rlt y g) (rmB y g) i
    obtain ⟨s1, a1, a2, a3⟩ := c_meet (Y := Y) hy (share := 0) (w := i) (show (gat (rlt y g) (rmB y g) i).2 < 128 by omega) (by omega) (by omega) (fun j hj => rmB_iff.mp (gb j hj).1) hL h.1 hA (hV.2.2 i (by omega)) h.2
    have nx : rays s1 Y y g (gat (rlt y g) (rmB y g) (i + 1)) := by
      unfold gat
      rcases a3 with ⟨m1, -, m3, m4⟩ | ⟨m1, rfl⟩
      · rw [if_pos (rmB_iff.mpr m1)]; exact ⟨m3, m4⟩
      · rw [if_neg (fun z => m1 ⟨rmB_iff.mp z, by have := (rov_rng hy g i).2.1; omega⟩)]; exact h
    obtain ⟨s2, b1, b2, b3⟩ := ih (i + 1) fu s1 (by omega) (by omega) (hp.of a2.2.2.2.1 a2.L a2.2.2.2.2.1) (hV.k a2 h1 h2) (hL.of a2.L) (hA.k a2) nx
    refine ⟨s2, ?_, a2.trans b2, b3⟩
    show ab_X3_meetAll_7b _ Y p (nI i) s = _
    unfold ab_X3_meetAll_7b
    rw [slet, hV.1, if_neg (nI_ge (by omega) (by omega)), vl_P_ok (by omega) (by omega), obs, hp.E308 i (by omega), show (0 : Int32) = nI 0 from rfl, a1, vbs, nI_1]
    exact b1
theorem c_meetAll {s : vt_S} (hy : ryOk y) (h1 : p ≠ Y) (h2 : ∀ j, j < 128 → p + 43 + 2 * j ≠ Y) (hp : pS p s) (hV : plnV s p g W) (hL : rayL Y s) (hA : aimC s Y y) : ∃ s1, ab_X3_meetAll Y p s = some ((), s1) ∧ rayk Y s s1 ∧ rays s1 Y y g (gat (rlt y g) (rmB y g) W) := by
  have k : rayk Y s (vu_I s 406 Y 0) := rayk.refl.put
  obtain ⟨s1, a1, a2, a3⟩ := c_all_loop (Y := Y) (W := W) hy h1 h2 W 0 sv_fuel (vu_I s 406 Y 0) (by omega) (fuel_ge (by have := hV.2.1; omega)) (hp.of rfl rfl rfl) (hV.k k h1 h2) (hL.of rfl) (hA.k k) ⟨I_at, fun j hj => absurd hj (by show ¬ j < 0; omega)⟩
  refine ⟨s1, ?_, k.trans a2, a3⟩
  unfold ab_X3_meetAll
  rw [slet]
  exact a1
theorem c_close_loop (hy : ryOk y) (h1 : p ≠ Y) (h2 : ∀ j, j < 128 → p + 43 + 2 * j ≠ Y) {share : Nat} {rch : Int} (hs : 1 ≤ share) (hs4 : share ≤ 4) (hr : rch = max (y.2.2.1.natAbs : Int) (y.2.2.2.natAbs : Int) / share + 1) (hr2 : 0 ≤ rch ∧ rch ≤ 100000) : ∀ (d i fu : Nat) (s : vt_S), i + d = W → d < fu → pS p s → plnV s p g W → rayL Y s → aimC s Y y → rays s Y y g (gat (rlt y g) (fun w => rmB y g w && rcB y g share w) i) → ∃ s1, ab_X3_meetClose_30 fu Y p (nI share) (zI rch) (nI i) s = some ((), s1) ∧ rayk Y s s1 ∧ rays s1 Y y g (gat (rlt y g) (fun w => rmB y g w && rcB y g share w) W) := by
  intro d
  induction d with
  | zero =>
    intro i fu s hi hf hp hV hL hA h
    obtain ⟨fu, rfl⟩ : ∃ q, fu = q + 1 := ⟨fu - 1, by omega⟩
    obtain rfl : i = W := by omega
    have hW := hV.2.1
    refine ⟨s, ?_, rayk.refl, h⟩
    show ab_X3_meetClose_30b _ Y p _ _ (nI i) s = _
    unfold ab_X3_meetClose_30b
    rw [slet, hV.1, if_pos (nI_le (by omega) (by omega))]
  | succ d ih =>
    intro i fu s hi hf hp hV hL hA h
    obtain ⟨fu, rfl⟩ : ∃ q, fu = q + 1 := ⟨fu - 1, by omega⟩
    have hW := hV.2.1
    have L8 := hp.L308
    obtain ⟨⟨y1, y2⟩, ⟨y3, y4⟩, -⟩ := id hy
    obtain ⟨ga, gb⟩ := gat_in (rlt y g) (fun w => rmB y g w && rcB y g share w) i
    have hWi := hV.2.2 i (by omega)
    have hbx := c_box (lx := y.1 - rch) (ly := y.2.1 - rch) (mx := y.1 + rch) (my := y.2.1 + rch) hWi.wc (by omega) (by omega) (by omega) (by omega)
    have e0 : ab_X3_meetClose_30 (fu + 1) Y p (nI share) (zI rch) (nI i) s = if bI (boxZ (aX g (wlp g i)) (aY g (wlp g i)) (bX g (wlp g i)) (bY g (wlp g i)) (y.1 - rch) (y.2.1 - rch) (y.1 + rch) (y.2.1 + rch)) = 0 then ab_X3_meetClose_30 fu Y p (nI share) (zI rch) (nI (i + 1)) s else vt_b (ab_X3_meet Y (p + 43 + 2 * i) (nI i) (nI share) s) fun _ h10 => ab_X3_meetClose_30 fu Y p (nI share) (zI rch) (nI (i + 1)) h10 := by
      show ab_X3_meetClose_30b _ Y p _ _ (nI i) s = _
      unfold ab_X3_meetClose_30b ab_X3_meetClose_89
      simp only [slet]
      rw [hV.1, if_neg (nI_ge (by omega) (by omega)), vl_P_ok (by omega) (by omega), obs, hp.E308 i (by omega), hA.1, hA.2.1, zI_sub, zI_sub, zI_add, zI_add, hbx, vbs, nI_1]
    rw [e0]
    cases hb : boxZ (aX g (wlp g i)) (aY g (wlp g i)) (bX g (wlp g i)) (bY g (wlp g i)) (y.1 - rch) (y.2.1 - rch) (y.1 + rch) (y.2.1 + rch) with
    | false =>
      rw [if_pos (show bI false = 0 from rfl)]
      have nx : gat (rlt y g) (fun w => rmB y g w && rcB y g share w) (i + 1) = gat (rlt y g) (fun w => rmB y g w && rcB y g share w) i := by
        show (if (rmB y g i && rcB y g share i) = true then _ else _) = _
        rw [if_neg (fun z => by
          rw [Bool.and_eq_true] at z
          have := close_box (rch := rch) hs (rmB_iff.mp z.1) (of_decide_eq_true z.2) hr
          rw [hb] at this
          cases this)]
      exact ih (i + 1) fu s (by omega) (by omega) hp hV hL hA (by rw [nx]; exact h)
    | true =>
      rw [if_neg (show ¬ bI true = 0 by decide)]
      obtain ⟨s1, a1, a2, a3⟩ := c_meet (Y := Y) hy (share := share) (w := i) (show (gat (rlt y g) (fun w => rmB y g w && rcB y g share w) i).2 < 128 by omega) (by omega) (by omega) (fun j hj => by
        have := (gb j hj).1
        rw [Bool.and_eq_true] at this
        exact rmB_iff.mp this.1) hL h.1 hA hWi h.2
      have nx : rays s1 Y y g (gat (rlt y g) (fun w => rmB y g w && rcB y g share w) (i + 1)) := by
        unfold gat
        rcases a3 with ⟨m1, m2, m3, m4⟩ | ⟨m1, rfl⟩
        · rw [if_pos (by rw [Bool.and_eq_true]; exact ⟨rmB_iff.mpr m1, decide_eq_true m2⟩)]; exact ⟨m3, m4⟩
        · rw [if_neg (fun z => by rw [Bool.and_eq_true] at z; exact m1 ⟨rmB_iff.mp z.1, of_decide_eq_true z.2⟩)]; exact h
      rw [a1, vbs]
      obtain ⟨s2, b1, b2, b3⟩ := ih (i + 1) fu s1 (by omega) (by omega) (hp.of a2.2.2.2.1 a2.L a2.2.2.2.2.1) (hV.k a2 h1 h2) (hL.of a2.L) (hA.k a2) nx
      exact ⟨s2, b1, a2.trans b2, b3⟩
theorem c_meetClose {s : vt_S} {share : Nat} (hy : ryOk y) (h1 : p ≠ Y) (h2 : ∀ j, j < 128 → p + 43 + 2 * j ≠ Y) (hs : 1 ≤ share) (hs4 : share ≤ 4) (hp : pS p s) (hV : plnV s p g W) (hL : rayL Y s) (hA : aimC s Y y) : ∃ s1, ab_X3_meetClose Y p (nI share) s = some ((), s1) ∧ rayk Y s s1 ∧ rays s1 Y y g (gat (rlt y g) (fun w => rmB y g w && rcB y g share w) W) := by
  have k : rayk Y s (vu_I s 406 Y 0) := rayk.refl.put
  obtain ⟨-, -, ⟨y5, y6⟩, ⟨y7, y8⟩⟩ := id hy
  have dv : 0 ≤ max (y.2.2.1.natAbs : Int) (y.2.2.2.natAbs : Int) / share ∧ max (y.2.2.1.natAbs : Int) (y.2.2.2.natAbs : Int) / share ≤ 40000 := by
    constructor
    · exact Int.ediv_nonneg (by omega) (by omega)
    · exact Int.le_trans (Int.ediv_le_self _ (by omega)) (by omega)
  obtain ⟨s1, a1, a2, a3⟩ := c_close_loop (Y := Y) (W := W) hy h1 h2 hs hs4 rfl (by omega) W 0 sv_fuel (vu_I s 406 Y 0) (by omega) (fuel_ge (by have := hV.2.1; omega)) (hp.of rfl rfl rfl) (hV.k k h1 h2) (hL.of rfl) (hA.k k) ⟨I_at, fun j hj => absurd hj (by show ¬ j < 0; omega)⟩
  refine ⟨s1, ?_, k.trans a2, a3⟩
  unfold ab_X3_meetClose
  simp only [slet]
  rw [I_nf (show 409 ≠ 406 by decide), I_nf (show 410 ≠ 406 by decide), hA.2.2.1, hA.2.2.2, zI_abs (by omega) (by omega), zI_abs (by omega) (by omega), zI_max (by omega) (by omega) (by omega) (by omega), if_neg (by rw [show (0 : Int32) = nI 0 from rfl, nI_eq (by omega) (by omega)]; omega)]
  rw [nI_z share, zI_divP (by omega) (by omega) (by omega) (by omega), show (1 : Int32) = zI 1 from rfl, zI_add, ← nI_z share]
  exact a1
end ML
