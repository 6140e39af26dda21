-- TREE: what is built, and how large it may grow
abbrev PCE : Type := Nat × Int × Int × Int × Int
def sdL (g : Nat → Nat) (v : Nat) (x y : Int) : Int := (bX g (wlp g v) - aX g (wlp g v)) * (y - aY g (wlp g v)) - (bY g (wlp g v) - aY g (wlp g v)) * (x - aX g (wlp g v))
def sdA (g : Nat → Nat) (v w : Nat) : Int := sdL g v (aX g (wlp g w)) (aY g (wlp g w))
def sdB (g : Nat → Nat) (v w : Nat) : Int := sdL g v (bX g (wlp g w)) (bY g (wlp g w))
def sgZ (x : Int) : Int := cmpZ x 0
def fT (a b o u : Int) : Int := a * (u - o) + b * o
def lieZ (p q : Int) : Int := if p * q < 0 then 2 else if p ≠ 0 then p else q
def lyP (g : Nat → Nat) (v : Nat) (P : PCE) : Int := lieZ (sgZ (fT (sdA g v P.1) (sdB g v P.1) P.2.1 P.2.2.1)) (sgZ (fT (sdA g v P.1) (sdB g v P.1) P.2.2.2.1 P.2.2.2.2))
def pcOk (P : PCE) : Prop := (0 ≤ P.2.1 ∧ P.2.1 ≤ P.2.2.1 ∧ 0 < P.2.2.1 ∧ P.2.2.1 ≤ 20000000000) ∧ (0 ≤ P.2.2.2.1 ∧ P.2.2.2.1 ≤ P.2.2.2.2 ∧ 0 < P.2.2.2.2 ∧ P.2.2.2.2 ≤ 20000000000) ∧ P.2.1 * P.2.2.2.2 < P.2.2.2.1 * P.2.2.1
def cutF (g : Nat → Nat) (v : Nat) (P : PCE) : PCE := (P.1, P.2.1, P.2.2.1, ((sdA g v P.1).natAbs : Int), ((sdA g v P.1 - sdB g v P.1).natAbs : Int))
def cutT (g : Nat → Nat) (v : Nat) (P : PCE) : PCE := (P.1, ((sdA g v P.1).natAbs : Int), ((sdA g v P.1 - sdB g v P.1).natAbs : Int), P.2.2.2.1, P.2.2.2.2)
theorem sgZ_cases (x : Int) : (x < 0 ∧ sgZ x = -1) ∨ (x = 0 ∧ sgZ x = 0) ∨ (0 < x ∧ sgZ x = 1) := by
  unfold sgZ cmpZ
  by_cases c : x < 0
  · rw [if_pos c]; exact Or.inl ⟨c, rfl⟩
  · rw [if_neg c]
    by_cases d : x = 0
    · rw [if_pos d]; exact Or.inr (Or.inl ⟨d, rfl⟩)
    · rw [if_neg d]; exact Or.inr (Or.inr ⟨by omega, rfl⟩)
theorem lieZ_two {x y : Int} : lieZ (sgZ x) (sgZ y) = 2 ↔ (x < 0 ∧ 0 < y) ∨ (0 < x ∧ y < 0) := by
  unfold lieZ
  rcases sgZ_cases x with ⟨a, e⟩ | ⟨a, e⟩ | ⟨a, e⟩ <;> rcases sgZ_cases y with ⟨b, f⟩ | ⟨b, f⟩ | ⟨b, f⟩ <;> rw [e, f] <;> simp <;> omega
theorem lieZ_rng (x y : Int) : lieZ (sgZ x) (sgZ y) = 2 ∨ lieZ (sgZ x) (sgZ y) = 1 ∨ lieZ (sgZ x) (sgZ y) = 0 ∨ lieZ (sgZ x) (sgZ y) = -1 := by
  unfold lieZ
  rcases sgZ_cases x with ⟨a, e⟩ | ⟨a, e⟩ | ⟨a, e⟩ <;> rcases sgZ_cases y with ⟨b, f⟩ | ⟨b, f⟩ | ⟨b, f⟩ <;> rw [e, f] <;> simp
theorem lyP_rng (g : Nat → Nat) (v : Nat) (P : PCE) : lyP g v P = 2 ∨ lyP g v P = 1 ∨ lyP g v P = 0 ∨ lyP g v P = -1 := lieZ_rng _ _
theorem xy_rng (g : Nat → Nat) (w : Nat) : (-32768 ≤ aX g (wlp g w) ∧ aX g (wlp g w) ≤ 32767) ∧ (-32768 ≤ aY g (wlp g w) ∧ aY g (wlp g w) ≤ 32767) ∧ (-32768 ≤ bX g (wlp g w) ∧ bX g (wlp g w) ≤ 32767) ∧ (-32768 ≤ bY g (wlp g w) ∧ bY g (wlp g w) ≤ 32767) :=
  ⟨pr_rng g (7 + 4 * g (wlp g w)), pr_rng g (9 + 4 * g (wlp g w)), pr_rng g (7 + 4 * g (wlp g w + 1)), pr_rng g (9 + 4 * g (wlp g w + 1))⟩
theorem sdL_rng (g : Nat → Nat) (v : Nat) {x y : Int} (hx : -32768 ≤ x ∧ x ≤ 32767) (hy : -32768 ≤ y ∧ y ≤ 32767) : -8590000000 ≤ sdL g v x y ∧ sdL g v x y ≤ 8590000000 := by
  obtain ⟨a1, a2, a3, a4⟩ := xy_rng g v
  unfold sdL
  have m1 := mulb (a := bX g (wlp g v) - aX g (wlp g v)) (b := y - aY g (wlp g v)) (A := 65535) (C := 65535) (by omega) (by omega) (by omega) (by omega)
  have m2 := mulb (a := bY g (wlp g v) - aY g (wlp g v)) (b := x - aX g (wlp g v)) (A := 65535) (C := 65535) (by omega) (by omega) (by omega) (by omega)
  omega
theorem sdA_rng (g : Nat → Nat) (v w : Nat) : -8590000000 ≤ sdA g v w ∧ sdA g v w ≤ 8590000000 := sdL_rng g v (xy_rng g w).1 (xy_rng g w).2.1
theorem sdB_rng (g : Nat → Nat) (v w : Nat) : -8590000000 ≤ sdB g v w ∧ sdB g v w ≤ 8590000000 := sdL_rng g v (xy_rng g w).2.2.1 (xy_rng g w).2.2.2
theorem sd_self (g : Nat → Nat) (v : Nat) : sdA g v v = 0 ∧ sdB g v v = 0 := by
  unfold sdA sdB sdL
  constructor
  · rw [Int.sub_self, Int.sub_self, Int.mul_zero, Int.mul_zero]; rfl
  · rw [Int.mul_comm]; omega
theorem lyP_self (g : Nat → Nat) (P : PCE) : lyP g P.1 P = 0 := by
  unfold lyP
  rw [(sd_self g P.1).1, (sd_self g P.1).2]
  have e : ∀ o u : Int, fT 0 0 o u = 0 := fun o u => by unfold fT; rw [Int.zero_mul, Int.zero_mul]; rfl
  rw [e, e]
  decide
/-- both ends on the sides of a and b -/
theorem cut_ab {a b o1 u1 o2 u2 : Int} (h1 : 0 ≤ o1) (h2 : o1 ≤ u1) (h3 : 0 ≤ o2) (h4 : o2 ≤ u2) (hD : o1 * u2 < o2 * u1) (u1p : 0 < u1) (u2p : 0 < u2) (hc : (fT a b o1 u1 < 0 ∧ 0 < fT a b o2 u2) ∨ (0 < fT a b o1 u1 ∧ fT a b o2 u2 < 0)) : (b < 0 ∧ 0 < a ∧ 0 < fT a b o1 u1 ∧ fT a b o2 u2 < 0) ∨ (a < 0 ∧ 0 < b ∧ fT a b o1 u1 < 0 ∧ 0 < fT a b o2 u2) := by
  have e : fT a b o1 u1 * u2 - fT a b o2 u2 * u1 = (a - b) * (o2 * u1 - o1 * u2) := by
    unfold fT
    simp only [Int.sub_mul, Int.add_mul, Int.mul_sub]
    have r1 : a * u1 * u2 = a * u2 * u1 := by rw [Int.mul_assoc, Int.mul_comm u1 u2, ← Int.mul_assoc]
    have r2 : b * o1 * u2 = b * (o1 * u2) := Int.mul_assoc _ _ _
    have r3 : b * o2 * u1 = b * (o2 * u1) := Int.mul_assoc _ _ _
    have r4 : a * o1 * u2 = a * (o1 * u2) := Int.mul_assoc _ _ _
    have r5 : a * o2 * u1 = a * (o2 * u1) := Int.mul_assoc _ _ _
    omega
  have pos : ∀ o u : Int, 0 ≤ o → o ≤ u → (0 ≤ a → 0 ≤ b → 0 ≤ fT a b o u) ∧ (a ≤ 0 → b ≤ 0 → fT a b o u ≤ 0) := by
    intro o u ho hu
    unfold fT
    constructor
    · intro ha hb
      have := Int.mul_nonneg ha (show 0 ≤ u - o by omega)
      have := Int.mul_nonneg hb ho
      omega
    · intro ha hb
      have := Int.mul_nonpos_of_nonpos_of_nonneg ha (show 0 ≤ u - o by omega)
      have := Int.mul_nonpos_of_nonpos_of_nonneg hb ho
      omega
  obtain ⟨p1, n1⟩ := pos o1 u1 h1 h2
  obtain ⟨p2, n2⟩ := pos o2 u2 h3 h4
  have hD' : 0 < o2 * u1 - o1 * u2 := by omega
  rcases hc with ⟨c1, c2⟩ | ⟨c1, c2⟩
  · right
    have s1 : fT a b o1 u1 * u2 < 0 := Int.mul_neg_of_neg_of_pos c1 u2p
    have s2 : 0 < fT a b o2 u2 * u1 := Int.mul_pos c2 u1p
    have : a - b < 0 := by
      by_cases z : a - b < 0
      · exact z
      · have := Int.mul_nonneg (show 0 ≤ a - b by omega) (show 0 ≤ o2 * u1 - o1 * u2 by omega)
        omega
    by_cases ha : a < 0
    · by_cases hb : 0 < b
      · exact ⟨ha, hb, c1, c2⟩
      · have := n2 (by omega) (by omega)
        omega
    · have := p1 (by omega) (by omega)
      omega
  · left
    have s1 : 0 < fT a b o1 u1 * u2 := Int.mul_pos c1 u2p
    have s2 : fT a b o2 u2 * u1 < 0 := Int.mul_neg_of_neg_of_pos c2 u1p
    have : 0 < a - b := by
      by_cases z : 0 < a - b
      · exact z
      · have := Int.mul_nonpos_of_nonpos_of_nonneg (show a - b ≤ 0 by omega) (show 0 ≤ o2 * u1 - o1 * u2 by omega)
        omega
    by_cases ha : 0 < a
    · by_cases hb : b < 0
      · exact ⟨hb, ha, c1, c2⟩
      · have := p2 (by omega) (by omega)
        omega
    · have := n1 (by omega) (by omega)
      omega
/-- the place of the cut lies between -/
theorem cut_in {a b o1 u1 o2 u2 : Int} (h : (b < 0 ∧ 0 < a ∧ 0 < fT a b o1 u1 ∧ fT a b o2 u2 < 0) ∨ (a < 0 ∧ 0 < b ∧ fT a b o1 u1 < 0 ∧ 0 < fT a b o2 u2)) : 0 < (a.natAbs : Int) ∧ (a.natAbs : Int) < ((a - b).natAbs : Int) ∧ o1 * ((a - b).natAbs : Int) < (a.natAbs : Int) * u1 ∧ (a.natAbs : Int) * u2 < o2 * ((a - b).natAbs : Int) ∧ fT a b (a.natAbs : Int) ((a - b).natAbs : Int) = 0 := by
  have e : ∀ o u : Int, fT a b o u = a * u - (a - b) * o := by
    intro o u
    unfold fT
    rw [Int.mul_sub, Int.sub_mul]
    omega
  rw [e, e] at h
  rw [e]
  rcases h with ⟨h1, h2, h3, h4⟩ | ⟨h1, h2, h3, h4⟩
  · have n1 : (a.natAbs : Int) = a := by omega
    have n2 : ((a - b).natAbs : Int) = a - b := by omega
    rw [n1, n2]
    refine ⟨h2, by omega, ?_, ?_, ?_⟩
    · rw [Int.mul_comm o1]; omega
    · rw [Int.mul_comm o2]; omega
    · rw [Int.mul_comm (a - b) a]; omega
  · have n1 : (a.natAbs : Int) = -a := by omega
    have n2 : ((a - b).natAbs : Int) = -(a - b) := by omega
    rw [n1, n2]
    refine ⟨by omega, by omega, ?_, ?_, ?_⟩
    · rw [Int.mul_comm o1, Int.neg_mul, Int.neg_mul]; omega
    · rw [Int.mul_comm o2, Int.neg_mul, Int.neg_mul]; omega
    · rw [Int.mul_neg, Int.mul_neg, Int.mul_comm (a - b) a]; omega
/-- linear between: what one part shows, the whole shows -/
theorem cut_lin {a b o1 u1 o u o2 u2 : Int} (hA : o1 * u < o * u1) (hB : o * u2 < o2 * u) (hD : o1 * u2 < o2 * u1) : ((fT a b o1 u1 < 0 ∧ 0 < fT a b o u → 0 < fT a b o2 u2) ∧ (0 < fT a b o1 u1 ∧ fT a b o u < 0 → fT a b o2 u2 < 0)) ∧ ((fT a b o u < 0 ∧ 0 < fT a b o2 u2 → fT a b o1 u1 < 0) ∧ (0 < fT a b o u ∧ fT a b o2 u2 < 0 → 0 < fT a b o1 u1)) := by
  have key : (o2 * u1 - o1 * u2) * fT a b o u = (o2 * u - o * u2) * fT a b o1 u1 + (o * u1 - o1 * u) * fT a b o2 u2 := by
    unfold fT
    simp only [Int.sub_mul, Int.mul_sub, Int.mul_add, Int.add_mul]
    have c : ∀ x y z w : Int, x * y * (z * w) = z * (x * y * w) := by
      intro x y z w
      rw [Int.mul_left_comm]
    simp only [c]
    have q1 : o2 * u1 * u = o2 * u * u1 := by rw [Int.mul_assoc, Int.mul_comm u1 u, ← Int.mul_assoc]
    have q2 : o1 * u2 * u = o1 * u * u2 := by rw [Int.mul_assoc, Int.mul_comm u2 u, ← Int.mul_assoc]
    have q3 : o * u2 * u1 = o * u1 * u2 := by rw [Int.mul_assoc, Int.mul_comm u2 u1, ← Int.mul_assoc]
    have q4 : o2 * u1 * o = o * u1 * o2 := by rw [Int.mul_assoc, Int.mul_comm, Int.mul_comm u1 o]
    have q5 : o1 * u2 * o = o * u2 * o1 := by rw [Int.mul_assoc, Int.mul_comm, Int.mul_comm u2 o]
    have q6 : o2 * u * o1 = o1 * u * o2 := by rw [Int.mul_assoc, Int.mul_comm, Int.mul_comm u o1]
    rw [q1, q2, q3, q4, q5, q6]
    omega
  generalize fT a b o1 u1 = F1 at *
  generalize fT a b o u = F at *
  generalize fT a b o2 u2 = F2 at *
  have pA : 0 < o * u1 - o1 * u := by omega
  have pB : 0 < o2 * u - o * u2 := by omega
  have pD : 0 < o2 * u1 - o1 * u2 := by omega
  generalize o * u1 - o1 * u = A at *
  generalize o2 * u - o * u2 = C at *
  generalize o2 * u1 - o1 * u2 = E at *
  refine ⟨⟨?_, ?_⟩, ?_, ?_⟩
  · rintro ⟨h1, h2⟩
    have m1 := Int.mul_pos pD h2
    have m2 := Int.mul_neg_of_pos_of_neg pB h1
    by_cases z : 0 < F2
    · exact z
    · have := Int.mul_nonpos_of_nonneg_of_nonpos (show 0 ≤ A by omega) (show F2 ≤ 0 by omega)
      omega
  · rintro ⟨h1, h2⟩
    have m1 := Int.mul_neg_of_pos_of_neg pD h2
    have m2 := Int.mul_pos pB h1
    by_cases z : F2 < 0
    · exact z
    · have := Int.mul_nonneg (show 0 ≤ A by omega) (show 0 ≤ F2 by omega)
      omega
  · rintro ⟨h1, h2⟩
    have m1 := Int.mul_neg_of_pos_of_neg pD h1
    have m2 := Int.mul_pos pA h2
    by_cases z : F1 < 0
    · exact z
    · have := Int.mul_nonneg (show 0 ≤ C by omega) (show 0 ≤ F1 by omega)
      omega
  · rintro ⟨h1, h2⟩
    have m1 := Int.mul_pos pD h1
    have m2 := Int.mul_neg_of_pos_of_neg pA h2
    by_cases z : 0 < F1
    · exact z
    · have := Int.mul_nonpos_of_nonneg_of_nonpos (show 0 ≤ C by omega) (show F1 ≤ 0 by omega)
      omega
