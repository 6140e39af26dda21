theorem sg16_rng (a : Int) : -32768 ≤ sg16 a ∧ sg16 a ≤ 32767 := by unfold sg16; omega
theorem bmod_sg16 (a : Int) : Int.bmod a 65536 = sg16 a := by
  unfold sg16 Int.bmod
  show (if a % 65536 < (65536 + 1) / 2 then a % 65536 else a % 65536 - 65536) = _
  split <;> omega
theorem zI_short (a : Int) : (zI a).toInt16.toInt32 = zI (sg16 a) := by
  show (Int32.ofInt a).toInt16.toInt32 = _
  rw [Int32.toInt16_ofInt, ← Int32.toInt_inj, Int16.toInt_toInt32, Int16.toInt_ofInt, zI_toInt (by have := sg16_rng a; omega) (by have := sg16_rng a; omega)]
  exact bmod_sg16 a
theorem pr_rng (g : Nat → Nat) (p : Nat) : -32768 ≤ pr g p ∧ pr g p ≤ 32767 := sg16_rng _
section RD2
variable {B : Nat} {g : Nat → Nat} {n : Nat} {st : PE} {s : vt_S}
theorem rd_next (h : RdS B g n st s) : ∃ p, vt_I s 501 (B + 5) = nI p ∧ p ≤ n ∧ ∀ q, st = .ok q → p = q := by
  cases st with
  | ok p => exact ⟨p, h.2.2.2.2.1, h.2.2.2.2.2, fun q hq => by cases hq; rfl⟩
  | error e => obtain ⟨p, h1, h2⟩ := h.2.2.2.2.2.2; exact ⟨p, h1, h2, fun q hq => by cases hq⟩
/-- the value read, or another one behind a fault -/
def vOf (st : PE) (v : Nat → Int) (els : Int) : Int := match st with
  | .ok q => v q
  | .error _ => els
theorem rd_pair (h : RdS B g n st s) : ∃ v s1, ab_X4_pair (B + 5) s = some (zI v, s1) ∧ RdS B g n (pbd st (pTwo n)) s1 ∧ onl (· = B + 5) s s1 ∧ -32768 ≤ v ∧ v ≤ 32767 ∧ (∀ q, pbd st (pTwo n) = .ok q → v = pr g (q - 2)) := by
  obtain ⟨r1, s1, a1, a2, a3, a4, a5, -⟩ := rd_one h
  obtain ⟨r2, s2, b1, b2, b3, b4, b5, -⟩ := rd_one a2
  refine ⟨sg16 (256 * r1 + r2), s2, ?_, ?_, a3.trans b3, (sg16_rng _).1, (sg16_rng _).2, fun q hq => ?_⟩
  · simp only [ab_X4_pair, a1, vt_bs, b1]
    rw [nI_z, nI_z, show (256 : Int32) = zI 256 from rfl, zI_mul, zI_add, zI_short]
  · rw [pbd_assoc] at b2; exact b2
  · have e : pbd (pbd st (pOne n)) (pOne n) = .ok q := by rw [pbd_assoc]; exact hq
    obtain ⟨p, e1, e2⟩ := pbd_ok e
    obtain ⟨f1, f2⟩ := pOne_ok e2
    rw [a5 p e1, b5 q e]
    obtain ⟨p0, -, f3⟩ := pbd_ok e1
    obtain ⟨f4, f5⟩ := pOne_ok f3
    unfold pr
    rw [show q - 2 + 1 = q - 1 by omega, show q - 2 = p - 1 by omega]
theorem rd_bounded (h : RdS B g n st s) (v lo hi : Int) (at_ : Nat) (v1 : -100000 ≤ v) (v2 : v ≤ 100000) (l1 : -100000 ≤ lo) (l2 : lo ≤ 100000) (h1 : -100000 ≤ hi) (h2 : hi ≤ 100000) :
    ∃ s1, ab_X4_bounded (B + 5) (zI v) (zI lo) (zI hi) (nI at_) s = some (zI (vOf (pbd st (fun q => if v < lo ∨ hi < v then .error (3, at_) else .ok q)) (fun _ => v) lo), s1) ∧ RdS B g n (pbd st (fun q => if v < lo ∨ hi < v then .error (3, at_) else .ok q)) s1 ∧ onl (· = B + 5) s s1 := by
  have e17 : ∀ (st : PE) (s : vt_S), RdS B g n st s → ab_X4_bounded_17 (B + 5) (zI v) (zI lo) s = some (zI (vOf st (fun _ => v) lo), s) := by
    intro st s h
    cases st with
    | ok p => simp only [ab_X4_bounded_17, sv_let, h.2.2.1, if_true, ab_X4_bounded_29]; rfl
    | error e => simp only [ab_X4_bounded_17, sv_let, h.2.2.1, if_neg (e_ne0 h.2.2.2.1 h.2.2.2.2.1), ab_X4_bounded_29]; rfl
  by_cases c : v < lo ∨ hi < v
  · obtain ⟨s1, b1, b2, b3⟩ := rd_blame h 3 at_ (by decide) (by decide)
    have e : (pbd st fun q => if v < lo ∨ hi < v then .error (3, at_) else .ok q) = pbd st (fun _ => .error (3, at_)) := by
      cases st
      · rfl
      · exact if_pos c
    rw [e]
    refine ⟨s1, ?_, b2, b3⟩
    have e10 : ab_X4_bounded_10 (B + 5) (zI v) (zI lo) (nI at_) s = some (zI (vOf (pbd st (fun _ => .error (3, at_))) (fun _ => v) lo), s1) := by
      simp only [ab_X4_bounded_10]
      rw [show (3 : Int32) = nI 3 from rfl, b1, vt_bs]
      exact e17 _ _ b2
    unfold ab_X4_bounded
    simp (disch := omega) only [zI_lt, zI_le]
    by_cases d : v < lo
    · rw [if_pos d]; exact e10
    · rw [if_neg d, if_neg (by omega)]; exact e10
  · have e : (pbd st fun q => if v < lo ∨ hi < v then .error (3, at_) else .ok q) = st := by
      cases st
      · rfl
      · exact if_neg c
    rw [e]
    refine ⟨s, ?_, h, onl.refl⟩
    unfold ab_X4_bounded
    simp (disch := omega) only [zI_lt, zI_le]
    rw [if_neg (by omega), if_pos (by omega)]
    exact e17 _ _ h
theorem rd_within (h : RdS B g n st s) (lo hi : Int) (l1 : -100000 ≤ lo) (l2 : lo ≤ 100000) (h1 : -100000 ≤ hi) (h2 : hi ≤ 100000) :
    ∃ s1, ab_X4_within (B + 5) (zI lo) (zI hi) s = some (zI (vOf (pbd st (pIn g n lo hi)) (fun q => g (q - 1)) lo), s1) ∧ RdS B g n (pbd st (pIn g n lo hi)) s1 ∧ onl (· = B + 5) s s1 := by
  obtain ⟨p, p1, p2, p3⟩ := rd_next h
  obtain ⟨r, s1, a1, a2, a3, a4, a5, -⟩ := rd_one h
  obtain ⟨s2, b1, b2, b3⟩ := rd_bounded a2 r lo hi p (by omega) (by omega) l1 l2 h1 h2
  have e : (pbd (pbd st (pOne n)) fun q => if (r : Int) < lo ∨ hi < r then .error (3, p) else .ok q) = pbd st (pIn g n lo hi) := by
    cases st with
    | error e => rfl
    | ok q =>
      have := p3 q rfl
      subst this
      show pbd (pOne n p) _ = pIn g n lo hi p
      unfold pOne pIn
      by_cases c : p < n
      · have := a5 (p + 1) (if_pos c)
        rw [if_pos c, if_pos c, this]; rfl
      · rw [if_neg c, if_neg c]; rfl
  rw [e] at b1 b2
  refine ⟨s2, ?_, b2, a3.trans b3⟩
  simp only [ab_X4_within, sv_let, p1, a1, vt_bs]
  rw [nI_z r, b1, vt_bs]
  congr 3
  cases x : pbd st (pIn g n lo hi) with
  | error e => rfl
  | ok q =>
    show (r : Int) = g (q - 1)
    rw [← e] at x
    obtain ⟨q2, x1, x2⟩ := pbd_ok x
    rw [a5 q2 x1]
    by_cases c : (r : Int) < lo ∨ hi < r
    · rw [if_pos c] at x2; cases x2
    · rw [if_neg c] at x2; cases x2; rfl
theorem rd_pairWithin (h : RdS B g n st s) (lo hi : Int) (l1 : -100000 ≤ lo) (l2 : lo ≤ 100000) (h1 : -100000 ≤ hi) (h2 : hi ≤ 100000) :
    ∃ s1, ab_X4_pairWithin (B + 5) (zI lo) (zI hi) s = some (zI (vOf (pbd st (pTwoIn g n lo hi)) (fun q => pr g (q - 2)) lo), s1) ∧ RdS B g n (pbd st (pTwoIn g n lo hi)) s1 ∧ onl (· = B + 5) s s1 := by
  obtain ⟨p, p1, p2, p3⟩ := rd_next h
  obtain ⟨v, s1, a1, a2, a3, a4, a4', a5⟩ := rd_pair h
  obtain ⟨s2, b1, b2, b3⟩ := rd_bounded a2 v lo hi p (by omega) (by omega) l1 l2 h1 h2
  have e : (pbd (pbd st (pTwo n)) fun q => if v < lo ∨ hi < v then .error (3, p) else .ok q) = pbd st (pTwoIn g n lo hi) := by
    cases st with
    | error e => rfl
    | ok q =>
      have := p3 q rfl
      subst this
      show pbd (pTwo n p) _ = pTwoIn g n lo hi p
      unfold pTwoIn
      cases x : pTwo n p with
      | error e => simp only [pbd]
      | ok q =>
        obtain ⟨y1, y2⟩ := pTwo_ok x
        show (if _ then _ else _) = if _ then _ else _
        rw [a5 q x, show q - 2 = p by omega]
  rw [e] at b1 b2
  refine ⟨s2, ?_, b2, a3.trans b3⟩
  simp only [ab_X4_pairWithin, sv_let, p1, a1, vt_bs]
  rw [b1, vt_bs]
  refine congrArg (fun z => some (zI z, s2)) ?_
  cases x : pbd st (pTwoIn g n lo hi) with
  | error e => simp only [vOf]
  | ok q =>
    show v = pr g (q - 2)
    rw [← e] at x
    obtain ⟨q2, x1, x2⟩ := pbd_ok x
    rw [a5 q2 x1]
    by_cases c : v < lo ∨ hi < v
    · rw [if_pos c] at x2; cases x2
    · rw [if_neg c] at x2; cases x2; rfl
/-- 255 is none -/
def n255 (b : Nat) : Int := if b = 255 then -1 else b
theorem rd_or (h : RdS B g n st s) (c : Nat) (hc : c ≤ 255) :
    ∃ s1, ab_X4_numberOrNone (B + 5) (nI c) s = some (zI (vOf (pbd st (pOr g n c)) (fun q => n255 (g (q - 1))) 0), s1) ∧ RdS B g n (pbd st (pOr g n c)) s1 ∧ onl (· = B + 5) s s1 := by
  obtain ⟨p, p1, p2, p3⟩ := rd_next h
  obtain ⟨r, s1, a1, a2, a3, a4, a5, a6⟩ := rd_one h
  by_cases c255 : r = 255
  · have e : pbd st (pOr g n c) = pbd st (pOne n) := by
      cases st with
      | error e => rfl
      | ok q =>
        show pOr g n c q = pOne n q
        unfold pOr pOne
        by_cases d : q < n
        · have := a5 (q + 1) (if_pos d)
          rw [if_pos d, if_pos d, if_neg (fun z => z.2 (by rw [← c255]; exact this.symm))]
        · rw [if_neg d, if_neg d]
    rw [e]
    refine ⟨s1, ?_, a2, a3⟩
    simp only [ab_X4_numberOrNone, sv_let, p1, a1, vt_bs]
    rw [if_pos (by rw [c255]; rfl)]
    cases x : pbd st (pOne n) with
    | error e => rw [a6 e x] at c255; cases c255
    | ok q =>
      show some (-1, s1) = some (zI (n255 (g (q - 1))), s1)
      rw [← a5 q x, c255]; rfl
  · obtain ⟨s2, b1, b2, b3⟩ := rd_bounded a2 r 0 ((c : Int) - 1) p (by omega) (by omega) (by omega) (by omega) (by omega) (by omega)
    have e : (pbd (pbd st (pOne n)) fun q => if (r : Int) < 0 ∨ (c : Int) - 1 < r then .error (3, p) else .ok q) = pbd st (pOr g n c) := by
      cases st with
      | error e => rfl
      | ok q =>
        have := p3 q rfl
        subst this
        show pbd (pOne n p) _ = pOr g n c p
        unfold pOne pOr
        by_cases d : p < n
        · have := a5 (p + 1) (if_pos d)
          rw [show p + 1 - 1 = p by omega] at this
          rw [if_pos d, if_pos d, ← this]
          show (if _ then _ else _) = if _ then _ else _
          by_cases f : c ≤ r
          · rw [if_pos (by omega), if_pos ⟨f, c255⟩]
          · rw [if_neg (by omega), if_neg (fun z => f z.1)]
        · rw [if_neg d, if_neg d]; rfl
    rw [e] at b1 b2
    refine ⟨s2, ?_, b2, a3.trans b3⟩
    simp only [ab_X4_numberOrNone, sv_let, p1, a1, vt_bs]
    rw [if_neg (by rw [show (255 : Int32) = nI 255 from rfl, nI_eq (by omega) (by omega)]; exact c255), nI_z r, nI_z c, show (1 : Int32) = zI 1 from rfl, show (0 : Int32) = zI 0 from rfl, zI_sub, b1, vt_bs]
    congr 3
    cases x : pbd st (pOr g n c) with
    | error e => rfl
    | ok q =>
      show (r : Int) = n255 (g (q - 1))
      rw [← e] at x
      obtain ⟨q2, x1, x2⟩ := pbd_ok x
      have : q = q2 := by
        by_cases c : (r : Int) < 0 ∨ (c : Int) - 1 < r
        · rw [if_pos c] at x2; cases x2
        · rw [if_neg c] at x2; cases x2; rfl
      rw [this, ← a5 q2 x1]
      unfold n255
      rw [if_neg c255]
theorem rd_expect (h : RdS B g n st s) (due f : Nat) (hd : due < 256) (h0 : f ≠ 0) (h1 : f < 100) :
    ∃ s1, ab_X4_expect (B + 5) (nI due) (nI f) s = some ((), s1) ∧ RdS B g n (pbd st (pEq g n due f)) s1 ∧ onl (· = B + 5) s s1 := by
  obtain ⟨p, p1, p2, p3⟩ := rd_next h
  obtain ⟨r, s1, a1, a2, a3, a4, a5, a6⟩ := rd_one h
  by_cases c : r = due
  · have e : pbd st (pEq g n due f) = pbd st (pOne n) := by
      cases st with
      | error e => rfl
      | ok q =>
        show pEq g n due f q = pOne n q
        unfold pEq pOne
        by_cases d : q < n
        · have := a5 (q + 1) (if_pos d)
          rw [if_pos d, if_pos d, if_pos (by rw [← c]; exact this.symm)]
        · rw [if_neg d, if_neg d]
    rw [e]
    refine ⟨s1, ?_, a2, a3⟩
    simp only [ab_X4_expect, sv_let, p1, a1, vt_bs]
    rw [if_pos (by rw [c]), ab_X4_expect_19]
  · obtain ⟨s2, b1, b2, b3⟩ := rd_blame a2 f p h0 h1
    have e : (pbd (pbd st (pOne n)) fun _ => .error (f, p)) = pbd st (pEq g n due f) := by
      cases st with
      | error e => rfl
      | ok q =>
        have := p3 q rfl
        subst this
        show pbd (pOne n p) _ = pEq g n due f p
        unfold pOne pEq
        by_cases d : p < n
        · have := a5 (p + 1) (if_pos d)
          rw [show p + 1 - 1 = p by omega] at this
          rw [if_pos d, if_pos d, ← this, if_neg c]; rfl
        · rw [if_neg d, if_neg d]; rfl
    rw [e] at b2
    refine ⟨s2, ?_, b2, a3.trans b3⟩
    simp only [ab_X4_expect, sv_let, p1, a1, vt_bs]
    rw [if_neg (by rw [nI_eq (by omega) (by omega)]; exact c), b1, vt_bs, ab_X4_expect_19]
theorem rd_end (h : RdS B g n st s) (f : Nat) (h0 : f ≠ 0) (h1 : f < 100) :
    ∃ s1, ab_X4_expectEnd (B + 5) (nI f) s = some ((), s1) ∧ RdS B g n (pbd st (fun p => if p < n then .error (f, p) else .ok p)) s1 ∧ onl (· = B + 5) s s1 := by
  obtain ⟨p, p1, p2, p3⟩ := rd_next h
  have n8 := h.n8
  simp only [ab_X4_expectEnd, sv_let, p1, h.1, h.2.1.1, ab_X4_expectEnd_23]
  by_cases c : p < n
  · rw [if_neg (nI_ge c (by omega))]
    obtain ⟨s2, b1, b2, b3⟩ := rd_blame h f p h0 h1
    rw [b1, vt_bs]
    refine ⟨s2, rfl, ?_, b3⟩
    cases st with
    | error e => exact b2
    | ok q =>
      have := p3 q rfl
      subst this
      show RdS B g n (if p < n then _ else _) s2
      rw [if_pos c]; exact b2
  · rw [if_pos (nI_le (by omega) (by omega))]
    refine ⟨s, rfl, ?_, onl.refl⟩
    cases st with
    | error e => exact h
    | ok q =>
      have := p3 q rfl
      subst this
      show RdS B g n (if p < n then _ else _) s
      rw [if_neg c]; exact h
end RD2
