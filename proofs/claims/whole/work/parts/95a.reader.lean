-- READING: a place, or a fault and its place
abbrev PE : Type := Except (Nat × Nat) Nat
def pbd (x : PE) (f : Nat → PE) : PE := match x with
  | .ok p => f p
  | .error e => .error e
theorem pbd_ok {x : PE} {f : Nat → PE} {q : Nat} (h : pbd x f = .ok q) : ∃ p, x = .ok p ∧ f p = .ok q := by
  cases x with
  | ok p => exact ⟨p, rfl, h⟩
  | error e => cases h
theorem pbd_assoc (x : PE) (f h : Nat → PE) : pbd (pbd x f) h = pbd x (fun p => pbd (f p) h) := by
  cases x <;> rfl
theorem pbd_id (x : PE) : pbd x .ok = x := by cases x <;> rfl
def pWell (st : PE) : Int32 := match st with
  | .ok _ => 1
  | .error _ => 0
theorem pWell_err {e : Nat × Nat} : pWell (.error e) = 0 := rfl
theorem pWell_ok {q : Nat} : ¬ pWell (.ok q) = 0 := by
  show ¬ (1 : Int32) = 0
  decide
def pOne (n p : Nat) : PE := if p < n then .ok (p + 1) else .error (1, n)
def pIn (g : Nat → Nat) (n : Nat) (lo hi : Int) (p : Nat) : PE := if p < n then (if (g p : Int) < lo ∨ hi < g p then .error (3, p) else .ok (p + 1)) else .error (1, n)
def pOr (g : Nat → Nat) (n c p : Nat) : PE := if p < n then (if c ≤ g p ∧ g p ≠ 255 then .error (3, p) else .ok (p + 1)) else .error (1, n)
def pEq (g : Nat → Nat) (n due f p : Nat) : PE := if p < n then (if g p = due then .ok (p + 1) else .error (f, p)) else .error (1, n)
/-- a pair's value -/
def sg16 (a : Int) : Int := (a + 32768) % 65536 - 32768
def pr (g : Nat → Nat) (at_ : Nat) : Int := sg16 (256 * g at_ + g (at_ + 1))
def pTwo (n p : Nat) : PE := pbd (pOne n p) (pOne n)
def pTwoIn (g : Nat → Nat) (n : Nat) (lo hi : Int) (p : Nat) : PE := pbd (pTwo n p) (fun q => if pr g (q - 2) < lo ∨ hi < pr g (q - 2) then .error (3, q - 2) else .ok q)
theorem pOne_ok {n p q : Nat} (h : pOne n p = .ok q) : p < n ∧ q = p + 1 := by
  unfold pOne at h
  by_cases c : p < n
  · rw [if_pos c] at h; cases h; exact ⟨c, rfl⟩
  · rw [if_neg c] at h; cases h
theorem pIn_ok {g : Nat → Nat} {n p q : Nat} {lo hi : Int} (h : pIn g n lo hi p = .ok q) : p < n ∧ q = p + 1 ∧ lo ≤ g p ∧ (g p : Int) ≤ hi := by
  unfold pIn at h
  by_cases c : p < n
  · rw [if_pos c] at h
    by_cases d : (g p : Int) < lo ∨ hi < g p
    · rw [if_pos d] at h; cases h
    · rw [if_neg d] at h; cases h; exact ⟨c, rfl, by omega, by omega⟩
  · rw [if_neg c] at h; cases h
theorem pOr_ok {g : Nat → Nat} {n c p q : Nat} (h : pOr g n c p = .ok q) : p < n ∧ q = p + 1 ∧ (g p < c ∨ g p = 255) := by
  unfold pOr at h
  by_cases a : p < n
  · rw [if_pos a] at h
    by_cases d : c ≤ g p ∧ g p ≠ 255
    · rw [if_pos d] at h; cases h
    · rw [if_neg d] at h; cases h; exact ⟨a, rfl, by omega⟩
  · rw [if_neg a] at h; cases h
theorem pEq_ok {g : Nat → Nat} {n due f p q : Nat} (h : pEq g n due f p = .ok q) : p < n ∧ q = p + 1 ∧ g p = due := by
  unfold pEq at h
  by_cases a : p < n
  · rw [if_pos a] at h
    by_cases d : g p = due
    · rw [if_pos d] at h; cases h; exact ⟨a, rfl, d⟩
    · rw [if_neg d] at h; cases h
  · rw [if_neg a] at h; cases h
theorem pTwo_ok {n p q : Nat} (h : pTwo n p = .ok q) : p + 1 < n ∧ q = p + 2 := by
  obtain ⟨r, h1, h2⟩ := pbd_ok h
  obtain ⟨a1, a2⟩ := pOne_ok h1
  obtain ⟨b1, b2⟩ := pOne_ok h2
  omega
theorem pTwoIn_ok {g : Nat → Nat} {n p q : Nat} {lo hi : Int} (h : pTwoIn g n lo hi p = .ok q) : p + 1 < n ∧ q = p + 2 ∧ lo ≤ pr g p ∧ pr g p ≤ hi := by
  obtain ⟨r, h1, h2⟩ := pbd_ok h
  obtain ⟨a1, a2⟩ := pTwo_ok h1
  subst a2
  rw [show p + 2 - 2 = p by omega] at h2
  by_cases d : pr g p < lo ∨ hi < pr g p
  · rw [if_pos d] at h2; cases h2
  · rw [if_neg d] at h2; cases h2; exact ⟨a1, rfl, by omega, by omega⟩
/-- only at some addresses numbers were changed -/
def onl (W : Nat → Prop) (s s1 : vt_S) : Prop := vt_z s1 = vt_z s ∧ vt_l s1 = vt_l s ∧ vt_J s1 = vt_J s ∧ vt_P s1 = vt_P s ∧ vt_E s1 = vt_E s ∧ vt_L s1 = vt_L s ∧ vt_B s1 = vt_B s ∧ ∀ a, ¬ W a → ∀ f, vt_I s1 f a = vt_I s f a ∧ vt_A s1 f a = vt_A s f a
section ONL
variable {W : Nat → Prop} {s s1 s2 : vt_S}
theorem onl.refl : onl W s s := ⟨rfl, rfl, rfl, rfl, rfl, rfl, rfl, fun _ _ _ => ⟨rfl, rfl⟩⟩
theorem onl.trans (h : onl W s s1) (k : onl W s1 s2) : onl W s s2 := by
  obtain ⟨h1, h2, h3, h4, h5, h6, h7, h8⟩ := h
  obtain ⟨k1, k2, k3, k4, k5, k6, k7, k8⟩ := k
  exact ⟨k1.trans h1, k2.trans h2, k3.trans h3, k4.trans h4, k5.trans h5, k6.trans h6, k7.trans h7, fun a ha f => ⟨(k8 a ha f).1.trans (h8 a ha f).1, (k8 a ha f).2.trans (h8 a ha f).2⟩⟩
theorem onl.mono {V : Nat → Prop} (h : onl W s s1) (hv : ∀ a, W a → V a) : onl V s s1 := by
  obtain ⟨h1, h2, h3, h4, h5, h6, h7, h8⟩ := h
  exact ⟨h1, h2, h3, h4, h5, h6, h7, fun a ha f => h8 a (fun z => ha (hv a z)) f⟩
theorem onl.putI {f a : Nat} {v : Int32} (h : onl W s s1) (ha : W a) : onl W s (vu_I s1 f a v) :=
  h.trans ⟨rfl, rfl, rfl, rfl, rfl, rfl, rfl, fun b hb g => ⟨I_ne (fun z => hb (by rw [z.2]; exact ha)), rfl⟩⟩
theorem onl.putA {f a i : Nat} {v : Int32} (h : onl W s s1) (ha : W a) : onl W s (vu_A s1 f a i v) :=
  h.trans ⟨rfl, rfl, rfl, rfl, rfl, rfl, rfl, fun b hb g => ⟨rfl, A_ne (fun z => hb (by rw [z.2]; exact ha))⟩⟩
theorem onl.pI {b f : Nat} {v : Int32} (h : onl (· = b) s s1) : onl (· = b) s (vu_I s1 f b v) := h.putI rfl
theorem onl.I (h : onl W s s1) {f a : Nat} (ha : ¬ W a) : vt_I s1 f a = vt_I s f a := (h.2.2.2.2.2.2.2 a ha f).1
theorem onl.A (h : onl W s s1) {f a : Nat} (ha : ¬ W a) : vt_A s1 f a = vt_A s f a := (h.2.2.2.2.2.2.2 a ha f).2
theorem onl.P (h : onl W s s1) : vt_P s1 = vt_P s := h.2.2.2.1
theorem onl.E (h : onl W s s1) : vt_E s1 = vt_E s := h.2.2.2.2.1
theorem onl.L (h : onl W s s1) : vt_L s1 = vt_L s := h.2.2.2.2.2.1
theorem onl.row {a n : Nat} {g : Nat → Nat} (h : onl W s s1) (ha : ¬ W a) (k : rowC s a g n) : rowC s1 a g n := by
  unfold rowC
  rw [h.I ha, h.A ha, h.L]
  exact k
end ONL
/-- the class's reader -/
def RdS (B : Nat) (g : Nat → Nat) (n : Nat) (st : PE) (s : vt_S) : Prop := vt_P s 500 (B + 5) = B + 1 ∧ rowC s (B + 1) g n ∧ match st with
  | .ok p => vt_I s 502 (B + 5) = 0 ∧ vt_I s 503 (B + 5) = -1 ∧ vt_I s 501 (B + 5) = nI p ∧ p ≤ n
  | .error e => vt_I s 502 (B + 5) = nI e.1 ∧ e.1 ≠ 0 ∧ e.1 < 100 ∧ vt_I s 503 (B + 5) = nI e.2 ∧ ∃ p, vt_I s 501 (B + 5) = nI p ∧ p ≤ n
theorem RdS.keep {B : Nat} {g : Nat → Nat} {n : Nat} {st : PE} {s s1 : vt_S} {W : Nat → Prop} (h : RdS B g n st s) (k : onl W s s1) (h1 : ¬ W (B + 1)) (h5 : ¬ W (B + 5)) : RdS B g n st s1 := by
  obtain ⟨a1, a2, a3⟩ := h
  refine ⟨by rw [k.P]; exact a1, k.row h1 a2, ?_⟩
  rw [k.I h5, k.I h5, k.I h5]
  exact a3
theorem e_ne0 {f : Nat} (h0 : f ≠ 0) (h : f < 100) : ¬ nI f = 0 := by
  rw [show (0 : Int32) = nI 0 from rfl, nI_eq (by omega) (by omega)]; exact h0
section RD
variable {B : Nat} {g : Nat → Nat} {n : Nat} {st : PE} {s : vt_S}
theorem RdS.n8 (h : RdS B g n st s) : n ≤ 8192 := h.2.1.len.2
theorem rd_well (h : RdS B g n st s) : ab_X4_well (B + 5) s = some (pWell st, s) := by
  cases st with
  | ok p =>
    obtain ⟨h1, h2, h3, h4, h5, h6⟩ := h
    simp only [ab_X4_well, sv_let, h3, if_true, ab_X4_well_12, vt_rz]
    rfl
  | error e =>
    obtain ⟨h1, h2, h3, h4, h5, h6⟩ := h
    simp only [ab_X4_well, sv_let, h3, if_neg (e_ne0 h4 h5), ab_X4_well_12, vt_rz]
    rfl
theorem rd_blame (h : RdS B g n st s) (f pl : Nat) (h0 : f ≠ 0) (h1 : f < 100) : ∃ s1, ab_X4_blame (B + 5) (nI f) (nI pl) s = some ((), s1) ∧ RdS B g n (pbd st (fun _ => .error (f, pl))) s1 ∧ onl (· = B + 5) s s1 := by
  cases st with
  | ok p =>
    obtain ⟨h2, h3, h4, h5, h6, h7⟩ := h
    simp only [ab_X4_blame, sv_let, h4, if_true, ab_X4_blame_17]
    have o : onl (· = B + 5) s (vu_I (vu_I s 502 (B + 5) (nI f)) 503 (B + 5) (nI pl)) := (onl.refl (s := s)).pI.pI
    refine ⟨_, rfl, ⟨h2, o.row (by omega) h3, ?_, h0, h1, I_at, p, ?_, h7⟩, o⟩
    · rw [I_ne (by omega), I_at]
    · rw [I_ne (by omega), I_ne (by omega)]; exact h6
  | error e =>
    obtain ⟨h2, h3, h4, h5, h6, h7⟩ := h
    refine ⟨s, ?_, ⟨h2, h3, h4, h5, h6, h7⟩, onl.refl⟩
    simp only [ab_X4_blame, sv_let, h4, if_neg (e_ne0 h5 h6), ab_X4_blame_17]
theorem rd_one (h : RdS B g n st s) : ∃ r s1, ab_X4_one (B + 5) s = some (nI r, s1) ∧ RdS B g n (pbd st (pOne n)) s1 ∧ onl (· = B + 5) s s1 ∧ r < 256 ∧ (∀ q, pbd st (pOne n) = .ok q → r = g (q - 1)) ∧ (∀ e, pbd st (pOne n) = .error e → r = 0) := by
  cases st with
  | ok p =>
    have hn := h.n8
    obtain ⟨h2, h3, h4, h5, h6, h7⟩ := id h
    have hl := h3.len
    obtain ⟨g1, g2, g3, g4⟩ := id h3
    by_cases c : p < n
    · have e : pbd (.ok p) (pOne n) = .ok (p + 1) := if_pos c
      have o : onl (· = B + 5) s (vu_I s 501 (B + 5) (nI (p + 1))) := (onl.refl (s := s)).pI
      refine ⟨g p, vu_I s 501 (B + 5) (nI (p + 1)), ?_, ?_, o, (g4 p c).2, fun q hq => ?_, fun x hx => ?_⟩
      · simp only [ab_X4_one, sv_let, h4, if_true, h2, h6, g1]
        rw [if_pos (nI_lt c (by omega)), vl_I_ok (by omega) (by omega), Option.bind_some, (g4 p c).1, nI_1]
      · rw [e]
        exact ⟨h2, o.row (by omega) h3, by rw [I_ne (by omega)]; exact h4, by rw [I_ne (by omega)]; exact h5, I_at, by omega⟩
      · rw [e] at hq; cases hq; rfl
      · rw [e] at hx; cases hx
    · have e : pbd (.ok p) (pOne n) = .error (1, n) := if_neg c
      obtain ⟨s1, b1, b2, b3⟩ := rd_blame h 1 n (by decide) (by decide)
      refine ⟨0, s1, ?_, by rw [e]; exact b2, b3, by decide, fun q hq => ?_, fun x hx => rfl⟩
      · simp only [ab_X4_one, sv_let, h4, if_true, h2, h6, g1]
        rw [if_neg (Int32.not_lt.mpr (nI_le (show n ≤ p by omega) (by omega))), show (1 : Int32) = nI 1 from rfl, b1]
        rfl
      · rw [e] at hq; cases hq
  | error e =>
    obtain ⟨h2, h3, h4, h5, h6, h7⟩ := id h
    refine ⟨0, s, ?_, h, onl.refl, by decide, fun q hq => (by cases hq), fun x hx => rfl⟩
    simp only [ab_X4_one, sv_let, h4, if_neg (e_ne0 h5 h6)]
    rfl
end RD
