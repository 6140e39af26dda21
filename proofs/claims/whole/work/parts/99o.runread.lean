-- A RUN is read, class and reference
def inF0 : Nat → IN := fun _ => (0, 0, 0, false)
def pMag (g : Nat → Nat) (n : Nat) : PE := pbd (pbd (pbd (.ok 0) (pEq g n 77 2)) (pEq g n 68 2)) (pEq g n 1 2)
def pHed (g : Nat → Nat) (n : Nat) : PE := pStartC g n 256 (pMag g n)
def pRun (g : Nat → Nat) (n : Nat) : PE := pEnd g n (pbd (pHed g n) (fun q => (pGs g n 1025 inF0 0 0 q).1))
def rdI (g : Nat → Nat) (n : Nat) : Nat → IN := (pGs g n 1025 inF0 0 0 9).2.1
def rdM (g : Nat → Nat) (n : Nat) : Nat := (pGs g n 1025 inF0 0 0 9).2.2
def rdS (g : Nat → Nat) : WS := (pr g 3, pr g 5, g 7, g 8)
section RR
variable {B n R : Nat} {g : Nat → Nat}
theorem pMag_ok {q : Nat} (h : pMag g n = .ok q) : q = 3 := by
  obtain ⟨a, h1, e1⟩ := pbd_ok h
  obtain ⟨b, h2, e2⟩ := pbd_ok h1
  have e3 : pEq g n 77 2 0 = .ok b := h2
  obtain ⟨-, y1, -⟩ := pEq_ok e1
  obtain ⟨-, y2, -⟩ := pEq_ok e2
  obtain ⟨-, y3, -⟩ := pEq_ok e3
  omega
theorem pHed_ok {q : Nat} (h : pHed g n = .ok q) : q = 9 ∧ 9 ≤ n ∧ g 7 ≤ 63 ∧ g 8 < 256 ∧ pMag g n = .ok 3 := by
  have h' := h
  unfold pHed at h
  cases hm : pMag g n with
  | error e => rw [hm] at h; cases h
  | ok r =>
    have := pMag_ok hm
    subst this
    rw [hm] at h
    obtain ⟨a1, a2, a3, a4⟩ := pStart_ok h
    exact ⟨a1, by omega, a3, a4, rfl⟩
theorem pEnd_ok {st : PE} {q : Nat} (h : pEnd g n st = .ok q) : ∃ r, st = .ok r := by
  obtain ⟨a, h1, -⟩ := pbd_ok h
  obtain ⟨b, h2, -⟩ := pbd_ok h1
  exact ⟨b, h2⟩
theorem pRun_ok {q : Nat} (h : pRun g n = .ok q) : pHed g n = .ok 9 ∧ ∃ r, (pGs g n 1025 inF0 0 0 9).1 = .ok r := by
  obtain ⟨r, h1⟩ := pEnd_ok h
  obtain ⟨a, h2, h3⟩ := pbd_ok h1
  have := (pHed_ok h2).1
  subst this
  exact ⟨h2, r, h3⟩
def grm (R : Nat) (s s1 : vt_S) : Prop := vt_z s1 + vt_L s 601 R ≤ vt_z s + vt_L s1 601 R ∧ vt_l s1 + 2 * vt_L s 601 R ≤ vt_l s + 2 * vt_L s1 601 R ∧ vt_L s 601 R ≤ vt_L s1 601 R
def rdW (B R a : Nat) : Prop := a = R ∨ a = B + 5 ∨ a = R + 1
theorem c_runRead {s : vt_S} (hR : R ≠ B + 5) (hR1 : R + 1 ≠ B + 5) (hR2 : R + 1 ≠ B + 1) (hR3 : R ≠ B + 1) (hP : vt_P s 600 R = R + 1) (h : RdS B g n (.ok 0) s) (hr : ∃ I m, runC s R I m) : ∃ s1, ab_X5_read R (B + 5) s = some ((), s1) ∧ RdS B g n (pRun g n) s1 ∧ ong (rdW B R) s s1 ∧ grm R s s1 ∧ (∀ q, pRun g n = .ok q → startF s1 (R + 1) g 3 ∧ runC s1 R (rdI g n) (rdM g n)) ∧ ∃ G m, runC s1 R G m := by
  obtain ⟨s1, a1, a2, a3⟩ := rd_expect h 77 2 (by decide) (by decide) (by decide)
  obtain ⟨s2, b1, b2, b3⟩ := rd_expect a2 68 2 (by decide) (by decide) (by decide)
  obtain ⟨s3, c1, c2, c3⟩ := rd_expect b2 1 2 (by decide) (by decide) (by decide)
  have c2 : RdS B g n (pMag g n) s3 := c2
  have o3 : onl (· = B + 5) s s3 := (a3.trans b3).trans c3
  obtain ⟨s4, d1, d2, d3, d4⟩ := c_start (x := R + 1) (S := 256) hR1 hR2 (by decide) c2
  have d2 : RdS B g n (pHed g n) s4 := d2
  have o4 : onl (fun a => a = B + 5 ∨ a = R + 1) s s4 := (o3.mono (fun a z => Or.inl z)).trans d3
  obtain ⟨t, ht⟩ : ∃ t, t = vu_I s4 602 R 0 := ⟨_, rfl⟩
  have ot : onl (rdW B R) s t := by rw [ht]; exact (o4.mono (V := rdW B R) (fun a z => z.elim (fun y => Or.inr (Or.inl y)) (fun y => Or.inr (Or.inr y)))).putI (Or.inl rfl)
  have o4t : onl (· = R) s4 t := by rw [ht]; exact (onl.refl (s := s4)).pI
  have et : RdS B g n (pHed g n) t := d2.keep o4t (fun z => hR3 z.symm) (fun z => hR z.symm)
  have rt : runC t R inF0 0 := by
    obtain ⟨I, m, r1, r2, r3, ⟨r4, r4'⟩, r5⟩ := hr
    have eL : vt_L t = vt_L s := ot.L
    refine ⟨by rw [ht]; exact I_at, by omega, by omega, by rw [eL]; exact ⟨r4, r4'⟩, fun j hj => absurd hj (by omega)⟩
  have e0 : ab_X5_read R (B + 5) s = ab_X5_read_41 sv_fuel R (B + 5) (nI 63) (nI 0) t := by
    have p3 : vt_P s3 600 R = R + 1 := by rw [o3.P]; exact hP
    unfold ab_X5_read
    rw [show (77 : Int32) = nI 77 from rfl, show (68 : Int32) = nI 68 from rfl, show (2 : Int32) = nI 2 from rfl, show (1 : Int32) = nI 1 from rfl, a1, vbs, b1, vbs, c1, vbs, slet, p3, show (256 : Int32) = nI 256 from rfl, d1, vbs, slet, ← ht]
    rfl
  have key : ∃ s5, ab_X5_read_41 sv_fuel R (B + 5) (nI 63) (nI 0) t = ab_X5_read_65 R (B + 5) s5 ∧ RdS B g n (pbd (pHed g n) (fun q => (pGs g n 1025 inF0 0 0 q).1)) s5 ∧ (∀ q, pbd (pHed g n) (fun q => (pGs g n 1025 inF0 0 0 q).1) = .ok q → runC s5 R (rdI g n) (rdM g n)) ∧ (∃ G m, runC s5 R G m) ∧ grw B R t s5 := by
    cases hh : pHed g n with
    | error e =>
      rw [hh] at et
      obtain ⟨r, s5, f1, f2, f3, -, -, f6⟩ := rd_one et
      have er := f6 e rfl
      subst er
      refine ⟨s5, ?_, f2, fun q z => (by cases z), ⟨inF0, 0, rt.onl f3 hR⟩, onl.grw f3⟩
      obtain ⟨fu, hf⟩ : ∃ fu, sv_fuel = fu + 2 := ⟨sv_fuel - 2, by have : 5 < sv_fuel := fuel_ge (by omega); omega⟩
      rw [hf]
      show ab_X5_read_41b _ R (B + 5) (nI 63) (nI 0) t = _
      unfold ab_X5_read_41b
      have : ab_X5_readGroup R (B + 5) (nI 63) t = some (0, s5) := by
        unfold ab_X5_readGroup
        rw [slet, f1, vbs, if_pos (show nI 0 = 0 from rfl)]
      rw [if_neg (by decide), if_neg (by decide), this, vbs, nI_1]
      exact c_41z
    | ok q =>
      rw [hh] at et
      have := (pHed_ok hh).1
      subst this
      obtain ⟨s5, f1, f2, f3, f4, f5⟩ := c_gs (B := B) (n := n) (g := g) hR 1025 sv_fuel t inF0 0 63 9 0 (by omega) (fuel_ge (by omega)) (by omega) (by omega) (by omega) et rt
      rw [pGs_tp] at f2 f3
      exact ⟨s5, f1, f2, f3, f4, f5⟩
  obtain ⟨s5, f1, f2, f3, f4, f5⟩ := key
  obtain ⟨s6, g1, g2, g3⟩ := c_65 (R := R) f2
  have o6 : ong (rdW B R) s s6 := (ot.ong.trans (f5.2.2.2.mono (fun a z => z.elim Or.inl (fun y => Or.inr (Or.inl y))))).trans (g3.ong.mono (fun a z => Or.inr (Or.inl z)))
  refine ⟨s6, by rw [e0, f1, g1], g2, o6, ?_, fun q hq => ?_, ?_⟩
  · have e1 : vt_L t = vt_L s := ot.L
    have e2 : vt_L s6 = vt_L s5 := g3.L
    have := f5
    obtain ⟨x1, x2, x3, -⟩ := f5
    unfold grm
    rw [e2, g3.1, g3.2.1, ← e1, ← ot.1, ← ot.2.1]
    exact ⟨x1, x2, x3⟩
  · obtain ⟨h1, r, h2⟩ := pRun_ok hq
    refine ⟨?_, (f3 r (by rw [h1]; exact h2)).onl g3 hR⟩
    obtain ⟨-, -, -, -, hm⟩ := pHed_ok h1
    obtain ⟨y1, y2, y3, y4⟩ := d4 3 9 hm h1
    have n1 : ¬ (R + 1 = R ∨ R + 1 = B + 5) := by omega
    have n2 : ¬ (R + 1 = R) := by omega
    unfold startF
    rw [g3.I hR1, g3.I hR1, g3.I hR1, g3.I hR1, f5.2.2.2.I n1, f5.2.2.2.I n1, f5.2.2.2.I n1, f5.2.2.2.I n1, o4t.I n2, o4t.I n2, o4t.I n2, o4t.I n2]
    exact ⟨y1, y2, y3, y4⟩
  · obtain ⟨G, m, hG⟩ := f4
    exact ⟨G, m, hG.onl g3 hR⟩
end RR
