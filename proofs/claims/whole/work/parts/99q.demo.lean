-- loadDemo, the class
def fz (st : PE) : Int32 := match st with
  | .ok _ => 0
  | .error e => nI e.1
def pz (st : PE) : Int32 := match st with
  | .ok _ => -1
  | .error e => nI e.2
def pDemo (g : Nat → Nat) (n S : Nat) : PE := pbd (pRun g n) (fun q => if g 8 < S then .ok q else .error (8, 8))
section DC
variable {B n R R0 p nm mp : Nat} {g gm : Nat → Nat} {s : vt_S}
theorem RdS.fp {st : PE} (h : RdS B g n st s) : vt_I s 502 (B + 5) = fz st ∧ vt_I s 503 (B + 5) = pz st := by
  cases st with
  | ok p => exact ⟨h.2.2.1, h.2.2.2.1⟩
  | error e => exact ⟨h.2.2.1, h.2.2.2.2.2.1⟩
theorem c_rdBegin (hP : vt_P s 500 (B + 5) = B + 1) (hrow : rowC s (B + 1) g n) : ∃ s1, ab_X4_begin (B + 5) s = some ((), s1) ∧ RdS B g n (.ok 0) s1 ∧ onl (· = B + 5) s s1 := by
  have o : onl (· = B + 5) s (vu_I (vu_I (vu_I s 501 (B + 5) 0) 502 (B + 5) 0) 503 (B + 5) (-1)) := (onl.refl (s := s)).pI.pI.pI
  unfold ab_X4_begin
  rw [slet, slet, slet]
  refine ⟨_, rfl, ⟨hP, o.row (by omega) hrow, ?_, I_at, ?_, Nat.zero_le _⟩, o⟩
  · rw [I_ne (by omega), I_at]
  · rw [I_ne (by omega), I_ne (by omega), I_at]; rfl
theorem c_hasMap (hm : vt_I s 1310 B = nI mp) (hmp : mp < 1000) : ab_X12_hasMap B s = some (bI (decide (0 < mp)), s) := by
  unfold ab_X12_hasMap ab_X12_hasMap_12
  rw [slet, hm]
  by_cases c : 0 < mp
  · rw [if_neg (show ¬ nI mp ≤ 0 from nI_ge (a := 0) (b := mp) c (by omega)), decide_eq_true c]; rfl
  · rw [if_pos (show nI mp ≤ 0 by rw [show mp = 0 by omega]; decide), decide_eq_false c]; rfl
def runP (B : Nat) (s : vt_S) (R R0 : Nat) : Prop := vt_P s 1308 B = R0 ∧ vt_P s 1309 B = R ∧ ((R = B + 633 ∧ R0 = B + 636) ∨ (R = B + 636 ∧ R0 = B + 633))
def secN (mp : Nat) (gm : Nat → Nat) : Nat := if 0 < mp then gm 5 else 0
theorem startF.stC {R : Nat} (h : startF s (R + 1) g 3) : stC s (R + 1) (rdS g) := h
theorem c_demo1 (h2 : vt_P s 1302 B = B + 5) (h3 : vt_P s 1309 B = R) (hR : R = B + 633 ∨ R = B + 636) (hR6 : vt_P s 600 R = R + 1) (h5 : vt_P s 500 (B + 5) = B + 1) (hp : vt_P s 1306 B = p) (hpp : p = B + 23 ∨ p = B + 322) (hrow : rowC s (B + 1) g n) (hm : vt_I s 1310 B = nI mp) (hmp : mp < 1000) (hpl : 0 < mp → vt_I s 311 p = nI (gm 5) ∧ gm 5 < 256) (hr : ∃ I m, runC s R I m) : ∃ s1, ab_X12_loadDemo B s = ab_X12_loadDemo_56 B s1 ∧ RdS B g n (pDemo g n (secN mp gm)) s1 ∧ ong (rdW B R) s s1 ∧ grm R s s1 ∧ (∀ q, pDemo g n (secN mp gm) = .ok q → 0 < mp ∧ g 8 < gm 5 ∧ g 7 ≤ 63 ∧ stC s1 (R + 1) (rdS g) ∧ runC s1 R (rdI g n) (rdM g n)) ∧ ∃ G m, runC s1 R G m := by
  obtain ⟨s1, a1, a2, a3⟩ := c_rdBegin h5 hrow
  obtain ⟨I, m, hr⟩ := hr
  obtain ⟨s2, b1, b2, b3, b4, b5, b6⟩ := c_runRead (R := R) (by omega) (by omega) (by omega) (by omega) (by rw [a3.P]; exact hR6) a2 ⟨I, m, hr.onl a3 (by omega)⟩
  have o2 : ong (rdW B R) s s2 := (a3.ong.mono (fun a z => Or.inr (Or.inl z))).trans b3
  have P2 : vt_P s2 = vt_P s := o2.P
  have gr2 : grm R s s2 := by
    have e : vt_L s1 = vt_L s := a3.L
    unfold grm at b4 ⊢
    rw [e, a3.1, a3.2.1] at b4
    exact b4
  have nB : ¬ rdW B R B := by unfold rdW; omega
  have np : ¬ rdW B R p := by unfold rdW; omega
  have m2 : vt_I s2 1310 B = nI mp := by rw [o2.I nB]; exact hm
  have e1 : ab_X12_loadDemo B s = if bI (decide (0 < mp)) = 0 then ab_X12_loadDemo_45 B s2 else if vt_I s2 803 (R + 1) < vt_I s2 311 p then ab_X12_loadDemo_56 B s2 else ab_X12_loadDemo_45 B s2 := by
    unfold ab_X12_loadDemo
    rw [slet, h2, a1, vbs, slet, slet, a3.P, h3, h2, b1, vbs, c_hasMap m2 hmp, vbs]
    rw [slet, slet, slet, slet, slet, P2, h3, hR6, hp]
  have key : ∀ x y : vt_S → Option (Int32 × vt_S), True := fun _ _ => trivial
  have bad : ab_X12_loadDemo B s = ab_X12_loadDemo_45 B s2 → pbd (pRun g n) (fun _ => .error (8, 8)) = pDemo g n (secN mp gm) → ∃ s1, ab_X12_loadDemo B s = ab_X12_loadDemo_56 B s1 ∧ RdS B g n (pDemo g n (secN mp gm)) s1 ∧ ong (rdW B R) s s1 ∧ grm R s s1 ∧ (∀ q, pDemo g n (secN mp gm) = .ok q → 0 < mp ∧ g 8 < gm 5 ∧ g 7 ≤ 63 ∧ stC s1 (R + 1) (rdS g) ∧ runC s1 R (rdI g n) (rdM g n)) ∧ ∃ G m, runC s1 R G m := by
    intro e2 e3
    obtain ⟨s3, w1, w2, w3⟩ := rd_blame b2 8 8 (by decide) (by decide)
    obtain ⟨G, m', hG⟩ := b6
    refine ⟨s3, ?_, by rw [← e3]; exact w2, o2.trans (w3.ong.mono (fun a z => Or.inr (Or.inl z))), ?_, fun q hq => ?_, G, m', hG.onl w3 (by omega)⟩
    · rw [e2]
      unfold ab_X12_loadDemo_45
      rw [slet, P2, h2, show (8 : Int32) = nI 8 from rfl, w1, vbs]
    · have e : vt_L s3 = vt_L s2 := w3.L
      unfold grm at gr2 ⊢
      rw [e, w3.1, w3.2.1]
      exact gr2
    · rw [← e3] at hq
      obtain ⟨r, -, z⟩ := pbd_ok hq
      cases z
  by_cases c : 0 < mp
  · obtain ⟨x1, x2⟩ := hpl c
    have eS : secN mp gm = gm 5 := if_pos c
    have z3 : vt_I s2 311 p = nI (gm 5) := by rw [o2.I np]; exact x1
    rw [decide_eq_true c, if_neg (show ¬ bI true = 0 by decide), z3] at e1
    cases hst : pRun g n with
    | error e =>
      have e3 : pDemo g n (secN mp gm) = .error e := by unfold pDemo; rw [hst]; rfl
      rw [hst] at b2
      by_cases d : vt_I s2 803 (R + 1) < nI (gm 5)
      · rw [if_pos d] at e1
        refine ⟨s2, e1, by rw [e3]; exact b2, o2, gr2, fun q hq => ?_, b6⟩
        rw [e3] at hq; cases hq
      · rw [if_neg d] at e1
        exact bad e1 (by rw [e3, hst]; rfl)
    | ok q =>
      obtain ⟨y1, y2⟩ := b5 q hst
      obtain ⟨h9, -⟩ := pRun_ok hst
      obtain ⟨-, -, h7, h8, -⟩ := pHed_ok h9
      have z8 : vt_I s2 803 (R + 1) = nI (g 8) := y1.2.2.2
      rw [z8] at e1
      by_cases d : g 8 < gm 5
      · rw [if_pos (nI_lt d (by omega))] at e1
        have e3 : pDemo g n (secN mp gm) = .ok q := by unfold pDemo; rw [hst, eS]; exact if_pos d
        rw [hst] at b2
        exact ⟨s2, e1, by rw [e3]; exact b2, o2, gr2, fun _ _ => ⟨c, d, h7, y1.stC, y2⟩, b6⟩
      · rw [if_neg (Int32.not_lt.mpr (nI_le (by omega) (by omega)))] at e1
        exact bad e1 (by unfold pDemo; rw [hst, eS]; exact (if_neg d).symm)
  · rw [decide_eq_false c, if_pos (show bI false = 0 from rfl)] at e1
    have eS : secN mp gm = 0 := if_neg c
    refine bad e1 ?_
    unfold pDemo
    rw [eS]
    exact congrArg _ (funext fun q => (if_neg (by omega)).symm)
end DC
