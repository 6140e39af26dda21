-- WALLS that overlap, and the whole map as the class reads it
def aX (g : Nat → Nat) (p : Nat) : Int := pr g (7 + 4 * g p)
def aY (g : Nat → Nat) (p : Nat) : Int := pr g (9 + 4 * g p)
def bX (g : Nat → Nat) (p : Nat) : Int := pr g (7 + 4 * g (p + 1))
def bY (g : Nat → Nat) (p : Nat) : Int := pr g (9 + 4 * g (p + 1))
/-- walls w and v overlap, as the class has it; their bytes begin at F + 14 w, F + 14 v -/
def ovW (g : Nat → Nat) (F w v : Nat) : Bool := ovC (aX g (F + 14 * w)) (aY g (F + 14 * w)) (bX g (F + 14 * w)) (bY g (F + 14 * w)) (aX g (F + 14 * v)) (aY g (F + 14 * v)) (bX g (F + 14 * v)) (bY g (F + 14 * v))
theorem wallF.wc {s : vt_S} {x : Nat} {g : Nat → Nat} {p : Nat} (h : wallF s x g p) : wc s x (aX g p) (aY g p) (bX g p) (bY g p) := ⟨h.1, h.2.1, h.2.2.1, h.2.2.2.1, pr_rng _ _, pr_rng _ _, pr_rng _ _, pr_rng _ _⟩
theorem wallF.onl {W : Nat → Prop} {s s1 : vt_S} {x : Nat} {g : Nat → Nat} {p : Nat} (h : wallF s x g p) (k : onl W s s1) (hx : ¬ W x) : wallF s1 x g p := by
  unfold wallF
  rw [k.A hx]
  simp only [k.I hx]
  exact h
theorem secF.onl {W : Nat → Prop} {s s1 : vt_S} {x : Nat} {g : Nat → Nat} {p : Nat} (h : secF s x g p) (k : onl W s s1) (hx : ¬ W x) : secF s1 x g p := by
  unfold secF
  simp only [k.I hx]
  exact h
theorem startF.onl {W : Nat → Prop} {s s1 : vt_S} {x : Nat} {g : Nat → Nat} {p : Nat} (h : startF s x g p) (k : onl W s s1) (hx : ¬ W x) : startF s1 x g p := by
  unfold startF
  simp only [k.I hx]
  exact h
section PO
variable {B : Nat} {g : Nat → Nat} {n p F W : Nat}
/-- the walls are there, where nothing was wrong -/
def wallsAt (p : Nat) (g : Nat → Nat) (F W : Nat) (st : PE) (s : vt_S) : Prop := ∀ q, st = .ok q → ∀ j, j < W → wallF s (p + 43 + 2 * j) g (F + 14 * j)
theorem wallsAt.mono {st : PE} {f : Nat → PE} {s s1 : vt_S} (h : wallsAt p g F W st s) (k : onl (· = B + 5) s s1) (hp : B + 6 ≤ p) : wallsAt p g F W (pbd st f) s1 := fun q hq j hj => by
  obtain ⟨q0, h0, -⟩ := pbd_ok hq
  exact (h q0 h0 j hj).onl k (by omega)
theorem c_ov_in (hp6 : B + 6 ≤ p) (hW : W ≤ 128) {w : Nat} (hw : w < W) {fi : Int32} {k2 : Nat → Nat → Int32 → Int32 → vt_S → Option (Unit × vt_S)} : ∀ (d v fu : Nat) (s : vt_S) (st : PE), v + d = w → d < fu → pS p s → RdS B g n st s → wallsAt p g F W st s → (∀ q, st = .ok q → fi = nI F) →
    ∃ s1, ab_X2_findOverlap_20 k2 fu p (B + 5) fi (nI w) (nI v) s = k2 p (B + 5) fi (nI (w + 1)) s1 ∧ RdS B g n (pbd st (pIf (anyB (ovW g F w) d v) (6, F + 14 * w))) s1 ∧ onl (· = B + 5) s s1 := by
  intro d
  induction d with
  | zero =>
    intro v fu s st hv hf hp r hw2 hfi
    obtain ⟨fu, rfl⟩ : ∃ q, fu = q + 1 := ⟨fu - 1, by omega⟩
    refine ⟨s, ?_, ?_, onl.refl⟩
    · show ab_X2_findOverlap_20b _ _ p (B + 5) fi (nI w) (nI v) s = _
      unfold ab_X2_findOverlap_20b
      rw [if_pos (nI_le (by omega) (by omega)), ab_X2_findOverlap_70, nI_1]
    · show RdS B g n (pbd st Except.ok) s
      rw [pbd_id]; exact r
  | succ d ih =>
    intro v fu s st hv hf hp r hw2 hfi
    obtain ⟨fu, rfl⟩ : ∃ q, fu = q + 1 := ⟨fu - 1, by omega⟩
    have L := hp.L308
    show ∃ s1, ab_X2_findOverlap_20b _ _ p (B + 5) fi (nI w) (nI v) s = _ ∧ _
    unfold ab_X2_findOverlap_20b
    rw [if_neg (nI_ge (by omega) (by omega)), rd_well r, vbs]
    cases st with
    | error e =>
      rw [if_pos pWell_err, ab_X2_findOverlap_70, nI_1]
      exact ⟨s, rfl, r, onl.refl⟩
    | ok q =>
      have hF := hfi q rfl
      have f1 := hw2 q rfl w hw
      have f2 := hw2 q rfl v (by omega)
      rw [if_neg pWell_ok, vl_P_ok (by omega) (by omega), obs, vl_P_ok (by omega) (by omega), obs, hp.E308 w (by omega), hp.E308 v (by omega), c_overlaps f1.wc f2.wc, vbs]
      by_cases c : ovW g F w v = true
      · have : ¬ bI (ovC (aX g (F + 14 * w)) (aY g (F + 14 * w)) (bX g (F + 14 * w)) (bY g (F + 14 * w)) (aX g (F + 14 * v)) (aY g (F + 14 * v)) (bX g (F + 14 * v)) (bY g (F + 14 * v))) = 0 := by
          rw [bI_0]
          unfold ovW at c
          rw [c]; decide
        rw [if_neg this]
        obtain ⟨s2, b1, b2, b3⟩ := rd_blame r 6 (F + 14 * w) (by decide) (by decide)
        have ea : fi + 14 * nI w = nI (F + 14 * w) := by rw [hF, show (14 : Int32) = nI 14 from rfl, pk_mul, nI_add]
        rw [ea, show (6 : Int32) = nI 6 from rfl, b1, vbs, ab_X2_findOverlap_64, nI_1]
        obtain ⟨s1, e1, e2, e3⟩ := ih (v + 1) fu s2 _ (by omega) (by omega) (hp.of b3.P b3.L b3.E) b2 (fun q hq => by cases hq) (fun q hq => by cases hq)
        refine ⟨s1, e1, ?_, b3.trans e3⟩
        rw [show pbd (.ok q) (pIf (anyB (ovW g F w) (d + 1) v) (6, F + 14 * w)) = .error (6, F + 14 * w) by
          rw [anyB, c, Bool.true_or]; rfl]
        exact e2
      · have c : ovW g F w v = false := by simpa using c
        have : bI (ovC (aX g (F + 14 * w)) (aY g (F + 14 * w)) (bX g (F + 14 * w)) (bY g (F + 14 * w)) (aX g (F + 14 * v)) (aY g (F + 14 * v)) (bX g (F + 14 * v)) (bY g (F + 14 * v))) = 0 := by
          rw [bI_0]; exact c
        rw [if_pos this, ab_X2_findOverlap_64, nI_1]
        obtain ⟨s1, e1, e2, e3⟩ := ih (v + 1) fu s _ (by omega) (by omega) hp r hw2 hfi
        refine ⟨s1, e1, ?_, e3⟩
        rw [anyB, c, Bool.false_or]; exact e2
/-- no two walls overlap -/
def pOv (ov : Nat → Nat → Bool) (F w q : Nat) : PE := pIf (anyB (ov w) w 0) (6, F + 14 * w) q
theorem c_ov_out (hp6 : B + 6 ≤ p) (hW : W ≤ 128) {fi : Int32} : ∀ (d w fu : Nat) (s : vt_S) (st : PE), w + d = W → d < fu → pS p s → vt_I s 312 p = nI W → RdS B g n st s → wallsAt p g F W st s → (∀ q, st = .ok q → fi = nI F) →
    ∃ s1, ab_X2_findOverlap_2 fu p (B + 5) fi (nI w) s = some ((), s1) ∧ RdS B g n (pL (pOv (ovW g F) F) d w st) s1 ∧ onl (· = B + 5) s s1 := by
  intro d
  induction d with
  | zero =>
    intro w fu s st hv hf hp hc r hw2 hfi
    obtain ⟨fu, rfl⟩ : ∃ q, fu = q + 1 := ⟨fu - 1, by omega⟩
    refine ⟨s, ?_, r, onl.refl⟩
    show ab_X2_findOverlap_2b _ p (B + 5) fi (nI w) s = _
    unfold ab_X2_findOverlap_2b
    rw [slet, hc, if_pos (nI_le (by omega) (by omega)), ab_X2_findOverlap_76]
  | succ d ih =>
    intro w fu s st hv hf hp hc r hw2 hfi
    obtain ⟨fu, rfl⟩ : ∃ q, fu = q + 1 := ⟨fu - 1, by omega⟩
    show ∃ s1, ab_X2_findOverlap_2b _ p (B + 5) fi (nI w) s = _ ∧ _
    unfold ab_X2_findOverlap_2b
    rw [slet, hc, if_neg (nI_ge (by omega) (by omega)), rd_well r, vbs]
    cases st with
    | error e =>
      rw [if_pos pWell_err, ab_X2_findOverlap_76, pL_err]
      exact ⟨s, rfl, r, onl.refl⟩
    | ok q =>
      rw [if_neg pWell_ok]
      obtain ⟨s2, b1, b2, b3⟩ := c_ov_in (B := B) (g := g) (n := n) (F := F) hp6 hW (w := w) (by omega) (fi := fi) (k2 := ab_X2_findOverlap_2 fu) w 0 sv_fuel s _ (by omega) (fuel_ge (by omega)) hp r hw2 hfi
      rw [show (0 : Int32) = nI 0 from rfl, b1]
      obtain ⟨s1, e1, e2, e3⟩ := ih (w + 1) fu s2 _ (by omega) (by omega) (hp.of b3.P b3.L b3.E) (by rw [b3.I (by omega)]; exact hc) b2 (hw2.mono b3 hp6) (fun q1 hq => by obtain ⟨q0, h0, -⟩ := pbd_ok hq; exact hfi q0 h0)
      exact ⟨s1, e1, e2, b3.trans e3⟩
end PO
