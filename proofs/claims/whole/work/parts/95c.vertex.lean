-- LOOPS of the readers
def anyB (C : Nat → Bool) : Nat → Nat → Bool
  | 0, _ => false
  | d + 1, j => C j || anyB C d (j + 1)
theorem anyB_iff (C : Nat → Bool) : ∀ d j, anyB C d j = true ↔ ∃ i, j ≤ i ∧ i < j + d ∧ C i = true
  | 0, j => by
    constructor
    · intro h; cases h
    · rintro ⟨i, h1, h2, -⟩; omega
  | d + 1, j => by
    rw [anyB, Bool.or_eq_true, anyB_iff C d (j + 1)]
    constructor
    · rintro (h | ⟨i, h1, h2, h3⟩)
      · exact ⟨j, by omega, by omega, h⟩
      · exact ⟨i, by omega, by omega, h3⟩
    · rintro ⟨i, h1, h2, h3⟩
      by_cases e : i = j
      · exact Or.inl (by rw [← e]; exact h3)
      · exact Or.inr ⟨i, by omega, by omega, h3⟩
theorem anyB_congr {C D : Nat → Bool} : ∀ d j, (∀ i, j ≤ i → i < j + d → C i = D i) → anyB C d j = anyB D d j
  | 0, _, _ => rfl
  | d + 1, j, h => by
    rw [anyB, anyB, h j (by omega) (by omega), anyB_congr d (j + 1) (fun i h1 h2 => h i (by omega) (by omega))]
def pL (f : Nat → Nat → PE) : Nat → Nat → PE → PE
  | 0, _, st => st
  | d + 1, i, st => pL f d (i + 1) (pbd st (f i))
theorem pL_err (f : Nat → Nat → PE) (e : Nat × Nat) : ∀ d i, pL f d i (.error e) = .error e
  | 0, _ => rfl
  | d + 1, i => pL_err f e d (i + 1)
def pIf (b : Bool) (e : Nat × Nat) (q : Nat) : PE := if b then .error e else .ok q
theorem pIf_ok {b : Bool} {e : Nat × Nat} {q r : Nat} (h : pIf b e q = .ok r) : b = false ∧ r = q := by
  unfold pIf at h
  cases b
  · cases h; exact ⟨rfl, rfl⟩
  · cases h
def vsame (g : Nat → Nat) (q j : Nat) : Bool := decide (pr g (7 + 4 * j) = pr g (q - 4) ∧ pr g (9 + 4 * j) = pr g (q - 2))
def pVtx (g : Nat → Nat) (n k p : Nat) : PE := pbd (pbd (pTwo n p) (pTwo n)) (fun q => pIf (anyB (vsame g q) k 0) (3, q - 2) q)
theorem pVtx_ok {g : Nat → Nat} {n k p q : Nat} (h : pVtx g n k p = .ok q) : p + 3 < n ∧ q = p + 4 ∧ ∀ j, j < k → ¬ (pr g (7 + 4 * j) = pr g p ∧ pr g (9 + 4 * j) = pr g (p + 2)) := by
  obtain ⟨r, h1, h2⟩ := pbd_ok h
  obtain ⟨r2, h3, h4⟩ := pbd_ok h1
  obtain ⟨a1, a2⟩ := pTwo_ok h3
  obtain ⟨b1, b2⟩ := pTwo_ok h4
  obtain ⟨c1, c2⟩ := pIf_ok h2
  refine ⟨by omega, by omega, fun j hj z => ?_⟩
  have : vsame g r j = true := by
    unfold vsame
    rw [show r - 4 = p by omega, show r - 2 = p + 2 by omega]; exact decide_eq_true z
  have := (anyB_iff (vsame g r) k 0).mpr ⟨j, by omega, by omega, this⟩
  rw [c1] at this
  cases this
section PV
variable {B : Nat} {g : Nat → Nat} {n : Nat} {p : Nat}
theorem c_vtx_loop {i : Nat} (hi : i < 128) (x y : Int32) (at_ : Nat) (h5 : p ≠ B + 5) (h1 : p ≠ B + 1) : ∀ (d j fu : Nat) (s : vt_S) (st : PE), j + d = i → d < fu → pS p s → RdS B g n st s → ∃ s1, ab_X2_readVertex_20 fu p (B + 5) (nI i) x (nI at_) y (nI j) s = some ((), vu_A (vu_A s1 302 p i x) 303 p i y) ∧ RdS B g n (pbd st (pIf (anyB (fun k => decide (vt_A s 302 p k = x ∧ vt_A s 303 p k = y)) d j) (3, at_))) s1 ∧ onl (· = B + 5) s s1 := by
  intro d
  induction d with
  | zero =>
    intro j fu s st hj hf hp h
    obtain ⟨fu, rfl⟩ : ∃ q, fu = q + 1 := ⟨fu - 1, by omega⟩
    have L2 := hp.L302
    have L3 := hp.L303
    refine ⟨s, ?_, ?_, onl.refl⟩
    · show ab_X2_readVertex_20b _ p (B + 5) (nI i) x (nI at_) y (nI j) s = _
      unfold ab_X2_readVertex_20b
      rw [if_pos (nI_le (by omega) (by omega)), vs_I_ok (by omega) (by omega), Option.bind_some, vs_I_ok (by show i < vt_L s 303 p; omega) (by show vt_L s 303 p < _; omega), Option.bind_some]
    · show RdS B g n (pbd st Except.ok) s
      rw [pbd_id]; exact h
  | succ d ih =>
    intro j fu s st hj hf hp h
    obtain ⟨fu, rfl⟩ : ∃ q, fu = q + 1 := ⟨fu - 1, by omega⟩
    have L2 := hp.L302
    have L3 := hp.L303
    show ∃ s1, ab_X2_readVertex_20b _ p (B + 5) (nI i) x (nI at_) y (nI j) s = _ ∧ _
    unfold ab_X2_readVertex_20b
    rw [if_neg (nI_ge (by omega) (by omega)), vl_I_ok (by omega) (by omega), Option.bind_some]
    simp only [ab_X2_readVertex_56]
    by_cases c : vt_A s 302 p j = x ∧ vt_A s 303 p j = y
    · rw [if_pos c.1, vl_I_ok (by omega) (by omega), Option.bind_some, if_pos c.2]
      obtain ⟨s2, b1, b2, b3⟩ := rd_blame h 3 at_ (by decide) (by decide)
      rw [show (3 : Int32) = nI 3 from rfl, b1, vt_bs, nI_1]
      obtain ⟨s1, e1, e2, e3⟩ := ih (j + 1) fu s2 _ (by omega) (by omega) (hp.of b3.P b3.L b3.E) b2
      refine ⟨s1, e1, ?_, b3.trans e3⟩
      have : (pbd st (pIf (anyB (fun k => decide (vt_A s 302 p k = x ∧ vt_A s 303 p k = y)) (d + 1) j) (3, at_))) = pbd (pbd st fun _ => .error (3, at_)) (pIf (anyB (fun k => decide (vt_A s2 302 p k = x ∧ vt_A s2 303 p k = y)) d (j + 1)) (3, at_)) := by
        cases st with
        | error e => rfl
        | ok q =>
          show pIf _ _ _ = .error _
          rw [anyB, decide_eq_true c, Bool.true_or]; rfl
      rw [this]; exact e2
    · have skip : (if vt_A s 302 p j = x then (vl_I s 303 p (nI j)).bind fun v8 => if v8 = y then vt_b (ab_X4_blame (B + 5) 3 (nI at_) s) fun _ h9 => ab_X2_readVertex_20 fu p (B + 5) (nI i) x (nI at_) y (nI j + 1) h9 else ab_X2_readVertex_20 fu p (B + 5) (nI i) x (nI at_) y (nI j + 1) s else ab_X2_readVertex_20 fu p (B + 5) (nI i) x (nI at_) y (nI j + 1) s) = ab_X2_readVertex_20 fu p (B + 5) (nI i) x (nI at_) y (nI j + 1) s := by
        by_cases c1 : vt_A s 302 p j = x
        · rw [if_pos c1, vl_I_ok (by omega) (by omega), Option.bind_some, if_neg (fun z => c ⟨c1, z⟩)]
        · rw [if_neg c1]
      rw [skip, nI_1]
      obtain ⟨s1, e1, e2, e3⟩ := ih (j + 1) fu s st (by omega) (by omega) hp h
      refine ⟨s1, e1, ?_, e3⟩
      rw [anyB, decide_eq_false c, Bool.false_or]; exact e2
theorem c_vtx {i : Nat} {s : vt_S} {st : PE} (hi : i < 128) (h5 : p ≠ B + 5) (h1 : p ≠ B + 1) (hp : pS p s) (h : RdS B g n st s) (hd : ∀ q, st = .ok q → ∀ j, j < i → vt_A s 302 p j = zI (pr g (7 + 4 * j)) ∧ vt_A s 303 p j = zI (pr g (9 + 4 * j))) :
    ∃ s1, ab_X2_readVertex p (B + 5) (nI i) s = some ((), s1) ∧ RdS B g n (pbd st (pVtx g n i)) s1 ∧ onl (fun a => a = B + 5 ∨ a = p) s s1 ∧ (∀ f, vt_I s1 f p = vt_I s f p) ∧ (∀ f, f ≠ 302 → f ≠ 303 → vt_A s1 f p = vt_A s f p) ∧
      (∀ q, pbd st (pVtx g n i) = .ok q → ∀ j, j < i + 1 → (j < i → vt_A s1 302 p j = vt_A s 302 p j ∧ vt_A s1 303 p j = vt_A s 303 p j) ∧ (j = i → vt_A s1 302 p j = zI (pr g (q - 4)) ∧ vt_A s1 303 p j = zI (pr g (q - 2)))) := by
  obtain ⟨x, s1, a1, a2, a3, a4, a5, a6⟩ := rd_pair h
  obtain ⟨at_, t1, t2, t3⟩ := rd_next a2
  obtain ⟨y, s2, b1, b2, b3, b4, b5, b6⟩ := rd_pair a2
  have o2 := a3.trans b3
  obtain ⟨s3, e1, e2, e3⟩ := c_vtx_loop (B := B) (g := g) (n := n) hi (zI x) (zI y) at_ h5 h1 i 0 sv_fuel s2 _ (by omega) (fuel_ge (by omega)) (hp.of o2.P o2.L o2.E) b2
  have o3 := o2.trans e3
  have eq : pbd st (pVtx g n i) = pbd (pbd (pbd st (pTwo n)) (pTwo n)) (pIf (anyB (fun k => decide (vt_A s2 302 p k = zI x ∧ vt_A s2 303 p k = zI y)) i 0) (3, at_)) := by
    cases st with
    | error e => rfl
    | ok q0 =>
      unfold pVtx
      cases z1 : pTwo n q0 with
      | error e => simp only [pbd, z1]
      | ok q1 =>
        cases z2 : pTwo n q1 with
        | error e => simp only [pbd, z1, z2]
        | ok q2 =>
          obtain ⟨u1, u2⟩ := pTwo_ok z1
          obtain ⟨u3, u4⟩ := pTwo_ok z2
          simp only [pbd, z1, z2]
          have w1 := a6 q1 (by simp only [pbd, z1])
          have w2 := b6 q2 (by simp only [pbd, z1, z2])
          have w3 := t3 q1 (by simp only [pbd, z1])
          rw [show q2 - 2 = at_ by omega]
          refine congrArg (fun b => pIf b (3, at_) q2) ?_
          refine anyB_congr _ _ fun j _ hj => ?_
          unfold vsame
          rw [o2.A h5, o2.A h5, (hd q0 rfl j (by omega)).1, (hd q0 rfl j (by omega)).2, w1, w2]
          have r1 := pr_rng g (7 + 4 * j)
          have r2 := pr_rng g (9 + 4 * j)
          have r3 := pr_rng g (q1 - 2)
          have r4 := pr_rng g (q2 - 2)
          simp (disch := omega) only [zI_eq]
          rw [show q1 - 2 = q2 - 4 by omega, show q2 - 2 = at_ by omega]
  refine ⟨vu_A (vu_A s3 302 p i (zI x)) 303 p i (zI y), ?_, ?_, ((o3.mono (V := fun a => a = B + 5 ∨ a = p) fun a ha => Or.inl ha).putA (a := p) (Or.inr rfl)).putA (a := p) (Or.inr rfl), fun f => ?_, fun f f1 f2 => ?_, fun q hq j hj => ⟨fun hj => ?_, fun hj => ?_⟩⟩
  · simp only [ab_X2_readVertex, sv_let, a1, vt_bs, t1, b1]
    exact e1
  · rw [eq]
    exact e2.keep (((onl.refl (W := (· = p))).putA rfl).putA rfl) (fun z => h1 z.symm) (fun z => h5 z.symm)
  · exact o3.I h5
  · rw [A_ne (by omega), A_ne (by omega)]; exact o3.A h5
  · constructor
    · rw [A_ne (by omega), A_at, if_neg (by omega), o3.A h5]
    · rw [A_at, if_neg (by omega), A_ne (by omega), o3.A h5]
  · rw [eq] at hq
    obtain ⟨q2, z1, z2⟩ := pbd_ok hq
    obtain ⟨-, rfl⟩ := pIf_ok z2
    obtain ⟨q1, z3, z4⟩ := pbd_ok z1
    obtain ⟨u3, u4⟩ := pTwo_ok z4
    constructor
    · rw [A_ne (by omega), A_at, if_pos hj, a6 q1 z3, show q1 - 2 = q - 4 by omega]
    · rw [A_at, if_pos hj, b6 q z1]
end PV
