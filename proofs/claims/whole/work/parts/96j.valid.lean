-- WHAT holds of a map that was read
theorem pL_idx {f : Nat → Nat → PE} {n L : Nat} {P : Nat → Nat → Prop} (hf : ∀ i p q, f i p = .ok q → q = p + L ∧ q ≤ n ∧ P i p) : ∀ d i p q, pL f d i (.ok p) = .ok q → q = p + L * d ∧ ∀ j, j < d → p + L * j + L ≤ n ∧ P (i + j) (p + L * j)
  | 0, i, p, q, h => by cases h; exact ⟨rfl, fun j hj => by omega⟩
  | d + 1, i, p, q, h => by
    have h : pL f d (i + 1) (f i p) = .ok q := h
    cases e : f i p with
    | error x => rw [e, pL_err] at h; cases h
    | ok p1 =>
      rw [e] at h
      obtain ⟨a1, a2, a3⟩ := hf i p p1 e
      obtain ⟨b1, b2⟩ := pL_idx hf d (i + 1) p1 q h
      refine ⟨by rw [b1, a1, Nat.mul_add]; omega, fun j hj => ?_⟩
      cases j with
      | zero => rw [Nat.mul_zero, Nat.add_zero]; exact ⟨by omega, a3⟩
      | succ j =>
        have := b2 j (by omega)
        rw [a1] at this
        rw [show p + L * (j + 1) = p + L + L * j by rw [Nat.mul_add]; omega, show i + (j + 1) = i + 1 + j by omega]
        exact this
def texV (g : Nat → Nat) (p : Nat) : Prop := g p ≤ 4 ∧ g (p + 1) ≤ 4 ∧ ∀ j, j < 2 ^ (g p + g (p + 1)) → g (p + 2 + j) ≤ 15
theorem pL_tex {g : Nat → Nat} {n : Nat} : ∀ d i q, pL (fun _ => pTex g n) d i (.ok (txp g i)) = .ok q → q = txp g (i + d) ∧ ∀ j, i ≤ j → j < i + d → texV g (txp g j) ∧ txp g (j + 1) ≤ n
  | 0, i, q, h => by cases h; exact ⟨rfl, fun j h1 h2 => by omega⟩
  | d + 1, i, q, h => by
    have h : pL (fun _ => pTex g n) d (i + 1) (pTex g n (txp g i)) = .ok q := h
    cases e : pTex g n (txp g i) with
    | error x => rw [e, pL_err] at h; cases h
    | ok p1 =>
      rw [e] at h
      obtain ⟨a1, a2, a3, a4, a5⟩ := pTex_ok e
      have a1 : p1 = txp g (i + 1) := a1
      rw [a1] at h
      obtain ⟨b1, b2⟩ := pL_tex d (i + 1) q h
      refine ⟨by rw [b1, show i + 1 + d = i + (d + 1) by omega], fun j h1 h2 => ?_⟩
      by_cases c : j = i
      · subst c; exact ⟨⟨a3, a4, a5⟩, by rw [← a1]; exact a2⟩
      · exact b2 j (by omega) (by omega)
theorem pL_ov {ov : Nat → Nat → Bool} {F : Nat} : ∀ d i p q, pL (pOv ov F) d i (.ok p) = .ok q → q = p ∧ ∀ w, i ≤ w → w < i + d → anyB (ov w) w 0 = false
  | 0, i, p, q, h => by cases h; exact ⟨rfl, fun w h1 h2 => by omega⟩
  | d + 1, i, p, q, h => by
    have h : pL (pOv ov F) d (i + 1) (pOv ov F i p) = .ok q := h
    cases e : pOv ov F i p with
    | error x => rw [e, pL_err] at h; cases h
    | ok p1 =>
      rw [e] at h
      obtain ⟨a1, a2⟩ := pIf_ok e
      obtain ⟨b1, b2⟩ := pL_ov d (i + 1) p1 q h
      refine ⟨by omega, fun w h1 h2 => ?_⟩
      by_cases c : w = i
      · subst c; exact a1
      · exact b2 w (by omega) (by omega)
theorem pL_congr {f f' : Nat → Nat → PE} : ∀ d i st, (∀ j, i ≤ j → j < i + d → f j = f' j) → pL f d i st = pL f' d i st
  | 0, _, _, _ => rfl
  | d + 1, i, st, h => by
    show pL f d (i + 1) (pbd st (f i)) = pL f' d (i + 1) (pbd st (f' i))
    rw [h i (by omega) (by omega)]
    exact pL_congr d (i + 1) _ (fun j h1 h2 => h j (by omega) (by omega))
/-- the map's bytes are as they must be; overlaps aside -/
def mapU (g : Nat → Nat) (n : Nat) : Prop := (g 3 ≤ 128 ∧ g 4 ≤ 16 ∧ 1 ≤ g 5 ∧ g 5 ≤ 32 ∧ g 6 ≤ 128) ∧ (∀ i j, i < g 3 → j < g 3 → vX g i = vX g j ∧ vY g i = vY g j → i = j) ∧ 7 + 4 * g 3 ≤ n ∧ (∀ j, j < g 4 → texV g (txp g j) ∧ txp g (j + 1) ≤ n) ∧ (∀ j, j < g 5 → secV g (g 4) (scp g j) ∧ scp g j + 9 ≤ n) ∧ (∀ j, j < g 6 → wallV g (g 3) (g 4) (g 5) (wlp g j) ∧ wlp g j + 14 ≤ n)
theorem body_ok {g : Nat → Nat} {n q : Nat} (h : pL (fun _ => pWall g n (g 3) (g 4) (g 5)) (g 6) 0 (pBody g n) = .ok q) : q = stp g ∧ mapU g n := by
  obtain ⟨q3, h3⟩ := pL_ok_of h
  rw [h3] at h
  unfold pBody at h3
  obtain ⟨q2, h2⟩ := pL_ok_of h3
  obtain ⟨q1, h1⟩ := pL_ok_of h2
  obtain ⟨q0, h0⟩ := pL_ok_of h1
  rw [h2] at h3
  rw [h1] at h2
  rw [h0] at h1
  obtain ⟨a1, a2, a3, a4, a5, a6, a7, a8, a9, a10⟩ := pHead_ok h0
  subst a1
  obtain ⟨b1, b2⟩ := pL_idx (n := n) (L := 4) (P := fun i p => ∀ j, j < i → ¬ (pr g (7 + 4 * j) = pr g p ∧ pr g (9 + 4 * j) = pr g (p + 2))) (fun i p q hq => by
    obtain ⟨x1, x2, x3⟩ := pVtx_ok hq
    exact ⟨x2, by omega, x3⟩) (g 3) 0 7 q1 h1
  have e1 : q1 = txp g 0 := b1
  rw [e1] at h2
  obtain ⟨c1, c2⟩ := pL_tex (g 4) 0 q2 h2
  rw [Nat.zero_add] at c1
  obtain ⟨d1, d2⟩ := pL_idx (n := n) (L := 9) (P := fun _ p => secV g (g 4) p) (fun i p q hq => pSec_ok hq) (g 5) 0 q2 q3 h3
  obtain ⟨f1, f2⟩ := pL_idx (n := n) (L := 14) (P := fun _ p => wallV g (g 3) (g 4) (g 5) p) (fun i p q hq => pWall_ok hq) (g 6) 0 q3 q h
  have e3 : q3 = wlp g 0 := by rw [d1, c1]; rfl
  refine ⟨by rw [f1, e3]; rfl, ⟨a6, a7, a8, a9, a10⟩, fun i j hi hj e => ?_, ?_, fun j hj => c2 j (by omega) (by omega), fun j hj => ?_, fun j hj => ?_⟩
  · have key : ∀ i j, i < j → j < g 3 → ¬ (vX g i = vX g j ∧ vY g i = vY g j) := by
      intro i j hij hj z
      have := (b2 j hj).2 i (by omega)
      rw [show 7 + 4 * j + 2 = 9 + 4 * j by omega] at this
      exact this z
    rcases Nat.lt_trichotomy i j with c | c | c
    · exact absurd e (key i j c hj)
    · exact c
    · exact absurd ⟨e.1.symm, e.2.symm⟩ (key j i c hi)
  · by_cases c : g 3 = 0
    · omega
    · have := (b2 (g 3 - 1) (by omega)).1; omega
  · have := d2 j hj
    rw [c1] at this
    exact ⟨this.2, this.1⟩
  · have := f2 j hj
    rw [e3] at this
    exact ⟨this.2, this.1⟩
theorem mapU_ov {g : Nat → Nat} {n w v : Nat} (h : mapU g n) (hw : w < g 6) (hv : v < g 6) : ovW g (wlp g 0) w v = ovR g (wlp g 0) w v := by
  obtain ⟨-, h2, -, -, -, h6⟩ := h
  have a := (h6 w hw).1
  have b := (h6 v hv).1
  exact ov_eq (V := g 3) h2 ⟨a.1, a.2.1, a.2.2.1⟩ ⟨b.1, b.2.1, b.2.2.1⟩
theorem pMap_eq (g : Nat → Nat) (n : Nat) : pMap (ovW g (wlp g 0)) g n = pMap (ovR g (wlp g 0)) g n := by
  unfold pMap
  cases e : pTail g n (pL (fun _ => pWall g n (g 3) (g 4) (g 5)) (g 6) 0 (pBody g n)) with
  | error x => rw [pL_err, pL_err]
  | ok q =>
    obtain ⟨q4, h4⟩ := pMap_parts (ov := fun _ _ => true) e
    have u := (body_ok h4).2
    refine pL_congr _ _ _ fun w h1 h2 => ?_
    funext p
    unfold pOv
    rw [anyB_congr w 0 (fun v h3 h5 => mapU_ov u (by omega) (by omega))]
/-- all that holds of a map -/
def mapV (g : Nat → Nat) (n : Nat) : Prop := mapU g n ∧ n = stp g + 8 ∧ g (stp g + 4) ≤ 63 ∧ g (stp g + 5) < g 5 ∧ (∀ w v, w < g 6 → v < w → ovR g (wlp g 0) w v = false)
theorem map_ok {g : Nat → Nat} {n q : Nat} (h : pMap (ovR g (wlp g 0)) g n = .ok q) : mapV g n := by
  unfold pMap at h
  obtain ⟨q7, h7⟩ := pL_ok_of h
  rw [h7] at h
  obtain ⟨-, ov⟩ := pL_ov _ _ _ _ h
  obtain ⟨q4, h4⟩ := pMap_parts (ov := fun _ _ => true) h7
  obtain ⟨e4, u⟩ := body_ok h4
  rw [h4] at h7
  obtain ⟨q6, h6, e6⟩ := pbd_ok h7
  obtain ⟨q55, h55, e55⟩ := pbd_ok h6
  obtain ⟨q5, h5, e5⟩ := pbd_ok h55
  obtain ⟨x1, x2, x3, x4⟩ := pStart_ok h5
  obtain ⟨y1, y2, -⟩ := pEq_ok e5
  obtain ⟨z1, z2, -⟩ := pEq_ok e55
  refine ⟨u, ?_, by rw [← e4]; exact x3, by rw [← e4]; exact x4, fun w v hw hv => ?_⟩
  · by_cases c : q6 < n
    · rw [if_pos c] at e6; cases e6
    · omega
  · have := ov w (by omega) (by omega)
    cases c : ovR g (wlp g 0) w v with
    | false => rfl
    | true =>
      have := (anyB_iff (ovR g (wlp g 0) w) w 0).mpr ⟨v, by omega, by omega, c⟩
      rw [ov w (by omega) (by omega)] at this
      cases this
