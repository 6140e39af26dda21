section LY
variable {B : Nat} {g : Nat → Nat} {n : Nat}
/-- the walls' bytes lie within, and so do their vertices -/
def wIn (g : Nat → Nat) (n F W : Nat) : Prop := ∀ j, j < W → F + 14 * j + 14 ≤ n ∧ 10 + 4 * g (F + 14 * j) < n ∧ 10 + 4 * g (F + 14 * j + 1) < n
theorem r_ov_in {F W : Nat} {fi : Int32} {Wi : Int32} (hW : W ≤ 128) {w : Nat} (hw : w < W) {K : Nat → Int32 → Int32 → Int32 → vt_S → Option (Unit × vt_S)} : ∀ (d v fu : Nat) (s : vt_S) (st : PE), v + d = w → d < fu → LuS B g n st s → (∀ q, st = .ok q → fi = nI F ∧ wIn g n F W) →
    ∃ s1, ab_X14_readAll_334 K fu (B + 640) Wi fi (nI w) (nI v) s = K (B + 640) Wi fi (nI (w + 1)) s1 ∧ LuS B g n (pbd st (pIf (anyB (ovR g F w) d v) (6, F + 14 * w))) s1 ∧ luk (B + 640) s s1 := by
  intro d
  induction d with
  | zero =>
    intro v fu s st hv hf r hd
    obtain ⟨fu, rfl⟩ : ∃ q, fu = q + 1 := ⟨fu - 1, by omega⟩
    refine ⟨s, ?_, ?_, luk.refl⟩
    · show ab_X14_readAll_334b _ _ (B + 640) Wi fi (nI w) (nI v) s = _
      unfold ab_X14_readAll_334b
      rw [if_pos (nI_le (by omega) (by omega)), ab_X14_readAll_397, nI_1]
    · show LuS B g n (pbd st Except.ok) s
      rw [pbd_id]; exact r
  | succ d ih =>
    intro v fu s st hv hf r hd
    obtain ⟨fu, rfl⟩ : ∃ q, fu = q + 1 := ⟨fu - 1, by omega⟩
    show ∃ s1, ab_X14_readAll_334b _ _ (B + 640) Wi fi (nI w) (nI v) s = _ ∧ _
    unfold ab_X14_readAll_334b
    rw [if_neg (nI_ge (by omega) (by omega)), slet]
    cases st with
    | error e =>
      rw [if_neg r.f1, ab_X14_readAll_397, nI_1]
      exact ⟨s, rfl, r, luk.refl⟩
    | ok q =>
      obtain ⟨hF, hin⟩ := hd q rfl
      have a1 := hin w hw
      have a2 := hin v (by omega)
      have ev : fi + 14 * nI v = nI (F + 14 * v) := by rw [hF, show (14 : Int32) = nI 14 from rfl, pk_mul, nI_add]
      have ew : fi + 14 * nI w = nI (F + 14 * w) := by rw [hF, show (14 : Int32) = nI 14 from rfl, pk_mul, nI_add]
      rw [if_pos r.f0, ev, ew, lu_touch r.1 r.2.1 (by omega) (by omega) a2.2.1 a2.2.2 a1.2.1 a1.2.2, vbs]
      rw [show tchV g (g (F + 14 * v)) (g (F + 14 * v + 1)) (g (F + 14 * w)) (g (F + 14 * w + 1)) = ovR g F w v from rfl]
      cases c : ovR g F w v with
      | true =>
        rw [if_neg (by decide)]
        obtain ⟨s2, b1, b2, b3⟩ := lu_wrong r 6 (F + 14 * w) (by decide) (by decide)
        rw [show (6 : Int32) = nI 6 from rfl, b1, vbs, slet, ab_X14_readAll_391, nI_1]
        have b2 : LuS B g n (.error (6, F + 14 * w)) s2 := b2
        have k3 : luk (B + 640) s2 (vu_I s2 1506 (B + 640) (nI w)) := luk.refl.put (by omega) (by omega)
        have b4 : LuS B g n (.error (6, F + 14 * w)) (vu_I s2 1506 (B + 640) (nI w)) := by
          obtain ⟨x1, x2, ⟨x3, x4⟩, x5, x6, x7, x8⟩ := b2
          exact ⟨x1.luk k3, x2, ⟨x3, by rw [I_ne (by omega)]; exact x4⟩, by rw [I_ne (by omega)]; exact x5, x6, x7, by rw [I_ne (by omega)]; exact x8⟩
        obtain ⟨s1, e1, e2, e3⟩ := ih (v + 1) fu _ _ (by omega) (by omega) b4 (fun q hq => by cases hq)
        refine ⟨s1, e1, ?_, (b3.trans k3).trans e3⟩
        rw [show pbd (.ok q) (pIf (anyB (ovR g F w) (d + 1) v) (6, F + 14 * w)) = .error (6, F + 14 * w) by
          rw [anyB, c, Bool.true_or]; rfl]
        exact e2
      | false =>
        rw [if_pos (by decide), ab_X14_readAll_391, nI_1]
        obtain ⟨s1, e1, e2, e3⟩ := ih (v + 1) fu s _ (by omega) (by omega) r hd
        refine ⟨s1, e1, ?_, e3⟩
        rw [anyB, c, Bool.false_or]; exact e2
theorem r_ov_out {F W W' : Nat} {fi : Int32} (hW : W ≤ 128) (hW' : W' < 256) : ∀ (d w fu : Nat) (s : vt_S) (st : PE), w + d = W → d < fu → LuS B g n st s → (∀ q, st = .ok q → W' = W ∧ fi = nI F ∧ wIn g n F W) →
    ∃ s1, ab_X14_readAll_317 fu (B + 640) (nI W') fi (nI w) s = some ((), s1) ∧ LuS B g n (pL (pOv (ovR g F) F) d w st) s1 ∧ luk (B + 640) s s1 := by
  intro d
  induction d with
  | zero =>
    intro w fu s st hv hf r hd
    obtain ⟨fu, rfl⟩ : ∃ q, fu = q + 1 := ⟨fu - 1, by omega⟩
    refine ⟨s, ?_, r, luk.refl⟩
    show ab_X14_readAll_317b _ (B + 640) (nI W') fi (nI w) s = _
    unfold ab_X14_readAll_317b
    cases st with
    | ok q => rw [if_pos (nI_le (by have := (hd q rfl).1; omega) (by omega)), ab_X14_readAll_403]
    | error e =>
      by_cases c : W' ≤ w
      · rw [if_pos (nI_le c (by omega)), ab_X14_readAll_403]
      · rw [if_neg (nI_ge (by omega) (by omega)), slet, if_neg r.f1, ab_X14_readAll_403]
  | succ d ih =>
    intro w fu s st hv hf r hd
    obtain ⟨fu, rfl⟩ : ∃ q, fu = q + 1 := ⟨fu - 1, by omega⟩
    show ∃ s1, ab_X14_readAll_317b _ (B + 640) (nI W') fi (nI w) s = _ ∧ _
    unfold ab_X14_readAll_317b
    cases st with
    | error e =>
      refine ⟨s, ?_, by rw [pL_err]; exact r, luk.refl⟩
      by_cases c : W' ≤ w
      · rw [if_pos (nI_le c (by omega)), ab_X14_readAll_403]
      · rw [if_neg (nI_ge (by omega) (by omega)), slet, if_neg r.f1, ab_X14_readAll_403]
    | ok q =>
      have h := hd q rfl
      rw [if_neg (nI_ge (by omega) (by omega)), slet, if_pos r.f0]
      obtain ⟨s2, b1, b2, b3⟩ := r_ov_in (B := B) (g := g) (n := n) (F := F) (fi := fi) (Wi := nI W') hW (w := w) (by omega) (K := ab_X14_readAll_317 fu) w 0 sv_fuel s _ (by omega) (fuel_ge (by omega)) r (fun q1 h1 => by cases h1; exact ⟨h.2.1, h.2.2⟩)
      rw [show (0 : Int32) = nI 0 from rfl, b1]
      obtain ⟨s1, e1, e2, e3⟩ := ih (w + 1) fu s2 _ (by omega) (by omega) b2 (fun q1 hq => by obtain ⟨q0, h0, -⟩ := pbd_ok hq; exact hd q0 h0)
      exact ⟨s1, e1, e2, b3.trans e3⟩
theorem r_check_err {s : vt_S} {e : Nat × Nat} (h : LuS B g n (.error e) s) (x : Int32) : ab_X14_readCheck (B + 640) x s = some ((), s) := by
  unfold ab_X14_readCheck
  have : ab_X14_next (B + 640) 0 255 s = some (0, s) := by
    unfold ab_X14_next
    rw [slet, if_neg h.le]
  rw [slet, this, vbs, slet, if_neg h.f1, ab_X14_readCheck_32]
theorem pMap_parts {ov : Nat → Nat → Bool} {g : Nat → Nat} {n q : Nat} (h : pTail g n (pL (fun _ => pWall g n (g 3) (g 4) (g 5)) (g 6) 0 (pBody g n)) = .ok q) : ∃ q4, pL (fun _ => pWall g n (g 3) (g 4) (g 5)) (g 6) 0 (pBody g n) = .ok q4 := by
  obtain ⟨r1, y1, -⟩ := pbd_ok h
  obtain ⟨r2, y2, -⟩ := pbd_ok y1
  obtain ⟨r3, y3, -⟩ := pbd_ok y2
  obtain ⟨r4, y4, -⟩ := pbd_ok y3
  obtain ⟨r5, y5, -⟩ := pbd_ok y4
  obtain ⟨r6, y6, -⟩ := pbd_ok y5
  obtain ⟨r7, y7, -⟩ := pbd_ok y6
  exact ⟨r7, y7⟩
theorem pL_pos {f : Nat → Nat → PE} {L : Nat} {P : Nat → Prop} (hf : ∀ i p q, f i p = .ok q → q = p + L ∧ q ≤ n ∧ P p) : ∀ d i p q, pL f d i (.ok p) = .ok q → q = p + L * d ∧ ∀ j, j < d → p + L * j + L ≤ n ∧ P (p + L * j)
  | 0, i, p, q, h => by cases h; exact ⟨rfl, fun j hj => by omega⟩
  | d + 1, i, p, q, h => by
    have h : pL f d (i + 1) (f i p) = .ok q := h
    cases e : f i p with
    | error x => rw [e, pL_err] at h; cases h
    | ok p1 =>
      rw [e] at h
      obtain ⟨a1, a2, a3⟩ := hf i p p1 e
      obtain ⟨b1, b2⟩ := pL_pos hf d (i + 1) p1 q h
      refine ⟨by rw [b1, a1, Nat.mul_add]; omega, fun j hj => ?_⟩
      cases j with
      | zero => rw [Nat.mul_zero, Nat.add_zero]; exact ⟨by omega, a3⟩
      | succ j =>
        have := b2 j (by omega)
        rw [a1] at this
        rw [show p + L * (j + 1) = p + L + L * j by rw [Nat.mul_add]; omega]
        exact this
set_option maxHeartbeats 4000000 in
theorem r_readAll {s : vt_S} (h : LuS B g n (.ok 0) s) : ∃ s1, ab_X14_readAll (B + 640) s = some ((), s1) ∧ LuS B g n (pMap (ovR g (wlp g 0)) g n) s1 ∧ luk (B + 640) s s1 := by
  obtain ⟨s0, V, T, S, W, a1, a2, a3, a4, a5, a6, a7, a8⟩ := r_head h
  obtain ⟨st0, hst0⟩ : ∃ st0, st0 = pHeadC g n (.ok 0) := ⟨_, rfl⟩
  have K0 : ∀ q, st0 = .ok q → q = 7 ∧ V = g 3 ∧ T = g 4 ∧ S = g 5 ∧ W = g 6 ∧ g 3 ≤ 128 ∧ g 4 ≤ 16 ∧ g 5 ≤ 32 ∧ g 6 ≤ 128 := by
    intro q hq
    rw [hst0] at hq
    have e := a8 q hq
    obtain ⟨b1, b2, b3, b4, b5, b6, b7, b8, b9, b10⟩ := pHead_ok hq
    exact ⟨b1, e.1, e.2.1, e.2.2.1, e.2.2.2, b6, b7, b9, b10⟩
  rw [← hst0] at a2
  obtain ⟨s1, b1, b2, b3, b4⟩ : ∃ s1, ab_X14_readAll_106 sv_fuel (B + 640) (nI V) (nI T) (nI S) (nI W) (nI 0) s0 = ab_X14_readAll_131 (B + 640) (nI V) (nI T) (nI S) (nI W) s1 ∧ LuS B g n (pL (pVtx g n) (g 3) 0 st0) s1 ∧ luk (B + 640) s0 s1 ∧ (∀ q, pL (pVtx g n) (g 3) 0 st0 = .ok q → q = 7 + 4 * g 3) := by
    cases hst : st0 with
    | ok q =>
      have k := K0 q hst
      exact r_vtxs (V := g 3) k.2.2.2.2.2.1 a4 (g 3) 0 sv_fuel s0 _ (by omega) (fuel_ge (by omega)) (by rw [← hst]; exact a2) (fun q1 h1 => by cases h1; exact ⟨k.2.1, by omega⟩)
    | error e =>
      obtain ⟨s1, b1, b2, b3, b4⟩ := r_vtxs (B := B) (g := g) (n := n) (V := 0) (T := T) (S := S) (W := W) (by omega) a4 0 0 sv_fuel s0 (.error e) (by omega) (fuel_ge (by omega)) (by rw [← hst]; exact a2) (fun q1 h1 => by cases h1)
      exact ⟨s1, b1, by rw [pL_err]; exact b2, b3, fun q hq => by rw [pL_err] at hq; cases hq⟩
  obtain ⟨st1, hst1⟩ : ∃ st1, st1 = pL (pVtx g n) (g 3) 0 st0 := ⟨_, rfl⟩
  rw [← hst1] at b2 b4
  have K1 : ∀ q, st1 = .ok q → ∃ q0, st0 = .ok q0 := fun q hq => by rw [hst1] at hq; exact pL_ok_of hq
  obtain ⟨s2, c1, c2, c3, c4⟩ : ∃ s2, ab_X14_readAll_131 (B + 640) (nI V) (nI T) (nI S) (nI W) s1 = ab_X14_readAll_157 (B + 640) (nI V) (nI T) (nI S) (nI W) s2 ∧ LuS B g n (pL (fun _ => pTex g n) (g 4) 0 st1) s2 ∧ luk (B + 640) s1 s2 ∧ (∀ q, pL (fun _ => pTex g n) (g 4) 0 st1 = .ok q → q = txp g (g 4)) := by
    cases hst : st1 with
    | ok q =>
      obtain ⟨q0, h0⟩ := K1 q hst
      have k := K0 q0 h0
      exact r_texs (T := g 4) (by omega) a5 (g 4) 0 sv_fuel s1 _ (by omega) (fuel_ge (by omega)) (by rw [← hst]; exact b2) (fun q1 h1 => by cases h1; exact ⟨k.2.2.1, b4 q hst⟩)
    | error e =>
      obtain ⟨s1, b1, b2, b3, b4⟩ := r_texs (B := B) (g := g) (n := n) (T := 0) (V := V) (S := S) (W := W) (by omega) a5 0 0 sv_fuel s1 (.error e) (by omega) (fuel_ge (by omega)) (by rw [← hst]; exact b2) (fun q1 h1 => by cases h1)
      exact ⟨s1, b1, by rw [pL_err]; exact b2, b3, fun q hq => by rw [pL_err] at hq; cases hq⟩
  obtain ⟨st2, hst2⟩ : ∃ st2, st2 = pL (fun _ => pTex g n) (g 4) 0 st1 := ⟨_, rfl⟩
  rw [← hst2] at c2 c4
  have K2 : ∀ q, st2 = .ok q → ∃ q0, st1 = .ok q0 := fun q hq => by rw [hst2] at hq; exact pL_ok_of hq
  obtain ⟨s3, d1, d2, d3, d4⟩ : ∃ s3, ab_X14_readAll_157 (B + 640) (nI V) (nI T) (nI S) (nI W) s2 = ab_X14_readAll_184 (B + 640) (nI V) (nI T) (nI S) (nI W) s3 ∧ LuS B g n (pL (fun _ => pSec g n (g 4)) (g 5) 0 st2) s3 ∧ luk (B + 640) s2 s3 ∧ (∀ q, pL (fun _ => pSec g n (g 4)) (g 5) 0 st2 = .ok q → q = txp g (g 4) + 9 * g 5) := by
    cases hst : st2 with
    | ok q =>
      obtain ⟨q1, h1⟩ := K2 q hst
      obtain ⟨q0, h0⟩ := K1 q1 h1
      have k := K0 q0 h0
      exact r_secs (T := g 4) (S := g 5) (P0 := txp g (g 4)) (by omega) (by omega) a6 (by omega) (g 5) 0 sv_fuel s2 _ (by omega) (fuel_ge (by omega)) (by rw [← hst]; exact c2) (fun q1 h1 => by cases h1; exact ⟨k.2.2.2.1, k.2.2.1, by rw [c4 q hst]; omega⟩)
    | error e =>
      obtain ⟨s1, b1, b2, b3, b4⟩ := r_secs (B := B) (g := g) (n := n) (T := 0) (T' := T) (V := V) (S := 0) (S' := S) (W := W) (P0 := 0) (by omega) (by omega) a6 (by omega) 0 0 sv_fuel s2 (.error e) (by omega) (fuel_ge (by omega)) (by rw [← hst]; exact c2) (fun q1 h1 => by cases h1)
      exact ⟨s1, b1, by rw [pL_err]; exact b2, b3, fun q hq => by rw [pL_err] at hq; cases hq⟩
  obtain ⟨st3, hst3⟩ : ∃ st3, st3 = pL (fun _ => pSec g n (g 4)) (g 5) 0 st2 := ⟨_, rfl⟩
  rw [← hst3] at d2 d4
  have K3 : ∀ q, st3 = .ok q → ∃ q0, st2 = .ok q0 := fun q hq => by rw [hst3] at hq; exact pL_ok_of hq
  have ob : st3 = pBody g n := by rw [hst3, hst2, hst1, hst0]; rfl
  have KK : ∀ q, st3 = .ok q → (V = g 3 ∧ T = g 4 ∧ S = g 5 ∧ W = g 6 ∧ g 3 ≤ 128 ∧ g 4 ≤ 16 ∧ g 5 ≤ 32 ∧ g 6 ≤ 128) ∧ q = wlp g 0 ∧ 7 + 4 * g 3 ≤ n := by
    intro q hq
    obtain ⟨q2, h2⟩ := K3 q hq
    obtain ⟨q1, h1⟩ := K2 q2 h2
    obtain ⟨q0, h0⟩ := K1 q1 h1
    refine ⟨(K0 q0 h0).2, d4 q hq, ?_⟩
    rw [h1] at b2
    have := b2.2.2.2.2.2.2.1
    rw [← b4 q1 h1]; exact this
  obtain ⟨F', t1, t2⟩ := lu_p d2
  have hw7 : 7 ≤ wlp g 0 := by
    have : ∀ j, 7 ≤ txp g j := by
      intro j
      induction j with
      | zero => show 7 ≤ 7 + 4 * g 3; omega
      | succ j ih => exact Nat.le_trans ih (by show txp g j ≤ txp g j + 2 + 2 ^ (g (txp g j) + g (txp g j + 1)); rw [Nat.add_assoc]; exact Nat.le_add_right _ _)
    have := this (g 4)
    unfold wlp scp
    omega
  obtain ⟨s4, f1, f2, f3, f4⟩ : ∃ s4, ab_X14_readAll_184 (B + 640) (nI V) (nI T) (nI S) (nI W) s3 = ab_X14_readAll_220 (B + 640) (nI S) (nI W) (nI F') s4 ∧ LuS B g n (pL (fun _ => pWall g n (g 3) (g 4) (g 5)) (g 6) 0 st3) s4 ∧ luk (B + 640) s3 s4 ∧ (∀ q, pL (fun _ => pWall g n (g 3) (g 4) (g 5)) (g 6) 0 st3 = .ok q → q = wlp g 0 + 14 * g 6) := by
    unfold ab_X14_readAll_184
    rw [slet, t1]
    cases hst : st3 with
    | ok q =>
      have k := KK q hst
      exact r_walls (V := g 3) (T := g 4) (S := g 5) (W := g 6) (P0 := wlp g 0) (fi := nI F') (by omega) (by omega) (by omega) k.1.2.2.2.2.2.2.2 a7 hw7 (g 6) 0 sv_fuel s3 _ (by omega) (fuel_ge (by omega)) (by rw [← hst]; exact d2) (fun q1 h1 => by cases h1; exact ⟨k.1.2.2.2.1, k.1.1, k.1.2.1, k.1.2.2.1, by omega⟩)
    | error e =>
      obtain ⟨s1, b1, b2, b3, b4⟩ := r_walls (B := B) (g := g) (n := n) (V := 0) (V' := V) (T := 0) (T' := T) (S := 0) (S' := S) (W := 0) (P0 := wlp g 0) (fi := nI F') (by omega) (by omega) (by omega) (by omega) a7 hw7 0 0 sv_fuel s3 (.error e) (by omega) (fuel_ge (by omega)) (by rw [← hst]; exact d2) (fun q1 h1 => by cases h1)
      exact ⟨s1, b1, by rw [pL_err]; exact b2, b3, fun q hq => by rw [pL_err] at hq; cases hq⟩
  obtain ⟨st4, hst4⟩ : ∃ st4, st4 = pL (fun _ => pWall g n (g 3) (g 4) (g 5)) (g 6) 0 st3 := ⟨_, rfl⟩
  rw [← hst4] at f2 f4
  have K4 : ∀ q, st4 = .ok q → ∃ q0, st3 = .ok q0 := fun q hq => by rw [hst4] at hq; exact pL_ok_of hq
  have W4 : ∀ q, st4 = .ok q → wIn g n (wlp g 0) (g 6) := by
    intro q hq j hj
    obtain ⟨q3, h3⟩ := K4 q hq
    have k := KK q3 h3
    rw [hst4, h3] at hq
    obtain ⟨-, p2⟩ := pL_pos (n := n) (L := 14) (P := fun p => g p < g 3 ∧ g (p + 1) < g 3) (fun i p q hq => by
      obtain ⟨x1, x2, x3⟩ := pWall_ok hq
      exact ⟨x1, x2, x3.1, x3.2.1⟩) (g 6) 0 q3 q hq
    have := p2 j hj
    rw [k.2.1] at this
    omega
  obtain ⟨x1, s5, i1, i2, i3, -⟩ := lu_two f2 (-32768) 32767 (by omega) (by omega) (by omega) (by omega)
  rw [pTwoIn_full] at i2
  obtain ⟨x2, s6, j1, j2, j3, -⟩ := lu_two i2 (-32768) 32767 (by omega) (by omega) (by omega) (by omega)
  rw [pTwoIn_full] at j2
  obtain ⟨x3, s7, k1, k2, k3, -⟩ := lu_next j2 0 63 (by omega) (by omega) (by omega) (by omega)
  obtain ⟨x4, s8, l1, l2, l3, -⟩ := lu_next k2 0 ((S : Int) - 1) (by omega) (by omega) (by omega) (by omega)
  have l2 : LuS B g n (pStartC g n S st4) s8 := l2
  have eS : pStartC g n S st4 = pStartC g n (g 5) st4 := by
    cases hst : st4 with
    | ok q =>
      obtain ⟨q3, h3⟩ := K4 q hst
      rw [(KK q3 h3).1.2.2.1]
    | error e => rfl
  rw [eS] at l2
  obtain ⟨st5, hst5⟩ : ∃ st5, st5 = pStartC g n (g 5) st4 := ⟨_, rfl⟩
  rw [← hst5] at l2
  obtain ⟨s10, m1, m2, m3⟩ : ∃ s10, (vt_b (ab_X14_readCheck (B + 640) (vt_I s8 1508 (B + 640)) s8) fun _ h11 => vt_b (ab_X14_readCheck (B + 640) (vt_I s8 1509 (B + 640)) h11) fun _ h12 => some ((), h12)) = some ((), s10) ∧ LuS B g n (pCheckC g n st5) s10 ∧ luk (B + 640) s8 s10 := by
    cases hst : st5 with
    | error e =>
      rw [hst] at l2
      rw [r_check_err l2, vbs, r_check_err l2, vbs]
      exact ⟨s8, rfl, l2, luk.refl⟩
    | ok q =>
      rw [hst] at l2
      have c1 := ck1_lt g q
      have c2 := ck2_lt g q
      obtain ⟨s9, n1, n2, n3⟩ := r_check (due := ck1 g q) (by omega) l2
      obtain ⟨s10, o1, o2, o3⟩ := r_check (due := ck2 g q) (by omega) n2
      rw [l2.2.2.2.2.2.2.2.1, l2.2.2.2.2.2.2.2.2, n1, vbs, o1, vbs]
      refine ⟨s10, rfl, ?_, n3.trans o3⟩
      have : pCheckC g n (.ok q) = pbd (pbd (.ok q) (pEq g n (ck1 g q) 4)) (pEq g n (ck2 g q) 4) := by
        unfold pCheckC
        show pbd (pEq g n (ck1 g q) 4 q) _ = pbd (pEq g n (ck1 g q) 4 q) _
        cases z : pEq g n (ck1 g q) 4 q with
        | error e => rfl
        | ok q1 =>
          obtain ⟨u1, u2, u3⟩ := pEq_ok z
          subst u2
          rfl
      rw [this]; exact o2
  obtain ⟨st6, hst6⟩ : ∃ st6, st6 = pCheckC g n st5 := ⟨_, rfl⟩
  rw [← hst6] at m2
  have hTl : pTail g n st4 = pbd st6 (fun p => if p < n then .error (5, p) else .ok p) := by rw [hst6, hst5]; rfl
  obtain ⟨s11, n1, n2, n3⟩ : ∃ s11, (if vt_I s10 1504 (B + 640) = 0 then (if vt_I s10 1501 (B + 640) ≤ vt_I s10 1507 (B + 640) then ab_X14_readAll_314 (B + 640) (nI W) (nI F') s10 else vt_b (ab_X14_wrong (B + 640) 5 (vt_I s10 1507 (B + 640)) s10) fun _ h17 => ab_X14_readAll_314 (B + 640) (nI W) (nI F') h17) else ab_X14_readAll_314 (B + 640) (nI W) (nI F') s10) = ab_X14_readAll_314 (B + 640) (nI W) (nI F') s11 ∧ LuS B g n (pTail g n st4) s11 ∧ luk (B + 640) s10 s11 := by
    rw [hTl]
    cases hst : st6 with
    | error e =>
      rw [hst] at m2
      rw [if_neg m2.f1]
      exact ⟨s10, rfl, m2, luk.refl⟩
    | ok q =>
      rw [hst] at m2
      have hn := m2.1.2.1
      have hq := m2.2.2.2.2.2.2.1
      rw [if_pos m2.f0, m2.1.1, m2.2.2.2.2.2.1]
      by_cases c : q < n
      · obtain ⟨s11, o1, o2, o3⟩ := lu_wrong m2 5 q (by decide) (by decide)
        rw [if_neg (nI_ge (by omega) (by omega)), show (5 : Int32) = nI 5 from rfl, o1, vbs]
        refine ⟨s11, rfl, ?_, o3⟩
        show LuS B g n (if q < n then _ else _) s11
        rw [if_pos c]; exact o2
      · rw [if_pos (nI_le (by omega) (by omega))]
        refine ⟨s10, rfl, ?_, luk.refl⟩
        show LuS B g n (if q < n then _ else _) s10
        rw [if_neg c]; exact m2
  have K7 : ∀ q, pTail g n st4 = .ok q → ∃ q4, st4 = .ok q4 := by
    intro q hq
    rw [hst4, ob] at hq ⊢
    exact pMap_parts (ov := fun _ _ => true) hq
  obtain ⟨s12, p1, p2, p3⟩ : ∃ s12, ab_X14_readAll_314 (B + 640) (nI W) (nI F') s11 = some ((), s12) ∧ LuS B g n (pL (pOv (ovR g (wlp g 0)) (wlp g 0)) (g 6) 0 (pTail g n st4)) s12 ∧ luk (B + 640) s11 s12 := by
    unfold ab_X14_readAll_314
    cases hst : pTail g n st4 with
    | error e =>
      rw [hst] at n2
      obtain ⟨s12, q1, q2, q3⟩ := r_ov_out (B := B) (g := g) (n := n) (F := wlp g 0) (W := 0) (W' := W) (fi := nI F') (by omega) a7 0 0 sv_fuel s11 (.error e) (by omega) (fuel_ge (by omega)) n2 (fun q hq => by cases hq)
      exact ⟨s12, q1, by rw [pL_err]; exact q2, q3⟩
    | ok q =>
      obtain ⟨q4, h4⟩ := K7 q hst
      obtain ⟨q3, h3⟩ := K4 q4 h4
      have k := KK q3 h3
      rw [hst] at n2
      exact r_ov_out (B := B) (g := g) (n := n) (F := wlp g 0) (W := g 6) (W' := W) (fi := nI F') k.1.2.2.2.2.2.2.2 a7 (g 6) 0 sv_fuel s11 (.ok q) (by omega) (fuel_ge (by omega)) n2 (fun q hq => ⟨k.1.2.2.2.1, by rw [t2 q3 h3, k.2.1], W4 q4 h4⟩)
  have eM : pMap (ovR g (wlp g 0)) g n = pL (pOv (ovR g (wlp g 0)) (wlp g 0)) (g 6) 0 (pTail g n st4) := by
    unfold pMap
    rw [hst4, ob]
  refine ⟨s12, ?_, by rw [eM]; exact p2, ((((((((((a3.trans b3).trans c3).trans d3).trans f3).trans i3).trans j3).trans k3).trans l3).trans m3).trans n3).trans p3⟩
  rw [a1, b1, c1, d1, f1]
  unfold ab_X14_readAll_220
  rw [show (-32768 : Int32) = zI (-32768) from rfl, show (32767 : Int32) = zI 32767 from rfl, i1, vbs, j1, vbs, show (0 : Int32) = zI 0 from rfl, show (63 : Int32) = zI 63 from rfl, k1, vbs, nI_z S, show (1 : Int32) = zI 1 from rfl, zI_sub, l1, vbs, slet, slet]
  have split : ∀ {X : vt_S → Option (Unit × vt_S)}, (vt_b (ab_X14_readCheck (B + 640) (vt_I s8 1508 (B + 640)) s8) fun _ h11 => vt_b (ab_X14_readCheck (B + 640) (vt_I s8 1509 (B + 640)) h11) fun _ h12 => X h12) = X s10 := by
    intro X
    cases y1 : ab_X14_readCheck (B + 640) (vt_I s8 1508 (B + 640)) s8 with
    | none => rw [y1] at m1; cases m1
    | some o =>
      obtain ⟨u, h11⟩ := o
      rw [y1, vbs] at m1
      rw [vbs]
      cases y2 : ab_X14_readCheck (B + 640) (vt_I s8 1509 (B + 640)) h11 with
      | none => rw [y2] at m1; cases m1
      | some o =>
        obtain ⟨u, h12⟩ := o
        rw [y2, vbs] at m1
        cases m1
        rw [vbs]
  rw [split]
  simp only [slet]
  exact n1.trans p1
end LY
