section LX
variable {B : Nat} {g : Nat → Nat} {n : Nat}
theorem r_hd1 {st : PE} {s : vt_S} {k due : Nat} {K : Nat → Int32 → vt_S → Option (Unit × vt_S)} (hd : due < 256) (h : LuS B g n st s) (hk : ∀ q, st = .ok q → q = k) : ∃ s1, ab_X14_readAll_34 K (B + 640) (nI k) (nI due) s = K (B + 640) (nI (k + 1)) s1 ∧ LuS B g n (pbd st (pEq g n due 2)) s1 ∧ luk (B + 640) s s1 := by
  obtain ⟨r1, s1, a1, a2, a3, a4, a5⟩ := lu_next h 0 255 (by omega) (by omega) (by omega) (by omega)
  rw [pIn255 h.hb] at a2 a5
  have e12 : (nI r1 = nI due) = (r1 = due) := by rw [nI_eq (by omega) (by omega)]
  obtain ⟨s3, c1, c2, c3⟩ := lu_if a2 (X := ab_X14_readAll_62 K (B + 640) (nI k)) (c := decide (r1 ≠ due)) (f := 2) (pl := nI k) (by decide) (by decide) (fn := fun q => pIf (decide (r1 ≠ due)) (2, q - 1) q) (fun q hq => by
    obtain ⟨q1, y1, z1⟩ := pbd_ok hq
    obtain ⟨u1, u2⟩ := pOne_ok z1
    have := hk q1 y1
    exact ⟨q - 1, by rw [← this, show q - 1 = q1 by omega], rfl⟩)
  refine ⟨s3, ?_, ?_, a3.trans c3⟩
  · unfold ab_X14_readAll_34
    rw [show (0 : Int32) = zI 0 from rfl, show (255 : Int32) = zI 255 from rfl, a1, vbs, slet, show K (B + 640) (nI (k + 1)) s3 = ab_X14_readAll_62 K (B + 640) (nI k) s3 by unfold ab_X14_readAll_62; rw [nI_1], ← c1]
    by_cases c : vt_I s1 1504 (B + 640) = 0
    · rw [if_pos (show vt_I s1 1504 (B + 640) = zI 0 from c), if_pos c]
      by_cases d : r1 = due
      · rw [if_pos (by rw [e12]; exact d), if_neg (by rw [decide_eq_true_eq]; exact fun z => z d)]
      · rw [if_neg (by rw [e12]; exact d), if_pos (decide_eq_true d)]; rfl
    · rw [if_neg (show ¬ vt_I s1 1504 (B + 640) = zI 0 from c), if_neg c]
  · have : pbd st (pEq g n due 2) = pbd (pbd st (pOne n)) (fun q => pIf (decide (r1 ≠ due)) (2, q - 1) q) := by
      cases st with
      | error e => rfl
      | ok q =>
        show pEq g n due 2 q = pbd (pOne n q) _
        have a5' := a5 (q + 1)
        unfold pEq pOne
        by_cases c : q < n
        · have v := a5' (if_pos c)
          rw [show q + 1 - 1 = q by omega] at v
          rw [if_pos c, if_pos c]
          show _ = pIf _ _ _
          rw [show q + 1 - 1 = q by omega, ← v]
          by_cases d : r1 = due
          · rw [if_pos d, decide_eq_false (fun z => z d)]; rfl
          · rw [if_neg d, decide_eq_true d]; rfl
        · rw [if_neg c, if_neg c]; rfl
    rw [this]; exact c2
theorem r_head {s : vt_S} (h : LuS B g n (.ok 0) s) : ∃ s1 V T S W, ab_X14_readAll (B + 640) s = ab_X14_readAll_106 sv_fuel (B + 640) (nI V) (nI T) (nI S) (nI W) (nI 0) s1 ∧ LuS B g n (pHeadC g n (.ok 0)) s1 ∧ luk (B + 640) s s1 ∧ V < 256 ∧ T < 256 ∧ S < 256 ∧ W < 256 ∧ (∀ q, pHeadC g n (.ok 0) = .ok q → V = g 3 ∧ T = g 4 ∧ S = g 5 ∧ W = g 6) := by
  have f2 : ∃ k, sv_fuel = k + 4 := ⟨999999996, rfl⟩
  obtain ⟨k, hk⟩ := f2
  obtain ⟨s1, a1, a2, a3⟩ := r_hd1 (due := 77) (k := 0) (K := ab_X14_readAll_2 (k + 3)) (by decide) h (fun q hq => by cases hq; rfl)
  obtain ⟨s3, c1, c2, c3⟩ : ∃ s3, ab_X14_readAll (B + 640) s = ab_X14_readAll_68 (B + 640) s3 ∧ LuS B g n (pbd (pbd (pbd (.ok 0) (pEq g n 77 2)) (pEq g n 72 2)) (pEq g n 1 2)) s3 ∧ luk (B + 640) s s3 := by
    have e0 : ab_X14_readAll (B + 640) s = ab_X14_readAll_2 (k + 3) (B + 640) (nI 1) s1 := by
      unfold ab_X14_readAll
      rw [hk]
      show ab_X14_readAll_2b (ab_X14_readAll_2 (k + 3)) (B + 640) 0 s = _
      unfold ab_X14_readAll_2b
      rw [if_neg (by decide), slet, if_pos h.f0, if_pos rfl]
      exact a1
    rw [e0]
    cases e1 : pbd (.ok 0) (pEq g n 77 2) with
    | error x =>
      rw [e1] at a2
      refine ⟨s1, ?_, a2, a3⟩
      show ab_X14_readAll_2b (ab_X14_readAll_2 (k + 2)) (B + 640) (nI 1) s1 = _
      unfold ab_X14_readAll_2b
      rw [if_neg (by decide), slet, if_neg a2.f1]
    | ok q1 =>
      rw [e1] at a2
      have q1e : q1 = 1 := by
        obtain ⟨p, y, z⟩ := pbd_ok e1
        cases y
        exact (pEq_ok z).2.1
      obtain ⟨s2, b1, b2, b3⟩ := r_hd1 (due := 72) (k := 1) (K := ab_X14_readAll_2 (k + 2)) (by decide) a2 (fun q hq => by cases hq; exact q1e)
      have e1 : ab_X14_readAll_2 (k + 3) (B + 640) (nI 1) s1 = ab_X14_readAll_2 (k + 2) (B + 640) (nI 2) s2 := by
        show ab_X14_readAll_2b (ab_X14_readAll_2 (k + 2)) (B + 640) (nI 1) s1 = _
        unfold ab_X14_readAll_2b
        rw [if_neg (by decide), slet, if_pos a2.f0, if_neg (by decide), if_pos (by decide)]
        exact b1
      rw [e1]
      cases e2 : pbd (.ok q1) (pEq g n 72 2) with
      | error x =>
        rw [e2] at b2
        refine ⟨s2, ?_, b2, a3.trans b3⟩
        show ab_X14_readAll_2b (ab_X14_readAll_2 (k + 1)) (B + 640) (nI 2) s2 = _
        unfold ab_X14_readAll_2b
        rw [if_neg (by decide), slet, if_neg b2.f1]
      | ok q2 =>
        rw [e2] at b2
        have q2e : q2 = 2 := by
          obtain ⟨p, y, z⟩ := pbd_ok e2
          cases y
          have := (pEq_ok z).2.1
          omega
        obtain ⟨s3, c1, c2, c3⟩ := r_hd1 (due := 1) (k := 2) (K := ab_X14_readAll_2 (k + 1)) (by decide) b2 (fun q hq => by cases hq; exact q2e)
        refine ⟨s3, ?_, c2, (a3.trans b3).trans c3⟩
        have e3 : ab_X14_readAll_2 (k + 2) (B + 640) (nI 2) s2 = ab_X14_readAll_2 (k + 1) (B + 640) (nI 3) s3 := by
          show ab_X14_readAll_2b (ab_X14_readAll_2 (k + 1)) (B + 640) (nI 2) s2 = _
          unfold ab_X14_readAll_2b
          rw [if_neg (by decide), slet, if_pos b2.f0, if_neg (by decide), if_neg (by decide)]
          exact c1
        rw [e3]
        show ab_X14_readAll_2b (ab_X14_readAll_2 k) (B + 640) (nI 3) s3 = _
        unfold ab_X14_readAll_2b
        rw [if_pos (by decide)]
  obtain ⟨V, s4, d1, d2, d3, d4, d5⟩ := lu_next c2 0 128 (by omega) (by omega) (by omega) (by omega)
  obtain ⟨T, s5, f1, f2, f3, f4, f5⟩ := lu_next d2 0 16 (by omega) (by omega) (by omega) (by omega)
  obtain ⟨S, s6, i1, i2, i3, i4, i5⟩ := lu_next f2 1 32 (by omega) (by omega) (by omega) (by omega)
  obtain ⟨W, s7, j1, j2, j3, j4, j5⟩ := lu_next i2 0 128 (by omega) (by omega) (by omega) (by omega)
  refine ⟨s7, V, T, S, W, ?_, j2, (((c3.trans d3).trans f3).trans i3).trans j3, d4, f4, i4, j4, fun q hq => ?_⟩
  · rw [c1]
    unfold ab_X14_readAll_68
    rw [show (0 : Int32) = zI 0 from rfl, show (128 : Int32) = zI 128 from rfl, d1, vbs, show (16 : Int32) = zI 16 from rfl, f1, vbs, show (1 : Int32) = zI 1 from rfl, show (32 : Int32) = zI 32 from rfl, i1, vbs, j1, vbs]
    rfl
  · have h7 := hq
    obtain ⟨p6, y6, z6⟩ := pbd_ok h7
    obtain ⟨p5, y5, z5⟩ := pbd_ok y6
    obtain ⟨p4, y4, z4⟩ := pbd_ok y5
    obtain ⟨p3, y3, z3⟩ := pbd_ok y4
    obtain ⟨-, u6, -⟩ := pIn_ok z6
    obtain ⟨-, u5, -⟩ := pIn_ok z5
    obtain ⟨-, u4, -⟩ := pIn_ok z4
    obtain ⟨-, u3, -⟩ := pIn_ok z3
    have q7 := (pHead_ok hq).1
    have V1 := d5 p4 y4
    have V2 := f5 p5 y5
    have V3 := i5 p6 y6
    have V4 := j5 q hq
    rw [show p4 - 1 = 3 by omega] at V1
    rw [show p5 - 1 = 4 by omega] at V2
    rw [show p6 - 1 = 5 by omega] at V3
    rw [show q - 1 = 6 by omega] at V4
    exact ⟨V1, V2, V3, V4⟩
theorem r_vtxs {V V' T S W : Nat} (hV : V ≤ 128) (hV' : V' < 256) : ∀ (d i fu : Nat) (s : vt_S) (st : PE), i + d = V → d < fu → LuS B g n st s → (∀ q, st = .ok q → V' = V ∧ q = 7 + 4 * i) →
    ∃ s1, ab_X14_readAll_106 fu (B + 640) (nI V') (nI T) (nI S) (nI W) (nI i) s = ab_X14_readAll_131 (B + 640) (nI V') (nI T) (nI S) (nI W) s1 ∧ LuS B g n (pL (pVtx g n) d i st) s1 ∧ luk (B + 640) s s1 ∧ (∀ q, pL (pVtx g n) d i st = .ok q → q = 7 + 4 * V) := by
  intro d
  induction d with
  | zero =>
    intro i fu s st hi hf r hd
    obtain ⟨fu, rfl⟩ : ∃ q, fu = q + 1 := ⟨fu - 1, by omega⟩
    refine ⟨s, ?_, r, luk.refl, fun q hq => by have := hd q hq; omega⟩
    show ab_X14_readAll_106b _ (B + 640) (nI V') (nI T) (nI S) (nI W) (nI i) s = _
    unfold ab_X14_readAll_106b
    cases st with
    | ok q => rw [if_pos (nI_le (by have := (hd q rfl).1; omega) (by omega))]
    | error e =>
      by_cases c : V' ≤ i
      · rw [if_pos (nI_le c (by omega))]
      · rw [if_neg (nI_ge (by omega) (by omega)), slet, if_neg r.f1]
  | succ d ih =>
    intro i fu s st hi hf r hd
    obtain ⟨fu, rfl⟩ : ∃ q, fu = q + 1 := ⟨fu - 1, by omega⟩
    show ∃ s1, ab_X14_readAll_106b _ (B + 640) (nI V') (nI T) (nI S) (nI W) (nI i) s = _ ∧ _
    unfold ab_X14_readAll_106b
    cases st with
    | error e =>
      refine ⟨s, ?_, by rw [pL_err]; exact r, luk.refl, fun q hq => by rw [pL_err] at hq; cases hq⟩
      by_cases c : V' ≤ i
      · rw [if_pos (nI_le c (by omega))]
      · rw [if_neg (nI_ge (by omega) (by omega)), slet, if_neg r.f1]
    | ok q =>
      obtain ⟨d1, d2⟩ := hd q rfl
      obtain ⟨s2, a1, a2, a3⟩ := r_vtx (i := i) (by omega) r (fun q hq => by cases hq; exact d2)
      rw [if_neg (nI_ge (by omega) (by omega)), slet, if_pos r.f0, a1, vbs, nI_1]
      obtain ⟨s1, e1, e2, e3, e4⟩ := ih (i + 1) fu s2 _ (by omega) (by omega) a2 (fun q1 hq1 => by
        obtain ⟨q0, y0, z0⟩ := pbd_ok hq1
        cases y0
        obtain ⟨u1, u2, -⟩ := pVtx_ok z0
        exact ⟨d1, by omega⟩)
      exact ⟨s1, e1, e2, a3.trans e3, e4⟩
theorem r_texs {V T T' S W : Nat} (hT : T ≤ 128) (hT' : T' < 256) : ∀ (d i fu : Nat) (s : vt_S) (st : PE), i + d = T → d < fu → LuS B g n st s → (∀ q, st = .ok q → T' = T ∧ q = txp g i) →
    ∃ s1, ab_X14_readAll_134 fu (B + 640) (nI V) (nI T') (nI S) (nI W) (nI i) s = ab_X14_readAll_157 (B + 640) (nI V) (nI T') (nI S) (nI W) s1 ∧ LuS B g n (pL (fun _ => pTex g n) d i st) s1 ∧ luk (B + 640) s s1 ∧ (∀ q, pL (fun _ => pTex g n) d i st = .ok q → q = txp g T) := by
  intro d
  induction d with
  | zero =>
    intro i fu s st hi hf r hd
    obtain ⟨fu, rfl⟩ : ∃ q, fu = q + 1 := ⟨fu - 1, by omega⟩
    refine ⟨s, ?_, r, luk.refl, fun q hq => by have := hd q hq; rw [this.2, show i = T by omega]⟩
    show ab_X14_readAll_134b _ (B + 640) (nI V) (nI T') (nI S) (nI W) (nI i) s = _
    unfold ab_X14_readAll_134b
    cases st with
    | ok q => rw [if_pos (nI_le (by have := (hd q rfl).1; omega) (by omega))]
    | error e =>
      by_cases c : T' ≤ i
      · rw [if_pos (nI_le c (by omega))]
      · rw [if_neg (nI_ge (by omega) (by omega)), slet, if_neg r.f1]
  | succ d ih =>
    intro i fu s st hi hf r hd
    obtain ⟨fu, rfl⟩ : ∃ q, fu = q + 1 := ⟨fu - 1, by omega⟩
    show ∃ s1, ab_X14_readAll_134b _ (B + 640) (nI V) (nI T') (nI S) (nI W) (nI i) s = _ ∧ _
    unfold ab_X14_readAll_134b
    cases st with
    | error e =>
      refine ⟨s, ?_, by rw [pL_err]; exact r, luk.refl, fun q hq => by rw [pL_err] at hq; cases hq⟩
      by_cases c : T' ≤ i
      · rw [if_pos (nI_le c (by omega))]
      · rw [if_neg (nI_ge (by omega) (by omega)), slet, if_neg r.f1]
    | ok q =>
      obtain ⟨d1, d2⟩ := hd q rfl
      obtain ⟨s2, a1, a2, a3⟩ := r_tex r
      rw [if_neg (nI_ge (by omega) (by omega)), slet, if_pos r.f0, a1, vbs, nI_1]
      obtain ⟨s1, e1, e2, e3, e4⟩ := ih (i + 1) fu s2 _ (by omega) (by omega) a2 (fun q1 hq1 => by
        obtain ⟨q0, y0, z0⟩ := pbd_ok hq1
        cases y0
        obtain ⟨u1, u2, -⟩ := pTex_ok z0
        exact ⟨d1, by rw [u1, d2]; rfl⟩)
      exact ⟨s1, e1, e2, a3.trans e3, e4⟩
theorem r_secs {V T T' S S' W P0 : Nat} (hT : T ≤ 255) (hS : S ≤ 128) (hS' : S' < 256) (hT' : T' ≤ 255) : ∀ (d i fu : Nat) (s : vt_S) (st : PE), i + d = S → d < fu → LuS B g n st s → (∀ q, st = .ok q → S' = S ∧ T' = T ∧ q = P0 + 9 * i) →
    ∃ s1, ab_X14_readAll_160 fu (B + 640) (nI V) (nI T') (nI S') (nI W) (nI i) s = ab_X14_readAll_184 (B + 640) (nI V) (nI T') (nI S') (nI W) s1 ∧ LuS B g n (pL (fun _ => pSec g n T) d i st) s1 ∧ luk (B + 640) s s1 ∧ (∀ q, pL (fun _ => pSec g n T) d i st = .ok q → q = P0 + 9 * S) := by
  intro d
  induction d with
  | zero =>
    intro i fu s st hi hf r hd
    obtain ⟨fu, rfl⟩ : ∃ q, fu = q + 1 := ⟨fu - 1, by omega⟩
    refine ⟨s, ?_, r, luk.refl, fun q hq => by have := hd q hq; omega⟩
    show ab_X14_readAll_160b _ (B + 640) (nI V) (nI T') (nI S') (nI W) (nI i) s = _
    unfold ab_X14_readAll_160b
    cases st with
    | ok q => rw [if_pos (nI_le (by have := (hd q rfl).1; omega) (by omega))]
    | error e =>
      by_cases c : S' ≤ i
      · rw [if_pos (nI_le c (by omega))]
      · rw [if_neg (nI_ge (by omega) (by omega)), slet, if_neg r.f1]
  | succ d ih =>
    intro i fu s st hi hf r hd
    obtain ⟨fu, rfl⟩ : ∃ q, fu = q + 1 := ⟨fu - 1, by omega⟩
    show ∃ s1, ab_X14_readAll_160b _ (B + 640) (nI V) (nI T') (nI S') (nI W) (nI i) s = _ ∧ _
    unfold ab_X14_readAll_160b
    cases st with
    | error e =>
      refine ⟨s, ?_, by rw [pL_err]; exact r, luk.refl, fun q hq => by rw [pL_err] at hq; cases hq⟩
      by_cases c : S' ≤ i
      · rw [if_pos (nI_le c (by omega))]
      · rw [if_neg (nI_ge (by omega) (by omega)), slet, if_neg r.f1]
    | ok q =>
      obtain ⟨d1, d3, d2⟩ := hd q rfl
      obtain ⟨s2, a1, a2, a3⟩ := r_sec (T := T) hT r
      rw [if_neg (nI_ge (by omega) (by omega)), slet, if_pos r.f0, d3, a1, vbs, nI_1]
      obtain ⟨s1, e1, e2, e3, e4⟩ := ih (i + 1) fu s2 _ (by omega) (by omega) a2 (fun q1 hq1 => by
        obtain ⟨q0, y0, z0⟩ := pbd_ok hq1
        cases y0
        obtain ⟨u1, u2, -⟩ := pSec_ok z0
        exact ⟨d1, d3, by omega⟩)
      rw [d3] at e1
      exact ⟨s1, e1, e2, a3.trans e3, e4⟩
theorem r_walls {V V' T T' S S' W W' P0 : Nat} {fi : Int32} (hV : V ≤ 255) (hT : T ≤ 255) (hS : S ≤ 255) (hW : W ≤ 128) (hW' : W' < 256) (hP0 : 7 ≤ P0) : ∀ (d i fu : Nat) (s : vt_S) (st : PE), i + d = W → d < fu → LuS B g n st s → (∀ q, st = .ok q → W' = W ∧ V' = V ∧ T' = T ∧ S' = S ∧ q = P0 + 14 * i) →
    ∃ s1, ab_X14_readAll_193 fu (B + 640) (nI V') (nI T') (nI S') (nI W') fi (nI i) s = ab_X14_readAll_220 (B + 640) (nI S') (nI W') fi s1 ∧ LuS B g n (pL (fun _ => pWall g n V T S) d i st) s1 ∧ luk (B + 640) s s1 ∧ (∀ q, pL (fun _ => pWall g n V T S) d i st = .ok q → q = P0 + 14 * W) := by
  intro d
  induction d with
  | zero =>
    intro i fu s st hi hf r hd
    obtain ⟨fu, rfl⟩ : ∃ q, fu = q + 1 := ⟨fu - 1, by omega⟩
    refine ⟨s, ?_, r, luk.refl, fun q hq => by have := hd q hq; omega⟩
    show ab_X14_readAll_193b _ (B + 640) (nI V') (nI T') (nI S') (nI W') fi (nI i) s = _
    unfold ab_X14_readAll_193b
    cases st with
    | ok q => rw [if_pos (nI_le (by have := (hd q rfl).1; omega) (by omega))]
    | error e =>
      by_cases c : W' ≤ i
      · rw [if_pos (nI_le c (by omega))]
      · rw [if_neg (nI_ge (by omega) (by omega)), slet, if_neg r.f1]
  | succ d ih =>
    intro i fu s st hi hf r hd
    obtain ⟨fu, rfl⟩ : ∃ q, fu = q + 1 := ⟨fu - 1, by omega⟩
    show ∃ s1, ab_X14_readAll_193b _ (B + 640) (nI V') (nI T') (nI S') (nI W') fi (nI i) s = _ ∧ _
    unfold ab_X14_readAll_193b
    cases st with
    | error e =>
      refine ⟨s, ?_, by rw [pL_err]; exact r, luk.refl, fun q hq => by rw [pL_err] at hq; cases hq⟩
      by_cases c : W' ≤ i
      · rw [if_pos (nI_le c (by omega))]
      · rw [if_neg (nI_ge (by omega) (by omega)), slet, if_neg r.f1]
    | ok q =>
      obtain ⟨d1, d3, d4, d5, d2⟩ := hd q rfl
      obtain ⟨s2, a1, a2, a3⟩ := r_wall (V := V) (T := T) (S := S) hV hT hS r (fun q hq => by cases hq; omega)
      rw [if_neg (nI_ge (by omega) (by omega)), slet, if_pos r.f0, d3, d4, d5, a1, vbs, nI_1]
      obtain ⟨s1, e1, e2, e3, e4⟩ := ih (i + 1) fu s2 _ (by omega) (by omega) a2 (fun q1 hq1 => by
        obtain ⟨q0, y0, z0⟩ := pbd_ok hq1
        cases y0
        obtain ⟨u1, u2, -⟩ := pWall_ok z0
        exact ⟨d1, d3, d4, d5, by omega⟩)
      rw [d3, d4, d5] at e1
      exact ⟨s1, e1, e2, a3.trans e3, e4⟩
end LX
