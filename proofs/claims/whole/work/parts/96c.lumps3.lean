section LW
variable {B : Nat} {g : Nat → Nat} {n : Nat}
theorem lu_if {st : PE} {s : vt_S} (h : LuS B g n st s) {X : vt_S → Option (Unit × vt_S)} {c : Bool} {f : Nat} {pl : Int32} (h0 : f ≠ 0) (h1 : f < 100) {fn : Nat → PE} (e : ∀ q, st = .ok q → ∃ p, pl = nI p ∧ fn q = pIf c (f, p) q) : ∃ s1, (if vt_I s 1504 (B + 640) = 0 then (if c = true then vt_b (ab_X14_wrong (B + 640) (nI f) pl s) fun _ h7 => X h7 else X s) else X s) = X s1 ∧ LuS B g n (pbd st fn) s1 ∧ luk (B + 640) s s1 := by
  cases st with
  | error x => rw [if_neg h.f1]; exact ⟨s, rfl, h, luk.refl⟩
  | ok q =>
    obtain ⟨p, e1, e2⟩ := e q rfl
    rw [if_pos h.f0]
    show ∃ s1, _ ∧ LuS B g n (fn q) s1 ∧ _
    rw [e2]
    cases c with
    | false => rw [if_neg (by decide)]; exact ⟨s, rfl, h, luk.refl⟩
    | true =>
      obtain ⟨s2, w1, w2, w3⟩ := lu_wrong h f p h0 h1
      rw [if_pos rfl, e1, w1, vbs]
      exact ⟨s2, rfl, w2, w3⟩
theorem r_sec {T : Nat} {s : vt_S} {st : PE} (hT : T ≤ 255) (h : LuS B g n st s) : ∃ s1, ab_X14_readSector (B + 640) (nI T) s = some ((), s1) ∧ LuS B g n (pbd st (pSec g n T)) s1 ∧ luk (B + 640) s s1 := by
  obtain ⟨x, s1, a1, a2, a3, a4, a5, a6⟩ := lu_two h (-1024) 1024 (by omega) (by omega) (by omega) (by omega)
  obtain ⟨at_, t1, t2⟩ := lu_p a2
  obtain ⟨y, s2, b1, b2, b3, b4, b5, b6⟩ := lu_two a2 (-1024) 1024 (by omega) (by omega) (by omega) (by omega)
  have exy := zI_lt (a := x) (b := y) (by omega) (by omega) (by omega) (by omega)
  obtain ⟨s3, c1, c2, c3⟩ := lu_if b2 (X := ab_X14_readSector_47 (B + 640) (nI T)) (c := decide (y ≤ x)) (f := 3) (pl := nI at_) (by decide) (by decide) (fn := fun q => pIf (decide (pr g (q - 2) ≤ pr g (q - 4))) (3, q - 2) q) (fun q hq => by
    obtain ⟨q1, y1, z1⟩ := pbd_ok hq
    obtain ⟨u1, u2, -⟩ := pTwoIn_ok z1
    have := t2 q1 y1
    refine ⟨at_, rfl, ?_⟩
    rw [a6 q1 y1, b6 q hq, show q1 - 2 = q - 4 by omega, show q - 2 = at_ by omega])
  have e0 : ab_X14_readSector (B + 640) (nI T) s = ab_X14_readSector_47 (B + 640) (nI T) s3 := by
    unfold ab_X14_readSector
    rw [show (-1024 : Int32) = zI (-1024) from rfl, show (1024 : Int32) = zI 1024 from rfl, a1, vbs, slet, t1, b1, vbs, slet, ← c1]
    by_cases c : vt_I s2 1504 (B + 640) = 0
    · rw [if_pos c, if_pos c]
      by_cases d : x < y
      · rw [if_pos (by rw [exy]; exact d), if_neg (by rw [decide_eq_true_eq]; omega)]
      · rw [if_neg (by rw [exy]; exact d), if_pos (by rw [decide_eq_true_eq]; omega)]; rfl
    · rw [if_neg c, if_neg c]
  rw [e0]
  obtain ⟨r1, s4, d1, d2, d3, -, -⟩ := lu_next c2 0 ((T : Int) - 1) (by omega) (by omega) (by omega) (by omega)
  obtain ⟨r2, s5, f1, f2, f3, -, -⟩ := lu_or d2 T hT
  obtain ⟨r3, s6, i1, i2, i3, -, -⟩ := lu_next f2 0 15 (by omega) (by omega) (by omega) (by omega)
  obtain ⟨r4, s7, j1, j2, j3, -, -⟩ := lu_next i2 0 3 (by omega) (by omega) (by omega) (by omega)
  obtain ⟨r5, s8, k1, k2, k3, -, -⟩ := lu_next j2 0 255 (by omega) (by omega) (by omega) (by omega)
  rw [pIn255 h.hb] at k2
  refine ⟨s8, ?_, ?_, (((((((a3.trans b3).trans c3).trans d3).trans f3).trans i3).trans j3).trans k3)⟩
  · unfold ab_X14_readSector_47
    rw [nI_z T, show (1 : Int32) = zI 1 from rfl, zI_sub, show (0 : Int32) = zI 0 from rfl, d1, vbs, ← nI_z T, f1, vbs, show (15 : Int32) = zI 15 from rfl, i1, vbs, show (3 : Int32) = zI 3 from rfl, j1, vbs, show (255 : Int32) = zI 255 from rfl, k1, vbs]
  · rw [← pSecC_eq]; exact k2
theorem r_wtx_loop {T bk : Nat} (hT : T ≤ 255) (hbk : bk < 256) : ∀ (d k fu : Nat) (s : vt_S) (st : PE), k + d = 6 → d < fu → LuS B g n st s → (∀ q, st = .ok q → 6 ≤ q ∧ bk = g (q - 1 - k)) →
    ∃ s1 fu1, ab_X14_readWall_65 fu (B + 640) (nI T) (nI bk) (nI k) s = ab_X14_readWall_65b (ab_X14_readWall_65 fu1) (B + 640) (nI T) (nI bk) (nI 6) s1 ∧ LuS B g n (pL (pWtx g n T) d k st) s1 ∧ luk (B + 640) s s1 := by
  intro d
  induction d with
  | zero =>
    intro k fu s st hk hf r hd
    obtain ⟨fu, rfl⟩ : ∃ q, fu = q + 1 := ⟨fu - 1, by omega⟩
    obtain rfl : k = 6 := by omega
    exact ⟨s, fu, rfl, r, luk.refl⟩
  | succ d ih =>
    intro k fu s st hk hf r hd
    obtain ⟨fu, rfl⟩ : ∃ q, fu = q + 1 := ⟨fu - 1, by omega⟩
    obtain ⟨r9, s2, a1, a2, a3, a4, a5⟩ := lu_or r T hT
    have e255 : (nI bk = 255) = (bk = 255) := by rw [show (255 : Int32) = nI 255 from rfl, nI_eq (by omega) (by omega)]
    have e256 : (nI r9 = 255) = (r9 = 255) := by rw [show (255 : Int32) = nI 255 from rfl, nI_eq (by omega) (by omega)]
    have ek : (nI k ≤ 2) = (k ≤ 2) := by
      rw [nI_z, show (2 : Int32) = zI 2 from rfl, zI_le (by omega) (by omega) (by omega) (by omega)]
      exact propext ⟨fun z => by omega, fun z => by omega⟩
    obtain ⟨s3, c1, c2, c3⟩ := lu_if a2 (X := ab_X14_readWall_119 (ab_X14_readWall_65 fu) (B + 640) (nI T) (nI bk) (nI k)) (c := decide (2 < k ∧ bk = 255 ∧ r9 ≠ 255)) (f := 3) (pl := vt_I s2 1507 (B + 640) - 1) (by decide) (by decide) (fn := fun q => pIf (decide (2 < k ∧ bk = 255 ∧ r9 ≠ 255)) (3, q - 1) q) (fun q hq => by
      obtain ⟨q1, y1, z1⟩ := pbd_ok hq
      obtain ⟨u1, u2, -⟩ := pOr_ok z1
      rw [hq] at a2
      refine ⟨q - 1, ?_, rfl⟩
      rw [a2.2.2.2.2.2.1, u2, (z_down q1).1, show q1 + 1 - 1 = q1 by omega])
    have e0 : ab_X14_readWall_65 (fu + 1) (B + 640) (nI T) (nI bk) (nI k) s = ab_X14_readWall_65 fu (B + 640) (nI T) (nI bk) (nI (k + 1)) s3 := by
      show ab_X14_readWall_65b _ (B + 640) (nI T) (nI bk) (nI k) s = _
      unfold ab_X14_readWall_65b
      rw [if_neg (show ¬ (6 : Int32) ≤ nI k from nI_ge (b := 6) (by omega) (by omega)), a1, vbs, slet, show ab_X14_readWall_65 fu (B + 640) (nI T) (nI bk) (nI (k + 1)) s3 = ab_X14_readWall_119 (ab_X14_readWall_65 fu) (B + 640) (nI T) (nI bk) (nI k) s3 by unfold ab_X14_readWall_119; rw [nI_1], ← c1]
      by_cases c : vt_I s2 1504 (B + 640) = 0
      · rw [if_pos c, if_pos c]
        by_cases k2 : k ≤ 2
        · rw [if_pos (by rw [ek]; exact k2), if_neg (by rw [decide_eq_true_eq]; omega)]
        · rw [if_neg (by rw [ek]; exact k2)]
          by_cases b2 : bk = 255
          · rw [if_pos (by rw [e255]; exact b2)]
            by_cases r2 : r9 = 255
            · rw [if_pos (by rw [e256]; exact r2), if_neg (by rw [decide_eq_true_eq]; omega)]
            · rw [if_neg (by rw [e256]; exact r2), if_pos (by rw [decide_eq_true_eq]; omega), slet]; rfl
          · rw [if_neg (by rw [e255]; exact b2), if_neg (by rw [decide_eq_true_eq]; omega)]
      · rw [if_neg c, if_neg c]
    have eq : pbd st (pWtx g n T k) = pbd (pbd st (pOr g n T)) (fun q => pIf (decide (2 < k ∧ bk = 255 ∧ r9 ≠ 255)) (3, q - 1) q) := by
      cases st with
      | error e => rfl
      | ok q =>
        have hq := hd q rfl
        show pWtx g n T k q = pbd (pOr g n T q) _
        unfold pWtx
        rw [← hq.2]
        have a5' := a5 (q + 1)
        by_cases c : k < 3 ∨ bk ≠ 255
        · rw [if_pos c]
          cases e : pOr g n T q with
          | error x => rfl
          | ok q1 =>
            show _ = pIf _ _ _
            rw [decide_eq_false (by omega)]; rfl
        · rw [if_neg c]
          unfold pOr
          by_cases hn : q < n
          · rw [if_pos hn, if_pos hn]
            by_cases g255 : g q = 255
            · rw [if_neg (by omega), if_neg (by omega)]
              show _ = pIf _ _ _
              have : r9 = 255 := by
                have := a5' (by show pOr g n T q = _; unfold pOr; rw [if_pos hn, if_neg (by omega)])
                rw [this, show q + 1 - 1 = q by omega, g255]
              rw [decide_eq_false (by omega)]; rfl
            · rw [if_pos (by omega)]
              by_cases hT2 : T ≤ g q
              · rw [if_pos ⟨hT2, g255⟩]; rfl
              · rw [if_neg (by omega)]
                show _ = pIf _ _ _
                have : r9 = g q := by
                  have := a5' (by show pOr g n T q = _; unfold pOr; rw [if_pos hn, if_neg (by omega)])
                  rw [this, show q + 1 - 1 = q by omega]
                rw [decide_eq_true (by omega)]
                show _ = Except.error (3, q + 1 - 1)
                rw [show q + 1 - 1 = q by omega]
          · rw [if_neg hn, if_neg hn]; rfl
    rw [← eq] at c2
    obtain ⟨s1, fu1, e1, e2, e3⟩ := ih (k + 1) fu s3 _ (by omega) (by omega) c2 (fun q1 hq1 => by
      obtain ⟨q0, y0, z0⟩ := pbd_ok hq1
      obtain ⟨u1, u2, -⟩ := pOr_ok z0
      have := hd q0 y0
      exact ⟨by omega, by rw [this.2, show q1 - 1 - (k + 1) = q0 - 1 - k by omega]⟩)
    exact ⟨s1, fu1, by rw [e0]; exact e1, e2, (a3.trans c3).trans e3⟩
theorem r_wall {V T S : Nat} {s : vt_S} {st : PE} (hV : V ≤ 255) (hT : T ≤ 255) (hS : S ≤ 255) (h : LuS B g n st s) (hq7 : ∀ q, st = .ok q → 7 ≤ q) : ∃ s1, ab_X14_readWall (B + 640) (nI V) (nI T) (nI S) s = some ((), s1) ∧ LuS B g n (pbd st (pWall g n V T S)) s1 ∧ luk (B + 640) s s1 := by
  obtain ⟨r1, s1, a1, a2, a3, a4, a5⟩ := lu_next h 0 ((V : Int) - 1) (by omega) (by omega) (by omega) (by omega)
  obtain ⟨r2, s2, b1, b2, b3, b4, b5⟩ := lu_next a2 0 ((V : Int) - 1) (by omega) (by omega) (by omega) (by omega)
  have e12 : (nI r1 = nI r2) = (r1 = r2) := by rw [nI_eq (by omega) (by omega)]
  obtain ⟨s3, c1, c2, c3⟩ := lu_if b2 (X := ab_X14_readWall_45 (B + 640) (nI T) (nI S)) (c := decide (r1 = r2)) (f := 3) (pl := vt_I s2 1507 (B + 640) - 1) (by decide) (by decide) (fn := fun q => pIf (decide (g (q - 2) = g (q - 1))) (3, q - 1) q) (fun q hq => by
    obtain ⟨q1, y1, z1⟩ := pbd_ok hq
    obtain ⟨u1, u2, -⟩ := pIn_ok z1
    have v1 := a5 q1 y1
    have v2 := b5 q hq
    rw [hq] at b2
    refine ⟨q - 1, ?_, ?_⟩
    · rw [b2.2.2.2.2.2.1, u2, (z_down q1).1, show q1 + 1 - 1 = q1 by omega]
    · rw [v1, v2, show q - 2 = q1 - 1 by omega])
  have e0 : ab_X14_readWall (B + 640) (nI V) (nI T) (nI S) s = ab_X14_readWall_45 (B + 640) (nI T) (nI S) s3 := by
    unfold ab_X14_readWall
    rw [nI_z V, show (1 : Int32) = zI 1 from rfl, zI_sub, show (0 : Int32) = zI 0 from rfl, a1, vbs, b1, vbs, slet, ← c1]
    by_cases c : vt_I s2 1504 (B + 640) = 0
    · rw [if_pos (show vt_I s2 1504 (B + 640) = zI 0 from c), if_pos c]
      by_cases d : r1 = r2
      · rw [if_pos (by rw [e12]; exact d), if_pos (decide_eq_true d), slet]; rfl
      · rw [if_neg (by rw [e12]; exact d), if_neg (by rw [decide_eq_true_eq]; exact d)]
    · rw [if_neg (show ¬ vt_I s2 1504 (B + 640) = zI 0 from c), if_neg c]
  obtain ⟨r4, s4, d1, d2, d3, -, -⟩ := lu_next c2 0 ((S : Int) - 1) (by omega) (by omega) (by omega) (by omega)
  obtain ⟨bk, s5, f1, f2, f3, f4, f5⟩ := lu_or d2 S hS
  obtain ⟨s6, fu1, i1, i2, i3⟩ := r_wtx_loop (B := B) (g := g) (n := n) hT f4 6 0 sv_fuel s5 _ (by omega) (fuel_ge (by omega)) f2 (fun q hq => by
    have v := f5 q hq
    obtain ⟨q4, y4, z4⟩ := pbd_ok hq
    obtain ⟨u4, u5, -⟩ := pOr_ok z4
    obtain ⟨q3, y3, z3⟩ := pbd_ok y4
    obtain ⟨-, u6, -⟩ := pIn_ok z3
    obtain ⟨q2, y2, z2⟩ := pbd_ok y3
    obtain ⟨-, u7⟩ := pIf_ok z2
    obtain ⟨q1, y1, z1⟩ := pbd_ok y2
    obtain ⟨-, u8, -⟩ := pIn_ok z1
    obtain ⟨q0, y0, z0⟩ := pbd_ok y1
    obtain ⟨-, u9, -⟩ := pIn_ok z0
    have := hq7 q0 y0
    exact ⟨by omega, by rw [v, show q - 1 - 0 = q - 1 by omega]⟩)
  obtain ⟨r7, s7, j1, j2, j3, -, -⟩ := lu_next i2 0 255 (by omega) (by omega) (by omega) (by omega)
  obtain ⟨r8, s8, k1, k2, k3, -, -⟩ := lu_next j2 0 3 (by omega) (by omega) (by omega) (by omega)
  obtain ⟨r9, s9, l1, l2, l3, -, -⟩ := lu_next k2 0 5 (by omega) (by omega) (by omega) (by omega)
  obtain ⟨r10, s10, m1, m2, m3, -, -⟩ := lu_next l2 0 255 (by omega) (by omega) (by omega) (by omega)
  rw [pIn255 h.hb] at m2
  refine ⟨s10, ?_, ?_, (((((((((a3.trans b3).trans c3).trans d3).trans f3).trans i3).trans j3).trans k3).trans l3).trans m3)⟩
  · rw [e0]
    unfold ab_X14_readWall_45
    rw [nI_z S, show (1 : Int32) = zI 1 from rfl, zI_sub, show (0 : Int32) = zI 0 from rfl, d1, vbs, ← nI_z S, f1, vbs, show zI 0 = nI 0 from rfl, i1]
    unfold ab_X14_readWall_65b
    rw [if_pos (show (6 : Int32) ≤ nI 6 from nI_le (a := 6) (by omega) (by omega)), show (0 : Int32) = zI 0 from rfl, show (255 : Int32) = zI 255 from rfl, j1, vbs, show (3 : Int32) = zI 3 from rfl, k1, vbs, show (5 : Int32) = zI 5 from rfl, l1, vbs, m1, vbs]
  · rw [← pWallC_eq]; exact m2
theorem r_check {s : vt_S} {st : PE} {due : Nat} (hd : due < 256) (h : LuS B g n st s) : ∃ s1, ab_X14_readCheck (B + 640) (nI due) s = some ((), s1) ∧ LuS B g n (pbd st (pEq g n due 4)) s1 ∧ luk (B + 640) s s1 := by
  obtain ⟨p0, t1, t2⟩ := lu_p h
  obtain ⟨r1, s1, a1, a2, a3, a4, a5⟩ := lu_next h 0 255 (by omega) (by omega) (by omega) (by omega)
  rw [pIn255 h.hb] at a2 a5
  have e12 : (nI r1 = nI due) = (r1 = due) := by rw [nI_eq (by omega) (by omega)]
  obtain ⟨s3, c1, c2, c3⟩ := lu_if a2 (X := ab_X14_readCheck_32) (c := decide (r1 ≠ due)) (f := 4) (pl := nI p0) (by decide) (by decide) (fn := fun q => pIf (decide (r1 ≠ due)) (4, q - 1) q) (fun q hq => by
    obtain ⟨q1, y1, z1⟩ := pbd_ok hq
    obtain ⟨u1, u2⟩ := pOne_ok z1
    have := t2 q1 y1
    exact ⟨q - 1, by rw [this, show q - 1 = q1 by omega], rfl⟩)
  refine ⟨s3, ?_, ?_, a3.trans c3⟩
  · unfold ab_X14_readCheck
    rw [slet, t1, show (0 : Int32) = zI 0 from rfl, show (255 : Int32) = zI 255 from rfl, a1, vbs, slet, show some ((), s3) = ab_X14_readCheck_32 s3 from rfl, ← c1]
    by_cases c : vt_I s1 1504 (B + 640) = 0
    · rw [if_pos (show vt_I s1 1504 (B + 640) = zI 0 from c), if_pos c]
      by_cases d : r1 = due
      · rw [if_pos (by rw [e12]; exact d), if_neg (by rw [decide_eq_true_eq]; exact fun z => z d)]
      · rw [if_neg (by rw [e12]; exact d), if_pos (decide_eq_true d)]; rfl
    · rw [if_neg (show ¬ vt_I s1 1504 (B + 640) = zI 0 from c), if_neg c]
  · have : pbd st (pEq g n due 4) = pbd (pbd st (pOne n)) (fun q => pIf (decide (r1 ≠ due)) (4, q - 1) q) := by
      cases st with
      | error e => rfl
      | ok q =>
        show pEq g n due 4 q = pbd (pOne n q) _
        have a5' := a5 (q + 1)
        unfold pEq pOne
        by_cases c : q < n
        · have v := a5' (if_pos c)
          rw [show q + 1 - 1 = q by omega] at v
          rw [if_pos c, if_pos c]
          show _ = pIf _ _ _
          rw [show q + 1 - 1 = q by omega, ← v]
          by_cases d : r1 = due
          · rw [if_pos d, decide_eq_false (fun z => z d)]; rfl
          · rw [if_neg d, decide_eq_true d]; rfl
        · rw [if_neg c, if_neg c]; rfl
    rw [this]; exact c2
end LW
