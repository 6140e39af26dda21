-- ALL GROUPS, class and reference
def pGs (g : Nat → Nat) (n : Nat) : Nat → (Nat → IN) → Nat → Nat → Nat → PE × (Nat → IN) × Nat
  | 0, F, c, _, _ => (.error (1, n), F, c)
  | d + 1, F, c, tp, p => if p < n then (if g p = 0 then (.ok (p + 1), F, c) else match pGrp g n F (g p) c tp (p + 1) with
    | .error e => (.error e, F, c)
    | .ok q => pGs g n d (fun j => if j < c then F j else inG g (g p) (p + 1)) (c + g p % 64) (g p % 64) q) else (.error (1, n), F, c)
section GS
variable {B n R : Nat} {g : Nat → Nat}
theorem pGs_n {d c tp p : Nat} {F : Nat → IN} (h : ¬ p < n) : pGs g n (d + 1) F c tp p = (.error (1, n), F, c) := by
  unfold pGs; rw [if_neg h]
theorem pGs_z {d c tp p : Nat} {F : Nat → IN} (h : p < n) (h0 : g p = 0) : pGs g n (d + 1) F c tp p = (.ok (p + 1), F, c) := by
  unfold pGs; rw [if_pos h, if_pos h0]
theorem pGs_e {d c tp p : Nat} {F : Nat → IN} {e : Nat × Nat} (h : p < n) (h0 : g p ≠ 0) (he : pGrp g n F (g p) c tp (p + 1) = .error e) : pGs g n (d + 1) F c tp p = (.error e, F, c) := by
  unfold pGs; rw [if_pos h, if_neg h0, he]
theorem pGs_s {d c tp p q : Nat} {F : Nat → IN} (h : p < n) (h0 : g p ≠ 0) (he : pGrp g n F (g p) c tp (p + 1) = .ok q) : pGs g n (d + 1) F c tp p = pGs g n d (fun j => if j < c then F j else inG g (g p) (p + 1)) (c + g p % 64) (g p % 64) q := by
  rw [pGs, if_pos h, if_neg h0, he]
theorem pGrp_tp {F : Nat → IN} {h p : Nat} : pGrp g n F h 0 63 p = pGrp g n F h 0 0 p := by
  unfold pGrp pSame
  refine congrArg _ (funext fun q => ?_)
  rw [if_neg (by omega), if_neg (by omega)]
theorem pGs_tp {d p : Nat} {F : Nat → IN} : pGs g n d F 0 63 p = pGs g n d F 0 0 p := by
  cases d with
  | zero => rfl
  | succ d =>
    rw [pGs, pGs, pGrp_tp]
theorem pGrp_ok {F : Nat → IN} {h c tp p q : Nat} (e : pGrp g n F h c tp p = .ok q) : h % 64 ≠ 0 ∧ c + h % 64 ≤ 1024 := by
  unfold pGrp pSame at e
  obtain ⟨r, e1, -⟩ := pbd_ok e
  by_cases c1 : h % 64 = 0
  · rw [show pHd h c p = .error (3, p - 1) by unfold pHd; rw [if_pos c1], pWhl_err] at e1
    cases e1
  · by_cases c2 : 1024 < c + h % 64
    · rw [show pHd h c p = .error (5, p - 1) by unfold pHd; rw [if_neg c1, if_pos c2], pWhl_err] at e1
      cases e1
    · exact ⟨c1, by omega⟩
theorem c_41z {fu i : Nat} {s : vt_S} : ab_X5_read_41 (fu + 1) R (B + 5) 0 (nI i) s = ab_X5_read_65 R (B + 5) s := by
  show ab_X5_read_41b _ R (B + 5) 0 (nI i) s = _
  unfold ab_X5_read_41b
  split
  · rfl
  · rw [if_pos (by decide)]
theorem c_gs (hR : R ≠ B + 5) : ∀ (d fu : Nat) (s : vt_S) (F : Nat → IN) (c tp p i : Nat), 1024 < c + d → d + 1 < fu → i ≤ c → tp < 64 → tp ≠ 0 → RdS B g n (.ok p) s → runC s R F c → ∃ s1, ab_X5_read_41 fu R (B + 5) (nI tp) (nI i) s = ab_X5_read_65 R (B + 5) s1 ∧ RdS B g n (pGs g n d F c tp p).1 s1 ∧ (∀ q, (pGs g n d F c tp p).1 = .ok q → runC s1 R (pGs g n d F c tp p).2.1 (pGs g n d F c tp p).2.2) ∧ (∃ G m, runC s1 R G m) ∧ grw B R s s1 := by
  intro d
  induction d with
  | zero =>
    intro fu s F c tp p i h1 h2 h3 h4 h5 hS hr
    have := hr.2.1
    omega
  | succ d ih =>
    intro fu s F c tp p i h1 h2 h3 h4 h5 hS hr
    have hc := hr.2.1
    obtain ⟨fu, rfl⟩ : ∃ q, fu = q + 2 := ⟨fu - 2, by omega⟩
    have e0 : ab_X5_read_41 (fu + 2) R (B + 5) (nI tp) (nI i) s = vt_b (ab_X5_readGroup R (B + 5) (nI tp) s) fun r1 h2 => ab_X5_read_41 (fu + 1) R (B + 5) r1 (nI (i + 1)) h2 := by
      show ab_X5_read_41b _ R (B + 5) (nI tp) (nI i) s = _
      unfold ab_X5_read_41b
      rw [show (1024 : Int32) = nI 1024 from rfl, if_neg (Int32.not_lt.mpr (nI_le (show i ≤ 1024 by omega) (by omega))), if_neg (show ¬ nI tp ≤ 0 from nI_ge (a := 0) (b := tp) (by omega) (by omega)), nI_1]
    rw [e0]
    have z1 : vt_I s 501 (B + 5) = nI p := hS.2.2.2.2.1
    obtain ⟨r, s1, a1, a2, a3, a4, a5, a6⟩ := rd_one hS
    have zr : r = 0 → (vt_b (ab_X5_readGroup R (B + 5) (nI tp) s) fun r1 h2 => ab_X5_read_41 (fu + 1) R (B + 5) r1 (nI (i + 1)) h2) = ab_X5_read_65 R (B + 5) s1 := by
      intro er
      have : ab_X5_readGroup R (B + 5) (nI tp) s = some (0, s1) := by
        unfold ab_X5_readGroup
        rw [slet, a1, vbs, if_pos (by rw [er]; rfl)]
      rw [this, vbs]
      exact c_41z
    by_cases hp : p < n
    · have e1 : pbd (.ok p) (pOne n) = .ok (p + 1) := by
        show pOne n p = _
        unfold pOne
        rw [if_pos hp]
      have er : r = g p := by
        have := a5 (p + 1) e1
        rwa [Nat.add_sub_cancel] at this
      by_cases h0 : g p = 0
      · rw [pGs_z hp h0]
        rw [e1] at a2
        exact ⟨s1, zr (er.trans h0), a2, fun q _ => hr.onl a3 hR, ⟨F, c, hr.onl a3 hR⟩, onl.grw a3⟩
      · obtain ⟨r, s2, b1, b2, b3, b4, b5⟩ := c_group2 hR h4 hp h0 hS hr
        rw [b1, vbs]
        cases hg : pGrp g n F (g p) c tp (p + 1) with
        | error e =>
          rw [pGs_e hp h0 hg]
          rw [hg] at b2
          obtain ⟨x1, x2⟩ := b4 e hg
          rw [x1]
          exact ⟨s2, c_41z, b2, fun q z => (by cases z), x2, b5⟩
        | ok q =>
          rw [pGs_s hp h0 hg]
          rw [hg] at b2
          obtain ⟨x1, x2⟩ := b3 q hg
          obtain ⟨y1, y2⟩ := pGrp_ok hg
          obtain ⟨s3, d1, d2, d3, d4, d5⟩ := ih (fu + 1) s2 _ (c + g p % 64) (g p % 64) q (i + 1) (by omega) (by omega) (by omega) (by omega) y1 b2 x2
          rw [x1]
          exact ⟨s3, d1, d2, d3, d4, b5.trans d5⟩
    · have e1 : pbd (.ok p) (pOne n) = .error (1, n) := by
        show pOne n p = _
        unfold pOne
        rw [if_neg hp]
      rw [pGs_n hp]
      have := a6 (1, n) e1
      rw [e1] at a2
      exact ⟨s1, zr this, a2, fun q z => (by cases z), ⟨F, c, hr.onl a3 hR⟩, onl.grw a3⟩
theorem t_110z {fu : Nat} {x : Int32} {s : vt_S} : ab_X15_readAll_110 (fu + 1) (B + 643) x 0 s = ab_X15_readAll_140 (B + 643) s := by
  show ab_X15_readAll_110b _ (B + 643) x 0 s = _
  unfold ab_X15_readAll_110b
  rw [if_pos (by decide)]
theorem t_gs : ∀ (d fu : Nat) (s : vt_S) (F : Nat → IN) (c tp p : Nat), 1024 < c + d → d < fu → tp < 64 → (tp = 0 ↔ c = 0) → TpS B g n (.ok p) s → vt_I s 1615 (B + 643) = nI c → runT B s F c → ∃ s1, (vt_b (ab_X15_next (B + 643) s) fun r3 h4 => ab_X15_readAll_110 fu (B + 643) (nI tp) r3 h4) = ab_X15_readAll_140 (B + 643) s1 ∧ TpS B g n (pGs g n d F c tp p).1 s1 ∧ (∀ q, (pGs g n d F c tp p).1 = .ok q → vt_I s1 1615 (B + 643) = nI (pGs g n d F c tp p).2.2 ∧ runT B s1 (pGs g n d F c tp p).2.1 (pGs g n d F c tp p).2.2) ∧ vk grpW [1611, 1612, 1613, 1614] [] (fun _ => True) s s1 := by
  intro d
  induction d with
  | zero =>
    intro fu s F c tp p h1 h2 h4 h5 hS h15 hT
    have := hT.1
    omega
  | succ d ih =>
    intro fu s F c tp p h1 h2 h4 h5 hS h15 hT
    have hc := hT.1
    obtain ⟨fu, rfl⟩ : ∃ q, fu = q + 1 := ⟨fu - 1, by omega⟩
    obtain ⟨b, s1, a1, a2, a3, a4, a5, a6⟩ := t_next hS
    have k1 : vk grpW [1611, 1612, 1613, 1614] [] (fun _ => True) s s1 := a3.weak (by decide) (by decide) (by decide)
    have h15' : vt_I s1 1615 (B + 643) = nI c := by rw [a3.eI (by decide)]; exact h15
    have hT1 : runT B s1 F c := a3.keep0 (P := fun t => runT B t F c) hT
    rw [a1, vbs]
    by_cases hp : p < n
    · have e1 : pbd (.ok p) (pOne n) = .ok (p + 1) := by
        show pOne n p = _
        unfold pOne
        rw [if_pos hp]
      have er : b = g p := by
        have := (a5 (p + 1) e1).1
        rwa [Nat.add_sub_cancel] at this
      rw [e1] at a4
      by_cases h0 : g p = 0
      · rw [pGs_z hp h0, er, h0]
        exact ⟨s1, t_110z, a4, fun q _ => ⟨h15', hT1⟩, k1⟩
      · subst er
        obtain ⟨s2, b1, b2, b3, b4⟩ := t_group (F := F) a2 (show 1 ≤ p + 1 by omega) h4 h5 a4 h15' hT1
        have e110 : ab_X15_readAll_110 (fu + 1) (B + 643) (nI tp) (nI (g p)) s1 = vt_b (ab_X15_next (B + 643) s2) fun r3 h4 => ab_X15_readAll_110 fu (B + 643) (nI (g p % 64)) r3 h4 := by
          show ab_X15_readAll_110b _ (B + 643) (nI tp) (nI (g p)) s1 = _
          unfold ab_X15_readAll_110b
          have z7 : vt_I s1 1617 (B + 643) = 0 := a4.2.2.1
          have e64 : nI (g p) - nI (g p) / 64 * 64 = nI (g p % 64) := by
            rw [nI_z, z_64, zI_divP (by omega) (by omega) (by omega) (by omega), zI_mul, zI_sub, nI_z]
            refine congrArg zI ?_
            omega
          rw [if_neg (show ¬ nI (g p) ≤ 0 from nI_ge (a := 0) (b := g p) (by omega) (by omega)), slet, z7, if_pos rfl, b1, vbs, e64]
        rw [e110]
        cases hg : pGrp g n F (g p) c tp (p + 1) with
        | error e =>
          rw [pGs_e hp h0 hg]
          rw [hg] at b3
          obtain ⟨b', s3, d1, d2, d3, d4, d5, d6⟩ := t_next b3
          obtain ⟨fu, rfl⟩ : ∃ q, fu = q + 1 := ⟨fu - 1, by omega⟩
          rw [d1, vbs, d6 e rfl]
          exact ⟨s3, t_110z, d4, fun q z => (by cases z), (k1.trans b2).trans (d3.weak (by decide) (by decide) (by decide))⟩
        | ok q =>
          rw [pGs_s hp h0 hg]
          rw [hg] at b3
          obtain ⟨x1, x2⟩ := b4 q hg
          obtain ⟨y1, y2⟩ := pGrp_ok hg
          obtain ⟨s3, d1, d2, d3, d4⟩ := ih fu s2 _ (c + g p % 64) (g p % 64) q (by omega) (by omega) (by omega) (by omega) b3 x1 x2
          exact ⟨s3, d1, d2, d3, (k1.trans b2).trans d4⟩
    · have e1 : pbd (.ok p) (pOne n) = .error (1, n) := by
        show pOne n p = _
        unfold pOne
        rw [if_neg hp]
      rw [pGs_n hp, a6 (1, n) e1]
      rw [e1] at a4
      exact ⟨s1, t_110z, a4, fun q z => (by cases z), k1⟩
end GS
