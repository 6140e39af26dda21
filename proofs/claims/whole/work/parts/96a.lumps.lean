-- THE REFERENCE reads a map
/-- only the reference's reading numbers were changed -/
def luk (U : Nat) (s s1 : vt_S) : Prop := vt_z s1 = vt_z s ∧ vt_l s1 = vt_l s ∧ vt_J s1 = vt_J s ∧ vt_P s1 = vt_P s ∧ vt_E s1 = vt_E s ∧ vt_L s1 = vt_L s ∧ vt_A s1 = vt_A s ∧ vt_B s1 = vt_B s ∧ ∀ f a, ¬ (a = U ∧ 1504 ≤ f ∧ f ≤ 1509) → vt_I s1 f a = vt_I s f a
section LUK
variable {U : Nat} {s s1 s2 : vt_S}
theorem luk.refl : luk U s s := ⟨rfl, rfl, rfl, rfl, rfl, rfl, rfl, rfl, fun _ _ _ => rfl⟩
theorem luk.trans (h : luk U s s1) (k : luk U s1 s2) : luk U s s2 := by
  obtain ⟨h1, h2, h3, h4, h5, h6, h7, h8, h9⟩ := h
  obtain ⟨k1, k2, k3, k4, k5, k6, k7, k8, k9⟩ := k
  exact ⟨k1.trans h1, k2.trans h2, k3.trans h3, k4.trans h4, k5.trans h5, k6.trans h6, k7.trans h7, k8.trans h8, fun f a ha => (k9 f a ha).trans (h9 f a ha)⟩
theorem luk.put {f : Nat} {v : Int32} (h : luk U s s1) (h1 : 1504 ≤ f) (h2 : f ≤ 1509) : luk U s (vu_I s1 f U v) :=
  h.trans ⟨rfl, rfl, rfl, rfl, rfl, rfl, rfl, rfl, fun g a ha => I_ne (fun z => ha ⟨z.2, by omega, by omega⟩)⟩
theorem luk.I (h : luk U s s1) {f a : Nat} (ha : ¬ (a = U ∧ 1504 ≤ f ∧ f ≤ 1509)) : vt_I s1 f a = vt_I s f a := h.2.2.2.2.2.2.2.2 f a ha
theorem luk.A (h : luk U s s1) : vt_A s1 = vt_A s := h.2.2.2.2.2.2.1
theorem luk.L (h : luk U s s1) : vt_L s1 = vt_L s := h.2.2.2.2.2.1
theorem luk.P (h : luk U s s1) : vt_P s1 = vt_P s := h.2.2.2.1
end LUK
theorem rIn.luk {B : Nat} {s s1 : vt_S} {g : Nat → Nat} {n : Nat} (h : rIn B s g n) (k : luk (B + 640) s s1) : rIn B s1 g n := by
  unfold rIn
  rw [k.I (by omega), k.A]
  exact h
def LuS (B : Nat) (g : Nat → Nat) (n : Nat) (st : PE) (s : vt_S) : Prop := rIn B s g n ∧ vt_L s 1500 (B + 640) = 8192 ∧ (∃ p, vt_I s 1507 (B + 640) = nI p) ∧ match st with
  | .ok p => vt_I s 1504 (B + 640) = 0 ∧ vt_I s 1505 (B + 640) = -1 ∧ vt_I s 1507 (B + 640) = nI p ∧ p ≤ n ∧ vt_I s 1508 (B + 640) = nI (ck1 g p) ∧ vt_I s 1509 (B + 640) = nI (ck2 g p)
  | .error e => vt_I s 1504 (B + 640) = nI e.1 ∧ e.1 ≠ 0 ∧ e.1 < 100 ∧ vt_I s 1505 (B + 640) = nI e.2
theorem pIn255 {g : Nat → Nat} {n : Nat} (hb : ∀ i, i < n → g i < 256) : pIn g n 0 255 = pOne n := by
  funext p
  unfold pIn pOne
  by_cases c : p < n
  · have := hb p c
    rw [if_pos c, if_pos c, if_neg (by omega)]
  · rw [if_neg c, if_neg c]
theorem pTwoIn_full (g : Nat → Nat) (n : Nat) : pTwoIn g n (-32768) 32767 = pTwo n := by
  funext p
  unfold pTwoIn
  cases pTwo n p with
  | error e => simp only [pbd]
  | ok q =>
    have := pr_rng g (q - 2)
    simp only [pbd]
    rw [if_neg (by omega)]
section LU
variable {B : Nat} {g : Nat → Nat} {n : Nat} {st : PE} {s : vt_S}
theorem LuS.hb (h : LuS B g n st s) : ∀ i, i < n → g i < 256 := fun i hi => (h.1.2.2 i hi).2
theorem LuS.f0 {p : Nat} (h : LuS B g n (.ok p) s) : vt_I s 1504 (B + 640) = 0 := h.2.2.2.1
theorem LuS.f1 {e : Nat × Nat} (h : LuS B g n (.error e) s) : ¬ vt_I s 1504 (B + 640) = 0 := by rw [h.2.2.2.1]; exact e_ne0 h.2.2.2.2.1 h.2.2.2.2.2.1
theorem LuS.le {e : Nat × Nat} (h : LuS B g n (.error e) s) : ¬ vt_I s 1504 (B + 640) ≤ 0 := by
  have := h.2.2.2.2.2.1
  have h0 := h.2.2.2.2.1
  rw [h.2.2.2.1, show (0 : Int32) = nI 0 from rfl]
  exact nI_ge (by omega) (by omega)
theorem lu_p (h : LuS B g n st s) : ∃ p, vt_I s 1507 (B + 640) = nI p ∧ ∀ q, st = .ok q → p = q := by
  cases st with
  | ok p => exact ⟨p, h.2.2.2.2.2.1, fun q hq => by cases hq; rfl⟩
  | error e => obtain ⟨p, h1⟩ := h.2.2.1; exact ⟨p, h1, fun q hq => by cases hq⟩
theorem lu_wrong (h : LuS B g n st s) (f pl : Nat) (h0 : f ≠ 0) (h1 : f < 100) : ∃ s1, ab_X14_wrong (B + 640) (nI f) (nI pl) s = some ((), s1) ∧ LuS B g n (pbd st (fun _ => .error (f, pl))) s1 ∧ luk (B + 640) s s1 := by
  cases st with
  | ok p =>
    have k : luk (B + 640) s (vu_I (vu_I s 1504 (B + 640) (nI f)) 1505 (B + 640) (nI pl)) := (luk.refl.put (by omega) (by omega)).put (by omega) (by omega)
    refine ⟨vu_I (vu_I s 1504 (B + 640) (nI f)) 1505 (B + 640) (nI pl), ?_, ⟨h.1.luk k, h.2.1, ⟨p, ?_⟩, ?_, h0, h1, I_at⟩, k⟩
    · unfold ab_X14_wrong
      simp only [slet]
      rw [if_pos h.f0, ab_X14_wrong_17]
    · rw [I_ne (by omega), I_ne (by omega)]; exact h.2.2.2.2.2.1
    · rw [I_ne (by omega), I_at]
  | error e =>
    refine ⟨s, ?_, h, luk.refl⟩
    unfold ab_X14_wrong
    simp only [slet]
    rw [if_neg h.f1, ab_X14_wrong_17]
theorem lu_add64 {p b : Nat} (hb : b < 256) (hp : vt_I s 1507 (B + 640) = nI p) {c d : Nat} (h8 : vt_I s 1508 (B + 640) = nI c) (h9 : vt_I s 1509 (B + 640) = nI d) (hc : c < 251) (hd : d < 251) : ∃ s1, ab_X14_next_64 (B + 640) (nI b) s = some (nI b, s1) ∧ luk (B + 640) s s1 ∧ vt_I s1 1504 (B + 640) = vt_I s 1504 (B + 640) ∧ vt_I s1 1505 (B + 640) = vt_I s 1505 (B + 640) ∧ vt_I s1 1507 (B + 640) = nI (p + 1) ∧ vt_I s1 1508 (B + 640) = nI ((c + b) % 251) ∧ vt_I s1 1509 (B + 640) = nI ((d + (c + b) % 251) % 251) := by
  have m1 := Nat.mod_lt (c + b) (show 0 < 251 by decide)
  refine ⟨vu_I (vu_I (vu_I s 1508 (B + 640) (nI ((c + b) % 251))) 1509 (B + 640) (nI ((d + (c + b) % 251) % 251))) 1507 (B + 640) (nI (p + 1)), ?_, ((luk.refl.put (by omega) (by omega)).put (by omega) (by omega)).put (by omega) (by omega), ?_, ?_, I_at, ?_, ?_⟩
  · unfold ab_X14_next_64 ab_X14_add
    simp only [slet]
    rw [h8, nI_add, show (251 : Int32) = nI 251 from rfl, rem_nI (by omega) (by omega) (by omega), I_at, I_ne (by omega), h9, nI_add, rem_nI (by omega) (by omega) (by omega), vbs, I_ne (by omega), I_ne (by omega), hp, nI_1]
  · rw [I_ne (by omega), I_ne (by omega), I_ne (by omega)]
  · rw [I_ne (by omega), I_ne (by omega), I_ne (by omega)]
  · rw [I_ne (by omega), I_ne (by omega), I_at]
  · rw [I_ne (by omega), I_at]
theorem lu_next (h : LuS B g n st s) (lo hi : Int) (l1 : -100000 ≤ lo) (l2 : lo ≤ 100000) (h1 : -100000 ≤ hi) (h2 : hi ≤ 100000) : ∃ r s1, ab_X14_next (B + 640) (zI lo) (zI hi) s = some (nI r, s1) ∧ LuS B g n (pbd st (pIn g n lo hi)) s1 ∧ luk (B + 640) s s1 ∧ r < 256 ∧ (∀ q, pbd st (pIn g n lo hi) = .ok q → r = g (q - 1)) := by
  cases st with
  | error e =>
    refine ⟨0, s, ?_, h, luk.refl, by omega, fun q hq => by cases hq⟩
    unfold ab_X14_next
    rw [slet, if_neg h.le]
    rfl
  | ok p =>
    obtain ⟨hi1, hL, -, f4, f5, f7, hpn, f8, f9⟩ := id h
    obtain ⟨i1, i2, i3⟩ := id hi1
    unfold ab_X14_next
    simp only [slet]
    rw [f4, if_pos (by decide), f7, i1]
    by_cases c : p < n
    · have hb := i3 p c
      rw [if_neg (by rw [nI_eq (by omega) (by omega)]; omega), vl_I_ok (by omega) (by omega), obs, hb.1, sg8_and hb.2, nI_z (g p)]
      have e2 := zI_lt (a := g p) (b := lo) (by omega) (by omega) (by omega) (by omega)
      have e3 := zI_le (a := g p) (b := hi) (by omega) (by omega) (by omega) (by omega)
      by_cases d : (g p : Int) < lo ∨ hi < g p
      · have ep : pbd (.ok p) (pIn g n lo hi) = .error (3, p) := by
          show pIn g n lo hi p = _
          unfold pIn
          rw [if_pos c, if_pos d]
        rw [ep]
        obtain ⟨s2, w1, w2, w3⟩ := lu_wrong h 3 p (by decide) (by decide)
        have g8 : vt_I s2 1508 (B + 640) = nI (ck1 g p) ∧ vt_I s2 1509 (B + 640) = nI (ck2 g p) ∧ vt_I s2 1507 (B + 640) = nI p ∧ s2 = vu_I (vu_I s 1504 (B + 640) (nI 3)) 1505 (B + 640) (nI p) := by
          have : s2 = vu_I (vu_I s 1504 (B + 640) (nI 3)) 1505 (B + 640) (nI p) := by
            unfold ab_X14_wrong at w1
            simp only [slet] at w1
            rw [if_pos h.f0, ab_X14_wrong_17] at w1
            cases w1; rfl
          subst this
          refine ⟨?_, ?_, ?_, rfl⟩
          · rw [I_ne (by omega), I_ne (by omega)]; exact f8
          · rw [I_ne (by omega), I_ne (by omega)]; exact f9
          · rw [I_ne (by omega), I_ne (by omega)]; exact f7
        obtain ⟨s3, a1, a2, a3, a4, a5, a6, a7⟩ := lu_add64 (B := B) hb.2 g8.2.2.1 g8.1 g8.2.1 (ck1_lt g p) (ck2_lt g p)
        have w2 : LuS B g n (.error (3, p)) s2 := w2
        refine ⟨g p, s3, ?_, ⟨w2.1.luk a2, by rw [a2.L]; exact w2.2.1, ⟨_, a5⟩, by rw [a3]; exact w2.2.2.2.1, by show 3 ≠ 0; decide, by show 3 < 100; decide, by rw [a4]; exact w2.2.2.2.2.2.2⟩, w3.trans a2, hb.2, fun q hq => by cases hq⟩
        have e55 : ab_X14_next_55 (B + 640) (zI (g p)) s = some (nI (g p), s3) := by
          unfold ab_X14_next_55
          rw [slet, f7, show (3 : Int32) = nI 3 from rfl, w1, vbs, ← nI_z]
          exact a1
        by_cases d1 : (g p : Int) < lo
        · rw [if_pos (by rw [e2]; exact d1)]; rw [← nI_z] at e55 ⊢; exact e55
        · rw [if_neg (by rw [e2]; exact d1), if_neg (by rw [e3]; omega)]; rw [← nI_z] at e55 ⊢; exact e55
      · have ep : pbd (.ok p) (pIn g n lo hi) = .ok (p + 1) := by
          show pIn g n lo hi p = _
          unfold pIn
          rw [if_pos c, if_neg d]
        rw [ep]
        obtain ⟨s3, a1, a2, a3, a4, a5, a6, a7⟩ := lu_add64 (B := B) hb.2 f7 f8 f9 (ck1_lt g p) (ck2_lt g p)
        refine ⟨g p, s3, ?_, ⟨hi1.luk a2, by rw [a2.L]; exact hL, ⟨_, a5⟩, by rw [a3]; exact f4, by rw [a4]; exact f5, a5, c, a6, a7⟩, a2, hb.2, fun q hq => by cases hq; rfl⟩
        rw [if_neg (by rw [e2]; omega), if_pos (by rw [e3]; omega), ← nI_z]
        exact a1
    · have ep : pbd (.ok p) (pIn g n lo hi) = .error (1, n) := by
        show pIn g n lo hi p = _
        unfold pIn
        rw [if_neg c]
      rw [ep]
      obtain ⟨s2, w1, w2, w3⟩ := lu_wrong h 1 n (by decide) (by decide)
      refine ⟨0, s2, ?_, w2, w3, by omega, fun q hq => by cases hq⟩
      rw [if_pos (by rw [show p = n by omega]), show (1 : Int32) = nI 1 from rfl, w1, vbs]
      rfl
theorem lu_or (h : LuS B g n st s) (c : Nat) (hc : c ≤ 255) : ∃ r s1, ab_X14_nextOr (B + 640) (nI c) s = some (nI r, s1) ∧ LuS B g n (pbd st (pOr g n c)) s1 ∧ luk (B + 640) s s1 ∧ r < 256 ∧ (∀ q, pbd st (pOr g n c) = .ok q → r = g (q - 1)) := by
  obtain ⟨r, s1, a1, a2, a3, a4, a5⟩ := lu_next h 0 255 (by omega) (by omega) (by omega) (by omega)
  rw [pIn255 h.hb] at a2 a5
  unfold ab_X14_nextOr
  rw [show (0 : Int32) = zI 0 from rfl, show (255 : Int32) = zI 255 from rfl, a1, vbs, slet]
  cases e : pbd st (pOne n) with
  | error x =>
    have : pbd st (pOr g n c) = .error x := by
      cases st with
      | error y => exact e
      | ok p =>
        have e : pOne n p = .error x := e
        show pOr g n c p = _
        unfold pOne at e
        unfold pOr
        by_cases d : p < n
        · rw [if_pos d] at e; cases e
        · rw [if_neg d] at e ⊢; exact e
    rw [e] at a2
    rw [this, if_neg (show ¬ vt_I s1 1504 (B + 640) = zI 0 from a2.f1), ab_X14_nextOr_39]
    exact ⟨r, s1, rfl, a2, a3, a4, fun q hq => by cases hq⟩
  | ok q =>
    have hr := a5 q e
    rw [e] at a2
    obtain ⟨p, y, z⟩ := pbd_ok e
    obtain ⟨u1, u2⟩ := pOne_ok z
    rw [if_pos (show vt_I s1 1504 (B + 640) = zI 0 from a2.f0)]
    have hr2 : r = g p := by rw [hr, show q - 1 = p by omega]
    by_cases d : c ≤ r ∧ r ≠ 255
    · have : pbd st (pOr g n c) = .error (3, p) := by
        rw [y]
        show pOr g n c p = _
        unfold pOr
        rw [if_pos u1, if_pos (by rw [← hr2]; exact d)]
      rw [this]
      obtain ⟨s2, w1, w2, w3⟩ := lu_wrong a2 3 p (by decide) (by decide)
      rw [if_neg (Int32.not_lt.mpr (nI_le d.1 (by omega))), if_neg (by rw [nI_z, zI_eq (by omega) (by omega) (by omega) (by omega)]; omega), slet, a2.2.2.2.2.2.1, u2, (z_down p).1, show (3 : Int32) = nI 3 from rfl, w1, vbs, ab_X14_nextOr_39]
      exact ⟨r, s2, rfl, w2, a3.trans w3, a4, fun q hq => by cases hq⟩
    · have : pbd st (pOr g n c) = .ok q := by
        rw [y]
        show pOr g n c p = _
        unfold pOr
        rw [if_pos u1, if_neg (by rw [← hr2]; exact d), u2]
      rw [this]
      refine ⟨r, s1, ?_, a2, a3, a4, fun q1 hq => by cases hq; exact hr⟩
      by_cases d1 : r < c
      · rw [if_pos (nI_lt d1 (by omega)), ab_X14_nextOr_39]
      · rw [if_neg (Int32.not_lt.mpr (nI_le (by omega) (by omega))), if_pos (by rw [nI_z, zI_eq (by omega) (by omega) (by omega) (by omega)]; omega), ab_X14_nextOr_39]
theorem lu_two (h : LuS B g n st s) (lo hi : Int) (l1 : -100000 ≤ lo) (l2 : lo ≤ 100000) (h1 : -100000 ≤ hi) (h2 : hi ≤ 100000) : ∃ v s1, ab_X14_nextTwo (B + 640) (zI lo) (zI hi) s = some (zI v, s1) ∧ LuS B g n (pbd st (pTwoIn g n lo hi)) s1 ∧ luk (B + 640) s s1 ∧ -32768 ≤ v ∧ v ≤ 32767 ∧ (∀ q, pbd st (pTwoIn g n lo hi) = .ok q → v = pr g (q - 2)) := by
  obtain ⟨r1, s1, a1, a2, a3, a4, a5⟩ := lu_next h 0 255 (by omega) (by omega) (by omega) (by omega)
  obtain ⟨r2, s2, b1, b2, b3, b4, b5⟩ := lu_next a2 0 255 (by omega) (by omega) (by omega) (by omega)
  rw [pIn255 h.hb] at a2 a5 b2 b5
  have k := a3.trans b3
  obtain ⟨p0, hp0, hp00⟩ := lu_p h
  have val : ∀ q, pbd (pbd st (pOne n)) (pOne n) = .ok q → sg16 (256 * r1 + r2) = pr g (q - 2) := by
    intro q hq
    obtain ⟨p, e1, e2⟩ := pbd_ok hq
    obtain ⟨f1, f2⟩ := pOne_ok e2
    obtain ⟨p1, -, f3⟩ := pbd_ok e1
    obtain ⟨f4, f5⟩ := pOne_ok f3
    rw [a5 p e1, b5 q hq]
    unfold pr
    rw [show q - 2 + 1 = q - 1 by omega, show q - 2 = p - 1 by omega]
  have rg := sg16_rng (256 * r1 + r2)
  have e50 : ab_X14_nextTwo (B + 640) (zI lo) (zI hi) s = ab_X14_nextTwo_50 (B + 640) (zI lo) (zI hi) (nI p0) (zI (sg16 (256 * r1 + r2))) s2 := by
    unfold ab_X14_nextTwo
    rw [slet, hp0, show (0 : Int32) = zI 0 from rfl, show (255 : Int32) = zI 255 from rfl, a1, vbs, b1, vbs, nI_z r1, nI_z r2, show (256 : Int32) = zI 256 from rfl, zI_mul, zI_add, show (32767 : Int32) = zI 32767 from rfl, show (65536 : Int32) = zI 65536 from rfl, zI_sub]
    have e := zI_le (a := (r1 : Int) * 256 + r2) (b := 32767) (by omega) (by omega) (by omega) (by omega)
    by_cases c : (r1 : Int) * 256 + r2 ≤ 32767
    · rw [if_pos (by rw [e]; exact c), show (r1 : Int) * 256 + r2 = sg16 (256 * r1 + r2) by unfold sg16; omega]
    · rw [if_neg (by rw [e]; exact c), show (r1 : Int) * 256 + r2 - 65536 = sg16 (256 * r1 + r2) by unfold sg16; omega]
  rw [e50]
  unfold ab_X14_nextTwo_50
  rw [slet]
  obtain ⟨v, hv⟩ : ∃ v, v = sg16 (256 * r1 + r2) := ⟨_, rfl⟩
  rw [← hv] at val rg ⊢
  have e2 := zI_lt (a := v) (b := lo) (by omega) (by omega) (by omega) (by omega)
  have e3 := zI_le (a := v) (b := hi) (by omega) (by omega) (by omega) (by omega)
  have eT : pbd st (pTwoIn g n lo hi) = pbd (pbd (pbd st (pOne n)) (pOne n)) (fun q => if pr g (q - 2) < lo ∨ hi < pr g (q - 2) then .error (3, q - 2) else .ok q) := by
    cases st <;> rfl
  rw [eT]
  cases e : pbd (pbd st (pOne n)) (pOne n) with
  | error x =>
    rw [e] at b2
    rw [if_neg b2.f1, ab_X14_nextTwo_77]
    refine ⟨v, s2, rfl, ?_, k, rg.1, rg.2, fun q hq => ?_⟩
    · simp only [pbd]; exact b2
    · simp only [pbd] at hq; cases hq
  | ok q =>
    have hv2 := val q e
    rw [e] at b2
    rw [if_pos b2.f0]
    have hp02 : p0 = q - 2 := by
      obtain ⟨p, y1, y2⟩ := pbd_ok e
      obtain ⟨f1, f2⟩ := pOne_ok y2
      obtain ⟨p1, y3, f3⟩ := pbd_ok y1
      obtain ⟨f4, f5⟩ := pOne_ok f3
      have := hp00 p1 y3
      omega
    by_cases d : v < lo ∨ hi < v
    · obtain ⟨s3, w1, w2, w3⟩ := lu_wrong b2 3 p0 (by decide) (by decide)
      refine ⟨v, s3, ?_, ?_, k.trans w3, rg.1, rg.2, fun q1 hq => ?_⟩
      · have e71 : ab_X14_nextTwo_71 (B + 640) (nI p0) (zI v) s2 = some (zI v, s3) := by
          unfold ab_X14_nextTwo_71
          rw [show (3 : Int32) = nI 3 from rfl, w1, vbs, ab_X14_nextTwo_77]
        by_cases d1 : v < lo
        · rw [if_pos (by rw [e2]; exact d1)]; exact e71
        · rw [if_neg (by rw [e2]; exact d1), if_neg (by rw [e3]; omega)]; exact e71
      · simp only [pbd]
        rw [if_pos (by rw [← hv2]; exact d), ← hp02]
        exact w2
      · simp only [pbd] at hq
        rw [if_pos (by rw [← hv2]; exact d)] at hq
        cases hq
    · refine ⟨v, s2, ?_, ?_, k, rg.1, rg.2, fun q1 hq => ?_⟩
      · rw [if_neg (by rw [e2]; omega), if_pos (by rw [e3]; omega), ab_X14_nextTwo_77]
      · simp only [pbd]
        rw [if_neg (by rw [← hv2]; exact d)]
        exact b2
      · simp only [pbd] at hq
        rw [if_neg (by rw [← hv2]; exact d)] at hq
        cases hq; exact hv2
end LU
