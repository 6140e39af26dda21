-- A RUN is read by the reference
section TR
variable {B n : Nat} {g : Nat → Nat} {s : vt_S} {st : PE}
theorem t_mk {k2 : Nat → Int32 → vt_S → Option (Unit × vt_S)} {k due b : Nat} {s1 : vt_S} (hd : due < 256) (hb : b < 256) (hk : ∀ p, st = .ok p → p = k) (a4 : TpS B g n (pbd st (pOne n)) s1) (a5 : ∀ q, pbd st (pOne n) = .ok q → b = g (q - 1) ∧ q ≠ 0) : ∃ s2, (if vt_I s1 1617 (B + 643) = 0 then ab_X15_readAll_40 k2 (B + 643) (nI k) (nI b) (nI due) s1 else ab_X15_readAll_49 k2 (B + 643) (nI k) s1) = k2 (B + 643) (nI (k + 1)) s2 ∧ TpS B g n (pbd st (pEq g n due 2)) s2 ∧ vk tapW [] [] (fun _ => True) s1 s2 := by
  unfold ab_X15_readAll_40 ab_X15_readAll_49
  cases st with
  | error e =>
    have a4 : TpS B g n (.error e) s1 := a4
    rw [if_neg a4.bad, nI_1]
    exact ⟨s1, rfl, a4, vk.refl s1⟩
  | ok p =>
    have := hk p rfl
    subst this
    by_cases c : p < n
    · have e1 : pbd (.ok p) (pOne n) = .ok (p + 1) := by
        show pOne n p = _
        unfold pOne
        rw [if_pos c]
      have eb : b = g p := by
        have := (a5 (p + 1) e1).1
        rwa [Nat.add_sub_cancel] at this
      rw [e1] at a4
      have z7 : vt_I s1 1617 (B + 643) = 0 := a4.2.2.1
      have e2 : pbd (.ok p) (pEq g n due 2) = if g p = due then .ok (p + 1) else .error (2, p) := by
        show pEq g n due 2 p = _
        unfold pEq
        rw [if_pos c]
      rw [z7, if_pos rfl, e2]
      by_cases d : g p = due
      · rw [if_pos (show nI b = nI due by rw [eb, d]), if_pos d, nI_1]
        exact ⟨s1, rfl, a4, vk.refl s1⟩
      · obtain ⟨s2, w1, w2, w3⟩ := t_wrong (f := 2) (q := p) (by decide) (by decide) a4
        rw [if_neg (show ¬ nI b = nI due from fun z => d (by rw [← eb]; exact (nI_eq (by omega) (by omega)).mp z)), show (2 : Int32) = nI 2 from rfl, w1, vbs, if_neg d, nI_1]
        exact ⟨s2, rfl, w3, w2.weak (by decide) (by decide) (by decide)⟩
    · have e1 : pbd (.ok p) (pOne n) = .error (1, n) := by
        show pOne n p = _
        unfold pOne
        rw [if_neg c]
      have e2 : pbd (.ok p) (pEq g n due 2) = .error (1, n) := by
        show pEq g n due 2 p = _
        unfold pEq
        rw [if_neg c]
      rw [e1] at a4
      rw [if_neg a4.bad, e2, nI_1]
      exact ⟨s1, rfl, a4, vk.refl s1⟩
theorem t_mag {fu : Nat} (h : TpS B g n (.ok 0) s) : ∃ s1, ab_X15_readAll_2 (fu + 4) (B + 643) 0 s = ab_X15_readAll_2 (fu + 1) (B + 643) 3 s1 ∧ TpS B g n (pMag g n) s1 ∧ vk tapW [] [] (fun _ => True) s s1 := by
  obtain ⟨b, s1, a1, a2, a3, a4, a5, -⟩ := t_next h
  obtain ⟨s2, b1, b2, b3⟩ := t_mk (k2 := ab_X15_readAll_2 (fu + 3)) (k := 0) (due := 77) (by decide) a2 (fun p z => (by cases z; rfl)) a4 a5
  obtain ⟨c, s3, c1, c2, c3, c4, c5, -⟩ := t_next b2
  obtain ⟨s4, d1, d2, d3⟩ := t_mk (k2 := ab_X15_readAll_2 (fu + 2)) (k := 1) (due := 68) (by decide) c2 (fun p z => (by obtain ⟨-, y, -⟩ := pEq_ok (show pEq g n 77 2 0 = .ok p from z); omega)) c4 c5
  obtain ⟨e, s5, e1, e2, e3, e4, e5, -⟩ := t_next d2
  obtain ⟨s6, f1, f2, f3⟩ := t_mk (k2 := ab_X15_readAll_2 (fu + 1)) (k := 2) (due := 1) (by decide) e2 (fun p z => (by
    obtain ⟨r, z1, z2⟩ := pbd_ok z
    obtain ⟨-, y, -⟩ := pEq_ok (show pEq g n 77 2 0 = .ok r from z1)
    obtain ⟨-, y2, -⟩ := pEq_ok z2
    omega)) e4 e5
  refine ⟨s6, ?_, f2, ((((a3.trans b3).trans c3).trans d3).trans e3).trans f3⟩
  show ab_X15_readAll_2b _ (B + 643) (nI 0) s = _
  unfold ab_X15_readAll_2b
  rw [if_neg (by decide), a1, vbs, slet, if_pos (show nI 0 = 0 from rfl), show (77 : Int32) = nI 77 from rfl, b1]
  show ab_X15_readAll_2b _ (B + 643) (nI 1) s2 = _
  unfold ab_X15_readAll_2b
  rw [if_neg (by decide), c1, vbs, slet, if_neg (show ¬ nI 1 = 0 by decide), if_pos (show nI 1 = 1 from rfl), show (68 : Int32) = nI 68 from rfl, d1]
  show ab_X15_readAll_2b _ (B + 643) (nI 2) s4 = _
  unfold ab_X15_readAll_2b
  rw [if_neg (by decide), e1, vbs, slet, if_neg (show ¬ nI 2 = 0 by decide), if_neg (show ¬ nI 2 = 1 by decide), show (1 : Int32) = nI 1 from rfl, f1]
  rfl
theorem pIn_255 (hg : ∀ i, i < n → g i < 256) : pbd st (pIn g n 0 (((256 : Nat) : Int) - 1)) = pbd st (pOne n) := by
  cases st with
  | error e => rfl
  | ok p =>
    show pIn g n 0 (((256 : Nat) : Int) - 1) p = pOne n p
    unfold pIn pOne
    by_cases c : p < n
    · have := hg p c
      rw [if_pos c, if_pos c, if_neg (by omega)]
    · rw [if_neg c, if_neg c]
theorem t_hed (h : TpS B g n (pMag g n) s) (hL : vt_L s 1610 (B + 643) = 4) {fu : Nat} : ∃ s1, ab_X15_readAll_2 (fu + 1) (B + 643) 3 s = (vt_b (ab_X15_next (B + 643) s1) fun r3 h4 => ab_X15_readAll_110 sv_fuel (B + 643) (nI 0) r3 h4) ∧ TpS B g n (pHed g n) s1 ∧ vk grpW [1610] [] (fun _ => True) s s1 ∧ vt_I s1 1615 (B + 643) = nI 0 ∧ (∀ q, pHed g n = .ok q → vt_A s1 1610 (B + 643) 0 = zI (rdS g).1 ∧ vt_A s1 1610 (B + 643) 1 = zI (rdS g).2.1 ∧ vt_A s1 1610 (B + 643) 2 = nI (rdS g).2.2.1 ∧ vt_A s1 1610 (B + 643) 3 = nI (rdS g).2.2.2) := by
  have eL : ∀ f a k v t, vt_L (vu_A t f a k v) = vt_L t := fun _ _ _ _ _ => Eq.trans rfl rfl
  obtain ⟨v1, s1, a1, -, a3, a4, a5⟩ := t_two h
  have k1 : vk grpW [1610] [] (fun _ => True) s (vu_A s1 1610 (B + 643) 0 (zI v1)) := vk.pA (a3.weak (by decide) (by decide) (by decide)) (by decide)
  have h1 : TpS B g n (pbd (pMag g n) (pTwo n)) (vu_A s1 1610 (B + 643) 0 (zI v1)) := (vk.pA (ws := []) (rs := [1610]) (gs := []) (vk.refl s1) (by decide)).keep0 (P := TpS B g n (pbd (pMag g n) (pTwo n))) a4
  have l1 : vt_L s1 1610 (B + 643) = 4 := a3.keep0 (P := fun t => vt_L t 1610 (B + 643) = 4) hL
  obtain ⟨v2, s2, b1, -, b3, b4, b5⟩ := t_two h1
  have k2 : vk grpW [1610] [] (fun _ => True) s (vu_A s2 1610 (B + 643) 1 (zI v2)) := vk.pA (k1.trans (b3.weak (by decide) (by decide) (by decide))) (by decide)
  have h2 : TpS B g n (pbd (pbd (pMag g n) (pTwo n)) (pTwo n)) (vu_A s2 1610 (B + 643) 1 (zI v2)) := (vk.pA (ws := []) (rs := [1610]) (gs := []) (vk.refl s2) (by decide)).keep0 (P := TpS B g n (pbd (pbd (pMag g n) (pTwo n)) (pTwo n))) b4
  have l2 : vt_L s2 1610 (B + 643) = 4 := b3.keep0 (P := fun t => vt_L t 1610 (B + 643) = 4) l1
  obtain ⟨v3, s3, c1, -, c3, c4, c5⟩ := t_upTo (hi := 63) (off := 0) (by decide) h2
  have c4 : TpS B g n (pbd (pbd (pbd (pMag g n) (pTwo n)) (pTwo n)) (pIn g n 0 63)) s3 := c4
  have k3 : vk grpW [1610] [] (fun _ => True) s (vu_A s3 1610 (B + 643) 2 (nI v3)) := vk.pA (k2.trans (c3.weak (by decide) (by decide) (by decide))) (by decide)
  have h3 : TpS B g n (pbd (pbd (pbd (pMag g n) (pTwo n)) (pTwo n)) (pIn g n 0 63)) (vu_A s3 1610 (B + 643) 2 (nI v3)) := (vk.pA (ws := []) (rs := [1610]) (gs := []) (vk.refl s3) (by decide)).keep0 (P := TpS B g n (pbd (pbd (pbd (pMag g n) (pTwo n)) (pTwo n)) (pIn g n 0 63))) c4
  have l3 : vt_L s3 1610 (B + 643) = 4 := c3.keep0 (P := fun t => vt_L t 1610 (B + 643) = 4) l2
  obtain ⟨v4, s4, d1, -, d3, d4, d5, -⟩ := t_next h3
  rw [← pIn_255 (fun i hi => (h.1.2.2.2 i hi).2)] at d4 d5
  have d4 : TpS B g n (pHed g n) s4 := d4
  have d5 : ∀ q, pHed g n = .ok q → v4 = g (q - 1) ∧ q ≠ 0 := d5
  have l4 : vt_L s4 1610 (B + 643) = 4 := d3.keep0 (P := fun t => vt_L t 1610 (B + 643) = 4) l3
  obtain ⟨t, ht⟩ : ∃ t, t = vu_A s4 1610 (B + 643) 3 (nI v4) := ⟨_, rfl⟩
  have kt : vk [1615] [1610] [] (fun _ => True) s4 (vu_I t 1615 (B + 643) 0) := by rw [ht]; exact vk.pI (vk.pA (vk.refl s4) (by decide)) (by decide)
  have k4 : vk grpW [1610] [] (fun _ => True) s (vu_I t 1615 (B + 643) 0) := (k3.trans (d3.weak (by decide) (by decide) (by decide))).trans (kt.weak (by decide) (by decide) (by decide))
  refine ⟨vu_I t 1615 (B + 643) 0, ?_, kt.keep0 (P := TpS B g n (pHed g n)) d4, k4, I_at, fun q hq => ?_⟩
  · show ab_X15_readAll_2b _ (B + 643) 3 s = _
    unfold ab_X15_readAll_2b
    rw [if_pos (by decide), a1, vbs, show (0 : Int32) = nI 0 from rfl, vs_I_ok (i := 0) (by omega) (by omega), obs, b1, vbs, show (1 : Int32) = nI 1 from rfl, vs_I_ok (i := 1) (by omega) (by omega), obs, show (63 : Int32) = nI 63 from rfl, c1, vbs, show nI v3 - nI 0 = nI v3 from nI_sub (Nat.zero_le _), show (2 : Int32) = nI 2 from rfl, vs_I_ok (i := 2) (by omega) (by omega), obs, d1, vbs, show (3 : Int32) = nI 3 from rfl, vs_I_ok (i := 3) (by omega) (by omega), obs, slet, ← ht]
  · obtain ⟨q9, -, -, -, hm⟩ := pHed_ok hq
    subst q9
    obtain ⟨r3, y3, z3⟩ := pbd_ok (show pbd (pbd (pbd (pbd (pMag g n) (pTwo n)) (pTwo n)) (pIn g n 0 63)) (pIn g n 0 (((256 : Nat) : Int) - 1)) = .ok 9 from hq)
    obtain ⟨r2, y2, z2⟩ := pbd_ok y3
    obtain ⟨r1, y1, z1⟩ := pbd_ok y2
    obtain ⟨r0, y0, z0⟩ := pbd_ok y1
    rw [hm] at y0
    cases y0
    obtain ⟨-, u0⟩ := pTwo_ok z0
    obtain ⟨-, u1⟩ := pTwo_ok z1
    obtain ⟨-, u2, -⟩ := pIn_ok z2
    have V1 : v1 = pr g 3 := by rw [a5 r1 y1, show r1 - 2 = 3 by omega]
    have V2 : v2 = pr g 5 := by rw [b5 r2 y2, show r2 - 2 = 5 by omega]
    have V3 : v3 = g 7 := by rw [(c5 r3 y3).1, show r3 - 1 = 7 by omega]
    have V4 : v4 = g 8 := (d5 9 hq).1
    have A4 : vt_A s4 = vt_A (vu_A s3 1610 (B + 643) 2 (nI v3)) := by funext f a; exact (d3.2.2.1 f a (Or.inl (by intro z; cases z))).1
    have A3 : vt_A s3 = vt_A (vu_A s2 1610 (B + 643) 1 (zI v2)) := by funext f a; exact (c3.2.2.1 f a (Or.inl (by intro z; cases z))).1
    have A2 : vt_A s2 = vt_A (vu_A s1 1610 (B + 643) 0 (zI v1)) := by funext f a; exact (b3.2.2.1 f a (Or.inl (by intro z; cases z))).1
    have At : vt_A (vu_I t 1615 (B + 643) 0) = vt_A t := rfl
    show _ = zI (pr g 3) ∧ _ = zI (pr g 5) ∧ _ = nI (g 7) ∧ _ = nI (g 8)
    rw [At, ht, A_at, A_at, A_at, A_at, if_neg (by decide), if_neg (by decide), if_neg (by decide), if_pos rfl, A4, A_at, A_at, A_at, if_neg (by decide), if_neg (by decide), if_pos rfl, A3, A_at, A_at, if_neg (by decide), if_pos rfl, A2, A_at, if_pos rfl, V1, V2, V3, V4]
    exact ⟨rfl, rfl, rfl, rfl⟩
theorem t_readAll (h : TpS B g n (.ok 0) s) (hL : vt_L s 1610 (B + 643) = 4) (hL0 : vt_L s 1600 (B + 643) = 4) (hT : vt_L s 1611 (B + 643) = 1024 ∧ vt_L s 1612 (B + 643) = 1024 ∧ vt_L s 1613 (B + 643) = 1024 ∧ vt_L s 1614 (B + 643) = 1024) : ∃ s1, ab_X15_readAll (B + 643) s = some ((), s1) ∧ TpS B g n (pRun g n) s1 ∧ vk grpW [1610, 1611, 1612, 1613, 1614] [] (fun _ => True) s s1 ∧ (∀ q, pRun g n = .ok q → stT B s1 (rdS g) ∧ vt_I s1 1615 (B + 643) = nI (rdM g n) ∧ runT B s1 (rdI g n) (rdM g n)) := by
  obtain ⟨fu, hf⟩ : ∃ fu, sv_fuel = fu + 4 := ⟨sv_fuel - 4, by have : 5 < sv_fuel := fuel_ge (by omega); omega⟩
  obtain ⟨s1, a1, a2, a3⟩ := t_mag (fu := fu) h
  obtain ⟨s2, b1, b2, b3, b4, b5⟩ := t_hed (fu := fu) a2 (a3.keep0 (P := fun t => vt_L t 1610 (B + 643) = 4) hL)
  have k2 : vk grpW [1610, 1611, 1612, 1613, 1614] [] (fun _ => True) s s2 := (a3.weak (by decide) (by decide) (by decide)).trans (b3.weak (by decide) (by decide) (by decide))
  have key : ∃ s3, (vt_b (ab_X15_next (B + 643) s2) fun r3 h4 => ab_X15_readAll_110 sv_fuel (B + 643) (nI 0) r3 h4) = ab_X15_readAll_140 (B + 643) s3 ∧ TpS B g n (pbd (pHed g n) (fun q => (pGs g n 1025 inF0 0 0 q).1)) s3 ∧ (∀ q, pbd (pHed g n) (fun q => (pGs g n 1025 inF0 0 0 q).1) = .ok q → vt_I s3 1615 (B + 643) = nI (rdM g n) ∧ runT B s3 (rdI g n) (rdM g n)) ∧ vk grpW [1611, 1612, 1613, 1614] [] (fun _ => True) s2 s3 := by
    cases hh : pHed g n with
    | error e =>
      rw [hh] at b2
      obtain ⟨b, s3, c1, c2, c3, c4, c5, c6⟩ := t_next b2
      have := c6 e rfl
      subst this
      refine ⟨s3, ?_, c4, fun q z => (by cases z), c3.weak (by decide) (by decide) (by decide)⟩
      rw [c1, vbs, hf]
      exact t_110z
    | ok q =>
      rw [hh] at b2
      have := (pHed_ok hh).1
      subst this
      obtain ⟨s3, c1, c2, c3, c4⟩ := t_gs (B := B) (n := n) (g := g) 1025 sv_fuel s2 inF0 0 0 9 (by omega) (fuel_ge (by omega)) (by omega) (by omega) b2 b4 ⟨by omega, k2.keep0 (P := fun t => vt_L t 1611 (B + 643) = 1024 ∧ vt_L t 1612 (B + 643) = 1024 ∧ vt_L t 1613 (B + 643) = 1024 ∧ vt_L t 1614 (B + 643) = 1024) hT, fun j hj => absurd hj (by omega)⟩
      exact ⟨s3, c1, c2, c3, c4⟩
  obtain ⟨s3, c1, c2, c3, c4⟩ := key
  obtain ⟨s4, d1, d2, d3⟩ := t_140 c2
  refine ⟨s4, ?_, d2, (k2.trans (c4.weak (by decide) (by decide) (by decide))).trans (d3.weak (by decide) (by decide) (by decide)), fun q hq => ?_⟩
  · unfold ab_X15_readAll
    rw [hf, a1, b1, c1, d1]
  · obtain ⟨h1, r, h2⟩ := pRun_ok hq
    obtain ⟨x1, x2⟩ := c3 r (by rw [h1]; exact h2)
    obtain ⟨y1, y2, y3, y4⟩ := b5 9 h1
    have l2 : vt_L s2 1610 (B + 643) = 4 ∧ vt_L s2 1600 (B + 643) = 4 := k2.keep0 (P := fun t => vt_L t 1610 (B + 643) = 4 ∧ vt_L t 1600 (B + 643) = 4) ⟨hL, hL0⟩
    have st2 : stT B s2 (rdS g) := ⟨l2, y1, y2, y3, y4⟩
    have st3 : stT B s3 (rdS g) := c4.keep0 (P := fun t => stT B t (rdS g)) st2
    exact ⟨d3.keep0 (P := fun t => stT B t (rdS g)) st3, d3.keep0 (P := fun t => vt_I t 1615 (B + 643) = nI (rdM g n)) x1, d3.keep0 (P := fun t => runT B t (rdI g n) (rdM g n)) x2⟩
end TR
