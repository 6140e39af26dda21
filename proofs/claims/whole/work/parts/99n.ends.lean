-- THE CHECK and the end of a run's bytes
def kc0 (g : Nat → Nat) (p : Nat) : Nat := (adN g p).2 / 256
def kc1 (g : Nat → Nat) (p : Nat) : Nat := (adN g p).2 % 256
def kc2 (g : Nat → Nat) (p : Nat) : Nat := (adN g p).1 / 256
def kc3 (g : Nat → Nat) (p : Nat) : Nat := (adN g p).1 % 256
def pChk (g : Nat → Nat) (n p : Nat) : PE := pbd (pbd (pbd (pEq g n (kc0 g p) 6 p) (pEq g n (kc1 g p) 6)) (pEq g n (kc2 g p) 6)) (pEq g n (kc3 g p) 6)
def pEnd (g : Nat → Nat) (n : Nat) (st : PE) : PE := pbd (pbd st (pChk g n)) (fun p => if p < n then .error (7, p) else .ok p)
def tapW : List Nat := [1616, 1617, 1618, 1619, 1620]
section EN
variable {B n R : Nat} {g : Nat → Nat} {s : vt_S} {st : PE}
theorem kc_lt (g : Nat → Nat) (p : Nat) : kc0 g p < 256 ∧ kc1 g p < 256 ∧ kc2 g p < 256 ∧ kc3 g p < 256 := by
  have := adN_lt g p
  unfold kc0 kc1 kc2 kc3
  omega
theorem c_adp_loop {a p : Nat} (h : rowC s a g n) (hp : p ≤ n) : ∀ (d i fu : Nat), i + d = p → d < fu → ab_X5_checkOf_8 fu a (nI p) (zL ((adN g i).1 : Int)) (zL ((adN g i).2 : Int)) (nI i) s = some (zL (65536 * ((adN g p).2 : Int) + ((adN g p).1 : Int)), s) := by
  have hl := h.len
  intro d
  induction d with
  | zero =>
    intro i fu hi hf
    obtain ⟨fu, rfl⟩ : ∃ q, fu = q + 1 := ⟨fu - 1, by omega⟩
    show ab_X5_checkOf_8b _ a (nI p) _ _ (nI i) s = _
    unfold ab_X5_checkOf_8b
    rw [if_pos (nI_le (by omega) (by omega)), y_65536, zL_mul, zL_add, show i = p by omega]
  | succ d ih =>
    intro i fu hi hf
    obtain ⟨fu, rfl⟩ : ∃ q, fu = q + 1 := ⟨fu - 1, by omega⟩
    obtain ⟨x1, x2⟩ := h.2.2.2 i (by omega)
    have lt := adN_lt g i
    have hL := h.2.1
    have e1 : (((adN g i).1 : Int) + (g i : Int)) % 65521 = ((adN g (i + 1)).1 : Int) := by
      show _ = ((((adN g i).1 + g i) % 65521 : Nat) : Int)
      omega
    have e2 : (((adN g i).2 : Int) + ((adN g (i + 1)).1 : Int)) % 65521 = ((adN g (i + 1)).2 : Int) := by
      show _ = ((((adN g i).2 + (adN g (i + 1)).1) % 65521 : Nat) : Int)
      omega
    have lt1 := adN_lt g (i + 1)
    show ab_X5_checkOf_8b _ a (nI p) _ _ (nI i) s = _
    unfold ab_X5_checkOf_8b
    rw [if_neg (nI_ge (by omega) (by omega)), vl_I_ok (by omega) (by omega), obs, x1, nI_z (g i), zI_wide (by omega) (by omega), zL_add, modL (by omega) (by omega), e1, zL_add, modL (by omega) (by omega), e2, nI_1]
    exact ih (i + 1) fu (by omega) (by omega)
theorem c_adp {a p : Nat} (h : rowC s a g n) (hp : p ≤ n) : ab_X5_checkOf a (nI p) s = some (zL (65536 * ((adN g p).2 : Int) + ((adN g p).1 : Int)), s) :=
  c_adp_loop h hp p 0 sv_fuel (by omega) (fuel_ge (by have := h.len; omega))
theorem ckB (g : Nat → Nat) (p : Nat) : (Int64.toInt32 (zL (65536 * ((adN g p).2 : Int) + ((adN g p).1 : Int)) >>> (Int32.toInt64 24 &&& 63)) &&& 255 = nI (kc0 g p)) ∧ (Int64.toInt32 (zL (65536 * ((adN g p).2 : Int) + ((adN g p).1 : Int)) >>> (Int32.toInt64 16 &&& 63)) &&& 255 = nI (kc1 g p)) ∧ (Int64.toInt32 (zL (65536 * ((adN g p).2 : Int) + ((adN g p).1 : Int)) >>> (Int32.toInt64 8 &&& 63)) &&& 255 = nI (kc2 g p)) ∧ (Int64.toInt32 (zL (65536 * ((adN g p).2 : Int) + ((adN g p).1 : Int)) >>> (Int32.toInt64 0 &&& 63)) &&& 255 = nI (kc3 g p)) := by
  have lt := adN_lt g p
  have b1 : ∀ {k : Nat} {m : Int64}, (∀ x : Int64, (x >>> m).toBitVec = x.toBitVec.sshiftRight k) → Int64.toInt32 (zL (65536 * ((adN g p).2 : Int) + ((adN g p).1 : Int)) >>> m) &&& 255 = zI ((65536 * ((adN g p).2 : Int) + ((adN g p).1 : Int)) / (2 ^ k : Nat) % 256) := by
    intro k m hm
    rw [shrL (by omega) (by omega) hm, zL_nar, zI_and255]
  refine ⟨?_, ?_, ?_, ?_⟩
  · rw [b1 (k := 24) (fun x => rfl), nI_z]
    refine congrArg zI ?_
    unfold kc0
    omega
  · rw [b1 (k := 16) (fun x => rfl), nI_z]
    refine congrArg zI ?_
    unfold kc1
    omega
  · rw [b1 (k := 8) (fun x => rfl), nI_z]
    refine congrArg zI ?_
    unfold kc2
    omega
  · rw [b1 (k := 0) (fun x => rfl), nI_z]
    refine congrArg zI ?_
    unfold kc3
    omega
theorem c_65 (h : RdS B g n st s) : ∃ s1, ab_X5_read_65 R (B + 5) s = some ((), s1) ∧ RdS B g n (pEnd g n st) s1 ∧ onl (· = B + 5) s s1 := by
  have ck : ∃ s1, ab_X5_readCheck R (B + 5) s = some ((), s1) ∧ RdS B g n (pbd st (pChk g n)) s1 ∧ onl (· = B + 5) s s1 := by
    unfold ab_X5_readCheck
    cases st with
    | error e =>
      rw [rd_well h, vbs, if_pos pWell_err]
      exact ⟨s, rfl, h, onl.refl⟩
    | ok p =>
      have z1 : vt_I s 501 (B + 5) = nI p := h.2.2.2.2.1
      have z2 : p ≤ n := h.2.2.2.2.2
      have z3 : vt_P s 500 (B + 5) = B + 1 := h.1
      obtain ⟨l0, l1, l2, l3⟩ := kc_lt g p
      obtain ⟨q0, q1, q2, q3⟩ := ckB g p
      obtain ⟨s1, a1, a2, a3⟩ := rd_expect h (kc0 g p) 6 l0 (by decide) (by decide)
      obtain ⟨s2, b1, b2, b3⟩ := rd_expect a2 (kc1 g p) 6 l1 (by decide) (by decide)
      obtain ⟨s3, c1, c2, c3⟩ := rd_expect b2 (kc2 g p) 6 l2 (by decide) (by decide)
      obtain ⟨s4, d1, d2, d3⟩ := rd_expect c2 (kc3 g p) 6 l3 (by decide) (by decide)
      refine ⟨s4, ?_, d2, ((a3.trans b3).trans c3).trans d3⟩
      obtain ⟨fu, hf⟩ : ∃ fu, sv_fuel = fu + 5 := ⟨sv_fuel - 5, by have : 5 < sv_fuel := fuel_ge (by omega); omega⟩
      rw [rd_well h, vbs, if_neg pWell_ok, slet, slet, z1, z3, c_adp h.2.1 z2, vbs, hf]
      generalize zL (65536 * ((adN g p).2 : Int) + ((adN g p).1 : Int)) = c at *
      show ab_X5_readCheck_24b _ (B + 5) c 24 s = _
      unfold ab_X5_readCheck_24b
      rw [if_neg (by decide), q0, show (6 : Int32) = nI 6 from rfl, a1, vbs]
      show ab_X5_readCheck_24b _ (B + 5) c 16 s1 = _
      unfold ab_X5_readCheck_24b
      rw [if_neg (by decide), q1, show (6 : Int32) = nI 6 from rfl, b1, vbs]
      show ab_X5_readCheck_24b _ (B + 5) c 8 s2 = _
      unfold ab_X5_readCheck_24b
      rw [if_neg (by decide), q2, show (6 : Int32) = nI 6 from rfl, c1, vbs]
      show ab_X5_readCheck_24b _ (B + 5) c 0 s3 = _
      unfold ab_X5_readCheck_24b
      rw [if_neg (by decide), q3, show (6 : Int32) = nI 6 from rfl, d1, vbs]
      show ab_X5_readCheck_24b _ (B + 5) c (-8) s4 = _
      unfold ab_X5_readCheck_24b
      rw [if_pos (by decide)]
  obtain ⟨s1, a1, a2, a3⟩ := ck
  obtain ⟨s2, b1, b2, b3⟩ := rd_end a2 7 (by decide) (by decide)
  refine ⟨s2, ?_, b2, a3.trans b3⟩
  unfold ab_X5_read_65
  rw [a1, vbs, show (7 : Int32) = nI 7 from rfl, b1, vbs]
theorem t_196 {k : Nat → Int32 → Int32 → Int32 → vt_S → Option (Unit × vt_S)} {x3 x4 x5 v : Int32} {due : Nat} (h : TpS B g n st s) (hd : due < 256) (hv : ∀ p, st = .ok p → v = nI due) : ∃ s1, ab_X15_readAll_196 k (B + 643) x3 x4 x5 v s = k (B + 643) x3 x4 (x5 + 1) s1 ∧ TpS B g n (pbd st (pEq g n due 6)) s1 ∧ vk tapW [] [] (fun _ => True) s s1 := by
  obtain ⟨b, s1, a1, a2, a3, a4, a5, a6⟩ := t_next h
  have k1 : vk tapW [] [] (fun _ => True) s s1 := a3.weak (by decide) (by decide) (by decide)
  unfold ab_X15_readAll_196 ab_X15_readAll_230
  rw [a1, vbs, slet]
  cases st with
  | error e =>
    have a4 : TpS B g n (.error e) s1 := a4
    rw [if_neg a4.bad]
    exact ⟨s1, rfl, a4, k1⟩
  | ok p =>
    rw [hv p rfl]
    by_cases c : p < n
    · have e1 : pbd (.ok p) (pOne n) = .ok (p + 1) := by
        show pOne n p = _
        unfold pOne
        rw [if_pos c]
      have eb : b = g p := by
        have := (a5 (p + 1) e1).1
        rwa [Nat.add_sub_cancel] at this
      rw [e1] at a4
      have z7 : vt_I s1 1617 (B + 643) = 0 := a4.2.2.1
      have z6 : vt_I s1 1616 (B + 643) = nI (p + 1) := a4.2.2.2.2.1
      have e2 : pbd (.ok p) (pEq g n due 6) = if g p = due then .ok (p + 1) else .error (6, p) := by
        show pEq g n due 6 p = _
        unfold pEq
        rw [if_pos c]
      rw [z7, if_pos rfl, e2]
      by_cases d : g p = due
      · rw [if_pos (show nI b = nI due by rw [eb, d]), if_pos d]
        exact ⟨s1, rfl, a4, k1⟩
      · obtain ⟨s2, w1, w2, w3⟩ := t_wrong (f := 6) (q := p) (by decide) (by decide) a4
        rw [if_neg (show ¬ nI b = nI due from fun z => d (by rw [← eb]; exact (nI_eq (by omega) (by omega)).mp z)), slet, z6, (z_down p).1, show (6 : Int32) = nI 6 from rfl, w1, vbs, if_neg d]
        exact ⟨s2, rfl, w3, k1.trans (w2.weak (by decide) (by decide) (by decide))⟩
    · have e1 : pbd (.ok p) (pOne n) = .error (1, n) := by
        show pOne n p = _
        unfold pOne
        rw [if_neg c]
      have e2 : pbd (.ok p) (pEq g n due 6) = .error (1, n) := by
        show pEq g n due 6 p = _
        unfold pEq
        rw [if_neg c]
      rw [e1] at a4
      rw [if_neg a4.bad, e2]
      exact ⟨s1, rfl, a4, k1⟩
theorem t_140 (h : TpS B g n st s) : ∃ s1, ab_X15_readAll_140 (B + 643) s = some ((), s1) ∧ TpS B g n (pEnd g n st) s1 ∧ vk tapW [] [] (fun _ => True) s s1 := by
  obtain ⟨va, hva⟩ : ∃ v, v = vt_I s 1619 (B + 643) := ⟨_, rfl⟩
  obtain ⟨vb, hvb⟩ : ∃ v, v = vt_I s 1620 (B + 643) := ⟨_, rfl⟩
  obtain ⟨p, hp⟩ : ∃ p, ∀ q, st = .ok q → q = p := by
    cases st with
    | error e => exact ⟨0, fun q z => (by cases z)⟩
    | ok q => exact ⟨q, fun r z => (by cases z; rfl)⟩
  have ab : ∀ q, st = .ok q → va = nI (adN g p).1 ∧ vb = nI (adN g p).2 := by
    intro q hq
    have := hp q hq
    subst this
    rw [hq] at h
    exact ⟨hva.trans h.2.2.2.2.2.2.1, hvb.trans h.2.2.2.2.2.2.2⟩
  have lt := adN_lt g p
  obtain ⟨l0, l1, l2, l3⟩ := kc_lt g p
  have dv : ∀ m : Nat, m < 65521 → nI m / 256 = nI (m / 256) ∧ nI m - nI m / 256 * 256 = nI (m % 256) := by
    intro m hm
    have : nI m / 256 = zI ((m : Int) / 256) := by rw [nI_z, z_256, zI_divP (by omega) (by omega) (by omega) (by omega)]
    rw [this, nI_z (m / 256), nI_z (m % 256), nI_z m, z_256, zI_mul, zI_sub]
    exact ⟨congrArg zI (by omega), congrArg zI (by omega)⟩
  obtain ⟨fu, hf⟩ : ∃ fu, sv_fuel = fu + 5 := ⟨sv_fuel - 5, by have : 5 < sv_fuel := fuel_ge (by omega); omega⟩
  obtain ⟨s1, a1, a2, a3⟩ := t_196 (k := ab_X15_readAll_154 (fu + 4)) (x3 := va) (x4 := vb) (x5 := 0) (v := vb / 256) (due := kc0 g p) h l0 (fun q hq => by rw [(ab q hq).2, (dv _ lt.2).1]; rfl)
  have ok1 : ∀ q, pbd st (pEq g n (kc0 g p) 6) = .ok q → ∃ r, st = .ok r := fun q hq => by obtain ⟨r, hr, -⟩ := pbd_ok hq; exact ⟨r, hr⟩
  obtain ⟨s2, b1, b2, b3⟩ := t_196 (k := ab_X15_readAll_154 (fu + 3)) (x3 := va) (x4 := vb) (x5 := 1) (v := vb - vb / 256 * 256) (due := kc1 g p) a2 l1 (fun q hq => by obtain ⟨r, hr⟩ := ok1 q hq; rw [(ab r hr).2, (dv _ lt.2).2]; rfl)
  have ok2 : ∀ q, pbd (pbd st (pEq g n (kc0 g p) 6)) (pEq g n (kc1 g p) 6) = .ok q → ∃ r, st = .ok r := fun q hq => by obtain ⟨r, hr, -⟩ := pbd_ok hq; exact ok1 r hr
  obtain ⟨s3, c1, c2, c3⟩ := t_196 (k := ab_X15_readAll_154 (fu + 2)) (x3 := va) (x4 := vb) (x5 := 2) (v := va / 256) (due := kc2 g p) b2 l2 (fun q hq => by obtain ⟨r, hr⟩ := ok2 q hq; rw [(ab r hr).1, (dv _ lt.1).1]; rfl)
  have ok3 : ∀ q, pbd (pbd (pbd st (pEq g n (kc0 g p) 6)) (pEq g n (kc1 g p) 6)) (pEq g n (kc2 g p) 6) = .ok q → ∃ r, st = .ok r := fun q hq => by obtain ⟨r, hr, -⟩ := pbd_ok hq; exact ok2 r hr
  obtain ⟨s4, d1, d2, d3⟩ := t_196 (k := ab_X15_readAll_154 (fu + 1)) (x3 := va) (x4 := vb) (x5 := 3) (v := va - va / 256 * 256) (due := kc3 g p) c2 l3 (fun q hq => by obtain ⟨r, hr⟩ := ok3 q hq; rw [(ab r hr).1, (dv _ lt.1).2]; rfl)
  have e5 : pbd (pbd (pbd (pbd st (pEq g n (kc0 g p) 6)) (pEq g n (kc1 g p) 6)) (pEq g n (kc2 g p) 6)) (pEq g n (kc3 g p) 6) = pbd st (pChk g n) := by
    cases st with
    | error e => rfl
    | ok q => rw [← hp q rfl]; rfl
  rw [e5] at d2
  have k4 := ((a3.trans b3).trans c3).trans d3
  have e0 : ab_X15_readAll_140 (B + 643) s = ab_X15_readAll_154 (fu + 1) (B + 643) va vb 4 s4 := by
    unfold ab_X15_readAll_140
    rw [slet, slet, ← hva, ← hvb, hf]
    show ab_X15_readAll_154b _ (B + 643) va vb 0 s = _
    unfold ab_X15_readAll_154b ab_X15_readAll_172
    rw [if_neg (by decide), if_neg (by decide), if_pos (by decide), a1]
    show ab_X15_readAll_154b _ (B + 643) va vb 1 s1 = _
    unfold ab_X15_readAll_154b ab_X15_readAll_172
    rw [if_neg (by decide), if_neg (by decide), if_neg (by decide), b1]
    show ab_X15_readAll_154b _ (B + 643) va vb 2 s2 = _
    unfold ab_X15_readAll_154b ab_X15_readAll_172
    rw [if_neg (by decide), if_pos (by decide), if_pos (by decide), c1]
    show ab_X15_readAll_154b _ (B + 643) va vb 3 s3 = _
    unfold ab_X15_readAll_154b ab_X15_readAll_172
    rw [if_neg (by decide), if_pos (by decide), if_neg (by decide), d1]
    rfl
  rw [e0]
  show ∃ s1, ab_X15_readAll_154b _ (B + 643) va vb 4 s4 = _ ∧ _
  unfold ab_X15_readAll_154b ab_X15_readAll_264
  rw [if_pos (by decide), slet]
  unfold pEnd
  cases hst : pbd st (pChk g n) with
  | error e =>
    rw [hst] at d2
    rw [if_neg d2.bad]
    exact ⟨s4, rfl, d2, k4⟩
  | ok q =>
    rw [hst] at d2
    have z7 : vt_I s4 1617 (B + 643) = 0 := d2.2.2.1
    have z6 : vt_I s4 1616 (B + 643) = nI q := d2.2.2.2.2.1
    have z9 : vt_I s4 1609 (B + 643) = nI n := d2.1.1
    have n8 := d2.1.2.1
    have qn : q ≤ n := d2.2.2.2.2.2.1
    rw [z7, if_pos rfl, slet, slet, z6, z9]
    show ∃ s1, _ ∧ TpS B g n (if q < n then .error (7, q) else .ok q) s1 ∧ _
    by_cases c : q < n
    · obtain ⟨s5, w1, w2, w3⟩ := t_wrong (f := 7) (q := q) (by decide) (by decide) d2
      rw [if_neg (nI_ge (by omega) (by omega)), slet, show (7 : Int32) = nI 7 from rfl, w1, vbs, if_pos c]
      exact ⟨s5, rfl, w3, k4.trans (w2.weak (by decide) (by decide) (by decide))⟩
    · rw [if_pos (nI_le (by omega) (by omega)), if_neg c]
      exact ⟨s4, rfl, d2, k4⟩
end EN
