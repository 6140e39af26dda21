-- A RUN is written, the reference
section W4
variable {m B : Nat} {I : Nat → IN}
def wrW : List Nat := [1607, 1619, 1620]
theorem rowP.kp {s : vt_S} {l : List Nat} {f : Nat} {v : Int32} (h : rowP B s l) (hf : f ≠ 1607) : rowP B (vu_I s f (B + 643) v) l := ⟨by rw [I_ne (by omega)]; exact h.1, h.2.1, h.2.2⟩
theorem r_ck4 {s : vt_S} {l : List Nat} {p : Nat × Nat} (hp : p.1 < 65521 ∧ p.2 < 65521) (h : rowP B s l) (hl : l.length + 4 ≤ 4200) (h9 : vt_I s 1619 (B + 643) = nI p.1) (h0 : vt_I s 1620 (B + 643) = nI p.2) : ∃ s1, (∀ fu, ab_X15_write_244 (fu + 5) (B + 643) 0 s = some (nI (l.length + 4), s1)) ∧ vk [1607] [1606] [] (fun _ => True) s s1 ∧ rowP B s1 (l ++ ckL p) := by
  have dv : ∀ {v : Nat}, v < 65521 → nI v / 256 = nI (v / 256) ∧ nI v - nI v / 256 * 256 = nI (v % 256) := by
    intro v hv
    have e : nI v / 256 = nI (v / 256) := by
      rw [nI_z, z_256, zI_divP (by omega) (by omega) (by omega) (by omega), nI_z]
      rfl
    refine ⟨e, ?_⟩
    rw [e, nI_z, nI_z, nI_z, z_256, zI_mul, zI_sub]
    refine congrArg zI ?_
    omega
  have c0 : ∀ t, vt_I t 1620 (B + 643) = nI p.2 → ab_X15_checkByte (B + 643) 0 t = some (nI (p.2 / 256), t) := by
    intro t ht
    unfold ab_X15_checkByte ab_X15_checkByte_16 ab_X15_checkByte_36
    rw [if_neg (by decide), slet, if_pos (by decide), ht, (dv hp.2).1]
  have c1 : ∀ t, vt_I t 1620 (B + 643) = nI p.2 → ab_X15_checkByte (B + 643) 1 t = some (nI (p.2 % 256), t) := by
    intro t ht
    unfold ab_X15_checkByte ab_X15_checkByte_16 ab_X15_checkByte_36
    rw [if_neg (by decide), slet, if_neg (by decide), ht, (dv hp.2).2]
  have c2 : ∀ t, vt_I t 1619 (B + 643) = nI p.1 → ab_X15_checkByte (B + 643) 2 t = some (nI (p.1 / 256), t) := by
    intro t ht
    unfold ab_X15_checkByte ab_X15_checkByte_16 ab_X15_checkByte_36
    rw [if_pos (by decide), slet, if_pos (by decide), ht, (dv hp.1).1]
  have c3 : ∀ t, vt_I t 1619 (B + 643) = nI p.1 → ab_X15_checkByte (B + 643) 3 t = some (nI (p.1 % 256), t) := by
    intro t ht
    unfold ab_X15_checkByte ab_X15_checkByte_16 ab_X15_checkByte_36
    rw [if_pos (by decide), slet, if_neg (by decide), ht, (dv hp.1).2]
  obtain ⟨s1, a1, a2, a3⟩ := r_putL (nI (p.2 / 256)) h (by omega)
  rw [by8_nI (by omega)] at a3
  obtain ⟨s2, b1, b2, b3⟩ := r_putL (nI (p.2 % 256)) a3 (by rw [List.length_append]; show l.length + 1 < 4200; omega)
  rw [by8_nI (by omega), List.append_assoc] at b3
  obtain ⟨s3, d1, d2, d3⟩ := r_putL (nI (p.1 / 256)) b3 (by rw [List.length_append]; show l.length + 2 < 4200; omega)
  rw [by8_nI (by omega), List.append_assoc] at d3
  obtain ⟨s4, f1, f2, f3⟩ := r_putL (nI (p.1 % 256)) d3 (by rw [List.length_append]; show l.length + 3 < 4200; omega)
  rw [by8_nI (by omega), List.append_assoc] at f3
  have k2 := a2.trans b2
  have k3 := k2.trans d2
  refine ⟨s4, fun fu => ?_, k3.trans f2, f3⟩
  have len : vt_I s4 1607 (B + 643) = nI (l.length + 4) := by rw [f3.1, List.length_append]; rfl
  show ab_X15_write_244b _ (B + 643) 0 s = _
  unfold ab_X15_write_244b
  rw [if_neg (by decide), c0 s h0, vbs, a1, vbs]
  show ab_X15_write_244b _ (B + 643) 1 s1 = _
  unfold ab_X15_write_244b
  rw [if_neg (by decide), c1 s1 (by rw [a2.eI (by decide)]; exact h0), vbs, b1, vbs]
  show ab_X15_write_244b _ (B + 643) 2 s2 = _
  unfold ab_X15_write_244b
  rw [if_neg (by decide), c2 s2 (by rw [k2.eI (by decide)]; exact h9), vbs, d1, vbs]
  show ab_X15_write_244b _ (B + 643) 3 s3 = _
  unfold ab_X15_write_244b
  rw [if_neg (by decide), c3 s3 (by rw [k3.eI (by decide)]; exact h9), vbs, f1, vbs]
  show ab_X15_write_244b _ (B + 643) 4 s4 = _
  unfold ab_X15_write_244b
  rw [if_pos (by decide), slet, len]
theorem r_sum_loop {l : List Nat} (hl : l.length + 4 ≤ 4200) : ∀ (d i fu : Nat) (s : vt_S), i + d = l.length → d < fu → rowP B s l → vt_I s 1619 (B + 643) = nI (adN (lf l) i).1 → vt_I s 1620 (B + 643) = nI (adN (lf l) i).2 → ∃ s1, ab_X15_write_218 fu (B + 643) (nI i) s = some (nI (l.length + 4), s1) ∧ vk wrW [1606] [] (fun _ => True) s s1 ∧ rowP B s1 (l ++ ckL (adN (lf l) l.length)) := by
  intro d
  induction d with
  | zero =>
    intro i fu s hi hf h h9 h0
    obtain ⟨fu, rfl⟩ : ∃ q, fu = q + 1 := ⟨fu - 1, by omega⟩
    rw [show i = l.length by omega] at h9 h0 ⊢
    obtain ⟨s1, a1, a2, a3⟩ := r_ck4 (adN_lt _ _) h hl h9 h0
    refine ⟨s1, ?_, a2.weak (by decide) (by decide) (by decide), a3⟩
    show ab_X15_write_218b _ (B + 643) (nI l.length) s = _
    unfold ab_X15_write_218b
    obtain ⟨q, hq⟩ : ∃ q, sv_fuel = q + 5 := ⟨sv_fuel - 5, by have : 5 < sv_fuel := fuel_ge (by omega); omega⟩
    rw [slet, h.1, if_pos (nI_le (by omega) (by omega)), hq]
    exact a1 q
  | succ d ih =>
    intro i fu s hi hf h h9 h0
    obtain ⟨fu, rfl⟩ : ∃ q, fu = q + 1 := ⟨fu - 1, by omega⟩
    have lt := adN_lt (lf l) i
    have lt1 := adN_lt (lf l) (i + 1)
    obtain ⟨x1, x2⟩ := h.2.2 i (by omega)
    have hL := h.2.1
    have e1 : (nI (adN (lf l) i).1 + nI (lf l i)) - (nI (adN (lf l) i).1 + nI (lf l i)) / 65521 * 65521 = nI (adN (lf l) (i + 1)).1 := by
      rw [nI_add, nI_z, modI (by omega) (by omega), nI_z]
      refine congrArg zI ?_
      show _ = ((((adN (lf l) i).1 + lf l i) % 65521 : Nat) : Int)
      omega
    have e2 : (nI (adN (lf l) i).2 + nI (adN (lf l) (i + 1)).1) - (nI (adN (lf l) i).2 + nI (adN (lf l) (i + 1)).1) / 65521 * 65521 = nI (adN (lf l) (i + 1)).2 := by
      rw [nI_add, nI_z, modI (by omega) (by omega), nI_z]
      refine congrArg zI ?_
      show _ = ((((adN (lf l) i).2 + (adN (lf l) (i + 1)).1) % 65521 : Nat) : Int)
      omega
    have k1 : vk wrW [1606] [] (fun _ => True) s (vu_I (vu_I s 1619 (B + 643) (nI (adN (lf l) (i + 1)).1)) 1620 (B + 643) (nI (adN (lf l) (i + 1)).2)) := vk.pI (vk.pI (vk.refl s) (by decide)) (by decide)
    obtain ⟨s1, a1, a2, a3⟩ := ih (i + 1) fu _ (by omega) (by omega) ((h.kp (f := 1619) (v := nI (adN (lf l) (i + 1)).1) (by decide)).kp (f := 1620) (v := nI (adN (lf l) (i + 1)).2) (by decide)) (by rw [I_ne (by omega), I_at]) I_at
    refine ⟨s1, ?_, k1.trans a2, a3⟩
    show ab_X15_write_218b _ (B + 643) (nI i) s = _
    unfold ab_X15_write_218b ab_X15_sum
    rw [slet, h.1, if_neg (nI_ge (by omega) (by omega)), vl_I_ok (by omega) (by omega), obs, x1, slet, h9, e1, slet, slet, slet, I_at, I_ne (by omega), h0, e2, slet, vbs, nI_1]
    exact a1
theorem r_fin {s : vt_S} {l : List Nat} (h : rowP B s l) (hl : l.length + 5 ≤ 4200) : ∃ s1, (vt_b (ab_X15_put (B + 643) 0 s) fun _ h2 => sv_let (vu_I h2 1619 (B + 643) 1) fun h3 => sv_let (vu_I h3 1620 (B + 643) 0) fun h4 => ab_X15_write_218 sv_fuel (B + 643) 0 h4) = some (nI (fin4 l).length, s1) ∧ vk wrW [1606] [] (fun _ => True) s s1 ∧ rowP B s1 (fin4 l) := by
  obtain ⟨s1, a1, a2, a3⟩ := r_putL 0 h (by omega)
  rw [show by8 0 = 0 from rfl] at a3
  have len1 : (l ++ [0]).length = l.length + 1 := by rw [List.length_append]; rfl
  have k1 : vk wrW [1606] [] (fun _ => True) s1 (vu_I (vu_I s1 1619 (B + 643) 1) 1620 (B + 643) 0) := vk.pI (vk.pI (vk.refl s1) (by decide)) (by decide)
  obtain ⟨s2, b1, b2, b3⟩ := r_sum_loop (B := B) (l := l ++ [0]) (by omega) (l ++ [0]).length 0 sv_fuel (vu_I (vu_I s1 1619 (B + 643) 1) 1620 (B + 643) 0) (by omega) (fuel_ge (by omega)) ((a3.kp (f := 1619) (v := 1) (by decide)).kp (f := 1620) (v := 0) (by decide)) (by rw [I_ne (by omega), I_at]; rfl) (by rw [I_at]; rfl)
  refine ⟨s2, ?_, (a2.weak (by decide) (by decide) (by decide)).trans (k1.trans b2), b3⟩
  rw [a1, vbs, slet, slet]
  have e : (fin4 l).length = (l ++ [0]).length + 4 := by unfold fin4; rw [List.length_append]; rfl
  rw [e]
  exact b1
theorem r_write_loop : ∀ (d i fu : Nat) (s : vt_S) (l : List Nat), d = m - i → i ≤ m → d < fu → runR B s I m → rowP B s l → l.length + 4 * d + 5 ≤ 4200 → ∃ s1, ab_X15_write_80 fu (B + 643) (nI i) s = some (nI (fin4 (l ++ cl I m d 0 i)).length, s1) ∧ vk wrW [1606] [] (fun _ => True) s s1 ∧ rowP B s1 (fin4 (l ++ cl I m d 0 i)) := by
  intro d
  induction d using Nat.strongRecOn with
  | _ d ih =>
    intro i fu s l hd hi hf hr h hl
    obtain ⟨fu, rfl⟩ : ∃ q, fu = q + 1 := ⟨fu - 1, by omega⟩
    have hm := hr.2.1
    by_cases c : m ≤ i
    · have d0 : d = 0 := by omega
      subst d0
      obtain ⟨s1, a1, a2, a3⟩ := r_fin h (by omega)
      refine ⟨s1, ?_, a2, ?_⟩
      · show ab_X15_write_80b _ (B + 643) (nI i) s = _
        unfold ab_X15_write_80b
        rw [slet, hr.1, if_pos (nI_le (by omega) (by omega))]
        show _ = some (nI (fin4 (l ++ [])).length, s1)
        rw [List.append_nil]
        exact a1
      · show rowP B s1 (fin4 (l ++ []))
        rw [List.append_nil]
        exact a3
    · have rr := rl_le I m i 62 1 (by omega) (by omega)
      have ec : cl I m d 0 i = grp (I i) (rl I m i 62 1) ++ cl I m (m - (i + rl I m i 62 1)) 0 (i + rl I m i 62 1) := cl_rl I m i d 0 62 (by omega) (by omega) (by omega) (by omega) (fun j hj => by rw [show j = 0 by omega]; rfl)
      have gl := grp_len (I i) (rl I m i 62 1)
      obtain ⟨r1, r2, ⟨l1, l2, l3, l4⟩, r5⟩ := hr
      obtain ⟨x1, x2, x3, x4, x5⟩ := r5 i (by omega)
      have hr : runR B s I m := ⟨r1, r2, ⟨l1, l2, l3, l4⟩, r5⟩
      obtain ⟨s1, a1, a2, a3⟩ := r_group (K := ab_X15_write_80 fu) hr (show i < m by omega) rr.2.1 h (by omega)
      obtain ⟨s2, b1, b2, b3⟩ := ih (m - (i + rl I m i 62 1)) (by omega) (i + rl I m i 62 1) fu s1 (l ++ grp (I i) (rl I m i 62 1)) rfl (by omega) (by omega) (a2.keep0 (P := fun t => runR B t I m) hr) a3 (by rw [List.length_append]; omega)
      refine ⟨s2, ?_, (a2.weak (by decide) (by decide) (by decide)).trans b2, by rw [ec, ← List.append_assoc]; exact b3⟩
      unfold inOk at x5
      have z2 : (zI (I i).2.1 = 0) = ((I i).2.1 = 0) := by rw [show (0 : Int32) = zI 0 from rfl]; exact zI_eq (by omega) (by omega) (by omega) (by omega)
      have z3 : (zI (I i).2.2.1 = 0) = ((I i).2.2.1 = 0) := by rw [show (0 : Int32) = zI 0 from rfl]; exact zI_eq (by omega) (by omega) (by omega) (by omega)
      show ab_X15_write_80b _ (B + 643) (nI i) s = _
      unfold ab_X15_write_80b ab_X15_write_112
      rw [ec, ← List.append_assoc, ← b1, ← a1, slet, r1, if_neg (nI_ge (by omega) (by omega)), r_run hr (by omega), vbs, vl_I_ok (by omega) (by omega), obs, x2, ifc z2]
      by_cases c1 : (I i).2.1 = 0
      · rw [if_pos c1, vl_I_ok (by omega) (by omega), obs, x3, ifc z3]
        by_cases c2 : (I i).2.2.1 = 0
        · rw [if_pos c2, show whl (I i) = false by unfold whl; rw [decide_eq_false (by omega)]]; rfl
        · rw [if_neg c2, show whl (I i) = true by unfold whl; rw [decide_eq_true (by omega)]]; rfl
      · rw [if_neg c1, show whl (I i) = true by unfold whl; rw [decide_eq_true (by omega)]]; rfl
end W4
