-- THE WALKER begins
abbrev WS : Type := Int × Int × Nat × Nat
def stC (s : vt_S) (q : Nat) (st : WS) : Prop := vt_I s 800 q = zI st.1 ∧ vt_I s 801 q = zI st.2.1 ∧ vt_I s 802 q = nI st.2.2.1 ∧ vt_I s 803 q = nI st.2.2.2
def stR (B : Nat) (s : vt_S) (st : WS) : Prop := vt_A s 1600 (B + 643) 0 = zI st.1 ∧ vt_A s 1600 (B + 643) 1 = zI st.2.1 ∧ vt_A s 1600 (B + 643) 2 = nI st.2.2.1 ∧ vt_A s 1600 (B + 643) 3 = nI st.2.2.2
def rest0 (g : Nat → Nat) (j : Nat) : SD := restS (zI (pr g (scp g j))) (zI (pr g (scp g j + 2)))
theorem rest0_ok {g : Nat → Nat} {j : Nat} : sdOk (rest0 g j) := Or.inl ⟨rfl, rfl⟩
section BE
variable {B p n : Nat} {g : Nat → Nat} {s : vt_S} {st : WS}
theorem cWk.again (h : cWk B p g n s) : cWk B p g n (vu_P s 1101 (B + 628) p) := by
  obtain ⟨a, b, c, d, e, f, i⟩ := h
  refine ⟨a, P_at, ?_, d, ?_, f, i⟩
  · rw [P_ne (by omega)]; exact c
  · exact ⟨by rw [P_ne (by omega)]; exact e.1, by rw [P_ne (by omega)]; exact e.2.1, e.2.2⟩
theorem c_begin {q : Nat} (hk : cWk B p g n (vu_P s 1101 (B + 628) p)) (hs : stC s q st) : ∃ s1, ab_X10_begin (B + 628) p q s = some ((), s1) ∧ cWk B p g n s1 ∧ secsC s1 p (g 5) (rest0 g) ∧ wkC B s1 (st.1, st.2.1, st.2.2.2) ∧ vt_I s1 1104 (B + 628) = nI st.2.2.1 ∧ vt_I s1 1106 (B + 628) = 0 := by
  have hS := hk.2.2.2.2.2.2.S
  have hs0 : stC (vu_P s 1101 (B + 628) p) q st := hs
  have e0 : ab_X10_begin (B + 628) p q s = sv_let (vu_P s 1101 (B + 628) p) fun h1 => vt_b (ab_X2_settle p h1) fun _ h3 => sv_let (vt_I h3 800 q) fun v4 => sv_let (vu_I h3 1102 (B + 628) v4) fun h5 => sv_let (vt_I h5 801 q) fun v6 => sv_let (vu_I h5 1103 (B + 628) v6) fun h7 => sv_let (vt_I h7 802 q) fun v8 => sv_let (vu_I h7 1104 (B + 628) v8) fun h9 => sv_let (vt_I h9 803 q) fun v10 => sv_let (vu_I h9 1105 (B + 628) v10) fun h11 => sv_let (vu_I h11 1106 (B + 628) 0) fun h12 => some ((), h12) := by
    unfold ab_X10_begin
    rw [slet, slet, P_at, slet]
  rw [e0, slet]
  clear hs e0
  generalize vu_P s 1101 (B + 628) p = s0 at *
  obtain ⟨s1, a1, -, a3⟩ := c_settle hS.1 hk.2.2.2.2.1 hk.2.2.2.2.2.1.1.2.2.1
  have k1 := (vk_X2_settle vclT trivial a1).1
  have hk1 : cWk B p g n s1 := k1.keep0 (P := cWk B p g n) hk
  have b0 : vt_I s1 800 q = zI st.1 := by rw [k1.eI (by decide)]; exact hs0.1
  have b1 : vt_I s1 801 q = zI st.2.1 := by rw [k1.eI (by decide)]; exact hs0.2.1
  have b2 : vt_I s1 802 q = nI st.2.2.1 := by rw [k1.eI (by decide)]; exact hs0.2.2.1
  have b3 : vt_I s1 803 q = nI st.2.2.2 := by rw [k1.eI (by decide)]; exact hs0.2.2.2
  have k2 : vk [1102, 1103, 1104, 1105, 1106] [] [] (fun _ => True) s1 (vu_I (vu_I (vu_I (vu_I (vu_I s1 1102 (B + 628) (zI st.1)) 1103 (B + 628) (zI st.2.1)) 1104 (B + 628) (nI st.2.2.1)) 1105 (B + 628) (nI st.2.2.2)) 1106 (B + 628) 0) := vk.pI (vk.pI (vk.pI (vk.pI (vk.pI (vk.refl s1) (by decide)) (by decide)) (by decide)) (by decide)) (by decide)
  refine ⟨_, ?_, k2.keep0 (P := cWk B p g n) hk1, ?_, ⟨?_, ?_, ?_⟩, ?_, I_at⟩
  · rw [a1, vbs, slet, slet, slet, slet, slet, slet, slet, slet, slet, b0, I_ne (by omega), b1, I_ne (by omega), I_ne (by omega), b2, I_ne (by omega), I_ne (by omega), I_ne (by omega), b3]
  · intro j hj
    have h0 : secC s1 (p + 11 + j) (restS (vt_I s0 700 (p + 11 + j)) (vt_I s0 701 (p + 11 + j))) := a3 j hj
    have hF := hk.2.2.2.2.2.1.2.2.2.1 j hj
    have e : restS (vt_I s0 700 (p + 11 + j)) (vt_I s0 701 (p + 11 + j)) = rest0 g j := by
      unfold rest0
      rw [hF.1, hF.2.1]
    rw [e] at h0
    exact h0
  · rw [I_ne (by omega), I_ne (by omega), I_ne (by omega), I_ne (by omega), I_at]
  · rw [I_ne (by omega), I_ne (by omega), I_ne (by omega), I_at]
  · rw [I_ne (by omega), I_at]
  · rw [I_ne (by omega), I_ne (by omega), I_at]
theorem vk.pA {ws rs gs : List Nat} {s0 s : vt_S} {f a i : Nat} {v : Int32} (h : vk ws rs gs (fun _ => True) s0 s) (hf : f ∈ rs) : vk ws rs gs (fun _ => True) s0 (vu_A s f a i v) := (vw_A ⟨h, vclT⟩ hf trivial).1
theorem r_reset_loop : ∀ (d i fu : Nat) (s : vt_S), i + d = g 5 → d < fu → rHal B g s → (∀ j, j < i → secR s (B + 656) j (rest0 g j)) → ∃ s1, ab_X13_reset_2 fu (B + 656) (nI i) s = some ((), s1) ∧ secsR s1 (B + 656) (g 5) (rest0 g) ∧ hTk B s1 = 0 := by
  intro d
  induction d with
  | zero =>
    intro i fu s hi hf hh h
    obtain ⟨fu, rfl⟩ : ∃ q, fu = q + 1 := ⟨fu - 1, by omega⟩
    have hN := hh.1.2.1
    refine ⟨vu_I (vu_I (vu_I s 1415 (B + 656) 0) 1416 (B + 656) (-1)) 1417 (B + 656) 0, ?_, fun j hj => h j (by omega), ?_⟩
    · show ab_X13_reset_2b _ (B + 656) (nI i) s = _
      unfold ab_X13_reset_2b
      rw [slet, hh.1.1, if_pos (nI_le (by omega) (by omega)), slet, slet, slet]
    · unfold hTk
      rw [I_ne (by omega), I_ne (by omega), I_at]
  | succ d ih =>
    intro i fu s hi hf hh h
    obtain ⟨fu, rfl⟩ : ∃ q, fu = q + 1 := ⟨fu - 1, by omega⟩
    have hN := hh.1.2.1
    obtain ⟨L1, L2, -⟩ := hh.2.2.1
    obtain ⟨M8, M9, M10, M11, M12, M13, M14⟩ := hh.2.1
    obtain ⟨x1, x2, -⟩ := hh.2.2.2 i (by omega)
    have k1 : vk [] [1408, 1409, 1410, 1411, 1412, 1413] [] (fun _ => True) s (vu_A (vu_A (vu_A (vu_A (vu_A (vu_A s 1408 (B + 656) i (zI (pr g (scp g i)))) 1409 (B + 656) i (zI (pr g (scp g i + 2)))) 1410 (B + 656) i (-1)) 1411 (B + 656) i 0) 1412 (B + 656) i 0) 1413 (B + 656) i (-1)) := vk.pA (vk.pA (vk.pA (vk.pA (vk.pA (vk.pA (vk.refl s) (by decide)) (by decide)) (by decide)) (by decide)) (by decide)) (by decide)
    obtain ⟨s2, b1, b2, b3⟩ := ih (i + 1) fu _ (by omega) (by omega) (k1.keep0 (P := rHal B g) hh) (fun j hj => by
      refine ⟨?_, ?_, ?_, ?_, fun z => absurd rfl z⟩
      · simp (disch := decide) only [A_nf]
        rw [A_at]
        by_cases z : j = i
        · rw [if_pos z, z]; rfl
        · rw [if_neg z]; exact (h j (by omega)).1
      · simp (disch := decide) only [A_nf]
        rw [A_at]
        by_cases z : j = i
        · rw [if_pos z, z]; rfl
        · rw [if_neg z, A_nf (by decide)]; exact (h j (by omega)).2.1
      · simp (disch := decide) only [A_nf]
        rw [A_at]
        by_cases z : j = i
        · rw [if_pos z]; rfl
        · rw [if_neg z, A_nf (by decide), A_nf (by decide)]; exact (h j (by omega)).2.2.1
      · simp (disch := decide) only [A_nf]
        rw [A_at]
        by_cases z : j = i
        · rw [if_pos z]; rfl
        · rw [if_neg z, A_nf (by decide), A_nf (by decide), A_nf (by decide)]; exact (h j (by omega)).2.2.2.1)
    refine ⟨s2, ?_, b2, b3⟩
    show ab_X13_reset_2b _ (B + 656) (nI i) s = _
    unfold ab_X13_reset_2b
    have eL : ∀ f a v t, vt_L (vu_A t f a i v) = vt_L t := fun _ _ _ _ => Eq.trans rfl rfl
    rw [slet, hh.1.1, if_neg (nI_ge (by omega) (by omega)), vl_I_ok (by omega) (by omega), obs, x1, vs_I_ok (by omega) (by omega), obs, vl_I_ok (by rw [eL]; omega) (by rw [eL]; omega), obs, A_nf (by decide), x2, vs_I_ok (by rw [eL]; omega) (by rw [eL]; omega), obs, vs_I_ok (by rw [eL, eL]; omega) (by rw [eL, eL]; omega), obs, vs_I_ok (by rw [eL, eL, eL]; omega) (by rw [eL, eL, eL]; omega), obs, vs_I_ok (by rw [eL, eL, eL, eL]; omega) (by rw [eL, eL, eL, eL]; omega), obs, vs_I_ok (by rw [eL, eL, eL, eL, eL]; omega) (by rw [eL, eL, eL, eL, eL]; omega), obs, nI_1]
    exact b1
theorem r_reset (hh : rHal B g s) : ∃ s1, ab_X13_reset (B + 656) s = some ((), s1) ∧ secsR s1 (B + 656) (g 5) (rest0 g) ∧ hTk B s1 = 0 :=
  r_reset_loop (g 5) 0 sv_fuel s (by omega) (fuel_ge (by have := hh.1.2.1; omega)) hh (fun j hj => absurd hj (by omega))
theorem r_begun (hk : rWk B g n s) (hP : vt_P s 1802 (B + 639) = B + 643) (hL : vt_L s 1600 (B + 643) = 4) (hs : stR B s st) : ∃ s1, ab_X17_begin (B + 639) s = some ((), s1) ∧ rWk B g n s1 ∧ secsR s1 (B + 656) (g 5) (rest0 g) ∧ wkR B s1 (st.1, st.2.1, st.2.2.2) ∧ vt_I s1 1813 (B + 639) = nI st.2.2.1 ∧ hTk B s1 = 0 := by
  have eP : ∀ f a v t, vt_P (vu_I t f a v) = vt_P t := fun _ _ _ _ => Eq.trans rfl rfl
  have eL : ∀ f a v t, vt_L (vu_I t f a v) = vt_L t := fun _ _ _ _ => Eq.trans rfl rfl
  have eA : ∀ f a v t, vt_A (vu_I t f a v) = vt_A t := fun _ _ _ _ => Eq.trans rfl rfl
  obtain ⟨t, ht⟩ : ∃ t, t = vu_I (vu_I (vu_I (vu_I s 1811 (B + 639) (zI st.1)) 1812 (B + 639) (zI st.2.1)) 1813 (B + 639) (nI st.2.2.1)) 1814 (B + 639) (nI st.2.2.2) := ⟨_, rfl⟩
  have k2 : vk [1811, 1812, 1813, 1814] [] [] (fun _ => True) s t := by rw [ht]; exact vk.pI (vk.pI (vk.pI (vk.pI (vk.refl s) (by decide)) (by decide)) (by decide)) (by decide)
  have hkt : rWk B g n t := k2.keep0 (P := rWk B g n) hk
  have w1 : vt_I t 1811 (B + 639) = zI st.1 := by rw [ht, I_ne (by omega), I_ne (by omega), I_ne (by omega), I_at]
  have w2 : vt_I t 1812 (B + 639) = zI st.2.1 := by rw [ht, I_ne (by omega), I_ne (by omega), I_at]
  have w3 : vt_I t 1813 (B + 639) = nI st.2.2.1 := by rw [ht, I_ne (by omega), I_at]
  have w4 : vt_I t 1814 (B + 639) = nI st.2.2.2 := by rw [ht, I_at]
  have e0 : ab_X17_begin (B + 639) s = vt_b (ab_X13_reset (B + 656) t) fun _ h18 => some ((), h18) := by
    unfold ab_X17_begin
    rw [slet, hP, show (0 : Int32) = nI 0 from rfl, vl_I_ok (by omega) (by omega), obs, hs.1, slet, slet, eP, hP, show (1 : Int32) = nI 1 from rfl, vl_I_ok (by rw [eL]; omega) (by rw [eL]; omega), obs, eA, hs.2.1, slet, slet, eP, eP, hP, show (2 : Int32) = nI 2 from rfl, vl_I_ok (by rw [eL, eL]; omega) (by rw [eL, eL]; omega), obs, eA, eA, hs.2.2.1, slet, slet, eP, eP, eP, hP, show (3 : Int32) = nI 3 from rfl, vl_I_ok (by rw [eL, eL, eL]; omega) (by rw [eL, eL, eL]; omega), obs, eA, eA, eA, hs.2.2.2, slet, ← ht, slet, hkt.2.2.2.2.1]
  clear ht
  obtain ⟨s1, a1, a2, a3⟩ := r_reset hkt.2.1
  have k1 := (vk_X13_reset vclT trivial a1).1
  refine ⟨s1, by rw [e0, a1, vbs], k1.keep0 (P := rWk B g n) hkt, a2, ⟨?_, ?_, ?_⟩, ?_, a3⟩
  · rw [k1.eI (by decide)]; exact w1
  · rw [k1.eI (by decide)]; exact w2
  · rw [k1.eI (by decide)]; exact w4
  · rw [k1.eI (by decide)]; exact w3
end BE
