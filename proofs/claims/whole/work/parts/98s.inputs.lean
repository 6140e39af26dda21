-- INPUTS are added and dropped
theorem nI_sub {m x : Nat} (h : x ≤ m) : nI m - nI x = nI (m - x) := by
  rw [nI_z, nI_z, nI_z, zI_sub]
  refine congrArg zI ?_
  omega
/-- only at some addresses ints were changed, and arrays may have grown there -/
def ong (W : Nat → Prop) (s s1 : vt_S) : Prop := vt_J s1 = vt_J s ∧ vt_P s1 = vt_P s ∧ vt_E s1 = vt_E s ∧ vt_B s1 = vt_B s ∧ ∀ a, ¬ W a → ∀ f, vt_I s1 f a = vt_I s f a ∧ vt_A s1 f a = vt_A s f a ∧ vt_L s1 f a = vt_L s f a
section ONG
variable {W V : Nat → Prop} {s s1 s2 : vt_S}
theorem ong.refl : ong W s s := ⟨rfl, rfl, rfl, rfl, fun _ _ _ => ⟨rfl, rfl, rfl⟩⟩
theorem ong.trans (h : ong W s s1) (k : ong W s1 s2) : ong W s s2 := ⟨k.1.trans h.1, k.2.1.trans h.2.1, k.2.2.1.trans h.2.2.1, k.2.2.2.1.trans h.2.2.2.1, fun a ha f => ⟨(k.2.2.2.2 a ha f).1.trans (h.2.2.2.2 a ha f).1, (k.2.2.2.2 a ha f).2.1.trans (h.2.2.2.2 a ha f).2.1, (k.2.2.2.2 a ha f).2.2.trans (h.2.2.2.2 a ha f).2.2⟩⟩
theorem ong.mono (h : ong W s s1) (hv : ∀ a, W a → V a) : ong V s s1 := ⟨h.1, h.2.1, h.2.2.1, h.2.2.2.1, fun a ha f => h.2.2.2.2 a (fun z => ha (hv a z)) f⟩
theorem ong.I (h : ong W s s1) {f a : Nat} (ha : ¬ W a) : vt_I s1 f a = vt_I s f a := (h.2.2.2.2 a ha f).1
theorem ong.A (h : ong W s s1) {f a : Nat} (ha : ¬ W a) : vt_A s1 f a = vt_A s f a := (h.2.2.2.2 a ha f).2.1
theorem ong.L (h : ong W s s1) {f a : Nat} (ha : ¬ W a) : vt_L s1 f a = vt_L s f a := (h.2.2.2.2 a ha f).2.2
theorem ong.P (h : ong W s s1) : vt_P s1 = vt_P s := h.2.1
theorem ong.E (h : ong W s s1) : vt_E s1 = vt_E s := h.2.2.1
theorem onl.ong (h : onl W s s1) : ong W s s1 := ⟨h.2.2.1, h.P, h.E, h.2.2.2.2.2.2.1, fun a ha f => ⟨h.I ha, h.A ha, by rw [h.L]⟩⟩
theorem ong.putI {f a : Nat} {v : Int32} (h : ong W s s1) (ha : W a) : ong W s (vu_I s1 f a v) := h.trans (onl.ong ((onl.refl (W := W) (s := s1)).putI ha))
theorem ong.putA {f a i : Nat} {v : Int32} (h : ong W s s1) (ha : W a) : ong W s (vu_A s1 f a i v) := h.trans (onl.ong ((onl.refl (W := W) (s := s1)).putA ha))
end ONG
section IA
variable {s : vt_S} {i : IN}
def i32 (v : Int) : Prop := -2147483648 ≤ v ∧ v ≤ 2147483647
def inB (i : IN) : Bool := decide (-64 ≤ i.1) && decide (i.1 ≤ 64) && decide (-64 ≤ i.2.1) && decide (i.2.1 ≤ 64) && decide (-16 ≤ i.2.2.1) && decide (i.2.2.1 ≤ 16)
theorem inB_iff : inB i = true ↔ inOk i := by
  unfold inB inOk
  simp only [Bool.and_eq_true, decide_eq_true_eq]
  constructor
  · rintro ⟨⟨⟨⟨⟨a, b⟩, c⟩, d⟩, e⟩, f⟩; exact ⟨⟨a, b⟩, ⟨c, d⟩, e, f⟩
  · rintro ⟨⟨a, b⟩, ⟨c, d⟩, e, f⟩; exact ⟨⟨⟨⟨⟨a, b⟩, c⟩, d⟩, e⟩, f⟩
theorem inB_t (h : inOk i) : inB i = true := inB_iff.mpr h
theorem inB_f (h : ¬ inOk i) : inB i = false := by
  cases c : inB i
  · rfl
  · exact absurd (inB_iff.mp c) h
theorem c_isInput (h1 : i32 i.1) (h2 : i32 i.2.1) (h3 : i32 i.2.2.1) : ab_X5_isInput (zI i.1) (zI i.2.1) (zI i.2.2.1) s = some (bI (inB i), s) := by
  unfold i32 at h1 h2 h3
  unfold ab_X5_isInput ab_X5_isInput_40 ab_X5_isInput_41
  rw [show (-64 : Int32) = zI (-64) from rfl, show (-16 : Int32) = zI (-16) from rfl, show (64 : Int32) = zI 64 from rfl, show (16 : Int32) = zI 16 from rfl, ifc (zI_lt (by omega) (by omega) (by omega) (by omega)), ifc (zI_lt (by omega) (by omega) (by omega) (by omega)), ifc (zI_lt (by omega) (by omega) (by omega) (by omega)), ifc (zI_lt (by omega) (by omega) (by omega) (by omega)), ifc (zI_lt (by omega) (by omega) (by omega) (by omega)), ifc (zI_lt (by omega) (by omega) (by omega) (by omega))]
  by_cases h : inOk i
  · have hh := h
    unfold inOk at h
    rw [if_neg (by omega), if_neg (by omega), if_neg (by omega), if_neg (by omega), if_neg (by omega), if_neg (by omega), inB_t hh]
    rfl
  · rw [inB_f h]
    unfold inOk at h
    by_cases c1 : i.1 < -64
    · rw [if_pos c1]; rfl
    rw [if_neg c1]
    by_cases c2 : 64 < i.1
    · rw [if_pos c2]; rfl
    rw [if_neg c2]
    by_cases c3 : i.2.1 < -64
    · rw [if_pos c3]; rfl
    rw [if_neg c3]
    by_cases c4 : 64 < i.2.1
    · rw [if_pos c4]; rfl
    rw [if_neg c4]
    by_cases c5 : i.2.2.1 < -16
    · rw [if_pos c5]; rfl
    rw [if_neg c5]
    by_cases c6 : 16 < i.2.2.1
    · rw [if_pos c6]; rfl
    exact absurd ⟨⟨by omega, by omega⟩, ⟨by omega, by omega⟩, by omega, by omega⟩ h
theorem r_isIn {v b : Int} (h1 : i32 v) (h2 : 0 ≤ b) (h3 : b ≤ 1000) : ab_X15_isIn (zI v) (zI b) s = some (bI (decide (-b ≤ v ∧ v ≤ b)), s) := by
  unfold i32 at h1
  unfold ab_X15_isIn ab_X15_isIn_15 ab_X15_isIn_16
  rw [zI_neg, ifc (zI_lt (by omega) (by omega) (by omega) (by omega)), ifc (zI_lt (by omega) (by omega) (by omega) (by omega))]
  by_cases c1 : v < -b
  · rw [if_pos c1, decide_eq_false (by omega)]; rfl
  rw [if_neg c1]
  by_cases c2 : b < v
  · rw [if_pos c2, decide_eq_false (by omega)]; rfl
  rw [if_neg c2, decide_eq_true (by omega)]; rfl
theorem grow_ok {f a n : Nat} (h1 : vt_L s f a < n) (h2 : n ≤ 1048576) : ∃ s1, vg_I s f a (nI n) = some s1 ∧ vt_z s1 = vt_z s + 1 ∧ vt_l s1 = vt_l s + n ∧ vt_L s1 f a = n ∧ vt_I s1 = vt_I s ∧ (∀ j, j < vt_L s f a → vt_A s1 f a j = vt_A s f a j) ∧ ong (· = a) s s1 := by
  unfold vg_I
  rw [if_neg (show ¬ nI n = Int32.ofNat (vt_L s f a) from fun z => by
    have := (nI_eq (a := n) (b := vt_L s f a) (by omega) (by omega)).mp z
    omega), if_pos ⟨nI_pos (by omega), (nI_leI (b := 1048576) (by omega) (by omega)).mpr (by omega)⟩, nI_clamp (by omega)]
  refine ⟨_, rfl, rfl, rfl, ?_, rfl, fun j hj => ?_, rfl, rfl, rfl, rfl, fun b hb q => ⟨rfl, ?_, ?_⟩⟩
  · show vur (vt_L s) f a _ f a = _
    rw [vur_at]
  · show vur (vt_A s) f a _ f a j = _
    rw [vur_at]
    unfold va_cpy
    rw [if_pos ⟨by omega, by omega⟩]
    simp
  · show vur (vt_A s) f a _ q b = _
    unfold vur
    rw [if_neg (fun z => hb z.2)]
  · show vur (vt_L s) f a _ q b = _
    unfold vur
    rw [if_neg (fun z => hb z.2)]
theorem c_add {R m : Nat} {I : Nat → IN} (hr : runC s R I m) (hm : m < 1024) (hi : inOk i) : ∃ s1, ab_X5_add R (zI (inN i)) s = some ((), s1) ∧ runC s1 R (fun j => if j = m then i else I j) (m + 1) ∧ vt_z s1 + vt_L s 601 R ≤ vt_z s + vt_L s1 601 R ∧ vt_l s1 + 2 * vt_L s 601 R ≤ vt_l s + 2 * vt_L s1 601 R ∧ vt_L s 601 R ≤ vt_L s1 601 R ∧ ong (· = R) s s1 := by
  obtain ⟨r1, r2, r3, ⟨r4, r4'⟩, r5⟩ := hr
  have put : ∀ t : vt_S, vt_I t = vt_I s → m < vt_L t 601 R → vt_L t 601 R ≤ 2048 → (∀ j, j < m → vt_A t 601 R j = vt_A s 601 R j) → ∃ s1, ab_X5_add_40 R (zI (inN i)) t = some ((), s1) ∧ runC s1 R (fun j => if j = m then i else I j) (m + 1) ∧ vt_z s1 = vt_z t ∧ vt_l s1 = vt_l t ∧ vt_L s1 = vt_L t ∧ ong (· = R) t s1 := by
    intro t h1 h2 h3 h4
    refine ⟨vu_I (vu_A t 601 R m (zI (inN i))) 602 R (nI (m + 1)), ?_, ⟨I_at, by omega, ?_, ⟨?_, ?_⟩, fun j hj => ?_⟩, rfl, rfl, rfl, ong.putI (ong.putA ong.refl rfl) rfl⟩
    · unfold ab_X5_add_40
      rw [slet, h1, r1, vs_I_ok (by omega) (by omega), obs, slet, slet, I_A, h1, r1, nI_1]
    · show m + 1 ≤ vt_L t 601 R
      omega
    · show 1 ≤ vt_L t 601 R
      omega
    · show vt_L t 601 R ≤ 2048
      omega
    · rw [A_I, A_at]
      dsimp only
      by_cases z : j = m
      · rw [if_pos z, if_pos z]; exact ⟨rfl, hi⟩
      · rw [if_neg z, if_neg z, h4 j (by omega)]; exact r5 j (by omega)
  have e0 : ab_X5_add R (zI (inN i)) s = if m = vt_L s 601 R then (vg_I s 601 R (nI (2 * m))).bind fun h9 => ab_X5_add_40 R (zI (inN i)) h9 else ab_X5_add_40 R (zI (inN i)) s := by
    unfold ab_X5_add
    rw [slet, r1, if_pos (show nI m < 1024 from (nI_ltI (b := 1024) (by omega) (by omega)).mpr hm), slet, slet, slet, show (2 : Int32) = nI 2 from rfl, pk_mul]
    by_cases c : m = vt_L s 601 R
    · rw [if_pos c, if_pos (show nI m = Int32.ofNat (vt_L s 601 R) by rw [← c]; rfl)]
    · rw [if_neg c, if_neg (show ¬ nI m = Int32.ofNat (vt_L s 601 R) from fun z => c ((nI_eq (by omega) (by omega)).mp z))]
  rw [e0]
  by_cases c : m = vt_L s 601 R
  · rw [if_pos c]
    obtain ⟨t, a1, a2, a3, a4, a5, a6, a7⟩ := grow_ok (s := s) (f := 601) (a := R) (n := 2 * m) (by omega) (by omega)
    rw [a1, obs]
    obtain ⟨s1, b1, b2, b3, b4, b5, b6⟩ := put t a5 (by omega) (by omega) (fun j hj => a6 j (by omega))
    exact ⟨s1, b1, b2, by rw [b3, b5]; omega, by rw [b4, b5]; omega, by rw [b5]; omega, a7.trans b6⟩
  · rw [if_neg c]
    obtain ⟨s1, b1, b2, b3, b4, b5, b6⟩ := put s rfl (by omega) r4' (fun j _ => rfl)
    exact ⟨s1, b1, b2, by rw [b3, b5]; omega, by rw [b4, b5]; omega, by rw [b5]; omega, b6⟩
theorem r_put {B m : Nat} {I : Nat → IN} (hr : runR B s I m) (hm : m < 1024) (hi : inOk i) : ∃ s1, (∀ fu, ab_X15_record_59 (fu + 2) (B + 643) (zI i.1) (zI i.2.1) (zI i.2.2.1) (bI i.2.2.2) 1 0 s = some (nI (m + 1), s1)) ∧ runR B s1 (fun j => if j = m then i else I j) (m + 1) := by
  obtain ⟨r1, r2, ⟨l1, l2, l3, l4⟩, r5⟩ := hr
  have eL : ∀ f a k v t, vt_L (vu_A t f a k v) = vt_L t := fun _ _ _ _ _ => Eq.trans rfl rfl
  obtain ⟨t, ht⟩ : ∃ t, t = vu_A (vu_A (vu_A (vu_A s 1601 (B + 643) m (zI i.1)) 1602 (B + 643) m (zI i.2.1)) 1603 (B + 643) m (zI i.2.2.1)) 1604 (B + 643) m (bI i.2.2.2) := ⟨_, rfl⟩
  have tI : vt_I t = vt_I s := by rw [ht]; exact Eq.trans rfl rfl
  have tL : vt_L t = vt_L s := by rw [ht, eL, eL, eL, eL]
  refine ⟨vu_I t 1605 (B + 643) (nI (m + 1)), fun fu => ?_, I_at, by omega, ?_, fun j hj => ?_⟩
  · show ab_X15_record_59b _ (B + 643) (zI i.1) (zI i.2.1) (zI i.2.2.1) (bI i.2.2.2) 1 0 s = _
    unfold ab_X15_record_59b
    rw [if_neg (by decide), slet, r1, vs_I_ok (by omega) (by omega), obs, slet, I_A, r1, vs_I_ok (by rw [eL]; omega) (by rw [eL]; omega), obs, slet, I_A, I_A, r1, vs_I_ok (by rw [eL, eL]; omega) (by rw [eL, eL]; omega), obs, slet, I_A, I_A, I_A, r1, nar_b, vs_I_ok (by rw [eL, eL, eL]; omega) (by rw [eL, eL, eL]; omega), obs, ← ht, slet, tI, r1, slet, nI_1]
    show ab_X15_record_59b _ (B + 643) (zI i.1) (zI i.2.1) (zI i.2.2.1) (bI i.2.2.2) 1 (0 + 1) _ = _
    unfold ab_X15_record_59b
    rw [if_pos (by decide), slet, I_at]
  · show vt_L t 1601 (B + 643) = 1024 ∧ vt_L t 1602 (B + 643) = 1024 ∧ vt_L t 1603 (B + 643) = 1024 ∧ vt_L t 1604 (B + 643) = 1024
    rw [tL]
    exact ⟨l1, l2, l3, l4⟩
  · rw [A_I, ht, A_at, A_nf (show 1601 ≠ 1604 by decide), A_nf (show 1601 ≠ 1603 by decide), A_nf (show 1601 ≠ 1602 by decide), A_at, A_nf (show 1602 ≠ 1604 by decide), A_nf (show 1602 ≠ 1603 by decide), A_at, A_nf (show 1603 ≠ 1604 by decide), A_at]
    dsimp only
    by_cases z : j = m
    · rw [if_pos z, if_pos z, if_pos z, if_pos z, if_pos z]; exact ⟨rfl, rfl, rfl, rfl, hi⟩
    · rw [if_neg z, if_neg z, if_neg z, if_neg z, if_neg z]
      simp (disch := decide) only [A_nf]
      exact r5 j (by omega)
theorem c_drop {R m x : Nat} {I : Nat → IN} (hr : runC s R I m) (hx : x ≤ m) : runC (vu_I s 602 R (nI m - nI x)) R I (m - x) := by
  obtain ⟨r1, r2, r3, r4, r5⟩ := hr
  refine ⟨?_, by omega, ?_, r4, fun j hj => r5 j (by omega)⟩
  · rw [I_at, nI_sub hx]
  · show m - x ≤ vt_L s 601 R
    omega
theorem r_drop {B m x : Nat} {I : Nat → IN} (hr : runR B s I m) (hx : x ≤ m) : runR B (vu_I s 1605 (B + 643) (nI m - nI x)) I (m - x) := by
  obtain ⟨r1, r2, r3, r5⟩ := hr
  refine ⟨?_, by omega, r3, fun j hj => r5 j (by omega)⟩
  rw [I_at, nI_sub hx]
end IA
