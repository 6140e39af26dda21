-- FRAME: two orders of one sum
def pwL : Nat → Int64
  | 0 => 1
  | i + 1 => pwL i * 31
def csL (F : Int64) (p : Nat → Nat → Int64) (c : Nat) : Nat → Int64
  | 0 => 0
  | r + 1 => F * csL F p c r + p c r
def smL (F : Int64) (p : Nat → Nat → Int64) : Nat → Int64
  | 0 => 0
  | c + 1 => 31 * smL F p c + csL F p c 48
def hrL (p : Nat → Nat → Int64) : Nat → Int64
  | 0 => 0
  | k + 1 => 31 * hrL p k + p (k % 64) (k / 64)
def tL (F : Int64) (p : Nat → Nat → Int64) (R : Nat) : Nat → Int64
  | 0 => 0
  | c + 1 => 31 * tL F p R c + csL F p c R
def uL (p : Nat → Nat → Int64) (R : Nat) : Nat → Int64
  | 0 => 0
  | c + 1 => 31 * uL p R c + p c R
theorem tL_succ (F : Int64) (p : Nat → Nat → Int64) (R : Nat) : ∀ c, tL F p (R + 1) c = F * tL F p R c + uL p R c
  | 0 => by
    show (0 : Int64) = F * 0 + 0
    rw [Int64.mul_zero, Int64.add_zero]
  | c + 1 => by
    show 31 * tL F p (R + 1) c + (F * csL F p c R + p c R) = F * (31 * tL F p R c + csL F p c R) + (31 * uL p R c + p c R)
    rw [tL_succ F p R c, Int64.mul_add, Int64.mul_add]
    have e : (31 : Int64) * (F * tL F p R c) = F * (31 * tL F p R c) := by rw [← Int64.mul_assoc, Int64.mul_comm 31 F, Int64.mul_assoc]
    rw [e]
    generalize F * (31 * tL F p R c) = A
    generalize F * csL F p c R = B
    generalize 31 * uL p R c = C
    rw [Int64.add_assoc A C, ← Int64.add_assoc C B, Int64.add_comm C B, Int64.add_assoc B C, ← Int64.add_assoc A B]
theorem hr_row (p : Nat → Nat → Int64) (R : Nat) : ∀ c, c ≤ 64 → hrL p (64 * R + c) = pwL c * hrL p (64 * R) + uL p R c
  | 0, _ => by
    show hrL p (64 * R) = 1 * hrL p (64 * R) + 0
    rw [Int64.one_mul, Int64.add_zero]
  | c + 1, h => by
    show 31 * hrL p (64 * R + c) + p ((64 * R + c) % 64) ((64 * R + c) / 64) = (pwL c * 31) * hrL p (64 * R) + (31 * uL p R c + p c R)
    rw [show (64 * R + c) % 64 = c by omega, show (64 * R + c) / 64 = R by omega, hr_row p R c (by omega), Int64.mul_add, ← Int64.add_assoc, ← Int64.mul_assoc, Int64.mul_comm 31 (pwL c)]
theorem hr_t (p : Nat → Nat → Int64) : ∀ R, hrL p (64 * R) = tL (pwL 64) p R 64
  | 0 => by
    have z : ∀ c, tL (pwL 64) p 0 c = 0 := by
      intro c
      induction c with
      | zero => rfl
      | succ c ih =>
        show 31 * tL (pwL 64) p 0 c + 0 = 0
        rw [ih, Int64.mul_zero, Int64.add_zero]
    rw [z]; rfl
  | R + 1 => by
    have := hr_row p R 64 (Nat.le_refl _)
    rw [show 64 * (R + 1) = 64 * R + 64 by omega, this, hr_t p R, tL_succ]
theorem tL_sm (F : Int64) (p : Nat → Nat → Int64) : ∀ c, tL F p 48 c = smL F p c
  | 0 => rfl
  | c + 1 => by
    show 31 * tL F p 48 c + csL F p c 48 = 31 * smL F p c + csL F p c 48
    rw [tL_sm F p c]
theorem frame_eq (p : Nat → Nat → Int64) : smL (pwL 64) p 64 = hrL p 3072 := by
  rw [← tL_sm, ← hr_t p 48]
section FM2
variable {B p n : Nat} {g : Nat → Nat} {D : Nat → SD} {k : WK} {a : Nat} {tk : Int32}
def pxL (g : Nat → Nat) (D : Nat → SD) (tk : Int32) (k : WK) (a c r : Nat) : Int64 := Int32.toInt64 ((viewX g D tk k a c).1.2.1 r)
def cAll (B p : Nat) (g : Nat → Nat) (n : Nat) (D : Nat → SD) (k : WK) (a : Nat) (tk : Int32) (s : vt_S) : Prop := cVw B p g n s ∧ secsC s p (g 5) D ∧ wkC B s k ∧ vt_I s 1104 (B + 628) = nI a ∧ vt_I s 1106 (B + 628) = tk ∧ vt_P s 1305 B = B + 629 ∧ vt_P s 1304 B = B + 628
theorem c_fr62 {K : Nat → Int64 → Int64 → Int32 → vt_S → Option (Int64 × vt_S)} {F S : Int64} {c : Nat} {X : CX} {s : vt_S} {x5 : Int32} (h5 : vt_P s 1305 B = B + 629) (hL : vt_L s 1002 (B + 629) = 48) (hX : cX B s X) (P : Nat → Nat → Int64) (hP : ∀ r, r < 48 → P c r = Int32.toInt64 (X.1.2.1 r)) : ∀ (d r fu : Nat), r + d = 48 → d < fu → ab_X12_frameOf_62 K fu B F S x5 (csL F P c r) (nI r) s = K B F (31 * S + csL F P c 48) (x5 + 1) s := by
  intro d
  induction d with
  | zero =>
    intro r fu hr hf
    obtain ⟨fu, rfl⟩ : ∃ q, fu = q + 1 := ⟨fu - 1, by omega⟩
    show ab_X12_frameOf_62b _ _ B F S x5 _ (nI r) s = _
    unfold ab_X12_frameOf_62b
    rw [if_pos (show (48 : Int32) ≤ nI r from nI_le (a := 48) (by omega) (by omega)), show r = 48 by omega]
  | succ d ih =>
    intro r fu hr hf
    obtain ⟨fu, rfl⟩ : ∃ q, fu = q + 1 := ⟨fu - 1, by omega⟩
    have := ih (r + 1) fu (by omega) (by omega)
    have e : csL F P c (r + 1) = F * csL F P c r + Int32.toInt64 (X.1.2.1 r) := by rw [← hP r (by omega)]; rfl
    rw [e] at this
    show ab_X12_frameOf_62b _ _ B F S x5 _ (nI r) s = _
    unfold ab_X12_frameOf_62b
    rw [if_neg (show ¬ (48 : Int32) ≤ nI r from nI_ge (b := 48) (by omega) (by omega)), slet, h5, vl_I_ok (by omega) (by omega), obs, (hX.1 r (by omega)).2, nI_1]
    exact this
theorem c_fr36 (ok : wkOk g k a) {F : Int64} : ∀ (d c fu : Nat) (s : vt_S), c + d = 64 → d < fu → cAll B p g n D k a tk s → ∃ s1, ab_X12_frameOf_36 fu B F (smL F (pxL g D tk k a) c) (nI c) s = some (smL F (pxL g D tk k a) 64, s1) := by
  intro d
  induction d with
  | zero =>
    intro c fu s hc hf hk
    obtain ⟨fu, rfl⟩ : ∃ q, fu = q + 1 := ⟨fu - 1, by omega⟩
    refine ⟨s, ?_⟩
    show ab_X12_frameOf_36b _ B F _ (nI c) s = _
    unfold ab_X12_frameOf_36b
    rw [if_pos (show (64 : Int32) ≤ nI c from nI_le (a := 64) (by omega) (by omega)), show c = 64 by omega]
  | succ d ih =>
    intro c fu s hc hf hk
    obtain ⟨fu, rfl⟩ : ∃ q, fu = q + 1 := ⟨fu - 1, by omega⟩
    obtain ⟨h1, h2, h3, h4, h5, h6, h7⟩ := id hk
    obtain ⟨s1, a1, a2, -⟩ := c_viewZ (c := c) h1 h2 h3 h4 ok h5 (by omega)
    have k1 := (vk_X9_look vclT trivial trivial a1).1
    have hk1 : cAll B p g n D k a tk s1 := k1.keep0 (P := cAll B p g n D k a tk) hk
    obtain ⟨s2, b1⟩ := ih (c + 1) fu s1 (by omega) (by omega) hk1
    refine ⟨s2, ?_⟩
    show ab_X12_frameOf_36b _ B F _ (nI c) s = _
    unfold ab_X12_frameOf_36b
    rw [if_neg (show ¬ (64 : Int32) ≤ nI c from nI_ge (b := 64) (by omega) (by omega)), slet, slet, h6, h7, a1, vbs]
    have := c_fr62 (K := ab_X12_frameOf_36 fu) (F := F) (S := smL F (pxL g D tk k a) c) (x5 := nI c) hk1.2.2.2.2.2.1 hk1.1.2.2.2.2.1 a2 (pxL g D tk k a) (c := c) (fun r hr => rfl) 48 0 sv_fuel (by omega) (fuel_ge (by omega))
    have this : ab_X12_frameOf_62 (ab_X12_frameOf_36 fu) sv_fuel B F (smL F (pxL g D tk k a) c) (nI c) 0 0 s1 = _ := this
    rw [this, nI_1]
    exact b1
theorem c_frame {s : vt_S} (ok : wkOk g k a) (hk : cAll B p g n D k a tk s) : ∃ s1, ab_X12_frameOf_13 sv_fuel B 1 0 s = some (hrL (pxL g D tk k a) 3072, s1) := by
  have l13 : ∀ (d i fu : Nat), i + d = 64 → d < fu → ab_X12_frameOf_13 fu B (pwL i) (nI i) s = ab_X12_frameOf_36 sv_fuel B (pwL 64) 0 0 s := by
    intro d
    induction d with
    | zero =>
      intro i fu hi hf
      obtain ⟨fu, rfl⟩ : ∃ q, fu = q + 1 := ⟨fu - 1, by omega⟩
      show ab_X12_frameOf_13b _ B _ (nI i) s = _
      unfold ab_X12_frameOf_13b
      rw [if_pos (show (64 : Int32) ≤ nI i from nI_le (a := 64) (by omega) (by omega)), show i = 64 by omega]
    | succ d ih =>
      intro i fu hi hf
      obtain ⟨fu, rfl⟩ : ∃ q, fu = q + 1 := ⟨fu - 1, by omega⟩
      show ab_X12_frameOf_13b _ B _ (nI i) s = _
      unfold ab_X12_frameOf_13b
      rw [if_neg (show ¬ (64 : Int32) ≤ nI i from nI_ge (b := 64) (by omega) (by omega)), nI_1]
      exact ih (i + 1) fu (by omega) (by omega)
  obtain ⟨s1, a1⟩ := c_fr36 (F := pwL 64) ok 64 0 sv_fuel s (by omega) (fuel_ge (by omega)) hk
  refine ⟨s1, ?_⟩
  have e := l13 64 0 sv_fuel (by omega) (fuel_ge (by omega))
  have e : ab_X12_frameOf_13 sv_fuel B 1 0 s = ab_X12_frameOf_36 sv_fuel B (pwL 64) 0 0 s := e
  rw [e, ← frame_eq]
  exact a1
def rAll (B : Nat) (g : Nat → Nat) (n : Nat) (D : Nat → SD) (k : WK) (a : Nat) (tk : Int32) (s : vt_S) : Prop := rWk B g n s ∧ rS B s ∧ secsR s (B + 656) (g 5) D ∧ wkR B s k ∧ vt_I s 1813 (B + 639) = nI a ∧ hTk B s = tk
def frI (B : Nat) (g : Nat → Nat) (D : Nat → SD) (tk : Int32) (k : WK) (a c : Nat) (s : vt_S) : Prop := ∀ c', c' < c → ∀ r, r < 48 → vt_A s 1826 (B + 639) (64 * r + c') = (viewX g D tk k a c').1.2.1 r
theorem r_fr29 {K : Nat → Int32 → vt_S → Option (Int64 × vt_S)} {c : Nat} (hc : c < 64) : ∀ (d r fu : Nat) (s : vt_S), r + d = 48 → d < fu → rAll B g n D k a tk s → rX B s (viewX g D tk k a c) → frI B g D tk k a c s → (∀ r', r' < r → vt_A s 1826 (B + 639) (64 * r' + c) = (viewX g D tk k a c).1.2.1 r') → ∃ s1, ab_X17_frameOf_29 K fu (B + 639) (nI c) (nI r) s = K (B + 639) (nI (c + 1)) s1 ∧ rAll B g n D k a tk s1 ∧ frI B g D tk k a (c + 1) s1 := by
  intro d
  induction d with
  | zero =>
    intro r fu s hr hf hk hX hF hA
    obtain ⟨fu, rfl⟩ : ∃ q, fu = q + 1 := ⟨fu - 1, by omega⟩
    refine ⟨s, ?_, hk, fun c' hc' r' hr' => ?_⟩
    · show ab_X17_frameOf_29b _ _ (B + 639) (nI c) (nI r) s = _
      unfold ab_X17_frameOf_29b
      rw [if_pos (show (48 : Int32) ≤ nI r from nI_le (a := 48) (by omega) (by omega)), nI_1]
    · by_cases z : c' = c
      · rw [z]; exact hA r' (by omega)
      · exact hF c' (by omega) r' hr'
  | succ d ih =>
    intro r fu s hr hf hk hX hF hA
    obtain ⟨fu, rfl⟩ : ∃ q, fu = q + 1 := ⟨fu - 1, by omega⟩
    have L5 := hk.2.1.L1825
    have L6 := hk.2.1.L1826
    have k1 : vk [] [1826] [] (fun _ => True) s (vu_A s 1826 (B + 639) (64 * r + c) ((viewX g D tk k a c).1.2.1 r)) := vk.pA (vk.refl s) (by decide)
    obtain ⟨s1, a1, a2⟩ := ih (r + 1) fu (vu_A s 1826 (B + 639) (64 * r + c) ((viewX g D tk k a c).1.2.1 r)) (by omega) (by omega) (k1.keep0 (P := rAll B g n D k a tk) hk) (k1.keep0 (P := fun t => rX B t (viewX g D tk k a c)) hX) (fun c' hc' r' hr' => by
      rw [A_at, if_neg (by omega)]; exact hF c' hc' r' hr') (fun r' hr' => by
      rw [A_at]
      by_cases z : r' = r
      · rw [if_pos (by rw [z]), z]
      · rw [if_neg (by omega)]; exact hA r' (by omega))
    refine ⟨s1, ?_, a2⟩
    show ab_X17_frameOf_29b _ _ (B + 639) (nI c) (nI r) s = _
    unfold ab_X17_frameOf_29b
    rw [if_neg (show ¬ (48 : Int32) ≤ nI r from nI_ge (b := 48) (by omega) (by omega)), vl_I_ok (by omega) (by omega), obs, (hX.1 r (by omega)).2, show (64 : Int32) = nI 64 from rfl, pk_mul, nI_add, vs_I_ok (by omega) (by omega), obs, nI_1]
    exact a1
theorem r_fr16 (ok : wkOk g k a) (hv : ∀ j, j < g 5 → sdOk (D j)) : ∀ (d c fu : Nat) (s : vt_S), c + d = 64 → d < fu → rAll B g n D k a tk s → frI B g D tk k a c s → ∃ s1, ab_X17_frameOf_16 fu (B + 639) (nI c) s = ab_X17_frameOf_68 sv_fuel (B + 639) 0 0 s1 ∧ rAll B g n D k a tk s1 ∧ frI B g D tk k a 64 s1 := by
  intro d
  induction d with
  | zero =>
    intro c fu s hc hf hk hF
    obtain ⟨fu, rfl⟩ : ∃ q, fu = q + 1 := ⟨fu - 1, by omega⟩
    refine ⟨s, ?_, hk, by rw [show 64 = c by omega]; exact hF⟩
    show ab_X17_frameOf_16b _ (B + 639) (nI c) s = _
    unfold ab_X17_frameOf_16b
    rw [if_pos (show (64 : Int32) ≤ nI c from nI_le (a := 64) (by omega) (by omega))]
  | succ d ih =>
    intro c fu s hc hf hk hF
    obtain ⟨fu, rfl⟩ : ∃ q, fu = q + 1 := ⟨fu - 1, by omega⟩
    obtain ⟨h1, h2, h3, h4, h5, h6⟩ := id hk
    obtain ⟨s1, a1, a2⟩ := r_viewZ (c := c) h1 h2 h3 hv h4 h5 ok h6 (by omega)
    have k1 := (vk_X17_column vclT trivial a1).1
    obtain ⟨s2, b1, b2, b3⟩ := r_fr29 (K := ab_X17_frameOf_16 fu) (c := c) (by omega) 48 0 sv_fuel s1 (by omega) (fuel_ge (by omega)) (k1.keep0 (P := rAll B g n D k a tk) hk) a2 (k1.keep0 (P := frI B g D tk k a c) hF) (fun r' hr' => absurd hr' (by omega))
    obtain ⟨s3, c1, c2, c3⟩ := ih (c + 1) fu s2 (by omega) (by omega) b2 b3
    refine ⟨s3, ?_, c2, c3⟩
    show ab_X17_frameOf_16b _ (B + 639) (nI c) s = _
    unfold ab_X17_frameOf_16b
    have b1 : ab_X17_frameOf_29 (ab_X17_frameOf_16 fu) sv_fuel (B + 639) (nI c) 0 s1 = _ := b1
    rw [if_neg (show ¬ (64 : Int32) ≤ nI c from nI_ge (b := 64) (by omega) (by omega)), a1, vbs, b1]
    exact c1
theorem r_frame {s : vt_S} (ok : wkOk g k a) (hv : ∀ j, j < g 5 → sdOk (D j)) (hk : rAll B g n D k a tk s) : ∃ s1, ab_X17_frameOf_16 sv_fuel (B + 639) 0 s = some (hrL (pxL g D tk k a) 3072, s1) := by
  obtain ⟨s1, a1, a2, a3⟩ := r_fr16 (B := B) (n := n) (tk := tk) ok hv 64 0 sv_fuel s (by omega) (fuel_ge (by omega)) hk (fun c' hc' => absurd hc' (by omega))
  have L6 := a2.2.1.L1826
  have loop : ∀ (d i fu : Nat), i + d = 3072 → d < fu → ab_X17_frameOf_68 fu (B + 639) (hrL (pxL g D tk k a) i) (nI i) s1 = some (hrL (pxL g D tk k a) 3072, s1) := by
    intro d
    induction d with
    | zero =>
      intro i fu hi hf
      obtain ⟨fu, rfl⟩ : ∃ q, fu = q + 1 := ⟨fu - 1, by omega⟩
      show ab_X17_frameOf_68b _ (B + 639) _ (nI i) s1 = _
      unfold ab_X17_frameOf_68b
      rw [if_pos (show (3072 : Int32) ≤ nI i from nI_le (a := 3072) (by omega) (by omega)), show i = 3072 by omega]
    | succ d ih =>
      intro i fu hi hf
      obtain ⟨fu, rfl⟩ : ∃ q, fu = q + 1 := ⟨fu - 1, by omega⟩
      have := a3 (i % 64) (by omega) (i / 64) (by omega)
      rw [show 64 * (i / 64) + i % 64 = i by omega] at this
      show ab_X17_frameOf_68b _ (B + 639) _ (nI i) s1 = _
      unfold ab_X17_frameOf_68b
      rw [if_neg (show ¬ (3072 : Int32) ≤ nI i from nI_ge (b := 3072) (by omega) (by omega)), vl_I_ok (by omega) (by omega), obs, this, nI_1]
      exact ih (i + 1) fu (by omega) (by omega)
  refine ⟨s1, ?_⟩
  have a1 : ab_X17_frameOf_16 sv_fuel (B + 639) 0 s = _ := a1
  rw [a1]
  exact loop 3072 0 sv_fuel (by omega) (fuel_ge (by omega))
end FM2
