-- RAYS: where a ray meets walls, and in which order
abbrev RY : Type := Int × Int × Int × Int
def r1 (y : RY) (g : Nat → Nat) (w : Nat) : Int := y.2.2.1 * (aY g (wlp g w) - y.2.1) - y.2.2.2 * (aX g (wlp g w) - y.1)
def r2 (y : RY) (g : Nat → Nat) (w : Nat) : Int := y.2.2.1 * (bY g (wlp g w) - y.2.1) - y.2.2.2 * (bX g (wlp g w) - y.1)
def rp (y : RY) (g : Nat → Nat) (w : Nat) : Int := (aX g (wlp g w) - y.1) * (bY g (wlp g w) - aY g (wlp g w)) - (aY g (wlp g w) - y.2.1) * (bX g (wlp g w) - aX g (wlp g w))
def rov (y : RY) (g : Nat → Nat) (w : Nat) : Int := if r1 y g w < r2 y g w then rp y g w else -rp y g w
def run (y : RY) (g : Nat → Nat) (w : Nat) : Int := (r2 y g w - r1 y g w).natAbs
def rfr (y : RY) (g : Nat → Nat) (w : Nat) : Bool := decide (rp y g w < 0)
def rmet (y : RY) (g : Nat → Nat) (w : Nat) : Prop := ((r1 y g w < 0 ∧ 0 ≤ r2 y g w) ∨ (0 ≤ r1 y g w ∧ r2 y g w < 0)) ∧ 0 < rov y g w
/-- v is met ahead of w -/
def rlt (y : RY) (g : Nat → Nat) (v w : Nat) : Bool := decide (rov y g v * run y g w < rov y g w * run y g v)
def ryOk (y : RY) : Prop := (-100000 ≤ y.1 ∧ y.1 ≤ 100000) ∧ (-100000 ≤ y.2.1 ∧ y.2.1 ≤ 100000) ∧ (-40000 ≤ y.2.2.1 ∧ y.2.2.1 ≤ 40000) ∧ (-40000 ≤ y.2.2.2 ∧ y.2.2.2 ≤ 40000)
theorem r_rng {y : RY} (h : ryOk y) (g : Nat → Nat) (w : Nat) : (-10621440000 ≤ r1 y g w ∧ r1 y g w ≤ 10621440000) ∧ (-10621440000 ≤ r2 y g w ∧ r2 y g w ≤ 10621440000) ∧ (-17401901760 ≤ rp y g w ∧ rp y g w ≤ 17401901760) := by
  obtain ⟨ex, ey, dx, dy⟩ := y
  obtain ⟨⟨h1, h2⟩, ⟨h3, h4⟩, ⟨h5, h6⟩, ⟨h7, h8⟩⟩ := h
  unfold r1 r2 rp
  dsimp only at *
  have a1 : -32768 ≤ aX g (wlp g w) ∧ aX g (wlp g w) ≤ 32767 := pr_rng _ _
  have a2 : -32768 ≤ aY g (wlp g w) ∧ aY g (wlp g w) ≤ 32767 := pr_rng _ _
  have a3 : -32768 ≤ bX g (wlp g w) ∧ bX g (wlp g w) ≤ 32767 := pr_rng _ _
  have a4 : -32768 ≤ bY g (wlp g w) ∧ bY g (wlp g w) ≤ 32767 := pr_rng _ _
  generalize aX g (wlp g w) = ax at *
  generalize aY g (wlp g w) = ay at *
  generalize bX g (wlp g w) = bx at *
  generalize bY g (wlp g w) = bv at *
  have m1 := mulb (a := dx) (b := ay - ey) (A := 40000) (C := 132768) (by omega) (by omega) (by omega) (by omega)
  have m2 := mulb (a := dy) (b := ax - ex) (A := 40000) (C := 132768) (by omega) (by omega) (by omega) (by omega)
  have m3 := mulb (a := dx) (b := bv - ey) (A := 40000) (C := 132768) (by omega) (by omega) (by omega) (by omega)
  have m4 := mulb (a := dy) (b := bx - ex) (A := 40000) (C := 132768) (by omega) (by omega) (by omega) (by omega)
  have m5 := mulb (a := ax - ex) (b := bv - ay) (A := 132768) (C := 65535) (by omega) (by omega) (by omega) (by omega)
  have m6 := mulb (a := ay - ey) (b := bx - ax) (A := 132768) (C := 65535) (by omega) (by omega) (by omega) (by omega)
  omega
theorem rov_rng {y : RY} (h : ryOk y) (g : Nat → Nat) (w : Nat) : (-17401901760 ≤ rov y g w ∧ rov y g w ≤ 17401901760) ∧ (0 ≤ run y g w ∧ run y g w ≤ 21242880000) := by
  obtain ⟨a, b, c⟩ := r_rng h g w
  unfold rov run
  refine ⟨?_, ?_⟩
  · split <;> omega
  · omega
theorem met_un {y : RY} {g : Nat → Nat} {w : Nat} (h : rmet y g w) : 0 < run y g w ∧ 0 < rov y g w := by
  refine ⟨?_, h.2⟩
  unfold run
  rcases h.1 with a | a <;> omega
/-- the place of w among c that are in order -/
def insP (lt : Nat → Nat → Bool) (m : Nat → Nat) (w : Nat) : Nat → Nat
  | 0 => 0
  | k + 1 => if lt w (m k) = true then insP lt m w k else k + 1
def insM (m : Nat → Nat) (k w : Nat) : Nat → Nat := fun j => if j < k then m j else if j = k then w else m (j - 1)
theorem insP_le (lt : Nat → Nat → Bool) (m : Nat → Nat) (w : Nat) : ∀ k, insP lt m w k ≤ k
  | 0 => Nat.le_refl 0
  | k + 1 => by
    unfold insP
    by_cases c : lt w (m k) = true
    · rw [if_pos c]; have := insP_le lt m w k; omega
    · rw [if_neg c]; exact Nat.le_refl _
/-- the class's rays: c walls in their order -/
def rayC (s : vt_S) (Y : Nat) (y : RY) (g : Nat → Nat) (m : Nat → Nat) (j : Nat) : Prop := vt_A s 400 Y j = nI (m j) ∧ vt_A s 401 Y j = bI (rfr y g (m j)) ∧ vt_B s 402 Y j = zL (rov y g (m j)) ∧ vt_B s 403 Y j = zL (run y g (m j)) ∧ vt_B s 404 Y j = zL (r1 y g (m j)) ∧ vt_B s 405 Y j = zL (r2 y g (m j))
def rayL (Y : Nat) (s : vt_S) : Prop := vt_L s 400 Y = 128 ∧ vt_L s 401 Y = 128 ∧ vt_L s 402 Y = 128 ∧ vt_L s 403 Y = 128 ∧ vt_L s 404 Y = 128 ∧ vt_L s 405 Y = 128
theorem lN_z (n : Nat) : lN n = zL n := by
  apply Int64.toBitVec_inj.mp
  show BitVec.ofNat 64 n = BitVec.ofInt 64 (n : Int)
  rw [BitVec.ofInt_natCast]
theorem cq_z {a b c d : Int} (h1 : 0 < a) (h2 : a ≤ 1000000000000) (h3 : 0 < b) (h4 : b ≤ 1000000000000) (h5 : 0 < c) (h6 : c ≤ 1000000000000) (h7 : 0 < d) (h8 : d ≤ 1000000000000) (s : vt_S) : ab_X12_compareQuotients (zL a) (zL b) (zL c) (zL d) s = some (zI (cmpZ (a * d) (c * b)), s) := by
  obtain ⟨a, rfl⟩ : ∃ n : Nat, a = n := ⟨a.toNat, by omega⟩
  obtain ⟨b, rfl⟩ : ∃ n : Nat, b = n := ⟨b.toNat, by omega⟩
  obtain ⟨c, rfl⟩ : ∃ n : Nat, c = n := ⟨c.toNat, by omega⟩
  obtain ⟨d, rfl⟩ : ∃ n : Nat, d = n := ⟨d.toNat, by omega⟩
  rw [← lN_z, ← lN_z, ← lN_z, ← lN_z, pu_cq s (by omega) (by omega) (by omega) (by omega) (by omega) (by omega)]
  have e : pu_cmp (a * d) (c * b) = zI (cmpZ ((a : Int) * d) ((c : Int) * b)) := by
    unfold pu_cmp cmpZ
    have e1 : ((a : Int) * d < (c : Int) * b) ↔ a * d < c * b := by rw [← Int.natCast_mul, ← Int.natCast_mul]; omega
    have e2 : ((a : Int) * d = (c : Int) * b) ↔ a * d = c * b := by rw [← Int.natCast_mul, ← Int.natCast_mul]; omega
    by_cases x : a * d < c * b
    · rw [if_pos x, if_pos (e1.mpr x)]; rfl
    · rw [if_neg x, if_neg (fun z => x (e1.mp z))]
      by_cases z : a * d = c * b
      · rw [if_pos z, if_pos (e2.mpr z)]; rfl
      · rw [if_neg z, if_neg (fun q => z (e2.mp q))]; rfl
  rw [e]
theorem cmp_pos (a b : Int) : (zI 0 < zI (cmpZ a b)) = (b < a) := by
  have := cmpZ_rng a b
  rw [zI_lt (by omega) (by omega) (by omega) (by omega)]
  unfold cmpZ
  exact propext (by split <;> (try split) <;> omega)
theorem cmp_neg (a b : Int) : (zI 0 ≤ zI (cmpZ a b)) = (b ≤ a) := by
  have := cmpZ_rng a b
  rw [zI_le (by omega) (by omega) (by omega) (by omega)]
  unfold cmpZ
  exact propext (by split <;> (try split) <;> omega)
/-- only the rows of the rays -/
def rayk (Y : Nat) (s s1 : vt_S) : Prop := vt_z s1 = vt_z s ∧ vt_l s1 = vt_l s ∧ vt_J s1 = vt_J s ∧ vt_P s1 = vt_P s ∧ vt_E s1 = vt_E s ∧ vt_L s1 = vt_L s ∧ (∀ f a, ¬ (a = Y ∧ f = 406) → vt_I s1 f a = vt_I s f a) ∧ (∀ f a, a ≠ Y → vt_A s1 f a = vt_A s f a) ∧ (∀ f a, a ≠ Y → vt_B s1 f a = vt_B s f a)
section RK
variable {Y : Nat} {s s1 s2 : vt_S}
theorem rayk.refl : rayk Y s s := ⟨rfl, rfl, rfl, rfl, rfl, rfl, fun _ _ _ => rfl, fun _ _ _ => rfl, fun _ _ _ => rfl⟩
theorem rayk.trans (h : rayk Y s s1) (k : rayk Y s1 s2) : rayk Y s s2 := by
  obtain ⟨h1, h2, h3, h4, h5, h6, h7, h8, h9⟩ := h
  obtain ⟨k1, k2, k3, k4, k5, k6, k7, k8, k9⟩ := k
  exact ⟨k1.trans h1, k2.trans h2, k3.trans h3, k4.trans h4, k5.trans h5, k6.trans h6, fun f a z => (k7 f a z).trans (h7 f a z), fun f a z => (k8 f a z).trans (h8 f a z), fun f a z => (k9 f a z).trans (h9 f a z)⟩
theorem rayk.put {v : Int32} (h : rayk Y s s1) : rayk Y s (vu_I s1 406 Y v) := h.trans ⟨rfl, rfl, rfl, rfl, rfl, rfl, fun f a z => I_ne (fun q => z ⟨q.2, q.1⟩), fun _ _ _ => rfl, fun _ _ _ => rfl⟩
theorem rayk.putA {f i : Nat} {v : Int32} (h : rayk Y s s1) : rayk Y s (vu_A s1 f Y i v) := h.trans ⟨rfl, rfl, rfl, rfl, rfl, rfl, fun _ _ _ => rfl, fun g a z => A_ne (fun q => z q.2), fun _ _ _ => rfl⟩
theorem B_ne {f a i g b : Nat} {v : Int64} (h : ¬ (g = f ∧ b = a)) : vt_B (vu_B s f a i v) g b = vt_B s g b := by
  funext j
  show vu3 _ _ _ _ _ _ _ _ = _
  rw [vu3_ap, if_neg (fun z => h ⟨z.1, z.2.1⟩)]
theorem rayk.putB {f i : Nat} {v : Int64} (h : rayk Y s s1) : rayk Y s (vu_B s1 f Y i v) := h.trans ⟨rfl, rfl, rfl, rfl, rfl, rfl, fun _ _ _ => rfl, fun _ _ _ => rfl, fun g a z => B_ne (fun q => z q.2)⟩
theorem rayk.I (h : rayk Y s s1) {f a : Nat} (z : ¬ (a = Y ∧ f = 406)) : vt_I s1 f a = vt_I s f a := h.2.2.2.2.2.2.1 f a z
theorem rayk.L (h : rayk Y s s1) : vt_L s1 = vt_L s := h.2.2.2.2.2.1
theorem rayL.of (h : rayL Y s) (e : vt_L s1 = vt_L s) : rayL Y s1 := by unfold rayL; rw [e]; exact h
end RK
/-- one row is set: all six of place j -/
def ray6 (s : vt_S) (Y j : Nat) (a b : Int32) (c d e f : Int64) : vt_S := vu_B (vu_B (vu_B (vu_B (vu_A (vu_A s 400 Y j a) 401 Y j b) 402 Y j c) 403 Y j d) 404 Y j e) 405 Y j f
theorem ray6_at {s : vt_S} {Y j i : Nat} {a b : Int32} {c d e f : Int64} : (vt_A (ray6 s Y j a b c d e f) 400 Y i = if i = j then a else vt_A s 400 Y i) ∧ (vt_A (ray6 s Y j a b c d e f) 401 Y i = if i = j then b else vt_A s 401 Y i) ∧ (vt_B (ray6 s Y j a b c d e f) 402 Y i = if i = j then c else vt_B s 402 Y i) ∧ (vt_B (ray6 s Y j a b c d e f) 403 Y i = if i = j then d else vt_B s 403 Y i) ∧ (vt_B (ray6 s Y j a b c d e f) 404 Y i = if i = j then e else vt_B s 404 Y i) ∧ (vt_B (ray6 s Y j a b c d e f) 405 Y i = if i = j then f else vt_B s 405 Y i) := by
  unfold ray6
  have A_B : ∀ {s : vt_S} {f a i : Nat} {v : Int64}, vt_A (vu_B s f a i v) = vt_A s := fun {s f a i v} => rfl
  have B_A : ∀ {s : vt_S} {f a i : Nat} {v : Int32}, vt_B (vu_A s f a i v) = vt_B s := fun {s f a i v} => rfl
  refine ⟨?_, ?_, ?_, ?_, ?_, ?_⟩
  · rw [A_B, A_B, A_B, A_B, A_nf (by decide), A_at]
  · rw [A_B, A_B, A_B, A_B, A_at, A_nf (show 401 ≠ 400 by decide)]
  · rw [B_ne (by omega), B_ne (by omega), B_ne (by omega), B_at, B_A, B_A]
  · rw [B_ne (by omega), B_ne (by omega), B_at, B_ne (by omega), B_A, B_A]
  · rw [B_ne (by omega), B_at, B_ne (by omega), B_ne (by omega), B_A, B_A]
  · rw [B_at, B_ne (by omega), B_ne (by omega), B_ne (by omega), B_A, B_A]
theorem ray6_k {s : vt_S} {Y j : Nat} {a b : Int32} {c d e f : Int64} : rayk Y s (ray6 s Y j a b c d e f) := rayk.refl.putA.putA.putB.putB.putB.putB
theorem nar_b (b : Bool) : vp_nar .boolean (bI b) = bI b := by cases b <;> rfl
section MG
variable {Y : Nat} {y : RY} {g : Nat → Nat}
set_option maxHeartbeats 2000000 in
theorem c_gap_loop (hy : ryOk y) {m : Nat → Nat} {c w : Nat} (hc : c < 128) (hm : ∀ j, j < c → rmet y g (m j)) (hw : rmet y g w) : ∀ (k fu : Nat) (s : vt_S), k ≤ c → k < fu → rayL Y s → (∀ j, j < k → rayC s Y y g m j) → (∀ j, k < j → j ≤ c → rayC s Y y g (fun i => m (i - 1)) j) → ∃ s1, ab_X3_makeGap_22 fu Y (zL (rov y g w)) (zL (run y g w)) (nI k) (nI (k + 1)) s = some (nI (insP (rlt y g) m w k), s1) ∧ rayk Y s s1 ∧ vt_I s1 = vt_I s ∧ (∀ j, j < insP (rlt y g) m w k → rayC s1 Y y g m j) ∧ (∀ j, insP (rlt y g) m w k < j → j ≤ c → rayC s1 Y y g (fun i => m (i - 1)) j) := by
  intro k
  induction k with
  | zero =>
    intro fu s hk hf hL h1 h2
    obtain ⟨fu, rfl⟩ : ∃ q, fu = q + 1 := ⟨fu - 1, by omega⟩
    refine ⟨s, ?_, rayk.refl, rfl, fun j hj => absurd hj (by show ¬ j < 0; omega), fun j hj hj2 => h2 j hj hj2⟩
    show ab_X3_makeGap_22b _ Y _ _ (nI 0) (nI 1) s = _
    unfold ab_X3_makeGap_22b ab_X3_makeGap_166
    rw [if_neg (by decide), if_pos (by decide)]
    rfl
  | succ k ih =>
    intro fu s hk hf hL h1 h2
    obtain ⟨fu, rfl⟩ : ∃ q, fu = q + 1 := ⟨fu - 1, by omega⟩
    obtain ⟨l0, l1, l2, l3, l4, l5⟩ := id hL
    obtain ⟨a0, a1, a2, a3, a4, a5⟩ := h1 k (by omega)
    have b1 := met_un (hm k (by omega))
    have b2 := met_un hw
    have b3 := rov_rng hy g (m k)
    have b4 := rov_rng hy g w
    show ∃ s1, ab_X3_makeGap_22b _ Y _ _ (nI (k + 1)) (nI (k + 1 + 1)) s = _ ∧ _
    unfold ab_X3_makeGap_22b ab_X3_makeGap_166
    rw [if_neg (show ¬ nI (k + 1 + 1) ≤ 0 from nI_ge (b := k + 1 + 1) (a := 0) (by omega) (by omega)), if_neg (show ¬ nI (k + 1) ≤ 0 from nI_ge (b := k + 1) (a := 0) (by omega) (by omega)), (z_down k).1, vl_J_ok (by omega) (by omega), obs, vl_J_ok (by omega) (by omega), obs, a2, a3, cq_z (by omega) (by omega) (by omega) (by omega) (by omega) (by omega) (by omega) (by omega), vbs]
    have ec := cmp_pos (rov y g (m k) * run y g w) (rov y g w * run y g (m k))
    by_cases c1 : rov y g w * run y g (m k) < rov y g (m k) * run y g w
    · have il : insP (rlt y g) m w (k + 1) = insP (rlt y g) m w k := by
        show (if rlt y g w (m k) = true then _ else _) = _
        rw [if_pos (show rlt y g w (m k) = true from decide_eq_true c1)]
      rw [if_pos (show (0 : Int32) < _ by rw [show (0 : Int32) = zI 0 from rfl, ec]; exact c1), il]
      rw [vl_I_ok (by omega) (by omega), obs, a0, vs_I_ok (by omega) (by omega), obs, vl_I_ok (by rw [L_A]; omega) (by rw [L_A]; omega), obs, A_nf (show 401 ≠ 400 by decide), a1, nar_b, vs_I_ok (by rw [L_A]; omega) (by rw [L_A]; omega), obs]
      have LB : ∀ {s : vt_S} {f a i : Nat} {v : Int64}, vt_L (vu_B s f a i v) = vt_L s := fun {s f a i v} => rfl
      have BA : ∀ {s : vt_S} {f a i : Nat} {v : Int32}, vt_B (vu_A s f a i v) = vt_B s := fun {s f a i v} => rfl
      rw [vl_J_ok (by rw [L_A, L_A]; omega) (by rw [L_A, L_A]; omega), obs, BA, BA, a2, vs_J_ok (by rw [L_A, L_A]; omega) (by rw [L_A, L_A]; omega), obs, vl_J_ok (by rw [LB, L_A, L_A]; omega) (by rw [LB, L_A, L_A]; omega), obs, B_ne (by omega), BA, BA, a3, vs_J_ok (by rw [LB, L_A, L_A]; omega) (by rw [LB, L_A, L_A]; omega), obs, vl_J_ok (by rw [LB, LB, L_A, L_A]; omega) (by rw [LB, LB, L_A, L_A]; omega), obs, B_ne (by omega), B_ne (by omega), BA, BA, a4, vs_J_ok (by rw [LB, LB, L_A, L_A]; omega) (by rw [LB, LB, L_A, L_A]; omega), obs, vl_J_ok (by rw [LB, LB, LB, L_A, L_A]; omega) (by rw [LB, LB, LB, L_A, L_A]; omega), obs, B_ne (by omega), B_ne (by omega), B_ne (by omega), BA, BA, a5, vs_J_ok (by rw [LB, LB, LB, L_A, L_A]; omega) (by rw [LB, LB, LB, L_A, L_A]; omega), obs]
      rw [show nI (k + 1) + (-1) = nI k by rw [(z_down (k + 1)).2, (z_down k).1], show nI (k + 1 + 1) + (-1) = nI (k + 1) by rw [(z_down (k + 1 + 1)).2, (z_down (k + 1)).1]]
      have e6 : vu_B (vu_B (vu_B (vu_B (vu_A (vu_A s 400 Y (k + 1) (nI (m k))) 401 Y (k + 1) (bI (rfr y g (m k)))) 402 Y (k + 1) (zL (rov y g (m k)))) 403 Y (k + 1) (zL (run y g (m k)))) 404 Y (k + 1) (zL (r1 y g (m k)))) 405 Y (k + 1) (zL (r2 y g (m k))) = ray6 s Y (k + 1) (nI (m k)) (bI (rfr y g (m k))) (zL (rov y g (m k))) (zL (run y g (m k))) (zL (r1 y g (m k))) (zL (r2 y g (m k))) := rfl
      rw [e6]
      have K := ray6_k (s := s) (Y := Y) (j := k + 1) (a := nI (m k)) (b := bI (rfr y g (m k))) (c := zL (rov y g (m k))) (d := zL (run y g (m k))) (e := zL (r1 y g (m k))) (f := zL (r2 y g (m k)))
      obtain ⟨s1, e1, e2, e3, e4, e5⟩ := ih fu _ (by omega) (by omega) (hL.of K.L) (fun j hj => by
        obtain ⟨q0, q1, q2, q3, q4, q5⟩ := ray6_at (s := s) (Y := Y) (j := k + 1) (i := j) (a := nI (m k)) (b := bI (rfr y g (m k))) (c := zL (rov y g (m k))) (d := zL (run y g (m k))) (e := zL (r1 y g (m k))) (f := zL (r2 y g (m k)))
        unfold rayC
        rw [q0, q1, q2, q3, q4, q5, if_neg (by omega), if_neg (by omega), if_neg (by omega), if_neg (by omega), if_neg (by omega), if_neg (by omega)]
        exact h1 j (by omega)) (fun j hj hj2 => by
        obtain ⟨q0, q1, q2, q3, q4, q5⟩ := ray6_at (s := s) (Y := Y) (j := k + 1) (i := j) (a := nI (m k)) (b := bI (rfr y g (m k))) (c := zL (rov y g (m k))) (d := zL (run y g (m k))) (e := zL (r1 y g (m k))) (f := zL (r2 y g (m k)))
        unfold rayC
        rw [q0, q1, q2, q3, q4, q5]
        by_cases z : j = k + 1
        · rw [if_pos z, if_pos z, if_pos z, if_pos z, if_pos z, if_pos z, z]
          exact ⟨rfl, rfl, rfl, rfl, rfl, rfl⟩
        · rw [if_neg z, if_neg z, if_neg z, if_neg z, if_neg z, if_neg z]
          exact h2 j (by omega) hj2)
      exact ⟨s1, e1, K.trans e2, e3, e4, e5⟩
    · have il : insP (rlt y g) m w (k + 1) = k + 1 := by
        show (if rlt y g w (m k) = true then _ else _) = _
        rw [if_neg (by unfold rlt; rw [decide_eq_true_eq]; exact c1)]
      rw [if_neg (show ¬ (0 : Int32) < _ by rw [show (0 : Int32) = zI 0 from rfl, ec]; exact c1), il]
      exact ⟨s, rfl, rayk.refl, rfl, h1, h2⟩
end MG
