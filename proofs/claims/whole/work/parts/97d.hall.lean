-- ALL SECTORS
def secsC (s : vt_S) (p N : Nat) (D : Nat → SD) : Prop := ∀ j, j < N → secC s (p + 11 + j) (D j)
def secsR (s : vt_S) (H N : Nat) (D : Nat → SD) : Prop := ∀ j, j < N → secR s H j (D j)
def mva (p : Nat) (s s1 : vt_S) : Prop := onl (fun a => p + 11 ≤ a ∧ a < p + 43) s s1 ∧ (∀ f a, f < 707 → vt_I s1 f a = vt_I s f a) ∧ vt_A s1 = vt_A s
theorem mva.refl {p : Nat} {s : vt_S} : mva p s s := ⟨onl.refl, fun _ _ _ => rfl, rfl⟩
theorem mva.trans {p : Nat} {s s1 s2 : vt_S} (h : mva p s s1) (k : mva p s1 s2) : mva p s s2 := ⟨h.1.trans k.1, fun f a hf => (k.2.1 f a hf).trans (h.2.1 f a hf), k.2.2.trans h.2.2⟩
theorem mvd.all {p x : Nat} {s s1 : vt_S} (h : mvd x s s1) (h1 : p + 11 ≤ x) (h2 : x < p + 43) : mva p s s1 := ⟨h.1.mono fun a ha => by omega, fun f a hf => by
  by_cases c : a = x
  · rw [c]; exact h.2.1 f hf
  · exact h.1.I c, by
  funext f a
  by_cases c : a = x
  · rw [c]; exact h.2.2 f
  · exact h.1.A c⟩
theorem secC.keep {s s1 : vt_S} {x y : Nat} {d : SD} (h : secC s x d) (k : onl (· = y) s s1) (hxy : x ≠ y) : secC s1 x d := by
  unfold secC
  simp only [k.I hxy]
  exact h
theorem c_tick_loop {p N w : Nat} (hN : N ≤ 32) (hw : w < 32) : ∀ (d i fu : Nat) (s : vt_S) (D : Nat → SD), i + d = N → d < fu → pS p s → vt_I s 311 p = nI N → secsC s p N D → (∀ j, j < N → sdOk (D j)) → ∃ s1, ab_X2_tick_2 fu p (nI w) (nI i) s = some ((), s1) ∧ mva p s s1 ∧ secsC s1 p N (fun j => if i ≤ j then tickS (decide (j = w)) (D j) else D j) := by
  intro d
  induction d with
  | zero =>
    intro i fu s D hi hf hp hc h hv
    obtain ⟨fu, rfl⟩ : ∃ q, fu = q + 1 := ⟨fu - 1, by omega⟩
    refine ⟨s, ?_, mva.refl, fun j hj => ?_⟩
    · show ab_X2_tick_2b _ p (nI w) (nI i) s = _
      unfold ab_X2_tick_2b
      rw [slet, hc, if_pos (nI_le (by omega) (by omega))]
    · dsimp only
      rw [if_neg (by omega)]; exact h j hj
  | succ d ih =>
    intro i fu s D hi hf hp hc h hv
    obtain ⟨fu, rfl⟩ : ∃ q, fu = q + 1 := ⟨fu - 1, by omega⟩
    have L := hp.L307
    obtain ⟨s1, a1, a2, a3⟩ := c_tick (decide (i = w)) (h i (by omega)) (hv i (by omega))
    have m := a3.all (p := p) (by omega) (by omega)
    obtain ⟨s2, b1, b2, b3⟩ := ih (i + 1) fu s1 (fun j => if j = i then tickS (decide (i = w)) (D i) else D j) (by omega) (by omega) (hp.of a3.1.P a3.1.L a3.1.E) (by rw [a3.1.I (by omega)]; exact hc) (fun j hj => by
      try dsimp only
      by_cases c : j = i
      · rw [if_pos c, c]; exact a2
      · rw [if_neg c]; exact (h j hj).keep a3.1 (by omega)) (fun j hj => by
      try dsimp only
      by_cases c : j = i
      · rw [if_pos c]; exact tickS_ok (hv i (by omega))
      · rw [if_neg c]; exact hv j hj)
    refine ⟨s2, ?_, m.trans b2, fun j hj => ?_⟩
    · show ab_X2_tick_2b _ p (nI w) (nI i) s = _
      unfold ab_X2_tick_2b ab_X2_tick_26
      rw [slet, hc, if_neg (nI_ge (by omega) (by omega)), vl_P_ok (by omega) (by omega), obs, hp.E307 i (by omega)]
      by_cases c : i = w
      · rw [if_pos (by rw [c])]
        rw [decide_eq_true c] at a1
        rw [show (1 : Int32) = bI true from rfl, a1, vbs, show nI i + bI true = nI (i + 1) from nI_1 i]
        exact b1
      · rw [if_neg (by rw [nI_eq (by omega) (by omega)]; exact c)]
        rw [decide_eq_false c] at a1
        rw [show (0 : Int32) = bI false from rfl, a1, vbs, nI_1]
        exact b1
    · have := b3 j hj
      dsimp only at this ⊢
      by_cases c : j = i
      · rw [if_neg (by omega), if_pos c] at this
        rw [if_pos (by omega), c]
        rw [c] at this
        exact this
      · by_cases e : i + 1 ≤ j
        · rw [if_pos e, if_neg c] at this
          rw [if_pos (by omega)]; exact this
        · rw [if_neg e, if_neg c] at this
          rw [if_neg (by omega)]; exact this
theorem c_tickAll {p N w : Nat} {s : vt_S} {D : Nat → SD} (hN : N ≤ 32) (hw : w < 32) (hp : pS p s) (hc : vt_I s 311 p = nI N) (h : secsC s p N D) (hv : ∀ j, j < N → sdOk (D j)) : ∃ s1, ab_X2_tick p (nI w) s = some ((), s1) ∧ mva p s s1 ∧ secsC s1 p N (fun j => tickS (decide (j = w)) (D j)) := by
  obtain ⟨s1, a1, a2, a3⟩ := c_tick_loop hN hw N 0 sv_fuel s D (by omega) (fuel_ge (by omega)) hp hc h hv
  exact ⟨s1, a1, a2, fun j hj => by have := a3 j hj; dsimp only at this; rw [if_pos (by omega)] at this; exact this⟩
/-- as the map has it, and at rest -/
def restS (fl ce : Int32) : SD := (fl, ce, -1, 0, 0, 0, 0)
theorem c_settle1 (s : vt_S) (x : Nat) : ∃ s1, ab_X6_settle x s = some ((), s1) ∧ mvd x s s1 ∧ secC s1 x (restS (vt_I s 700 x) (vt_I s 701 x)) := by
  obtain ⟨s1, a1, a2, a3, a4, a5, a6⟩ := c_end (vu_I (vu_I s 707 x (vt_I s 700 x)) 708 x (vt_I s 701 x)) x
  refine ⟨s1, ?_, ?_, ?_⟩
  · unfold ab_X6_settle
    simp only [slet]
    rw [I_nf (show 701 ≠ 707 by decide), a1, vbs]
  · exact ⟨((mvd.refl.put (s := s) (show 707 ≤ 707 by omega)).put (show 707 ≤ 708 by omega)).1.trans a2.1, fun f hf => by rw [a2.2.1 f hf, I_nf (by omega), I_nf (by omega)], fun f => by rw [a2.2.2]; rfl⟩
  · refine ⟨?_, ?_, a5, a6, fun z => absurd rfl z⟩
    · rw [a3, I_nf (by decide), I_at]; rfl
    · rw [a4, I_at]; rfl
theorem c_settle_loop {p N : Nat} (hN : N ≤ 32) : ∀ (d i fu : Nat) (s : vt_S), i + d = N → d < fu → pS p s → vt_I s 311 p = nI N → (∀ j, j < i → secC s (p + 11 + j) (restS (vt_I s 700 (p + 11 + j)) (vt_I s 701 (p + 11 + j)))) → ∃ s1, ab_X2_settle_2 fu p (nI i) s = some ((), s1) ∧ mva p s s1 ∧ secsC s1 p N (fun j => restS (vt_I s 700 (p + 11 + j)) (vt_I s 701 (p + 11 + j))) := by
  intro d
  induction d with
  | zero =>
    intro i fu s hi hf hp hc h
    obtain ⟨fu, rfl⟩ : ∃ q, fu = q + 1 := ⟨fu - 1, by omega⟩
    refine ⟨s, ?_, mva.refl, fun j hj => h j (by omega)⟩
    show ab_X2_settle_2b _ p (nI i) s = _
    unfold ab_X2_settle_2b
    rw [slet, hc, if_pos (nI_le (by omega) (by omega))]
  | succ d ih =>
    intro i fu s hi hf hp hc h
    obtain ⟨fu, rfl⟩ : ∃ q, fu = q + 1 := ⟨fu - 1, by omega⟩
    have L := hp.L307
    obtain ⟨s1, a1, a2, a3⟩ := c_settle1 s (p + 11 + i)
    have m := a2.all (p := p) (by omega) (by omega)
    obtain ⟨s2, b1, b2, b3⟩ := ih (i + 1) fu s1 (by omega) (by omega) (hp.of a2.1.P a2.1.L a2.1.E) (by rw [a2.1.I (by omega)]; exact hc) (fun j hj => by
      rw [m.2.1 700 _ (by omega), m.2.1 701 _ (by omega)]
      by_cases c : j = i
      · rw [c]; exact a3
      · exact (h j (by omega)).keep a2.1 (by omega))
    refine ⟨s2, ?_, m.trans b2, fun j hj => ?_⟩
    · show ab_X2_settle_2b _ p (nI i) s = _
      unfold ab_X2_settle_2b
      rw [slet, hc, if_neg (nI_ge (by omega) (by omega)), vl_P_ok (by omega) (by omega), obs, hp.E307 i (by omega), a1, vbs, nI_1]
      exact b1
    · have := b3 j hj
      dsimp only at this
      rw [m.2.1 700 _ (by omega), m.2.1 701 _ (by omega)] at this
      exact this
theorem c_settle {p N : Nat} {s : vt_S} (hN : N ≤ 32) (hp : pS p s) (hc : vt_I s 311 p = nI N) : ∃ s1, ab_X2_settle p s = some ((), s1) ∧ mva p s s1 ∧ secsC s1 p N (fun j => restS (vt_I s 700 (p + 11 + j)) (vt_I s 701 (p + 11 + j))) :=
  c_settle_loop hN N 0 sv_fuel s (by omega) (fuel_ge (by omega)) hp hc (fun j hj => by omega)
/-- how many sectors move -/
def cntM (D : Nat → SD) : Nat → Nat
  | 0 => 0
  | k + 1 => cntM D k + if (D k).2.2.1 = -1 then 0 else 1
theorem cntM_le (D : Nat → SD) (k : Nat) : cntM D k ≤ k := by
  induction k with
  | zero => exact Nat.le_refl 0
  | succ k ih => show cntM D k + (if _ then 0 else 1) ≤ _; split <;> omega
theorem c_count_loop {p N : Nat} {s : vt_S} {D : Nat → SD} (hN : N ≤ 32) (hp : pS p s) (hc : vt_I s 311 p = nI N) (h : secsC s p N D) : ∀ (d i fu : Nat), i + d = N → d < fu → ab_X2_moverCount_4 fu p (nI (cntM D i)) (nI i) s = some (nI (cntM D N), s) := by
  have L := hp.L307
  intro d
  induction d with
  | zero =>
    intro i fu hi hf
    obtain ⟨fu, rfl⟩ : ∃ q, fu = q + 1 := ⟨fu - 1, by omega⟩
    obtain rfl : i = N := by omega
    show ab_X2_moverCount_4b _ p _ _ s = _
    unfold ab_X2_moverCount_4b
    rw [slet, hc, if_pos (nI_le (by omega) (by omega))]
  | succ d ih =>
    intro i fu hi hf
    obtain ⟨fu, rfl⟩ : ∃ q, fu = q + 1 := ⟨fu - 1, by omega⟩
    have := ih (i + 1) fu (by omega) (by omega)
    show ab_X2_moverCount_4b _ p _ _ s = _
    unfold ab_X2_moverCount_4b ab_X2_moverCount_28
    rw [slet, hc, if_neg (nI_ge (by omega) (by omega)), vl_P_ok (by omega) (by omega), obs, hp.E307 i (by omega), slet, (h i (by omega)).2.2.1, nI_1, nI_1]
    have e : cntM D (i + 1) = cntM D i + if (D i).2.2.1 = -1 then 0 else 1 := rfl
    by_cases c : (D i).2.2.1 = -1
    · rw [if_pos c] at e ⊢
      rw [e] at this; exact this
    · rw [if_neg c] at e ⊢
      rw [e] at this; exact this
theorem c_count {p N : Nat} {s : vt_S} {D : Nat → SD} (hN : N ≤ 32) (hp : pS p s) (hc : vt_I s 311 p = nI N) (h : secsC s p N D) : ab_X2_moverCount p s = some (nI (cntM D N), s) := c_count_loop hN hp hc h N 0 sv_fuel (by omega) (fuel_ge (by omega))
/-- a sector's light -/
def lightS (kind light ticks : Int32) (n : Nat) : Int32 :=
  if kind = 1 then (if 4 ≤ ticks - ticks / 16 * 16 then light / 2 else light) else
  if kind = 2 then (if ticks / 32 - ticks / 32 / 2 * 2 = 0 then light else 0) else
  if kind = 3 then sv_max (light - nI n) 0 else light
theorem c_light {p N x : Nat} {s : vt_S} {D : Nat → SD} (t : Int32) (hN : N ≤ 32) (hp : pS p s) (hc : vt_I s 311 p = nI N) (h : secsC s p N D) : ab_X2_lightIn p x t s = some (lightS (vt_I s 705 x) (vt_I s 704 x) t (cntM D N), s) := by
  unfold ab_X2_lightIn lightS ab_X2_lightIn_53 ab_X2_lightIn_71
  simp only [slet]
  by_cases c1 : vt_I s 705 x = 1
  · rw [if_pos c1, if_pos c1]
    by_cases c2 : 4 ≤ t - t / 16 * 16
    · rw [if_pos c2, if_pos c2]
    · rw [if_neg c2, if_neg c2]
  rw [if_neg c1, if_neg c1]
  by_cases c2 : vt_I s 705 x = 2
  · rw [if_pos c2, if_pos c2]
    by_cases c3 : t / 32 - t / 32 / 2 * 2 = 0
    · rw [if_pos c3, if_pos c3]
    · rw [if_neg c3, if_neg c3]
  rw [if_neg c2, if_neg c2]
  by_cases c3 : vt_I s 705 x = 3
  · rw [if_pos c3, if_pos c3, c_count hN hp hc h, vbs]
  rw [if_neg c3, if_neg c3]
/-- of the hall only what moves -/
def hla (H : Nat) (s s1 : vt_S) : Prop := vt_z s1 = vt_z s ∧ vt_l s1 = vt_l s ∧ vt_J s1 = vt_J s ∧ vt_P s1 = vt_P s ∧ vt_E s1 = vt_E s ∧ vt_L s1 = vt_L s ∧ vt_B s1 = vt_B s ∧ (∀ f a, ¬ (a = H ∧ 1415 ≤ f ∧ f ≤ 1417) → vt_I s1 f a = vt_I s f a) ∧ (∀ f a, ¬ (a = H ∧ 1408 ≤ f ∧ f ≤ 1414) → vt_A s1 f a = vt_A s f a)
section HA
variable {H : Nat} {s s1 s2 : vt_S}
theorem hla.refl : hla H s s := ⟨rfl, rfl, rfl, rfl, rfl, rfl, rfl, fun _ _ _ => rfl, fun _ _ _ => rfl⟩
theorem hla.trans (h : hla H s s1) (k : hla H s1 s2) : hla H s s2 := by
  obtain ⟨h1, h2, h3, h4, h5, h6, h7, h8, h9⟩ := h
  obtain ⟨k1, k2, k3, k4, k5, k6, k7, k8, k9⟩ := k
  exact ⟨k1.trans h1, k2.trans h2, k3.trans h3, k4.trans h4, k5.trans h5, k6.trans h6, k7.trans h7, fun f a z => (k8 f a z).trans (h8 f a z), fun f a z => (k9 f a z).trans (h9 f a z)⟩
theorem hlk.all {j : Nat} (h : hlk H j s s1) : hla H s s1 := by
  obtain ⟨h1, h2, h3, h4, h5, h6, h7, h8, h9⟩ := h
  exact ⟨h1, h2, h3, h4, h5, h6, h7, fun f a z => h8 f a (fun y => z ⟨y.2, by omega, by omega⟩), fun f a z => by
    funext i
    exact h9 f a i (fun y => z ⟨y.1, y.2.2⟩)⟩
theorem hla.put {f : Nat} {v : Int32} (h : hla H s s1) (h1 : 1415 ≤ f) (h2 : f ≤ 1417) : hla H s (vu_I s1 f H v) := h.trans ⟨rfl, rfl, rfl, rfl, rfl, rfl, rfl, fun g a z => I_ne (fun y => z ⟨y.2, by omega, by omega⟩), fun _ _ _ => rfl⟩
theorem hla.putA {f i : Nat} {v : Int32} (h : hla H s s1) (h1 : 1408 ≤ f) (h2 : f ≤ 1414) : hla H s (vu_A s1 f H i v) := h.trans ⟨rfl, rfl, rfl, rfl, rfl, rfl, rfl, fun _ _ _ => rfl, fun g a z => A_ne (fun y => z ⟨y.2, by omega, by omega⟩)⟩
theorem hla.I (h : hla H s s1) {f a : Nat} (z : ¬ (a = H ∧ 1415 ≤ f ∧ f ≤ 1417)) : vt_I s1 f a = vt_I s f a := h.2.2.2.2.2.2.2.1 f a z
theorem hla.A (h : hla H s s1) {f a : Nat} (z : ¬ (a = H ∧ 1408 ≤ f ∧ f ≤ 1414)) : vt_A s1 f a = vt_A s f a := h.2.2.2.2.2.2.2.2 f a z
theorem hla.L (h : hla H s s1) : vt_L s1 = vt_L s := h.2.2.2.2.2.1
theorem hla.P (h : hla H s s1) : vt_P s1 = vt_P s := h.2.2.2.1
theorem secR.keep {i j : Nat} {d : SD} (h : secR s H i d) (k : hlk H j s s1) (hij : i ≠ j) : secR s1 H i d := by
  have e : ∀ f, vt_A s1 f H i = vt_A s f H i := fun f => k.2.2.2.2.2.2.2.2 f H i (fun z => hij z.2.1)
  unfold secR
  simp only [e]
  exact h
theorem r_tick_loop {N w : Nat} {t1 : Int32} (hN : N ≤ 32) (hw : w < 32) {K : Nat → Int32 → Int32 → vt_S → Option (Int32 × vt_S)} {k1 k2 : Int32} : ∀ (d i fu : Nat) (s : vt_S) (D : Nat → SD), i + d = N → d < fu → hlL H s → vt_I s 1400 H = nI N → vt_I s 1416 H = nI w → secsR s H N D → (∀ j, j < N → sdOk (D j)) → ∃ s1, ab_X13_ticks_32 K fu H k1 k2 (nI i) s = K H k1 (k2 + 1) s1 ∧ hla H s s1 ∧ vt_I s1 1415 H = vt_I s 1415 H ∧ vt_I s1 1416 H = vt_I s 1416 H ∧ secsR s1 H N (fun j => if i ≤ j then tickS (decide (j = w)) (D j) else D j) := by
  intro d
  induction d with
  | zero =>
    intro i fu s D hi hf hL hc hg h hv
    obtain ⟨fu, rfl⟩ : ∃ q, fu = q + 1 := ⟨fu - 1, by omega⟩
    refine ⟨s, ?_, hla.refl, rfl, rfl, fun j hj => ?_⟩
    · show ab_X13_ticks_32b _ _ H k1 k2 (nI i) s = _
      unfold ab_X13_ticks_32b
      rw [slet, hc, if_pos (nI_le (by omega) (by omega))]
    · dsimp only
      rw [if_neg (by omega)]; exact h j hj
  | succ d ih =>
    intro i fu s D hi hf hL hc hg h hv
    obtain ⟨fu, rfl⟩ : ∃ q, fu = q + 1 := ⟨fu - 1, by omega⟩
    obtain ⟨l1, l2, l3, l4, l5, l6, l7⟩ := id hL
    obtain ⟨h1, h2, h3, h4, h5⟩ := id (h i (by omega))
    have hvi := hv i (by omega)
    have hgi : (vt_I s 1416 H = nI i) ↔ decide (i = w) = true := by
      rw [hg, nI_eq (by omega) (by omega), decide_eq_true_eq]
      exact ⟨fun z => z.symm, fun z => z.symm⟩
    obtain ⟨s1, a1, a2, a3⟩ : ∃ s1, ab_X13_ticks_32 K (fu + 1) H k1 k2 (nI i) s = ab_X13_ticks_32 K fu H k1 k2 (nI (i + 1)) s1 ∧ secR s1 H i (tickS (decide (i = w)) (D i)) ∧ hlk H i s s1 := by
      show ∃ s1, ab_X13_ticks_32b _ _ H k1 k2 (nI i) s = _ ∧ _
      unfold ab_X13_ticks_32b ab_X13_ticks_104 ab_X13_ticks_100 ab_X13_ticks_118
      rw [slet, hc, if_neg (nI_ge (by omega) (by omega)), vl_I_ok (show i < vt_L s 1410 H by omega) (by omega), obs, obs, h3, nI_1]
      by_cases c1 : (D i).2.2.1 = -1
      · rw [if_pos (by rw [c1]; decide), if_pos (by rw [c1]; decide)]
        refine ⟨s, rfl, ?_, hlk.refl⟩
        unfold tickS
        rw [if_pos c1]; exact h i (by omega)
      · obtain ⟨v1, v2, v3, v4, v5⟩ : ((D i).2.2.1 = 0 ∨ (D i).2.2.1 = 1 ∨ (D i).2.2.1 = 2) ∧ ((D i).2.2.2.1 = -1 ∨ (D i).2.2.2.1 = 0 ∨ (D i).2.2.2.1 = 1) ∧ ((D i).2.2.1 = 2 → (D i).2.2.2.1 = 1) ∧ ((D i).2.2.2.1 = 0 → 0 < (D i).2.2.2.2.1) ∧ ((D i).2.2.2.1 ≠ 0 → (D i).2.2.2.2.1 = 0) := by
          rcases hvi with ⟨a, -⟩ | a
          · exact absurd a c1
          · exact a
        have nn : ¬ (D i).2.2.1 < 0 := by rcases v1 with a | a | a <;> rw [a] <;> decide
        obtain ⟨e1, e2, e3⟩ := h5 c1
        rw [if_neg nn, if_neg nn, vl_I_ok (show i < vt_L s 1412 H by omega) (by omega), obs, obs, e1]
        by_cases c2 : (D i).2.2.2.1 = 0
        · have p0 := v4 c2
          rw [if_neg (Int32.not_le.mpr p0), vs_I_ok (by omega) (by omega), obs, vl_I_ok (by rw [L_A]; omega) (by rw [L_A]; omega), obs, A_j, vl_I_ok (by rw [L_A]; omega) (by rw [L_A]; omega), obs, A_nf (show 1410 ≠ 1412 by decide), h3]
          unfold tickS
          rw [if_neg c1, if_pos c2]
          have st : ∀ v : Int32, (vs_I (vu_A s 1412 H i ((D i).2.2.2.2.1 - 1)) 1411 H (nI i) v) = some (vu_A (vu_A s 1412 H i ((D i).2.2.2.2.1 - 1)) 1411 H i v) := fun v => vs_I_ok (by rw [L_A]; omega) (by rw [L_A]; omega)
          have fr : ∀ v : Int32, hlk H i s (vu_A (vu_A s 1412 H i ((D i).2.2.2.2.1 - 1)) 1411 H i v) := fun v => (hlk.refl.put (by omega) (by omega)).put (by omega) (by omega)
          by_cases c3 : 0 < (D i).2.2.2.2.1 - 1
          · rw [if_neg (Int32.not_le.mpr c3), if_pos c3, st, obs]
            refine ⟨_, rfl, ⟨?_, ?_, ?_, A_j, fun _ => ⟨?_, ?_, ?_⟩⟩, fr 0⟩
            · simp (disch := decide) only [A_nf]; exact h1
            · simp (disch := decide) only [A_nf]; exact h2
            · simp (disch := decide) only [A_nf]; exact h3
            · simp (disch := decide) only [A_nf, A_j]
            · simp (disch := decide) only [A_nf]; exact e2
            · simp (disch := decide) only [A_nf]; exact e3
          · have z0 : (D i).2.2.2.2.1 - 1 = 0 := by
              obtain ⟨u, hu, u1, u2⟩ := zI_ex (D i).2.2.2.2.1
              rw [hu] at p0 c3 ⊢
              rw [show (0 : Int32) = zI 0 from rfl, zI_lt (by omega) (by omega) u1 u2] at p0
              rw [show (1 : Int32) = zI 1 from rfl, zI_sub, show (0 : Int32) = zI 0 from rfl, zI_lt (by omega) (by omega) (by omega) (by omega)] at c3
              rw [show (1 : Int32) = zI 1 from rfl, zI_sub, show u - 1 = 0 by omega]; rfl
            rw [if_pos (Int32.not_lt.mp c3), if_neg c3]
            by_cases c4 : (D i).2.2.1 = 0
            · rw [if_pos c4, if_pos c4, st, obs]
              refine ⟨_, rfl, ⟨?_, ?_, ?_, A_j, fun _ => ⟨?_, ?_, ?_⟩⟩, fr _⟩
              · simp (disch := decide) only [A_nf]; exact h1
              · simp (disch := decide) only [A_nf]; exact h2
              · simp (disch := decide) only [A_nf]; exact h3
              · simp (disch := decide) only [A_nf, A_j]; exact z0
              · simp (disch := decide) only [A_nf]; exact e2
              · simp (disch := decide) only [A_nf]; exact e3
            · rw [if_neg c4, if_neg c4, st, obs]
              refine ⟨_, rfl, ⟨?_, ?_, ?_, A_j, fun _ => ⟨?_, ?_, ?_⟩⟩, fr _⟩
              · simp (disch := decide) only [A_nf]; exact h1
              · simp (disch := decide) only [A_nf]; exact h2
              · simp (disch := decide) only [A_nf]; exact h3
              · simp (disch := decide) only [A_nf, A_j]; exact z0
              · simp (disch := decide) only [A_nf]; exact e2
              · simp (disch := decide) only [A_nf]; exact e3
        · rw [if_pos (by rw [v5 c2]; decide)]
          obtain ⟨s1, b1, b2, b3⟩ := r_step (decide (i = w)) (h i (by omega)) hvi hL (by omega) c1 c2 hgi
          rw [b1, vbs]
          exact ⟨s1, rfl, b2, b3⟩
    rw [a1]
    have ha := a3.all
    have g16 : vt_I s1 1416 H = vt_I s 1416 H := a3.2.2.2.2.2.2.2.1 1416 H (fun z => by have := z.1; omega)
    have g15 : vt_I s1 1415 H = vt_I s 1415 H := a3.2.2.2.2.2.2.2.1 1415 H (fun z => by have := z.1; omega)
    obtain ⟨s2, b1, b2, b4, b5, b3⟩ := ih (i + 1) fu s1 (fun j => if j = i then tickS (decide (i = w)) (D i) else D j) (by omega) (by omega) (hL.of ha.L) (by rw [ha.I (by omega)]; exact hc) (by rw [g16]; exact hg) (fun j hj => by
      try dsimp only
      by_cases c : j = i
      · rw [if_pos c, c]; exact a2
      · rw [if_neg c]; exact (h j hj).keep a3 c) (fun j hj => by
      try dsimp only
      by_cases c : j = i
      · rw [if_pos c]; exact tickS_ok hvi
      · rw [if_neg c]; exact hv j hj)
    refine ⟨s2, b1, ha.trans b2, b4.trans g15, b5.trans g16, fun j hj => ?_⟩
    have := b3 j hj
    dsimp only at this ⊢
    by_cases c : j = i
    · rw [if_neg (by omega), if_pos c] at this
      rw [if_pos (by omega), c]
      rw [c] at this
      exact this
    · by_cases e : i + 1 ≤ j
      · rw [if_pos e, if_neg c] at this
        rw [if_pos (by omega)]; exact this
      · rw [if_neg e, if_neg c] at this
        rw [if_neg (by omega)]; exact this
theorem r_ticks {N w : Nat} {D : Nat → SD} (hN : N ≤ 32) (hw : w < 32) (hL : hlL H s) (hc : vt_I s 1400 H = nI N) (hg : vt_I s 1416 H = nI w) (h : secsR s H N D) (hv : ∀ j, j < N → sdOk (D j)) : ∃ r s1, ab_X13_ticks H 1 s = some (r, s1) ∧ hla H s s1 ∧ vt_I s1 1415 H = vt_I s 1415 H + 1 ∧ secsR s1 H N (fun j => tickS (decide (j = w)) (D j)) := by
  obtain ⟨k, hk⟩ : ∃ k, sv_fuel = k + 2 := ⟨999999998, rfl⟩
  obtain ⟨s1, a1, a2, a3, a4, a5⟩ := r_tick_loop (H := H) (t1 := 0) hN hw (K := ab_X13_ticks_15 (k + 1)) (k1 := 1) (k2 := 0) N 0 sv_fuel (vu_I s 1415 H (vt_I s 1415 H + 1)) D (by omega) (fuel_ge (by omega)) (hL.of rfl) (by rw [I_nf (by decide)]; exact hc) (by rw [I_nf (by decide)]; exact hg) h hv
  refine ⟨vt_I s1 1415 H, s1, ?_, (hla.refl.put (by omega) (by omega)).trans a2, by rw [a3, I_at], fun j hj => ?_⟩
  · unfold ab_X13_ticks
    rw [if_neg (by decide), if_pos (by decide), hk]
    show ab_X13_ticks_15b (ab_X13_ticks_15 (k + 1)) H 1 0 s = _
    unfold ab_X13_ticks_15b
    rw [if_neg (by decide)]
    simp only [slet]
    refine a1.trans ?_
    show ab_X13_ticks_15b (ab_X13_ticks_15 k) H 1 (0 + 1) s1 = _
    unfold ab_X13_ticks_15b
    rw [if_pos (by decide)]
    simp only [slet]
  · have := a5 j hj
    dsimp only at this
    rw [if_pos (by omega)] at this
    exact this
end HA
