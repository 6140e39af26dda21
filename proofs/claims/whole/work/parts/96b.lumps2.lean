theorem pr_of {s : vt_S} {f a : Nat} {g : Nat → Nat} {at_ : Nat} (h0 : vt_A s f a at_ = zI (sg8 (g at_))) (h1 : vt_A s f a (at_ + 1) = zI (sg8 (g (at_ + 1)))) (b0 : g at_ < 256) (b1 : g (at_ + 1) < 256) (hl : at_ + 1 < vt_L s f a) (hL : vt_L s f a ≤ 100000) : ab_X14_pair f a (nI at_) s = some (zI (pr g at_), s) := by
  unfold ab_X14_pair
  rw [vl_I_ok (by omega) (by omega), obs, nI_1, vl_I_ok hl (by omega), obs, h0, h1, sg8_and b0, sg8_and b1, nI_z (g at_), nI_z (g (at_ + 1)), show (256 : Int32) = zI 256 from rfl, zI_mul, zI_add, show (32767 : Int32) = zI 32767 from rfl, show (65536 : Int32) = zI 65536 from rfl, zI_sub]
  have e := zI_le (a := (g at_ : Int) * 256 + g (at_ + 1)) (b := 32767) (by omega) (by omega) (by omega) (by omega)
  by_cases c : (g at_ : Int) * 256 + g (at_ + 1) ≤ 32767
  · rw [if_pos (by rw [e]; exact c), ab_X14_pair_37, show (g at_ : Int) * 256 + g (at_ + 1) = pr g at_ by unfold pr sg16; omega]
  · rw [if_neg (by rw [e]; exact c), ab_X14_pair_37, show (g at_ : Int) * 256 + g (at_ + 1) - 65536 = pr g at_ by unfold pr sg16; omega]
section LV
variable {B : Nat} {g : Nat → Nat} {n : Nat}
theorem lu_pair {s : vt_S} {at_ : Nat} (h : rIn B s g n) (hL : vt_L s 1500 (B + 640) = 8192) (ha : at_ + 1 < n) : ab_X14_pair 1500 (B + 640) (nI at_) s = some (zI (pr g at_), s) := by
  have := h.2.1
  exact pr_of (h.2.2 at_ (by omega)).1 (h.2.2 _ ha).1 (h.2.2 at_ (by omega)).2 (h.2.2 _ ha).2 (by omega) (by omega)
theorem i74 (j : Nat) : (7 + 4 * nI j : Int32) = nI (7 + 4 * j) ∧ (9 + 4 * nI j : Int32) = nI (9 + 4 * j) := by
  rw [show (4 : Int32) = nI 4 from rfl, pk_mul, show (7 : Int32) = nI 7 from rfl, nI_add, show (9 : Int32) = nI 9 from rfl, nI_add]
  exact ⟨rfl, rfl⟩
theorem r_vtx_loop {i : Nat} {x y : Int} {at_ q9 : Nat} (hi : i ≤ 128) (hx : sh16 x) (hy : sh16 y) (hq9 : x = pr g (q9 - 4) ∧ y = pr g (q9 - 2)) (hn : 7 + 4 * i ≤ n) : ∀ (d j fu : Nat) (s : vt_S) (st : PE), j + d = i → d < fu → LuS B g n st s → ∃ s1, ab_X14_readVertex_31 fu (B + 640) (nI i) (zI x) (nI at_) (zI y) (nI j) s = some ((), s1) ∧ LuS B g n (pbd st (pIf (anyB (vsame g q9) d j) (3, at_))) s1 ∧ luk (B + 640) s s1 := by
  intro d
  induction d with
  | zero =>
    intro j fu s st hj hf h
    obtain ⟨fu, rfl⟩ : ∃ q, fu = q + 1 := ⟨fu - 1, by omega⟩
    refine ⟨s, ?_, ?_, luk.refl⟩
    · show ab_X14_readVertex_31b _ (B + 640) (nI i) (zI x) (nI at_) (zI y) (nI j) s = _
      unfold ab_X14_readVertex_31b
      rw [if_pos (nI_le (by omega) (by omega)), ab_X14_readVertex_93]
    · show LuS B g n (pbd st Except.ok) s
      rw [pbd_id]; exact h
  | succ d ih =>
    intro j fu s st hj hf h
    obtain ⟨fu, rfl⟩ : ∃ q, fu = q + 1 := ⟨fu - 1, by omega⟩
    show ∃ s1, ab_X14_readVertex_31b _ (B + 640) (nI i) (zI x) (nI at_) (zI y) (nI j) s = _ ∧ _
    unfold ab_X14_readVertex_31b
    rw [if_neg (nI_ge (by omega) (by omega)), slet]
    cases st with
    | error e =>
      rw [if_neg h.f1, ab_X14_readVertex_93]
      exact ⟨s, rfl, h, luk.refl⟩
    | ok q =>
      have r1 := pr_rng g (7 + 4 * j)
      have r2 := pr_rng g (9 + 4 * j)
      unfold sh16 at hx hy
      have e1 := zI_eq (a := pr g (7 + 4 * j)) (b := x) (by omega) (by omega) (by omega) (by omega)
      have e2 := zI_eq (a := pr g (9 + 4 * j)) (b := y) (by omega) (by omega) (by omega) (by omega)
      rw [if_pos h.f0, (i74 j).1, lu_pair h.1 h.2.1 (by omega), vbs]
      simp only [ab_X14_readVertex_87]
      by_cases c : pr g (7 + 4 * j) = x ∧ pr g (9 + 4 * j) = y
      · rw [if_pos (by rw [e1]; exact c.1), (i74 j).2, lu_pair h.1 h.2.1 (by omega), vbs, if_pos (by rw [e2]; exact c.2)]
        obtain ⟨s2, w1, w2, w3⟩ := lu_wrong h 3 at_ (by decide) (by decide)
        rw [show (3 : Int32) = nI 3 from rfl, w1, vbs, nI_1]
        obtain ⟨s1, f1, f2, f3⟩ := ih (j + 1) fu s2 _ (by omega) (by omega) w2
        refine ⟨s1, f1, ?_, w3.trans f3⟩
        have vs : vsame g q9 j = true := by
          unfold vsame
          rw [← hq9.1, ← hq9.2]; exact decide_eq_true c
        rw [anyB, vs, Bool.true_or]
        exact f2
      · have skip : (if zI (pr g (7 + 4 * j)) = zI x then vt_b (ab_X14_pair 1500 (B + 640) (9 + 4 * nI j) s) fun r6 h7 => if r6 = zI y then vt_b (ab_X14_wrong (B + 640) 3 (nI at_) h7) fun _ h8 => ab_X14_readVertex_31 fu (B + 640) (nI i) (zI x) (nI at_) (zI y) (nI j + 1) h8 else ab_X14_readVertex_31 fu (B + 640) (nI i) (zI x) (nI at_) (zI y) (nI j + 1) h7 else ab_X14_readVertex_31 fu (B + 640) (nI i) (zI x) (nI at_) (zI y) (nI j + 1) s) = ab_X14_readVertex_31 fu (B + 640) (nI i) (zI x) (nI at_) (zI y) (nI j + 1) s := by
          by_cases c1 : pr g (7 + 4 * j) = x
          · rw [if_pos (by rw [e1]; exact c1), (i74 j).2, lu_pair h.1 h.2.1 (by omega), vbs, if_neg (by rw [e2]; exact fun z => c ⟨c1, z⟩)]
          · rw [if_neg (by rw [e1]; exact c1)]
        rw [skip, nI_1]
        obtain ⟨s1, f1, f2, f3⟩ := ih (j + 1) fu s _ (by omega) (by omega) h
        refine ⟨s1, f1, ?_, f3⟩
        have vs : vsame g q9 j = false := by
          unfold vsame
          rw [← hq9.1, ← hq9.2]; exact decide_eq_false c
        rw [anyB, vs, Bool.false_or]
        exact f2
theorem r_vtx {i : Nat} {s : vt_S} {st : PE} (hi : i < 128) (h : LuS B g n st s) (hq : ∀ q, st = .ok q → q = 7 + 4 * i) : ∃ s1, ab_X14_readVertex (B + 640) (nI i) s = some ((), s1) ∧ LuS B g n (pbd st (pVtx g n i)) s1 ∧ luk (B + 640) s s1 := by
  obtain ⟨x, s1, a1, a2, a3, a4, a5, a6⟩ := lu_two h (-32768) 32767 (by omega) (by omega) (by omega) (by omega)
  obtain ⟨at_, t1, t2⟩ := lu_p a2
  obtain ⟨y, s2, b1, b2, b3, b4, b5, b6⟩ := lu_two a2 (-32768) 32767 (by omega) (by omega) (by omega) (by omega)
  rw [pTwoIn_full] at a6 b2 b6 t2
  have e0 : ab_X14_readVertex (B + 640) (nI i) s = ab_X14_readVertex_31 sv_fuel (B + 640) (nI i) (zI x) (nI at_) (zI y) (nI 0) s2 := by
    unfold ab_X14_readVertex
    rw [show (-32768 : Int32) = zI (-32768) from rfl, show (32767 : Int32) = zI 32767 from rfl, a1, vbs, slet, t1, b1, vbs]
    rfl
  rw [e0]
  have eq : ∀ q2, pbd (pbd st (pTwo n)) (pTwo n) = .ok q2 → pbd st (pVtx g n i) = pIf (anyB (vsame g q2) i 0) (3, q2 - 2) q2 := by
    intro q2 hq2
    obtain ⟨q1, y1, z1⟩ := pbd_ok hq2
    obtain ⟨q0, y0, z0⟩ := pbd_ok y1
    rw [y0]
    show pVtx g n i q0 = _
    unfold pVtx
    rw [z0]
    show pbd (pTwo n q1) _ = _
    rw [z1]; rfl
  cases e : pbd (pbd st (pTwo n)) (pTwo n) with
  | error x1 =>
    rw [e] at b2
    refine ⟨s2, ?_, ?_, a3.trans b3⟩
    · rw [sv_fuel_succ.choose_spec]
      show ab_X14_readVertex_31b _ (B + 640) (nI i) (zI x) (nI at_) (zI y) (nI 0) s2 = _
      unfold ab_X14_readVertex_31b
      by_cases c : i ≤ 0
      · rw [if_pos (nI_le c (by omega)), ab_X14_readVertex_93]
      · rw [if_neg (nI_ge (by omega) (by omega)), slet, if_neg b2.f1, ab_X14_readVertex_93]
    · have : pbd st (pVtx g n i) = .error x1 := by
        cases st with
        | error y1 => exact e
        | ok q0 =>
          have e : pbd (pTwo n q0) (pTwo n) = .error x1 := e
          show pVtx g n i q0 = _
          unfold pVtx
          rw [e]; rfl
      rw [this]; exact b2
  | ok q2 =>
    rw [e] at b2
    obtain ⟨q1, y1, z1⟩ := pbd_ok e
    obtain ⟨q0, y0, z0⟩ := pbd_ok y1
    obtain ⟨u1, u2⟩ := pTwo_ok z1
    obtain ⟨u3, u4⟩ := pTwo_ok z0
    have hq0 := hq q0 y0
    have hat := t2 q1 y1
    obtain ⟨s3, f1, f2, f3⟩ := r_vtx_loop (B := B) (g := g) (n := n) (i := i) (x := x) (y := y) (at_ := at_) (q9 := q2) (by omega) ⟨a4, a5⟩ ⟨b4, b5⟩ ⟨by rw [a6 q1 y1, show q1 - 2 = q2 - 4 by omega], b6 q2 e⟩ (by omega) i 0 sv_fuel s2 _ (by omega) (fuel_ge (by omega)) b2
    refine ⟨s3, f1, ?_, (a3.trans b3).trans f3⟩
    rw [eq q2 e, show q2 - 2 = at_ by omega]
    exact f2
theorem shlS {a : Nat} (h : a ≤ 8) : (1 : Int32) <<< (nI a &&& 31) = nI (2 ^ a) := by
  have h : ∀ q : Nat, q < 9 → (1 : Int32) <<< (nI q &&& 31) = nI (2 ^ q) := by decide
  exact h a (by omega)
theorem r_tex_loop {w h T : Nat} (hw : w + h ≤ 8) (hT : T = 2 ^ (w + h)) : ∀ (d k fu : Nat) (s : vt_S) (st : PE), k + d = T → d < fu → LuS B g n st s → ∃ s1, ab_X14_readTexture_16 fu (B + 640) (nI w) (nI h) (nI k) s = some ((), s1) ∧ LuS B g n (pL (fun _ => pIn g n 0 15) d k st) s1 ∧ luk (B + 640) s s1 := by
  have hT2 : T ≤ 2 ^ 8 := by rw [hT]; exact Nat.pow_le_pow_right (by decide) hw
  intro d
  induction d with
  | zero =>
    intro k fu s st hk hf r
    obtain ⟨fu, rfl⟩ : ∃ q, fu = q + 1 := ⟨fu - 1, by omega⟩
    refine ⟨s, ?_, r, luk.refl⟩
    show ab_X14_readTexture_16b _ (B + 640) (nI w) (nI h) (nI k) s = _
    unfold ab_X14_readTexture_16b
    rw [nI_add, shlS hw, ← hT, if_pos (nI_le (by omega) (by omega)), ab_X14_readTexture_47]
  | succ d ih =>
    intro k fu s st hk hf r
    obtain ⟨fu, rfl⟩ : ∃ q, fu = q + 1 := ⟨fu - 1, by omega⟩
    show ∃ s1, ab_X14_readTexture_16b _ (B + 640) (nI w) (nI h) (nI k) s = _ ∧ _
    unfold ab_X14_readTexture_16b
    rw [nI_add, shlS hw, ← hT, if_neg (nI_ge (by omega) (by omega)), slet]
    cases st with
    | error e =>
      rw [if_neg r.f1, ab_X14_readTexture_47, pL_err]
      exact ⟨s, rfl, r, luk.refl⟩
    | ok q =>
      obtain ⟨r2, s2, a1, a2, a3, -, -⟩ := lu_next r 0 15 (by omega) (by omega) (by omega) (by omega)
      rw [if_pos r.f0, show (0 : Int32) = zI 0 from rfl, show (15 : Int32) = zI 15 from rfl, a1, vbs, nI_1]
      obtain ⟨s1, e1, e2, e3⟩ := ih (k + 1) fu s2 _ (by omega) (by omega) a2
      exact ⟨s1, e1, e2, a3.trans e3⟩
theorem r_tex {s : vt_S} {st : PE} (h : LuS B g n st s) : ∃ s1, ab_X14_readTexture (B + 640) s = some ((), s1) ∧ LuS B g n (pbd st (pTex g n)) s1 ∧ luk (B + 640) s s1 := by
  obtain ⟨r1, s1, a1, a2, a3, a4, a5⟩ := lu_next h 0 4 (by omega) (by omega) (by omega) (by omega)
  obtain ⟨r2, s2, b1, b2, b3, b4, b5⟩ := lu_next a2 0 4 (by omega) (by omega) (by omega) (by omega)
  have e0 : ab_X14_readTexture (B + 640) s = ab_X14_readTexture_16 sv_fuel (B + 640) (nI r1) (nI r2) (nI 0) s2 := by
    unfold ab_X14_readTexture
    rw [show (0 : Int32) = zI 0 from rfl, show (4 : Int32) = zI 4 from rfl, a1, vbs, b1, vbs]
    rfl
  rw [e0]
  cases e : pbd (pbd st (pIn g n 0 4)) (pIn g n 0 4) with
  | error x1 =>
    rw [e] at b2
    refine ⟨s2, ?_, ?_, a3.trans b3⟩
    · rw [sv_fuel_succ.choose_spec]
      show ab_X14_readTexture_16b _ (B + 640) (nI r1) (nI r2) (nI 0) s2 = _
      unfold ab_X14_readTexture_16b
      rw [slet, if_neg b2.f1]
      by_cases c : (1 : Int32) <<< ((nI r1 + nI r2) &&& 31) ≤ nI 0
      · rw [if_pos c, ab_X14_readTexture_47]
      · rw [if_neg c, ab_X14_readTexture_47]
    · have : pbd st (pTex g n) = .error x1 := by
        cases st with
        | error y1 => exact e
        | ok q0 =>
          have e : pbd (pIn g n 0 4 q0) (pIn g n 0 4) = .error x1 := e
          show pTex g n q0 = _
          unfold pTex
          rw [e]; rfl
      rw [this]; exact b2
  | ok q2 =>
    obtain ⟨q1, y1, z1⟩ := pbd_ok e
    obtain ⟨q0, y0, z0⟩ := pbd_ok y1
    obtain ⟨u1, u2, u5, u6⟩ := pIn_ok z1
    obtain ⟨u3, u4, u7, u8⟩ := pIn_ok z0
    have v1 := a5 q1 y1
    have v2 := b5 q2 e
    rw [e] at b2
    rw [show q1 - 1 = q0 by omega] at v1
    rw [show q2 - 1 = q1 by omega] at v2
    have hp : 2 ^ (r1 + r2) ≤ 2 ^ 8 := Nat.pow_le_pow_right (by decide) (by omega)
    obtain ⟨s3, f1, f2, f3⟩ := r_tex_loop (B := B) (g := g) (n := n) (w := r1) (h := r2) (T := 2 ^ (r1 + r2)) (by omega) rfl (2 ^ (r1 + r2)) 0 sv_fuel s2 _ (by omega) (fuel_ge (by omega)) b2
    refine ⟨s3, f1, ?_, (a3.trans b3).trans f3⟩
    rw [y0]
    show LuS B g n (pTex g n q0) s3
    unfold pTex
    rw [show pbd (pIn g n 0 4 q0) (pIn g n 0 4) = .ok q2 by rw [z0]; exact z1]
    show LuS B g n (pL _ (2 ^ (g (q2 - 2) + g (q2 - 1))) 0 _) s3
    rw [show q2 - 2 = q0 by omega, show q2 - 1 = q1 by omega, ← v1, ← v2]
    exact f2
end LV
