-- TREE, the reference: a whole list is worked off
section RX
variable {B W : Nat} {g : Nat → Nat}
set_option maxRecDepth 4000 in
theorem bld_cons (m : Nat) (P : PCE) (r : List PCE) (dep base leaf v : Nat) (L R : List PCE) (A C : List ND × Nat) (hv : v = bst g (P :: r)) (hL : L = spS g v 1 (P :: r)) (hR : R = spS g v (-1) (P :: r)) (hA : A = bld g m L (dep + 1) (base + 1) leaf) (hC : C = bld g m R (dep + 1) (base + 1 + A.1.length) (leaf + A.2)) : bld g (m + 1) (P :: r) dep base leaf = ((v, onN g v (P :: r), dep, ptrT L (base + 1) leaf, ptrT R (base + 1 + A.1.length) (leaf + A.2)) :: (A.1 ++ C.1), A.2 + C.2) ∧ bcut g (m + 1) (P :: r) = cutN g v (P :: r) + bcut g m L + bcut g m R := by
  rw [hC, hA, hL, hR, hv]
  constructor
  · rw [bld]
  · rw [bcut]
def ndR (B : Nat) (s : vt_S) (k : Nat) (N : ND) : Prop := vt_A s 1718 (B + 670) k = nI N.1 ∧ vt_A s 1723 (B + 670) k = nI N.2.1 ∧ vt_A s 1721 (B + 670) k = nI N.2.2.1 ∧ vt_A s 1719 (B + 670) k = zI N.2.2.2.1 ∧ vt_A s 1720 (B + 670) k = zI N.2.2.2.2
def ndsR (B : Nat) (s : vt_S) : Nat → List ND → Prop
  | _, [] => True
  | k, N :: l => ndR B s k N ∧ ndsR B s (k + 1) l
theorem ndsR_app {s : vt_S} : ∀ (a b : List ND) (k : Nat), ndsR B s k a → ndsR B s (k + a.length) b → ndsR B s k (a ++ b)
  | [], b, k, _, h => h
  | N :: a, b, k, h1, h2 => ⟨h1.1, ndsR_app a b (k + 1) h1.2 (by rw [List.length_cons] at h2; rw [show k + 1 + a.length = k + (a.length + 1) by omega]; exact h2)⟩
theorem ndsR_cg {s s1 : vt_S} : ∀ (a : List ND) (k : Nat), (∀ j, k ≤ j → j < k + a.length → ∀ N, ndR B s j N → ndR B s1 j N) → ndsR B s k a → ndsR B s1 k a
  | [], _, _, _ => trivial
  | N :: a, k, h, h1 => by
    rw [List.length_cons] at h
    exact ⟨h k (by omega) (by omega) N h1.1, ndsR_cg a (k + 1) (fun j x y => h j (by omega) (by omega)) h1.2⟩
theorem rFr.nd {cnt base t from_ : Nat} {par : Option Nat} {sd : Bool} {s s1 : vt_S} (h : rFr B cnt base t from_ par sd s s1) {j : Nat} (hj : j < base) (hp : par ≠ some j) {N : ND} (hN : ndR B s j N) : ndR B s1 j N := by
  obtain ⟨-, -, -, -, n3, pk⟩ := h
  obtain ⟨a1, a2, a3⟩ := n3 j hj
  obtain ⟨b1, b2⟩ := pk j hj
  obtain ⟨c1, c2, c3, c4, c5⟩ := hN
  exact ⟨a1.trans c1, a3.trans c2, a2.trans c3, (b1 (fun z => hp z.2)).trans c4, (b2 (fun z => hp z.2)).trans c5⟩
theorem rT_pop {s : vt_S} {t from_ n : Nat} {par : Option Nat} {sd : Bool} (hS : rS B s) (ht : t < 280) (h17 : vt_I s 1717 (B + 670) = nI (t + 1)) (hE : stE B s t from_ n par sd) (fu : Nat) : ab_X16_make_77 (fu + 1) (B + 670) s = vt_b (ab_X16_divide (B + 670) (nI from_) (nI n) (pI par) (bI sd) (vu_I s 1717 (B + 670) (nI t))) fun _ h16 => ab_X16_make_77 fu (B + 670) h16 := by
  have L13 := hS.L1713
  have L14 := hS.L1714
  have L15 := hS.L1715
  have L16 := hS.L1716
  obtain ⟨e1, e2, e3, e4⟩ := hE
  obtain ⟨u, hu⟩ : ∃ u, u = vu_I s 1717 (B + 670) (nI t) := ⟨_, rfl⟩
  have uL : vt_L u = vt_L s := by rw [hu]; exact Eq.trans rfl rfl
  have uA : vt_A u = vt_A s := by rw [hu]; exact Eq.trans rfl rfl
  have uI : vt_I u 1717 (B + 670) = nI t := by rw [hu, I_at]
  rw [← hu]
  show ab_X16_make_77b _ (B + 670) s = _
  unfold ab_X16_make_77b
  rw [slet, h17, if_neg (show ¬ nI (t + 1) ≤ 0 from nI_ge (a := 0) (b := t + 1) (by omega) (by omega)), slet, (z_down t).1, slet, ← hu, slet, uI, vl_I_ok (by rw [uL]; omega) (by rw [uL]; omega), obs, slet, vl_I_ok (by rw [uL]; omega) (by rw [uL]; omega), obs, slet, vl_I_ok (by rw [uL]; omega) (by rw [uL]; omega), obs, slet, vl_I_ok (by rw [uL]; omega) (by rw [uL]; omega), obs, uA, e1, e2, e3, e4]
theorem rT_run_nil (m dep base leaf cnt ons t from_ : Nat) (par : Option Nat) (sd : Bool) (s : vt_S) (hQ : rQ B g W s cnt base leaf ons) (h17 : vt_I s 1717 (B + 670) = nI (t + 1)) (hE : stE B s t from_ 0 par sd) (hd : dpR B s par dep base) (b2 : base + (bld g m [] dep base leaf).1.length ≤ 8400) (b3 : leaf + (bld g m [] dep base leaf).2 ≤ 100000) (b5 : t + 0 ≤ 128) : ∃ s1 k, k ≤ 2 * (bld g m [] dep base leaf).1.length + 1 ∧ (∀ fu, ab_X16_make_77 (fu + k) (B + 670) s = ab_X16_make_77 fu (B + 670) s1) ∧ rQ B g W s1 (cnt + 2 * bcut g m []) (base + (bld g m [] dep base leaf).1.length) (leaf + (bld g m [] dep base leaf).2) (ons + 0 + bcut g m []) ∧ vt_I s1 1717 (B + 670) = nI t ∧ ndsR B s1 base (bld g m [] dep base leaf).1 ∧ ptrS B par sd s1 (ptrT [] base leaf) ∧ rFr B cnt base t from_ par sd s s1 := by
  have e1 : bld g m [] dep base leaf = ([], 1) := by cases m <;> rfl
  have e2 : bcut g m [] = 0 := by cases m <;> rfl
  rw [e1] at b2 b3
  rw [e1, e2]
  have b2 : base ≤ 8400 := b2
  have b3 : leaf + 1 ≤ 100000 := b3
  obtain ⟨hT, q11, q25, q26, q27⟩ := hQ
  obtain ⟨u, hu⟩ : ∃ u, u = vu_I s 1717 (B + 670) (nI t) := ⟨_, rfl⟩
  have ku : vk [1717] [] [] (fun _ => True) s u := by rw [hu]; exact vk.pI (vk.refl s) (by decide)
  have hpar : ∀ k, par = some k → k < base := fun k hk => by rw [hk] at hd; exact hd.1
  obtain ⟨s1, a1, a2, a3, a4⟩ := rT_hang (from_ := from_) (n := 0) (sd := sd) (ku.keep0 (P := rTw B g W) hT).2 (by rw [ku.eI (by decide)]; exact q25) (by rw [ku.eI (by decide)]; exact q26) b2 hpar (by omega) (by omega)
  rw [if_pos rfl] at a4
  obtain ⟨s2, hs2⟩ : ∃ u, u = vu_I s1 1726 (B + 670) (nI (leaf + 1)) := ⟨_, rfl⟩
  have k2' : vk [1726] [] [] (fun _ => True) s1 s2 := by rw [hs2]; exact vk.pI (vk.refl s1) (by decide)
  have k2 : vk [1717, 1726] [1719, 1720] [] (fun _ => True) s s2 := ((ku.weak (by decide) (by decide) (by decide)).trans (a2.weak (by decide) (by decide) (by decide))).trans (k2'.weak (by decide) (by decide) (by decide))
  have A2 : vt_A s2 = vt_A s1 := by rw [hs2]; exact Eq.trans rfl rfl
  have Au : vt_A u = vt_A s := by rw [hu]; exact Eq.trans rfl rfl
  refine ⟨s2, 1, by decide, fun fu => ?_, ⟨k2.keep0 (P := rTw B g W) hT, by rw [k2.eI (by decide)]; exact q11, by rw [k2.eI (by decide)]; exact q25, by rw [hs2, I_at], by rw [k2.eI (by decide)]; exact q27⟩, ?_, trivial, fun k hk => ?_, k2.weak (by decide) (by decide) (by decide), k2.pk (by decide), fun j _ => by rw [k2.aA (by decide)], fun j _ => ⟨by rw [k2.aA (by decide)], by rw [k2.aA (by decide)], by rw [k2.aA (by decide)], by rw [k2.aA (by decide)]⟩, fun k _ => ⟨by rw [k2.aA (by decide)], by rw [k2.aA (by decide)], by rw [k2.aA (by decide)]⟩, fun k _ => ?_⟩
  · rw [rT_pop hT.2 (by omega) h17 hE, ← hu, a1]
    unfold ab_X16_divide_51
    have z26 : vt_I s1 1726 (B + 670) = nI leaf := by rw [a2.eI (by intro z; cases z), ku.eI (by decide)]; exact q26
    rw [if_pos (show nI 0 = 0 from rfl), slet, z26, nI_1, slet, ← hs2, vbs]
  · rw [k2'.eI (by decide), a2.eI (by intro z; cases z), hu, I_at]
  · rw [A2]
    exact a4 k hk
  · rw [A2]
    have := a3 k
    rw [Au] at this
    exact this
set_option linter.constructorNameAsVariable false in
theorem rT_run : ∀ (m : Nat) (l : List PCE) (dep base leaf cnt ons t from_ : Nat) (par : Option Nat) (sd : Bool) (s : vt_S), pcs W l → l.length ≤ m → l.length ≤ 128 → rQ B g W s cnt base leaf ons → vt_I s 1717 (B + 670) = nI (t + 1) → stE B s t from_ l.length par sd → segR B s cnt from_ l → dpR B s par dep base → cnt + 2 * bcut g m l ≤ 16600 → base + (bld g m l dep base leaf).1.length ≤ 8400 → leaf + (bld g m l dep base leaf).2 ≤ 100000 → ons + l.length + bcut g m l ≤ 16600 → t + l.length ≤ 128 → from_ + l.length * l.length ≤ 16384 → ∃ s1 k, k ≤ 2 * (bld g m l dep base leaf).1.length + 1 ∧ (∀ fu, ab_X16_make_77 (fu + k) (B + 670) s = ab_X16_make_77 fu (B + 670) s1) ∧ rQ B g W s1 (cnt + 2 * bcut g m l) (base + (bld g m l dep base leaf).1.length) (leaf + (bld g m l dep base leaf).2) (ons + l.length + bcut g m l) ∧ vt_I s1 1717 (B + 670) = nI t ∧ ndsR B s1 base (bld g m l dep base leaf).1 ∧ ptrS B par sd s1 (ptrT l base leaf) ∧ rFr B cnt base t from_ par sd s s1 := by
  intro m
  induction m with
  | zero =>
    intro l dep base leaf cnt ons t from_ par sd s hp hm h8 hQ h17 hE hsg hd b1 b2 b3 b4 b5 b6
    have e : l = [] := List.eq_nil_of_length_eq_zero (by omega)
    subst e
    exact rT_run_nil 0 dep base leaf cnt ons t from_ par sd s hQ h17 hE hd b2 b3 b5
  | succ m ih =>
    intro l dep base leaf cnt ons t from_ par sd s hp hm h8 hQ h17 hE hsg hd b1 b2 b3 b4 b5 b6
    cases l with
    | nil => exact rT_run_nil (m + 1) dep base leaf cnt ons t from_ par sd s hQ h17 hE hd b2 b3 b5
    | cons P r =>
      obtain ⟨sp1, sp2, ⟨sp3, sp4⟩, ⟨sp5, sp6⟩, sp7, -⟩ := sp_step (g := g) hp h8
      obtain ⟨v, hv⟩ : ∃ v, v = bst g (P :: r) := ⟨_, rfl⟩
      rw [← hv] at sp1 sp2 sp3 sp4 sp5 sp6 sp7
      obtain ⟨L, hL⟩ : ∃ L, L = spS g v 1 (P :: r) := ⟨_, rfl⟩
      obtain ⟨R, hR⟩ : ∃ R, R = spS g v (-1) (P :: r) := ⟨_, rfl⟩
      rw [← hL] at sp3 sp4 sp7
      rw [← hR] at sp5 sp6 sp7
      obtain ⟨A, hA⟩ : ∃ A, A = bld g m L (dep + 1) (base + 1) leaf := ⟨_, rfl⟩
      obtain ⟨C, hC⟩ : ∃ C, C = bld g m R (dep + 1) (base + 1 + A.1.length) (leaf + A.2) := ⟨_, rfl⟩
      obtain ⟨eb, ec⟩ := bld_cons m P r dep base leaf v L R A C hv hL hR hA hC
      rw [eb] at b2 b3
      rw [ec] at b1 b4
      rw [eb, ec]
      obtain ⟨n, hn⟩ : ∃ n, n = (P :: r).length := ⟨_, rfl⟩
      have hnr : n = r.length + 1 := by rw [hn, List.length_cons]
      rw [← hn] at hm h8 hE b4 b5 b6 sp7 ⊢
      dsimp only at b2 b3 ⊢
      rw [List.length_cons, List.length_append] at b2 ⊢
      obtain ⟨u, hu⟩ : ∃ u, u = vu_I s 1717 (B + 670) (nI t) := ⟨_, rfl⟩
      have ku : vk [1717] [] [] (fun _ => True) s u := by rw [hu]; exact vk.pI (vk.refl s) (by decide)
      have Qu : rQ B g W u cnt base leaf ons := ⟨ku.keep0 (P := rTw B g W) hQ.1, by rw [ku.eI (by decide)]; exact hQ.2.1, by rw [ku.eI (by decide)]; exact hQ.2.2.1, by rw [ku.eI (by decide)]; exact hQ.2.2.2.1, by rw [ku.eI (by decide)]; exact hQ.2.2.2.2⟩
      have Au : vt_A u = vt_A s := by rw [hu]; exact Eq.trans rfl rfl
      have du : dpR B u par dep base := by
        cases par with
        | none => exact hd
        | some k => exact ⟨hd.1, hd.2.1, by rw [Au]; exact hd.2.2⟩
      have sq1 : n ≤ n * n := Nat.le_mul_self n
      have gu : segR B u cnt from_ (P :: r) := segR_cg (s := s) (s1 := u) (fun z hz Q hQ => ku.keep0 (P := fun t => pvR B t z Q) hQ) (P :: r) from_ (fun j _ _ => by rw [Au]) hsg
      have bA : from_ + 3 * (P :: r).length ≤ 34000 := by rw [← hn]; omega
      have bB : cnt + 2 * cutN g (bst g (P :: r)) (P :: r) ≤ 16600 := by rw [← hv]; omega
      have bC : base < 8400 := by omega
      have bD : leaf < 100000 := by have := (bld_bnd (g := g) (W := W) m L (dep + 1) (base + 1) leaf sp3 (by omega) (by omega)).1; rw [← hA] at this; omega
      have bE : ons + onN g (bst g (P :: r)) (P :: r) ≤ 16600 := by rw [← hv]; omega
      obtain ⟨s2, d1, d2, d3, d4, d5, d6, d7, ⟨d8, d9, d10⟩, d11, d12⟩ := rT_div (sd := sd) (par := par) (dep := dep) Qu (by rw [hu, I_at]) (by omega) gu hp (by rw [← hn]; exact h8) bA bB bC bD bE du
      rw [← hv, ← hn, ← hR] at d4
      rw [← hv, ← hn, ← hR, ← hL] at d5
      rw [← hv, ← hn, ← hR] at d6
      rw [← hv, ← hn, ← hR, ← hL] at d7
      rw [← hv] at d2 d8 d10
      rw [← hn] at d1 d12
      have lenL : L.length ≤ n - 1 := by omega
      have lenR : R.length ≤ n - 1 := by omega
      have qL : from_ + n + R.length + L.length * L.length ≤ 16384 := by
        have h1 : L.length * L.length ≤ (n - 1) * (n - 1) := Nat.mul_le_mul lenL lenL
        have h2 : n * n = (n - 1) * (n - 1) + 2 * (n - 1) + 1 := by
          obtain ⟨q, hq⟩ : ∃ q, n = q + 1 := ⟨n - 1, by omega⟩
          rw [hq, Nat.add_sub_cancel, Nat.add_mul, Nat.mul_add, Nat.one_mul]; omega
        omega
      have qR : from_ + n + R.length * R.length ≤ 16384 := by
        have h1 : R.length * R.length ≤ (n - 1) * (n - 1) := Nat.mul_le_mul lenR lenR
        have h2 : n * n = (n - 1) * (n - 1) + 2 * (n - 1) + 1 := by
          obtain ⟨q, hq⟩ : ∃ q, n = q + 1 := ⟨n - 1, by omega⟩
          rw [hq, Nat.add_sub_cancel, Nat.add_mul, Nat.mul_add, Nat.one_mul]; omega
        omega
      -- the left one
      obtain ⟨s3, k1, x1, x2, x3, x4, x5, x6, x7⟩ := ih L (dep + 1) (base + 1) leaf (cnt + 2 * cutN g v (P :: r)) (ons + onN g v (P :: r)) (t + 1) (from_ + n + R.length) (some base) false s2 sp3 (by omega) (by omega) d2 d3 d5 d7 ⟨by omega, by omega, by rw [Nat.add_sub_cancel]; exact d9⟩ (by omega) (by rw [← hA]; omega) (by rw [← hA]; omega) (by omega) (by omega) qL
      rw [← hA] at x1 x3 x5
      obtain ⟨y1, y2, y3, y4, y5, y6⟩ := id x7
      have E3 : stE B s3 t (from_ + n) R.length (some base) true := by
        obtain ⟨z1, z2, z3, z4⟩ := y4 t (by omega)
        obtain ⟨w1, w2, w3, w4⟩ := d4
        exact ⟨z1.trans w1, z2.trans w2, z3.trans w3, z4.trans w4⟩
      have g3 : segR B s3 (cnt + 2 * cutN g v (P :: r) + 2 * bcut g m L) (from_ + n) R := by
        have h1 : segR B s3 (cnt + 2 * cutN g v (P :: r)) (from_ + n) R := segR_cg (s := s2) (s1 := s3) (fun z hz Q hQ => y2.pv z hz Q hQ) R (from_ + n) (fun j _ h2 => y3 j (by omega)) d6
        exact segR_mono (by omega) R (from_ + n) h1
      -- the right one
      obtain ⟨s4, k2, u1, u2, u3, u4, u5, u6, u7⟩ := ih R (dep + 1) (base + 1 + A.1.length) (leaf + A.2) (cnt + 2 * cutN g v (P :: r) + 2 * bcut g m L) (ons + onN g v (P :: r) + L.length + bcut g m L) t (from_ + n) (some base) true s3 sp5 (by omega) (by omega) x3 x4 E3 g3 ⟨by omega, by omega, by rw [Nat.add_sub_cancel, (y5 base (by omega)).2.1]; exact d9⟩ (by omega) (by rw [← hC]; omega) (by rw [← hC]; omega) (by omega) (by omega) qR
      rw [← hC] at u1 u3 u5
      obtain ⟨v1, v2, v3, v4, v5, v6⟩ := id u7
      obtain ⟨w1, w2, w3, w4, w5, w6⟩ := id d12
      refine ⟨s4, k2 + k1 + 1, by omega, fun fu => ?_, ?_, u4, ⟨⟨?_, ?_, ?_, ?_, ?_⟩, ?_⟩, fun k hk => ?_, ?_, ?_, fun j hj => ?_, fun j hj => ?_, fun k hk => ?_, fun k hk => ?_⟩
      · rw [show fu + (k2 + k1 + 1) = (fu + k2 + k1) + 1 by omega, rT_pop hQ.1.2 (by omega) h17 hE, ← hu, d1, vbs, x2, u2]
      · obtain ⟨o1, o2, o3, o4, o5⟩ := u3
        exact ⟨o1, by rw [o2]; exact congrArg nI (by omega), by rw [o3]; exact congrArg nI (by omega), by rw [o4]; exact congrArg nI (by omega), by rw [o5]; exact congrArg nI (by omega)⟩
      · rw [(v5 base (by omega)).1, (y5 base (by omega)).1]; exact d8
      · rw [(v5 base (by omega)).2.2, (y5 base (by omega)).2.2]; exact d10
      · rw [(v5 base (by omega)).2.1, (y5 base (by omega)).2.1]; exact d9
      · rw [(v6 base (by omega)).1 (fun z => by cases z.1)]
        exact x6 base rfl
      · exact u6 base rfl
      · refine ndsR_app A.1 C.1 (base + 1) (ndsR_cg (s := s3) (s1 := s4) A.1 (base + 1) (fun j h1 h2 N hN => u7.nd (by omega) (fun z => by cases z; omega) hN) x5) u5
      · have hkb : k < base := by rw [hk] at hd; exact hd.1
        have z := d11 k hk
        cases sd with
        | false =>
          rw [if_neg (by decide)] at z ⊢
          rw [(v6 k (by omega)).1 (fun z => by cases z.1), (y6 k (by omega)).1 (fun z => by have := z.2; cases this; omega)]; exact z
        | true =>
          rw [if_pos rfl] at z ⊢
          rw [(v6 k (by omega)).2 (fun z => by have := z.2; cases this; omega), (y6 k (by omega)).2 (fun z => by cases z.1)]; exact z
      · exact (((ku.weak (by decide) (by decide) (by decide)).trans w1).trans y1).trans v1
      · exact (((ku.pk (by decide) (cnt := cnt)).trans w2 (Nat.le_refl _)).trans y2 (by omega)).trans v2 (by omega)
      · rw [v3 j (by omega), y3 j (by omega), w3 j (by omega), Au]
      · obtain ⟨z1, z2, z3, z4⟩ := v4 j hj
        obtain ⟨z5, z6, z7, z8⟩ := y4 j (by omega)
        obtain ⟨z9, z10, z11, z12⟩ := w4 j hj
        rw [Au] at z9 z10 z11 z12
        exact ⟨(z1.trans z5).trans z9, (z2.trans z6).trans z10, (z3.trans z7).trans z11, (z4.trans z8).trans z12⟩
      · obtain ⟨z1, z2, z3⟩ := v5 k (by omega)
        obtain ⟨z5, z6, z7⟩ := y5 k (by omega)
        obtain ⟨z9, z10, z11⟩ := w5 k hk
        rw [Au] at z9 z10 z11
        exact ⟨(z1.trans z5).trans z9, (z2.trans z6).trans z10, (z3.trans z7).trans z11⟩
      · have nb : some base ≠ some k := fun z => by cases z; omega
        have x := v6 k (by omega)
        have y := y6 k (by omega)
        have w := w6 k hk
        rw [Au] at w
        exact ⟨fun h => ((x.1 (fun z => nb z.2)).trans (y.1 (fun z => nb z.2))).trans (w.1 h), fun h => ((x.2 (fun z => nb z.2)).trans (y.2 (fun z => nb z.2))).trans (w.2 h)⟩
end RX
