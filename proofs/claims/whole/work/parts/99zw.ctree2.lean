-- TREE, the class: pieces are added and cut
section ST
variable (s : vt_S) (f a i : Nat) (v : Int32) (w : Int64)
theorem sI_A : vt_I (vu_A s f a i v) = vt_I s := Eq.trans rfl rfl
theorem sI_B : vt_I (vu_B s f a i w) = vt_I s := Eq.trans rfl rfl
theorem sL_A : vt_L (vu_A s f a i v) = vt_L s := Eq.trans rfl rfl
theorem sL_B : vt_L (vu_B s f a i w) = vt_L s := Eq.trans rfl rfl
theorem sL_I : vt_L (vu_I s f a v) = vt_L s := Eq.trans rfl rfl
theorem sA_B : vt_A (vu_B s f a i w) = vt_A s := Eq.trans rfl rfl
theorem sA_I : vt_A (vu_I s f a v) = vt_A s := Eq.trans rfl rfl
theorem sB_A : vt_B (vu_A s f a i v) = vt_B s := Eq.trans rfl rfl
theorem sB_I : vt_B (vu_I s f a v) = vt_B s := Eq.trans rfl rfl
theorem sz_A : vt_z (vu_A s f a i v) = vt_z s ∧ vt_l (vu_A s f a i v) = vt_l s := ⟨Eq.trans rfl rfl, Eq.trans rfl rfl⟩
theorem sz_B : vt_z (vu_B s f a i w) = vt_z s ∧ vt_l (vu_B s f a i w) = vt_l s := ⟨Eq.trans rfl rfl, Eq.trans rfl rfl⟩
theorem sz_I : vt_z (vu_I s f a v) = vt_z s ∧ vt_l (vu_I s f a v) = vt_l s := ⟨Eq.trans rfl rfl, Eq.trans rfl rfl⟩
end ST
section CA2
variable {B p W : Nat} {g : Nat → Nat}
theorem growI2 {s : vt_S} {f a n : Nat} (h1 : vt_L s f a < n) (h2 : n ≤ 1048576) : ∃ s1, vg_I s f a (nI n) = some s1 ∧ vt_z s1 = vt_z s + 1 ∧ vt_l s1 = vt_l s + n ∧ vt_L s1 f a = n ∧ (∀ q b, ¬ (q = f ∧ b = a) → vt_L s1 q b = vt_L s q b ∧ vt_A s1 q b = vt_A s q b) ∧ vt_I s1 = vt_I s ∧ vt_B s1 = vt_B s ∧ (∀ j, j < vt_L s f a → vt_A s1 f a j = vt_A s f a j) := by
  unfold vg_I
  rw [if_neg (show ¬ nI n = Int32.ofNat (vt_L s f a) from fun z => by
    have := (nI_eq (a := n) (b := vt_L s f a) (by omega) (by omega)).mp z
    omega), if_pos ⟨nI_pos (by omega), (nI_leI (b := 1048576) (by omega) (by omega)).mpr (by omega)⟩, nI_clamp (by omega)]
  refine ⟨_, rfl, rfl, rfl, ?_, fun q b hq => ⟨?_, ?_⟩, rfl, rfl, fun j hj => ?_⟩
  · show vur (vt_L s) f a _ f a = _
    rw [vur_at]
  · show vur (vt_L s) f a _ q b = _
    rw [vur_ne _ _ hq]
  · show vur (vt_A s) f a _ q b = _
    rw [vur_ne _ _ hq]
  · show vur (vt_A s) f a _ f a j = _
    rw [vur_at]
    unfold va_cpy
    rw [if_pos ⟨by omega, by omega⟩]
    simp
theorem growJ2 {s : vt_S} {f a n : Nat} (h1 : vt_L s f a < n) (h2 : n ≤ 1048576) : ∃ s1, vg_J s f a (nI n) = some s1 ∧ vt_z s1 = vt_z s + 1 ∧ vt_l s1 = vt_l s + n ∧ vt_L s1 f a = n ∧ (∀ q b, ¬ (q = f ∧ b = a) → vt_L s1 q b = vt_L s q b ∧ vt_B s1 q b = vt_B s q b) ∧ vt_I s1 = vt_I s ∧ vt_A s1 = vt_A s ∧ (∀ j, j < vt_L s f a → vt_B s1 f a j = vt_B s f a j) := by
  unfold vg_J
  rw [if_neg (show ¬ nI n = Int32.ofNat (vt_L s f a) from fun z => by
    have := (nI_eq (a := n) (b := vt_L s f a) (by omega) (by omega)).mp z
    omega), if_pos ⟨nI_pos (by omega), (nI_leI (b := 1048576) (by omega) (by omega)).mpr (by omega)⟩, nI_clamp (by omega)]
  refine ⟨_, rfl, rfl, rfl, ?_, fun q b hq => ⟨?_, ?_⟩, rfl, rfl, fun j hj => ?_⟩
  · show vur (vt_L s) f a _ f a = _
    rw [vur_at]
  · show vur (vt_L s) f a _ q b = _
    rw [vur_ne _ _ hq]
  · show vur (vt_B s) f a _ q b = _
    rw [vur_ne _ _ hq]
  · show vur (vt_B s) f a _ f a j = _
    rw [vur_at]
    unfold va_cpy
    rw [if_pos ⟨by omega, by omega⟩]
    simp
/-- the values and the chains below an index are as they were -/
def pkC (B cnt : Nat) (s s1 : vt_S) : Prop := ∀ i, i < cnt → vt_A s1 200 (B + 7) i = vt_A s 200 (B + 7) i ∧ vt_B s1 202 (B + 7) i = vt_B s 202 (B + 7) i ∧ vt_B s1 203 (B + 7) i = vt_B s 203 (B + 7) i ∧ vt_B s1 204 (B + 7) i = vt_B s 204 (B + 7) i ∧ vt_B s1 205 (B + 7) i = vt_B s 205 (B + 7) i ∧ vt_A s1 201 (B + 7) i = vt_A s 201 (B + 7) i
def rmP (K K1 : Nat) (s s1 : vt_S) : Prop := K ≤ K1 ∧ vt_z s1 + 6 * K ≤ vt_z s + 6 * K1 ∧ vt_l s1 + 12 * K ≤ vt_l s + 12 * K1
theorem c_pcRoom {s : vt_S} {K : Nat} (hL : pcL B s K) (h2 : 2 * K ≤ 16384) : ∃ s1, ab_X1_makeRoom (B + 7) (nI (2 * K)) s = some ((), s1) ∧ pcL B s1 (2 * K) ∧ rmP K (2 * K) s s1 ∧ vt_I s1 = vt_I s ∧ pkC B K s s1 := by
  obtain ⟨⟨l0, l1, l2, l3, l4, l5⟩, l6, l7⟩ := hL
  obtain ⟨s1, a1, a2, a3, a4, a5, a6, a7, a8⟩ := growI2 (s := s) (f := 200) (a := B + 7) (n := 2 * K) (by omega) (by omega)
  have m1 : vt_L s1 201 (B + 7) = K := by rw [(a5 201 (B + 7) (by omega)).1]; exact l1
  obtain ⟨s2, b1, b2, b3, b4, b5, b6, b7, b8⟩ := growI2 (s := s1) (f := 201) (a := B + 7) (n := 2 * K) (by omega) (by omega)
  have m2 : vt_L s2 202 (B + 7) = K := by rw [(b5 202 (B + 7) (by omega)).1, (a5 202 (B + 7) (by omega)).1]; exact l2
  obtain ⟨s3, c1, c2, c3, c4, c5, c6, c7, c8⟩ := growJ2 (s := s2) (f := 202) (a := B + 7) (n := 2 * K) (by omega) (by omega)
  have m3 : vt_L s3 203 (B + 7) = K := by rw [(c5 203 (B + 7) (by omega)).1, (b5 203 (B + 7) (by omega)).1, (a5 203 (B + 7) (by omega)).1]; exact l3
  obtain ⟨s4, d1, d2, d3, d4, d5, d6, d7, d8⟩ := growJ2 (s := s3) (f := 203) (a := B + 7) (n := 2 * K) (by omega) (by omega)
  have m4 : vt_L s4 204 (B + 7) = K := by rw [(d5 204 (B + 7) (by omega)).1, (c5 204 (B + 7) (by omega)).1, (b5 204 (B + 7) (by omega)).1, (a5 204 (B + 7) (by omega)).1]; exact l4
  obtain ⟨s5, e1, e2, e3, e4, e5, e6, e7, e8⟩ := growJ2 (s := s4) (f := 204) (a := B + 7) (n := 2 * K) (by omega) (by omega)
  have m5 : vt_L s5 205 (B + 7) = K := by rw [(e5 205 (B + 7) (by omega)).1, (d5 205 (B + 7) (by omega)).1, (c5 205 (B + 7) (by omega)).1, (b5 205 (B + 7) (by omega)).1, (a5 205 (B + 7) (by omega)).1]; exact l5
  obtain ⟨s6, f1, f2, f3, f4, f5, f6, f7, f8⟩ := growJ2 (s := s5) (f := 205) (a := B + 7) (n := 2 * K) (by omega) (by omega)
  refine ⟨s6, ?_, ⟨⟨?_, ?_, ?_, ?_, ?_, f4⟩, by omega, by omega⟩, ⟨by omega, by omega, by omega⟩, by rw [f6, e6, d6, c6, b6, a6], fun i hi => ⟨?_, ?_, ?_, ?_, ?_, ?_⟩⟩
  · unfold ab_X1_makeRoom
    rw [a1, obs, b1, obs, c1, obs, d1, obs, e1, obs, f1, obs]
  · rw [(f5 200 (B + 7) (by omega)).1, (e5 200 (B + 7) (by omega)).1, (d5 200 (B + 7) (by omega)).1, (c5 200 (B + 7) (by omega)).1, (b5 200 (B + 7) (by omega)).1]; exact a4
  · rw [(f5 201 (B + 7) (by omega)).1, (e5 201 (B + 7) (by omega)).1, (d5 201 (B + 7) (by omega)).1, (c5 201 (B + 7) (by omega)).1]; exact b4
  · rw [(f5 202 (B + 7) (by omega)).1, (e5 202 (B + 7) (by omega)).1, (d5 202 (B + 7) (by omega)).1]; exact c4
  · rw [(f5 203 (B + 7) (by omega)).1, (e5 203 (B + 7) (by omega)).1]; exact d4
  · rw [(f5 204 (B + 7) (by omega)).1]; exact e4
  · rw [f7, e7, d7, c7, (b5 200 (B + 7) (by omega)).2]; exact a8 i (by omega)
  · rw [(f5 202 (B + 7) (by omega)).2, (e5 202 (B + 7) (by omega)).2, (d5 202 (B + 7) (by omega)).2, c8 i (by omega), b7, a7]
  · rw [(f5 203 (B + 7) (by omega)).2, (e5 203 (B + 7) (by omega)).2, d8 i (by omega), (c5 203 (B + 7) (by omega)).2, b7, a7]
  · rw [(f5 204 (B + 7) (by omega)).2, e8 i (by omega), (d5 204 (B + 7) (by omega)).2, (c5 204 (B + 7) (by omega)).2, b7, a7]
  · rw [f8 i (by omega), (e5 205 (B + 7) (by omega)).2, (d5 205 (B + 7) (by omega)).2, (c5 205 (B + 7) (by omega)).2, b7, a7]
  · rw [f7, e7, d7, c7, b8 i (by omega), (a5 201 (B + 7) (by omega)).2]
theorem c_pcPut {t : vt_S} {K1 cnt w : Nat} (hL1 : pcL B t K1) (h1 : cnt < K1) (h2 : vt_I t 206 (B + 7) = nI cnt) : ∃ s1, ab_X1_add_22 (B + 7) (nI w) t = some (nI cnt, s1) ∧ pcL B s1 K1 ∧ vt_z s1 = vt_z t ∧ vt_l s1 = vt_l t ∧ vt_I s1 206 (B + 7) = nI (cnt + 1) ∧ pkC B cnt t s1 ∧ pvC B s1 cnt (pc0 w) ∧ vt_A s1 201 (B + 7) cnt = -1 := by
  obtain ⟨⟨l0, l1, l2, l3, l4, l5⟩, l6, l7⟩ := id hL1
  obtain ⟨u, hu⟩ : ∃ u, u = vu_B (vu_B (vu_B (vu_B (vu_A (vu_A t 200 (B + 7) cnt (nI w)) 201 (B + 7) cnt (-1)) 202 (B + 7) cnt 0) 203 (B + 7) cnt 1) 204 (B + 7) cnt 1) 205 (B + 7) cnt 1 := ⟨_, rfl⟩
  have uI : vt_I u = vt_I t := by rw [hu, sI_B, sI_B, sI_B, sI_B, sI_A, sI_A]
  have uL : vt_L u = vt_L t := by rw [hu, sL_B, sL_B, sL_B, sL_B, sL_A, sL_A]
  have eA : ∀ f i v x, vt_L (vu_A x f (B + 7) i v) = vt_L x := fun _ _ _ _ => Eq.trans rfl rfl
  have eB : ∀ f i v x, vt_L (vu_B x f (B + 7) i v) = vt_L x := fun _ _ _ _ => Eq.trans rfl rfl
  have BA : ∀ f i v x, vt_A (vu_B x f (B + 7) i v) = vt_A x := fun _ _ _ _ => Eq.trans rfl rfl
  have AB : ∀ f i v x, vt_B (vu_A x f (B + 7) i v) = vt_B x := fun _ _ _ _ => Eq.trans rfl rfl
  have Bnf : ∀ f f' i v x, f' ≠ f → vt_B (vu_B x f (B + 7) i v) f' (B + 7) = vt_B x f' (B + 7) := fun f f' i v x h => B_ne (fun q => h q.1)
  have uv : ∀ j, vt_A u 200 (B + 7) j = (if j = cnt then nI w else vt_A t 200 (B + 7) j) ∧ vt_A u 201 (B + 7) j = (if j = cnt then -1 else vt_A t 201 (B + 7) j) ∧ vt_B u 202 (B + 7) j = (if j = cnt then 0 else vt_B t 202 (B + 7) j) ∧ vt_B u 203 (B + 7) j = (if j = cnt then 1 else vt_B t 203 (B + 7) j) ∧ vt_B u 204 (B + 7) j = (if j = cnt then 1 else vt_B t 204 (B + 7) j) ∧ vt_B u 205 (B + 7) j = (if j = cnt then 1 else vt_B t 205 (B + 7) j) := by
    intro j
    rw [hu, BA, BA, BA, BA, A_nf (show 200 ≠ 201 by decide), A_at, A_at, A_nf (show 201 ≠ 200 by decide), Bnf _ _ _ _ _ (show 202 ≠ 205 by decide), Bnf _ _ _ _ _ (show 202 ≠ 204 by decide), Bnf _ _ _ _ _ (show 202 ≠ 203 by decide), B_at, AB, AB, Bnf _ _ _ _ _ (show 203 ≠ 205 by decide), Bnf _ _ _ _ _ (show 203 ≠ 204 by decide), B_at, Bnf _ _ _ _ _ (show 203 ≠ 202 by decide), AB, AB, Bnf _ _ _ _ _ (show 204 ≠ 205 by decide), B_at, Bnf _ _ _ _ _ (show 204 ≠ 203 by decide), Bnf _ _ _ _ _ (show 204 ≠ 202 by decide), AB, AB, B_at, Bnf _ _ _ _ _ (show 205 ≠ 204 by decide), Bnf _ _ _ _ _ (show 205 ≠ 203 by decide), Bnf _ _ _ _ _ (show 205 ≠ 202 by decide), AB, AB]
    exact ⟨rfl, rfl, rfl, rfl, rfl, rfl⟩
  have z : vt_z (vu_I u 206 (B + 7) (nI (cnt + 1))) = vt_z t ∧ vt_l (vu_I u 206 (B + 7) (nI (cnt + 1))) = vt_l t := by rw [(sz_I u 206 (B + 7) (nI (cnt + 1))).1, (sz_I u 206 (B + 7) (nI (cnt + 1))).2, hu, (sz_B _ _ _ _ _).1, (sz_B _ _ _ _ _).1, (sz_B _ _ _ _ _).1, (sz_B _ _ _ _ _).1, (sz_A _ _ _ _ _).1, (sz_A _ _ _ _ _).1, (sz_B _ _ _ _ _).2, (sz_B _ _ _ _ _).2, (sz_B _ _ _ _ _).2, (sz_B _ _ _ _ _).2, (sz_A _ _ _ _ _).2, (sz_A _ _ _ _ _).2]; exact ⟨rfl, rfl⟩
  have tA : vt_A (vu_I u 206 (B + 7) (nI (cnt + 1))) = vt_A u := rfl
  have tB : vt_B (vu_I u 206 (B + 7) (nI (cnt + 1))) = vt_B u := rfl
  refine ⟨vu_I u 206 (B + 7) (nI (cnt + 1)), ?_, ?_, z.1, z.2, I_at, fun i hi => ?_, ?_, ?_⟩
  · have IA : ∀ f i v x, vt_I (vu_A x f (B + 7) i v) = vt_I x := fun _ _ _ _ => Eq.trans rfl rfl
    have IB : ∀ f i v x, vt_I (vu_B x f (B + 7) i v) = vt_I x := fun _ _ _ _ => Eq.trans rfl rfl
    unfold ab_X1_add_22
    rw [slet, h2, vs_I_ok (by omega) (by omega), obs, vs_I_ok (by rw [eA]; omega) (by rw [eA]; omega), obs, vs_J_ok (by rw [eA, eA]; omega) (by rw [eA, eA]; omega), obs, vs_J_ok (by rw [eB, eA, eA]; omega) (by rw [eB, eA, eA]; omega), obs, vs_J_ok (by rw [eB, eB, eA, eA]; omega) (by rw [eB, eB, eA, eA]; omega), obs, vs_J_ok (by rw [eB, eB, eB, eA, eA]; omega) (by rw [eB, eB, eB, eA, eA]; omega), obs, ← hu, slet, uI, h2, nI_1, slet]
  · have tL : vt_L (vu_I u 206 (B + 7) (nI (cnt + 1))) = vt_L t := uL
    unfold pcL
    rw [tL]; exact hL1
  · obtain ⟨x1, x2, x3, x4, x5, x6⟩ := uv i
    rw [tA, tB, x1, x2, x3, x4, x5, x6, if_neg (by omega), if_neg (by omega), if_neg (by omega), if_neg (by omega), if_neg (by omega), if_neg (by omega)]
    exact ⟨rfl, rfl, rfl, rfl, rfl, rfl⟩
  · obtain ⟨x1, x2, x3, x4, x5, x6⟩ := uv cnt
    unfold pvC
    rw [tA, tB, x1, x3, x4, x5, x6, if_pos rfl, if_pos rfl, if_pos rfl, if_pos rfl, if_pos rfl]
    exact ⟨rfl, rfl, rfl, rfl, rfl⟩
  · rw [tA, (uv cnt).2.1, if_pos rfl]
theorem c_pcAdd {s : vt_S} {K cnt w : Nat} (hL : pcL B s K) (hc : vt_I s 206 (B + 7) = nI cnt) (hcK : cnt ≤ K) (hc8 : cnt < 16384) (hp2 : ∃ e, K = 128 * 2 ^ e) : ∃ s1 K1, ab_X1_add (B + 7) (nI w) s = some (nI cnt, s1) ∧ pcL B s1 K1 ∧ (∃ e, K1 = 128 * 2 ^ e) ∧ cnt < K1 ∧ rmP K K1 s s1 ∧ vt_I s1 206 (B + 7) = nI (cnt + 1) ∧ pkC B cnt s s1 ∧ pvC B s1 cnt (pc0 w) ∧ vt_A s1 201 (B + 7) cnt = -1 := by
  obtain ⟨⟨l0, -⟩, l6, l7⟩ := id hL
  unfold ab_X1_add
  rw [slet, slet, hc, l0]
  by_cases c : cnt = K
  · have hK2 : 2 * K ≤ 16384 := by
      obtain ⟨e, he⟩ := hp2
      by_cases z : e ≤ 6
      · have : 2 ^ e ≤ 2 ^ 6 := Nat.pow_le_pow_right (by decide) z
        omega
      · have : 2 ^ 7 ≤ 2 ^ e := Nat.pow_le_pow_right (by decide) (by omega)
        omega
    obtain ⟨t, a1, a2, a3, a4, a5⟩ := c_pcRoom hL hK2
    obtain ⟨s1, b1, b2, b3, b4, b5, b6, b7, b8⟩ := c_pcPut (K1 := 2 * K) (cnt := cnt) (w := w) a2 (by omega) (by rw [a4]; exact hc)
    refine ⟨s1, 2 * K, ?_, b2, ?_, by omega, ⟨a3.1, by rw [b3]; exact a3.2.1, by rw [b4]; exact a3.2.2⟩, b5, fun i hi => ?_, b7, b8⟩
    · rw [if_pos (by rw [c]; rfl), slet, show (2 : Int32) = nI 2 from rfl, pk_mul, c, a1, vbs, ← c]
      exact b1
    · obtain ⟨e, he⟩ := hp2
      exact ⟨e + 1, by rw [Nat.pow_succ]; omega⟩
    · obtain ⟨x1, x2, x3, x4, x5, x6⟩ := b6 i hi
      obtain ⟨y1, y2, y3, y4, y5, y6⟩ := a5 i (by omega)
      exact ⟨x1.trans y1, x2.trans y2, x3.trans y3, x4.trans y4, x5.trans y5, x6.trans y6⟩
  · obtain ⟨s1, b1, b2, b3, b4, b5, b6, b7, b8⟩ := c_pcPut (K1 := K) (cnt := cnt) (w := w) hL (by omega) hc
    refine ⟨s1, K, ?_, b2, hp2, by omega, ⟨Nat.le_refl _, by rw [b3]; exact Nat.le_refl _, by rw [b4]; exact Nat.le_refl _⟩, b5, b6, b7, b8⟩
    rw [if_neg (show ¬ nI cnt = Int32.ofNat K from fun z => c ((nI_eq (by omega) (by omega)).mp z))]
    exact b1
end CA2
