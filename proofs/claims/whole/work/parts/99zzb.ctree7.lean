-- TREE, the class: split as a whole, nodes, hanging, opening
section SN
variable {B p W : Nat} {g : Nat → Nat}
theorem c_split {s : vt_S} {v node KN cnt K o ons : Nat} {c0 : Int32} {is : List Nat} {l : List PCE} (hv : v < W) (hn : node < KN) (hKN : KN ≤ 16384) (h901 : vt_L s 901 (B + 6) = KN) (hw : vt_A s 901 (B + 6) node = nI v) (h8 : l.length ≤ 128) (hQ : pcQ B p g W s K cnt) (hN : ndQ B s KN node o ons) (hc : cnt + cutN g v l ≤ 16384) (hp : pcs W l) (hch : chC B s c0 is l) (hd : is.Nodup) (hx : ∀ i, i ∈ is → i < cnt) : ∃ s1 K1 X1, ab_X8_split (B + 6) p c0 (nI node) s = some ((), s1) ∧ pcQ B p g W s1 K1 (cnt + cutN g v l) ∧ ndQ B s1 KN node (o + onN g v l) (ons + onN g v l) ∧ rmP K K1 s s1 ∧ djL [] X1 ∧ inX (cnt + cutN g v l) [] X1 ∧ acs B s1 X1 (fun b => spX g v b l) ∧ (∀ b i, i ∈ X1 b → i < cnt → i ∈ is) ∧ (∀ j, j < cnt → j ∉ is → nxC B s s1 j) ∧ (∀ j, j ≠ node → vt_A s1 904 (B + 6) j = vt_A s 904 (B + 6) j) := by
  obtain ⟨u, hu⟩ : ∃ u, u = vu_I (vu_I s 914 (B + 6) (-1)) 916 (B + 6) (-1) := ⟨_, rfl⟩
  have ku : vk [914, 916] [] [] (fun _ => True) s u := by rw [hu]; exact vk.pI (vk.pI (vk.refl s) (by decide)) (by decide)
  have nx : ∀ j, nxC B s u j := fun j => ⟨⟨by rw [ku.aA (by decide)], by rw [ku.aB (by decide)], by rw [ku.aB (by decide)], by rw [ku.aB (by decide)], by rw [ku.aB (by decide)]⟩, by rw [ku.aA (by decide)]⟩
  have uL : ∀ f, vt_L u f (B + 6) = vt_L s f (B + 6) := fun f => ku.2.2.2.1 f _ (Or.inl (by intro z; cases z))
  have Qu : pcQ B p g W u K cnt := hQ.vk ku (ku.keep0 (P := cTw B p g W) hQ.1) (by decide)
  have Nu : ndQ B u KN node o ons := ⟨by rw [uL]; exact hN.1, by rw [ku.aA (by decide)]; exact hN.2.1, by rw [ku.eI (by decide)]; exact hN.2.2⟩
  have au : acs B u (fun _ => []) (fun _ => []) := fun b => by
    refine ⟨?_, fun a z e => by simp at e⟩
    show vt_I u (lrF b) (B + 6) = -1
    cases b with
    | true => show vt_I u 914 (B + 6) = -1; rw [hu, I_ne (by omega), I_at]
    | false => show vt_I u 916 (B + 6) = -1; rw [hu, I_at]
  obtain ⟨s1, K1, X1, a1, a2, a3, a4, a5, a6, a7, a8, a9, a10⟩ := c_split_loop (B := B) (p := p) (W := W) (g := g) hv hn hKN l is c0 0 sv_fuel cnt K o ons (fun _ => []) (fun _ => []) u (by omega) (fuel_ge (by omega)) Qu Nu hc hp (chC_nx hch (fun i _ => nx i)) ⟨hd, fun _ => List.nodup_nil, (fun _ _ _ h => by cases h), (fun _ _ h => by cases h)⟩ ⟨hx, (fun _ _ h => by cases h)⟩ au
  have L8 := hQ.1.1.L308
  have W8 := hQ.1.2.1.2.1
  have Pu : pS p u := ku.keep0 (P := pS p) hQ.1.1
  have uz := ku.2.2.2.2 rfl
  refine ⟨s1, K1, X1, ?_, a2, a3, (rmP.same uz.1 uz.2).trans a4, a5, a6, ?_, fun b i h1 h2 => ?_, fun j h1 h2 => (nx j).trans (a9 j h1 ⟨h2, fun _ h => by cases h⟩), fun j hj => by rw [a10 j hj, ku.aA (by decide)]⟩
  · unfold ab_X8_split
    rw [slet, slet, ← hu, vl_I_ok (by rw [uL]; omega) (by rw [uL]; omega), obs, ku.aA (by decide), hw, vl_P_ok (by rw [Pu.L308]; omega) (by rw [Pu.L308]; omega), obs, Pu.E308 _ (by omega)]
    exact a1
  · exact a7
  · rcases a8 b i h1 h2 with z | ⟨b2, z⟩
    · exact z
    · cases z
theorem c_best {s : vt_S} {K cnt : Nat} {c0 : Int32} {is : List Nat} {P : PCE} {r : List PCE} (hQ : pcQ B p g W s K cnt) (h8 : (P :: r).length ≤ 128) (hp : pcs W (P :: r)) (hch : chC B s c0 is (P :: r)) (hx : ∀ i, i ∈ is → i < cnt) : ab_X8_bestLine (B + 6) p c0 s = some (nI (bst g (P :: r)), s) := by
  obtain ⟨hT, hL, hK, hcK, h206⟩ := hQ
  have hxK : ∀ i, i ∈ is → i < K := fun i hi => by have := hx i hi; omega
  have k := cT_best (B := B) (p := p) (W := W) (g := g) (s := s) (n := (P :: r).length) hT hL rfl h8 hch hxK hp (P :: r) is c0 0 sv_fuel P.1 81920 (by omega) (by omega) (fuel_ge (by omega)) hch hxK (fun Q hQ => hQ) (by omega) (by omega)
  have e : bsG g (P :: r) (16 - 0) (P :: r) P.1 81920 = bst g (P :: r) := bst_c h8
  rw [e] at k
  obtain ⟨i, js, e1, e2, e3, e4⟩ := chC_cons hch
  have hi := hxK i (by rw [e1]; exact List.mem_cons_self)
  have l0 := hL.1.1
  have l7 := hL.2.2
  have k : ab_X8_bestLine_20 sv_fuel (B + 6) p c0 (nI P.1) 81920 c0 0 s = some (nI (bst g (P :: r)), s) := k
  unfold ab_X8_bestLine
  rw [slet, hT.2.2]
  rw [e2] at k ⊢
  rw [vl_I_ok (by omega) (by omega), obs, e3.1]
  exact k
def ndL (B : Nat) (s : vt_S) (KN : Nat) : Prop := (vt_L s 901 (B + 6) = KN ∧ vt_L s 902 (B + 6) = KN ∧ vt_L s 903 (B + 6) = KN ∧ vt_L s 904 (B + 6) = KN ∧ vt_L s 905 (B + 6) = KN ∧ vt_L s 906 (B + 6) = KN) ∧ (128 ≤ KN ∧ KN ≤ 16384) ∧ ∃ e, KN = 128 * 2 ^ e
def nkC (B base : Nat) (s s1 : vt_S) : Prop := ∀ k, k < base → vt_A s1 901 (B + 6) k = vt_A s 901 (B + 6) k ∧ vt_A s1 902 (B + 6) k = vt_A s 902 (B + 6) k ∧ vt_A s1 903 (B + 6) k = vt_A s 903 (B + 6) k ∧ vt_A s1 904 (B + 6) k = vt_A s 904 (B + 6) k ∧ vt_A s1 906 (B + 6) k = vt_A s 906 (B + 6) k
theorem c_ndRoom {s : vt_S} {K : Nat} (hL : ndL B s K) (h2 : 2 * K ≤ 16384) : ∃ s1, ab_X8_makeRoom (B + 6) (nI (2 * K)) s = some ((), s1) ∧ ndL B s1 (2 * K) ∧ rmP K (2 * K) s s1 ∧ vt_I s1 = vt_I s ∧ nkC B K s s1 := by
  obtain ⟨⟨l0, l1, l2, l3, l4, l5⟩, ⟨l6, l7⟩, ee, hee⟩ := hL
  obtain ⟨s1, a1, a2, a3, a4, a5, a6, a7, a8⟩ := growI2 (s := s) (f := 901) (a := B + 6) (n := 2 * K) (by omega) (by omega)
  have m1 : vt_L s1 902 (B + 6) = K := by rw [(a5 902 (B + 6) (by omega)).1]; exact l1
  obtain ⟨s2, b1, b2, b3, b4, b5, b6, b7, b8⟩ := growI2 (s := s1) (f := 902) (a := B + 6) (n := 2 * K) (by omega) (by omega)
  have m2 : vt_L s2 903 (B + 6) = K := by rw [(b5 903 (B + 6) (by omega)).1, (a5 903 (B + 6) (by omega)).1]; exact l2
  obtain ⟨s3, c1, c2, c3, c4, c5, c6, c7, c8⟩ := growI2 (s := s2) (f := 903) (a := B + 6) (n := 2 * K) (by omega) (by omega)
  have m3 : vt_L s3 904 (B + 6) = K := by rw [(c5 904 (B + 6) (by omega)).1, (b5 904 (B + 6) (by omega)).1, (a5 904 (B + 6) (by omega)).1]; exact l3
  obtain ⟨s4, d1, d2, d3, d4, d5, d6, d7, d8⟩ := growI2 (s := s3) (f := 904) (a := B + 6) (n := 2 * K) (by omega) (by omega)
  have m4 : vt_L s4 905 (B + 6) = K := by rw [(d5 905 (B + 6) (by omega)).1, (c5 905 (B + 6) (by omega)).1, (b5 905 (B + 6) (by omega)).1, (a5 905 (B + 6) (by omega)).1]; exact l4
  obtain ⟨s5, e1, e2, e3, e4, e5, e6, e7, e8⟩ := growI2 (s := s4) (f := 905) (a := B + 6) (n := 2 * K) (by omega) (by omega)
  have m5 : vt_L s5 906 (B + 6) = K := by rw [(e5 906 (B + 6) (by omega)).1, (d5 906 (B + 6) (by omega)).1, (c5 906 (B + 6) (by omega)).1, (b5 906 (B + 6) (by omega)).1, (a5 906 (B + 6) (by omega)).1]; exact l5
  obtain ⟨s6, f1, f2, f3, f4, f5, f6, f7, f8⟩ := growI2 (s := s5) (f := 906) (a := B + 6) (n := 2 * K) (by omega) (by omega)
  refine ⟨s6, ?_, ⟨⟨?_, ?_, ?_, ?_, ?_, f4⟩, ⟨by omega, by omega⟩, ee + 1, by rw [Nat.pow_succ]; omega⟩, ⟨by omega, by omega, by omega⟩, by rw [f6, e6, d6, c6, b6, a6], fun i hi => ⟨?_, ?_, ?_, ?_, ?_⟩⟩
  · unfold ab_X8_makeRoom
    rw [a1, obs, b1, obs, c1, obs, d1, obs, e1, obs, f1, obs]
  · rw [(f5 901 (B + 6) (by omega)).1, (e5 901 (B + 6) (by omega)).1, (d5 901 (B + 6) (by omega)).1, (c5 901 (B + 6) (by omega)).1, (b5 901 (B + 6) (by omega)).1]; exact a4
  · rw [(f5 902 (B + 6) (by omega)).1, (e5 902 (B + 6) (by omega)).1, (d5 902 (B + 6) (by omega)).1, (c5 902 (B + 6) (by omega)).1]; exact b4
  · rw [(f5 903 (B + 6) (by omega)).1, (e5 903 (B + 6) (by omega)).1, (d5 903 (B + 6) (by omega)).1]; exact c4
  · rw [(f5 904 (B + 6) (by omega)).1, (e5 904 (B + 6) (by omega)).1]; exact d4
  · rw [(f5 905 (B + 6) (by omega)).1]; exact e4
  · rw [(f5 901 (B + 6) (by omega)).2, (e5 901 (B + 6) (by omega)).2, (d5 901 (B + 6) (by omega)).2, (c5 901 (B + 6) (by omega)).2, (b5 901 (B + 6) (by omega)).2]; exact a8 i (by omega)
  · rw [(f5 902 (B + 6) (by omega)).2, (e5 902 (B + 6) (by omega)).2, (d5 902 (B + 6) (by omega)).2, (c5 902 (B + 6) (by omega)).2, b8 i (by omega), (a5 902 (B + 6) (by omega)).2]
  · rw [(f5 903 (B + 6) (by omega)).2, (e5 903 (B + 6) (by omega)).2, (d5 903 (B + 6) (by omega)).2, c8 i (by omega), (b5 903 (B + 6) (by omega)).2, (a5 903 (B + 6) (by omega)).2]
  · rw [(f5 904 (B + 6) (by omega)).2, (e5 904 (B + 6) (by omega)).2, d8 i (by omega), (c5 904 (B + 6) (by omega)).2, (b5 904 (B + 6) (by omega)).2, (a5 904 (B + 6) (by omega)).2]
  · rw [f8 i (by omega), (e5 906 (B + 6) (by omega)).2, (d5 906 (B + 6) (by omega)).2, (c5 906 (B + 6) (by omega)).2, (b5 906 (B + 6) (by omega)).2, (a5 906 (B + 6) (by omega)).2]
def dpC (B : Nat) (s : vt_S) (par : Option Nat) (dep base : Nat) : Prop := match par with
  | none => dep = 0
  | some k => k < base ∧ 1 ≤ dep ∧ vt_A s 906 (B + 6) k = nI (dep - 1)
theorem c_ndPut {s : vt_S} {KN base w dep : Nat} {par : Option Nat} (hL : ndL B s KN) (h1 : base < KN) (h2 : vt_I s 911 (B + 6) = nI base) (hd : dpC B s par dep base) : ∃ s1, ab_X8_addNode_22 (B + 6) (nI w) (pI par) s = some (nI base, s1) ∧ ndL B s1 KN ∧ vt_z s1 = vt_z s ∧ vt_l s1 = vt_l s ∧ vt_I s1 911 (B + 6) = nI (base + 1) ∧ nkC B base s s1 ∧ vt_A s1 901 (B + 6) base = nI w ∧ vt_A s1 904 (B + 6) base = nI 0 ∧ vt_A s1 906 (B + 6) base = nI dep := by
  have hL' := hL
  obtain ⟨⟨l0, l1, l2, l3, l4, l5⟩, ⟨l6, l7⟩, ee, hee⟩ := hL'
  obtain ⟨t, ht⟩ : ∃ t, t = vu_A (vu_A s 901 (B + 6) base (nI w)) 904 (B + 6) base (nI 0) := ⟨_, rfl⟩
  obtain ⟨u, hu⟩ : ∃ u, u = vu_A t 906 (B + 6) base (nI dep) := ⟨_, rfl⟩
  obtain ⟨x, hx⟩ : ∃ x, x = vu_I u 911 (B + 6) (nI (base + 1)) := ⟨_, rfl⟩
  have kx : vk [911] [901, 904, 906] [] (fun _ => True) s x := by
    rw [hx]
    refine vk.pI ?_ (by decide)
    rw [hu]
    refine vk.pA ?_ (by decide)
    rw [ht]
    exact vk.pA (vk.pA (vk.refl s) (by decide)) (by decide)
  have xL : ∀ f, vt_L x f (B + 6) = vt_L s f (B + 6) := fun f => kx.2.2.2.1 f _ (Or.inl (by intro z; cases z))
  have tL : vt_L t = vt_L s := by rw [ht, sL_A, sL_A]
  have tI : vt_I t = vt_I s := by rw [ht, sI_A, sI_A]
  have uI : vt_I u = vt_I s := by rw [hu, sI_A, tI]
  have xA : ∀ j, vt_A x 901 (B + 6) j = (if j = base then nI w else vt_A s 901 (B + 6) j) ∧ vt_A x 904 (B + 6) j = (if j = base then nI 0 else vt_A s 904 (B + 6) j) ∧ vt_A x 906 (B + 6) j = (if j = base then nI dep else vt_A s 906 (B + 6) j) := by
    intro j
    rw [hx, sA_I, hu, A_nf (show 901 ≠ 906 by decide), A_nf (show 904 ≠ 906 by decide), A_at, ht, A_nf (show 901 ≠ 904 by decide), A_at, A_at, A_nf (show 904 ≠ 901 by decide), A_nf (show 906 ≠ 904 by decide), A_nf (show 906 ≠ 901 by decide)]
    exact ⟨rfl, rfl, rfl⟩
  refine ⟨x, ?_, ⟨⟨by rw [xL]; exact l0, by rw [xL]; exact l1, by rw [xL]; exact l2, by rw [xL]; exact l3, by rw [xL]; exact l4, by rw [xL]; exact l5⟩, ⟨l6, l7⟩, ee, hee⟩, (kx.2.2.2.2 rfl).1, (kx.2.2.2.2 rfl).2, by rw [hx, I_at], fun k hk => ⟨?_, ?_, ?_, ?_, ?_⟩, ?_, ?_, ?_⟩
  · have fin : ab_X8_addNode_63 (B + 6) (nI base) (B + 6) (nI base) (nI dep) t = some (nI base, x) := by
      unfold ab_X8_addNode_63
      rw [vs_I_ok (by rw [tL]; omega) (by rw [tL]; omega), obs, ← hu, slet, uI, h2, nI_1, slet, ← hx]
    unfold ab_X8_addNode_22
    rw [slet, h2, vs_I_ok (by omega) (by omega), obs, vs_I_ok (by rw [sL_A]; omega) (by rw [sL_A]; omega), obs, show (0 : Int32) = nI 0 from rfl, ← ht]
    cases par with
    | none =>
      have hd : dep = 0 := hd
      rw [if_pos (show pI none = -1 from rfl), ← hd]
      exact fin
    | some k =>
      obtain ⟨d1, d2, d3⟩ := hd
      have t6 : vt_A t 906 (B + 6) k = nI (dep - 1) := by rw [ht, A_nf (by decide), A_nf (by decide)]; exact d3
      rw [if_neg (show ¬ pI (some k) = -1 from nI_m1 (by omega)), show pI (some k) = nI k from rfl, vl_I_ok (by rw [tL]; omega) (by rw [tL]; omega), obs, t6, nI_1, show dep - 1 + 1 = dep by omega]
      exact fin
  · rw [(xA k).1, if_neg (by omega)]
  · rw [kx.aA (by decide)]
  · rw [kx.aA (by decide)]
  · rw [(xA k).2.1, if_neg (by omega)]
  · rw [(xA k).2.2, if_neg (by omega)]
  · rw [(xA base).1, if_pos rfl]
  · rw [(xA base).2.1, if_pos rfl]
  · rw [(xA base).2.2, if_pos rfl]
theorem c_addNode {s : vt_S} {KN base w dep : Nat} {par : Option Nat} (hL : ndL B s KN) (hbK : base ≤ KN) (h8 : base < 16384) (h2 : vt_I s 911 (B + 6) = nI base) (hd : dpC B s par dep base) : ∃ s1 KN1, ab_X8_addNode (B + 6) (nI w) (pI par) s = some (nI base, s1) ∧ ndL B s1 KN1 ∧ base < KN1 ∧ rmP KN KN1 s s1 ∧ vt_I s1 911 (B + 6) = nI (base + 1) ∧ nkC B base s s1 ∧ vt_A s1 901 (B + 6) base = nI w ∧ vt_A s1 904 (B + 6) base = nI 0 ∧ vt_A s1 906 (B + 6) base = nI dep := by
  have hL' := hL
  obtain ⟨⟨l0, -⟩, ⟨l6, l7⟩, ee, hee⟩ := hL'
  unfold ab_X8_addNode
  rw [slet, slet, h2, l0]
  by_cases c : base = KN
  · have hK2 : 2 * KN ≤ 16384 := by
      by_cases z : ee ≤ 6
      · have : 2 ^ ee ≤ 2 ^ 6 := Nat.pow_le_pow_right (by decide) z
        omega
      · have : 2 ^ 7 ≤ 2 ^ ee := Nat.pow_le_pow_right (by decide) (by omega)
        omega
    obtain ⟨t, a1, a2, a3, a4, a5⟩ := c_ndRoom hL hK2
    have hdt : dpC B t par dep base := by
      cases par with
      | none => exact hd
      | some k => exact ⟨hd.1, hd.2.1, by rw [(a5 k (by have := hd.1; omega)).2.2.2.2]; exact hd.2.2⟩
    obtain ⟨s1, b1, b2, b3, b4, b5, b6, b7, b8, b9⟩ := c_ndPut (w := w) a2 (show base < 2 * KN by omega) (by rw [a4]; exact h2) hdt
    refine ⟨s1, 2 * KN, ?_, b2, by omega, a3.trans (rmP.same b3 b4), b5, fun k hk => ?_, b7, b8, b9⟩
    · rw [if_pos (by rw [c]; rfl), slet, show (2 : Int32) = nI 2 from rfl, pk_mul, c, a1, vbs, ← c]
      exact b1
    · obtain ⟨x1, x2, x3, x4, x5⟩ := b6 k hk
      obtain ⟨y1, y2, y3, y4, y5⟩ := a5 k (by omega)
      exact ⟨x1.trans y1, x2.trans y2, x3.trans y3, x4.trans y4, x5.trans y5⟩
  · obtain ⟨s1, b1, b2, b3, b4, b5, b6, b7, b8, b9⟩ := c_ndPut (w := w) hL (show base < KN by omega) h2 hd
    refine ⟨s1, KN, ?_, b2, by omega, rmP.same b3 b4, b5, b6, b7, b8, b9⟩
    rw [if_neg (show ¬ nI base = Int32.ofNat KN from fun z => c ((nI_eq (by omega) (by omega)).mp z))]
    exact b1
def ptrC (B : Nat) (par : Option Nat) (lf : Bool) (s : vt_S) (v : Int) : Prop := ∀ k, par = some k → vt_A s (if lf then 902 else 903) (B + 6) k = zI v
def pkN (B : Nat) (par : Option Nat) (lf : Bool) (s s1 : vt_S) (k : Nat) : Prop := (¬ (lf = true ∧ par = some k) → vt_A s1 902 (B + 6) k = vt_A s 902 (B + 6) k) ∧ (¬ (lf = false ∧ par = some k) → vt_A s1 903 (B + 6) k = vt_A s 903 (B + 6) k)
theorem c_hang {s : vt_S} {KN base : Nat} {par : Option Nat} {lf : Bool} (hL : ndL B s KN) (hb : base ≤ KN) (hp : ∀ k, par = some k → k < base) (v : Int) : ∃ s1, ab_X8_hang (B + 6) (zI v) (pI par) (bI lf) s = some ((), s1) ∧ vk [] [902, 903] [] (fun _ => True) s s1 ∧ ptrC B par lf s1 v ∧ ∀ k, pkN B par lf s s1 k := by
  obtain ⟨⟨l0, l1, l2, l3, l4, l5⟩, ⟨l6, l7⟩, -⟩ := hL
  unfold ab_X8_hang ab_X8_hang_27
  cases par with
  | none =>
    rw [if_pos (show pI none = -1 from rfl)]
    exact ⟨s, rfl, vk.refl s, (fun k hk => by cases hk), fun k => ⟨fun _ => rfl, fun _ => rfl⟩⟩
  | some q =>
    have hq := hp q rfl
    rw [if_neg (show ¬ pI (some q) = -1 from nI_m1 (by omega)), show pI (some q) = nI q from rfl]
    cases lf with
    | false =>
      rw [if_pos (show bI false = 0 from rfl), vs_I_ok (by omega) (by omega), obs]
      refine ⟨_, rfl, vk.pA (vk.refl s) (by decide), fun k hk => ?_, fun k => ⟨fun _ => by rw [A_nf (by decide)], fun h => ?_⟩⟩
      · cases hk
        rw [if_neg (by decide), A_at, if_pos rfl]
      · rw [A_at, if_neg (fun z => h ⟨rfl, by rw [z]⟩)]
    | true =>
      rw [if_neg (show ¬ bI true = 0 by decide), vs_I_ok (by omega) (by omega), obs]
      refine ⟨_, rfl, vk.pA (vk.refl s) (by decide), fun k hk => ?_, fun k => ⟨fun h => ?_, fun _ => by rw [A_nf (by decide)]⟩⟩
      · cases hk
        rw [if_pos rfl, A_at, if_pos rfl]
      · rw [A_at, if_neg (fun z => h ⟨rfl, by rw [z]⟩)]
def skL (B : Nat) (s : vt_S) : Prop := vt_L s 907 (B + 6) = 130 ∧ vt_L s 908 (B + 6) = 130 ∧ vt_L s 909 (B + 6) = 130
def skC (B : Nat) (s : vt_S) (t : Nat) (c : Int32) (par : Option Nat) (lf : Bool) : Prop := vt_A s 907 (B + 6) t = c ∧ vt_A s 908 (B + 6) t = pI par ∧ vt_A s 909 (B + 6) t = bI lf
def skK (B : Nat) (s s1 : vt_S) (j : Nat) : Prop := vt_A s1 907 (B + 6) j = vt_A s 907 (B + 6) j ∧ vt_A s1 908 (B + 6) j = vt_A s 908 (B + 6) j ∧ vt_A s1 909 (B + 6) j = vt_A s 909 (B + 6) j
theorem skK.trans {s s1 s2 : vt_S} {j : Nat} (h : skK B s s1 j) (k : skK B s1 s2 j) : skK B s s2 j := ⟨k.1.trans h.1, k.2.1.trans h.2.1, k.2.2.trans h.2.2⟩
theorem skK.sk {s s1 : vt_S} {j : Nat} {c : Int32} {par : Option Nat} {lf : Bool} (h : skK B s s1 j) (k : skC B s j c par lf) : skC B s1 j c par lf := ⟨h.1.trans k.1, h.2.1.trans k.2.1, h.2.2.trans k.2.2⟩
theorem c_open {s : vt_S} {t : Nat} {par : Option Nat} {lf : Bool} {c : Int32} (hL : skL B s) (h10 : vt_I s 910 (B + 6) = nI t) (ht : t < 130) : ∃ s1, ab_X8_open (B + 6) c (pI par) (bI lf) s = some ((), s1) ∧ vk [910] [907, 908, 909] [] (fun _ => True) s s1 ∧ vt_I s1 910 (B + 6) = nI (t + 1) ∧ skC B s1 t c par lf ∧ ∀ j, j ≠ t → skK B s s1 j := by
  obtain ⟨l7, l8, l9⟩ := hL
  obtain ⟨a, ha⟩ : ∃ u, u = vu_A s 907 (B + 6) t c := ⟨_, rfl⟩
  obtain ⟨b, hb⟩ : ∃ u, u = vu_A a 908 (B + 6) t (pI par) := ⟨_, rfl⟩
  obtain ⟨d, hd⟩ : ∃ u, u = vu_A b 909 (B + 6) t (bI lf) := ⟨_, rfl⟩
  obtain ⟨x, hx⟩ : ∃ u, u = vu_I d 910 (B + 6) (nI (t + 1)) := ⟨_, rfl⟩
  have aI : vt_I a = vt_I s := by rw [ha, sI_A]
  have bI' : vt_I b = vt_I s := by rw [hb, sI_A, aI]
  have dI : vt_I d = vt_I s := by rw [hd, sI_A, bI']
  have aL : vt_L a = vt_L s := by rw [ha, sL_A]
  have bL : vt_L b = vt_L s := by rw [hb, sL_A, aL]
  have xA : ∀ j, vt_A x 907 (B + 6) j = (if j = t then c else vt_A s 907 (B + 6) j) ∧ vt_A x 908 (B + 6) j = (if j = t then pI par else vt_A s 908 (B + 6) j) ∧ vt_A x 909 (B + 6) j = (if j = t then bI lf else vt_A s 909 (B + 6) j) := by
    intro j
    rw [hx, sA_I, hd, A_nf (show 907 ≠ 909 by decide), A_nf (show 908 ≠ 909 by decide), A_at, hb, A_nf (show 907 ≠ 908 by decide), A_at, A_nf (show 909 ≠ 908 by decide), ha, A_at, A_nf (show 908 ≠ 907 by decide), A_nf (show 909 ≠ 907 by decide)]
    exact ⟨rfl, rfl, rfl⟩
  have e : ab_X8_open (B + 6) c (pI par) (bI lf) s = some ((), x) := by
    unfold ab_X8_open ab_X8_open_50
    rw [slet, h10, if_neg (show ¬ (130 : Int32) ≤ nI t from nI_ge (b := 130) (by omega) (by omega)), slet, vs_I_ok (by omega) (by omega), obs, ← ha, slet, aI, h10, vs_I_ok (by rw [aL]; omega) (by rw [aL]; omega), obs, ← hb, slet, bI', h10, nar_b, vs_I_ok (by rw [bL]; omega) (by rw [bL]; omega), obs, ← hd, slet, dI, h10, nI_1, slet, ← hx]
  refine ⟨x, e, (vk_X8_open (O := fun _ => True) vclT trivial e).1, by rw [hx, I_at], ⟨?_, ?_, ?_⟩, fun j hj => ⟨?_, ?_, ?_⟩⟩
  · rw [(xA t).1, if_pos rfl]
  · rw [(xA t).2.1, if_pos rfl]
  · rw [(xA t).2.2, if_pos rfl]
  · rw [(xA j).1, if_neg hj]
  · rw [(xA j).2.1, if_neg hj]
  · rw [(xA j).2.2, if_neg hj]
end SN
