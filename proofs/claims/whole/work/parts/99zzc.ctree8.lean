-- TREE, the class: a whole list is worked off
section CR
variable {B p W : Nat} {g : Nat → Nat}
def cQ (B p : Nat) (g : Nat → Nat) (W : Nat) (s : vt_S) (K KN cnt base leaf ons : Nat) : Prop := pcQ B p g W s K cnt ∧ ndL B s KN ∧ base ≤ KN ∧ vt_I s 911 (B + 6) = nI base ∧ vt_I s 912 (B + 6) = nI leaf ∧ vt_I s 913 (B + 6) = nI ons ∧ skL B s
def ndC (B : Nat) (s : vt_S) (k : Nat) (N : ND) : Prop := vt_A s 901 (B + 6) k = nI N.1 ∧ vt_A s 904 (B + 6) k = nI N.2.1 ∧ vt_A s 906 (B + 6) k = nI N.2.2.1 ∧ vt_A s 902 (B + 6) k = zI N.2.2.2.1 ∧ vt_A s 903 (B + 6) k = zI N.2.2.2.2
def ndsC (B : Nat) (s : vt_S) : Nat → List ND → Prop
  | _, [] => True
  | k, N :: l => ndC B s k N ∧ ndsC B s (k + 1) l
theorem ndsC_app {s : vt_S} : ∀ (a b : List ND) (k : Nat), ndsC B s k a → ndsC B s (k + a.length) b → ndsC B s k (a ++ b)
  | [], b, k, _, h => h
  | N :: a, b, k, h1, h2 => ⟨h1.1, ndsC_app a b (k + 1) h1.2 (by rw [List.length_cons] at h2; rw [show k + 1 + a.length = k + (a.length + 1) by omega]; exact h2)⟩
theorem ndsC_cg {s s1 : vt_S} : ∀ (a : List ND) (k : Nat), (∀ j, k ≤ j → j < k + a.length → ∀ N, ndC B s j N → ndC B s1 j N) → ndsC B s k a → ndsC B s1 k a
  | [], _, _, _ => trivial
  | N :: a, k, h, h1 => by
    rw [List.length_cons] at h
    exact ⟨h k (by omega) (by omega) N h1.1, ndsC_cg a (k + 1) (fun j x y => h j (by omega) (by omega)) h1.2⟩
def n3C (B : Nat) (s s1 : vt_S) (k : Nat) : Prop := vt_A s1 901 (B + 6) k = vt_A s 901 (B + 6) k ∧ vt_A s1 904 (B + 6) k = vt_A s 904 (B + 6) k ∧ vt_A s1 906 (B + 6) k = vt_A s 906 (B + 6) k
theorem n3C.trans {s s1 s2 : vt_S} {k : Nat} (h : n3C B s s1 k) (q : n3C B s1 s2 k) : n3C B s s2 k := ⟨q.1.trans h.1, q.2.1.trans h.2.1, q.2.2.trans h.2.2⟩
def rmT (K K1 KN KN1 : Nat) (s s1 : vt_S) : Prop := K ≤ K1 ∧ KN ≤ KN1 ∧ vt_z s1 + 6 * K + 6 * KN ≤ vt_z s + 6 * K1 + 6 * KN1 ∧ vt_l s1 + 12 * K + 12 * KN ≤ vt_l s + 12 * K1 + 12 * KN1
theorem rmT.trans {K K1 K2 KN KN1 KN2 : Nat} {s s1 s2 : vt_S} (h : rmT K K1 KN KN1 s s1) (k : rmT K1 K2 KN1 KN2 s1 s2) : rmT K K2 KN KN2 s s2 := by
  obtain ⟨a1, a2, a3, a4⟩ := h
  obtain ⟨b1, b2, b3, b4⟩ := k
  exact ⟨by omega, by omega, by omega, by omega⟩
theorem rmT.same {K KN : Nat} {s s1 : vt_S} (h1 : vt_z s1 = vt_z s) (h2 : vt_l s1 = vt_l s) : rmT K K KN KN s s1 := ⟨Nat.le_refl _, Nat.le_refl _, by rw [h1]; exact Nat.le_refl _, by rw [h2]; exact Nat.le_refl _⟩
theorem rmP.nd {K KN KN1 : Nat} {s s1 : vt_S} (h : rmP KN KN1 s s1) : rmT K K KN KN1 s s1 := by
  obtain ⟨a1, a2, a3⟩ := h
  exact ⟨by omega, by omega, by omega, by omega⟩
theorem rmP.pc {K K1 KN : Nat} {s s1 : vt_S} (h : rmP K K1 s s1) : rmT K K1 KN KN s s1 := by
  obtain ⟨a1, a2, a3⟩ := h
  exact ⟨by omega, by omega, by omega, by omega⟩
def cFr (B cnt base t : Nat) (is : List Nat) (par : Option Nat) (lf : Bool) (K K1 KN KN1 : Nat) (s s1 : vt_S) : Prop := rmT K K1 KN KN1 s s1 ∧ (∀ i, i < cnt → i ∉ is → nxC B s s1 i) ∧ (∀ j, j < t → skK B s s1 j) ∧ (∀ k, k < base → n3C B s s1 k) ∧ ∀ k, k < base → pkN B par lf s s1 k
theorem cFr.nd {cnt base t K K1 KN KN1 : Nat} {is : List Nat} {par : Option Nat} {lf : Bool} {s s1 : vt_S} (h : cFr B cnt base t is par lf K K1 KN KN1 s s1) {j : Nat} (hj : j < base) (hp : par ≠ some j) {N : ND} (hN : ndC B s j N) : ndC B s1 j N := by
  obtain ⟨-, -, -, n3, pk⟩ := h
  obtain ⟨a1, a2, a3⟩ := n3 j hj
  obtain ⟨b1, b2⟩ := pk j hj
  obtain ⟨c1, c2, c3, c4, c5⟩ := hN
  exact ⟨a1.trans c1, a2.trans c2, a3.trans c3, (b1 (fun z => hp z.2)).trans c4, (b2 (fun z => hp z.2)).trans c5⟩
theorem nx_vk {s s1 : vt_S} {ws rs gs : List Nat} (k : vk ws rs gs (fun _ => True) s s1) (h : ∀ f, f ∈ [200, 201, 202, 203, 204, 205] → f ∉ rs) (j : Nat) : nxC B s s1 j := ⟨⟨by rw [k.aA (h 200 (by decide))], by rw [k.aB (h 202 (by decide))], by rw [k.aB (h 203 (by decide))], by rw [k.aB (h 204 (by decide))], by rw [k.aB (h 205 (by decide))]⟩, by rw [k.aA (h 201 (by decide))]⟩
theorem sk_vk {s s1 : vt_S} {ws rs gs : List Nat} (k : vk ws rs gs (fun _ => True) s s1) (h : ∀ f, f ∈ [907, 908, 909] → f ∉ rs) (j : Nat) : skK B s s1 j := ⟨by rw [k.aA (h 907 (by decide))], by rw [k.aA (h 908 (by decide))], by rw [k.aA (h 909 (by decide))]⟩
theorem n3_vk {s s1 : vt_S} {ws rs gs : List Nat} (k : vk ws rs gs (fun _ => True) s s1) (h : ∀ f, f ∈ [901, 904, 906] → f ∉ rs) (j : Nat) : n3C B s s1 j := ⟨by rw [k.aA (h 901 (by decide))], by rw [k.aA (h 904 (by decide))], by rw [k.aA (h 906 (by decide))]⟩
theorem pk_vk {s s1 : vt_S} {ws rs gs : List Nat} {par : Option Nat} {lf : Bool} (k : vk ws rs gs (fun _ => True) s s1) (h : ∀ f, f ∈ [902, 903] → f ∉ rs) (j : Nat) : pkN B par lf s s1 j := ⟨fun _ => by rw [k.aA (h 902 (by decide))], fun _ => by rw [k.aA (h 903 (by decide))]⟩
theorem skL_vk {s s1 : vt_S} {ws rs gs : List Nat} (h : skL B s) (k : vk ws rs gs (fun _ => True) s s1) (hg : ∀ f, f ∈ [907, 908, 909] → f ∉ gs) : skL B s1 := by
  have e : ∀ f, f ∈ [907, 908, 909] → vt_L s1 f (B + 6) = vt_L s f (B + 6) := fun f hf => k.2.2.2.1 f _ (Or.inl (hg f hf))
  exact ⟨by rw [e 907 (by decide)]; exact h.1, by rw [e 908 (by decide)]; exact h.2.1, by rw [e 909 (by decide)]; exact h.2.2⟩
theorem ndL_vk {s s1 : vt_S} {ws rs gs : List Nat} {KN : Nat} (h : ndL B s KN) (k : vk ws rs gs (fun _ => True) s s1) (hg : ∀ f, f ∈ [901, 902, 903, 904, 905, 906] → f ∉ gs) : ndL B s1 KN := by
  have e : ∀ f, f ∈ [901, 902, 903, 904, 905, 906] → vt_L s1 f (B + 6) = vt_L s f (B + 6) := fun f hf => k.2.2.2.1 f _ (Or.inl (hg f hf))
  unfold ndL
  rw [e 901 (by decide), e 902 (by decide), e 903 (by decide), e 904 (by decide), e 905 (by decide), e 906 (by decide)]
  exact h
theorem pcL_vk {s s1 : vt_S} {ws rs gs : List Nat} {K : Nat} (h : pcL B s K) (k : vk ws rs gs (fun _ => True) s s1) (hg : ∀ f, f ∈ [200, 201, 202, 203, 204, 205] → f ∉ gs) : pcL B s1 K := by
  have e : ∀ f, f ∈ [200, 201, 202, 203, 204, 205] → vt_L s1 f (B + 7) = vt_L s f (B + 7) := fun f hf => k.2.2.2.1 f _ (Or.inl (hg f hf))
  unfold pcL
  rw [e 200 (by decide), e 201 (by decide), e 202 (by decide), e 203 (by decide), e 204 (by decide), e 205 (by decide)]
  exact h
theorem pcQ_vk {s s1 : vt_S} {ws rs gs : List Nat} {K cnt : Nat} (h : pcQ B p g W s K cnt) (k : vk ws rs gs (fun _ => True) s s1) (hT : cTw B p g W s1) (h6 : 206 ∉ ws) (hg : ∀ f, f ∈ [200, 201, 202, 203, 204, 205] → f ∉ gs) : pcQ B p g W s1 K cnt := ⟨hT, pcL_vk h.2.1 k hg, h.2.2.1, h.2.2.2.1, by rw [k.eI h6]; exact h.2.2.2.2⟩
theorem nI_lt32 {j : Nat} (h : j ≤ 32768) : ¬ (32768 : Int32) < nI j := by
  rw [show (32768 : Int32) = zI 32768 from rfl, nI_z, zI_lt (by omega) (by omega) (by omega) (by omega)]
  omega
/-- the top of the stack is taken -/
theorem cT_pop {s : vt_S} {t j : Nat} {par : Option Nat} {lf : Bool} {c : Int32} (hL : skL B s) (ht : t < 130) (h10 : vt_I s 910 (B + 6) = nI (t + 1)) (hE : skC B s t c par lf) (hj : j ≤ 32768) (fu : Nat) : ∃ u, u = vu_I s 910 (B + 6) (nI t) ∧ ab_X8_grow_39 (fu + 1) (B + 6) p (nI j) s = if c = -1 then sv_let (vt_I u 912 (B + 6)) (fun v23 => vt_b (ab_X8_hang (B + 6) (-1 - v23) (pI par) (bI lf) u) fun _ h24 => sv_let (vt_I h24 912 (B + 6)) fun v25 => sv_let (vu_I h24 912 (B + 6) (v25 + 1)) fun h26 => ab_X8_grow_39 fu (B + 6) p (nI (j + 1)) h26) else vt_b (ab_X8_bestLine (B + 6) p c u) fun r13 h14 => vt_b (ab_X8_addNode (B + 6) r13 (pI par) h14) fun r15 h16 => vt_b (ab_X8_hang (B + 6) r15 (pI par) (bI lf) h16) fun _ h17 => vt_b (ab_X8_split (B + 6) p c r15 h17) fun _ h18 => sv_let (vt_I h18 916 (B + 6)) fun v19 => vt_b (ab_X8_open (B + 6) v19 r15 0 h18) fun _ h20 => sv_let (vt_I h20 914 (B + 6)) fun v21 => vt_b (ab_X8_open (B + 6) v21 r15 1 h20) fun _ h22 => ab_X8_grow_39 fu (B + 6) p (nI (j + 1)) h22 := by
  obtain ⟨l7, l8, l9⟩ := hL
  obtain ⟨e1, e2, e3⟩ := hE
  obtain ⟨u, hu⟩ : ∃ u, u = vu_I s 910 (B + 6) (nI t) := ⟨_, rfl⟩
  have uL : vt_L u = vt_L s := by rw [hu, sL_I]
  have uA : vt_A u = vt_A s := by rw [hu, sA_I]
  have uI : vt_I u 910 (B + 6) = nI t := by rw [hu, I_at]
  refine ⟨u, hu, ?_⟩
  show ab_X8_grow_39b _ (B + 6) p (nI j) s = _
  unfold ab_X8_grow_39b ab_X8_grow_180
  rw [if_neg (nI_lt32 hj), slet, h10, if_neg (show ¬ nI (t + 1) ≤ 0 from nI_ge (a := 0) (b := t + 1) (by omega) (by omega)), slet, (z_down t).1, slet, ← hu, slet, uI, vl_I_ok (by rw [uL]; omega) (by rw [uL]; omega), obs, slet, vl_I_ok (by rw [uL]; omega) (by rw [uL]; omega), obs, slet, vl_I_ok (by rw [uL]; omega) (by rw [uL]; omega), obs, uA, e1, e2, e3, nI_1]
theorem c_run_nil (m dep base leaf cnt ons t K KN : Nat) (c0 : Int32) (is : List Nat) (par : Option Nat) (lf : Bool) (s : vt_S) (hQ : cQ B p g W s K KN cnt base leaf ons) (h10 : vt_I s 910 (B + 6) = nI (t + 1)) (hE : skC B s t c0 par lf) (hch : chC B s c0 is []) (hd : dpC B s par dep base) (b5 : t < 130) : ∃ s1 K1 KN1 k, k ≤ 2 * (bld g m [] dep base leaf).1.length + 1 ∧ (∀ fu j, j + k ≤ 32768 → ab_X8_grow_39 (fu + k) (B + 6) p (nI j) s = ab_X8_grow_39 fu (B + 6) p (nI (j + k)) s1) ∧ cQ B p g W s1 K1 KN1 (cnt + bcut g m []) (base + (bld g m [] dep base leaf).1.length) (leaf + (bld g m [] dep base leaf).2) (ons + 0 + bcut g m []) ∧ vt_I s1 910 (B + 6) = nI t ∧ ndsC B s1 base (bld g m [] dep base leaf).1 ∧ ptrC B par lf s1 (ptrT [] base leaf) ∧ cFr B cnt base t is par lf K K1 KN KN1 s s1 := by
  have e1 : bld g m [] dep base leaf = ([], 1) := by cases m <;> rfl
  have e2 : bcut g m [] = 0 := by cases m <;> rfl
  rw [e1, e2]
  obtain ⟨q1, q2, q3, q4, q5, q6, q7⟩ := hQ
  obtain ⟨-, ec⟩ := chC_nil hch
  obtain ⟨u, hu⟩ : ∃ u, u = vu_I s 910 (B + 6) (nI t) := ⟨_, rfl⟩
  have ku : vk [910] [] [] (fun _ => True) s u := by rw [hu]; exact vk.pI (vk.refl s) (by decide)
  have hpar : ∀ k, par = some k → k < base := fun k hk => by rw [hk] at hd; exact hd.1
  have u12 : vt_I u 912 (B + 6) = nI leaf := by rw [ku.eI (by decide)]; exact q5
  have eL : (-1 : Int32) - nI leaf = zI (-1 - (leaf : Int)) := by rw [show (-1 : Int32) = zI (-1) from rfl, nI_z, zI_sub]
  obtain ⟨s1, a1, a2, a3, a4⟩ := c_hang (lf := lf) (ndL_vk q2 ku (by decide)) q3 hpar (-1 - (leaf : Int))
  obtain ⟨s2, hs2⟩ : ∃ u, u = vu_I s1 912 (B + 6) (nI (leaf + 1)) := ⟨_, rfl⟩
  have k2' : vk [912] [] [] (fun _ => True) s1 s2 := by rw [hs2]; exact vk.pI (vk.refl s1) (by decide)
  have k2 : vk [910, 912] [902, 903] [] (fun _ => True) s s2 := ((ku.weak (by decide) (by decide) (by decide)).trans (a2.weak (by decide) (by decide) (by decide))).trans (k2'.weak (by decide) (by decide) (by decide))
  have A2 : vt_A s2 = vt_A s1 := by rw [hs2, sA_I]
  have Au : vt_A u = vt_A s := by rw [hu, sA_I]
  have z12 : vt_I s1 912 (B + 6) = nI leaf := by rw [a2.eI (by intro z; cases z)]; exact u12
  have kz := k2.2.2.2.2 rfl
  refine ⟨s2, K, KN, 1, by decide, fun fu j hj => ?_, ⟨pcQ_vk q1 k2 (k2.keep0 (P := cTw B p g W) q1.1) (by decide) (by decide), ndL_vk q2 k2 (by decide), q3, by rw [k2.eI (by decide)]; exact q4, by rw [hs2, I_at], by rw [k2.eI (by decide)]; exact q6, skL_vk q7 k2 (by decide)⟩, ?_, trivial, fun k hk => ?_, rmT.same kz.1 kz.2, fun i _ _ => nx_vk k2 (by decide) i, fun j _ => sk_vk k2 (by decide) j, fun k _ => n3_vk k2 (by decide) k, fun k _ => ?_⟩
  · obtain ⟨u', hu', st⟩ := cT_pop (p := p) (j := j) q7 b5 h10 hE (by omega) fu
    rw [← hu] at hu'
    rw [st, hu', if_pos ec, slet, u12, eL, a1, vbs, slet, z12, nI_1, slet, ← hs2]
  · rw [k2'.eI (by decide), a2.eI (by intro z; cases z), hu, I_at]
  · rw [A2]
    exact a3 k hk
  · have x := a4 k
    unfold pkN at x ⊢
    rw [Au] at x
    rw [A2]
    exact x
end CR
