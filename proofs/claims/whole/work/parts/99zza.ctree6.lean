-- TREE, the class: the loop that splits a chain
section SL
variable {B p W : Nat} {g : Nat → Nat}
def spX (g : Nat → Nat) (v : Nat) (b : Bool) (l : List PCE) : List PCE := spS g v (if b then 1 else -1) l
def outX (is : List Nat) (X : Bool → List Nat) (j : Nat) : Prop := j ∉ is ∧ ∀ b, j ∉ X b
theorem rmP.trans {K K1 K2 : Nat} {s s1 s2 : vt_S} (h : rmP K K1 s s1) (k : rmP K1 K2 s1 s2) : rmP K K2 s s2 := by
  obtain ⟨a1, a2, a3⟩ := h
  obtain ⟨b1, b2, b3⟩ := k
  exact ⟨by omega, by omega, by omega⟩
theorem rmP.same {K : Nat} {s s1 : vt_S} (h1 : vt_z s1 = vt_z s) (h2 : vt_l s1 = vt_l s) : rmP K K s s1 := ⟨Nat.le_refl _, by rw [h1]; exact Nat.le_refl _, by rw [h2]; exact Nat.le_refl _⟩
/-- a chain whose cells stay -/
theorem chC_nx {s s1 : vt_S} {c : Int32} {is : List Nat} {l : List PCE} (h : chC B s c is l) (k : ∀ i, i ∈ is → nxC B s s1 i) : chC B s1 c is l := chC_cg is l c (fun i hi => k i hi) h
theorem acs_nx {s s1 : vt_S} {X : Bool → List Nat} {Y : Bool → List PCE} (h : acs B s X Y) (hI : ∀ f, f ∈ [914, 915, 916, 917] → vt_I s1 f (B + 6) = vt_I s f (B + 6)) (k : ∀ b i, i ∈ X b → nxC B s s1 i) : acs B s1 X Y := fun b => acC_cg (h b) (hI _ (by cases b <;> decide)) (hI _ (by cases b <;> decide)) (fun i hi => k b i hi)
theorem c_on1 {s : vt_S} {K cnt KN node o ons : Nat} {is : List Nat} {X : Bool → List Nat} {Y : Bool → List PCE} {c0 : Int32} {l : List PCE} (hQ : pcQ B p g W s K cnt) (hN : ndQ B s KN node o ons) (hac : acs B s X Y) (hch : chC B s c0 is l) : ∃ s1, s1 = vu_I (vu_A s 904 (B + 6) node (nI (o + 1))) 913 (B + 6) (nI (ons + 1)) ∧ pcQ B p g W s1 K cnt ∧ ndQ B s1 KN node (o + 1) (ons + 1) ∧ acs B s1 X Y ∧ chC B s1 c0 is l ∧ (∀ j, nxC B s s1 j) ∧ (∀ j, j ≠ node → vt_A s1 904 (B + 6) j = vt_A s 904 (B + 6) j) ∧ vt_z s1 = vt_z s ∧ vt_l s1 = vt_l s := by
  obtain ⟨s1, hs⟩ : ∃ u, u = vu_I (vu_A s 904 (B + 6) node (nI (o + 1))) 913 (B + 6) (nI (ons + 1)) := ⟨_, rfl⟩
  have k : vk [913] [904] [] (fun _ => True) s s1 := by rw [hs]; exact vk.pI (vk.pA (vk.refl s) (by decide)) (by decide)
  have sA : vt_A s1 = vt_A (vu_A s 904 (B + 6) node (nI (o + 1))) := by rw [hs, sA_I]
  have nx : ∀ j, nxC B s s1 j := fun j => ⟨⟨by rw [k.aA (by decide)], by rw [k.aB (by decide)], by rw [k.aB (by decide)], by rw [k.aB (by decide)], by rw [k.aB (by decide)]⟩, by rw [k.aA (by decide)]⟩
  refine ⟨s1, hs, hQ.vk k (k.keep0 (P := cTw B p g W) hQ.1) (by decide), ⟨?_, ?_, ?_⟩, acs_nx hac (fun f hf => k.eI (fun z => ?_)) (fun _ i _ => nx i), chC_nx hch (fun i _ => nx i), nx, fun j hj => ?_, (k.2.2.2.2 rfl).1, (k.2.2.2.2 rfl).2⟩
  · rw [k.2.2.2.1 904 _ (Or.inl (by intro z; cases z))]; exact hN.1
  · rw [sA, A_at, if_pos rfl]
  · rw [hs, I_at]
  · have z : f = 913 := by simpa using z
    rw [z] at hf
    exact absurd hf (by decide)
  · rw [sA, A_at, if_neg hj]
theorem c_split_loop {v node KN : Nat} (hv : v < W) (hn : node < KN) (hKN : KN ≤ 16384) : ∀ (l : List PCE) (is : List Nat) (c0 : Int32) (j fu cnt K o ons : Nat) (X : Bool → List Nat) (Y : Bool → List PCE) (s : vt_S), j + l.length ≤ 128 → l.length < fu → pcQ B p g W s K cnt → ndQ B s KN node o ons → cnt + cutN g v l ≤ 16384 → pcs W l → chC B s c0 is l → djL is X → inX cnt is X → acs B s X Y → ∃ s1 K1 X1, ab_X8_split_29 fu (B + 6) p (nI node) (p + 43 + 2 * v) c0 (nI j) s = some ((), s1) ∧ pcQ B p g W s1 K1 (cnt + cutN g v l) ∧ ndQ B s1 KN node (o + onN g v l) (ons + onN g v l) ∧ rmP K K1 s s1 ∧ djL [] X1 ∧ inX (cnt + cutN g v l) [] X1 ∧ acs B s1 X1 (fun b => Y b ++ spX g v b l) ∧ (∀ b i, i ∈ X1 b → i < cnt → i ∈ is ∨ ∃ b, i ∈ X b) ∧ (∀ j, j < cnt → outX is X j → nxC B s s1 j) ∧ (∀ j, j ≠ node → vt_A s1 904 (B + 6) j = vt_A s 904 (B + 6) j) := by
  intro l
  induction l with
  | nil =>
    intro is c0 j fu cnt K o ons X Y s hj hf hQ hN hc hp hch hd hx ha
    obtain ⟨fu, rfl⟩ : ∃ q, fu = q + 1 := ⟨fu - 1, by have : ([] : List PCE).length = 0 := rfl; omega⟩
    rw [List.length_nil] at hj
    obtain ⟨e1, e2⟩ := chC_nil hch
    have eY : (fun b => Y b ++ spX g v b []) = Y := by
      funext b
      exact List.append_nil _
    refine ⟨s, K, X, ?_, hQ, hN, rmP.same rfl rfl, ?_, ?_, ?_, fun b i hi _ => Or.inr ⟨b, hi⟩, fun j _ _ => ⟨⟨rfl, rfl, rfl, rfl, rfl⟩, rfl⟩, fun _ _ => rfl⟩
    · show ab_X8_split_29b _ (B + 6) p (nI node) (p + 43 + 2 * v) c0 (nI j) s = _
      unfold ab_X8_split_29b ab_X8_split_174
      rw [if_neg (show ¬ (16384 : Int32) ≤ nI j from nI_ge (b := 16384) (by omega) (by omega)), if_pos e2]
    · rw [e1] at hd; exact hd
    · rw [e1] at hx; exact hx
    · rw [eY]; exact ha
  | cons P l ih =>
    intro is c0 j fu cnt K o ons X Y s hj hf hQ hN hc hp hch hd hx ha
    rw [List.length_cons] at hj hf
    obtain ⟨fu, rfl⟩ : ∃ q, fu = q + 1 := ⟨fu - 1, by omega⟩
    obtain ⟨i, js, e1, e2, e3, e4⟩ := chC_cons hch
    subst e1
    have hiC := hx.1 i List.mem_cons_self
    have hP := hp P List.mem_cons_self
    have hpl : pcs W l := fun Q hQ => hp Q (List.mem_cons_of_mem _ hQ)
    have hQ' := hQ
    obtain ⟨hT, hL, hK, hcK, h206⟩ := hQ'
    have hL' := hL
    obtain ⟨⟨l0, l1, -⟩, l6, l7⟩ := hL'
    have eC : cutN g v (P :: l) = (if lyP g v P = 2 then 1 else 0) + cutN g v l := rfl
    have eO : onN g v (P :: l) = (if lyP g v P = 0 then 1 else 0) + onN g v l := rfl
    have eS : ∀ b, spX g v b (P :: l) = if lyP g v P = 2 then ptS g v (if b then 1 else -1) P :: spX g v b l else if lyP g v P = (if b then 1 else -1) then P :: spX g v b l else spX g v b l := fun _ => rfl
    have hnj : i ∉ js := (List.nodup_cons.mp hd.1).1
    have hnX : ∀ b, i ∉ X b := fun b => hd.2.2.1 b i List.mem_cons_self
    have hdj : djL js X := ⟨(List.nodup_cons.mp hd.1).2, hd.2.1, fun b q hq => hd.2.2.1 b q (List.mem_cons_of_mem _ hq), hd.2.2.2⟩
    have hxj : inX cnt js X := ⟨fun q hq => hx.1 q (List.mem_cons_of_mem _ hq), hx.2⟩
    obtain ⟨c1, hc1⟩ : ∃ c, c = vt_A s 201 (B + 7) i := ⟨_, rfl⟩
    rw [← hc1] at e4
    have lie := cT_lie hT hL hv (show i < K by omega) e3 hP.1 hP.2
    have st : ab_X8_split_29 (fu + 1) (B + 6) p (nI node) (p + 43 + 2 * v) c0 (nI j) s = ab_X8_split_29b (ab_X8_split_29 fu) (B + 6) p (nI node) (p + 43 + 2 * v) c0 (nI j) s := rfl
    rw [st]
    unfold ab_X8_split_29b ab_X8_split_164
    rw [if_neg (show ¬ (16384 : Int32) ≤ nI j from nI_ge (b := 16384) (by omega) (by omega)), e2, if_neg (nI_m1 (by omega)), slet, hT.2.2, vl_I_ok (by omega) (by omega), obs, slet, lie, vbs, show (0 : Int32) = zI 0 from rfl, show (2 : Int32) = zI 2 from rfl, ifc (ly_I 0 (by omega)), ifc (ly_I 2 (by omega)), ← hc1]
    have key : ∀ (s2 : vt_S) (K2 cnt2 o2 ons2 : Nat) (X2 : Bool → List Nat) (Y2 : Bool → List PCE), pcQ B p g W s2 K2 cnt2 → ndQ B s2 KN node o2 ons2 → cnt2 + cutN g v l = cnt + cutN g v (P :: l) → o2 + onN g v l = o + onN g v (P :: l) → ons2 + onN g v l = ons + onN g v (P :: l) → chC B s2 c1 js l → djL js X2 → inX cnt2 js X2 → acs B s2 X2 Y2 → rmP K K2 s s2 → (∀ b, Y2 b ++ spX g v b l = Y b ++ spX g v b (P :: l)) → (∀ b q, q ∈ X2 b → q < cnt → q = i ∨ q ∈ X b) → (∀ q, q < cnt → outX (i :: js) X q → nxC B s s2 q) → (∀ q, q ≠ node → vt_A s2 904 (B + 6) q = vt_A s 904 (B + 6) q) → cnt ≤ cnt2 → ∃ s1 K1 X1, ab_X8_split_29 fu (B + 6) p (nI node) (p + 43 + 2 * v) c1 (nI j + 1) s2 = some ((), s1) ∧ pcQ B p g W s1 K1 (cnt + cutN g v (P :: l)) ∧ ndQ B s1 KN node (o + onN g v (P :: l)) (ons + onN g v (P :: l)) ∧ rmP K K1 s s1 ∧ djL [] X1 ∧ inX (cnt + cutN g v (P :: l)) [] X1 ∧ acs B s1 X1 (fun b => Y b ++ spX g v b (P :: l)) ∧ (∀ b q, q ∈ X1 b → q < cnt → q ∈ i :: js ∨ ∃ b, q ∈ X b) ∧ (∀ j, j < cnt → outX (i :: js) X j → nxC B s s1 j) ∧ (∀ j, j ≠ node → vt_A s1 904 (B + 6) j = vt_A s 904 (B + 6) j) := by
      intro s2 K2 cnt2 o2 ons2 X2 Y2 z1 z2 z3 z4 z5 z6 z7 z8 z9 z10 z11 z12 z13 z14 z15
      obtain ⟨s1, K1, X1, y1, y2, y3, y4, y5, y6, y7, y8, y9, y10⟩ := ih js c1 (j + 1) fu cnt2 K2 o2 ons2 X2 Y2 s2 (by omega) (by omega) z1 z2 (by omega) hpl z6 z7 z8 z9
      rw [z3] at y2 y6
      rw [z4, z5] at y3
      refine ⟨s1, K1, X1, by rw [nI_1]; exact y1, y2, y3, z10.trans y4, y5, y6, ?_, fun b q hq hqc => ?_, fun q hq ho => (z13 q hq ho).trans (y9 q (by omega) ⟨fun z => ho.1 (List.mem_cons_of_mem _ z), fun b z => ?_⟩), fun q hq => (y10 q hq).trans (z14 q hq)⟩
      · rw [show (fun b => Y b ++ spX g v b (P :: l)) = fun b => Y2 b ++ spX g v b l from funext (fun b => (z11 b).symm)]
        exact y7
      · rcases y8 b q hq (by omega) with w | ⟨b2, w⟩
        · exact Or.inl (List.mem_cons_of_mem _ w)
        · rcases z12 b2 q w hqc with u | u
          · rw [u]; exact Or.inl List.mem_cons_self
          · exact Or.inr ⟨b2, u⟩
      · rcases z12 b q z hq with u | u
        · exact ho.1 (by rw [u]; exact List.mem_cons_self)
        · exact ho.2 b u
    by_cases k0 : lyP g v P = 0
    · rw [if_pos k0]
      obtain ⟨s2, a1, a2, a3, a4, a5, a6, a7, a8, a9⟩ := c_on1 hQ hN ha e4
      obtain ⟨n1, n2, n3⟩ := id hN
      have eI : ∀ i w, vt_I (vu_A s 904 (B + 6) i w) = vt_I s := fun _ _ => Eq.trans rfl rfl
      rw [vl_I_ok (by omega) (by omega), obs, n2, nI_1, vs_I_ok (by omega) (by omega), obs, slet, eI, n3, nI_1, slet, ← a1]
      rw [eC, eO, k0, if_neg (show ¬ (0 : Int) = 2 by decide), if_pos (show (0 : Int) = 0 from rfl)] at key
      have eS0 : ∀ b, spX g v b (P :: l) = spX g v b l := fun b => by rw [eS, k0, if_neg (by decide), if_neg (by cases b <;> decide)]
      rw [eC, eO, k0, if_neg (show ¬ (0 : Int) = 2 by decide), if_pos (show (0 : Int) = 0 from rfl)]
      exact key s2 K cnt (o + 1) (ons + 1) X Y a2 a3 (by omega) (by omega) (by omega) a5 hdj hxj a4 (rmP.same a8 a9) (fun b => by rw [eS0]) (fun b q hq _ => Or.inr hq) (fun q _ _ => a6 q) a7 (Nat.le_refl _)
    rw [if_neg k0]
    by_cases k2 : lyP g v P = 2
    · rw [if_pos k2, slet, hT.2.2]
      have eC1 : cutN g v (P :: l) = 1 + cutN g v l := by rw [eC, if_pos k2]
      have eO1 : onN g v (P :: l) = onN g v l := by rw [eO, if_neg k0, Nat.zero_add]
      have eS1 : ∀ b, spX g v b (P :: l) = ptS g v (if b then 1 else -1) P :: spX g v b l := fun b => by rw [eS, if_pos k2]
      obtain ⟨s2, K2, a1, a2, a3, a4, a5, a6, a7, a8, a9, a10, a11⟩ := c_pcCut hT hL h206 hcK (by omega) hK hv hiC e3 hP.1 hP.2
      have kv := (vk_X1_cut (O := fun _ => True) vclT trivial trivial trivial a1).1
      have T2 : cTw B p g W s2 := kv.keep (P := cTw B p g W) hT
      obtain ⟨left, f1, f2, f3, f4⟩ := ly_cut (g := g) hP.1 k2
      obtain ⟨g1, g2⟩ := cutF_ok (g := g) hP.1 k2
      have Q2 : pcQ B p g W s2 K2 (cnt + 1) := ⟨T2, a2, a3, by omega, a6⟩
      have N2 : ndQ B s2 KN node o ons := ⟨by rw [kv.2.2.2.1 904 _ (Or.inl (by decide))]; exact hN.1, by rw [kv.aA (by decide)]; exact hN.2.1, by rw [kv.eI (by decide)]; exact hN.2.2⟩
      have nx2 : ∀ q, q < cnt → q ≠ i → nxC B s s2 q := fun q h1 h2 => ⟨a7 q h1 h2, a8 q h1⟩
      have ac2 : acs B s2 X Y := acs_nx ha (fun f hf => kv.eI (fun z => by
        have z : f = 206 := by simpa using z
        rw [z] at hf
        exact absurd hf (by decide))) (fun b q hq => nx2 q (hx.2 b q hq) (fun z => hnX b (by rw [← z]; exact hq)))
      have ch2 : chC B s2 c1 js l := chC_nx e4 (fun q hq => nx2 q (hxj.1 q hq) (fun z => hnj (by rw [← z]; exact hq)))
      have x2 : inX (cnt + 1) js X := ⟨fun q hq => by have := hxj.1 q hq; omega, fun b q hq => by have := hxj.2 b q hq; omega⟩
      have lie2 := cT_lie T2 a2 hv (show i < K2 by omega) a9 g1 hP.2
      rw [f1] at lie2
      obtain ⟨s3, b1, b2, b3, b4, b5, b6, b7, b8, b9, b10, b11⟩ := c_app1 (left := left) Q2 N2 (show i < cnt + 1 by omega) hdj hnj hnX x2 a9 ac2
      have p3 : pvC B s3 cnt (cutT g v P) := (b7 cnt).pv a10
      have lie3 := cT_lie b2.1 b2.2.1 hv (show cnt < K2 by omega) p3 g2 hP.2
      rw [f2] at lie3
      have cj : cnt ∉ js := fun z => by have := hxj.1 cnt z; omega
      have cX : ∀ b, cnt ∉ apX X left i b := fun b z => by
        rcases apX_mem.mp z with w | ⟨-, w⟩
        · have := hxj.2 b cnt w; omega
        · omega
      obtain ⟨s4, d1, d2, d3, d4, d5, d6, d7, d8, d9, d10, d11⟩ := c_app1 (left := !left) b2 b3 (show cnt < cnt + 1 by omega) b4 cj cX b5 p3 b6
      rw [a1, vbs, slet, T2.2.2, lie2, vbs, b1, vbs, slet, b2.1.2.2, lie3, vbs, d1, vbs]
      have nx4 : ∀ q, q < cnt → q ≠ i → (∀ b, q ∉ X b) → nxC B s s4 q := fun q h1 h2 h3 => ((nx2 q h1 h2).trans (b8 q h2 h3)).trans (d8 q (by omega) (fun b z => by
        rcases apX_mem.mp z with w | ⟨-, w⟩
        · exact h3 b w
        · exact h2 w))
      have ch4 : chC B s4 c1 js l := by
        have ch3 : chC B s3 c1 js l := chC_nx ch2 (fun q hq => b8 q (fun z => hnj (by rw [← z]; exact hq)) (fun b => hdj.2.2.1 b q hq))
        exact chC_nx ch3 (fun q hq => d8 q (fun z => cj (by rw [← z]; exact hq)) (fun b => b4.2.2.1 b q hq))
      refine key s4 K2 (cnt + 1) o ons _ _ d2 d3 (by omega) (by omega) (by omega) ch4 d4 d5 d6 (a5.trans ((rmP.same b10 b11).trans (rmP.same d10 d11))) (fun b => ?_) (fun b q hq hqc => ?_) (fun q h1 h2 => nx4 q h1 (fun z => h2.1 (by rw [z]; exact List.mem_cons_self)) h2.2) (fun q hq => ?_) (by omega)
      · rw [eS1]
        by_cases c : b = left
        · subst c
          have e5 : apX (apX Y b (cutF g v P)) (!b) (cutT g v P) b = Y b ++ [cutF g v P] := by
            unfold apX
            rw [if_neg (by cases b <;> decide), if_pos rfl]
          rw [e5, f3, List.append_assoc]; rfl
        · have c' := not_ne b left c
          have e5 : apX (apX Y left (cutF g v P)) (!left) (cutT g v P) b = Y b ++ [cutT g v P] := by
            unfold apX
            rw [if_pos c', if_neg c]
          rw [← c'] at f4
          rw [e5, f4, List.append_assoc]; rfl
      · rcases apX_mem.mp hq with w | ⟨-, w⟩
        · rcases apX_mem.mp w with u | ⟨-, u⟩
          · exact Or.inr u
          · exact Or.inl u
        · omega
      · rw [d9, b9, kv.aA (by decide)]
    · rw [if_neg k2]
      have eC1 : cutN g v (P :: l) = cutN g v l := by rw [eC, if_neg k2, Nat.zero_add]
      have eO1 : onN g v (P :: l) = onN g v l := by rw [eO, if_neg k0, Nat.zero_add]
      obtain ⟨left, hl⟩ : ∃ left : Bool, lyP g v P = if left then 1 else -1 := by
        rcases lyP_rng g v P with c | c | c | c
        · exact absurd c k2
        · exact ⟨true, c⟩
        · exact absurd c k0
        · exact ⟨false, c⟩
      have eS1 : ∀ b, spX g v b (P :: l) = if b = left then P :: spX g v b l else spX g v b l := fun b => by
        rw [eS, if_neg k2, hl]
        cases b <;> cases left <;> rfl
      rw [hl]
      obtain ⟨s3, b1, b2, b3, b4, b5, b6, b7, b8, b9, b10, b11⟩ := c_app1 (left := left) hQ hN hiC hdj hnj hnX hxj e3 ha
      rw [b1, vbs]
      have ch3 : chC B s3 c1 js l := chC_nx e4 (fun q hq => b8 q (fun z => hnj (by rw [← z]; exact hq)) (fun b => hdj.2.2.1 b q hq))
      refine key s3 K cnt o ons _ _ b2 b3 (by omega) (by omega) (by omega) ch3 b4 b5 b6 (rmP.same b10 b11) (fun b => ?_) (fun b q hq hqc => ?_) (fun q h1 h2 => b8 q (fun z => h2.1 (by rw [z]; exact List.mem_cons_self)) h2.2) (fun q hq => b9 q) (Nat.le_refl _)
      · rw [eS1]
        unfold apX
        by_cases c : b = left
        · rw [if_pos c, if_pos c, List.append_assoc]; rfl
        · rw [if_neg c, if_neg c]
      · rcases apX_mem.mp hq with u | ⟨-, u⟩
        · exact Or.inr u
        · exact Or.inl u
end SL
