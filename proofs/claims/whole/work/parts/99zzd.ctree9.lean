-- TREE, the class: one step, and the whole run
section CU
variable {B p W : Nat} {g : Nat → Nat}
theorem c_div {s : vt_S} {K KN cnt base leaf ons t dep v : Nat} {c0 : Int32} {is : List Nat} {par : Option Nat} {lf : Bool} {P : PCE} {r : List PCE} (hQ : cQ B p g W s K KN cnt base leaf ons) (h10 : vt_I s 910 (B + 6) = nI t) (ht : t + 1 < 130) (hch : chC B s c0 is (P :: r)) (hnd : is.Nodup) (hx : ∀ i, i ∈ is → i < cnt) (hp : pcs W (P :: r)) (h8 : (P :: r).length ≤ 128) (hd : dpC B s par dep base) (hv : v = bst g (P :: r)) (hvW : v < W) (hc : cnt + cutN g v (P :: r) ≤ 16384) (hb : base < 16384) : ∃ s1 K1 KN1 X, (∀ k : vt_S → Option (Unit × vt_S), (vt_b (ab_X8_bestLine (B + 6) p c0 s) fun r13 h14 => vt_b (ab_X8_addNode (B + 6) r13 (pI par) h14) fun r15 h16 => vt_b (ab_X8_hang (B + 6) r15 (pI par) (bI lf) h16) fun _ h17 => vt_b (ab_X8_split (B + 6) p c0 r15 h17) fun _ h18 => sv_let (vt_I h18 916 (B + 6)) fun v19 => vt_b (ab_X8_open (B + 6) v19 r15 0 h18) fun _ h20 => sv_let (vt_I h20 914 (B + 6)) fun v21 => vt_b (ab_X8_open (B + 6) v21 r15 1 h20) fun _ h22 => k h22) = k s1) ∧ cQ B p g W s1 K1 KN1 (cnt + cutN g v (P :: r)) (base + 1) leaf (ons + onN g v (P :: r)) ∧ vt_I s1 910 (B + 6) = nI (t + 2) ∧ (∃ cR, skC B s1 t cR (some base) false ∧ chC B s1 cR (X false) (spS g v (-1) (P :: r))) ∧ (∃ cL, skC B s1 (t + 1) cL (some base) true ∧ chC B s1 cL (X true) (spS g v 1 (P :: r))) ∧ djL [] X ∧ inX (cnt + cutN g v (P :: r)) [] X ∧ (∀ b i, i ∈ X b → i < cnt → i ∈ is) ∧ (vt_A s1 901 (B + 6) base = nI v ∧ vt_A s1 904 (B + 6) base = nI (onN g v (P :: r)) ∧ vt_A s1 906 (B + 6) base = nI dep) ∧ ptrC B par lf s1 base ∧ cFr B cnt base t is par lf K K1 KN KN1 s s1 := by
  obtain ⟨q1, q2, q3, q4, q5, q6, q7⟩ := hQ
  have hpar : ∀ k, par = some k → k < base := fun k hk => by rw [hk] at hd; exact hd.1
  have B0 := c_best (B := B) (p := p) (g := g) q1 h8 hp hch hx
  rw [← hv] at B0
  obtain ⟨l, hl⟩ : ∃ l, l = P :: r := ⟨_, rfl⟩
  rw [← hl] at hch hp h8 hc ⊢
  obtain ⟨s1, KN1, a1, a2, a3, a4, a5, a6, a7, a8, a9⟩ := c_addNode (w := v) q2 q3 hb q4 hd
  have k1 := (vk_X8_addNode (O := fun _ => True) vclT trivial a1).1
  obtain ⟨s2, b1, b2, b3, b4⟩ := c_hang (lf := lf) (base := base + 1) a2 (by omega) (fun k hk => by have := hpar k hk; omega) (base : Int)
  rw [← nI_z] at b1
  have T1 : cTw B p g W s1 := k1.keep (P := cTw B p g W) q1.1
  have Q1 := pcQ_vk q1 k1 T1 (by decide) (by decide)
  have T2 : cTw B p g W s2 := b2.keep0 (P := cTw B p g W) T1
  have Q2 := pcQ_vk Q1 b2 T2 (by decide) (by decide)
  have N2 : ndL B s2 KN1 := ndL_vk a2 b2 (by decide)
  have nx2 : ∀ j, nxC B s s2 j := fun j => (nx_vk k1 (by decide) j).trans (nx_vk b2 (by decide) j)
  obtain ⟨⟨n1, n2, n3, n4, n5, n6⟩, ⟨n7, n8⟩, -⟩ := id N2
  have D2 : ndQ B s2 KN1 base 0 ons := ⟨n4, by rw [b2.aA (by decide)]; exact a8, by rw [b2.eI (by decide), k1.eI (by decide)]; exact q6⟩
  obtain ⟨s3, K1, X, d1, d2, d3, d4, d5, d6, d7, d8, d9, d10⟩ := c_split (c0 := c0) hvW a3 n8 n1 (by rw [b2.aA (by decide)]; exact a7) h8 Q2 D2 hc hp (chC_nx hch (fun i _ => nx2 i)) hnd hx
  have k3 := (vk_X8_split (O := fun _ => True) vclT trivial trivial d1).1
  have N3 : ndL B s3 KN1 := ndL_vk N2 k3 (by decide)
  have S3 : skL B s3 := skL_vk (skL_vk (skL_vk q7 k1 (by decide)) b2 (by decide)) k3 (by decide)
  have t3 : vt_I s3 910 (B + 6) = nI t := by rw [k3.eI (by decide), b2.eI (by decide), k1.eI (by decide)]; exact h10
  obtain ⟨s4, e1, e2, e3, e4, e5⟩ := c_open (par := some base) (lf := false) (c := vt_I s3 916 (B + 6)) S3 t3 (by omega)
  have S4 : skL B s4 := skL_vk S3 e2 (by decide)
  obtain ⟨s5, f1, f2, f3, f4, f5⟩ := c_open (par := some base) (lf := true) (c := vt_I s4 914 (B + 6)) S4 e3 (by omega)
  have e1 : ab_X8_open (B + 6) (vt_I s3 916 (B + 6)) (nI base) 0 s3 = some ((), s4) := e1
  have f1 : ab_X8_open (B + 6) (vt_I s4 914 (B + 6)) (nI base) 1 s4 = some ((), s5) := f1
  have kk : vk [910] [907, 908, 909] [] (fun _ => True) s3 s5 := e2.trans f2
  have kz := kk.2.2.2.2 rfl
  have T5 : cTw B p g W s5 := kk.keep0 (P := cTw B p g W) d2.1
  have nx5 : ∀ j, nxC B s3 s5 j := fun j => nx_vk kk (by decide) j
  have bz := b2.2.2.2.2 rfl
  have i14 : vt_I s4 914 (B + 6) = vt_I s3 914 (B + 6) := e2.eI (by decide)
  refine ⟨s5, K1, KN1, X, fun k => ?_, ⟨pcQ_vk d2 kk T5 (by decide) (by decide), ndL_vk N3 kk (by decide), by omega, ?_, ?_, ?_, skL_vk S4 f2 (by decide)⟩, f3, ⟨_, (f5 t (by omega)).sk e4, ?_⟩, ⟨_, f4, ?_⟩, d5, d6, d8, ⟨?_, ?_, ?_⟩, fun k hk => ?_, ?_, fun i h1 h2 => ?_, fun j hj => ?_, fun k hk => ?_, fun k hk => ?_⟩
  · rw [B0, vbs, a1, vbs, b1, vbs, d1, vbs, slet, e1, vbs, slet, f1, vbs]
  · rw [kk.eI (by decide), k3.eI (by decide), b2.eI (by decide)]; exact a5
  · rw [kk.eI (by decide), k3.eI (by decide), b2.eI (by decide), k1.eI (by decide)]; exact q5
  · rw [kk.eI (by decide)]; exact d3.2.2
  · exact chC_nx (d7 false).1 (fun i _ => nx5 i)
  · rw [i14]
    exact chC_nx (d7 true).1 (fun i _ => nx5 i)
  · rw [kk.aA (by decide), k3.aA (by decide), b2.aA (by decide)]; exact a7
  · rw [kk.aA (by decide), d3.2.1, Nat.zero_add]
  · rw [kk.aA (by decide), k3.aA (by decide), b2.aA (by decide)]; exact a9
  · have h := b3 k hk
    cases lf with
    | true =>
      rw [if_pos rfl] at h ⊢
      rw [kk.aA (by decide), k3.aA (by decide)]; exact h
    | false =>
      rw [if_neg (by decide)] at h ⊢
      rw [kk.aA (by decide), k3.aA (by decide)]; exact h
  · exact (a4.nd.trans (rmT.same bz.1 bz.2)).trans (d4.pc.trans (rmT.same kz.1 kz.2))
  · exact ((nx2 i).trans (d9 i h1 h2)).trans (nx5 i)
  · exact (((sk_vk k1 (by decide) j).trans (sk_vk b2 (by decide) j)).trans (sk_vk k3 (by decide) j)).trans ((e5 j (by omega)).trans (f5 j (by omega)))
  · obtain ⟨x1, x2, x3, x4, x5⟩ := a6 k hk
    have z1 : n3C B s s1 k := ⟨x1, x4, x5⟩
    exact ((z1.trans (n3_vk b2 (by decide) k)).trans ⟨by rw [k3.aA (by decide)], d10 k (by omega), by rw [k3.aA (by decide)]⟩).trans (n3_vk kk (by decide) k)
  · obtain ⟨x1, x2, x3, x4, x5⟩ := a6 k hk
    obtain ⟨y1, y2⟩ := b4 k
    exact ⟨fun h => by rw [kk.aA (by decide), k3.aA (by decide), y1 h, x2], fun h => by rw [kk.aA (by decide), k3.aA (by decide), y2 h, x3]⟩
set_option linter.constructorNameAsVariable false in
theorem c_run : ∀ (m : Nat) (l : List PCE) (dep base leaf cnt ons t K KN : Nat) (c0 : Int32) (is : List Nat) (par : Option Nat) (lf : Bool) (s : vt_S), pcs W l → l.length ≤ m → l.length ≤ 128 → cQ B p g W s K KN cnt base leaf ons → vt_I s 910 (B + 6) = nI (t + 1) → skC B s t c0 par lf → chC B s c0 is l → is.Nodup → (∀ i, i ∈ is → i < cnt) → dpC B s par dep base → cnt + bcut g m l ≤ 16384 → base + (bld g m l dep base leaf).1.length ≤ 16384 → t + l.length ≤ 129 → ∃ s1 K1 KN1 k, k ≤ 2 * (bld g m l dep base leaf).1.length + 1 ∧ (∀ fu j, j + k ≤ 32768 → ab_X8_grow_39 (fu + k) (B + 6) p (nI j) s = ab_X8_grow_39 fu (B + 6) p (nI (j + k)) s1) ∧ cQ B p g W s1 K1 KN1 (cnt + bcut g m l) (base + (bld g m l dep base leaf).1.length) (leaf + (bld g m l dep base leaf).2) (ons + l.length + bcut g m l) ∧ vt_I s1 910 (B + 6) = nI t ∧ ndsC B s1 base (bld g m l dep base leaf).1 ∧ ptrC B par lf s1 (ptrT l base leaf) ∧ cFr B cnt base t is par lf K K1 KN KN1 s s1 := by
  intro m
  induction m with
  | zero =>
    intro l dep base leaf cnt ons t K KN c0 is par lf s hp hm h8 hQ h10 hE hch hnd hx hd b1 b2 b5
    have e : l = [] := List.eq_nil_of_length_eq_zero (by omega)
    subst e
    exact c_run_nil 0 dep base leaf cnt ons t K KN c0 is par lf s hQ h10 hE hch hd (by have : ([] : List PCE).length = 0 := rfl; omega)
  | succ m ih =>
    intro l dep base leaf cnt ons t K KN c0 is par lf s hp hm h8 hQ h10 hE hch hnd hx hd b1 b2 b5
    cases l with
    | nil => exact c_run_nil (m + 1) dep base leaf cnt ons t K KN c0 is par lf s hQ h10 hE hch hd (by have : ([] : List PCE).length = 0 := rfl; omega)
    | cons P r =>
      obtain ⟨sp1, sp2, ⟨sp3, sp4⟩, ⟨sp5, sp6⟩, sp7, -⟩ := sp_step (g := g) hp h8
      obtain ⟨v, hv⟩ : ∃ v, v = bst g (P :: r) := ⟨_, rfl⟩
      rw [← hv] at sp1 sp2 sp3 sp4 sp5 sp6 sp7
      obtain ⟨L, hL⟩ : ∃ L, L = spS g v 1 (P :: r) := ⟨_, rfl⟩
      obtain ⟨R, hR⟩ : ∃ R, R = spS g v (-1) (P :: r) := ⟨_, rfl⟩
      rw [← hL] at sp3 sp4 sp7
      rw [← hR] at sp5 sp6 sp7
      obtain ⟨A, hA⟩ : ∃ A, A = bld g m L (dep + 1) (base + 1) leaf := ⟨_, rfl⟩
      obtain ⟨C, hC⟩ : ∃ C, C = bld g m R (dep + 1) (base + 1 + A.1.length) (leaf + A.2) := ⟨_, rfl⟩
      obtain ⟨eb, ec⟩ := bld_cons m P r dep base leaf v L R A C hv hL hR hA hC
      rw [eb] at b2
      rw [ec] at b1
      rw [eb, ec]
      dsimp only at b2 ⊢
      rw [List.length_cons, List.length_append] at b2 ⊢
      rw [List.length_cons] at hm b5
      obtain ⟨u, hu⟩ : ∃ u, u = vu_I s 910 (B + 6) (nI t) := ⟨_, rfl⟩
      have ku : vk [910] [] [] (fun _ => True) s u := by rw [hu]; exact vk.pI (vk.refl s) (by decide)
      have hQ0 := hQ
      obtain ⟨q1, q2, q3, q4, q5, q6, q7⟩ := hQ0
      have Qu : cQ B p g W u K KN cnt base leaf ons := ⟨pcQ_vk q1 ku (ku.keep0 (P := cTw B p g W) q1.1) (by decide) (by decide), ndL_vk q2 ku (by decide), q3, by rw [ku.eI (by decide)]; exact q4, by rw [ku.eI (by decide)]; exact q5, by rw [ku.eI (by decide)]; exact q6, skL_vk q7 ku (by decide)⟩
      have du : dpC B u par dep base := by
        cases par with
        | none => exact hd
        | some k => exact ⟨hd.1, hd.2.1, by rw [ku.aA (by decide)]; exact hd.2.2⟩
      have cu : chC B u c0 is (P :: r) := chC_nx hch (fun i _ => nx_vk ku (by decide) i)
      have c1 : ¬ c0 = -1 := by
        obtain ⟨i, js, z1, z2, -, -⟩ := chC_cons hch
        rw [z2]
        exact nI_m1 (by have := hx i (by rw [z1]; exact List.mem_cons_self); omega)
      have n8 := q2.2.1.2
      obtain ⟨s2, K2, KN2, X, d1, d2, d3, ⟨cR, d4, d5⟩, ⟨cL, d6, d7⟩, d8, d9, d10, ⟨d11, d12, d13⟩, d14, d15⟩ := c_div (lf := lf) (v := v) Qu (by rw [hu, I_at]) (by omega) cu hnd hx hp h8 du hv sp1 (by omega) (by omega)
      rw [← hR] at d5
      rw [← hL] at d7
      -- the left one
      obtain ⟨s3, K3, KN3, k1, x1, x2, x3, x4, x5, x6, x7⟩ := ih L (dep + 1) (base + 1) leaf (cnt + cutN g v (P :: r)) (ons + onN g v (P :: r)) (t + 1) K2 KN2 cL (X true) (some base) true s2 sp3 (by omega) (by omega) d2 d3 d6 d7 (d8.2.1 true) (d9.2 true) ⟨by omega, by omega, by rw [Nat.add_sub_cancel]; exact d13⟩ (by omega) (by rw [← hA]; omega) (by omega)
      rw [← hA] at x1 x3 x5
      obtain ⟨y1, y2, y3, y4, y5⟩ := id x7
      have ch3 : chC B s3 cR (X false) R := chC_nx d5 (fun i hi => y2 i (d9.2 false i hi) (fun z => d8.2.2.2 true i z hi))
      have E3 : skC B s3 t cR (some base) false := (y3 t (by omega)).sk d4
      -- the right one
      obtain ⟨s4, K4, KN4, k2, u1, u2, u3, u4, u5, u6, u7⟩ := ih R (dep + 1) (base + 1 + A.1.length) (leaf + A.2) (cnt + cutN g v (P :: r) + bcut g m L) (ons + onN g v (P :: r) + L.length + bcut g m L) t K3 KN3 cR (X false) (some base) false s3 sp5 (by omega) (by omega) x3 x4 E3 ch3 (d8.2.1 false) (fun i hi => by have := d9.2 false i hi; omega) ⟨by omega, by omega, by rw [Nat.add_sub_cancel, (y4 base (by omega)).2.2]; exact d13⟩ (by omega) (by rw [← hC]; omega) (by omega)
      rw [← hC] at u1 u3 u5
      obtain ⟨v1, v2, v3, v4, v5⟩ := id u7
      obtain ⟨w1, w2, w3, w4, w5⟩ := id d15
      have uz := ku.2.2.2.2 rfl
      have nb : ∀ k, k < base → some base ≠ some k := fun k hk z => by cases z; omega
      rw [List.length_cons] at sp7 ⊢
      refine ⟨s4, K4, KN4, k2 + k1 + 1, by omega, fun fu j hj => ?_, ?_, u4, ⟨⟨?_, ?_, ?_, ?_, ?_⟩, ?_⟩, fun k hk => ?_, ?_, fun i h1 h2 => ?_, fun j hj => ?_, fun k hk => ?_, fun k hk => ?_⟩
      · obtain ⟨u', hu', st⟩ := cT_pop (p := p) (j := j) q7 (by omega) h10 hE (by omega) (fu + k2 + k1)
        rw [← hu] at hu'
        rw [show fu + (k2 + k1 + 1) = (fu + k2 + k1) + 1 by omega, st, hu', if_neg c1, d1, x2 _ _ (by omega), u2 _ _ (by omega), show j + (k2 + k1 + 1) = j + 1 + k1 + k2 by omega]
      · rw [show cnt + (cutN g v (P :: r) + bcut g m L + bcut g m R) = cnt + cutN g v (P :: r) + bcut g m L + bcut g m R by omega, show base + (A.1.length + C.1.length + 1) = base + 1 + A.1.length + C.1.length by omega, show leaf + (A.2 + C.2) = leaf + A.2 + C.2 by omega, show ons + (r.length + 1) + (cutN g v (P :: r) + bcut g m L + bcut g m R) = ons + onN g v (P :: r) + L.length + bcut g m L + R.length + bcut g m R by omega]
        exact u3
      · rw [(v4 base (by omega)).1, (y4 base (by omega)).1]; exact d11
      · rw [(v4 base (by omega)).2.1, (y4 base (by omega)).2.1]; exact d12
      · rw [(v4 base (by omega)).2.2, (y4 base (by omega)).2.2]; exact d13
      · rw [(v5 base (by omega)).1 (fun z => by cases z.1)]
        exact x6 base rfl
      · exact u6 base rfl
      · refine ndsC_app A.1 C.1 (base + 1) (ndsC_cg (s := s3) (s1 := s4) A.1 (base + 1) (fun j h1 h2 N hN => u7.nd (by omega) (fun z => by cases z; omega) hN) x5) u5
      · have hkb : k < base := by rw [hk] at hd; exact hd.1
        have z := d14 k hk
        cases lf with
        | false =>
          rw [if_neg (by decide)] at z ⊢
          rw [(v5 k (by omega)).2 (fun z => nb k hkb z.2), (y5 k (by omega)).2 (fun z => by cases z.1)]; exact z
        | true =>
          rw [if_pos rfl] at z ⊢
          rw [(v5 k (by omega)).1 (fun z => by cases z.1), (y5 k (by omega)).1 (fun z => nb k hkb z.2)]; exact z
      · exact ((rmT.same uz.1 uz.2).trans w1).trans (y1.trans v1)
      · have nt : ∀ b, i ∉ X b := fun b z => h2 (d10 b i z h1)
        exact ((nx_vk ku (by decide) i).trans (w2 i h1 h2)).trans ((y2 i (by omega) (nt true)).trans (v2 i (by omega) (nt false)))
      · exact ((sk_vk ku (by decide) j).trans (w3 j hj)).trans ((y3 j (by omega)).trans (v3 j hj))
      · exact ((n3_vk ku (by decide) k).trans (w4 k hk)).trans ((y4 k (by omega)).trans (v4 k (by omega)))
      · have x := v5 k (by omega)
        have y := y5 k (by omega)
        have w := w5 k hk
        exact ⟨fun h => ((x.1 (fun z => nb k hk z.2)).trans (y.1 (fun z => nb k hk z.2))).trans ((w.1 h).trans (by rw [ku.aA (by decide)])), fun h => ((x.2 (fun z => nb k hk z.2)).trans (y.2 (fun z => nb k hk z.2))).trans ((w.2 h).trans (by rw [ku.aA (by decide)]))⟩
end CU
