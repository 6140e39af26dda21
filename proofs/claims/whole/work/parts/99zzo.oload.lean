-- obligation: loadMap
section OL1
variable {B : Nat}
theorem pe_cases (st : PE) : (∃ e, st = .error e) ∨ ∃ q, st = .ok q := by
  cases st with
  | error e => exact Or.inl ⟨e, rfl⟩
  | ok q => exact Or.inr ⟨q, rfl⟩
theorem o_loadMap : ∀ (k : Nat), k + 5 ≤ 2560 → vb2 (Inv B k) (Inv B (k + 5)) (ab_X12_loadMap B) (ab_X17_loadMap (B + 639)) := by
  intro k hk s h
  obtain ⟨p, p', R0, R, K, KN, gi, ni, go, no, fa, pl, mp, gm, nm, D, wk, a, tk, I, m, st, h1, h2, h3, h4, h5, h6, h7, h8, h9⟩ := h
  have m10 := no_map h3 hk
  obtain ⟨ad1, ad2⟩ := id h2
  have hp' : p' = B + 23 ∨ p' = B + 322 := by omega
  obtain ⟨c1, ⟨c2, c3, c4, c5⟩, c6, ⟨r1, r2, ⟨q3, n3, r3⟩, q4, n4, r4⟩, ⟨f1, f2, f3⟩, ⟨u1, J, n5, u2⟩, t1, t2, t3⟩ := id h4
  rcases pe_cases (pMp gi ni) with ⟨e, hE⟩ | ⟨q, hE⟩
  · obtain ⟨s1, a1, a2, a3, a4, a5, a6⟩ := c_load_err c1 hp' c5 c3 r1 hE
    have cl := clO_vk a6 (by decide)
    have hr := h6.cl cl
    have tr := h8.cl cl
    have m1 := fun q => (h7 q).cl cl
    obtain ⟨s3, b1, b2, b3, -, b5⟩ := r_loadMap hr.1 hr.2.1.1 hr.2.2.1.2.2
    have k2 := b5 e hE
    have rf := rfO_vk k2 (by decide)
    have I1 : cIv B p p' R0 R K KN gi ni go no (fz (pMp gi ni)) (pz (pMp gi ni)) mp I m s1 := ⟨a6.keep0 (P := cS B) c1, ⟨a6.keep0 (P := pS p) c2, a6.keep0 (P := pS p') c3, a6.keep0 (P := fun t => vt_P t 1306 B = p) c4, a6.keep0 (P := fun t => vt_P t 1307 B = p') c5⟩, a6.keep0 (P := fun t => vt_P t 1308 B = R0 ∧ vt_P t 1309 B = R ∧ vt_P t 600 R0 = R0 + 1 ∧ vt_P t 600 R = R + 1) c6, ⟨a5 _ _ _ r1, a5 _ _ _ r2, ⟨q3, n3, a5 _ _ _ r3⟩, q4, n4, a5 _ _ _ r4⟩, ⟨a2, a3, a6.keep0 (P := fun t => vt_I t 1310 B = nI mp) f3⟩, ⟨a6.keep0 (P := fun t => runC t R0 I m) u1, J, n5, a6.keep0 (P := fun t => runC t R J n5) u2⟩, a6.keep0 (P := fun t => pcL B t K) t1, t2, a6.keep0 (P := fun t => ndL B t KN) t3⟩
    have C1 : 0 < mp → cMp B p R0 KN gm nm D wk a tk st s1 := fun q => by
      obtain ⟨x1, x2, x3, x4, x5, x6, x7, x8⟩ := h5 q
      have o := a4.ong
      have S := x1.2.2.2.2.2.2.S
      refine ⟨x1.ong o (fun b y1 y2 => by omega) (by omega), a5 _ _ _ x2, x3.ong o (fun b y1 y2 => by omega) S.1, a6.keep0 (P := fun t => wkC B t wk) x4, a6.keep0 (P := fun t => vt_I t 1104 (B + 628) = nI a) x5, a6.keep0 (P := fun t => vt_I t 1106 (B + 628) = tk) x6, x7.ong o (by omega), a6.keep0 (P := fun t => (vt_I t 911 (B + 6) = nI (trN gm (gm 6)).length ∧ vt_I t 913 (B + 6) = nI (gm 6 + bcut gm 128 (l00 (gm 6))) ∧ (∀ j, j < (trN gm (gm 6)).length → ndC B t j (trD gm (gm 6) j)) ∧ szC B gm (gm 6) t) ∧ (trN gm (gm 6)).length ≤ KN) x8⟩
    obtain ⟨g1, ⟨g2, g3⟩, g4, g5, g6⟩ := hr
    exact ⟨_, s1, s3, a1, b1, p, p', R0, R, K, KN, gi, ni, go, no, _, _, mp, gm, nm, D, wk, a, tk, I, m, st, by omega, h2, h3.up, I1.rf rf, fun q => (C1 q).rf rf, ⟨k2.keep0 (P := rS B) g1, ⟨k2.keep0 (P := fun t => rIn B t gi ni) g2, k2.keep0 (P := fun t => rOut B t go no) g3⟩, ⟨b2, b3, k2.keep0 (P := fun t => vt_I t 1810 (B + 639) = nI mp) g4.2.2⟩, k2.keep0 (P := fun t => runR B t I m) g5, k2.keep0 (P := fun t => mp = 0 → vt_I t 1809 (B + 639) = 0 ∧ vt_I t 1400 (B + 656) = nI 0) g6⟩, fun q => k2.keep0 (P := rMp2 B gm nm D wk a tk st) (m1 q), k2.keep0 (P := trQ B gm (wallN mp gm)) tr, (a6.keep0 (P := rmI B K KN) h9).rf rf⟩
  · obtain ⟨s1, K1, KN1, a1, ⟨a2, a3⟩, ⟨a4, a5, a6⟩, ⟨v1, v2, v3, v4, v5⟩, w1, w2, ⟨y1, y2, y3⟩, ⟨z1, z2, z3, z4, z5, z6⟩, ⟨l1, l2, l3, l4, l5⟩, l6⟩ := c_load_ok (q0 := q3) (m := n3) c1 hp' c4 c5 c3 r1 r3 f3 c6.1 (by omega) c6.2.2.1 t1 t2 t3 hE
    have k1 := (vk_X12_loadMap (O := fun _ => True) vclT trivial a1).1
    have cl := clO_vk k1 (by decide)
    have hr := h6.cl cl
    obtain ⟨s3, b1, b2, b3, b4, -⟩ := r_loadMap hr.1 hr.2.1.1 hr.2.2.1.2.2
    have k2 := (vk_X17_loadMap (O := fun _ => True) vclT trivial b1).1
    have rf := rfO_vk k2 (by decide)
    obtain ⟨e1, e2, e3, e4, e5, e6, e7, e8, e9, e10⟩ := b4 q hE
    have cm := v1.2.2.2.2.2.2
    have S := cm.S
    have mv := cm.1
    have L6 : ∀ b, vt_L s1 601 b = vt_L s 601 b := fun b => k1.2.2.2.1 601 b (Or.inl (by decide))
    have A6 : ∀ b, vt_A s1 601 b = vt_A s 601 b := fun b => k1.aA (by decide)
    have P1 : ∀ f b, f ∈ [1308, 1309, 600] → vt_P s1 f b = vt_P s f b := fun f b hf => (k1.2.1 f b (Or.inl (fun z => by
      have hz : ∀ f, f ∈ [1308, 1309, 600] → f ∉ [101, 206, 309, 310, 311, 312, 501, 502, 503, 602, 700, 701, 702, 703, 704, 705, 706, 707, 708, 709, 710, 711, 800, 801, 802, 803, 910, 911, 912, 913, 914, 915, 916, 917, 1101, 1102, 1103, 1104, 1105, 1106, 1200, 1201, 1202, 1203, 1204, 1205, 1206, 1207, 1208, 1209, 1210, 1306, 1307, 1310] := by decide
      exact hz f hf z))).2.2
    have RR : R ≠ R0 := by omega
    have hz8 := u1.2.2.2.1
    have I1 : cIv B p' p R0 R K1 KN1 gi ni go no (fz (pMp gi ni)) (pz (pMp gi ni)) (mp + 1) I 0 s1 := ⟨cS_vk c1 k1 (by decide) (by decide), ⟨pS_vk c3 k1 (by decide) (by decide), pS_vk c2 k1 (by decide) (by decide), a4, a5⟩, ⟨by rw [P1 1308 _ (by decide)]; exact c6.1, by rw [P1 1309 _ (by decide)]; exact c6.2.1, by rw [P1 600 _ (by decide)]; exact c6.2.2.1, by rw [P1 600 _ (by decide)]; exact c6.2.2.2⟩, ⟨w2 _ _ _ (by omega) r1, w2 _ _ _ (by omega) r2, ⟨q4, n4, w2 _ _ _ (by omega) r4⟩, gi, ni, w1⟩, ⟨a2, a3, a6⟩, ⟨⟨y1, by omega, by omega, by rw [L6]; exact hz8, fun j hj => absurd hj (by omega)⟩, J, n5, ⟨by rw [y3 R RR]; exact u2.1, u2.2.1, by rw [L6]; exact u2.2.2.1, by rw [L6]; exact u2.2.2.2.1, fun j hj => by rw [A6]; exact u2.2.2.2.2 j hj⟩⟩, z3, z4, z5⟩
    have C1 : cMp B p' R0 KN1 gi ni (rest0 gi) ((mapSt gi).1, (mapSt gi).2.1, (mapSt gi).2.2.2) (mapSt gi).2.2.1 0 (mapSt gi) s1 := ⟨v1, w1, v2, v3, v4, v5, y2, ⟨z2.1.1, z2.1.2.1, fun j hj => ndsC_at _ _ z2.1.2.2 j (by omega) (by omega), z2.2⟩, z6⟩
    have D1 : dOk (k + 5) (mp + 1) gi ni (rest0 gi) ((mapSt gi).1, (mapSt gi).2.1, (mapSt gi).2.2.2) (mapSt gi).2.2.1 0 (mapSt gi) := by
      have x1 := pr_rng gi (stp gi)
      have x2 := pr_rng gi (stp gi + 2)
      have x3 : gi (stp gi + 4) ≤ 63 := mv.2.2.1
      have x4 : gi (stp gi + 5) < gi 5 := mv.2.2.2.1
      refine ⟨by have := h3.1; omega, fun z => by omega, fun _ => ⟨cm, ⟨⟨?_, ?_⟩, ⟨?_, ?_⟩, x4, ?_⟩, fun j _ => rest0_ok, ⟨x1, x2, ?_, ?_⟩, x4⟩⟩
      · show -40000 ≤ pr gi (stp gi); omega
      · show pr gi (stp gi) ≤ 40000; omega
      · show -40000 ≤ pr gi (stp gi + 2); omega
      · show pr gi (stp gi + 2) ≤ 40000; omega
      · show gi (stp gi + 4) < 64; omega
      · show gi (stp gi + 4) < 64; omega
      · show gi (stp gi + 5) < 256; omega
    have rS3 : rS B s3 := hr.1.vk k2 (by decide)
    obtain ⟨g1, ⟨g2, g3⟩, g4, g5, g6⟩ := hr
    have X1 : rmI B K1 KN1 s1 := by
      obtain ⟨o1, o2⟩ := h9
      unfold rmI
      rw [L6, L6, l6 (B + 1) (by omega), l6 (B + 3) (by omega)]
      rcases ad1 with ⟨i1, i2⟩ | ⟨i1, i2⟩
      · rw [l6 (B + 24) (by omega)]
        rw [i2, show B + 322 + 1 = B + 323 from rfl] at l3 l4 l5
        exact ⟨by omega, by omega⟩
      · rw [l6 (B + 323) (by omega)]
        rw [i2, show B + 23 + 1 = B + 24 from rfl] at l3 l4 l5
        exact ⟨by omega, by omega⟩
    have ad3 : adr B p' p R0 R := ⟨ad1.elim (fun z => Or.inr ⟨z.2, z.1⟩) (fun z => Or.inl ⟨z.2, z.1⟩), ad2⟩
    have ew : wallN (mp + 1) gi = gi 6 := if_pos (by omega)
    exact ⟨_, s1, s3, a1, b1, p', p, R0, R, K1, KN1, gi, ni, go, no, _, _, mp + 1, gi, ni, _, _, _, _, I, 0, _, by omega, ad3, D1, I1.rf rf, fun _ => C1.rf rf, ⟨rS3, ⟨k2.keep0 (P := fun t => rIn B t gi ni) g2, k2.keep0 (P := fun t => rOut B t go no) g3⟩, ⟨b2, b3, by rw [e10, nI_1]⟩, ⟨e8, by omega, k2.keep0 (P := fun t => vt_L t 1601 (B + 643) = 1024 ∧ vt_L t 1602 (B + 643) = 1024 ∧ vt_L t 1603 (B + 643) = 1024 ∧ vt_L t 1604 (B + 643) = 1024) g5.2.2.1, fun j hj => absurd hj (by omega)⟩, fun z => absurd z (by omega)⟩, fun _ => ⟨e1, e2, e3, e4, e5, e9⟩, by rw [ew]; exact ⟨z1, ⟨e1.2.2.1, rS3⟩, e6, Or.inl e7⟩, X1.rf rf⟩
end OL1
