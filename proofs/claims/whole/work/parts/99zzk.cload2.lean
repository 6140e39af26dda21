-- loadMap, the class: a map that is well
section CK
variable {B p n : Nat} {g : Nat → Nat} {s : vt_S}
theorem pS_vk {p : Nat} {s s1 : vt_S} {ws rs gs : List Nat} (h : pS p s) (k : vk ws rs gs (fun _ => True) s s1) (hw : ∀ f, f ∈ [300, 301] → f ∉ ws) (hg : ∀ f, f ∈ [302, 303, 304, 305, 306, 307, 308, 1211] → f ∉ gs) : pS p s1 := by
  obtain ⟨a1, a2, a3, a4, a5, a6, a7, a8, a9, b1, b2, b3⟩ := h
  have eP : ∀ f, f ∈ [300, 301] → vt_P s1 f p = vt_P s f p := fun f hf => (k.2.1 f p (Or.inl (hw f hf))).2.2
  have eL : ∀ f a, f ∈ [302, 303, 304, 305, 306, 307, 308, 1211] → vt_L s1 f a = vt_L s f a := fun f a hf => k.2.2.2.1 f a (Or.inl (hg f hf))
  refine ⟨by rw [eP 300 (by decide)]; exact a1, by rw [eP 301 (by decide)]; exact a2, by rw [eL 302 _ (by decide)]; exact a3, by rw [eL 303 _ (by decide)]; exact a4, by rw [eL 304 _ (by decide)]; exact a5, by rw [eL 305 _ (by decide)]; exact a6, by rw [eL 306 _ (by decide)]; exact a7, by rw [eL 307 _ (by decide)]; exact a8, by rw [eL 308 _ (by decide)]; exact a9, by rw [k.1]; exact b1, by rw [k.1]; exact b2, fun j hj => by rw [eL 1211 _ (by decide)]; exact b3 j hj⟩
theorem cS_vk {s s1 : vt_S} {ws rs gs : List Nat} (h : cS B s) (k : vk ws rs gs (fun _ => True) s s1) (hw : ∀ f, f ∈ shPf → f ∉ ws) (hg : ∀ f, f ∈ shLf → f ∉ gs) : cS B s1 := h.keep (fun f a hf => (k.2.1 f a (Or.inl (hw f hf))).2.2) (fun f a hf => k.2.2.2.1 f a (Or.inl (hg f hf)))
theorem c_load_ok {p p' K KN mp m R0 : Nat} {q0 : Nat → Nat} {q : Nat} (hS : cS B s) (hp : p' = B + 23 ∨ p' = B + 322) (h6 : vt_P s 1306 B = p) (h7 : vt_P s 1307 B = p') (hs : pS p' s) (hrow : rowC s (B + 1) g n) (hsp : rowC s (p' + 1) q0 m) (hm : vt_I s 1310 B = nI mp) (h8 : vt_P s 1308 B = R0) (hR0 : R0 = B + 633 ∨ R0 = B + 636) (h60 : vt_P s 600 R0 = R0 + 1) (hL : pcL B s K) (he : ∃ e, K = 128 * 2 ^ e) (hN : ndL B s KN) (hE : pMp g n = .ok q) : ∃ s1 K1 KN1, ab_X12_loadMap B s = some (fz (pMp g n), s1) ∧ (vt_I s1 502 (B + 5) = fz (pMp g n) ∧ vt_I s1 503 (B + 5) = pz (pMp g n)) ∧ (vt_P s1 1306 B = p' ∧ vt_P s1 1307 B = p ∧ vt_I s1 1310 B = nI (mp + 1)) ∧ (cWk B p' g n s1 ∧ secsC s1 p' (g 5) (rest0 g) ∧ wkC B s1 ((mapSt g).1, (mapSt g).2.1, (mapSt g).2.2.2) ∧ vt_I s1 1104 (B + 628) = nI (mapSt g).2.2.1 ∧ vt_I s1 1106 (B + 628) = 0) ∧ rowC s1 (p' + 1) g n ∧ (∀ a q2 m2, a ≠ p' + 1 → rowC s a q2 m2 → rowC s1 a q2 m2) ∧ (vt_I s1 602 R0 = nI 0 ∧ stC s1 (R0 + 1) (mapSt g) ∧ ∀ a, a ≠ R0 → vt_I s1 602 a = vt_I s 602 a) ∧ (phB g (g 6) ∧ cTK B g (g 6) s1 ∧ pcL B s1 K1 ∧ (∃ e, K1 = 128 * 2 ^ e) ∧ ndL B s1 KN1 ∧ (trN g (g 6)).length ≤ KN1) ∧ (K ≤ K1 ∧ KN ≤ KN1 ∧ vt_L s 100 (p' + 1) ≤ vt_L s1 100 (p' + 1) ∧ vt_z s1 + vt_L s 100 (p' + 1) + 6 * K + 6 * KN ≤ vt_z s + vt_L s1 100 (p' + 1) + 6 * K1 + 6 * KN1 ∧ vt_l s1 + 2 * vt_L s 100 (p' + 1) + 12 * K + 12 * KN ≤ vt_l s + 2 * vt_L s1 100 (p' + 1) + 12 * K1 + 12 * KN1) ∧ (∀ b, b ≠ p' + 1 → vt_L s1 100 b = vt_L s 100 b) := by
  obtain ⟨s2, b1, b2, b3, b4, r2, k2⟩ := c_load1 hS hp h7 hs hrow
  have hpl := b4 q hE
  have mv : mapV g n := map_ok hE
  have cm : cMap g n := ⟨mv, fun i hi => (hrow.2.2.2 i hi).2⟩
  have c5 := cm.S
  have ph : phB g (g 6) := ⟨c5.2.1, l00_ph mv⟩
  -- plans are swapped
  obtain ⟨s3, hs3⟩ : ∃ t, t = vu_P (vu_P s2 1306 B p') 1307 B p := ⟨_, rfl⟩
  obtain ⟨s4, hs4⟩ : ∃ t, t = vu_I s3 1310 B (nI (mp + 1)) := ⟨_, rfl⟩
  have k3 : vk [1306, 1307] [] [] (fun _ => True) s2 s3 := by rw [hs3]; exact vk.pP (vk.pP (vk.refl s2) (by decide)) (by decide)
  have k4 : vk [1306, 1307, 1310] [] [] (fun _ => True) s2 s4 := by rw [hs4]; exact vk.pI (k3.weak (by decide) (by decide) (by decide)) (by decide)
  have P4 : vt_P s4 1306 B = p' ∧ vt_P s4 1307 B = p := by
    have e : vt_P s4 = vt_P s3 := by rw [hs4]; exact Eq.trans rfl rfl
    rw [e, hs3]
    exact ⟨by rw [P_ne (by omega), P_at], P_at⟩
  have S2 : cS B s2 := hS.keep (fun _ _ _ => by rw [b3.P]) (fun _ _ _ => by rw [b3.L])
  have S4 : cS B s4 := k4.keep0 (P := cS B) S2
  have p2 : pS p' s2 := hs.of b3.P b3.L b3.E
  have p4 : pS p' s4 := k4.keep0 (P := pS p') p2
  have f4 : planF s4 p' g := k4.keep0 (P := fun t => planF t p' g) hpl
  have r4 : ∀ a q2 m2, rowC s a q2 m2 → rowC s4 a q2 m2 := fun a q2 m2 h => k4.keep0 (P := fun t => rowC t a q2 m2) (r2 a q2 m2 h)
  -- the bytes are kept
  obtain ⟨s5, d1, d2, d3⟩ := row_become (show p' + 1 ≠ B + 1 by omega) (r4 _ _ _ hsp) (r4 _ _ _ hrow)
  have k5 := (vk_X0_become (O := fun _ => True) vclT trivial trivial d1).1
  have S5 : cS B s5 := k5.keep (P := cS B) S4
  have p5 : pS p' s5 := k5.keep (P := pS p') p4
  have f5 : planF s5 p' g := k5.keep (P := fun t => planF t p' g) f4
  have k25 : vk [101, 309, 310, 311, 312, 501, 502, 503, 700, 701, 702, 703, 704, 705, 706, 800, 801, 802, 803, 1200, 1201, 1202, 1203, 1204, 1205, 1206, 1207, 1208, 1209, 1210, 1306, 1307, 1310] [100, 302, 303, 304, 305, 306, 1211] [100] (fun _ => True) s s5 := ((k2.weak (by decide) (by decide) (by decide)).trans (k4.weak (by decide) (by decide) (by decide))).trans (k5.weak (by decide) (by decide) (by decide))
  have T5 : cTw B p' g (g 6) s5 := ⟨p5, ⟨f5.1.2.2.2, c5.2.1, f5.2.2.2.2.1⟩, S5.P900⟩
  -- the tree
  obtain ⟨s6, K1, KN1, e1, e2, e3, e4, e5, e6, e7, e8⟩ := c_grow (B := B) ph T5 (pcL_vk hL k25 (by decide)) he (ndL_vk hN k25 (by decide)) ⟨S5.L907, S5.L908, S5.L909⟩
  have k6 := (vk_X8_grow (O := fun _ => True) vclT trivial trivial e1).1
  have P6 : ∀ f a, f ∉ [206, 910, 911, 912, 913, 914, 915, 916, 917] → vt_P s6 f a = vt_P s5 f a := fun f a h => (k6.2.1 f a (Or.inl h)).2.2
  have P5 : vt_P s5 = vt_P s4 := d2.P
  have P24 : ∀ f a, f ∉ [1306, 1307, 1310] → vt_P s4 f a = vt_P s f a := fun f a h => by rw [(k4.2.1 f a (Or.inl h)).2.2, b3.P]
  have p6 : pS p' s6 := pS_vk p5 k6 (by decide) (by decide)
  have f6 : planF s6 p' g := k6.keep (P := fun t => planF t p' g) f5
  -- the run is emptied
  obtain ⟨s7, hs7⟩ : ∃ t, t = vu_I s6 602 R0 (nI 0) := ⟨_, rfl⟩
  have k7 : vk [602] [] [] (fun _ => True) s6 s7 := by rw [hs7]; exact vk.pI (vk.refl s6) (by decide)
  have f7 : planF s7 p' g := k7.keep0 (P := fun t => planF t p' g) f6
  have i7 : vt_I s7 602 R0 = nI 0 ∧ ∀ a, a ≠ R0 → vt_I s7 602 a = vt_I s6 602 a := by
    rw [hs7]
    exact ⟨I_at, fun a h => I_ne (fun z => h z.2)⟩
  have st7 : stC s7 (p' + 3) (mapSt g) := f7.2.2.2.2.2
  obtain ⟨s8, g1, g2, g3⟩ := c_stBecome (s := s7) (show R0 + 1 ≠ p' + 3 by omega) st7
  have k8 := (vk_X7_become (O := fun _ => True) vclT trivial trivial g1).1
  have f8 : planF s8 p' g := by
    obtain ⟨x1, x2, x3, x4, x5, -⟩ := f7
    exact ⟨k8.keep0 (P := fun t => vt_I t 309 p' = nI (g 3) ∧ vt_I t 310 p' = nI (g 4) ∧ vt_I t 311 p' = nI (g 5) ∧ vt_I t 312 p' = nI (g 6)) x1, k8.keep0 (P := fun t => ∀ j, j < g 3 → vtxF t p' g j) x2, k8.keep0 (P := fun t => ∀ j, j < g 4 → texF t p' g j) x3, k8.keep0 (P := fun t => ∀ j, j < g 5 → secF t (p' + 11 + j) g (scp g j)) x4, k8.keep0 (P := fun t => ∀ j, j < g 6 → wallF t (p' + 43 + 2 * j) g (wlp g j)) x5, g3⟩
  have k78 : vk [602, 800, 801, 802, 803] [] [] (fun _ => True) s6 s8 := (k7.weak (by decide) (by decide) (by decide)).trans (k8.weak (by decide) (by decide) (by decide))
  have p8 : pS p' s8 := k78.keep0 (P := pS p') p6
  have S6 : cS B s6 := cS_vk S5 k6 (by decide) (by decide)
  have S8 : cS B s8 := k78.keep0 (P := cS B) S6
  have P8 : ∀ f a, f ∉ [602, 800, 801, 802, 803] → vt_P s8 f a = vt_P s6 f a := fun f a h => (k78.2.1 f a (Or.inl h)).2.2
  have w8 : cWk B p' g n (vu_P s8 1101 (B + 628) p') := by
    obtain ⟨t, ht⟩ : ∃ t, t = vu_P s8 1101 (B + 628) p' := ⟨_, rfl⟩
    have kt : vk [1101] [] [] (fun _ => True) s8 t := by rw [ht]; exact vk.pP (vk.refl s8) (by decide)
    have St : cS B t := kt.keep0 (P := cS B) S8
    rw [← ht]
    exact ⟨hp, by rw [ht, P_at], St.P1100, ⟨St.L400, St.L401, St.L402, St.L403, St.L404, St.L405⟩, kt.keep0 (P := pS p') p8, kt.keep0 (P := fun t => planF t p' g) f8, cm⟩
  obtain ⟨s9, m1, m2, m3, m4, m5, m6⟩ := c_begin (q := R0 + 1) w8 g2
  have k9 := (vk_X10_begin (O := fun _ => True) vclT trivial trivial trivial m1).1
  have k69 : vk [602, 707, 708, 709, 710, 711, 800, 801, 802, 803, 1101, 1102, 1103, 1104, 1105, 1106] [] [] (fun _ => True) s6 s9 := (k78.weak (by decide) (by decide) (by decide)).trans (k9.weak (by decide) (by decide) (by decide))
  have z69 := k69.2.2.2.2 rfl
  have L69 : ∀ f a, vt_L s9 f a = vt_L s6 f a := fun f a => k69.2.2.2.1 f a (Or.inl (by intro z; cases z))
  have row59 : ∀ a q2 m2, rowC s5 a q2 m2 → rowC s9 a q2 m2 := fun a q2 m2 h => k69.keep0 (P := fun t => rowC t a q2 m2) (k6.keep (P := fun t => rowC t a q2 m2) h)
  have fin5 : vt_I s9 502 (B + 5) = fz (pMp g n) := by rw [k69.eI (by decide), k6.eI (by decide), k5.eI (by decide), k4.eI (by decide)]; exact b2.fp.1
  have P13 : ∀ f, f ∈ [1302, 1303, 1304, 1308] → vt_P s4 f B = vt_P s f B := fun f hf => P24 f B (fun z => by
    simp at hf z
    omega)
  refine ⟨s9, K1, KN1, ?_, ⟨fin5, ?_⟩, ⟨?_, ?_, ?_⟩, ⟨m2, m3, m4, m5, m6⟩, row59 _ _ _ d3, fun a q2 m2 h h2 => row59 _ _ _ ((r4 _ _ _ h2).agr d2.agr (by omega) (by omega) (by omega)), ⟨?_, ?_, fun a ha => ?_⟩, ⟨ph, ?_, pcL_vk e3 k69 (by decide), e4, ndL_vk e5 k69 (by decide), e6⟩, ?_, fun b hb => ?_⟩
  · rw [b1, hE, if_neg pWell_ok, ← hE]
    unfold ab_X12_swapPlans
    rw [slet, slet, b3.P, h6, h7, slet, slet, ← hs3, vbs, slet, k3.eI (by decide), b3.I (by omega), hm, nI_1, slet, ← hs4, slet, P4.1, slet, p4.1, slet, S4.P1300, d1, vbs, slet, S5.P1303, slet, P5, P4.1, e1, vbs, slet, P6 _ _ (by decide), P5, P24 _ _ (by decide), h8, show (0 : Int32) = nI 0 from rfl, slet, ← hs7]
    have P7 : vt_P s7 = vt_P s6 := by rw [hs7]; exact Eq.trans rfl rfl
    have q8 : vt_P s6 1308 B = R0 := by rw [P6 _ _ (by decide), P5, P24 _ _ (by decide)]; exact h8
    have q60 : vt_P s6 600 R0 = R0 + 1 := by rw [P6 _ _ (by decide), P5, P24 _ _ (by decide)]; exact h60
    have q6 : vt_P s6 1306 B = p' := by rw [P6 _ _ (by decide), P5]; exact P4.1
    have v6 : vt_P s8 1306 B = p' := by rw [P8 1306 B (by decide)]; exact q6
    have v8 : vt_P s8 1308 B = R0 := by rw [P8 1308 B (by decide)]; exact q8
    have v60 : vt_P s8 600 R0 = R0 + 1 := by rw [P8 600 R0 (by decide)]; exact q60
    rw [slet, P7, q8, slet, q60, slet, q6, slet, p6.2.1, g1, vbs, slet, S8.P1304, slet, v6, slet, v8, slet, v60, m1, vbs]
    exact c_110 ((k9.keep0 (P := cS B) S8).P1302) fin5
  · rw [k69.eI (by decide), k6.eI (by decide), k5.eI (by decide), k4.eI (by decide)]; exact b2.fp.2
  · rw [(k69.2.1 _ _ (Or.inl (by decide))).2.2, P6 _ _ (by decide), P5]; exact P4.1
  · rw [(k69.2.1 _ _ (Or.inl (by decide))).2.2, P6 _ _ (by decide), P5]; exact P4.2
  · rw [k69.eI (by decide), k6.eI (by decide), k5.eI (by decide), hs4, I_at]
  · rw [k9.eI (by decide), k8.eI (by decide)]; exact i7.1
  · exact k9.keep0 (P := fun t => stC t (R0 + 1) (mapSt g)) g2
  · rw [k9.eI (by decide), k8.eI (by decide), i7.2 a ha, k6.eI (by decide), k5.eI (by decide), k4.eI (by decide), k2.eI (by decide)]
  · exact ⟨⟨by rw [k69.eI (by decide)]; exact e2.1.1, by rw [k69.eI (by decide)]; exact e2.1.2.1, ndsC_vk k69 (by intro f _ z; cases z) _ _ e2.1.2.2⟩, fun j hj => by rw [k69.aA (by intro z; cases z)]; exact e2.2 j hj⟩
  · obtain ⟨y1, y2, y3, y4⟩ := e8
    obtain ⟨-, -, -, -, -, -, -, y5, y6, y7⟩ := id d2
    have z4 := k4.2.2.2.2 rfl
    have l4 : vt_L s4 100 (p' + 1) = vt_L s 100 (p' + 1) := by rw [k4.2.2.2.1 _ _ (Or.inl (by intro z; cases z)), b3.L]
    have l9 : vt_L s9 100 (p' + 1) = vt_L s5 100 (p' + 1) := by rw [L69, k6.2.2.2.1 _ _ (Or.inl (by decide))]
    have w1 := b3.1
    have w2 := b3.2.1
    rw [l9, z69.1, z69.2]
    rw [l4] at y5 y6 y7
    rw [z4.1, w1] at y6
    rw [z4.2, w2] at y7
    exact ⟨y1, y2, y5, by omega, by omega⟩
  · obtain ⟨-, -, -, -, -, -, ⟨n, e⟩, -⟩ := id d2
    rw [L69, k6.2.2.2.1 _ _ (Or.inl (by decide)), e, vur_ne _ _ (fun z => hb z.2), k4.2.2.2.1 _ _ (Or.inl (by intro z; cases z)), b3.L]
end CK
