-- obligations: dropInputs, addInput
section OD1
variable {B p p' R0 R K KN ni no mp m nm a : Nat} {gi go gm : Nat → Nat} {fa pl tk : Int32} {I : Nat → IN} {D : Nat → SD} {wk : WK} {st : WS} {s s1 : vt_S}
/-- the class, where only the run in use was changed -/
theorem cIv.run {I1 : Nat → IN} {m1 : Nat} (h : cIv B p p' R0 R K KN gi ni go no fa pl mp I m s) (k : vk [602] [601] [601] (fun _ => True) s s1) (hr : runC s1 R0 I1 m1) (h2 : ∀ J n, runC s R J n → runC s1 R J n) : cIv B p p' R0 R K KN gi ni go no fa pl mp I1 m1 s1 := by
  obtain ⟨c1, c2, c3, ⟨r1, r2, ⟨q3, n3, r3⟩, q4, n4, r4⟩, c5, ⟨c6, J, n5, c7⟩, c8, c9, c10⟩ := h
  exact ⟨k.keep (P := cS B) c1, k.keep (P := fun t => pS p t ∧ pS p' t ∧ vt_P t 1306 B = p ∧ vt_P t 1307 B = p') c2, k.keep (P := fun t => vt_P t 1308 B = R0 ∧ vt_P t 1309 B = R ∧ vt_P t 600 R0 = R0 + 1 ∧ vt_P t 600 R = R + 1) c3, ⟨k.keep (P := fun t => rowC t (B + 1) gi ni) r1, k.keep (P := fun t => rowC t (B + 3) go no) r2, ⟨q3, n3, k.keep (P := fun t => rowC t (p' + 1) q3 n3) r3⟩, q4, n4, k.keep (P := fun t => rowC t (p + 1) q4 n4) r4⟩, k.keep (P := fun t => vt_I t 502 (B + 5) = fa ∧ vt_I t 503 (B + 5) = pl ∧ vt_I t 1310 B = nI mp) c5, ⟨hr, J, n5, h2 _ _ c7⟩, k.keep (P := fun t => pcL B t K) c8, c9, k.keep (P := fun t => ndL B t KN) c10⟩
theorem cMp.run (h : cMp B p R0 KN gm nm D wk a tk st s) (k : vk [602] [601] [601] (fun _ => True) s s1) : cMp B p R0 KN gm nm D wk a tk st s1 := k.keep (P := cMp B p R0 KN gm nm D wk a tk st) h
theorem rIv.run {I1 : Nat → IN} {m1 : Nat} (h : rIv B gi ni go no fa pl mp I m s) (k : vk [1605, 1800] [1601, 1602, 1603, 1604] [] (fun _ => True) s s1) (hr : runR B s1 I1 m1) : rIv B gi ni go no fa pl mp I1 m1 s1 := by
  obtain ⟨c1, c2, c4, c5, c6⟩ := h
  exact ⟨k.keep0 (P := rS B) c1, k.keep0 (P := fun t => rIn B t gi ni ∧ rOut B t go no) c2, k.keep0 (P := fun t => vt_I t 1807 (B + 639) = fa ∧ vt_I t 1808 (B + 639) = pl ∧ vt_I t 1810 (B + 639) = nI mp) c4, hr, k.keep0 (P := fun t => mp = 0 → vt_I t 1809 (B + 639) = 0 ∧ vt_I t 1400 (B + 656) = nI 0) c6⟩
theorem o_drop : ∀ (k : Nat), k + 5 ≤ 2560 → ∀ (x : Int32), vb2 (Inv B k) (Inv B (k + 5)) (ab_X12_dropInputs B x) (ab_X17_dropInputs (B + 639) x) := by
  intro k hk x s h
  have h0 := h
  obtain ⟨x, rfl, x1, x2⟩ := zI_ex x
  obtain ⟨p, p', R0, R, K, KN, gi, ni, go, no, fa, pl, mp, gm, nm, D, wk, a, tk, I, m, st, h1, h2, h3, h4, h5, h6, h7, h8, h9⟩ := h
  obtain ⟨c1, c2, c6, c7, c8, ⟨u1, u2⟩, t1⟩ := id h4
  obtain ⟨y1, y2⟩ := h2
  have m4 := u1.2.1
  have g7 := h6.2.2.2.1
  have P2 := h6.1.P1802
  have le : (zI x ≤ nI m) = (x ≤ (m : Int)) := by rw [nI_z, zI_le (by omega) (by omega) (by omega) (by omega)]
  by_cases c : 0 ≤ x ∧ x ≤ m
  · obtain ⟨j, rfl⟩ : ∃ j : Nat, x = (j : Int) := ⟨x.toNat, by omega⟩
    have e : nI m - zI (j : Int) = nI (m - j) := by rw [← nI_z j, nI_sub (by omega)]
    obtain ⟨s1, hs1⟩ : ∃ t, t = vu_I s 602 R0 (nI (m - j)) := ⟨_, rfl⟩
    have k1 : vk [602] [601] [601] (fun _ => True) s s1 := by rw [hs1]; exact vk.pI (vk.refl s) (by decide)
    have cl := clO_vk k1 (by decide)
    have hr := h6.cl cl
    have tr := h8.cl cl
    have m1 := fun q => (h7 q).cl cl
    have L1 : vt_L s1 = vt_L s := by rw [hs1, sL_I]
    have A1 : vt_A s1 = vt_A s := by rw [hs1, sA_I]
    obtain ⟨t, ht⟩ : ∃ t, t = vu_I s1 1800 (B + 639) 0 := ⟨_, rfl⟩
    obtain ⟨s3, hs3⟩ : ∃ u, u = vu_I t 1605 (B + 643) (nI (m - j)) := ⟨_, rfl⟩
    have kt : vk [1800] [] [] (fun _ => True) s1 t := by rw [ht]; exact vk.pI (vk.refl s1) (by decide)
    have k3 : vk [1605, 1800] [1601, 1602, 1603, 1604] [] (fun _ => True) s1 s3 := by rw [hs3]; exact vk.pI (kt.weak (by decide) (by decide) (by decide)) (by decide)
    have rf := rfO_vk k3 (by decide)
    have A3 : vt_A s3 = vt_A s1 := by rw [hs3, sA_I, ht, sA_I]
    have rn := hr.2.2.2.1
    have r1 : runC s1 R0 I (m - j) := ⟨by rw [hs1, I_at], by omega, by rw [L1]; have := u1.2.2.1; omega, by rw [L1]; exact u1.2.2.2.1, fun i hi => by rw [A1]; exact u1.2.2.2.2 i (by omega)⟩
    have r3 : runR B s3 I (m - j) := ⟨by rw [hs3, I_at], by omega, k3.keep0 (P := fun t => vt_L t 1601 (B + 643) = 1024 ∧ vt_L t 1602 (B + 643) = 1024 ∧ vt_L t 1603 (B + 643) = 1024 ∧ vt_L t 1604 (B + 643) = 1024) rn.2.2.1, fun i hi => by rw [A3]; exact rn.2.2.2 i (by omega)⟩
    refine ⟨1, s1, s3, ?_, ?_, p, p', R0, R, K, KN, gi, ni, go, no, fa, pl, mp, gm, nm, D, wk, a, tk, I, m - j, st, by omega, ⟨y1, y2⟩, ⟨by have := h3.1; omega, fun z => by have := h3.2.1 z; omega, h3.2.2⟩, (h4.run k1 r1 (fun J n q => ⟨by rw [hs1, I_ne (fun z => by omega)]; exact q.1, q.2.1, by rw [L1]; exact q.2.2.1, by rw [L1]; exact q.2.2.2.1, fun i hi => by rw [A1]; exact q.2.2.2.2 i hi⟩)).rf rf, fun q => ((h5 q).run k1).rf rf, hr.run k3 r3, fun q => k3.keep0 (P := rMp2 B gm nm D wk a tk st) (m1 q), k3.keep0 (P := trQ B gm (wallN mp gm)) tr, ?_⟩
    · unfold ab_X12_dropInputs
      rw [ifc (z_neg x1 x2), if_neg (by omega), slet, c6.1, slet, u1.1, ifc le, if_pos c.2, slet, slet, u1.1, e, slet, ← hs1]
    · have q0 : vt_I t 1605 (B + 643) = nI m := (kt.eI (by decide)).trans rn.1
      unfold ab_X17_dropInputs ab_X15_undo
      rw [slet, ← ht, slet, (kt.keep0 (P := rS B) hr.1).P1802, ifc (z_neg x1 x2), if_neg (by omega), slet, q0, ifc le, if_pos c.2, slet, e, slet, ← hs3, vbs]
      rfl
    · refine rmI.rf rf ?_
      have z1 : vt_z s1 = vt_z s ∧ vt_l s1 = vt_l s := by rw [hs1]; exact sz_I _ _ _ _
      unfold rmI
      rw [L1, z1.1, z1.2]
      exact h9
  · refine ⟨0, s, vu_I s 1800 (B + 639) 0, ?_, ?_, h0.v1800 hk⟩
    · unfold ab_X12_dropInputs ab_X12_dropInputs_15
      rw [ifc (z_neg x1 x2), slet, c6.1, slet, u1.1, ifc le]
      by_cases d : x < 0
      · rw [if_pos d]
      · rw [if_neg d, if_neg (by omega)]
    · obtain ⟨t, ht⟩ : ∃ t, t = vu_I s 1800 (B + 639) 0 := ⟨_, rfl⟩
      have kt : vk [1800] [] [] (fun _ => True) s t := by rw [ht]; exact vk.pI (vk.refl s) (by decide)
      have q0 : vt_I t 1605 (B + 643) = nI m := (kt.eI (by decide)).trans g7.1
      unfold ab_X17_dropInputs ab_X15_undo ab_X15_undo_12
      rw [slet, ← ht, slet, (kt.keep0 (P := rS B) h6.1).P1802, ifc (z_neg x1 x2), slet, q0, ifc le]
      by_cases d : x < 0
      · rw [if_pos d, vbs]; rfl
      · rw [if_neg d, if_neg (by omega), vbs]; rfl
end OD1
