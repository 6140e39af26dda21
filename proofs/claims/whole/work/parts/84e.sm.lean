theorem sm_X17_lookAt_93 {h0 : sv_H} {s0 : Int32} {h : sv_H} (w : vt_W h0 h) : vt_sm h0 (fn_X17_lookAt_93 s0 h) (ab_X17_lookAt_93 s0 (vt_ab h)) := by
  unfold fn_X17_lookAt_93 ab_X17_lookAt_93
  obtain ⟨F, hF⟩ : ∃ F, sv_FP h = F := ⟨_, rfl⟩
  exact sm_rt w
theorem sm_X17_lookAt_72 {h0 : sv_H} {x0 : Nat} {x1 : Int32} {h : sv_H} (w : vt_W h0 h) (tx0 : sv_K h0 x0 = 18) : vt_sm h0 (fn_X17_lookAt_72 x0 x1 h) (ab_X17_lookAt_72 x0 x1 (vt_ab h)) := by
  unfold fn_X17_lookAt_72 ab_X17_lookAt_72
  obtain ⟨F, hF⟩ : ∃ F, sv_FP h = F := ⟨_, rfl⟩
  refine sm_gI w tx0 (by decide) (fun v1 => ?_)
  refine sm_if (fun _ => ?_) (fun _ => ?_)
  · exact sm_X17_lookAt_93 w
  · refine sm_gP w tx0 tk_1801 rfl (fun v2 tv2 => ?_)
    refine sm_cl w (sm_X14_many w.1 (w.k tv2 (by decide))) (fun r3 h2 e w2 => ?_)
    have hF2 : sv_FP h2 = F := by rw [ro_X14_many e]; exact hF
    clear e w hF
    have hF := hF2
    have w := w2
    clear hF2 w2
    exact sm_X17_lookAt_93 w
theorem sm_X17_lookAt_150 {h0 : sv_H} {s0 : Int32} {h : sv_H} (w : vt_W h0 h) : vt_sm h0 (fn_X17_lookAt_150 s0 h) (ab_X17_lookAt_150 s0 (vt_ab h)) := by
  unfold fn_X17_lookAt_150 ab_X17_lookAt_150
  obtain ⟨F, hF⟩ : ∃ F, sv_FP h = F := ⟨_, rfl⟩
  exact sm_rt w
theorem sm_X17_lookAt_176 {h0 : sv_H} {s0 : Int32} {h : sv_H} (w : vt_W h0 h) : vt_sm h0 (fn_X17_lookAt_176 s0 h) (ab_X17_lookAt_176 s0 (vt_ab h)) := by
  unfold fn_X17_lookAt_176 ab_X17_lookAt_176
  obtain ⟨F, hF⟩ : ∃ F, sv_FP h = F := ⟨_, rfl⟩
  exact sm_rt w
theorem sm_X17_lookAt_0 {h0 : sv_H} {x0 : Nat} {x1 : Int32} {h : sv_H} (w : vt_W h0 h) (tx0 : sv_K h0 x0 = 18) : vt_sm h0 (fn_X17_lookAt x0 x1 h) (ab_X17_lookAt x0 x1 (vt_ab h)) := by
  unfold fn_X17_lookAt ab_X17_lookAt
  obtain ⟨F, hF⟩ : ∃ F, sv_FP h = F := ⟨_, rfl⟩
  refine sm_kd w tx0 (by decide) ?_
  refine sm_pI w hF tx0 (by decide) (fun h w hF => ?_)
  refine sm_if (fun _ => ?_) (fun _ => ?_)
  · exact sm_X17_lookAt_72 w tx0
  refine sm_if (fun _ => ?_) (fun _ => ?_)
  · exact sm_X17_lookAt_72 w tx0
  refine sm_if (fun _ => ?_) (fun _ => ?_)
  · exact sm_X17_lookAt_72 w tx0
  refine sm_if (fun _ => ?_) (fun _ => ?_)
  · exact sm_X17_lookAt_72 w tx0
  refine sm_if (fun _ => ?_) (fun _ => ?_)
  · refine sm_gP w tx0 tk_1802 rfl (fun v2 tv2 => ?_)
    refine sm_gI w tv2 (by decide) (fun v3 => ?_)
    exact sm_rt w
  refine sm_if (fun _ => ?_) (fun _ => ?_)
  · refine sm_gP w tx0 tk_1801 rfl (fun v4 tv4 => ?_)
    refine sm_gI w tv4 (by decide) (fun v5 => ?_)
    exact sm_rt w
  refine sm_if (fun _ => ?_) (fun _ => ?_)
  · refine sm_gI w tx0 (by decide) (fun v6 => ?_)
    exact sm_rt w
  refine sm_if (fun _ => ?_) (fun _ => ?_)
  · refine sm_gI w tx0 (by decide) (fun v7 => ?_)
    exact sm_rt w
  refine sm_if (fun _ => ?_) (fun _ => ?_)
  · refine sm_gI w tx0 (by decide) (fun v8 => ?_)
    exact sm_rt w
  refine sm_if (fun _ => ?_) (fun _ => ?_)
  · refine sm_gP w tx0 tk_1804 rfl (fun v9 tv9 => ?_)
    refine sm_cl w (sm_X16_know w.1 (w.k tv9 (by decide))) (fun _ h2 e w2 => ?_)
    have hF2 : sv_FP h2 = F := (ow_X16_know sv_clT trivial e).2.1.1.trans hF
    clear e w hF
    have hF := hF2
    have w := w2
    clear hF2 w2
    refine sm_gI w tx0 (by decide) (fun v11 => ?_)
    refine sm_if (fun _ => ?_) (fun _ => ?_)
    · exact sm_X17_lookAt_150 w
    · refine sm_gP w tx0 tk_1804 rfl (fun v12 tv12 => ?_)
      refine sm_gI w tv12 (by decide) (fun v13 => ?_)
      exact sm_X17_lookAt_150 w
  refine sm_if (fun _ => ?_) (fun _ => ?_)
  · refine sm_gP w tx0 tk_1804 rfl (fun v14 tv14 => ?_)
    refine sm_cl w (sm_X16_know w.1 (w.k tv14 (by decide))) (fun _ h2 e w2 => ?_)
    have hF2 : sv_FP h2 = F := (ow_X16_know sv_clT trivial e).2.1.1.trans hF
    clear e w hF
    have hF := hF2
    have w := w2
    clear hF2 w2
    refine sm_gI w tx0 (by decide) (fun v16 => ?_)
    refine sm_if (fun _ => ?_) (fun _ => ?_)
    · exact sm_X17_lookAt_176 w
    · refine sm_gP w tx0 tk_1804 rfl (fun v17 tv17 => ?_)
      refine sm_gI w tv17 (by decide) (fun v18 => ?_)
      exact sm_X17_lookAt_176 w
  refine sm_if (fun _ => ?_) (fun _ => ?_)
  · refine sm_gP w tx0 tk_1803 rfl (fun v19 tv19 => ?_)
    refine sm_cl w (sm_X13_many w.1 (w.k tv19 (by decide))) (fun r20 h2 e w2 => ?_)
    have hF2 : sv_FP h2 = F := by rw [ro_X13_many e]; exact hF
    clear e w hF
    have hF := hF2
    have w := w2
    clear hF2 w2
    exact sm_rt w
  refine sm_if (fun _ => ?_) (fun _ => ?_)
  · refine sm_gI w tx0 (by decide) (fun v22 => ?_)
    exact sm_rt w
  exact sm_rt w
theorem sm_X17_lookAt {x0 : Nat} {x1 : Int32} {h : sv_H} (g : vt_G h) (tx0 : sv_K h x0 = 18) : vt_sm h (fn_X17_lookAt x0 x1 h) (ab_X17_lookAt x0 x1 (vt_ab h)) := sm_X17_lookAt_0 ⟨g, vt_ko.refl h⟩ tx0

theorem sm_L_law_866 {xs : Nat → Int32} {L : Nat} {h0 : sv_H} {k18 : Nat → Nat → Int32 → sv_H → Option (Int32 × sv_H)} {j18 : Nat → Nat → Int32 → vt_S → Option (Int32 × vt_S)} (hk18 : ∀ {x1 : Nat} {x2 : Nat} {x3 : Int32} {h : sv_H}, vt_W h0 h → sv_K h0 x1 = 13 → sv_K h0 x2 = 18 → vt_sm h0 (k18 x1 x2 x3 h) (j18 x1 x2 x3 (vt_ab h))) {x1 : Nat} {x2 : Nat} {x3 : Int32} {h : sv_H} (w : vt_W h0 h) (tx1 : sv_K h0 x1 = 13) (tx2 : sv_K h0 x2 = 18) : vt_sm h0 (fn_L_law_866 xs L k18 x1 x2 x3 h) (ab_L_law_866 xs L j18 x1 x2 x3 (vt_ab h)) := by
  unfold fn_L_law_866 ab_L_law_866
  obtain ⟨F, hF⟩ : ∃ F, sv_FP h = F := ⟨_, rfl⟩
  exact hk18 w tx1 tx2
theorem sm_L_law_436 {xs : Nat → Int32} {L : Nat} {h0 : sv_H} {k18 : Nat → Nat → Int32 → sv_H → Option (Int32 × sv_H)} {j18 : Nat → Nat → Int32 → vt_S → Option (Int32 × vt_S)} (hk18 : ∀ {x1 : Nat} {x2 : Nat} {x3 : Int32} {h : sv_H}, vt_W h0 h → sv_K h0 x1 = 13 → sv_K h0 x2 = 18 → vt_sm h0 (k18 x1 x2 x3 h) (j18 x1 x2 x3 (vt_ab h))) {x1 : Nat} {x2 : Nat} {x3 : Int32} {s0 : Int32} {s1 : Nat} {s2 : Int32} {s3 : Int32} {s4 : Int32} {s5 : Int32} {h : sv_H} (w : vt_W h0 h) (tx1 : sv_K h0 x1 = 13) (tx2 : sv_K h0 x2 = 18) (ts1 : sv_K h0 s1 = 18) : vt_sm h0 (fn_L_law_436 xs L k18 x1 x2 x3 s0 s1 s2 s3 s4 s5 h) (ab_L_law_436 xs L j18 x1 x2 x3 s0 s1 s2 s3 s4 s5 (vt_ab h)) := by
  unfold fn_L_law_436 ab_L_law_436
  obtain ⟨F, hF⟩ : ∃ F, sv_FP h = F := ⟨_, rfl⟩
  refine sm_cl w (sm_X17_addInput w.1 (w.k ts1 (by decide))) (fun r1 h2 e w2 => ?_)
  have hF2 : sv_FP h2 = F := (ow_X17_addInput sv_clT trivial e).2.1.1.trans hF
  clear e w hF
  have hF := hF2
  have w := w2
  clear hF2 w2
  refine sm_if (fun _ => ?_) (fun _ => ?_)
  · exact sm_L_law_866 (k18 := k18) (j18 := j18) hk18 w tx1 tx2
  · exact sm_rt w
theorem sm_L_law_404 {xs : Nat → Int32} {L : Nat} {h0 : sv_H} {k18 : Nat → Nat → Int32 → sv_H → Option (Int32 × sv_H)} {j18 : Nat → Nat → Int32 → vt_S → Option (Int32 × vt_S)} (hk18 : ∀ {x1 : Nat} {x2 : Nat} {x3 : Int32} {h : sv_H}, vt_W h0 h → sv_K h0 x1 = 13 → sv_K h0 x2 = 18 → vt_sm h0 (k18 x1 x2 x3 h) (j18 x1 x2 x3 (vt_ab h))) {x1 : Nat} {x2 : Nat} {x3 : Int32} {s0 : Nat} {s1 : Int32} {s2 : Int32} {s3 : Int32} {s4 : Int32} {h : sv_H} (w : vt_W h0 h) (tx1 : sv_K h0 x1 = 13) (tx2 : sv_K h0 x2 = 18) (ts0 : sv_K h0 s0 = 13) : vt_sm h0 (fn_L_law_404 xs L k18 x1 x2 x3 s0 s1 s2 s3 s4 h) (ab_L_law_404 xs L j18 x1 x2 x3 s0 s1 s2 s3 s4 (vt_ab h)) := by
  unfold fn_L_law_404 ab_L_law_404
  obtain ⟨F, hF⟩ : ∃ F, sv_FP h = F := ⟨_, rfl⟩
  refine sm_cl w (sm_X12_addInput w.1 (w.k ts0 (by decide))) (fun r1 h2 e w2 => ?_)
  obtain ⟨F, hF2⟩ : ∃ F, sv_FP h2 = F := ⟨_, rfl⟩
  clear e w hF
  have hF := hF2
  have w := w2
  clear hF2 w2
  refine sm_bd (fun _ => ?_)
  refine sm_bd (fun _ => ?_)
  refine sm_bd (fun _ => ?_)
  refine sm_bd (fun _ => ?_)
  refine sm_if (fun _ => ?_) (fun _ => ?_)
  · exact sm_L_law_436 (k18 := k18) (j18 := j18) hk18 w tx1 tx2 tx2
  · exact sm_L_law_436 (k18 := k18) (j18 := j18) hk18 w tx1 tx2 tx2
theorem sm_L_law_551 {xs : Nat → Int32} {L : Nat} {h0 : sv_H} {k18 : Nat → Nat → Int32 → sv_H → Option (Int32 × sv_H)} {j18 : Nat → Nat → Int32 → vt_S → Option (Int32 × vt_S)} (hk18 : ∀ {x1 : Nat} {x2 : Nat} {x3 : Int32} {h : sv_H}, vt_W h0 h → sv_K h0 x1 = 13 → sv_K h0 x2 = 18 → vt_sm h0 (k18 x1 x2 x3 h) (j18 x1 x2 x3 (vt_ab h))) {x1 : Nat} {x2 : Nat} {x3 : Int32} {s0 : Int32} {s1 : Nat} {s2 : Int32} {s3 : Int32} {s4 : Int32} {s5 : Int32} {h : sv_H} (w : vt_W h0 h) (tx1 : sv_K h0 x1 = 13) (tx2 : sv_K h0 x2 = 18) (ts1 : sv_K h0 s1 = 18) : vt_sm h0 (fn_L_law_551 xs L k18 x1 x2 x3 s0 s1 s2 s3 s4 s5 h) (ab_L_law_551 xs L j18 x1 x2 x3 s0 s1 s2 s3 s4 s5 (vt_ab h)) := by
  unfold fn_L_law_551 ab_L_law_551
  obtain ⟨F, hF⟩ : ∃ F, sv_FP h = F := ⟨_, rfl⟩
  refine sm_cl w (sm_X17_stepBy w.1 (w.k ts1 (by decide))) (fun r1 h2 e w2 => ?_)
  have hF2 : sv_FP h2 = F := (ow_X17_stepBy sv_clT trivial e).2.1.1.trans hF
  clear e w hF
  have hF := hF2
  have w := w2
  clear hF2 w2
  refine sm_if (fun _ => ?_) (fun _ => ?_)
  · exact sm_L_law_866 (k18 := k18) (j18 := j18) hk18 w tx1 tx2
  · exact sm_rt w
theorem sm_L_law_519 {xs : Nat → Int32} {L : Nat} {h0 : sv_H} {k18 : Nat → Nat → Int32 → sv_H → Option (Int32 × sv_H)} {j18 : Nat → Nat → Int32 → vt_S → Option (Int32 × vt_S)} (hk18 : ∀ {x1 : Nat} {x2 : Nat} {x3 : Int32} {h : sv_H}, vt_W h0 h → sv_K h0 x1 = 13 → sv_K h0 x2 = 18 → vt_sm h0 (k18 x1 x2 x3 h) (j18 x1 x2 x3 (vt_ab h))) {x1 : Nat} {x2 : Nat} {x3 : Int32} {s0 : Nat} {s1 : Int32} {s2 : Int32} {s3 : Int32} {s4 : Int32} {h : sv_H} (w : vt_W h0 h) (tx1 : sv_K h0 x1 = 13) (tx2 : sv_K h0 x2 = 18) (ts0 : sv_K h0 s0 = 13) : vt_sm h0 (fn_L_law_519 xs L k18 x1 x2 x3 s0 s1 s2 s3 s4 h) (ab_L_law_519 xs L j18 x1 x2 x3 s0 s1 s2 s3 s4 (vt_ab h)) := by
  unfold fn_L_law_519 ab_L_law_519
  obtain ⟨F, hF⟩ : ∃ F, sv_FP h = F := ⟨_, rfl⟩
  refine sm_cl w (sm_X12_stepBy w.1 (w.k ts0 (by decide))) (fun r1 h2 e w2 => ?_)
  have hF2 : sv_FP h2 = F := (ow_X12_stepBy sv_clT trivial e).2.1.1.trans hF
  clear e w hF
  have hF := hF2
  have w := w2
  clear hF2 w2
  refine sm_bd (fun _ => ?_)
  refine sm_bd (fun _ => ?_)
  refine sm_bd (fun _ => ?_)
  refine sm_bd (fun _ => ?_)
  refine sm_if (fun _ => ?_) (fun _ => ?_)
  · exact sm_L_law_551 (k18 := k18) (j18 := j18) hk18 w tx1 tx2 tx2
  · exact sm_L_law_551 (k18 := k18) (j18 := j18) hk18 w tx1 tx2 tx2
theorem sm_L_law_835 {xs : Nat → Int32} {L : Nat} {h0 : sv_H} {k18 : Nat → Nat → Int32 → sv_H → Option (Int32 × sv_H)} {j18 : Nat → Nat → Int32 → vt_S → Option (Int32 × vt_S)} (hk18 : ∀ {x1 : Nat} {x2 : Nat} {x3 : Int32} {h : sv_H}, vt_W h0 h → sv_K h0 x1 = 13 → sv_K h0 x2 = 18 → vt_sm h0 (k18 x1 x2 x3 h) (j18 x1 x2 x3 (vt_ab h))) {x1 : Nat} {x2 : Nat} {x3 : Int32} {s0 : Int32} {s1 : Nat} {s2 : Int32} {s3 : Int32} {h : sv_H} (w : vt_W h0 h) (tx1 : sv_K h0 x1 = 13) (tx2 : sv_K h0 x2 = 18) (ts1 : sv_K h0 s1 = 18) : vt_sm h0 (fn_L_law_835 xs L k18 x1 x2 x3 s0 s1 s2 s3 h) (ab_L_law_835 xs L j18 x1 x2 x3 s0 s1 s2 s3 (vt_ab h)) := by
  unfold fn_L_law_835 ab_L_law_835
  obtain ⟨F, hF⟩ : ∃ F, sv_FP h = F := ⟨_, rfl⟩
  refine sm_cl w (sm_X17_byteOf w.1 (w.k ts1 (by decide))) (fun r1 h2 e w2 => ?_)
  have hF2 : sv_FP h2 = F := (ow_X17_byteOf sv_clT trivial e).2.1.1.trans hF
  clear e w hF
  have hF := hF2
  have w := w2
  clear hF2 w2
  refine sm_if (fun _ => ?_) (fun _ => ?_)
  · exact sm_L_law_866 (k18 := k18) (j18 := j18) hk18 w tx1 tx2
  · exact sm_rt w
theorem sm_L_law_813 {xs : Nat → Int32} {L : Nat} {h0 : sv_H} {k18 : Nat → Nat → Int32 → sv_H → Option (Int32 × sv_H)} {j18 : Nat → Nat → Int32 → vt_S → Option (Int32 × vt_S)} (hk18 : ∀ {x1 : Nat} {x2 : Nat} {x3 : Int32} {h : sv_H}, vt_W h0 h → sv_K h0 x1 = 13 → sv_K h0 x2 = 18 → vt_sm h0 (k18 x1 x2 x3 h) (j18 x1 x2 x3 (vt_ab h))) {x1 : Nat} {x2 : Nat} {x3 : Int32} {s0 : Nat} {s1 : Int32} {s2 : Int32} {h : sv_H} (w : vt_W h0 h) (tx1 : sv_K h0 x1 = 13) (tx2 : sv_K h0 x2 = 18) (ts0 : sv_K h0 s0 = 13) : vt_sm h0 (fn_L_law_813 xs L k18 x1 x2 x3 s0 s1 s2 h) (ab_L_law_813 xs L j18 x1 x2 x3 s0 s1 s2 (vt_ab h)) := by
  unfold fn_L_law_813 ab_L_law_813
  obtain ⟨F, hF⟩ : ∃ F, sv_FP h = F := ⟨_, rfl⟩
  refine sm_cl w (sm_X12_byteOf w.1 (w.k ts0 (by decide))) (fun r1 h2 e w2 => ?_)
  have hF2 : sv_FP h2 = F := by rw [ro_X12_byteOf e]; exact hF
  clear e w hF
  have hF := hF2
  have w := w2
  clear hF2 w2
  refine sm_bd (fun _ => ?_)
  refine sm_bd (fun _ => ?_)
  refine sm_if (fun _ => ?_) (fun _ => ?_)
  · exact sm_L_law_835 (k18 := k18) (j18 := j18) hk18 w tx1 tx2 tx2
  · exact sm_L_law_835 (k18 := k18) (j18 := j18) hk18 w tx1 tx2 tx2
theorem sm_L_law_18b {xs : Nat → Int32} {L : Nat} {h0 : sv_H} {k18 : Nat → Nat → Int32 → sv_H → Option (Int32 × sv_H)} {j18 : Nat → Nat → Int32 → vt_S → Option (Int32 × vt_S)} (hk18 : ∀ {x1 : Nat} {x2 : Nat} {x3 : Int32} {h : sv_H}, vt_W h0 h → sv_K h0 x1 = 13 → sv_K h0 x2 = 18 → vt_sm h0 (k18 x1 x2 x3 h) (j18 x1 x2 x3 (vt_ab h))) {x1 : Nat} {x2 : Nat} {x3 : Int32} {h : sv_H} (w : vt_W h0 h) (tx1 : sv_K h0 x1 = 13) (tx2 : sv_K h0 x2 = 18) : vt_sm h0 (fn_L_law_18b xs L k18 x1 x2 x3 h) (ab_L_law_18b xs L j18 x1 x2 x3 (vt_ab h)) := by
  unfold fn_L_law_18b ab_L_law_18b
  obtain ⟨F, hF⟩ : ∃ F, sv_FP h = F := ⟨_, rfl⟩
  refine sm_if (fun _ => ?_) (fun _ => ?_)
  · exact sm_rt w
  · refine sm_bd (fun _ => ?_)
    refine sm_if (fun _ => ?_) (fun _ => ?_)
    · refine sm_bd (fun _ => ?_)
      refine sm_bd (fun _ => ?_)
      refine sm_bd (fun _ => ?_)
      refine sm_cl w (sm_X12_giveBytes w.1 (w.k tx1 (by decide))) (fun r5 h2 e w2 => ?_)
      obtain ⟨F, hF2⟩ : ∃ F, sv_FP h2 = F := ⟨_, rfl⟩
      clear e w hF
      have hF := hF2
      have w := w2
      clear hF2 w2
      refine sm_bd (fun _ => ?_)
      refine sm_bd (fun _ => ?_)
      refine sm_bd (fun _ => ?_)
      refine sm_cl w (sm_X17_giveBytes w.1 (w.k tx2 (by decide))) (fun r10 h2 e w2 => ?_)
      have hF2 : sv_FP h2 = F := (ow_X17_giveBytes sv_clT trivial e).2.1.1.trans hF
      clear e w hF
      have hF := hF2
      have w := w2
      clear hF2 w2
      refine sm_if (fun _ => ?_) (fun _ => ?_)
      · exact sm_L_law_866 (k18 := k18) (j18 := j18) hk18 w tx1 tx2
      · exact sm_rt w
    refine sm_if (fun _ => ?_) (fun _ => ?_)
    · refine sm_bd (fun _ => ?_)
      refine sm_cl w (sm_X12_cutBytes w.1 (w.k tx1 (by decide))) (fun r13 h2 e w2 => ?_)
      have hF2 : sv_FP h2 = F := (ow_X12_cutBytes sv_clT trivial e).2.1.1.trans hF
      clear e w hF
      have hF := hF2
      have w := w2
      clear hF2 w2
      refine sm_bd (fun _ => ?_)
      refine sm_cl w (sm_X17_cutBytes w.1 (w.k tx2 (by decide))) (fun r16 h2 e w2 => ?_)
      have hF2 : sv_FP h2 = F := (ow_X17_cutBytes sv_clT trivial e).2.1.1.trans hF
      clear e w hF
      have hF := hF2
      have w := w2
      clear hF2 w2
      refine sm_if (fun _ => ?_) (fun _ => ?_)
      · exact sm_L_law_866 (k18 := k18) (j18 := j18) hk18 w tx1 tx2
      · exact sm_rt w
    refine sm_if (fun _ => ?_) (fun _ => ?_)
    · refine sm_bd (fun _ => ?_)
      refine sm_bd (fun _ => ?_)
      refine sm_cl w (sm_X12_pokeByte w.1 (w.k tx1 (by decide))) (fun r20 h2 e w2 => ?_)
      have hF2 : sv_FP h2 = F := (ow_X12_pokeByte sv_clT trivial e).2.1.1.trans hF
      clear e w hF
      have hF := hF2
      have w := w2
      clear hF2 w2
      refine sm_bd (fun _ => ?_)
      refine sm_bd (fun _ => ?_)
      refine sm_cl w (sm_X17_pokeByte w.1 (w.k tx2 (by decide))) (fun r24 h2 e w2 => ?_)
      have hF2 : sv_FP h2 = F := (ow_X17_pokeByte sv_clT trivial e).2.1.1.trans hF
      clear e w hF
      have hF := hF2
      have w := w2
      clear hF2 w2
      refine sm_if (fun _ => ?_) (fun _ => ?_)
      · exact sm_L_law_866 (k18 := k18) (j18 := j18) hk18 w tx1 tx2
      · exact sm_rt w
    refine sm_if (fun _ => ?_) (fun _ => ?_)
    · refine sm_cl w (sm_X12_loadMap w.1 (w.k tx1 (by decide))) (fun r26 h2 e w2 => ?_)
      obtain ⟨F, hF2⟩ : ∃ F, sv_FP h2 = F := ⟨_, rfl⟩
      clear e w hF
      have hF := hF2
      have w := w2
      clear hF2 w2
      refine sm_cl w (sm_X17_loadMap w.1 (w.k tx2 (by decide))) (fun r28 h2 e w2 => ?_)
      have hF2 : sv_FP h2 = F := (ow_X17_loadMap sv_clT trivial e).2.1.1.trans hF
      clear e w hF
      have hF := hF2
      have w := w2
      clear hF2 w2
      refine sm_if (fun _ => ?_) (fun _ => ?_)
      · exact sm_L_law_866 (k18 := k18) (j18 := j18) hk18 w tx1 tx2
      · exact sm_rt w
    refine sm_if (fun _ => ?_) (fun _ => ?_)
    · refine sm_cl w (sm_X12_loadDemo w.1 (w.k tx1 (by decide))) (fun r30 h2 e w2 => ?_)
      obtain ⟨F, hF2⟩ : ∃ F, sv_FP h2 = F := ⟨_, rfl⟩
      clear e w hF
      have hF := hF2
      have w := w2
      clear hF2 w2
      refine sm_cl w (sm_X17_loadDemo w.1 (w.k tx2 (by decide))) (fun r32 h2 e w2 => ?_)
      have hF2 : sv_FP h2 = F := (ow_X17_loadDemo sv_clT trivial e).2.1.1.trans hF
      clear e w hF
      have hF := hF2
      have w := w2
      clear hF2 w2
      refine sm_if (fun _ => ?_) (fun _ => ?_)
      · exact sm_L_law_866 (k18 := k18) (j18 := j18) hk18 w tx1 tx2
      · exact sm_rt w
    refine sm_if (fun _ => ?_) (fun _ => ?_)
    · refine sm_cl w (sm_X12_saveMap w.1 (w.k tx1 (by decide))) (fun r34 h2 e w2 => ?_)
      obtain ⟨F, hF2⟩ : ∃ F, sv_FP h2 = F := ⟨_, rfl⟩
      clear e w hF
      have hF := hF2
      have w := w2
      clear hF2 w2
      refine sm_cl w (sm_X17_saveMap w.1 (w.k tx2 (by decide))) (fun r36 h2 e w2 => ?_)
      have hF2 : sv_FP h2 = F := (ow_X17_saveMap sv_clT trivial e).2.1.1.trans hF
      clear e w hF
      have hF := hF2
      have w := w2
      clear hF2 w2
      refine sm_if (fun _ => ?_) (fun _ => ?_)
      · exact sm_L_law_866 (k18 := k18) (j18 := j18) hk18 w tx1 tx2
      · exact sm_rt w
    refine sm_if (fun _ => ?_) (fun _ => ?_)
    · refine sm_cl w (sm_X12_saveDemo w.1 (w.k tx1 (by decide))) (fun r38 h2 e w2 => ?_)
      obtain ⟨F, hF2⟩ : ∃ F, sv_FP h2 = F := ⟨_, rfl⟩
      clear e w hF
      have hF := hF2
      have w := w2
      clear hF2 w2
      refine sm_cl w (sm_X17_saveDemo w.1 (w.k tx2 (by decide))) (fun r40 h2 e w2 => ?_)
      have hF2 : sv_FP h2 = F := (ow_X17_saveDemo sv_clT trivial e).2.1.1.trans hF
      clear e w hF
      have hF := hF2
      have w := w2
      clear hF2 w2
      refine sm_if (fun _ => ?_) (fun _ => ?_)
      · exact sm_L_law_866 (k18 := k18) (j18 := j18) hk18 w tx1 tx2
      · exact sm_rt w
    refine sm_if (fun _ => ?_) (fun _ => ?_)
    · refine sm_cl w (sm_X12_turnBytes w.1 (w.k tx1 (by decide))) (fun _ h2 e w2 => ?_)
      obtain ⟨F, hF2⟩ : ∃ F, sv_FP h2 = F := ⟨_, rfl⟩
      clear e w hF
      have hF := hF2
      have w := w2
      clear hF2 w2
      refine sm_cl w (sm_X17_turnBytes w.1 (w.k tx2 (by decide))) (fun _ h2 e w2 => ?_)
      have hF2 : sv_FP h2 = F := (ow_X17_turnBytes sv_clT trivial e).2.1.1.trans hF
      clear e w hF
      have hF := hF2
      have w := w2
      clear hF2 w2
      exact sm_L_law_866 (k18 := k18) (j18 := j18) hk18 w tx1 tx2
    refine sm_if (fun _ => ?_) (fun _ => ?_)
    · refine sm_bd (fun _ => ?_)
      refine sm_bd (fun _ => ?_)
      refine sm_bd (fun _ => ?_)
      refine sm_bd (fun _ => ?_)
      refine sm_cl w (sm_X12_startAt w.1 (w.k tx1 (by decide))) (fun r48 h2 e w2 => ?_)
      obtain ⟨F, hF2⟩ : ∃ F, sv_FP h2 = F := ⟨_, rfl⟩
      clear e w hF
      have hF := hF2
      have w := w2
      clear hF2 w2
      refine sm_bd (fun _ => ?_)
      refine sm_bd (fun _ => ?_)
      refine sm_bd (fun _ => ?_)
      refine sm_bd (fun _ => ?_)
      refine sm_cl w (sm_X17_startAt w.1 (w.k tx2 (by decide))) (fun r54 h2 e w2 => ?_)
      have hF2 : sv_FP h2 = F := (ow_X17_startAt sv_clT trivial e).2.1.1.trans hF
      clear e w hF
      have hF := hF2
      have w := w2
      clear hF2 w2
      refine sm_if (fun _ => ?_) (fun _ => ?_)
      · exact sm_L_law_866 (k18 := k18) (j18 := j18) hk18 w tx1 tx2
      · exact sm_rt w
    refine sm_if (fun _ => ?_) (fun _ => ?_)
    · refine sm_bd (fun _ => ?_)
      refine sm_bd (fun _ => ?_)
      refine sm_bd (fun _ => ?_)
      refine sm_bd (fun _ => ?_)
      refine sm_if (fun _ => ?_) (fun _ => ?_)
      · exact sm_L_law_404 (k18 := k18) (j18 := j18) hk18 w tx1 tx2 tx1
      · exact sm_L_law_404 (k18 := k18) (j18 := j18) hk18 w tx1 tx2 tx1
    refine sm_if (fun _ => ?_) (fun _ => ?_)
    · refine sm_bd (fun _ => ?_)
      refine sm_cl w (sm_X12_dropInputs w.1 (w.k tx1 (by decide))) (fun r61 h2 e w2 => ?_)
      have hF2 : sv_FP h2 = F := (ow_X12_dropInputs sv_clT trivial e).2.1.1.trans hF
      clear e w hF
      have hF := hF2
      have w := w2
      clear hF2 w2
      refine sm_bd (fun _ => ?_)
      refine sm_cl w (sm_X17_dropInputs w.1 (w.k tx2 (by decide))) (fun r64 h2 e w2 => ?_)
      have hF2 : sv_FP h2 = F := (ow_X17_dropInputs sv_clT trivial e).2.1.1.trans hF
      clear e w hF
      have hF := hF2
      have w := w2
      clear hF2 w2
      refine sm_if (fun _ => ?_) (fun _ => ?_)
      · exact sm_L_law_866 (k18 := k18) (j18 := j18) hk18 w tx1 tx2
      · exact sm_rt w
    refine sm_if (fun _ => ?_) (fun _ => ?_)
    · refine sm_bd (fun _ => ?_)
      refine sm_cl w (sm_X12_playTo w.1 (w.k tx1 (by decide))) (fun r67 h2 e w2 => ?_)
      obtain ⟨F, hF2⟩ : ∃ F, sv_FP h2 = F := ⟨_, rfl⟩
      clear e w hF
      have hF := hF2
      have w := w2
      clear hF2 w2
      refine sm_bd (fun _ => ?_)
      refine sm_cl w (sm_X17_playTo w.1 (w.k tx2 (by decide))) (fun r70 h2 e w2 => ?_)
      have hF2 : sv_FP h2 = F := (ow_X17_playTo sv_clT trivial e).2.1.1.trans hF
      clear e w hF
      have hF := hF2
      have w := w2
      clear hF2 w2
      refine sm_if (fun _ => ?_) (fun _ => ?_)
      · exact sm_L_law_866 (k18 := k18) (j18 := j18) hk18 w tx1 tx2
      · exact sm_rt w
    refine sm_if (fun _ => ?_) (fun _ => ?_)
    · refine sm_bd (fun _ => ?_)
      refine sm_bd (fun _ => ?_)
      refine sm_bd (fun _ => ?_)
      refine sm_bd (fun _ => ?_)
      refine sm_if (fun _ => ?_) (fun _ => ?_)
      · exact sm_L_law_519 (k18 := k18) (j18 := j18) hk18 w tx1 tx2 tx1
      · exact sm_L_law_519 (k18 := k18) (j18 := j18) hk18 w tx1 tx2 tx1
    refine sm_if (fun _ => ?_) (fun _ => ?_)
    · refine sm_bd (fun _ => ?_)
      refine sm_cl w (sm_X12_walkerOf w.1 (w.k tx1 (by decide))) (fun r77 h2 e w2 => ?_)
      have hF2 : sv_FP h2 = F := by rw [ro_X12_walkerOf e]; exact hF
      clear e w hF
      have hF := hF2
      have w := w2
      clear hF2 w2
      refine sm_bd (fun _ => ?_)
      refine sm_cl w (sm_X17_walkerOf w.1 (w.k tx2 (by decide))) (fun r80 h2 e w2 => ?_)
      have hF2 : sv_FP h2 = F := (ow_X17_walkerOf sv_clT trivial e).2.1.1.trans hF
      clear e w hF
      have hF := hF2
      have w := w2
      clear hF2 w2
      refine sm_if (fun _ => ?_) (fun _ => ?_)
      · exact sm_L_law_866 (k18 := k18) (j18 := j18) hk18 w tx1 tx2
      · exact sm_rt w
    refine sm_if (fun _ => ?_) (fun _ => ?_)
    · refine sm_bd (fun _ => ?_)
      refine sm_bd (fun _ => ?_)
      refine sm_cl w (sm_X12_sectorOf w.1 (w.k tx1 (by decide))) (fun r84 h2 e w2 => ?_)
      have hF2 : sv_FP h2 = F := by rw [ro_X12_sectorOf e]; exact hF
      clear e w hF
      have hF := hF2
      have w := w2
      clear hF2 w2
      refine sm_bd (fun _ => ?_)
      refine sm_bd (fun _ => ?_)
      refine sm_cl w (sm_X17_sectorOf w.1 (w.k tx2 (by decide))) (fun r88 h2 e w2 => ?_)
      have hF2 : sv_FP h2 = F := (ow_X17_sectorOf sv_clT trivial e).2.1.1.trans hF
      clear e w hF
      have hF := hF2
      have w := w2
      clear hF2 w2
      refine sm_if (fun _ => ?_) (fun _ => ?_)
      · exact sm_L_law_866 (k18 := k18) (j18 := j18) hk18 w tx1 tx2
      · exact sm_rt w
    refine sm_if (fun _ => ?_) (fun _ => ?_)
    · refine sm_bd (fun _ => ?_)
      refine sm_bd (fun _ => ?_)
      refine sm_cl w (sm_X12_pixelAt w.1 (w.k tx1 (by decide))) (fun r92 h2 e w2 => ?_)
      have hF2 : sv_FP h2 = F := (ow_X12_pixelAt sv_clT trivial e).2.1.1.trans hF
      clear e w hF
      have hF := hF2
      have w := w2
      clear hF2 w2
      refine sm_bd (fun _ => ?_)
      refine sm_bd (fun _ => ?_)
      refine sm_cl w (sm_X17_pixelAt w.1 (w.k tx2 (by decide))) (fun r96 h2 e w2 => ?_)
      have hF2 : sv_FP h2 = F := (ow_X17_pixelAt sv_clT trivial e).2.1.1.trans hF
      clear e w hF
      have hF := hF2
      have w := w2
      clear hF2 w2
      refine sm_if (fun _ => ?_) (fun _ => ?_)
      · exact sm_L_law_866 (k18 := k18) (j18 := j18) hk18 w tx1 tx2
      · exact sm_rt w
    refine sm_if (fun _ => ?_) (fun _ => ?_)
    · refine sm_bd (fun _ => ?_)
      refine sm_bd (fun _ => ?_)
      refine sm_cl w (sm_X12_surfaceAt w.1 (w.k tx1 (by decide))) (fun r100 h2 e w2 => ?_)
      have hF2 : sv_FP h2 = F := (ow_X12_surfaceAt sv_clT trivial e).2.1.1.trans hF
      clear e w hF
      have hF := hF2
      have w := w2
      clear hF2 w2
      refine sm_bd (fun _ => ?_)
      refine sm_bd (fun _ => ?_)
      refine sm_cl w (sm_X17_surfaceAt w.1 (w.k tx2 (by decide))) (fun r104 h2 e w2 => ?_)
      have hF2 : sv_FP h2 = F := (ow_X17_surfaceAt sv_clT trivial e).2.1.1.trans hF
      clear e w hF
      have hF := hF2
      have w := w2
      clear hF2 w2
      refine sm_if (fun _ => ?_) (fun _ => ?_)
      · exact sm_L_law_866 (k18 := k18) (j18 := j18) hk18 w tx1 tx2
      · exact sm_rt w
    refine sm_if (fun _ => ?_) (fun _ => ?_)
    · refine sm_bd (fun _ => ?_)
      refine sm_bd (fun _ => ?_)
      refine sm_cl w (sm_X12_metAt w.1 (w.k tx1 (by decide))) (fun r108 h2 e w2 => ?_)
      have hF2 : sv_FP h2 = F := (ow_X12_metAt sv_clT trivial e).2.1.1.trans hF
      clear e w hF
      have hF := hF2
      have w := w2
      clear hF2 w2
      refine sm_bd (fun _ => ?_)
      refine sm_bd (fun _ => ?_)
      refine sm_cl w (sm_X17_metAt w.1 (w.k tx2 (by decide))) (fun r112 h2 e w2 => ?_)
      have hF2 : sv_FP h2 = F := (ow_X17_metAt sv_clT trivial e).2.1.1.trans hF
      clear e w hF
      have hF := hF2
      have w := w2
      clear hF2 w2
      refine sm_if (fun _ => ?_) (fun _ => ?_)
      · exact sm_L_law_866 (k18 := k18) (j18 := j18) hk18 w tx1 tx2
      · exact sm_rt w
    refine sm_if (fun _ => ?_) (fun _ => ?_)
    · refine sm_cl w (sm_X12_frameOf w.1 (w.k tx1 (by decide))) (fun r114 h2 e w2 => ?_)
      have hF2 : sv_FP h2 = F := (ow_X12_frameOf sv_clT trivial e).2.1.1.trans hF
      clear e w hF
      have hF := hF2
      have w := w2
      clear hF2 w2
      refine sm_cl w (sm_X17_frameOf w.1 (w.k tx2 (by decide))) (fun r116 h2 e w2 => ?_)
      have hF2 : sv_FP h2 = F := (ow_X17_frameOf sv_clT trivial e).2.1.1.trans hF
      clear e w hF
      have hF := hF2
      have w := w2
      clear hF2 w2
      refine sm_if (fun _ => ?_) (fun _ => ?_)
      · exact sm_L_law_866 (k18 := k18) (j18 := j18) hk18 w tx1 tx2
      · exact sm_rt w
    refine sm_if (fun _ => ?_) (fun _ => ?_)
    · refine sm_bd (fun _ => ?_)
      refine sm_bd (fun _ => ?_)
      refine sm_cl w (sm_X12_nodeOf w.1 (w.k tx1 (by decide))) (fun r120 h2 e w2 => ?_)
      have hF2 : sv_FP h2 = F := by rw [ro_X12_nodeOf e]; exact hF
      clear e w hF
      have hF := hF2
      have w := w2
      clear hF2 w2
      refine sm_bd (fun _ => ?_)
      refine sm_bd (fun _ => ?_)
      refine sm_cl w (sm_X17_nodeOf w.1 (w.k tx2 (by decide))) (fun r124 h2 e w2 => ?_)
      have hF2 : sv_FP h2 = F := (ow_X17_nodeOf sv_clT trivial e).2.1.1.trans hF
      clear e w hF
      have hF := hF2
      have w := w2
      clear hF2 w2
      refine sm_if (fun _ => ?_) (fun _ => ?_)
      · exact sm_L_law_866 (k18 := k18) (j18 := j18) hk18 w tx1 tx2
      · exact sm_rt w
    refine sm_if (fun _ => ?_) (fun _ => ?_)
    · refine sm_bd (fun _ => ?_)
      refine sm_bd (fun _ => ?_)
      refine sm_cl w (sm_X12_leafOf w.1 (w.k tx1 (by decide))) (fun r128 h2 e w2 => ?_)
      have hF2 : sv_FP h2 = F := by rw [ro_X12_leafOf e]; exact hF
      clear e w hF
      have hF := hF2
      have w := w2
      clear hF2 w2
      refine sm_bd (fun _ => ?_)
      refine sm_bd (fun _ => ?_)
      refine sm_cl w (sm_X17_leafOf w.1 (w.k tx2 (by decide))) (fun r132 h2 e w2 => ?_)
      have hF2 : sv_FP h2 = F := (ow_X17_leafOf sv_clT trivial e).2.1.1.trans hF
      clear e w hF
      have hF := hF2
      have w := w2
      clear hF2 w2
      refine sm_if (fun _ => ?_) (fun _ => ?_)
      · exact sm_L_law_866 (k18 := k18) (j18 := j18) hk18 w tx1 tx2
      · exact sm_rt w
    refine sm_if (fun _ => ?_) (fun _ => ?_)
    · refine sm_bd (fun _ => ?_)
      refine sm_bd (fun _ => ?_)
      refine sm_if (fun _ => ?_) (fun _ => ?_)
      · exact sm_L_law_813 (k18 := k18) (j18 := j18) hk18 w tx1 tx2 tx1
      · exact sm_L_law_813 (k18 := k18) (j18 := j18) hk18 w tx1 tx2 tx1
    refine sm_if (fun _ => ?_) (fun _ => ?_)
    · refine sm_bd (fun _ => ?_)
      refine sm_cl w (sm_X12_lookAt w.1 (w.k tx1 (by decide))) (fun r137 h2 e w2 => ?_)
      have hF2 : sv_FP h2 = F := by rw [ro_X12_lookAt e]; exact hF
      clear e w hF
      have hF := hF2
      have w := w2
      clear hF2 w2
      refine sm_bd (fun _ => ?_)
      refine sm_cl w (sm_X17_lookAt w.1 (w.k tx2 (by decide))) (fun r140 h2 e w2 => ?_)
      have hF2 : sv_FP h2 = F := (ow_X17_lookAt sv_clT trivial e).2.1.1.trans hF
      clear e w hF
      have hF := hF2
      have w := w2
      clear hF2 w2
      refine sm_if (fun _ => ?_) (fun _ => ?_)
      · exact sm_L_law_866 (k18 := k18) (j18 := j18) hk18 w tx1 tx2
      · exact sm_rt w
    exact sm_L_law_866 (k18 := k18) (j18 := j18) hk18 w tx1 tx2
theorem sm_L_law_18 {xs : Nat → Int32} {L : Nat} {h0 : sv_H} : ∀ (n : Nat) {x1 : Nat} {x2 : Nat} {x3 : Int32} {h : sv_H}, vt_W h0 h → sv_K h0 x1 = 13 → sv_K h0 x2 = 18 → vt_sm h0 (fn_L_law_18 xs L n x1 x2 x3 h) (ab_L_law_18 xs L n x1 x2 x3 (vt_ab h)) := by
  intro n
  induction n with
  | zero => intro x1 x2 x3 h w tx1 tx2; exact sm_no
  | succ n ih => intro x1 x2 x3 h w tx1 tx2; exact sm_L_law_18b (k18 := fn_L_law_18 xs L n) (j18 := ab_L_law_18 xs L n) (fun w tx1 tx2 => ih w tx1 tx2) w tx1 tx2

