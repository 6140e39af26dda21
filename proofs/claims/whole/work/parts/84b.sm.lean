theorem sm_X14_readAll_403 {h0 : sv_H} {h : sv_H} (w : vt_W h0 h) : vt_sm h0 (fn_X14_readAll_403 h) (ab_X14_readAll_403 (vt_ab h)) := by
  unfold fn_X14_readAll_403 ab_X14_readAll_403
  obtain ⟨F, hF⟩ : ∃ F, sv_FP h = F := ⟨_, rfl⟩
  exact sm_rt w
theorem sm_X14_readAll_397 {h0 : sv_H} {k317 : Nat → Int32 → Int32 → Int32 → sv_H → Option (Unit × sv_H)} {j317 : Nat → Int32 → Int32 → Int32 → vt_S → Option (Unit × vt_S)} (hk317 : ∀ {x0 : Nat} {x4 : Int32} {x5 : Int32} {x12 : Int32} {h : sv_H}, vt_W h0 h → sv_K h0 x0 = 15 → vt_sm h0 (k317 x0 x4 x5 x12 h) (j317 x0 x4 x5 x12 (vt_ab h))) {x0 : Nat} {x4 : Int32} {x5 : Int32} {x12 : Int32} {h : sv_H} (w : vt_W h0 h) (tx0 : sv_K h0 x0 = 15) : vt_sm h0 (fn_X14_readAll_397 k317 x0 x4 x5 x12 h) (ab_X14_readAll_397 j317 x0 x4 x5 x12 (vt_ab h)) := by
  unfold fn_X14_readAll_397 ab_X14_readAll_397
  obtain ⟨F, hF⟩ : ∃ F, sv_FP h = F := ⟨_, rfl⟩
  exact hk317 w tx0
theorem sm_X14_readAll_391 {h0 : sv_H} {k317 : Nat → Int32 → Int32 → Int32 → sv_H → Option (Unit × sv_H)} {j317 : Nat → Int32 → Int32 → Int32 → vt_S → Option (Unit × vt_S)} (hk317 : ∀ {x0 : Nat} {x4 : Int32} {x5 : Int32} {x12 : Int32} {h : sv_H}, vt_W h0 h → sv_K h0 x0 = 15 → vt_sm h0 (k317 x0 x4 x5 x12 h) (j317 x0 x4 x5 x12 (vt_ab h))) {k334 : Nat → Int32 → Int32 → Int32 → Int32 → sv_H → Option (Unit × sv_H)} {j334 : Nat → Int32 → Int32 → Int32 → Int32 → vt_S → Option (Unit × vt_S)} (hk334 : ∀ {x0 : Nat} {x4 : Int32} {x5 : Int32} {x12 : Int32} {x13 : Int32} {h : sv_H}, vt_W h0 h → sv_K h0 x0 = 15 → vt_sm h0 (k334 x0 x4 x5 x12 x13 h) (j334 x0 x4 x5 x12 x13 (vt_ab h))) {x0 : Nat} {x4 : Int32} {x5 : Int32} {x12 : Int32} {x13 : Int32} {h : sv_H} (w : vt_W h0 h) (tx0 : sv_K h0 x0 = 15) : vt_sm h0 (fn_X14_readAll_391 k317 k334 x0 x4 x5 x12 x13 h) (ab_X14_readAll_391 j317 j334 x0 x4 x5 x12 x13 (vt_ab h)) := by
  unfold fn_X14_readAll_391 ab_X14_readAll_391
  obtain ⟨F, hF⟩ : ∃ F, sv_FP h = F := ⟨_, rfl⟩
  exact hk334 w tx0
theorem sm_X14_readAll_334b {h0 : sv_H} {k317 : Nat → Int32 → Int32 → Int32 → sv_H → Option (Unit × sv_H)} {j317 : Nat → Int32 → Int32 → Int32 → vt_S → Option (Unit × vt_S)} (hk317 : ∀ {x0 : Nat} {x4 : Int32} {x5 : Int32} {x12 : Int32} {h : sv_H}, vt_W h0 h → sv_K h0 x0 = 15 → vt_sm h0 (k317 x0 x4 x5 x12 h) (j317 x0 x4 x5 x12 (vt_ab h))) {k334 : Nat → Int32 → Int32 → Int32 → Int32 → sv_H → Option (Unit × sv_H)} {j334 : Nat → Int32 → Int32 → Int32 → Int32 → vt_S → Option (Unit × vt_S)} (hk334 : ∀ {x0 : Nat} {x4 : Int32} {x5 : Int32} {x12 : Int32} {x13 : Int32} {h : sv_H}, vt_W h0 h → sv_K h0 x0 = 15 → vt_sm h0 (k334 x0 x4 x5 x12 x13 h) (j334 x0 x4 x5 x12 x13 (vt_ab h))) {x0 : Nat} {x4 : Int32} {x5 : Int32} {x12 : Int32} {x13 : Int32} {h : sv_H} (w : vt_W h0 h) (tx0 : sv_K h0 x0 = 15) : vt_sm h0 (fn_X14_readAll_334b k317 k334 x0 x4 x5 x12 x13 h) (ab_X14_readAll_334b j317 j334 x0 x4 x5 x12 x13 (vt_ab h)) := by
  unfold fn_X14_readAll_334b ab_X14_readAll_334b
  obtain ⟨F, hF⟩ : ∃ F, sv_FP h = F := ⟨_, rfl⟩
  refine sm_if (fun _ => ?_) (fun _ => ?_)
  · exact sm_X14_readAll_397 (k317 := k317) (j317 := j317) hk317 w tx0
  · refine sm_gI w tx0 (by decide) (fun v1 => ?_)
    refine sm_if (fun _ => ?_) (fun _ => ?_)
    · refine sm_cl w (sm_X14_touch w.1 (w.k tx0 (by decide))) (fun r2 h2 e w2 => ?_)
      have hF2 : sv_FP h2 = F := by rw [ro_X14_touch e]; exact hF
      clear e w hF
      have hF := hF2
      have w := w2
      clear hF2 w2
      refine sm_if (fun _ => ?_) (fun _ => ?_)
      · exact sm_X14_readAll_391 (k317 := k317) (j317 := j317) (k334 := k334) (j334 := j334) hk317 hk334 w tx0
      · refine sm_cl w (sm_X14_wrong w.1 (w.k tx0 (by decide))) (fun _ h2 e w2 => ?_)
        have hF2 : sv_FP h2 = F := (ow_X14_wrong sv_clT trivial e).2.1.1.trans hF
        clear e w hF
        have hF := hF2
        have w := w2
        clear hF2 w2
        refine sm_pI w hF tx0 (by decide) (fun h w hF => ?_)
        exact sm_X14_readAll_391 (k317 := k317) (j317 := j317) (k334 := k334) (j334 := j334) hk317 hk334 w tx0
    · exact sm_X14_readAll_397 (k317 := k317) (j317 := j317) hk317 w tx0
theorem sm_X14_readAll_334 {h0 : sv_H} {k317 : Nat → Int32 → Int32 → Int32 → sv_H → Option (Unit × sv_H)} {j317 : Nat → Int32 → Int32 → Int32 → vt_S → Option (Unit × vt_S)} (hk317 : ∀ {x0 : Nat} {x4 : Int32} {x5 : Int32} {x12 : Int32} {h : sv_H}, vt_W h0 h → sv_K h0 x0 = 15 → vt_sm h0 (k317 x0 x4 x5 x12 h) (j317 x0 x4 x5 x12 (vt_ab h))) : ∀ (n : Nat) {x0 : Nat} {x4 : Int32} {x5 : Int32} {x12 : Int32} {x13 : Int32} {h : sv_H}, vt_W h0 h → sv_K h0 x0 = 15 → vt_sm h0 (fn_X14_readAll_334 k317 n x0 x4 x5 x12 x13 h) (ab_X14_readAll_334 j317 n x0 x4 x5 x12 x13 (vt_ab h)) := by
  intro n
  induction n with
  | zero => intro x0 x4 x5 x12 x13 h w tx0; exact sm_no
  | succ n ih => intro x0 x4 x5 x12 x13 h w tx0; exact sm_X14_readAll_334b (k317 := k317) (j317 := j317) (k334 := fn_X14_readAll_334 k317 n) (j334 := ab_X14_readAll_334 j317 n) hk317 (fun w tx0 => ih w tx0) w tx0
theorem sm_X14_readAll_317b {h0 : sv_H} {k317 : Nat → Int32 → Int32 → Int32 → sv_H → Option (Unit × sv_H)} {j317 : Nat → Int32 → Int32 → Int32 → vt_S → Option (Unit × vt_S)} (hk317 : ∀ {x0 : Nat} {x4 : Int32} {x5 : Int32} {x12 : Int32} {h : sv_H}, vt_W h0 h → sv_K h0 x0 = 15 → vt_sm h0 (k317 x0 x4 x5 x12 h) (j317 x0 x4 x5 x12 (vt_ab h))) {x0 : Nat} {x4 : Int32} {x5 : Int32} {x12 : Int32} {h : sv_H} (w : vt_W h0 h) (tx0 : sv_K h0 x0 = 15) : vt_sm h0 (fn_X14_readAll_317b k317 x0 x4 x5 x12 h) (ab_X14_readAll_317b j317 x0 x4 x5 x12 (vt_ab h)) := by
  unfold fn_X14_readAll_317b ab_X14_readAll_317b
  obtain ⟨F, hF⟩ : ∃ F, sv_FP h = F := ⟨_, rfl⟩
  refine sm_if (fun _ => ?_) (fun _ => ?_)
  · exact sm_X14_readAll_403 w
  · refine sm_gI w tx0 (by decide) (fun v1 => ?_)
    refine sm_if (fun _ => ?_) (fun _ => ?_)
    · exact sm_X14_readAll_334 (k317 := k317) (j317 := j317) hk317 sv_fuel w tx0
    · exact sm_X14_readAll_403 w
theorem sm_X14_readAll_317 {h0 : sv_H} : ∀ (n : Nat) {x0 : Nat} {x4 : Int32} {x5 : Int32} {x12 : Int32} {h : sv_H}, vt_W h0 h → sv_K h0 x0 = 15 → vt_sm h0 (fn_X14_readAll_317 n x0 x4 x5 x12 h) (ab_X14_readAll_317 n x0 x4 x5 x12 (vt_ab h)) := by
  intro n
  induction n with
  | zero => intro x0 x4 x5 x12 h w tx0; exact sm_no
  | succ n ih => intro x0 x4 x5 x12 h w tx0; exact sm_X14_readAll_317b (k317 := fn_X14_readAll_317 n) (j317 := ab_X14_readAll_317 n) (fun w tx0 => ih w tx0) w tx0
theorem sm_X14_readAll_314 {h0 : sv_H} {x0 : Nat} {x4 : Int32} {x5 : Int32} {h : sv_H} (w : vt_W h0 h) (tx0 : sv_K h0 x0 = 15) : vt_sm h0 (fn_X14_readAll_314 x0 x4 x5 h) (ab_X14_readAll_314 x0 x4 x5 (vt_ab h)) := by
  unfold fn_X14_readAll_314 ab_X14_readAll_314
  obtain ⟨F, hF⟩ : ∃ F, sv_FP h = F := ⟨_, rfl⟩
  exact sm_X14_readAll_317 sv_fuel w tx0
theorem sm_X14_readAll_220 {h0 : sv_H} {x0 : Nat} {x3 : Int32} {x4 : Int32} {x5 : Int32} {h : sv_H} (w : vt_W h0 h) (tx0 : sv_K h0 x0 = 15) : vt_sm h0 (fn_X14_readAll_220 x0 x3 x4 x5 h) (ab_X14_readAll_220 x0 x3 x4 x5 (vt_ab h)) := by
  unfold fn_X14_readAll_220 ab_X14_readAll_220
  obtain ⟨F, hF⟩ : ∃ F, sv_FP h = F := ⟨_, rfl⟩
  refine sm_cl w (sm_X14_nextTwo w.1 (w.k tx0 (by decide))) (fun r1 h2 e w2 => ?_)
  have hF2 : sv_FP h2 = F := (ow_X14_nextTwo sv_clT trivial e).2.1.1.trans hF
  clear e w hF
  have hF := hF2
  have w := w2
  clear hF2 w2
  refine sm_cl w (sm_X14_nextTwo w.1 (w.k tx0 (by decide))) (fun r3 h2 e w2 => ?_)
  have hF2 : sv_FP h2 = F := (ow_X14_nextTwo sv_clT trivial e).2.1.1.trans hF
  clear e w hF
  have hF := hF2
  have w := w2
  clear hF2 w2
  refine sm_cl w (sm_X14_next w.1 (w.k tx0 (by decide))) (fun r5 h2 e w2 => ?_)
  have hF2 : sv_FP h2 = F := (ow_X14_next sv_clT trivial e).2.1.1.trans hF
  clear e w hF
  have hF := hF2
  have w := w2
  clear hF2 w2
  refine sm_cl w (sm_X14_next w.1 (w.k tx0 (by decide))) (fun r7 h2 e w2 => ?_)
  have hF2 : sv_FP h2 = F := (ow_X14_next sv_clT trivial e).2.1.1.trans hF
  clear e w hF
  have hF := hF2
  have w := w2
  clear hF2 w2
  refine sm_gI w tx0 (by decide) (fun v9 => ?_)
  refine sm_gI w tx0 (by decide) (fun v10 => ?_)
  refine sm_cl w (sm_X14_readCheck w.1 (w.k tx0 (by decide))) (fun _ h2 e w2 => ?_)
  have hF2 : sv_FP h2 = F := (ow_X14_readCheck sv_clT trivial e).2.1.1.trans hF
  clear e w hF
  have hF := hF2
  have w := w2
  clear hF2 w2
  refine sm_cl w (sm_X14_readCheck w.1 (w.k tx0 (by decide))) (fun _ h2 e w2 => ?_)
  have hF2 : sv_FP h2 = F := (ow_X14_readCheck sv_clT trivial e).2.1.1.trans hF
  clear e w hF
  have hF := hF2
  have w := w2
  clear hF2 w2
  refine sm_gI w tx0 (by decide) (fun v13 => ?_)
  refine sm_if (fun _ => ?_) (fun _ => ?_)
  · refine sm_gI w tx0 (by decide) (fun v14 => ?_)
    refine sm_gI w tx0 (by decide) (fun v15 => ?_)
    refine sm_if (fun _ => ?_) (fun _ => ?_)
    · exact sm_X14_readAll_314 w tx0
    · refine sm_gI w tx0 (by decide) (fun v16 => ?_)
      refine sm_cl w (sm_X14_wrong w.1 (w.k tx0 (by decide))) (fun _ h2 e w2 => ?_)
      have hF2 : sv_FP h2 = F := (ow_X14_wrong sv_clT trivial e).2.1.1.trans hF
      clear e w hF
      have hF := hF2
      have w := w2
      clear hF2 w2
      exact sm_X14_readAll_314 w tx0
  · exact sm_X14_readAll_314 w tx0
theorem sm_X14_readAll_193b {h0 : sv_H} {k193 : Nat → Int32 → Int32 → Int32 → Int32 → Int32 → Int32 → sv_H → Option (Unit × sv_H)} {j193 : Nat → Int32 → Int32 → Int32 → Int32 → Int32 → Int32 → vt_S → Option (Unit × vt_S)} (hk193 : ∀ {x0 : Nat} {x1 : Int32} {x2 : Int32} {x3 : Int32} {x4 : Int32} {x5 : Int32} {x6 : Int32} {h : sv_H}, vt_W h0 h → sv_K h0 x0 = 15 → vt_sm h0 (k193 x0 x1 x2 x3 x4 x5 x6 h) (j193 x0 x1 x2 x3 x4 x5 x6 (vt_ab h))) {x0 : Nat} {x1 : Int32} {x2 : Int32} {x3 : Int32} {x4 : Int32} {x5 : Int32} {x6 : Int32} {h : sv_H} (w : vt_W h0 h) (tx0 : sv_K h0 x0 = 15) : vt_sm h0 (fn_X14_readAll_193b k193 x0 x1 x2 x3 x4 x5 x6 h) (ab_X14_readAll_193b j193 x0 x1 x2 x3 x4 x5 x6 (vt_ab h)) := by
  unfold fn_X14_readAll_193b ab_X14_readAll_193b
  obtain ⟨F, hF⟩ : ∃ F, sv_FP h = F := ⟨_, rfl⟩
  refine sm_if (fun _ => ?_) (fun _ => ?_)
  · exact sm_X14_readAll_220 w tx0
  · refine sm_gI w tx0 (by decide) (fun v1 => ?_)
    refine sm_if (fun _ => ?_) (fun _ => ?_)
    · refine sm_cl w (sm_X14_readWall w.1 (w.k tx0 (by decide))) (fun _ h2 e w2 => ?_)
      have hF2 : sv_FP h2 = F := (ow_X14_readWall sv_clT trivial e).2.1.1.trans hF
      clear e w hF
      have hF := hF2
      have w := w2
      clear hF2 w2
      exact hk193 w tx0
    · exact sm_X14_readAll_220 w tx0
theorem sm_X14_readAll_193 {h0 : sv_H} : ∀ (n : Nat) {x0 : Nat} {x1 : Int32} {x2 : Int32} {x3 : Int32} {x4 : Int32} {x5 : Int32} {x6 : Int32} {h : sv_H}, vt_W h0 h → sv_K h0 x0 = 15 → vt_sm h0 (fn_X14_readAll_193 n x0 x1 x2 x3 x4 x5 x6 h) (ab_X14_readAll_193 n x0 x1 x2 x3 x4 x5 x6 (vt_ab h)) := by
  intro n
  induction n with
  | zero => intro x0 x1 x2 x3 x4 x5 x6 h w tx0; exact sm_no
  | succ n ih => intro x0 x1 x2 x3 x4 x5 x6 h w tx0; exact sm_X14_readAll_193b (k193 := fn_X14_readAll_193 n) (j193 := ab_X14_readAll_193 n) (fun w tx0 => ih w tx0) w tx0
theorem sm_X14_readAll_184 {h0 : sv_H} {x0 : Nat} {x1 : Int32} {x2 : Int32} {x3 : Int32} {x4 : Int32} {h : sv_H} (w : vt_W h0 h) (tx0 : sv_K h0 x0 = 15) : vt_sm h0 (fn_X14_readAll_184 x0 x1 x2 x3 x4 h) (ab_X14_readAll_184 x0 x1 x2 x3 x4 (vt_ab h)) := by
  unfold fn_X14_readAll_184 ab_X14_readAll_184
  obtain ⟨F, hF⟩ : ∃ F, sv_FP h = F := ⟨_, rfl⟩
  refine sm_gI w tx0 (by decide) (fun v1 => ?_)
  exact sm_X14_readAll_193 sv_fuel w tx0
theorem sm_X14_readAll_160b {h0 : sv_H} {k160 : Nat → Int32 → Int32 → Int32 → Int32 → Int32 → sv_H → Option (Unit × sv_H)} {j160 : Nat → Int32 → Int32 → Int32 → Int32 → Int32 → vt_S → Option (Unit × vt_S)} (hk160 : ∀ {x0 : Nat} {x1 : Int32} {x2 : Int32} {x3 : Int32} {x4 : Int32} {x5 : Int32} {h : sv_H}, vt_W h0 h → sv_K h0 x0 = 15 → vt_sm h0 (k160 x0 x1 x2 x3 x4 x5 h) (j160 x0 x1 x2 x3 x4 x5 (vt_ab h))) {x0 : Nat} {x1 : Int32} {x2 : Int32} {x3 : Int32} {x4 : Int32} {x5 : Int32} {h : sv_H} (w : vt_W h0 h) (tx0 : sv_K h0 x0 = 15) : vt_sm h0 (fn_X14_readAll_160b k160 x0 x1 x2 x3 x4 x5 h) (ab_X14_readAll_160b j160 x0 x1 x2 x3 x4 x5 (vt_ab h)) := by
  unfold fn_X14_readAll_160b ab_X14_readAll_160b
  obtain ⟨F, hF⟩ : ∃ F, sv_FP h = F := ⟨_, rfl⟩
  refine sm_if (fun _ => ?_) (fun _ => ?_)
  · exact sm_X14_readAll_184 w tx0
  · refine sm_gI w tx0 (by decide) (fun v1 => ?_)
    refine sm_if (fun _ => ?_) (fun _ => ?_)
    · refine sm_cl w (sm_X14_readSector w.1 (w.k tx0 (by decide))) (fun _ h2 e w2 => ?_)
      have hF2 : sv_FP h2 = F := (ow_X14_readSector sv_clT trivial e).2.1.1.trans hF
      clear e w hF
      have hF := hF2
      have w := w2
      clear hF2 w2
      exact hk160 w tx0
    · exact sm_X14_readAll_184 w tx0
theorem sm_X14_readAll_160 {h0 : sv_H} : ∀ (n : Nat) {x0 : Nat} {x1 : Int32} {x2 : Int32} {x3 : Int32} {x4 : Int32} {x5 : Int32} {h : sv_H}, vt_W h0 h → sv_K h0 x0 = 15 → vt_sm h0 (fn_X14_readAll_160 n x0 x1 x2 x3 x4 x5 h) (ab_X14_readAll_160 n x0 x1 x2 x3 x4 x5 (vt_ab h)) := by
  intro n
  induction n with
  | zero => intro x0 x1 x2 x3 x4 x5 h w tx0; exact sm_no
  | succ n ih => intro x0 x1 x2 x3 x4 x5 h w tx0; exact sm_X14_readAll_160b (k160 := fn_X14_readAll_160 n) (j160 := ab_X14_readAll_160 n) (fun w tx0 => ih w tx0) w tx0
theorem sm_X14_readAll_157 {h0 : sv_H} {x0 : Nat} {x1 : Int32} {x2 : Int32} {x3 : Int32} {x4 : Int32} {h : sv_H} (w : vt_W h0 h) (tx0 : sv_K h0 x0 = 15) : vt_sm h0 (fn_X14_readAll_157 x0 x1 x2 x3 x4 h) (ab_X14_readAll_157 x0 x1 x2 x3 x4 (vt_ab h)) := by
  unfold fn_X14_readAll_157 ab_X14_readAll_157
  obtain ⟨F, hF⟩ : ∃ F, sv_FP h = F := ⟨_, rfl⟩
  exact sm_X14_readAll_160 sv_fuel w tx0
theorem sm_X14_readAll_134b {h0 : sv_H} {k134 : Nat → Int32 → Int32 → Int32 → Int32 → Int32 → sv_H → Option (Unit × sv_H)} {j134 : Nat → Int32 → Int32 → Int32 → Int32 → Int32 → vt_S → Option (Unit × vt_S)} (hk134 : ∀ {x0 : Nat} {x1 : Int32} {x2 : Int32} {x3 : Int32} {x4 : Int32} {x5 : Int32} {h : sv_H}, vt_W h0 h → sv_K h0 x0 = 15 → vt_sm h0 (k134 x0 x1 x2 x3 x4 x5 h) (j134 x0 x1 x2 x3 x4 x5 (vt_ab h))) {x0 : Nat} {x1 : Int32} {x2 : Int32} {x3 : Int32} {x4 : Int32} {x5 : Int32} {h : sv_H} (w : vt_W h0 h) (tx0 : sv_K h0 x0 = 15) : vt_sm h0 (fn_X14_readAll_134b k134 x0 x1 x2 x3 x4 x5 h) (ab_X14_readAll_134b j134 x0 x1 x2 x3 x4 x5 (vt_ab h)) := by
  unfold fn_X14_readAll_134b ab_X14_readAll_134b
  obtain ⟨F, hF⟩ : ∃ F, sv_FP h = F := ⟨_, rfl⟩
  refine sm_if (fun _ => ?_) (fun _ => ?_)
  · exact sm_X14_readAll_157 w tx0
  · refine sm_gI w tx0 (by decide) (fun v1 => ?_)
    refine sm_if (fun _ => ?_) (fun _ => ?_)
    · refine sm_cl w (sm_X14_readTexture w.1 (w.k tx0 (by decide))) (fun _ h2 e w2 => ?_)
      have hF2 : sv_FP h2 = F := (ow_X14_readTexture sv_clT trivial e).2.1.1.trans hF
      clear e w hF
      have hF := hF2
      have w := w2
      clear hF2 w2
      exact hk134 w tx0
    · exact sm_X14_readAll_157 w tx0
theorem sm_X14_readAll_134 {h0 : sv_H} : ∀ (n : Nat) {x0 : Nat} {x1 : Int32} {x2 : Int32} {x3 : Int32} {x4 : Int32} {x5 : Int32} {h : sv_H}, vt_W h0 h → sv_K h0 x0 = 15 → vt_sm h0 (fn_X14_readAll_134 n x0 x1 x2 x3 x4 x5 h) (ab_X14_readAll_134 n x0 x1 x2 x3 x4 x5 (vt_ab h)) := by
  intro n
  induction n with
  | zero => intro x0 x1 x2 x3 x4 x5 h w tx0; exact sm_no
  | succ n ih => intro x0 x1 x2 x3 x4 x5 h w tx0; exact sm_X14_readAll_134b (k134 := fn_X14_readAll_134 n) (j134 := ab_X14_readAll_134 n) (fun w tx0 => ih w tx0) w tx0
theorem sm_X14_readAll_131 {h0 : sv_H} {x0 : Nat} {x1 : Int32} {x2 : Int32} {x3 : Int32} {x4 : Int32} {h : sv_H} (w : vt_W h0 h) (tx0 : sv_K h0 x0 = 15) : vt_sm h0 (fn_X14_readAll_131 x0 x1 x2 x3 x4 h) (ab_X14_readAll_131 x0 x1 x2 x3 x4 (vt_ab h)) := by
  unfold fn_X14_readAll_131 ab_X14_readAll_131
  obtain ⟨F, hF⟩ : ∃ F, sv_FP h = F := ⟨_, rfl⟩
  exact sm_X14_readAll_134 sv_fuel w tx0
theorem sm_X14_readAll_106b {h0 : sv_H} {k106 : Nat → Int32 → Int32 → Int32 → Int32 → Int32 → sv_H → Option (Unit × sv_H)} {j106 : Nat → Int32 → Int32 → Int32 → Int32 → Int32 → vt_S → Option (Unit × vt_S)} (hk106 : ∀ {x0 : Nat} {x1 : Int32} {x2 : Int32} {x3 : Int32} {x4 : Int32} {x5 : Int32} {h : sv_H}, vt_W h0 h → sv_K h0 x0 = 15 → vt_sm h0 (k106 x0 x1 x2 x3 x4 x5 h) (j106 x0 x1 x2 x3 x4 x5 (vt_ab h))) {x0 : Nat} {x1 : Int32} {x2 : Int32} {x3 : Int32} {x4 : Int32} {x5 : Int32} {h : sv_H} (w : vt_W h0 h) (tx0 : sv_K h0 x0 = 15) : vt_sm h0 (fn_X14_readAll_106b k106 x0 x1 x2 x3 x4 x5 h) (ab_X14_readAll_106b j106 x0 x1 x2 x3 x4 x5 (vt_ab h)) := by
  unfold fn_X14_readAll_106b ab_X14_readAll_106b
  obtain ⟨F, hF⟩ : ∃ F, sv_FP h = F := ⟨_, rfl⟩
  refine sm_if (fun _ => ?_) (fun _ => ?_)
  · exact sm_X14_readAll_131 w tx0
  · refine sm_gI w tx0 (by decide) (fun v1 => ?_)
    refine sm_if (fun _ => ?_) (fun _ => ?_)
    · refine sm_cl w (sm_X14_readVertex w.1 (w.k tx0 (by decide))) (fun _ h2 e w2 => ?_)
      have hF2 : sv_FP h2 = F := (ow_X14_readVertex sv_clT trivial e).2.1.1.trans hF
      clear e w hF
      have hF := hF2
      have w := w2
      clear hF2 w2
      exact hk106 w tx0
    · exact sm_X14_readAll_131 w tx0
theorem sm_X14_readAll_106 {h0 : sv_H} : ∀ (n : Nat) {x0 : Nat} {x1 : Int32} {x2 : Int32} {x3 : Int32} {x4 : Int32} {x5 : Int32} {h : sv_H}, vt_W h0 h → sv_K h0 x0 = 15 → vt_sm h0 (fn_X14_readAll_106 n x0 x1 x2 x3 x4 x5 h) (ab_X14_readAll_106 n x0 x1 x2 x3 x4 x5 (vt_ab h)) := by
  intro n
  induction n with
  | zero => intro x0 x1 x2 x3 x4 x5 h w tx0; exact sm_no
  | succ n ih => intro x0 x1 x2 x3 x4 x5 h w tx0; exact sm_X14_readAll_106b (k106 := fn_X14_readAll_106 n) (j106 := ab_X14_readAll_106 n) (fun w tx0 => ih w tx0) w tx0
theorem sm_X14_readAll_68 {h0 : sv_H} {x0 : Nat} {h : sv_H} (w : vt_W h0 h) (tx0 : sv_K h0 x0 = 15) : vt_sm h0 (fn_X14_readAll_68 x0 h) (ab_X14_readAll_68 x0 (vt_ab h)) := by
  unfold fn_X14_readAll_68 ab_X14_readAll_68
  obtain ⟨F, hF⟩ : ∃ F, sv_FP h = F := ⟨_, rfl⟩
  refine sm_cl w (sm_X14_next w.1 (w.k tx0 (by decide))) (fun r1 h2 e w2 => ?_)
  have hF2 : sv_FP h2 = F := (ow_X14_next sv_clT trivial e).2.1.1.trans hF
  clear e w hF
  have hF := hF2
  have w := w2
  clear hF2 w2
  refine sm_cl w (sm_X14_next w.1 (w.k tx0 (by decide))) (fun r3 h2 e w2 => ?_)
  have hF2 : sv_FP h2 = F := (ow_X14_next sv_clT trivial e).2.1.1.trans hF
  clear e w hF
  have hF := hF2
  have w := w2
  clear hF2 w2
  refine sm_cl w (sm_X14_next w.1 (w.k tx0 (by decide))) (fun r5 h2 e w2 => ?_)
  have hF2 : sv_FP h2 = F := (ow_X14_next sv_clT trivial e).2.1.1.trans hF
  clear e w hF
  have hF := hF2
  have w := w2
  clear hF2 w2
  refine sm_cl w (sm_X14_next w.1 (w.k tx0 (by decide))) (fun r7 h2 e w2 => ?_)
  have hF2 : sv_FP h2 = F := (ow_X14_next sv_clT trivial e).2.1.1.trans hF
  clear e w hF
  have hF := hF2
  have w := w2
  clear hF2 w2
  exact sm_X14_readAll_106 sv_fuel w tx0
theorem sm_X14_readAll_62 {h0 : sv_H} {k2 : Nat → Int32 → sv_H → Option (Unit × sv_H)} {j2 : Nat → Int32 → vt_S → Option (Unit × vt_S)} (hk2 : ∀ {x0 : Nat} {x1 : Int32} {h : sv_H}, vt_W h0 h → sv_K h0 x0 = 15 → vt_sm h0 (k2 x0 x1 h) (j2 x0 x1 (vt_ab h))) {x0 : Nat} {x1 : Int32} {h : sv_H} (w : vt_W h0 h) (tx0 : sv_K h0 x0 = 15) : vt_sm h0 (fn_X14_readAll_62 k2 x0 x1 h) (ab_X14_readAll_62 j2 x0 x1 (vt_ab h)) := by
  unfold fn_X14_readAll_62 ab_X14_readAll_62
  obtain ⟨F, hF⟩ : ∃ F, sv_FP h = F := ⟨_, rfl⟩
  exact hk2 w tx0
theorem sm_X14_readAll_34 {h0 : sv_H} {k2 : Nat → Int32 → sv_H → Option (Unit × sv_H)} {j2 : Nat → Int32 → vt_S → Option (Unit × vt_S)} (hk2 : ∀ {x0 : Nat} {x1 : Int32} {h : sv_H}, vt_W h0 h → sv_K h0 x0 = 15 → vt_sm h0 (k2 x0 x1 h) (j2 x0 x1 (vt_ab h))) {x0 : Nat} {x1 : Int32} {s0 : Int32} {h : sv_H} (w : vt_W h0 h) (tx0 : sv_K h0 x0 = 15) : vt_sm h0 (fn_X14_readAll_34 k2 x0 x1 s0 h) (ab_X14_readAll_34 j2 x0 x1 s0 (vt_ab h)) := by
  unfold fn_X14_readAll_34 ab_X14_readAll_34
  obtain ⟨F, hF⟩ : ∃ F, sv_FP h = F := ⟨_, rfl⟩
  refine sm_cl w (sm_X14_next w.1 (w.k tx0 (by decide))) (fun r1 h2 e w2 => ?_)
  have hF2 : sv_FP h2 = F := (ow_X14_next sv_clT trivial e).2.1.1.trans hF
  clear e w hF
  have hF := hF2
  have w := w2
  clear hF2 w2
  refine sm_gI w tx0 (by decide) (fun v3 => ?_)
  refine sm_if (fun _ => ?_) (fun _ => ?_)
  · refine sm_if (fun _ => ?_) (fun _ => ?_)
    · exact sm_X14_readAll_62 (k2 := k2) (j2 := j2) hk2 w tx0
    · refine sm_cl w (sm_X14_wrong w.1 (w.k tx0 (by decide))) (fun _ h2 e w2 => ?_)
      have hF2 : sv_FP h2 = F := (ow_X14_wrong sv_clT trivial e).2.1.1.trans hF
      clear e w hF
      have hF := hF2
      have w := w2
      clear hF2 w2
      exact sm_X14_readAll_62 (k2 := k2) (j2 := j2) hk2 w tx0
  · exact sm_X14_readAll_62 (k2 := k2) (j2 := j2) hk2 w tx0
theorem sm_X14_readAll_2b {h0 : sv_H} {k2 : Nat → Int32 → sv_H → Option (Unit × sv_H)} {j2 : Nat → Int32 → vt_S → Option (Unit × vt_S)} (hk2 : ∀ {x0 : Nat} {x1 : Int32} {h : sv_H}, vt_W h0 h → sv_K h0 x0 = 15 → vt_sm h0 (k2 x0 x1 h) (j2 x0 x1 (vt_ab h))) {x0 : Nat} {x1 : Int32} {h : sv_H} (w : vt_W h0 h) (tx0 : sv_K h0 x0 = 15) : vt_sm h0 (fn_X14_readAll_2b k2 x0 x1 h) (ab_X14_readAll_2b j2 x0 x1 (vt_ab h)) := by
  unfold fn_X14_readAll_2b ab_X14_readAll_2b
  obtain ⟨F, hF⟩ : ∃ F, sv_FP h = F := ⟨_, rfl⟩
  refine sm_if (fun _ => ?_) (fun _ => ?_)
  · exact sm_X14_readAll_68 w tx0
  · refine sm_gI w tx0 (by decide) (fun v1 => ?_)
    refine sm_if (fun _ => ?_) (fun _ => ?_)
    · refine sm_if (fun _ => ?_) (fun _ => ?_)
      · exact sm_X14_readAll_34 (k2 := k2) (j2 := j2) hk2 w tx0
      · refine sm_if (fun _ => ?_) (fun _ => ?_)
        · exact sm_X14_readAll_34 (k2 := k2) (j2 := j2) hk2 w tx0
        · exact sm_X14_readAll_34 (k2 := k2) (j2 := j2) hk2 w tx0
    · exact sm_X14_readAll_68 w tx0
theorem sm_X14_readAll_2 {h0 : sv_H} : ∀ (n : Nat) {x0 : Nat} {x1 : Int32} {h : sv_H}, vt_W h0 h → sv_K h0 x0 = 15 → vt_sm h0 (fn_X14_readAll_2 n x0 x1 h) (ab_X14_readAll_2 n x0 x1 (vt_ab h)) := by
  intro n
  induction n with
  | zero => intro x0 x1 h w tx0; exact sm_no
  | succ n ih => intro x0 x1 h w tx0; exact sm_X14_readAll_2b (k2 := fn_X14_readAll_2 n) (j2 := ab_X14_readAll_2 n) (fun w tx0 => ih w tx0) w tx0
theorem sm_X14_readAll_0 {h0 : sv_H} {x0 : Nat} {h : sv_H} (w : vt_W h0 h) (tx0 : sv_K h0 x0 = 15) : vt_sm h0 (fn_X14_readAll x0 h) (ab_X14_readAll x0 (vt_ab h)) := by
  unfold fn_X14_readAll ab_X14_readAll
  obtain ⟨F, hF⟩ : ∃ F, sv_FP h = F := ⟨_, rfl⟩
  refine sm_kd w tx0 (by decide) ?_
  exact sm_X14_readAll_2 sv_fuel w tx0
theorem sm_X14_readAll {x0 : Nat} {h : sv_H} (g : vt_G h) (tx0 : sv_K h x0 = 15) : vt_sm h (fn_X14_readAll x0 h) (ab_X14_readAll x0 (vt_ab h)) := sm_X14_readAll_0 ⟨g, vt_ko.refl h⟩ tx0

theorem sm_X14_read_77 {h0 : sv_H} {x0 : Nat} {h : sv_H} (w : vt_W h0 h) (tx0 : sv_K h0 x0 = 15) : vt_sm h0 (fn_X14_read_77 x0 h) (ab_X14_read_77 x0 (vt_ab h)) := by
  unfold fn_X14_read_77 ab_X14_read_77
  obtain ⟨F, hF⟩ : ∃ F, sv_FP h = F := ⟨_, rfl⟩
  refine sm_gI w tx0 (by decide) (fun v1 => ?_)
  exact sm_rt w
theorem sm_X14_read_43b {h0 : sv_H} {k43 : Nat → Int32 → sv_H → Option (Int32 × sv_H)} {j43 : Nat → Int32 → vt_S → Option (Int32 × vt_S)} (hk43 : ∀ {x0 : Nat} {x1 : Int32} {h : sv_H}, vt_W h0 h → sv_K h0 x0 = 15 → vt_sm h0 (k43 x0 x1 h) (j43 x0 x1 (vt_ab h))) {x0 : Nat} {x1 : Int32} {h : sv_H} (w : vt_W h0 h) (tx0 : sv_K h0 x0 = 15) : vt_sm h0 (fn_X14_read_43b k43 x0 x1 h) (ab_X14_read_43b j43 x0 x1 (vt_ab h)) := by
  unfold fn_X14_read_43b ab_X14_read_43b
  obtain ⟨F, hF⟩ : ∃ F, sv_FP h = F := ⟨_, rfl⟩
  refine sm_gI w tx0 (by decide) (fun v1 => ?_)
  refine sm_if (fun _ => ?_) (fun _ => ?_)
  · refine sm_gI w tx0 (by decide) (fun v2 => ?_)
    refine sm_pI w hF tx0 (by decide) (fun h w hF => ?_)
    exact sm_X14_read_77 w tx0
  · refine sm_gA w hF tx0 tk_1502 (by decide) (fun v4 av4 => ?_)
    refine sm_gA w hF tx0 tk_1500 (by decide) (fun v5 av5 => ?_)
    refine sm_lB w hF tx0 av5 tk_1500 (fun _ => ?_)
    refine sm_sB w hF tx0 av4 tk_1502 (fun h w hF => ?_)
    exact hk43 w tx0
theorem sm_X14_read_43 {h0 : sv_H} : ∀ (n : Nat) {x0 : Nat} {x1 : Int32} {h : sv_H}, vt_W h0 h → sv_K h0 x0 = 15 → vt_sm h0 (fn_X14_read_43 n x0 x1 h) (ab_X14_read_43 n x0 x1 (vt_ab h)) := by
  intro n
  induction n with
  | zero => intro x0 x1 h w tx0; exact sm_no
  | succ n ih => intro x0 x1 h w tx0; exact sm_X14_read_43b (k43 := fn_X14_read_43 n) (j43 := ab_X14_read_43 n) (fun w tx0 => ih w tx0) w tx0
theorem sm_X14_read_0 {h0 : sv_H} {x0 : Nat} {h : sv_H} (w : vt_W h0 h) (tx0 : sv_K h0 x0 = 15) : vt_sm h0 (fn_X14_read x0 h) (ab_X14_read x0 (vt_ab h)) := by
  unfold fn_X14_read ab_X14_read
  obtain ⟨F, hF⟩ : ∃ F, sv_FP h = F := ⟨_, rfl⟩
  refine sm_kd w tx0 (by decide) ?_
  refine sm_pI w hF tx0 (by decide) (fun h w hF => ?_)
  refine sm_pI w hF tx0 (by decide) (fun h w hF => ?_)
  refine sm_pI w hF tx0 (by decide) (fun h w hF => ?_)
  refine sm_pI w hF tx0 (by decide) (fun h w hF => ?_)
  refine sm_pI w hF tx0 (by decide) (fun h w hF => ?_)
  refine sm_pI w hF tx0 (by decide) (fun h w hF => ?_)
  refine sm_cl w (sm_X14_readAll w.1 (w.k tx0 (by decide))) (fun _ h2 e w2 => ?_)
  have hF2 : sv_FP h2 = F := (ow_X14_readAll sv_clT trivial e).2.1.1.trans hF
  clear e w hF
  have hF := hF2
  have w := w2
  clear hF2 w2
  refine sm_gI w tx0 (by decide) (fun v8 => ?_)
  refine sm_if (fun _ => ?_) (fun _ => ?_)
  · exact sm_X14_read_43 sv_fuel w tx0
  · exact sm_X14_read_77 w tx0
theorem sm_X14_read {x0 : Nat} {h : sv_H} (g : vt_G h) (tx0 : sv_K h x0 = 15) : vt_sm h (fn_X14_read x0 h) (ab_X14_read x0 (vt_ab h)) := sm_X14_read_0 ⟨g, vt_ko.refl h⟩ tx0

theorem sm_X13_reset_2b {h0 : sv_H} {k2 : Nat → Int32 → sv_H → Option (Unit × sv_H)} {j2 : Nat → Int32 → vt_S → Option (Unit × vt_S)} (hk2 : ∀ {x0 : Nat} {x1 : Int32} {h : sv_H}, vt_W h0 h → sv_K h0 x0 = 14 → vt_sm h0 (k2 x0 x1 h) (j2 x0 x1 (vt_ab h))) {x0 : Nat} {x1 : Int32} {h : sv_H} (w : vt_W h0 h) (tx0 : sv_K h0 x0 = 14) : vt_sm h0 (fn_X13_reset_2b k2 x0 x1 h) (ab_X13_reset_2b j2 x0 x1 (vt_ab h)) := by
  unfold fn_X13_reset_2b ab_X13_reset_2b
  obtain ⟨F, hF⟩ : ∃ F, sv_FP h = F := ⟨_, rfl⟩
  refine sm_gI w tx0 (by decide) (fun v1 => ?_)
  refine sm_if (fun _ => ?_) (fun _ => ?_)
  · refine sm_pI w hF tx0 (by decide) (fun h w hF => ?_)
    refine sm_pI w hF tx0 (by decide) (fun h w hF => ?_)
    refine sm_pI w hF tx0 (by decide) (fun h w hF => ?_)
    exact sm_rt w
  · refine sm_gA w hF tx0 tk_1408 (by decide) (fun v5 av5 => ?_)
    refine sm_gA w hF tx0 tk_1401 (by decide) (fun v6 av6 => ?_)
    refine sm_lI w hF tx0 av6 tk_1401 (fun _ => ?_)
    refine sm_sI w hF tx0 av5 tk_1408 (fun h w hF => ?_)
    refine sm_gA w hF tx0 tk_1409 (by decide) (fun v9 av9 => ?_)
    refine sm_gA w hF tx0 tk_1402 (by decide) (fun v10 av10 => ?_)
    refine sm_lI w hF tx0 av10 tk_1402 (fun _ => ?_)
    refine sm_sI w hF tx0 av9 tk_1409 (fun h w hF => ?_)
    refine sm_gA w hF tx0 tk_1410 (by decide) (fun v13 av13 => ?_)
    refine sm_sI w hF tx0 av13 tk_1410 (fun h w hF => ?_)
    refine sm_gA w hF tx0 tk_1411 (by decide) (fun v15 av15 => ?_)
    refine sm_sI w hF tx0 av15 tk_1411 (fun h w hF => ?_)
    refine sm_gA w hF tx0 tk_1412 (by decide) (fun v17 av17 => ?_)
    refine sm_sI w hF tx0 av17 tk_1412 (fun h w hF => ?_)
    refine sm_gA w hF tx0 tk_1413 (by decide) (fun v19 av19 => ?_)
    refine sm_sI w hF tx0 av19 tk_1413 (fun h w hF => ?_)
    exact hk2 w tx0
theorem sm_X13_reset_2 {h0 : sv_H} : ∀ (n : Nat) {x0 : Nat} {x1 : Int32} {h : sv_H}, vt_W h0 h → sv_K h0 x0 = 14 → vt_sm h0 (fn_X13_reset_2 n x0 x1 h) (ab_X13_reset_2 n x0 x1 (vt_ab h)) := by
  intro n
  induction n with
  | zero => intro x0 x1 h w tx0; exact sm_no
  | succ n ih => intro x0 x1 h w tx0; exact sm_X13_reset_2b (k2 := fn_X13_reset_2 n) (j2 := ab_X13_reset_2 n) (fun w tx0 => ih w tx0) w tx0
theorem sm_X13_reset_0 {h0 : sv_H} {x0 : Nat} {h : sv_H} (w : vt_W h0 h) (tx0 : sv_K h0 x0 = 14) : vt_sm h0 (fn_X13_reset x0 h) (ab_X13_reset x0 (vt_ab h)) := by
  unfold fn_X13_reset ab_X13_reset
  obtain ⟨F, hF⟩ : ∃ F, sv_FP h = F := ⟨_, rfl⟩
  refine sm_kd w tx0 (by decide) ?_
  exact sm_X13_reset_2 sv_fuel w tx0
theorem sm_X13_reset {x0 : Nat} {h : sv_H} (g : vt_G h) (tx0 : sv_K h x0 = 14) : vt_sm h (fn_X13_reset x0 h) (ab_X13_reset x0 (vt_ab h)) := sm_X13_reset_0 ⟨g, vt_ko.refl h⟩ tx0

theorem sm_X13_clear_12b {h0 : sv_H} {k12 : Nat → Int32 → sv_H → Option (Unit × sv_H)} {j12 : Nat → Int32 → vt_S → Option (Unit × vt_S)} (hk12 : ∀ {x0 : Nat} {x1 : Int32} {h : sv_H}, vt_W h0 h → sv_K h0 x0 = 14 → vt_sm h0 (k12 x0 x1 h) (j12 x0 x1 (vt_ab h))) {x0 : Nat} {x1 : Int32} {h : sv_H} (w : vt_W h0 h) (tx0 : sv_K h0 x0 = 14) : vt_sm h0 (fn_X13_clear_12b k12 x0 x1 h) (ab_X13_clear_12b j12 x0 x1 (vt_ab h)) := by
  unfold fn_X13_clear_12b ab_X13_clear_12b
  obtain ⟨F, hF⟩ : ∃ F, sv_FP h = F := ⟨_, rfl⟩
  refine sm_if (fun _ => ?_) (fun _ => ?_)
  · refine sm_cl w (sm_X13_reset w.1 (w.k tx0 (by decide))) (fun _ h2 e w2 => ?_)
    have hF2 : sv_FP h2 = F := (ow_X13_reset sv_clT trivial e).2.1.1.trans hF
    clear e w hF
    have hF := hF2
    have w := w2
    clear hF2 w2
    exact sm_rt w
  · refine sm_gA w hF tx0 tk_1406 (by decide) (fun v2 av2 => ?_)
    refine sm_sZ w hF tx0 av2 tk_1406 (fun h w hF => ?_)
    exact hk12 w tx0
theorem sm_X13_clear_12 {h0 : sv_H} : ∀ (n : Nat) {x0 : Nat} {x1 : Int32} {h : sv_H}, vt_W h0 h → sv_K h0 x0 = 14 → vt_sm h0 (fn_X13_clear_12 n x0 x1 h) (ab_X13_clear_12 n x0 x1 (vt_ab h)) := by
  intro n
  induction n with
  | zero => intro x0 x1 h w tx0; exact sm_no
  | succ n ih => intro x0 x1 h w tx0; exact sm_X13_clear_12b (k12 := fn_X13_clear_12 n) (j12 := ab_X13_clear_12 n) (fun w tx0 => ih w tx0) w tx0
theorem sm_X13_clear_0 {h0 : sv_H} {x0 : Nat} {h : sv_H} (w : vt_W h0 h) (tx0 : sv_K h0 x0 = 14) : vt_sm h0 (fn_X13_clear x0 h) (ab_X13_clear x0 (vt_ab h)) := by
  unfold fn_X13_clear ab_X13_clear
  obtain ⟨F, hF⟩ : ∃ F, sv_FP h = F := ⟨_, rfl⟩
  refine sm_kd w tx0 (by decide) ?_
  refine sm_pI w hF tx0 (by decide) (fun h w hF => ?_)
  refine sm_pI w hF tx0 (by decide) (fun h w hF => ?_)
  exact sm_X13_clear_12 sv_fuel w tx0
theorem sm_X13_clear {x0 : Nat} {h : sv_H} (g : vt_G h) (tx0 : sv_K h x0 = 14) : vt_sm h (fn_X13_clear x0 h) (ab_X13_clear x0 (vt_ab h)) := sm_X13_clear_0 ⟨g, vt_ko.refl h⟩ tx0

theorem sm_X14_many_21 {h0 : sv_H} {s0 : Int32} {h : sv_H} (w : vt_W h0 h) : vt_sm h0 (fn_X14_many_21 s0 h) (ab_X14_many_21 s0 (vt_ab h)) := by
  unfold fn_X14_many_21 ab_X14_many_21
  obtain ⟨F, hF⟩ : ∃ F, sv_FP h = F := ⟨_, rfl⟩
  exact sm_rt w
theorem sm_X14_many_0 {h0 : sv_H} {x0 : Nat} {x1 : Int32} {h : sv_H} (w : vt_W h0 h) (tx0 : sv_K h0 x0 = 15) : vt_sm h0 (fn_X14_many x0 x1 h) (ab_X14_many x0 x1 (vt_ab h)) := by
  unfold fn_X14_many ab_X14_many
  obtain ⟨F, hF⟩ : ∃ F, sv_FP h = F := ⟨_, rfl⟩
  refine sm_kd w tx0 (by decide) ?_
  refine sm_gI w tx0 (by decide) (fun v1 => ?_)
  refine sm_if (fun _ => ?_) (fun _ => ?_)
  · exact sm_X14_many_21 w
  · refine sm_gA w hF tx0 tk_1502 (by decide) (fun v2 av2 => ?_)
    refine sm_lB w hF tx0 av2 tk_1502 (fun _ => ?_)
    exact sm_X14_many_21 w
theorem sm_X14_many {x0 : Nat} {x1 : Int32} {h : sv_H} (g : vt_G h) (tx0 : sv_K h x0 = 15) : vt_sm h (fn_X14_many x0 x1 h) (ab_X14_many x0 x1 (vt_ab h)) := sm_X14_many_0 ⟨g, vt_ko.refl h⟩ tx0

theorem sm_X17_sectors_19 {h0 : sv_H} {s0 : Int32} {h : sv_H} (w : vt_W h0 h) : vt_sm h0 (fn_X17_sectors_19 s0 h) (ab_X17_sectors_19 s0 (vt_ab h)) := by
  unfold fn_X17_sectors_19 ab_X17_sectors_19
  obtain ⟨F, hF⟩ : ∃ F, sv_FP h = F := ⟨_, rfl⟩
  exact sm_rt w
theorem sm_X17_sectors_0 {h0 : sv_H} {x0 : Nat} {h : sv_H} (w : vt_W h0 h) (tx0 : sv_K h0 x0 = 18) : vt_sm h0 (fn_X17_sectors x0 h) (ab_X17_sectors x0 (vt_ab h)) := by
  unfold fn_X17_sectors ab_X17_sectors
  obtain ⟨F, hF⟩ : ∃ F, sv_FP h = F := ⟨_, rfl⟩
  refine sm_kd w tx0 (by decide) ?_
  refine sm_gI w tx0 (by decide) (fun v1 => ?_)
  refine sm_if (fun _ => ?_) (fun _ => ?_)
  · exact sm_X17_sectors_19 w
  · refine sm_gP w tx0 tk_1801 rfl (fun v2 tv2 => ?_)
    refine sm_cl w (sm_X14_many w.1 (w.k tv2 (by decide))) (fun r3 h2 e w2 => ?_)
    have hF2 : sv_FP h2 = F := by rw [ro_X14_many e]; exact hF
    clear e w hF
    have hF := hF2
    have w := w2
    clear hF2 w2
    exact sm_X17_sectors_19 w
theorem sm_X17_sectors {x0 : Nat} {h : sv_H} (g : vt_G h) (tx0 : sv_K h x0 = 18) : vt_sm h (fn_X17_sectors x0 h) (ab_X17_sectors x0 (vt_ab h)) := sm_X17_sectors_0 ⟨g, vt_ko.refl h⟩ tx0

theorem sm_X14_has_18 {h0 : sv_H} {s0 : Int32} {h : sv_H} (w : vt_W h0 h) : vt_sm h0 (fn_X14_has_18 s0 h) (ab_X14_has_18 s0 (vt_ab h)) := by
  unfold fn_X14_has_18 ab_X14_has_18
  obtain ⟨F, hF⟩ : ∃ F, sv_FP h = F := ⟨_, rfl⟩
  exact sm_rz w
theorem sm_X14_has_17 {h0 : sv_H} {h : sv_H} (w : vt_W h0 h) : vt_sm h0 (fn_X14_has_17 h) (ab_X14_has_17 (vt_ab h)) := by
  unfold fn_X14_has_17 ab_X14_has_17
  obtain ⟨F, hF⟩ : ∃ F, sv_FP h = F := ⟨_, rfl⟩
  exact sm_X14_has_18 w
theorem sm_X14_has_0 {h0 : sv_H} {x0 : Nat} {x1 : Int32} {x2 : Int32} {h : sv_H} (w : vt_W h0 h) (tx0 : sv_K h0 x0 = 15) : vt_sm h0 (fn_X14_has x0 x1 x2 h) (ab_X14_has x0 x1 x2 (vt_ab h)) := by
  unfold fn_X14_has ab_X14_has
  obtain ⟨F, hF⟩ : ∃ F, sv_FP h = F := ⟨_, rfl⟩
  refine sm_kd w tx0 (by decide) ?_
  refine sm_if (fun _ => ?_) (fun _ => ?_)
  · exact sm_X14_has_17 w
  · refine sm_cl w (sm_X14_many w.1 (w.k tx0 (by decide))) (fun r1 h2 e w2 => ?_)
    have hF2 : sv_FP h2 = F := by rw [ro_X14_many e]; exact hF
    clear e w hF
    have hF := hF2
    have w := w2
    clear hF2 w2
    refine sm_if (fun _ => ?_) (fun _ => ?_)
    · exact sm_X14_has_17 w
    · exact sm_X14_has_18 w
theorem sm_X14_has {x0 : Nat} {x1 : Int32} {x2 : Int32} {h : sv_H} (g : vt_G h) (tx0 : sv_K h x0 = 15) : vt_sm h (fn_X14_has x0 x1 x2 h) (ab_X14_has x0 x1 x2 (vt_ab h)) := sm_X14_has_0 ⟨g, vt_ko.refl h⟩ tx0

theorem sm_X14_textureAt_13b {h0 : sv_H} {k13 : Nat → Int32 → Int32 → Int32 → sv_H → Option (Int32 × sv_H)} {j13 : Nat → Int32 → Int32 → Int32 → vt_S → Option (Int32 × vt_S)} (hk13 : ∀ {x0 : Nat} {x1 : Int32} {x2 : Int32} {x3 : Int32} {h : sv_H}, vt_W h0 h → sv_K h0 x0 = 15 → vt_sm h0 (k13 x0 x1 x2 x3 h) (j13 x0 x1 x2 x3 (vt_ab h))) {x0 : Nat} {x1 : Int32} {x2 : Int32} {x3 : Int32} {h : sv_H} (w : vt_W h0 h) (tx0 : sv_K h0 x0 = 15) : vt_sm h0 (fn_X14_textureAt_13b k13 x0 x1 x2 x3 h) (ab_X14_textureAt_13b j13 x0 x1 x2 x3 (vt_ab h)) := by
  unfold fn_X14_textureAt_13b ab_X14_textureAt_13b
  obtain ⟨F, hF⟩ : ∃ F, sv_FP h = F := ⟨_, rfl⟩
  refine sm_if (fun _ => ?_) (fun _ => ?_)
  · exact sm_rt w
  · refine sm_gA w hF tx0 tk_1502 (by decide) (fun v1 av1 => ?_)
    refine sm_lB w hF tx0 av1 tk_1502 (fun _ => ?_)
    refine sm_gA w hF tx0 tk_1502 (by decide) (fun v3 av3 => ?_)
    refine sm_lB w hF tx0 av3 tk_1502 (fun _ => ?_)
    exact hk13 w tx0
theorem sm_X14_textureAt_13 {h0 : sv_H} : ∀ (n : Nat) {x0 : Nat} {x1 : Int32} {x2 : Int32} {x3 : Int32} {h : sv_H}, vt_W h0 h → sv_K h0 x0 = 15 → vt_sm h0 (fn_X14_textureAt_13 n x0 x1 x2 x3 h) (ab_X14_textureAt_13 n x0 x1 x2 x3 (vt_ab h)) := by
  intro n
  induction n with
  | zero => intro x0 x1 x2 x3 h w tx0; exact sm_no
  | succ n ih => intro x0 x1 x2 x3 h w tx0; exact sm_X14_textureAt_13b (k13 := fn_X14_textureAt_13 n) (j13 := ab_X14_textureAt_13 n) (fun w tx0 => ih w tx0) w tx0
theorem sm_X14_textureAt_0 {h0 : sv_H} {x0 : Nat} {x1 : Int32} {h : sv_H} (w : vt_W h0 h) (tx0 : sv_K h0 x0 = 15) : vt_sm h0 (fn_X14_textureAt x0 x1 h) (ab_X14_textureAt x0 x1 (vt_ab h)) := by
  unfold fn_X14_textureAt ab_X14_textureAt
  obtain ⟨F, hF⟩ : ∃ F, sv_FP h = F := ⟨_, rfl⟩
  refine sm_kd w tx0 (by decide) ?_
  refine sm_cl w (sm_X14_many w.1 (w.k tx0 (by decide))) (fun r1 h2 e w2 => ?_)
  have hF2 : sv_FP h2 = F := by rw [ro_X14_many e]; exact hF
  clear e w hF
  have hF := hF2
  have w := w2
  clear hF2 w2
  exact sm_X14_textureAt_13 sv_fuel w tx0
theorem sm_X14_textureAt {x0 : Nat} {x1 : Int32} {h : sv_H} (g : vt_G h) (tx0 : sv_K h x0 = 15) : vt_sm h (fn_X14_textureAt x0 x1 h) (ab_X14_textureAt x0 x1 (vt_ab h)) := sm_X14_textureAt_0 ⟨g, vt_ko.refl h⟩ tx0

theorem sm_X14_sectorAt_0 {h0 : sv_H} {x0 : Nat} {x1 : Int32} {h : sv_H} (w : vt_W h0 h) (tx0 : sv_K h0 x0 = 15) : vt_sm h0 (fn_X14_sectorAt x0 x1 h) (ab_X14_sectorAt x0 x1 (vt_ab h)) := by
  unfold fn_X14_sectorAt ab_X14_sectorAt
  obtain ⟨F, hF⟩ : ∃ F, sv_FP h = F := ⟨_, rfl⟩
  refine sm_kd w tx0 (by decide) ?_
  refine sm_cl w (sm_X14_many w.1 (w.k tx0 (by decide))) (fun r1 h2 e w2 => ?_)
  have hF2 : sv_FP h2 = F := by rw [ro_X14_many e]; exact hF
  clear e w hF
  have hF := hF2
  have w := w2
  clear hF2 w2
  refine sm_cl w (sm_X14_textureAt w.1 (w.k tx0 (by decide))) (fun r3 h2 e w2 => ?_)
  have hF2 : sv_FP h2 = F := by rw [ro_X14_textureAt e]; exact hF
  clear e w hF
  have hF := hF2
  have w := w2
  clear hF2 w2
  exact sm_rt w
theorem sm_X14_sectorAt {x0 : Nat} {x1 : Int32} {h : sv_H} (g : vt_G h) (tx0 : sv_K h x0 = 15) : vt_sm h (fn_X14_sectorAt x0 x1 h) (ab_X14_sectorAt x0 x1 (vt_ab h)) := sm_X14_sectorAt_0 ⟨g, vt_ko.refl h⟩ tx0

theorem sm_X14_sector_19 {h0 : sv_H} {h : sv_H} (w : vt_W h0 h) : vt_sm h0 (fn_X14_sector_19 h) (ab_X14_sector_19 (vt_ab h)) := by
  unfold fn_X14_sector_19 ab_X14_sector_19
  obtain ⟨F, hF⟩ : ∃ F, sv_FP h = F := ⟨_, rfl⟩
  exact sm_rt w
theorem sm_X14_sector_62 {h0 : sv_H} {s0 : Int32} {h : sv_H} (w : vt_W h0 h) : vt_sm h0 (fn_X14_sector_62 s0 h) (ab_X14_sector_62 s0 (vt_ab h)) := by
  unfold fn_X14_sector_62 ab_X14_sector_62
  obtain ⟨F, hF⟩ : ∃ F, sv_FP h = F := ⟨_, rfl⟩
  exact sm_rt w
theorem sm_X14_sector_0 {h0 : sv_H} {x0 : Nat} {x1 : Int32} {x2 : Int32} {h : sv_H} (w : vt_W h0 h) (tx0 : sv_K h0 x0 = 15) : vt_sm h0 (fn_X14_sector x0 x1 x2 h) (ab_X14_sector x0 x1 x2 (vt_ab h)) := by
  unfold fn_X14_sector ab_X14_sector
  obtain ⟨F, hF⟩ : ∃ F, sv_FP h = F := ⟨_, rfl⟩
  refine sm_kd w tx0 (by decide) ?_
  refine sm_cl w (sm_X14_has w.1 (w.k tx0 (by decide))) (fun r1 h2 e w2 => ?_)
  have hF2 : sv_FP h2 = F := by rw [ro_X14_has e]; exact hF
  clear e w hF
  have hF := hF2
  have w := w2
  clear hF2 w2
  refine sm_if (fun _ => ?_) (fun _ => ?_)
  · exact sm_X14_sector_19 w
  · refine sm_if (fun _ => ?_) (fun _ => ?_)
    · exact sm_X14_sector_19 w
    · refine sm_if (fun _ => ?_) (fun _ => ?_)
      · refine sm_cl w (sm_X14_sectorAt w.1 (w.k tx0 (by decide))) (fun r3 h2 e w2 => ?_)
        have hF2 : sv_FP h2 = F := by rw [ro_X14_sectorAt e]; exact hF
        clear e w hF
        have hF := hF2
        have w := w2
        clear hF2 w2
        refine sm_if (fun _ => ?_) (fun _ => ?_)
        · refine sm_gA w hF tx0 tk_1502 (by decide) (fun v5 av5 => ?_)
          refine sm_lB w hF tx0 av5 tk_1502 (fun _ => ?_)
          exact sm_X14_sector_62 w
        · refine sm_gA w hF tx0 tk_1502 (by decide) (fun v7 av7 => ?_)
          refine sm_cl w (sm_X14_pair w.1 tk_1502 (w.k tx0 (by decide)) (by rw [hF]; exact av7)) (fun r8 h2 e w2 => ?_)
          have hF2 : sv_FP h2 = F := by rw [ro_X14_pair e]; exact hF
          clear e w hF
          have hF := hF2
          have w := w2
          clear hF2 w2
          exact sm_X14_sector_62 w
      · exact sm_X14_sector_19 w
theorem sm_X14_sector {x0 : Nat} {x1 : Int32} {x2 : Int32} {h : sv_H} (g : vt_G h) (tx0 : sv_K h x0 = 15) : vt_sm h (fn_X14_sector x0 x1 x2 h) (ab_X14_sector x0 x1 x2 (vt_ab h)) := sm_X14_sector_0 ⟨g, vt_ko.refl h⟩ tx0

theorem sm_X13_sector_67 {h0 : sv_H} {x0 : Nat} {x1 : Int32} {x2 : Int32} {x3 : Int32} {x4 : Int32} {x5 : Int32} {s0 : Int32} {h : sv_H} (w : vt_W h0 h) (tx0 : sv_K h0 x0 = 14) : vt_sm h0 (fn_X13_sector_67 x0 x1 x2 x3 x4 x5 s0 h) (ab_X13_sector_67 x0 x1 x2 x3 x4 x5 s0 (vt_ab h)) := by
  unfold fn_X13_sector_67 ab_X13_sector_67
  obtain ⟨F, hF⟩ : ∃ F, sv_FP h = F := ⟨_, rfl⟩
  refine sm_if (fun _ => ?_) (fun _ => ?_)
  · exact sm_rt w
  · refine sm_gA w hF tx0 tk_1401 (by decide) (fun v1 av1 => ?_)
    refine sm_gI w tx0 (by decide) (fun v2 => ?_)
    refine sm_sI w hF tx0 av1 tk_1401 (fun h w hF => ?_)
    refine sm_gA w hF tx0 tk_1402 (by decide) (fun v4 av4 => ?_)
    refine sm_gI w tx0 (by decide) (fun v5 => ?_)
    refine sm_sI w hF tx0 av4 tk_1402 (fun h w hF => ?_)
    refine sm_gA w hF tx0 tk_1403 (by decide) (fun v7 av7 => ?_)
    refine sm_gI w tx0 (by decide) (fun v8 => ?_)
    refine sm_sI w hF tx0 av7 tk_1403 (fun h w hF => ?_)
    refine sm_gA w hF tx0 tk_1404 (by decide) (fun v10 av10 => ?_)
    refine sm_gI w tx0 (by decide) (fun v11 => ?_)
    refine sm_sI w hF tx0 av10 tk_1404 (fun h w hF => ?_)
    refine sm_gA w hF tx0 tk_1405 (by decide) (fun v13 av13 => ?_)
    refine sm_gI w tx0 (by decide) (fun v14 => ?_)
    refine sm_sI w hF tx0 av13 tk_1405 (fun h w hF => ?_)
    refine sm_gI w tx0 (by decide) (fun v16 => ?_)
    refine sm_pI w hF tx0 (by decide) (fun h w hF => ?_)
    refine sm_cl w (sm_X13_reset w.1 (w.k tx0 (by decide))) (fun _ h2 e w2 => ?_)
    have hF2 : sv_FP h2 = F := (ow_X13_reset sv_clT trivial e).2.1.1.trans hF
    clear e w hF
    have hF := hF2
    have w := w2
    clear hF2 w2
    refine sm_gI w tx0 (by decide) (fun v19 => ?_)
    exact sm_rt w
theorem sm_X13_sector_66 {h0 : sv_H} {x0 : Nat} {x1 : Int32} {x2 : Int32} {x3 : Int32} {x4 : Int32} {x5 : Int32} {h : sv_H} (w : vt_W h0 h) (tx0 : sv_K h0 x0 = 14) : vt_sm h0 (fn_X13_sector_66 x0 x1 x2 x3 x4 x5 h) (ab_X13_sector_66 x0 x1 x2 x3 x4 x5 (vt_ab h)) := by
  unfold fn_X13_sector_66 ab_X13_sector_66
  obtain ⟨F, hF⟩ : ∃ F, sv_FP h = F := ⟨_, rfl⟩
  exact sm_X13_sector_67 w tx0
theorem sm_X13_sector_0 {h0 : sv_H} {x0 : Nat} {x1 : Int32} {x2 : Int32} {x3 : Int32} {x4 : Int32} {x5 : Int32} {h : sv_H} (w : vt_W h0 h) (tx0 : sv_K h0 x0 = 14) : vt_sm h0 (fn_X13_sector x0 x1 x2 x3 x4 x5 h) (ab_X13_sector x0 x1 x2 x3 x4 x5 (vt_ab h)) := by
  unfold fn_X13_sector ab_X13_sector
  obtain ⟨F, hF⟩ : ∃ F, sv_FP h = F := ⟨_, rfl⟩
  refine sm_kd w tx0 (by decide) ?_
  refine sm_if (fun _ => ?_) (fun _ => ?_)
  · exact sm_X13_sector_66 w tx0
  · refine sm_if (fun _ => ?_) (fun _ => ?_)
    · exact sm_X13_sector_66 w tx0
    · refine sm_if (fun _ => ?_) (fun _ => ?_)
      · exact sm_X13_sector_66 w tx0
      · refine sm_if (fun _ => ?_) (fun _ => ?_)
        · exact sm_X13_sector_66 w tx0
        · refine sm_if (fun _ => ?_) (fun _ => ?_)
          · exact sm_X13_sector_66 w tx0
          · refine sm_if (fun _ => ?_) (fun _ => ?_)
            · exact sm_X13_sector_66 w tx0
            · refine sm_if (fun _ => ?_) (fun _ => ?_)
              · exact sm_X13_sector_66 w tx0
              · refine sm_if (fun _ => ?_) (fun _ => ?_)
                · exact sm_X13_sector_66 w tx0
                · refine sm_if (fun _ => ?_) (fun _ => ?_)
                  · exact sm_X13_sector_66 w tx0
                  · refine sm_gI w tx0 (by decide) (fun v1 => ?_)
                    refine sm_if (fun _ => ?_) (fun _ => ?_)
                    · exact sm_X13_sector_66 w tx0
                    · exact sm_X13_sector_67 w tx0
theorem sm_X13_sector {x0 : Nat} {x1 : Int32} {x2 : Int32} {x3 : Int32} {x4 : Int32} {x5 : Int32} {h : sv_H} (g : vt_G h) (tx0 : sv_K h x0 = 14) : vt_sm h (fn_X13_sector x0 x1 x2 x3 x4 x5 h) (ab_X13_sector x0 x1 x2 x3 x4 x5 (vt_ab h)) := sm_X13_sector_0 ⟨g, vt_ko.refl h⟩ tx0

theorem sm_X17_walls_0 {h0 : sv_H} {x0 : Nat} {h : sv_H} (w : vt_W h0 h) (tx0 : sv_K h0 x0 = 18) : vt_sm h0 (fn_X17_walls x0 h) (ab_X17_walls x0 (vt_ab h)) := by
  unfold fn_X17_walls ab_X17_walls
  obtain ⟨F, hF⟩ : ∃ F, sv_FP h = F := ⟨_, rfl⟩
  refine sm_kd w tx0 (by decide) ?_
  refine sm_gP w tx0 tk_1801 rfl (fun v1 tv1 => ?_)
  refine sm_cl w (sm_X14_many w.1 (w.k tv1 (by decide))) (fun r2 h2 e w2 => ?_)
  have hF2 : sv_FP h2 = F := by rw [ro_X14_many e]; exact hF
  clear e w hF
  have hF := hF2
  have w := w2
  clear hF2 w2
  exact sm_rt w
theorem sm_X17_walls {x0 : Nat} {h : sv_H} (g : vt_G h) (tx0 : sv_K h x0 = 18) : vt_sm h (fn_X17_walls x0 h) (ab_X17_walls x0 (vt_ab h)) := sm_X17_walls_0 ⟨g, vt_ko.refl h⟩ tx0

theorem sm_X14_wallAt_0 {h0 : sv_H} {x0 : Nat} {x1 : Int32} {h : sv_H} (w : vt_W h0 h) (tx0 : sv_K h0 x0 = 15) : vt_sm h0 (fn_X14_wallAt x0 x1 h) (ab_X14_wallAt x0 x1 (vt_ab h)) := by
  unfold fn_X14_wallAt ab_X14_wallAt
  obtain ⟨F, hF⟩ : ∃ F, sv_FP h = F := ⟨_, rfl⟩
  refine sm_kd w tx0 (by decide) ?_
  refine sm_cl w (sm_X14_many w.1 (w.k tx0 (by decide))) (fun r1 h2 e w2 => ?_)
  have hF2 : sv_FP h2 = F := by rw [ro_X14_many e]; exact hF
  clear e w hF
  have hF := hF2
  have w := w2
  clear hF2 w2
  refine sm_cl w (sm_X14_sectorAt w.1 (w.k tx0 (by decide))) (fun r3 h2 e w2 => ?_)
  have hF2 : sv_FP h2 = F := by rw [ro_X14_sectorAt e]; exact hF
  clear e w hF
  have hF := hF2
  have w := w2
  clear hF2 w2
  exact sm_rt w
theorem sm_X14_wallAt {x0 : Nat} {x1 : Int32} {h : sv_H} (g : vt_G h) (tx0 : sv_K h x0 = 15) : vt_sm h (fn_X14_wallAt x0 x1 h) (ab_X14_wallAt x0 x1 (vt_ab h)) := sm_X14_wallAt_0 ⟨g, vt_ko.refl h⟩ tx0

theorem sm_X14_wall_20 {h0 : sv_H} {h : sv_H} (w : vt_W h0 h) : vt_sm h0 (fn_X14_wall_20 h) (ab_X14_wall_20 (vt_ab h)) := by
  unfold fn_X14_wall_20 ab_X14_wall_20
  obtain ⟨F, hF⟩ : ∃ F, sv_FP h = F := ⟨_, rfl⟩
  exact sm_rt w
theorem sm_X14_wall_81 {h0 : sv_H} {s0 : Int32} {h : sv_H} (w : vt_W h0 h) : vt_sm h0 (fn_X14_wall_81 s0 h) (ab_X14_wall_81 s0 (vt_ab h)) := by
  unfold fn_X14_wall_81 ab_X14_wall_81
  obtain ⟨F, hF⟩ : ∃ F, sv_FP h = F := ⟨_, rfl⟩
  exact sm_rt w
theorem sm_X14_wall_40 {h0 : sv_H} {x0 : Nat} {x2 : Int32} {x3 : Int32} {h : sv_H} (w : vt_W h0 h) (tx0 : sv_K h0 x0 = 15) : vt_sm h0 (fn_X14_wall_40 x0 x2 x3 h) (ab_X14_wall_40 x0 x2 x3 (vt_ab h)) := by
  unfold fn_X14_wall_40 ab_X14_wall_40
  obtain ⟨F, hF⟩ : ∃ F, sv_FP h = F := ⟨_, rfl⟩
  refine sm_if (fun _ => ?_) (fun _ => ?_)
  · refine sm_gA w hF tx0 tk_1502 (by decide) (fun v3 av3 => ?_)
    refine sm_lB w hF tx0 av3 tk_1502 (fun _ => ?_)
    exact sm_X14_wall_81 w
  · refine sm_gA w hF tx0 tk_1502 (by decide) (fun v1 av1 => ?_)
    refine sm_lB w hF tx0 av1 tk_1502 (fun _ => ?_)
    exact sm_X14_wall_81 w
theorem sm_X14_wall_100 {h0 : sv_H} {s0 : Nat} {s0o : Nat} {s1 : Int32} {s2 : Int32} {h : sv_H} (w : vt_W h0 h) (ts0 : sv_K h0 s0o = 15) (as0 : sv_FP h 1502 s0o = s0) : vt_sm h0 (fn_X14_wall_100 s0 s1 s2 h) (ab_X14_wall_100 s0o s1 s2 (vt_ab h)) := by
  unfold fn_X14_wall_100 ab_X14_wall_100
  obtain ⟨F, hF⟩ : ∃ F, sv_FP h = F := ⟨_, rfl⟩
  rw [hF] at as0
  refine sm_lB w hF ts0 as0 tk_1502 (fun _ => ?_)
  exact sm_rt w
theorem sm_X14_wall_0 {h0 : sv_H} {x0 : Nat} {x1 : Int32} {x2 : Int32} {h : sv_H} (w : vt_W h0 h) (tx0 : sv_K h0 x0 = 15) : vt_sm h0 (fn_X14_wall x0 x1 x2 h) (ab_X14_wall x0 x1 x2 (vt_ab h)) := by
  unfold fn_X14_wall ab_X14_wall
  obtain ⟨F, hF⟩ : ∃ F, sv_FP h = F := ⟨_, rfl⟩
  refine sm_kd w tx0 (by decide) ?_
  refine sm_cl w (sm_X14_has w.1 (w.k tx0 (by decide))) (fun r1 h2 e w2 => ?_)
  have hF2 : sv_FP h2 = F := by rw [ro_X14_has e]; exact hF
  clear e w hF
  have hF := hF2
  have w := w2
  clear hF2 w2
  refine sm_if (fun _ => ?_) (fun _ => ?_)
  · exact sm_X14_wall_20 w
  · refine sm_if (fun _ => ?_) (fun _ => ?_)
    · exact sm_X14_wall_20 w
    · refine sm_if (fun _ => ?_) (fun _ => ?_)
      · refine sm_cl w (sm_X14_wallAt w.1 (w.k tx0 (by decide))) (fun r3 h2 e w2 => ?_)
        have hF2 : sv_FP h2 = F := by rw [ro_X14_wallAt e]; exact hF
        clear e w hF
        have hF := hF2
        have w := w2
        clear hF2 w2
        refine sm_if (fun _ => ?_) (fun _ => ?_)
        · exact sm_X14_wall_40 w tx0
        · refine sm_if (fun _ => ?_) (fun _ => ?_)
          · exact sm_X14_wall_40 w tx0
          · refine sm_gA w hF tx0 tk_1502 (by decide) (fun v5 av5 => ?_)
            refine sm_if (fun _ => ?_) (fun _ => ?_)
            · exact sm_X14_wall_100 w tx0 (by rw [hF]; exact av5)
            · exact sm_X14_wall_100 w tx0 (by rw [hF]; exact av5)
      · exact sm_X14_wall_20 w
theorem sm_X14_wall {x0 : Nat} {x1 : Int32} {x2 : Int32} {h : sv_H} (g : vt_G h) (tx0 : sv_K h x0 = 15) : vt_sm h (fn_X14_wall x0 x1 x2 h) (ab_X14_wall x0 x1 x2 (vt_ab h)) := sm_X14_wall_0 ⟨g, vt_ko.refl h⟩ tx0

theorem sm_X13_isSector_17 {h0 : sv_H} {s0 : Int32} {h : sv_H} (w : vt_W h0 h) : vt_sm h0 (fn_X13_isSector_17 s0 h) (ab_X13_isSector_17 s0 (vt_ab h)) := by
  unfold fn_X13_isSector_17 ab_X13_isSector_17
  obtain ⟨F, hF⟩ : ∃ F, sv_FP h = F := ⟨_, rfl⟩
  exact sm_rz w
theorem sm_X13_isSector_16 {h0 : sv_H} {h : sv_H} (w : vt_W h0 h) : vt_sm h0 (fn_X13_isSector_16 h) (ab_X13_isSector_16 (vt_ab h)) := by
  unfold fn_X13_isSector_16 ab_X13_isSector_16
  obtain ⟨F, hF⟩ : ∃ F, sv_FP h = F := ⟨_, rfl⟩
  exact sm_X13_isSector_17 w
theorem sm_X13_isSector_0 {h0 : sv_H} {x0 : Nat} {x1 : Int32} {h : sv_H} (w : vt_W h0 h) (tx0 : sv_K h0 x0 = 14) : vt_sm h0 (fn_X13_isSector x0 x1 h) (ab_X13_isSector x0 x1 (vt_ab h)) := by
  unfold fn_X13_isSector ab_X13_isSector
  obtain ⟨F, hF⟩ : ∃ F, sv_FP h = F := ⟨_, rfl⟩
  refine sm_kd w tx0 (by decide) ?_
  refine sm_if (fun _ => ?_) (fun _ => ?_)
  · exact sm_X13_isSector_16 w
  · refine sm_gI w tx0 (by decide) (fun v1 => ?_)
    refine sm_if (fun _ => ?_) (fun _ => ?_)
    · exact sm_X13_isSector_16 w
    · exact sm_X13_isSector_17 w
theorem sm_X13_isSector {x0 : Nat} {x1 : Int32} {h : sv_H} (g : vt_G h) (tx0 : sv_K h x0 = 14) : vt_sm h (fn_X13_isSector x0 x1 h) (ab_X13_isSector x0 x1 (vt_ab h)) := sm_X13_isSector_0 ⟨g, vt_ko.refl h⟩ tx0

theorem sm_X13_join_35 {h0 : sv_H} {h : sv_H} (w : vt_W h0 h) : vt_sm h0 (fn_X13_join_35 h) (ab_X13_join_35 (vt_ab h)) := by
  unfold fn_X13_join_35 ab_X13_join_35
  obtain ⟨F, hF⟩ : ∃ F, sv_FP h = F := ⟨_, rfl⟩
  exact sm_rt w
theorem sm_X13_join_0 {h0 : sv_H} {x0 : Nat} {x1 : Int32} {x2 : Int32} {h : sv_H} (w : vt_W h0 h) (tx0 : sv_K h0 x0 = 14) : vt_sm h0 (fn_X13_join x0 x1 x2 h) (ab_X13_join x0 x1 x2 (vt_ab h)) := by
  unfold fn_X13_join ab_X13_join
  obtain ⟨F, hF⟩ : ∃ F, sv_FP h = F := ⟨_, rfl⟩
  refine sm_kd w tx0 (by decide) ?_
  refine sm_cl w (sm_X13_isSector w.1 (w.k tx0 (by decide))) (fun r1 h2 e w2 => ?_)
  have hF2 : sv_FP h2 = F := by rw [ro_X13_isSector e]; exact hF
  clear e w hF
  have hF := hF2
  have w := w2
  clear hF2 w2
  refine sm_if (fun _ => ?_) (fun _ => ?_)
  · exact sm_X13_join_35 w
  · refine sm_cl w (sm_X13_isSector w.1 (w.k tx0 (by decide))) (fun r3 h2 e w2 => ?_)
    have hF2 : sv_FP h2 = F := by rw [ro_X13_isSector e]; exact hF
    clear e w hF
    have hF := hF2
    have w := w2
    clear hF2 w2
    refine sm_if (fun _ => ?_) (fun _ => ?_)
    · exact sm_X13_join_35 w
    · refine sm_if (fun _ => ?_) (fun _ => ?_)
      · exact sm_X13_join_35 w
      · refine sm_gA w hF tx0 tk_1406 (by decide) (fun v5 av5 => ?_)
        refine sm_lZ w hF tx0 av5 tk_1406 (fun _ => ?_)
        refine sm_if (fun _ => ?_) (fun _ => ?_)
        · refine sm_gA w hF tx0 tk_1406 (by decide) (fun v7 av7 => ?_)
          refine sm_sZ w hF tx0 av7 tk_1406 (fun h w hF => ?_)
          refine sm_gA w hF tx0 tk_1406 (by decide) (fun v9 av9 => ?_)
          refine sm_sZ w hF tx0 av9 tk_1406 (fun h w hF => ?_)
          refine sm_gI w tx0 (by decide) (fun v11 => ?_)
          refine sm_pI w hF tx0 (by decide) (fun h w hF => ?_)
          exact sm_rt w
        · exact sm_X13_join_35 w
theorem sm_X13_join {x0 : Nat} {x1 : Int32} {x2 : Int32} {h : sv_H} (g : vt_G h) (tx0 : sv_K h x0 = 14) : vt_sm h (fn_X13_join x0 x1 x2 h) (ab_X13_join x0 x1 x2 (vt_ab h)) := sm_X13_join_0 ⟨g, vt_ko.refl h⟩ tx0

theorem sm_X14_vertex_36 {h0 : sv_H} {s0 : Int32} {h : sv_H} (w : vt_W h0 h) : vt_sm h0 (fn_X14_vertex_36 s0 h) (ab_X14_vertex_36 s0 (vt_ab h)) := by
  unfold fn_X14_vertex_36 ab_X14_vertex_36
  obtain ⟨F, hF⟩ : ∃ F, sv_FP h = F := ⟨_, rfl⟩
  exact sm_rt w
theorem sm_X14_vertex_24 {h0 : sv_H} {x1 : Int32} {s0 : Nat} {s0o : Nat} {s1 : Int32} {h : sv_H} (w : vt_W h0 h) (ts0 : sv_K h0 s0o = 15) (as0 : sv_FP h 1502 s0o = s0) : vt_sm h0 (fn_X14_vertex_24 x1 s0 s1 h) (ab_X14_vertex_24 x1 s0o s1 (vt_ab h)) := by
  unfold fn_X14_vertex_24 ab_X14_vertex_24
  obtain ⟨F, hF⟩ : ∃ F, sv_FP h = F := ⟨_, rfl⟩
  rw [hF] at as0
  refine sm_cl w (sm_X14_pair w.1 tk_1502 (w.k ts0 (by decide)) (by rw [hF]; exact as0)) (fun r1 h2 e w2 => ?_)
  have hF2 : sv_FP h2 = F := by rw [ro_X14_pair e]; exact hF
  clear e w hF
  have hF := hF2
  have w := w2
  clear hF2 w2
  exact sm_X14_vertex_36 w
theorem sm_X14_vertex_0 {h0 : sv_H} {x0 : Nat} {x1 : Int32} {x2 : Int32} {h : sv_H} (w : vt_W h0 h) (tx0 : sv_K h0 x0 = 15) : vt_sm h0 (fn_X14_vertex x0 x1 x2 h) (ab_X14_vertex x0 x1 x2 (vt_ab h)) := by
  unfold fn_X14_vertex ab_X14_vertex
  obtain ⟨F, hF⟩ : ∃ F, sv_FP h = F := ⟨_, rfl⟩
  refine sm_kd w tx0 (by decide) ?_
  refine sm_cl w (sm_X14_has w.1 (w.k tx0 (by decide))) (fun r1 h2 e w2 => ?_)
  have hF2 : sv_FP h2 = F := by rw [ro_X14_has e]; exact hF
  clear e w hF
  have hF := hF2
  have w := w2
  clear hF2 w2
  refine sm_if (fun _ => ?_) (fun _ => ?_)
  · exact sm_X14_vertex_36 w
  · refine sm_gA w hF tx0 tk_1502 (by decide) (fun v3 av3 => ?_)
    refine sm_if (fun _ => ?_) (fun _ => ?_)
    · exact sm_X14_vertex_24 w tx0 (by rw [hF]; exact av3)
    · exact sm_X14_vertex_24 w tx0 (by rw [hF]; exact av3)
theorem sm_X14_vertex {x0 : Nat} {x1 : Int32} {x2 : Int32} {h : sv_H} (g : vt_G h) (tx0 : sv_K h x0 = 15) : vt_sm h (fn_X14_vertex x0 x1 x2 h) (ab_X14_vertex x0 x1 x2 (vt_ab h)) := sm_X14_vertex_0 ⟨g, vt_ko.refl h⟩ tx0

theorem sm_X17_furnish_172 {h0 : sv_H} {k116 : Nat → Int32 → sv_H → Option (Unit × sv_H)} {j116 : Nat → Int32 → vt_S → Option (Unit × vt_S)} (hk116 : ∀ {x0 : Nat} {x1 : Int32} {h : sv_H}, vt_W h0 h → sv_K h0 x0 = 18 → vt_sm h0 (k116 x0 x1 h) (j116 x0 x1 (vt_ab h))) {x0 : Nat} {x1 : Int32} {s0 : Int32} {h : sv_H} (w : vt_W h0 h) (tx0 : sv_K h0 x0 = 18) : vt_sm h0 (fn_X17_furnish_172 k116 x0 x1 s0 h) (ab_X17_furnish_172 j116 x0 x1 s0 (vt_ab h)) := by
  unfold fn_X17_furnish_172 ab_X17_furnish_172
  obtain ⟨F, hF⟩ : ∃ F, sv_FP h = F := ⟨_, rfl⟩
  refine sm_gP w tx0 tk_1804 rfl (fun v1 tv1 => ?_)
  refine sm_gA w hF tv1 tk_1701 (by decide) (fun v2 av2 => ?_)
  refine sm_gP w tx0 tk_1801 rfl (fun v3 tv3 => ?_)
  refine sm_gP w tx0 tk_1801 rfl (fun v4 tv4 => ?_)
  refine sm_cl w (sm_X14_wall w.1 (w.k tv4 (by decide))) (fun r5 h2 e w2 => ?_)
  have hF2 : sv_FP h2 = F := by rw [ro_X14_wall e]; exact hF
  clear e w hF
  have hF := hF2
  have w := w2
  clear hF2 w2
  refine sm_cl w (sm_X14_vertex w.1 (w.k tv3 (by decide))) (fun r7 h2 e w2 => ?_)
  have hF2 : sv_FP h2 = F := by rw [ro_X14_vertex e]; exact hF
  clear e w hF
  have hF := hF2
  have w := w2
  clear hF2 w2
  refine sm_sI w hF tv1 av2 tk_1701 (fun h w hF => ?_)
  refine sm_gP w tx0 tk_1804 rfl (fun v10 tv10 => ?_)
  refine sm_gA w hF tv10 tk_1702 (by decide) (fun v11 av11 => ?_)
  refine sm_gP w tx0 tk_1801 rfl (fun v12 tv12 => ?_)
  refine sm_gP w tx0 tk_1801 rfl (fun v13 tv13 => ?_)
  refine sm_cl w (sm_X14_wall w.1 (w.k tv13 (by decide))) (fun r14 h2 e w2 => ?_)
  have hF2 : sv_FP h2 = F := by rw [ro_X14_wall e]; exact hF
  clear e w hF
  have hF := hF2
  have w := w2
  clear hF2 w2
  refine sm_cl w (sm_X14_vertex w.1 (w.k tv12 (by decide))) (fun r16 h2 e w2 => ?_)
  have hF2 : sv_FP h2 = F := by rw [ro_X14_vertex e]; exact hF
  clear e w hF
  have hF := hF2
  have w := w2
  clear hF2 w2
  refine sm_sI w hF tv10 av11 tk_1702 (fun h w hF => ?_)
  refine sm_gP w tx0 tk_1804 rfl (fun v19 tv19 => ?_)
  refine sm_gA w hF tv19 tk_1703 (by decide) (fun v20 av20 => ?_)
  refine sm_gP w tx0 tk_1801 rfl (fun v21 tv21 => ?_)
  refine sm_gP w tx0 tk_1801 rfl (fun v22 tv22 => ?_)
  refine sm_cl w (sm_X14_wall w.1 (w.k tv22 (by decide))) (fun r23 h2 e w2 => ?_)
  have hF2 : sv_FP h2 = F := by rw [ro_X14_wall e]; exact hF
  clear e w hF
  have hF := hF2
  have w := w2
  clear hF2 w2
  refine sm_cl w (sm_X14_vertex w.1 (w.k tv21 (by decide))) (fun r25 h2 e w2 => ?_)
  have hF2 : sv_FP h2 = F := by rw [ro_X14_vertex e]; exact hF
  clear e w hF
  have hF := hF2
  have w := w2
  clear hF2 w2
  refine sm_sI w hF tv19 av20 tk_1703 (fun h w hF => ?_)
  refine sm_gP w tx0 tk_1804 rfl (fun v28 tv28 => ?_)
  refine sm_gA w hF tv28 tk_1704 (by decide) (fun v29 av29 => ?_)
  refine sm_gP w tx0 tk_1801 rfl (fun v30 tv30 => ?_)
  refine sm_gP w tx0 tk_1801 rfl (fun v31 tv31 => ?_)
  refine sm_cl w (sm_X14_wall w.1 (w.k tv31 (by decide))) (fun r32 h2 e w2 => ?_)
  have hF2 : sv_FP h2 = F := by rw [ro_X14_wall e]; exact hF
  clear e w hF
  have hF := hF2
  have w := w2
  clear hF2 w2
  refine sm_cl w (sm_X14_vertex w.1 (w.k tv30 (by decide))) (fun r34 h2 e w2 => ?_)
  have hF2 : sv_FP h2 = F := by rw [ro_X14_vertex e]; exact hF
  clear e w hF
  have hF := hF2
  have w := w2
  clear hF2 w2
  refine sm_sI w hF tv28 av29 tk_1704 (fun h w hF => ?_)
  exact hk116 w tx0
theorem sm_X17_furnish_171 {h0 : sv_H} {k116 : Nat → Int32 → sv_H → Option (Unit × sv_H)} {j116 : Nat → Int32 → vt_S → Option (Unit × vt_S)} (hk116 : ∀ {x0 : Nat} {x1 : Int32} {h : sv_H}, vt_W h0 h → sv_K h0 x0 = 18 → vt_sm h0 (k116 x0 x1 h) (j116 x0 x1 (vt_ab h))) {x0 : Nat} {x1 : Int32} {h : sv_H} (w : vt_W h0 h) (tx0 : sv_K h0 x0 = 18) : vt_sm h0 (fn_X17_furnish_171 k116 x0 x1 h) (ab_X17_furnish_171 j116 x0 x1 (vt_ab h)) := by
  unfold fn_X17_furnish_171 ab_X17_furnish_171
  obtain ⟨F, hF⟩ : ∃ F, sv_FP h = F := ⟨_, rfl⟩
  exact sm_X17_furnish_172 (k116 := k116) (j116 := j116) hk116 w tx0
theorem sm_X17_furnish_116b {h0 : sv_H} {k116 : Nat → Int32 → sv_H → Option (Unit × sv_H)} {j116 : Nat → Int32 → vt_S → Option (Unit × vt_S)} (hk116 : ∀ {x0 : Nat} {x1 : Int32} {h : sv_H}, vt_W h0 h → sv_K h0 x0 = 18 → vt_sm h0 (k116 x0 x1 h) (j116 x0 x1 (vt_ab h))) {x0 : Nat} {x1 : Int32} {h : sv_H} (w : vt_W h0 h) (tx0 : sv_K h0 x0 = 18) : vt_sm h0 (fn_X17_furnish_116b k116 x0 x1 h) (ab_X17_furnish_116b j116 x0 x1 (vt_ab h)) := by
  unfold fn_X17_furnish_116b ab_X17_furnish_116b
  obtain ⟨F, hF⟩ : ∃ F, sv_FP h = F := ⟨_, rfl⟩
  refine sm_cl w (sm_X17_walls w.1 (w.k tx0 (by decide))) (fun r1 h2 e w2 => ?_)
  have hF2 : sv_FP h2 = F := by rw [ro_X17_walls e]; exact hF
  clear e w hF
  have hF := hF2
  have w := w2
  clear hF2 w2
  refine sm_if (fun _ => ?_) (fun _ => ?_)
  · refine sm_gP w tx0 tk_1804 rfl (fun v3 tv3 => ?_)
    refine sm_pZ w hF tv3 (by decide) (fun h w hF => ?_)
    exact sm_rt w
  · refine sm_gP w tx0 tk_1801 rfl (fun v5 tv5 => ?_)
    refine sm_cl w (sm_X14_wall w.1 (w.k tv5 (by decide))) (fun r6 h2 e w2 => ?_)
    have hF2 : sv_FP h2 = F := by rw [ro_X14_wall e]; exact hF
    clear e w hF
    have hF := hF2
    have w := w2
    clear hF2 w2
    refine sm_if (fun _ => ?_) (fun _ => ?_)
    · exact sm_X17_furnish_171 (k116 := k116) (j116 := j116) hk116 w tx0
    · refine sm_gP w tx0 tk_1803 rfl (fun v8 tv8 => ?_)
      refine sm_gP w tx0 tk_1801 rfl (fun v9 tv9 => ?_)
      refine sm_cl w (sm_X14_wall w.1 (w.k tv9 (by decide))) (fun r10 h2 e w2 => ?_)
      have hF2 : sv_FP h2 = F := by rw [ro_X14_wall e]; exact hF
      clear e w hF
      have hF := hF2
      have w := w2
      clear hF2 w2
      refine sm_gP w tx0 tk_1801 rfl (fun v12 tv12 => ?_)
      refine sm_cl w (sm_X14_wall w.1 (w.k tv12 (by decide))) (fun r13 h2 e w2 => ?_)
      have hF2 : sv_FP h2 = F := by rw [ro_X14_wall e]; exact hF
      clear e w hF
      have hF := hF2
      have w := w2
      clear hF2 w2
      refine sm_cl w (sm_X13_join w.1 (w.k tv8 (by decide))) (fun r15 h2 e w2 => ?_)
      have hF2 : sv_FP h2 = F := (ow_X13_join sv_clT trivial e).2.1.1.trans hF
      clear e w hF
      have hF := hF2
      have w := w2
      clear hF2 w2
      refine sm_if (fun _ => ?_) (fun _ => ?_)
      · exact sm_X17_furnish_171 (k116 := k116) (j116 := j116) hk116 w tx0
      · exact sm_X17_furnish_172 (k116 := k116) (j116 := j116) hk116 w tx0
theorem sm_X17_furnish_116 {h0 : sv_H} : ∀ (n : Nat) {x0 : Nat} {x1 : Int32} {h : sv_H}, vt_W h0 h → sv_K h0 x0 = 18 → vt_sm h0 (fn_X17_furnish_116 n x0 x1 h) (ab_X17_furnish_116 n x0 x1 (vt_ab h)) := by
  intro n
  induction n with
  | zero => intro x0 x1 h w tx0; exact sm_no
  | succ n ih => intro x0 x1 h w tx0; exact sm_X17_furnish_116b (k116 := fn_X17_furnish_116 n) (j116 := ab_X17_furnish_116 n) (fun w tx0 => ih w tx0) w tx0
theorem sm_X17_furnish_107 {h0 : sv_H} {k79 : Nat → Int32 → sv_H → Option (Unit × sv_H)} {j79 : Nat → Int32 → vt_S → Option (Unit × vt_S)} (hk79 : ∀ {x0 : Nat} {x1 : Int32} {h : sv_H}, vt_W h0 h → sv_K h0 x0 = 18 → vt_sm h0 (k79 x0 x1 h) (j79 x0 x1 (vt_ab h))) {x0 : Nat} {x1 : Int32} {s0 : Nat} {s0o : Nat} {s1 : Int32} {s2 : Int32} {h : sv_H} (w : vt_W h0 h) (tx0 : sv_K h0 x0 = 18) (ts0 : sv_K h0 s0o = 17) (as0 : sv_FP h 1700 s0o = s0) : vt_sm h0 (fn_X17_furnish_107 k79 x0 x1 s0 s1 s2 h) (ab_X17_furnish_107 j79 x0 x1 s0o s1 s2 (vt_ab h)) := by
  unfold fn_X17_furnish_107 ab_X17_furnish_107
  obtain ⟨F, hF⟩ : ∃ F, sv_FP h = F := ⟨_, rfl⟩
  rw [hF] at as0
  refine sm_sZ w hF ts0 as0 tk_1700 (fun h w hF => ?_)
  exact hk79 w tx0
theorem sm_X17_furnish_79b {h0 : sv_H} {k79 : Nat → Int32 → sv_H → Option (Unit × sv_H)} {j79 : Nat → Int32 → vt_S → Option (Unit × vt_S)} (hk79 : ∀ {x0 : Nat} {x1 : Int32} {h : sv_H}, vt_W h0 h → sv_K h0 x0 = 18 → vt_sm h0 (k79 x0 x1 h) (j79 x0 x1 (vt_ab h))) {x0 : Nat} {x1 : Int32} {h : sv_H} (w : vt_W h0 h) (tx0 : sv_K h0 x0 = 18) : vt_sm h0 (fn_X17_furnish_79b k79 x0 x1 h) (ab_X17_furnish_79b j79 x0 x1 (vt_ab h)) := by
  unfold fn_X17_furnish_79b ab_X17_furnish_79b
  obtain ⟨F, hF⟩ : ∃ F, sv_FP h = F := ⟨_, rfl⟩
  refine sm_if (fun _ => ?_) (fun _ => ?_)
  · exact sm_X17_furnish_116 sv_fuel w tx0
  · refine sm_gP w tx0 tk_1804 rfl (fun v1 tv1 => ?_)
    refine sm_gA w hF tv1 tk_1700 (by decide) (fun v2 av2 => ?_)
    refine sm_cl w (sm_X17_walls w.1 (w.k tx0 (by decide))) (fun r3 h2 e w2 => ?_)
    have hF2 : sv_FP h2 = F := by rw [ro_X17_walls e]; exact hF
    clear e w hF
    have hF := hF2
    have w := w2
    clear hF2 w2
    refine sm_if (fun _ => ?_) (fun _ => ?_)
    · exact sm_X17_furnish_107 (k79 := k79) (j79 := j79) hk79 w tx0 tv1 (by rw [hF]; exact av2)
    · exact sm_X17_furnish_107 (k79 := k79) (j79 := j79) hk79 w tx0 tv1 (by rw [hF]; exact av2)
theorem sm_X17_furnish_79 {h0 : sv_H} : ∀ (n : Nat) {x0 : Nat} {x1 : Int32} {h : sv_H}, vt_W h0 h → sv_K h0 x0 = 18 → vt_sm h0 (fn_X17_furnish_79 n x0 x1 h) (ab_X17_furnish_79 n x0 x1 (vt_ab h)) := by
  intro n
  induction n with
  | zero => intro x0 x1 h w tx0; exact sm_no
  | succ n ih => intro x0 x1 h w tx0; exact sm_X17_furnish_79b (k79 := fn_X17_furnish_79 n) (j79 := ab_X17_furnish_79 n) (fun w tx0 => ih w tx0) w tx0
theorem sm_X17_furnish_9b {h0 : sv_H} {k9 : Nat → Int32 → sv_H → Option (Unit × sv_H)} {j9 : Nat → Int32 → vt_S → Option (Unit × vt_S)} (hk9 : ∀ {x0 : Nat} {x1 : Int32} {h : sv_H}, vt_W h0 h → sv_K h0 x0 = 18 → vt_sm h0 (k9 x0 x1 h) (j9 x0 x1 (vt_ab h))) {x0 : Nat} {x1 : Int32} {h : sv_H} (w : vt_W h0 h) (tx0 : sv_K h0 x0 = 18) : vt_sm h0 (fn_X17_furnish_9b k9 x0 x1 h) (ab_X17_furnish_9b j9 x0 x1 (vt_ab h)) := by
  unfold fn_X17_furnish_9b ab_X17_furnish_9b
  obtain ⟨F, hF⟩ : ∃ F, sv_FP h = F := ⟨_, rfl⟩
  refine sm_cl w (sm_X17_sectors w.1 (w.k tx0 (by decide))) (fun r1 h2 e w2 => ?_)
  have hF2 : sv_FP h2 = F := by rw [ro_X17_sectors e]; exact hF
  clear e w hF
  have hF := hF2
  have w := w2
  clear hF2 w2
  refine sm_if (fun _ => ?_) (fun _ => ?_)
  · exact sm_X17_furnish_79 sv_fuel w tx0
  · refine sm_gP w tx0 tk_1803 rfl (fun v3 tv3 => ?_)
    refine sm_gP w tx0 tk_1801 rfl (fun v4 tv4 => ?_)
    refine sm_cl w (sm_X14_sector w.1 (w.k tv4 (by decide))) (fun r5 h2 e w2 => ?_)
    have hF2 : sv_FP h2 = F := by rw [ro_X14_sector e]; exact hF
    clear e w hF
    have hF := hF2
    have w := w2
    clear hF2 w2
    refine sm_gP w tx0 tk_1801 rfl (fun v7 tv7 => ?_)
    refine sm_cl w (sm_X14_sector w.1 (w.k tv7 (by decide))) (fun r8 h2 e w2 => ?_)
    have hF2 : sv_FP h2 = F := by rw [ro_X14_sector e]; exact hF
    clear e w hF
    have hF := hF2
    have w := w2
    clear hF2 w2
    refine sm_gP w tx0 tk_1801 rfl (fun v10 tv10 => ?_)
    refine sm_cl w (sm_X14_sector w.1 (w.k tv10 (by decide))) (fun r11 h2 e w2 => ?_)
    have hF2 : sv_FP h2 = F := by rw [ro_X14_sector e]; exact hF
    clear e w hF
    have hF := hF2
    have w := w2
    clear hF2 w2
    refine sm_gP w tx0 tk_1801 rfl (fun v13 tv13 => ?_)
    refine sm_cl w (sm_X14_sector w.1 (w.k tv13 (by decide))) (fun r14 h2 e w2 => ?_)
    have hF2 : sv_FP h2 = F := by rw [ro_X14_sector e]; exact hF
    clear e w hF
    have hF := hF2
    have w := w2
    clear hF2 w2
    refine sm_gP w tx0 tk_1801 rfl (fun v16 tv16 => ?_)
    refine sm_cl w (sm_X14_sector w.1 (w.k tv16 (by decide))) (fun r17 h2 e w2 => ?_)
    have hF2 : sv_FP h2 = F := by rw [ro_X14_sector e]; exact hF
    clear e w hF
    have hF := hF2
    have w := w2
    clear hF2 w2
    refine sm_cl w (sm_X13_sector w.1 (w.k tv3 (by decide))) (fun r19 h2 e w2 => ?_)
    have hF2 : sv_FP h2 = F := (ow_X13_sector sv_clT trivial e).2.1.1.trans hF
    clear e w hF
    have hF := hF2
    have w := w2
    clear hF2 w2
    exact hk9 w tx0
theorem sm_X17_furnish_9 {h0 : sv_H} : ∀ (n : Nat) {x0 : Nat} {x1 : Int32} {h : sv_H}, vt_W h0 h → sv_K h0 x0 = 18 → vt_sm h0 (fn_X17_furnish_9 n x0 x1 h) (ab_X17_furnish_9 n x0 x1 (vt_ab h)) := by
  intro n
  induction n with
  | zero => intro x0 x1 h w tx0; exact sm_no
  | succ n ih => intro x0 x1 h w tx0; exact sm_X17_furnish_9b (k9 := fn_X17_furnish_9 n) (j9 := ab_X17_furnish_9 n) (fun w tx0 => ih w tx0) w tx0
theorem sm_X17_furnish_0 {h0 : sv_H} {x0 : Nat} {h : sv_H} (w : vt_W h0 h) (tx0 : sv_K h0 x0 = 18) : vt_sm h0 (fn_X17_furnish x0 h) (ab_X17_furnish x0 (vt_ab h)) := by
  unfold fn_X17_furnish ab_X17_furnish
  obtain ⟨F, hF⟩ : ∃ F, sv_FP h = F := ⟨_, rfl⟩
  refine sm_kd w tx0 (by decide) ?_
  refine sm_gP w tx0 tk_1803 rfl (fun v1 tv1 => ?_)
  refine sm_cl w (sm_X13_clear w.1 (w.k tv1 (by decide))) (fun _ h2 e w2 => ?_)
  have hF2 : sv_FP h2 = F := (ow_X13_clear sv_clT trivial e).2.1.1.trans hF
  clear e w hF
  have hF := hF2
  have w := w2
  clear hF2 w2
  exact sm_X17_furnish_9 sv_fuel w tx0
theorem sm_X17_furnish {x0 : Nat} {h : sv_H} (g : vt_G h) (tx0 : sv_K h x0 = 18) : vt_sm h (fn_X17_furnish x0 h) (ab_X17_furnish x0 (vt_ab h)) := sm_X17_furnish_0 ⟨g, vt_ko.refl h⟩ tx0

theorem sm_X14_start_16 {h0 : sv_H} {h : sv_H} (w : vt_W h0 h) : vt_sm h0 (fn_X14_start_16 h) (ab_X14_start_16 (vt_ab h)) := by
  unfold fn_X14_start_16 ab_X14_start_16
  obtain ⟨F, hF⟩ : ∃ F, sv_FP h = F := ⟨_, rfl⟩
  exact sm_rt w
theorem sm_X14_start_64 {h0 : sv_H} {s0 : Int32} {h : sv_H} (w : vt_W h0 h) : vt_sm h0 (fn_X14_start_64 s0 h) (ab_X14_start_64 s0 (vt_ab h)) := by
  unfold fn_X14_start_64 ab_X14_start_64
  obtain ⟨F, hF⟩ : ∃ F, sv_FP h = F := ⟨_, rfl⟩
  exact sm_rt w
theorem sm_X14_start_0 {h0 : sv_H} {x0 : Nat} {x1 : Int32} {h : sv_H} (w : vt_W h0 h) (tx0 : sv_K h0 x0 = 15) : vt_sm h0 (fn_X14_start x0 x1 h) (ab_X14_start x0 x1 (vt_ab h)) := by
  unfold fn_X14_start ab_X14_start
  obtain ⟨F, hF⟩ : ∃ F, sv_FP h = F := ⟨_, rfl⟩
  refine sm_kd w tx0 (by decide) ?_
  refine sm_gI w tx0 (by decide) (fun v1 => ?_)
  refine sm_if (fun _ => ?_) (fun _ => ?_)
  · exact sm_X14_start_16 w
  · refine sm_if (fun _ => ?_) (fun _ => ?_)
    · exact sm_X14_start_16 w
    · refine sm_if (fun _ => ?_) (fun _ => ?_)
      · refine sm_cl w (sm_X14_many w.1 (w.k tx0 (by decide))) (fun r2 h2 e w2 => ?_)
        have hF2 : sv_FP h2 = F := by rw [ro_X14_many e]; exact hF
        clear e w hF
        have hF := hF2
        have w := w2
        clear hF2 w2
        refine sm_cl w (sm_X14_wallAt w.1 (w.k tx0 (by decide))) (fun r4 h2 e w2 => ?_)
        have hF2 : sv_FP h2 = F := by rw [ro_X14_wallAt e]; exact hF
        clear e w hF
        have hF := hF2
        have w := w2
        clear hF2 w2
        refine sm_if (fun _ => ?_) (fun _ => ?_)
        · refine sm_gA w hF tx0 tk_1502 (by decide) (fun v6 av6 => ?_)
          refine sm_lB w hF tx0 av6 tk_1502 (fun _ => ?_)
          exact sm_X14_start_64 w
        · refine sm_gA w hF tx0 tk_1502 (by decide) (fun v8 av8 => ?_)
          refine sm_cl w (sm_X14_pair w.1 tk_1502 (w.k tx0 (by decide)) (by rw [hF]; exact av8)) (fun r9 h2 e w2 => ?_)
          have hF2 : sv_FP h2 = F := by rw [ro_X14_pair e]; exact hF
          clear e w hF
          have hF := hF2
          have w := w2
          clear hF2 w2
          exact sm_X14_start_64 w
      · exact sm_X14_start_16 w
theorem sm_X14_start {x0 : Nat} {x1 : Int32} {h : sv_H} (g : vt_G h) (tx0 : sv_K h x0 = 15) : vt_sm h (fn_X14_start x0 x1 h) (ab_X14_start x0 x1 (vt_ab h)) := sm_X14_start_0 ⟨g, vt_ko.refl h⟩ tx0

theorem sm_X17_begin_0 {h0 : sv_H} {x0 : Nat} {h : sv_H} (w : vt_W h0 h) (tx0 : sv_K h0 x0 = 18) : vt_sm h0 (fn_X17_begin x0 h) (ab_X17_begin x0 (vt_ab h)) := by
  unfold fn_X17_begin ab_X17_begin
  obtain ⟨F, hF⟩ : ∃ F, sv_FP h = F := ⟨_, rfl⟩
  refine sm_kd w tx0 (by decide) ?_
  refine sm_gP w tx0 tk_1802 rfl (fun v1 tv1 => ?_)
  refine sm_gA w hF tv1 tk_1600 (by decide) (fun v2 av2 => ?_)
  refine sm_lI w hF tv1 av2 tk_1600 (fun _ => ?_)
  refine sm_pI w hF tx0 (by decide) (fun h w hF => ?_)
  refine sm_gP w tx0 tk_1802 rfl (fun v5 tv5 => ?_)
  refine sm_gA w hF tv5 tk_1600 (by decide) (fun v6 av6 => ?_)
  refine sm_lI w hF tv5 av6 tk_1600 (fun _ => ?_)
  refine sm_pI w hF tx0 (by decide) (fun h w hF => ?_)
  refine sm_gP w tx0 tk_1802 rfl (fun v9 tv9 => ?_)
  refine sm_gA w hF tv9 tk_1600 (by decide) (fun v10 av10 => ?_)
  refine sm_lI w hF tv9 av10 tk_1600 (fun _ => ?_)
  refine sm_pI w hF tx0 (by decide) (fun h w hF => ?_)
  refine sm_gP w tx0 tk_1802 rfl (fun v13 tv13 => ?_)
  refine sm_gA w hF tv13 tk_1600 (by decide) (fun v14 av14 => ?_)
  refine sm_lI w hF tv13 av14 tk_1600 (fun _ => ?_)
  refine sm_pI w hF tx0 (by decide) (fun h w hF => ?_)
  refine sm_gP w tx0 tk_1803 rfl (fun v17 tv17 => ?_)
  refine sm_cl w (sm_X13_reset w.1 (w.k tv17 (by decide))) (fun _ h2 e w2 => ?_)
  have hF2 : sv_FP h2 = F := (ow_X13_reset sv_clT trivial e).2.1.1.trans hF
  clear e w hF
  have hF := hF2
  have w := w2
  clear hF2 w2
  exact sm_rt w
theorem sm_X17_begin {x0 : Nat} {h : sv_H} (g : vt_G h) (tx0 : sv_K h x0 = 18) : vt_sm h (fn_X17_begin x0 h) (ab_X17_begin x0 (vt_ab h)) := sm_X17_begin_0 ⟨g, vt_ko.refl h⟩ tx0

theorem sm_X17_loadMap_68b {h0 : sv_H} {k68 : Nat → Int32 → sv_H → Option (Int32 × sv_H)} {j68 : Nat → Int32 → vt_S → Option (Int32 × vt_S)} (hk68 : ∀ {x0 : Nat} {x1 : Int32} {h : sv_H}, vt_W h0 h → sv_K h0 x0 = 18 → vt_sm h0 (k68 x0 x1 h) (j68 x0 x1 (vt_ab h))) {x0 : Nat} {x1 : Int32} {h : sv_H} (w : vt_W h0 h) (tx0 : sv_K h0 x0 = 18) : vt_sm h0 (fn_X17_loadMap_68b k68 x0 x1 h) (ab_X17_loadMap_68b j68 x0 x1 (vt_ab h)) := by
  unfold fn_X17_loadMap_68b ab_X17_loadMap_68b
  obtain ⟨F, hF⟩ : ∃ F, sv_FP h = F := ⟨_, rfl⟩
  refine sm_if (fun _ => ?_) (fun _ => ?_)
  · refine sm_cl w (sm_X17_begin w.1 (w.k tx0 (by decide))) (fun _ h2 e w2 => ?_)
    have hF2 : sv_FP h2 = F := (ow_X17_begin sv_clT trivial e).2.1.1.trans hF
    clear e w hF
    have hF := hF2
    have w := w2
    clear hF2 w2
    exact sm_rt w
  · refine sm_gP w tx0 tk_1802 rfl (fun v2 tv2 => ?_)
    refine sm_gA w hF tv2 tk_1600 (by decide) (fun v3 av3 => ?_)
    refine sm_gP w tx0 tk_1801 rfl (fun v4 tv4 => ?_)
    refine sm_cl w (sm_X14_start w.1 (w.k tv4 (by decide))) (fun r5 h2 e w2 => ?_)
    have hF2 : sv_FP h2 = F := by rw [ro_X14_start e]; exact hF
    clear e w hF
    have hF := hF2
    have w := w2
    clear hF2 w2
    refine sm_sI w hF tv2 av3 tk_1600 (fun h w hF => ?_)
    exact hk68 w tx0
theorem sm_X17_loadMap_68 {h0 : sv_H} : ∀ (n : Nat) {x0 : Nat} {x1 : Int32} {h : sv_H}, vt_W h0 h → sv_K h0 x0 = 18 → vt_sm h0 (fn_X17_loadMap_68 n x0 x1 h) (ab_X17_loadMap_68 n x0 x1 (vt_ab h)) := by
  intro n
  induction n with
  | zero => intro x0 x1 h w tx0; exact sm_no
  | succ n ih => intro x0 x1 h w tx0; exact sm_X17_loadMap_68b (k68 := fn_X17_loadMap_68 n) (j68 := ab_X17_loadMap_68 n) (fun w tx0 => ih w tx0) w tx0
theorem sm_X17_loadMap_0 {h0 : sv_H} {x0 : Nat} {h : sv_H} (w : vt_W h0 h) (tx0 : sv_K h0 x0 = 18) : vt_sm h0 (fn_X17_loadMap x0 h) (ab_X17_loadMap x0 (vt_ab h)) := by
  unfold fn_X17_loadMap ab_X17_loadMap
  obtain ⟨F, hF⟩ : ∃ F, sv_FP h = F := ⟨_, rfl⟩
  refine sm_kd w tx0 (by decide) ?_
  refine sm_pI w hF tx0 (by decide) (fun h w hF => ?_)
  refine sm_gP w tx0 tk_1801 rfl (fun v2 tv2 => ?_)
  refine sm_cl w (sm_X14_read w.1 (w.k tv2 (by decide))) (fun r3 h2 e w2 => ?_)
  have hF2 : sv_FP h2 = F := (ow_X14_read sv_clT trivial e).2.1.1.trans hF
  clear e w hF
  have hF := hF2
  have w := w2
  clear hF2 w2
  refine sm_pI w hF tx0 (by decide) (fun h w hF => ?_)
  refine sm_gP w tx0 tk_1801 rfl (fun v6 tv6 => ?_)
  refine sm_gI w tv6 (by decide) (fun v7 => ?_)
  refine sm_pI w hF tx0 (by decide) (fun h w hF => ?_)
  refine sm_gI w tx0 (by decide) (fun v9 => ?_)
  refine sm_if (fun _ => ?_) (fun _ => ?_)
  · refine sm_pZ w hF tx0 (by decide) (fun h w hF => ?_)
    refine sm_gI w tx0 (by decide) (fun v11 => ?_)
    refine sm_pI w hF tx0 (by decide) (fun h w hF => ?_)
    refine sm_cl w (sm_X17_furnish w.1 (w.k tx0 (by decide))) (fun _ h2 e w2 => ?_)
    have hF2 : sv_FP h2 = F := (ow_X17_furnish sv_clT trivial e).2.1.1.trans hF
    clear e w hF
    have hF := hF2
    have w := w2
    clear hF2 w2
    refine sm_gP w tx0 tk_1802 rfl (fun v14 tv14 => ?_)
    refine sm_pI w hF tv14 (by decide) (fun h w hF => ?_)
    exact sm_X17_loadMap_68 sv_fuel w tx0
  · refine sm_gI w tx0 (by decide) (fun v16 => ?_)
    exact sm_rt w
theorem sm_X17_loadMap {x0 : Nat} {h : sv_H} (g : vt_G h) (tx0 : sv_K h x0 = 18) : vt_sm h (fn_X17_loadMap x0 h) (ab_X17_loadMap x0 (vt_ab h)) := sm_X17_loadMap_0 ⟨g, vt_ko.refl h⟩ tx0

theorem sm_X5_inputOf_9 {h0 : sv_H} {x0 : Int32} {x1 : Int32} {x2 : Int32} {s0 : Int32} {h : sv_H} (w : vt_W h0 h) : vt_sm h0 (fn_X5_inputOf_9 x0 x1 x2 s0 h) (ab_X5_inputOf_9 x0 x1 x2 s0 (vt_ab h)) := by
  unfold fn_X5_inputOf_9 ab_X5_inputOf_9
  obtain ⟨F, hF⟩ : ∃ F, sv_FP h = F := ⟨_, rfl⟩
  exact sm_rt w
theorem sm_X5_inputOf_0 {h0 : sv_H} {x0 : Int32} {x1 : Int32} {x2 : Int32} {x3 : Int32} {h : sv_H} (w : vt_W h0 h) : vt_sm h0 (fn_X5_inputOf x0 x1 x2 x3 h) (ab_X5_inputOf x0 x1 x2 x3 (vt_ab h)) := by
  unfold fn_X5_inputOf ab_X5_inputOf
  obtain ⟨F, hF⟩ : ∃ F, sv_FP h = F := ⟨_, rfl⟩
  refine sm_if (fun _ => ?_) (fun _ => ?_)
  · exact sm_X5_inputOf_9 w
  · exact sm_X5_inputOf_9 w
theorem sm_X5_inputOf {x0 : Int32} {x1 : Int32} {x2 : Int32} {x3 : Int32} {h : sv_H} (g : vt_G h) : vt_sm h (fn_X5_inputOf x0 x1 x2 x3 h) (ab_X5_inputOf x0 x1 x2 x3 (vt_ab h)) := sm_X5_inputOf_0 ⟨g, vt_ko.refl h⟩

theorem sm_X5_readInput_71 {h0 : sv_H} {x2 : Int32} {x4 : Int32} {x5 : Int32} {x6 : Int32} {h : sv_H} (w : vt_W h0 h) : vt_sm h0 (fn_X5_readInput_71 x2 x4 x5 x6 h) (ab_X5_readInput_71 x2 x4 x5 x6 (vt_ab h)) := by
  unfold fn_X5_readInput_71 ab_X5_readInput_71
  obtain ⟨F, hF⟩ : ∃ F, sv_FP h = F := ⟨_, rfl⟩
  refine sm_cl w (sm_X5_inputOf w.1) (fun r1 h2 e w2 => ?_)
  have hF2 : sv_FP h2 = F := by rw [ro_X5_inputOf e]; exact hF
  clear e w hF
  have hF := hF2
  have w := w2
  clear hF2 w2
  exact sm_rt w
theorem sm_X5_readInput_0 {h0 : sv_H} {x0 : Nat} {x1 : Nat} {x2 : Int32} {x3 : Int32} {h : sv_H} (w : vt_W h0 h) (tx0 : sv_K h0 x0 = 6) (tx1 : sv_K h0 x1 = 5) : vt_sm h0 (fn_X5_readInput x0 x1 x2 x3 h) (ab_X5_readInput x0 x1 x2 x3 (vt_ab h)) := by
  unfold fn_X5_readInput ab_X5_readInput
  obtain ⟨F, hF⟩ : ∃ F, sv_FP h = F := ⟨_, rfl⟩
  refine sm_kd w tx0 (by decide) ?_
  refine sm_cl w (sm_X4_within w.1 (w.k tx1 (by decide))) (fun r1 h2 e w2 => ?_)
  have hF2 : sv_FP h2 = F := (ow_X4_within sv_clT trivial e).2.1.1.trans hF
  clear e w hF
  have hF := hF2
  have w := w2
  clear hF2 w2
  refine sm_if (fun _ => ?_) (fun _ => ?_)
  · exact sm_X5_readInput_71 w
  · refine sm_cl w (sm_X4_within w.1 (w.k tx1 (by decide))) (fun r3 h2 e w2 => ?_)
    have hF2 : sv_FP h2 = F := (ow_X4_within sv_clT trivial e).2.1.1.trans hF
    clear e w hF
    have hF := hF2
    have w := w2
    clear hF2 w2
    refine sm_gI w tx1 (by decide) (fun v5 => ?_)
    refine sm_cl w (sm_X4_within w.1 (w.k tx1 (by decide))) (fun r6 h2 e w2 => ?_)
    have hF2 : sv_FP h2 = F := (ow_X4_within sv_clT trivial e).2.1.1.trans hF
    clear e w hF
    have hF := hF2
    have w := w2
    clear hF2 w2
    refine sm_if (fun _ => ?_) (fun _ => ?_)
    · refine sm_if (fun _ => ?_) (fun _ => ?_)
      · refine sm_cl w (sm_X4_blame w.1 (w.k tx1 (by decide))) (fun _ h2 e w2 => ?_)
        have hF2 : sv_FP h2 = F := (ow_X4_blame sv_clT trivial e).2.1.1.trans hF
        clear e w hF
        have hF := hF2
        have w := w2
        clear hF2 w2
        exact sm_X5_readInput_71 w
      · exact sm_X5_readInput_71 w
    · exact sm_X5_readInput_71 w
theorem sm_X5_readInput {x0 : Nat} {x1 : Nat} {x2 : Int32} {x3 : Int32} {h : sv_H} (g : vt_G h) (tx0 : sv_K h x0 = 6) (tx1 : sv_K h x1 = 5) : vt_sm h (fn_X5_readInput x0 x1 x2 x3 h) (ab_X5_readInput x0 x1 x2 x3 (vt_ab h)) := sm_X5_readInput_0 ⟨g, vt_ko.refl h⟩ tx0 tx1

theorem sm_X5_add_40 {h0 : sv_H} {x0 : Nat} {x1 : Int32} {h : sv_H} (w : vt_W h0 h) (tx0 : sv_K h0 x0 = 6) : vt_sm h0 (fn_X5_add_40 x0 x1 h) (ab_X5_add_40 x0 x1 (vt_ab h)) := by
  unfold fn_X5_add_40 ab_X5_add_40
  obtain ⟨F, hF⟩ : ∃ F, sv_FP h = F := ⟨_, rfl⟩
  refine sm_gA w hF tx0 tk_601 (by decide) (fun v1 av1 => ?_)
  refine sm_gI w tx0 (by decide) (fun v2 => ?_)
  refine sm_sI w hF tx0 av1 tk_601 (fun h w hF => ?_)
  refine sm_gI w tx0 (by decide) (fun v4 => ?_)
  refine sm_pI w hF tx0 (by decide) (fun h w hF => ?_)
  exact sm_rt w
theorem sm_X5_add_0 {h0 : sv_H} {x0 : Nat} {x1 : Int32} {h : sv_H} (w : vt_W h0 h) (tx0 : sv_K h0 x0 = 6) : vt_sm h0 (fn_X5_add x0 x1 h) (ab_X5_add x0 x1 (vt_ab h)) := by
  unfold fn_X5_add ab_X5_add
  obtain ⟨F, hF⟩ : ∃ F, sv_FP h = F := ⟨_, rfl⟩
  refine sm_kd w tx0 (by decide) ?_
  refine sm_gI w tx0 (by decide) (fun v1 => ?_)
  refine sm_if (fun _ => ?_) (fun _ => ?_)
  · refine sm_gI w tx0 (by decide) (fun v2 => ?_)
    refine sm_gA w hF tx0 tk_601 (by decide) (fun v3 av3 => ?_)
    refine sm_len w hF tx0 av3 tk_601 (by decide) (fun _ => ?_)
    refine sm_if (fun _ => ?_) (fun _ => ?_)
    · refine sm_gA w hF tx0 tk_601 (by decide) (fun v5 av5 => ?_)
      refine sm_gI w tx0 (by decide) (fun v6 => ?_)
      refine sm_grI w hF tx0 av5 tk_601 rfl (fun h w => ?_)
      clear hF
      obtain ⟨F, hF⟩ : ∃ F, sv_FP h = F := ⟨_, rfl⟩
      exact sm_X5_add_40 w tx0
    · exact sm_X5_add_40 w tx0
  · exact sm_rt w
theorem sm_X5_add {x0 : Nat} {x1 : Int32} {h : sv_H} (g : vt_G h) (tx0 : sv_K h x0 = 6) : vt_sm h (fn_X5_add x0 x1 h) (ab_X5_add x0 x1 (vt_ab h)) := sm_X5_add_0 ⟨g, vt_ko.refl h⟩ tx0

theorem sm_X5_readGroup_166 {h0 : sv_H} {s0 : Int32} {h : sv_H} (w : vt_W h0 h) : vt_sm h0 (fn_X5_readGroup_166 s0 h) (ab_X5_readGroup_166 s0 (vt_ab h)) := by
  unfold fn_X5_readGroup_166 ab_X5_readGroup_166
  obtain ⟨F, hF⟩ : ∃ F, sv_FP h = F := ⟨_, rfl⟩
  exact sm_rt w
theorem sm_X5_readGroup_153 {h0 : sv_H} {x1 : Nat} {x5 : Int32} {h : sv_H} (w : vt_W h0 h) (tx1 : sv_K h0 x1 = 5) : vt_sm h0 (fn_X5_readGroup_153 x1 x5 h) (ab_X5_readGroup_153 x1 x5 (vt_ab h)) := by
  unfold fn_X5_readGroup_153 ab_X5_readGroup_153
  obtain ⟨F, hF⟩ : ∃ F, sv_FP h = F := ⟨_, rfl⟩
  refine sm_cl w (sm_X4_well w.1 (w.k tx1 (by decide))) (fun r1 h2 e w2 => ?_)
  have hF2 : sv_FP h2 = F := by rw [ro_X4_well e]; exact hF
  clear e w hF
  have hF := hF2
  have w := w2
  clear hF2 w2
  refine sm_if (fun _ => ?_) (fun _ => ?_)
  · exact sm_X5_readGroup_166 w
  · exact sm_X5_readGroup_166 w
theorem sm_X5_readGroup_127b {h0 : sv_H} {k127 : Nat → Nat → Int32 → Int32 → Int32 → sv_H → Option (Int32 × sv_H)} {j127 : Nat → Nat → Int32 → Int32 → Int32 → vt_S → Option (Int32 × vt_S)} (hk127 : ∀ {x0 : Nat} {x1 : Nat} {x5 : Int32} {x6 : Int32} {x7 : Int32} {h : sv_H}, vt_W h0 h → sv_K h0 x0 = 6 → sv_K h0 x1 = 5 → vt_sm h0 (k127 x0 x1 x5 x6 x7 h) (j127 x0 x1 x5 x6 x7 (vt_ab h))) {x0 : Nat} {x1 : Nat} {x5 : Int32} {x6 : Int32} {x7 : Int32} {h : sv_H} (w : vt_W h0 h) (tx0 : sv_K h0 x0 = 6) (tx1 : sv_K h0 x1 = 5) : vt_sm h0 (fn_X5_readGroup_127b k127 x0 x1 x5 x6 x7 h) (ab_X5_readGroup_127b j127 x0 x1 x5 x6 x7 (vt_ab h)) := by
  unfold fn_X5_readGroup_127b ab_X5_readGroup_127b
  obtain ⟨F, hF⟩ : ∃ F, sv_FP h = F := ⟨_, rfl⟩
  refine sm_if (fun _ => ?_) (fun _ => ?_)
  · exact sm_X5_readGroup_153 w tx1
  · refine sm_cl w (sm_X4_well w.1 (w.k tx1 (by decide))) (fun r1 h2 e w2 => ?_)
    have hF2 : sv_FP h2 = F := by rw [ro_X4_well e]; exact hF
    clear e w hF
    have hF := hF2
    have w := w2
    clear hF2 w2
    refine sm_if (fun _ => ?_) (fun _ => ?_)
    · exact sm_X5_readGroup_153 w tx1
    · refine sm_cl w (sm_X5_add w.1 (w.k tx0 (by decide))) (fun _ h2 e w2 => ?_)
      obtain ⟨F, hF2⟩ : ∃ F, sv_FP h2 = F := ⟨_, rfl⟩
      clear e w hF
      have hF := hF2
      have w := w2
      clear hF2 w2
      exact hk127 w tx0 tx1
theorem sm_X5_readGroup_127 {h0 : sv_H} : ∀ (n : Nat) {x0 : Nat} {x1 : Nat} {x5 : Int32} {x6 : Int32} {x7 : Int32} {h : sv_H}, vt_W h0 h → sv_K h0 x0 = 6 → sv_K h0 x1 = 5 → vt_sm h0 (fn_X5_readGroup_127 n x0 x1 x5 x6 x7 h) (ab_X5_readGroup_127 n x0 x1 x5 x6 x7 (vt_ab h)) := by
  intro n
  induction n with
  | zero => intro x0 x1 x5 x6 x7 h w tx0 tx1; exact sm_no
  | succ n ih => intro x0 x1 x5 x6 x7 h w tx0 tx1; exact sm_X5_readGroup_127b (k127 := fn_X5_readGroup_127 n) (j127 := ab_X5_readGroup_127 n) (fun w tx0 tx1 => ih w tx0 tx1) w tx0 tx1
theorem sm_X5_readGroup_124 {h0 : sv_H} {x0 : Nat} {x1 : Nat} {x5 : Int32} {x6 : Int32} {h : sv_H} (w : vt_W h0 h) (tx0 : sv_K h0 x0 = 6) (tx1 : sv_K h0 x1 = 5) : vt_sm h0 (fn_X5_readGroup_124 x0 x1 x5 x6 h) (ab_X5_readGroup_124 x0 x1 x5 x6 (vt_ab h)) := by
  unfold fn_X5_readGroup_124 ab_X5_readGroup_124
  obtain ⟨F, hF⟩ : ∃ F, sv_FP h = F := ⟨_, rfl⟩
  exact sm_X5_readGroup_127 sv_fuel w tx0 tx1
theorem sm_X5_readGroup_84 {h0 : sv_H} {x0 : Nat} {x1 : Nat} {x2 : Int32} {x3 : Int32} {x5 : Int32} {s0 : Nat} {s1 : Nat} {s2 : Int32} {s3 : Int32} {h : sv_H} (w : vt_W h0 h) (tx0 : sv_K h0 x0 = 6) (tx1 : sv_K h0 x1 = 5) (ts0 : sv_K h0 s0 = 6) (ts1 : sv_K h0 s1 = 5) : vt_sm h0 (fn_X5_readGroup_84 x0 x1 x2 x3 x5 s0 s1 s2 s3 h) (ab_X5_readGroup_84 x0 x1 x2 x3 x5 s0 s1 s2 s3 (vt_ab h)) := by
  unfold fn_X5_readGroup_84 ab_X5_readGroup_84
  obtain ⟨F, hF⟩ : ∃ F, sv_FP h = F := ⟨_, rfl⟩
  refine sm_cl w (sm_X5_readInput w.1 (w.k ts0 (by decide)) (w.k ts1 (by decide))) (fun r1 h2 e w2 => ?_)
  have hF2 : sv_FP h2 = F := (ow_X5_readInput sv_clT trivial trivial e).2.1.1.trans hF
  clear e w hF
  have hF := hF2
  have w := w2
  clear hF2 w2
  refine sm_gI w tx0 (by decide) (fun v3 => ?_)
  refine sm_if (fun _ => ?_) (fun _ => ?_)
  · exact sm_X5_readGroup_124 w tx0 tx1
  · refine sm_gA w hF tx0 tk_601 (by decide) (fun v4 av4 => ?_)
    refine sm_gI w tx0 (by decide) (fun v5 => ?_)
    refine sm_lI w hF tx0 av4 tk_601 (fun _ => ?_)
    refine sm_if (fun _ => ?_) (fun _ => ?_)
    · refine sm_if (fun _ => ?_) (fun _ => ?_)
      · exact sm_X5_readGroup_124 w tx0 tx1
      · refine sm_cl w (sm_X4_blame w.1 (w.k tx1 (by decide))) (fun _ h2 e w2 => ?_)
        have hF2 : sv_FP h2 = F := (ow_X4_blame sv_clT trivial e).2.1.1.trans hF
        clear e w hF
        have hF := hF2
        have w := w2
        clear hF2 w2
        exact sm_X5_readGroup_124 w tx0 tx1
    · exact sm_X5_readGroup_124 w tx0 tx1
theorem sm_X5_readGroup_70 {h0 : sv_H} {x0 : Nat} {x1 : Nat} {x2 : Int32} {x3 : Int32} {x4 : Int32} {x5 : Int32} {s0 : Nat} {s1 : Nat} {s2 : Int32} {h : sv_H} (w : vt_W h0 h) (tx0 : sv_K h0 x0 = 6) (tx1 : sv_K h0 x1 = 5) (ts0 : sv_K h0 s0 = 6) (ts1 : sv_K h0 s1 = 5) : vt_sm h0 (fn_X5_readGroup_70 x0 x1 x2 x3 x4 x5 s0 s1 s2 h) (ab_X5_readGroup_70 x0 x1 x2 x3 x4 x5 s0 s1 s2 (vt_ab h)) := by
  unfold fn_X5_readGroup_70 ab_X5_readGroup_70
  obtain ⟨F, hF⟩ : ∃ F, sv_FP h = F := ⟨_, rfl⟩
  refine sm_if (fun _ => ?_) (fun _ => ?_)
  · exact sm_X5_readGroup_84 w tx0 tx1 ts0 ts1
  · exact sm_X5_readGroup_84 w tx0 tx1 ts0 ts1
theorem sm_X5_readGroup_55 {h0 : sv_H} {x0 : Nat} {x1 : Nat} {x2 : Int32} {x3 : Int32} {x4 : Int32} {x5 : Int32} {h : sv_H} (w : vt_W h0 h) (tx0 : sv_K h0 x0 = 6) (tx1 : sv_K h0 x1 = 5) : vt_sm h0 (fn_X5_readGroup_55 x0 x1 x2 x3 x4 x5 h) (ab_X5_readGroup_55 x0 x1 x2 x3 x4 x5 (vt_ab h)) := by
  unfold fn_X5_readGroup_55 ab_X5_readGroup_55
  obtain ⟨F, hF⟩ : ∃ F, sv_FP h = F := ⟨_, rfl⟩
  refine sm_if (fun _ => ?_) (fun _ => ?_)
  · exact sm_X5_readGroup_70 w tx0 tx1 tx0 tx1
  · exact sm_X5_readGroup_70 w tx0 tx1 tx0 tx1
theorem sm_X5_readGroup_36 {h0 : sv_H} {x0 : Nat} {x1 : Nat} {x2 : Int32} {x3 : Int32} {x4 : Int32} {x5 : Int32} {h : sv_H} (w : vt_W h0 h) (tx0 : sv_K h0 x0 = 6) (tx1 : sv_K h0 x1 = 5) : vt_sm h0 (fn_X5_readGroup_36 x0 x1 x2 x3 x4 x5 h) (ab_X5_readGroup_36 x0 x1 x2 x3 x4 x5 (vt_ab h)) := by
  unfold fn_X5_readGroup_36 ab_X5_readGroup_36
  obtain ⟨F, hF⟩ : ∃ F, sv_FP h = F := ⟨_, rfl⟩
  refine sm_gI w tx0 (by decide) (fun v1 => ?_)
  refine sm_if (fun _ => ?_) (fun _ => ?_)
  · exact sm_X5_readGroup_55 w tx0 tx1
  · refine sm_cl w (sm_X4_blame w.1 (w.k tx1 (by decide))) (fun _ h2 e w2 => ?_)
    have hF2 : sv_FP h2 = F := (ow_X4_blame sv_clT trivial e).2.1.1.trans hF
    clear e w hF
    have hF := hF2
    have w := w2
    clear hF2 w2
    exact sm_X5_readGroup_55 w tx0 tx1
theorem sm_X5_readGroup_0 {h0 : sv_H} {x0 : Nat} {x1 : Nat} {x2 : Int32} {h : sv_H} (w : vt_W h0 h) (tx0 : sv_K h0 x0 = 6) (tx1 : sv_K h0 x1 = 5) : vt_sm h0 (fn_X5_readGroup x0 x1 x2 h) (ab_X5_readGroup x0 x1 x2 (vt_ab h)) := by
  unfold fn_X5_readGroup ab_X5_readGroup
  obtain ⟨F, hF⟩ : ∃ F, sv_FP h = F := ⟨_, rfl⟩
  refine sm_kd w tx0 (by decide) ?_
  refine sm_gI w tx1 (by decide) (fun v1 => ?_)
  refine sm_cl w (sm_X4_one w.1 (w.k tx1 (by decide))) (fun r2 h2 e w2 => ?_)
  have hF2 : sv_FP h2 = F := (ow_X4_one sv_clT trivial e).2.1.1.trans hF
  clear e w hF
  have hF := hF2
  have w := w2
  clear hF2 w2
  refine sm_if (fun _ => ?_) (fun _ => ?_)
  · exact sm_rt w
  · refine sm_if (fun _ => ?_) (fun _ => ?_)
    · refine sm_cl w (sm_X4_blame w.1 (w.k tx1 (by decide))) (fun _ h2 e w2 => ?_)
      have hF2 : sv_FP h2 = F := (ow_X4_blame sv_clT trivial e).2.1.1.trans hF
      clear e w hF
      have hF := hF2
      have w := w2
      clear hF2 w2
      exact sm_X5_readGroup_36 w tx0 tx1
    · exact sm_X5_readGroup_36 w tx0 tx1
theorem sm_X5_readGroup {x0 : Nat} {x1 : Nat} {x2 : Int32} {h : sv_H} (g : vt_G h) (tx0 : sv_K h x0 = 6) (tx1 : sv_K h x1 = 5) : vt_sm h (fn_X5_readGroup x0 x1 x2 h) (ab_X5_readGroup x0 x1 x2 (vt_ab h)) := sm_X5_readGroup_0 ⟨g, vt_ko.refl h⟩ tx0 tx1

theorem sm_X5_checkOf_8b {h0 : sv_H} {k8 : Nat → Int32 → Int64 → Int64 → Int32 → sv_H → Option (Int64 × sv_H)} {j8 : Nat → Int32 → Int64 → Int64 → Int32 → vt_S → Option (Int64 × vt_S)} (hk8 : ∀ {x0 : Nat} {x1 : Int32} {x2 : Int64} {x4 : Int64} {x6 : Int32} {h : sv_H}, vt_W h0 h → sv_K h0 x0 = 1 → vt_sm h0 (k8 x0 x1 x2 x4 x6 h) (j8 x0 x1 x2 x4 x6 (vt_ab h))) {x0 : Nat} {x1 : Int32} {x2 : Int64} {x4 : Int64} {x6 : Int32} {h : sv_H} (w : vt_W h0 h) (tx0 : sv_K h0 x0 = 1) : vt_sm h0 (fn_X5_checkOf_8b k8 x0 x1 x2 x4 x6 h) (ab_X5_checkOf_8b j8 x0 x1 x2 x4 x6 (vt_ab h)) := by
  unfold fn_X5_checkOf_8b ab_X5_checkOf_8b
  obtain ⟨F, hF⟩ : ∃ F, sv_FP h = F := ⟨_, rfl⟩
  refine sm_if (fun _ => ?_) (fun _ => ?_)
  · exact sm_rt w
  · refine sm_gA w hF tx0 tk_100 (by decide) (fun v1 av1 => ?_)
    refine sm_lI w hF tx0 av1 tk_100 (fun _ => ?_)
    exact hk8 w tx0
theorem sm_X5_checkOf_8 {h0 : sv_H} : ∀ (n : Nat) {x0 : Nat} {x1 : Int32} {x2 : Int64} {x4 : Int64} {x6 : Int32} {h : sv_H}, vt_W h0 h → sv_K h0 x0 = 1 → vt_sm h0 (fn_X5_checkOf_8 n x0 x1 x2 x4 x6 h) (ab_X5_checkOf_8 n x0 x1 x2 x4 x6 (vt_ab h)) := by
  intro n
  induction n with
  | zero => intro x0 x1 x2 x4 x6 h w tx0; exact sm_no
  | succ n ih => intro x0 x1 x2 x4 x6 h w tx0; exact sm_X5_checkOf_8b (k8 := fn_X5_checkOf_8 n) (j8 := ab_X5_checkOf_8 n) (fun w tx0 => ih w tx0) w tx0
theorem sm_X5_checkOf_0 {h0 : sv_H} {x0 : Nat} {x1 : Int32} {h : sv_H} (w : vt_W h0 h) (tx0 : sv_K h0 x0 = 1) : vt_sm h0 (fn_X5_checkOf x0 x1 h) (ab_X5_checkOf x0 x1 (vt_ab h)) := by
  unfold fn_X5_checkOf ab_X5_checkOf
  obtain ⟨F, hF⟩ : ∃ F, sv_FP h = F := ⟨_, rfl⟩
  exact sm_X5_checkOf_8 sv_fuel w tx0
theorem sm_X5_checkOf {x0 : Nat} {x1 : Int32} {h : sv_H} (g : vt_G h) (tx0 : sv_K h x0 = 1) : vt_sm h (fn_X5_checkOf x0 x1 h) (ab_X5_checkOf x0 x1 (vt_ab h)) := sm_X5_checkOf_0 ⟨g, vt_ko.refl h⟩ tx0

theorem sm_X5_readCheck_24b {h0 : sv_H} {k24 : Nat → Int64 → Int32 → sv_H → Option (Unit × sv_H)} {j24 : Nat → Int64 → Int32 → vt_S → Option (Unit × vt_S)} (hk24 : ∀ {x1 : Nat} {x2 : Int64} {x4 : Int32} {h : sv_H}, vt_W h0 h → sv_K h0 x1 = 5 → vt_sm h0 (k24 x1 x2 x4 h) (j24 x1 x2 x4 (vt_ab h))) {x1 : Nat} {x2 : Int64} {x4 : Int32} {h : sv_H} (w : vt_W h0 h) (tx1 : sv_K h0 x1 = 5) : vt_sm h0 (fn_X5_readCheck_24b k24 x1 x2 x4 h) (ab_X5_readCheck_24b j24 x1 x2 x4 (vt_ab h)) := by
  unfold fn_X5_readCheck_24b ab_X5_readCheck_24b
  obtain ⟨F, hF⟩ : ∃ F, sv_FP h = F := ⟨_, rfl⟩
  refine sm_if (fun _ => ?_) (fun _ => ?_)
  · exact sm_rt w
  · refine sm_cl w (sm_X4_expect w.1 (w.k tx1 (by decide))) (fun _ h2 e w2 => ?_)
    have hF2 : sv_FP h2 = F := (ow_X4_expect sv_clT trivial e).2.1.1.trans hF
    clear e w hF
    have hF := hF2
    have w := w2
    clear hF2 w2
    exact hk24 w tx1
theorem sm_X5_readCheck_24 {h0 : sv_H} : ∀ (n : Nat) {x1 : Nat} {x2 : Int64} {x4 : Int32} {h : sv_H}, vt_W h0 h → sv_K h0 x1 = 5 → vt_sm h0 (fn_X5_readCheck_24 n x1 x2 x4 h) (ab_X5_readCheck_24 n x1 x2 x4 (vt_ab h)) := by
  intro n
  induction n with
  | zero => intro x1 x2 x4 h w tx1; exact sm_no
  | succ n ih => intro x1 x2 x4 h w tx1; exact sm_X5_readCheck_24b (k24 := fn_X5_readCheck_24 n) (j24 := ab_X5_readCheck_24 n) (fun w tx1 => ih w tx1) w tx1
theorem sm_X5_readCheck_0 {h0 : sv_H} {x0 : Nat} {x1 : Nat} {h : sv_H} (w : vt_W h0 h) (tx0 : sv_K h0 x0 = 6) (tx1 : sv_K h0 x1 = 5) : vt_sm h0 (fn_X5_readCheck x0 x1 h) (ab_X5_readCheck x0 x1 (vt_ab h)) := by
  unfold fn_X5_readCheck ab_X5_readCheck
  obtain ⟨F, hF⟩ : ∃ F, sv_FP h = F := ⟨_, rfl⟩
  refine sm_kd w tx0 (by decide) ?_
  refine sm_cl w (sm_X4_well w.1 (w.k tx1 (by decide))) (fun r1 h2 e w2 => ?_)
  have hF2 : sv_FP h2 = F := by rw [ro_X4_well e]; exact hF
  clear e w hF
  have hF := hF2
  have w := w2
  clear hF2 w2
  refine sm_if (fun _ => ?_) (fun _ => ?_)
  · exact sm_rt w
  · refine sm_gP w tx1 tk_500 rfl (fun v3 tv3 => ?_)
    refine sm_gI w tx1 (by decide) (fun v4 => ?_)
    refine sm_cl w (sm_X5_checkOf w.1 (w.k tv3 (by decide))) (fun r5 h2 e w2 => ?_)
    have hF2 : sv_FP h2 = F := by rw [ro_X5_checkOf e]; exact hF
    clear e w hF
    have hF := hF2
    have w := w2
    clear hF2 w2
    exact sm_X5_readCheck_24 sv_fuel w tx1
theorem sm_X5_readCheck {x0 : Nat} {x1 : Nat} {h : sv_H} (g : vt_G h) (tx0 : sv_K h x0 = 6) (tx1 : sv_K h x1 = 5) : vt_sm h (fn_X5_readCheck x0 x1 h) (ab_X5_readCheck x0 x1 (vt_ab h)) := sm_X5_readCheck_0 ⟨g, vt_ko.refl h⟩ tx0 tx1

theorem sm_X5_read_65 {h0 : sv_H} {x0 : Nat} {x1 : Nat} {h : sv_H} (w : vt_W h0 h) (tx0 : sv_K h0 x0 = 6) (tx1 : sv_K h0 x1 = 5) : vt_sm h0 (fn_X5_read_65 x0 x1 h) (ab_X5_read_65 x0 x1 (vt_ab h)) := by
  unfold fn_X5_read_65 ab_X5_read_65
  obtain ⟨F, hF⟩ : ∃ F, sv_FP h = F := ⟨_, rfl⟩
  refine sm_cl w (sm_X5_readCheck w.1 (w.k tx0 (by decide)) (w.k tx1 (by decide))) (fun _ h2 e w2 => ?_)
  have hF2 : sv_FP h2 = F := (ow_X5_readCheck sv_clT trivial trivial e).2.1.1.trans hF
  clear e w hF
  have hF := hF2
  have w := w2
  clear hF2 w2
  refine sm_cl w (sm_X4_expectEnd w.1 (w.k tx1 (by decide))) (fun _ h2 e w2 => ?_)
  have hF2 : sv_FP h2 = F := (ow_X4_expectEnd sv_clT trivial e).2.1.1.trans hF
  clear e w hF
  have hF := hF2
  have w := w2
  clear hF2 w2
  exact sm_rt w
theorem sm_X5_read_41b {h0 : sv_H} {k41 : Nat → Nat → Int32 → Int32 → sv_H → Option (Unit × sv_H)} {j41 : Nat → Nat → Int32 → Int32 → vt_S → Option (Unit × vt_S)} (hk41 : ∀ {x0 : Nat} {x1 : Nat} {x2 : Int32} {x3 : Int32} {h : sv_H}, vt_W h0 h → sv_K h0 x0 = 6 → sv_K h0 x1 = 5 → vt_sm h0 (k41 x0 x1 x2 x3 h) (j41 x0 x1 x2 x3 (vt_ab h))) {x0 : Nat} {x1 : Nat} {x2 : Int32} {x3 : Int32} {h : sv_H} (w : vt_W h0 h) (tx0 : sv_K h0 x0 = 6) (tx1 : sv_K h0 x1 = 5) : vt_sm h0 (fn_X5_read_41b k41 x0 x1 x2 x3 h) (ab_X5_read_41b j41 x0 x1 x2 x3 (vt_ab h)) := by
  unfold fn_X5_read_41b ab_X5_read_41b
  obtain ⟨F, hF⟩ : ∃ F, sv_FP h = F := ⟨_, rfl⟩
  refine sm_if (fun _ => ?_) (fun _ => ?_)
  · exact sm_X5_read_65 w tx0 tx1
  · refine sm_if (fun _ => ?_) (fun _ => ?_)
    · exact sm_X5_read_65 w tx0 tx1
    · refine sm_cl w (sm_X5_readGroup w.1 (w.k tx0 (by decide)) (w.k tx1 (by decide))) (fun r1 h2 e w2 => ?_)
      obtain ⟨F, hF2⟩ : ∃ F, sv_FP h2 = F := ⟨_, rfl⟩
      clear e w hF
      have hF := hF2
      have w := w2
      clear hF2 w2
      exact hk41 w tx0 tx1
theorem sm_X5_read_41 {h0 : sv_H} : ∀ (n : Nat) {x0 : Nat} {x1 : Nat} {x2 : Int32} {x3 : Int32} {h : sv_H}, vt_W h0 h → sv_K h0 x0 = 6 → sv_K h0 x1 = 5 → vt_sm h0 (fn_X5_read_41 n x0 x1 x2 x3 h) (ab_X5_read_41 n x0 x1 x2 x3 (vt_ab h)) := by
  intro n
  induction n with
  | zero => intro x0 x1 x2 x3 h w tx0 tx1; exact sm_no
  | succ n ih => intro x0 x1 x2 x3 h w tx0 tx1; exact sm_X5_read_41b (k41 := fn_X5_read_41 n) (j41 := ab_X5_read_41 n) (fun w tx0 tx1 => ih w tx0 tx1) w tx0 tx1
theorem sm_X5_read_0 {h0 : sv_H} {x0 : Nat} {x1 : Nat} {h : sv_H} (w : vt_W h0 h) (tx0 : sv_K h0 x0 = 6) (tx1 : sv_K h0 x1 = 5) : vt_sm h0 (fn_X5_read x0 x1 h) (ab_X5_read x0 x1 (vt_ab h)) := by
  unfold fn_X5_read ab_X5_read
  obtain ⟨F, hF⟩ : ∃ F, sv_FP h = F := ⟨_, rfl⟩
  refine sm_kd w tx0 (by decide) ?_
  refine sm_cl w (sm_X4_expect w.1 (w.k tx1 (by decide))) (fun _ h2 e w2 => ?_)
  have hF2 : sv_FP h2 = F := (ow_X4_expect sv_clT trivial e).2.1.1.trans hF
  clear e w hF
  have hF := hF2
  have w := w2
  clear hF2 w2
  refine sm_cl w (sm_X4_expect w.1 (w.k tx1 (by decide))) (fun _ h2 e w2 => ?_)
  have hF2 : sv_FP h2 = F := (ow_X4_expect sv_clT trivial e).2.1.1.trans hF
  clear e w hF
  have hF := hF2
  have w := w2
  clear hF2 w2
  refine sm_cl w (sm_X4_expect w.1 (w.k tx1 (by decide))) (fun _ h2 e w2 => ?_)
  have hF2 : sv_FP h2 = F := (ow_X4_expect sv_clT trivial e).2.1.1.trans hF
  clear e w hF
  have hF := hF2
  have w := w2
  clear hF2 w2
  refine sm_gP w tx0 tk_600 rfl (fun v4 tv4 => ?_)
  refine sm_cl w (sm_X4_readStart w.1 (w.k tx1 (by decide)) (w.k tv4 (by decide))) (fun _ h2 e w2 => ?_)
  have hF2 : sv_FP h2 = F := (ow_X4_readStart sv_clT trivial trivial e).2.1.1.trans hF
  clear e w hF
  have hF := hF2
  have w := w2
  clear hF2 w2
  refine sm_pI w hF tx0 (by decide) (fun h w hF => ?_)
  exact sm_X5_read_41 sv_fuel w tx0 tx1
theorem sm_X5_read {x0 : Nat} {x1 : Nat} {h : sv_H} (g : vt_G h) (tx0 : sv_K h x0 = 6) (tx1 : sv_K h x1 = 5) : vt_sm h (fn_X5_read x0 x1 h) (ab_X5_read x0 x1 (vt_ab h)) := sm_X5_read_0 ⟨g, vt_ko.refl h⟩ tx0 tx1

theorem sm_X12_hasMap_12 {h0 : sv_H} {s0 : Int32} {h : sv_H} (w : vt_W h0 h) : vt_sm h0 (fn_X12_hasMap_12 s0 h) (ab_X12_hasMap_12 s0 (vt_ab h)) := by
  unfold fn_X12_hasMap_12 ab_X12_hasMap_12
  obtain ⟨F, hF⟩ : ∃ F, sv_FP h = F := ⟨_, rfl⟩
  exact sm_rz w
theorem sm_X12_hasMap_0 {h0 : sv_H} {x0 : Nat} {h : sv_H} (w : vt_W h0 h) (tx0 : sv_K h0 x0 = 13) : vt_sm h0 (fn_X12_hasMap x0 h) (ab_X12_hasMap x0 (vt_ab h)) := by
  unfold fn_X12_hasMap ab_X12_hasMap
  obtain ⟨F, hF⟩ : ∃ F, sv_FP h = F := ⟨_, rfl⟩
  refine sm_kd w tx0 (by decide) ?_
  refine sm_gI w tx0 (by decide) (fun v1 => ?_)
  refine sm_if (fun _ => ?_) (fun _ => ?_)
  · exact sm_X12_hasMap_12 w
  · exact sm_X12_hasMap_12 w
theorem sm_X12_hasMap {x0 : Nat} {h : sv_H} (g : vt_G h) (tx0 : sv_K h x0 = 13) : vt_sm h (fn_X12_hasMap x0 h) (ab_X12_hasMap x0 (vt_ab h)) := sm_X12_hasMap_0 ⟨g, vt_ko.refl h⟩ tx0

theorem sm_X12_swapRuns_0 {h0 : sv_H} {x0 : Nat} {h : sv_H} (w : vt_W h0 h) (tx0 : sv_K h0 x0 = 13) : vt_sm h0 (fn_X12_swapRuns x0 h) (ab_X12_swapRuns x0 (vt_ab h)) := by
  unfold fn_X12_swapRuns ab_X12_swapRuns
  obtain ⟨F, hF⟩ : ∃ F, sv_FP h = F := ⟨_, rfl⟩
  refine sm_kd w tx0 (by decide) ?_
  refine sm_gP w tx0 tk_1308 rfl (fun v1 tv1 => ?_)
  refine sm_gP w tx0 tk_1309 rfl (fun v2 tv2 => ?_)
  refine sm_pP w tx0 tv2 tk_1308 rfl (fun h w => ?_)
  clear hF
  obtain ⟨F, hF⟩ : ∃ F, sv_FP h = F := ⟨_, rfl⟩
  refine sm_pP w tx0 tv1 tk_1309 rfl (fun h w => ?_)
  clear hF
  obtain ⟨F, hF⟩ : ∃ F, sv_FP h = F := ⟨_, rfl⟩
  exact sm_rt w
theorem sm_X12_swapRuns {x0 : Nat} {h : sv_H} (g : vt_G h) (tx0 : sv_K h x0 = 13) : vt_sm h (fn_X12_swapRuns x0 h) (ab_X12_swapRuns x0 (vt_ab h)) := sm_X12_swapRuns_0 ⟨g, vt_ko.refl h⟩ tx0

theorem sm_X12_loadDemo_88 {h0 : sv_H} {x0 : Nat} {h : sv_H} (w : vt_W h0 h) (tx0 : sv_K h0 x0 = 13) : vt_sm h0 (fn_X12_loadDemo_88 x0 h) (ab_X12_loadDemo_88 x0 (vt_ab h)) := by
  unfold fn_X12_loadDemo_88 ab_X12_loadDemo_88
  obtain ⟨F, hF⟩ : ∃ F, sv_FP h = F := ⟨_, rfl⟩
  refine sm_gP w tx0 tk_1302 rfl (fun v1 tv1 => ?_)
  refine sm_gI w tv1 (by decide) (fun v2 => ?_)
  exact sm_rt w
theorem sm_X12_loadDemo_56 {h0 : sv_H} {x0 : Nat} {h : sv_H} (w : vt_W h0 h) (tx0 : sv_K h0 x0 = 13) : vt_sm h0 (fn_X12_loadDemo_56 x0 h) (ab_X12_loadDemo_56 x0 (vt_ab h)) := by
  unfold fn_X12_loadDemo_56 ab_X12_loadDemo_56
  obtain ⟨F, hF⟩ : ∃ F, sv_FP h = F := ⟨_, rfl⟩
  refine sm_gP w tx0 tk_1302 rfl (fun v1 tv1 => ?_)
  refine sm_cl w (sm_X4_well w.1 (w.k tv1 (by decide))) (fun r2 h2 e w2 => ?_)
  have hF2 : sv_FP h2 = F := by rw [ro_X4_well e]; exact hF
  clear e w hF
  have hF := hF2
  have w := w2
  clear hF2 w2
  refine sm_if (fun _ => ?_) (fun _ => ?_)
  · exact sm_X12_loadDemo_88 w tx0
  · refine sm_cl w (sm_X12_swapRuns w.1 (w.k tx0 (by decide))) (fun _ h2 e w2 => ?_)
    obtain ⟨F, hF2⟩ : ∃ F, sv_FP h2 = F := ⟨_, rfl⟩
    clear e w hF
    have hF := hF2
    have w := w2
    clear hF2 w2
    refine sm_gP w tx0 tk_1304 rfl (fun v5 tv5 => ?_)
    refine sm_gP w tx0 tk_1306 rfl (fun v6 tv6 => ?_)
    refine sm_gP w tx0 tk_1308 rfl (fun v7 tv7 => ?_)
    refine sm_gP w tv7 tk_600 rfl (fun v8 tv8 => ?_)
    refine sm_cl w (sm_X10_begin w.1 (w.k tv5 (by decide)) (w.k tv6 (by decide)) (w.k tv8 (by decide))) (fun _ h2 e w2 => ?_)
    obtain ⟨F, hF2⟩ : ∃ F, sv_FP h2 = F := ⟨_, rfl⟩
    clear e w hF
    have hF := hF2
    have w := w2
    clear hF2 w2
    exact sm_X12_loadDemo_88 w tx0
theorem sm_X12_loadDemo_45 {h0 : sv_H} {x0 : Nat} {h : sv_H} (w : vt_W h0 h) (tx0 : sv_K h0 x0 = 13) : vt_sm h0 (fn_X12_loadDemo_45 x0 h) (ab_X12_loadDemo_45 x0 (vt_ab h)) := by
  unfold fn_X12_loadDemo_45 ab_X12_loadDemo_45
  obtain ⟨F, hF⟩ : ∃ F, sv_FP h = F := ⟨_, rfl⟩
  refine sm_gP w tx0 tk_1302 rfl (fun v1 tv1 => ?_)
  refine sm_cl w (sm_X4_blame w.1 (w.k tv1 (by decide))) (fun _ h2 e w2 => ?_)
  have hF2 : sv_FP h2 = F := (ow_X4_blame sv_clT trivial e).2.1.1.trans hF
  clear e w hF
  have hF := hF2
  have w := w2
  clear hF2 w2
  exact sm_X12_loadDemo_56 w tx0
theorem sm_X12_loadDemo_0 {h0 : sv_H} {x0 : Nat} {h : sv_H} (w : vt_W h0 h) (tx0 : sv_K h0 x0 = 13) : vt_sm h0 (fn_X12_loadDemo x0 h) (ab_X12_loadDemo x0 (vt_ab h)) := by
  unfold fn_X12_loadDemo ab_X12_loadDemo
  obtain ⟨F, hF⟩ : ∃ F, sv_FP h = F := ⟨_, rfl⟩
  refine sm_kd w tx0 (by decide) ?_
  refine sm_gP w tx0 tk_1302 rfl (fun v1 tv1 => ?_)
  refine sm_cl w (sm_X4_begin w.1 (w.k tv1 (by decide))) (fun _ h2 e w2 => ?_)
  have hF2 : sv_FP h2 = F := (ow_X4_begin sv_clT trivial e).2.1.1.trans hF
  clear e w hF
  have hF := hF2
  have w := w2
  clear hF2 w2
  refine sm_gP w tx0 tk_1309 rfl (fun v3 tv3 => ?_)
  refine sm_gP w tx0 tk_1302 rfl (fun v4 tv4 => ?_)
  refine sm_cl w (sm_X5_read w.1 (w.k tv3 (by decide)) (w.k tv4 (by decide))) (fun _ h2 e w2 => ?_)
  obtain ⟨F, hF2⟩ : ∃ F, sv_FP h2 = F := ⟨_, rfl⟩
  clear e w hF
  have hF := hF2
  have w := w2
  clear hF2 w2
  refine sm_cl w (sm_X12_hasMap w.1 (w.k tx0 (by decide))) (fun r6 h2 e w2 => ?_)
  have hF2 : sv_FP h2 = F := by rw [ro_X12_hasMap e]; exact hF
  clear e w hF
  have hF := hF2
  have w := w2
  clear hF2 w2
  refine sm_if (fun _ => ?_) (fun _ => ?_)
  · exact sm_X12_loadDemo_45 w tx0
  · refine sm_gP w tx0 tk_1309 rfl (fun v8 tv8 => ?_)
    refine sm_gP w tv8 tk_600 rfl (fun v9 tv9 => ?_)
    refine sm_gI w tv9 (by decide) (fun v10 => ?_)
    refine sm_gP w tx0 tk_1306 rfl (fun v11 tv11 => ?_)
    refine sm_gI w tv11 (by decide) (fun v12 => ?_)
    refine sm_if (fun _ => ?_) (fun _ => ?_)
    · exact sm_X12_loadDemo_56 w tx0
    · exact sm_X12_loadDemo_45 w tx0
theorem sm_X12_loadDemo {x0 : Nat} {h : sv_H} (g : vt_G h) (tx0 : sv_K h x0 = 13) : vt_sm h (fn_X12_loadDemo x0 h) (ab_X12_loadDemo x0 (vt_ab h)) := sm_X12_loadDemo_0 ⟨g, vt_ko.refl h⟩ tx0

theorem sm_X15_wrong_17 {h0 : sv_H} {h : sv_H} (w : vt_W h0 h) : vt_sm h0 (fn_X15_wrong_17 h) (ab_X15_wrong_17 (vt_ab h)) := by
  unfold fn_X15_wrong_17 ab_X15_wrong_17
  obtain ⟨F, hF⟩ : ∃ F, sv_FP h = F := ⟨_, rfl⟩
  exact sm_rt w
theorem sm_X15_wrong_0 {h0 : sv_H} {x0 : Nat} {x1 : Int32} {x2 : Int32} {h : sv_H} (w : vt_W h0 h) (tx0 : sv_K h0 x0 = 16) : vt_sm h0 (fn_X15_wrong x0 x1 x2 h) (ab_X15_wrong x0 x1 x2 (vt_ab h)) := by
  unfold fn_X15_wrong ab_X15_wrong
  obtain ⟨F, hF⟩ : ∃ F, sv_FP h = F := ⟨_, rfl⟩
  refine sm_kd w tx0 (by decide) ?_
  refine sm_gI w tx0 (by decide) (fun v1 => ?_)
  refine sm_if (fun _ => ?_) (fun _ => ?_)
  · refine sm_pI w hF tx0 (by decide) (fun h w hF => ?_)
    refine sm_pI w hF tx0 (by decide) (fun h w hF => ?_)
    exact sm_X15_wrong_17 w
  · exact sm_X15_wrong_17 w
theorem sm_X15_wrong {x0 : Nat} {x1 : Int32} {x2 : Int32} {h : sv_H} (g : vt_G h) (tx0 : sv_K h x0 = 16) : vt_sm h (fn_X15_wrong x0 x1 x2 h) (ab_X15_wrong x0 x1 x2 (vt_ab h)) := sm_X15_wrong_0 ⟨g, vt_ko.refl h⟩ tx0

theorem sm_X15_sum_0 {h0 : sv_H} {x0 : Nat} {x1 : Int32} {h : sv_H} (w : vt_W h0 h) (tx0 : sv_K h0 x0 = 16) : vt_sm h0 (fn_X15_sum x0 x1 h) (ab_X15_sum x0 x1 (vt_ab h)) := by
  unfold fn_X15_sum ab_X15_sum
  obtain ⟨F, hF⟩ : ∃ F, sv_FP h = F := ⟨_, rfl⟩
  refine sm_kd w tx0 (by decide) ?_
  refine sm_gI w tx0 (by decide) (fun v1 => ?_)
  refine sm_pI w hF tx0 (by decide) (fun h w hF => ?_)
  refine sm_gI w tx0 (by decide) (fun v3 => ?_)
  refine sm_gI w tx0 (by decide) (fun v4 => ?_)
  refine sm_pI w hF tx0 (by decide) (fun h w hF => ?_)
  exact sm_rt w
theorem sm_X15_sum {x0 : Nat} {x1 : Int32} {h : sv_H} (g : vt_G h) (tx0 : sv_K h x0 = 16) : vt_sm h (fn_X15_sum x0 x1 h) (ab_X15_sum x0 x1 (vt_ab h)) := sm_X15_sum_0 ⟨g, vt_ko.refl h⟩ tx0

theorem sm_X15_next_27 {h0 : sv_H} {x0 : Nat} {h : sv_H} (w : vt_W h0 h) (tx0 : sv_K h0 x0 = 16) : vt_sm h0 (fn_X15_next_27 x0 h) (ab_X15_next_27 x0 (vt_ab h)) := by
  unfold fn_X15_next_27 ab_X15_next_27
  obtain ⟨F, hF⟩ : ∃ F, sv_FP h = F := ⟨_, rfl⟩
  refine sm_gI w tx0 (by decide) (fun v1 => ?_)
  refine sm_if (fun _ => ?_) (fun _ => ?_)
  · refine sm_gA w hF tx0 tk_1608 (by decide) (fun v2 av2 => ?_)
    refine sm_gI w tx0 (by decide) (fun v3 => ?_)
    refine sm_lI w hF tx0 av2 tk_1608 (fun _ => ?_)
    refine sm_gI w tx0 (by decide) (fun v5 => ?_)
    refine sm_pI w hF tx0 (by decide) (fun h w hF => ?_)
    refine sm_cl w (sm_X15_sum w.1 (w.k tx0 (by decide))) (fun _ h2 e w2 => ?_)
    have hF2 : sv_FP h2 = F := (ow_X15_sum sv_clT trivial e).2.1.1.trans hF
    clear e w hF
    have hF := hF2
    have w := w2
    clear hF2 w2
    exact sm_rt w
  · exact sm_rt w
theorem sm_X15_next_0 {h0 : sv_H} {x0 : Nat} {h : sv_H} (w : vt_W h0 h) (tx0 : sv_K h0 x0 = 16) : vt_sm h0 (fn_X15_next x0 h) (ab_X15_next x0 (vt_ab h)) := by
  unfold fn_X15_next ab_X15_next
  obtain ⟨F, hF⟩ : ∃ F, sv_FP h = F := ⟨_, rfl⟩
  refine sm_kd w tx0 (by decide) ?_
  refine sm_gI w tx0 (by decide) (fun v1 => ?_)
  refine sm_if (fun _ => ?_) (fun _ => ?_)
  · refine sm_gI w tx0 (by decide) (fun v2 => ?_)
    refine sm_gI w tx0 (by decide) (fun v3 => ?_)
    refine sm_if (fun _ => ?_) (fun _ => ?_)
    · refine sm_gI w tx0 (by decide) (fun v4 => ?_)
      refine sm_cl w (sm_X15_wrong w.1 (w.k tx0 (by decide))) (fun _ h2 e w2 => ?_)
      have hF2 : sv_FP h2 = F := (ow_X15_wrong sv_clT trivial e).2.1.1.trans hF
      clear e w hF
      have hF := hF2
      have w := w2
      clear hF2 w2
      exact sm_X15_next_27 w tx0
    · exact sm_X15_next_27 w tx0
  · exact sm_X15_next_27 w tx0
theorem sm_X15_next {x0 : Nat} {h : sv_H} (g : vt_G h) (tx0 : sv_K h x0 = 16) : vt_sm h (fn_X15_next x0 h) (ab_X15_next x0 (vt_ab h)) := sm_X15_next_0 ⟨g, vt_ko.refl h⟩ tx0

theorem sm_X15_nextTwo_31 {h0 : sv_H} {s0 : Int32} {h : sv_H} (w : vt_W h0 h) : vt_sm h0 (fn_X15_nextTwo_31 s0 h) (ab_X15_nextTwo_31 s0 (vt_ab h)) := by
  unfold fn_X15_nextTwo_31 ab_X15_nextTwo_31
  obtain ⟨F, hF⟩ : ∃ F, sv_FP h = F := ⟨_, rfl⟩
  exact sm_rt w
theorem sm_X15_nextTwo_0 {h0 : sv_H} {x0 : Nat} {h : sv_H} (w : vt_W h0 h) (tx0 : sv_K h0 x0 = 16) : vt_sm h0 (fn_X15_nextTwo x0 h) (ab_X15_nextTwo x0 (vt_ab h)) := by
  unfold fn_X15_nextTwo ab_X15_nextTwo
  obtain ⟨F, hF⟩ : ∃ F, sv_FP h = F := ⟨_, rfl⟩
  refine sm_kd w tx0 (by decide) ?_
  refine sm_cl w (sm_X15_next w.1 (w.k tx0 (by decide))) (fun r1 h2 e w2 => ?_)
  have hF2 : sv_FP h2 = F := (ow_X15_next sv_clT trivial e).2.1.1.trans hF
  clear e w hF
  have hF := hF2
  have w := w2
  clear hF2 w2
  refine sm_cl w (sm_X15_next w.1 (w.k tx0 (by decide))) (fun r3 h2 e w2 => ?_)
  have hF2 : sv_FP h2 = F := (ow_X15_next sv_clT trivial e).2.1.1.trans hF
  clear e w hF
  have hF := hF2
  have w := w2
  clear hF2 w2
  refine sm_if (fun _ => ?_) (fun _ => ?_)
  · exact sm_X15_nextTwo_31 w
  · exact sm_X15_nextTwo_31 w
theorem sm_X15_nextTwo {x0 : Nat} {h : sv_H} (g : vt_G h) (tx0 : sv_K h x0 = 16) : vt_sm h (fn_X15_nextTwo x0 h) (ab_X15_nextTwo x0 (vt_ab h)) := sm_X15_nextTwo_0 ⟨g, vt_ko.refl h⟩ tx0

theorem sm_X15_nextUpTo_28 {h0 : sv_H} {x2 : Int32} {x3 : Int32} {h : sv_H} (w : vt_W h0 h) : vt_sm h0 (fn_X15_nextUpTo_28 x2 x3 h) (ab_X15_nextUpTo_28 x2 x3 (vt_ab h)) := by
  unfold fn_X15_nextUpTo_28 ab_X15_nextUpTo_28
  obtain ⟨F, hF⟩ : ∃ F, sv_FP h = F := ⟨_, rfl⟩
  exact sm_rt w
theorem sm_X15_nextUpTo_0 {h0 : sv_H} {x0 : Nat} {x1 : Int32} {x2 : Int32} {h : sv_H} (w : vt_W h0 h) (tx0 : sv_K h0 x0 = 16) : vt_sm h0 (fn_X15_nextUpTo x0 x1 x2 h) (ab_X15_nextUpTo x0 x1 x2 (vt_ab h)) := by
  unfold fn_X15_nextUpTo ab_X15_nextUpTo
  obtain ⟨F, hF⟩ : ∃ F, sv_FP h = F := ⟨_, rfl⟩
  refine sm_kd w tx0 (by decide) ?_
  refine sm_cl w (sm_X15_next w.1 (w.k tx0 (by decide))) (fun r1 h2 e w2 => ?_)
  have hF2 : sv_FP h2 = F := (ow_X15_next sv_clT trivial e).2.1.1.trans hF
  clear e w hF
  have hF := hF2
  have w := w2
  clear hF2 w2
  refine sm_gI w tx0 (by decide) (fun v3 => ?_)
  refine sm_if (fun _ => ?_) (fun _ => ?_)
  · refine sm_if (fun _ => ?_) (fun _ => ?_)
    · exact sm_X15_nextUpTo_28 w
    · refine sm_gI w tx0 (by decide) (fun v4 => ?_)
      refine sm_cl w (sm_X15_wrong w.1 (w.k tx0 (by decide))) (fun _ h2 e w2 => ?_)
      have hF2 : sv_FP h2 = F := (ow_X15_wrong sv_clT trivial e).2.1.1.trans hF
      clear e w hF
      have hF := hF2
      have w := w2
      clear hF2 w2
      exact sm_X15_nextUpTo_28 w
  · exact sm_X15_nextUpTo_28 w
theorem sm_X15_nextUpTo {x0 : Nat} {x1 : Int32} {x2 : Int32} {h : sv_H} (g : vt_G h) (tx0 : sv_K h x0 = 16) : vt_sm h (fn_X15_nextUpTo x0 x1 x2 h) (ab_X15_nextUpTo x0 x1 x2 (vt_ab h)) := sm_X15_nextUpTo_0 ⟨g, vt_ko.refl h⟩ tx0

theorem sm_X15_readGroup_303 {h0 : sv_H} {h : sv_H} (w : vt_W h0 h) : vt_sm h0 (fn_X15_readGroup_303 h) (ab_X15_readGroup_303 (vt_ab h)) := by
  unfold fn_X15_readGroup_303 ab_X15_readGroup_303
  obtain ⟨F, hF⟩ : ∃ F, sv_FP h = F := ⟨_, rfl⟩
  exact sm_rt w
theorem sm_X15_readGroup_229b {h0 : sv_H} {k229 : Nat → Int32 → Int32 → Int32 → Int32 → Int32 → Int32 → sv_H → Option (Unit × sv_H)} {j229 : Nat → Int32 → Int32 → Int32 → Int32 → Int32 → Int32 → vt_S → Option (Unit × vt_S)} (hk229 : ∀ {x0 : Nat} {x4 : Int32} {x5 : Int32} {x6 : Int32} {x7 : Int32} {x8 : Int32} {x11 : Int32} {h : sv_H}, vt_W h0 h → sv_K h0 x0 = 16 → vt_sm h0 (k229 x0 x4 x5 x6 x7 x8 x11 h) (j229 x0 x4 x5 x6 x7 x8 x11 (vt_ab h))) {x0 : Nat} {x4 : Int32} {x5 : Int32} {x6 : Int32} {x7 : Int32} {x8 : Int32} {x11 : Int32} {h : sv_H} (w : vt_W h0 h) (tx0 : sv_K h0 x0 = 16) : vt_sm h0 (fn_X15_readGroup_229b k229 x0 x4 x5 x6 x7 x8 x11 h) (ab_X15_readGroup_229b j229 x0 x4 x5 x6 x7 x8 x11 (vt_ab h)) := by
  unfold fn_X15_readGroup_229b ab_X15_readGroup_229b
  obtain ⟨F, hF⟩ : ∃ F, sv_FP h = F := ⟨_, rfl⟩
  refine sm_if (fun _ => ?_) (fun _ => ?_)
  · exact sm_X15_readGroup_303 w
  · refine sm_gI w tx0 (by decide) (fun v1 => ?_)
    refine sm_if (fun _ => ?_) (fun _ => ?_)
    · refine sm_gA w hF tx0 tk_1611 (by decide) (fun v2 av2 => ?_)
      refine sm_gI w tx0 (by decide) (fun v3 => ?_)
      refine sm_sI w hF tx0 av2 tk_1611 (fun h w hF => ?_)
      refine sm_gA w hF tx0 tk_1612 (by decide) (fun v5 av5 => ?_)
      refine sm_gI w tx0 (by decide) (fun v6 => ?_)
      refine sm_sI w hF tx0 av5 tk_1612 (fun h w hF => ?_)
      refine sm_gA w hF tx0 tk_1613 (by decide) (fun v8 av8 => ?_)
      refine sm_gI w tx0 (by decide) (fun v9 => ?_)
      refine sm_sI w hF tx0 av8 tk_1613 (fun h w hF => ?_)
      refine sm_gA w hF tx0 tk_1614 (by decide) (fun v11 av11 => ?_)
      refine sm_gI w tx0 (by decide) (fun v12 => ?_)
      refine sm_sZ w hF tx0 av11 tk_1614 (fun h w hF => ?_)
      refine sm_gI w tx0 (by decide) (fun v14 => ?_)
      refine sm_pI w hF tx0 (by decide) (fun h w hF => ?_)
      exact hk229 w tx0
    · exact sm_X15_readGroup_303 w
theorem sm_X15_readGroup_229 {h0 : sv_H} : ∀ (n : Nat) {x0 : Nat} {x4 : Int32} {x5 : Int32} {x6 : Int32} {x7 : Int32} {x8 : Int32} {x11 : Int32} {h : sv_H}, vt_W h0 h → sv_K h0 x0 = 16 → vt_sm h0 (fn_X15_readGroup_229 n x0 x4 x5 x6 x7 x8 x11 h) (ab_X15_readGroup_229 n x0 x4 x5 x6 x7 x8 x11 (vt_ab h)) := by
  intro n
  induction n with
  | zero => intro x0 x4 x5 x6 x7 x8 x11 h w tx0; exact sm_no
  | succ n ih => intro x0 x4 x5 x6 x7 x8 x11 h w tx0; exact sm_X15_readGroup_229b (k229 := fn_X15_readGroup_229 n) (j229 := ab_X15_readGroup_229 n) (fun w tx0 => ih w tx0) w tx0
theorem sm_X15_readGroup_226 {h0 : sv_H} {x0 : Nat} {x4 : Int32} {x5 : Int32} {x6 : Int32} {x7 : Int32} {x8 : Int32} {h : sv_H} (w : vt_W h0 h) (tx0 : sv_K h0 x0 = 16) : vt_sm h0 (fn_X15_readGroup_226 x0 x4 x5 x6 x7 x8 h) (ab_X15_readGroup_226 x0 x4 x5 x6 x7 x8 (vt_ab h)) := by
  unfold fn_X15_readGroup_226 ab_X15_readGroup_226
  obtain ⟨F, hF⟩ : ∃ F, sv_FP h = F := ⟨_, rfl⟩
  exact sm_X15_readGroup_229 sv_fuel w tx0
theorem sm_X15_readGroup_213 {h0 : sv_H} {x0 : Nat} {x3 : Int32} {x4 : Int32} {x5 : Int32} {x6 : Int32} {x7 : Int32} {x8 : Int32} {s0 : Int32} {h : sv_H} (w : vt_W h0 h) (tx0 : sv_K h0 x0 = 16) : vt_sm h0 (fn_X15_readGroup_213 x0 x3 x4 x5 x6 x7 x8 s0 h) (ab_X15_readGroup_213 x0 x3 x4 x5 x6 x7 x8 s0 (vt_ab h)) := by
  unfold fn_X15_readGroup_213 ab_X15_readGroup_213
  obtain ⟨F, hF⟩ : ∃ F, sv_FP h = F := ⟨_, rfl⟩
  refine sm_if (fun _ => ?_) (fun _ => ?_)
  · exact sm_X15_readGroup_226 w tx0
  · refine sm_cl w (sm_X15_wrong w.1 (w.k tx0 (by decide))) (fun _ h2 e w2 => ?_)
    have hF2 : sv_FP h2 = F := (ow_X15_wrong sv_clT trivial e).2.1.1.trans hF
    clear e w hF
    have hF := hF2
    have w := w2
    clear hF2 w2
    exact sm_X15_readGroup_226 w tx0
theorem sm_X15_readGroup_212 {h0 : sv_H} {x0 : Nat} {x3 : Int32} {x4 : Int32} {x5 : Int32} {x6 : Int32} {x7 : Int32} {x8 : Int32} {h : sv_H} (w : vt_W h0 h) (tx0 : sv_K h0 x0 = 16) : vt_sm h0 (fn_X15_readGroup_212 x0 x3 x4 x5 x6 x7 x8 h) (ab_X15_readGroup_212 x0 x3 x4 x5 x6 x7 x8 (vt_ab h)) := by
  unfold fn_X15_readGroup_212 ab_X15_readGroup_212
  obtain ⟨F, hF⟩ : ∃ F, sv_FP h = F := ⟨_, rfl⟩
  exact sm_X15_readGroup_213 w tx0
theorem sm_X15_readGroup_133 {h0 : sv_H} {x0 : Nat} {x2 : Int32} {x3 : Int32} {x4 : Int32} {x5 : Int32} {x6 : Int32} {x7 : Int32} {s0 : Int32} {h : sv_H} (w : vt_W h0 h) (tx0 : sv_K h0 x0 = 16) : vt_sm h0 (fn_X15_readGroup_133 x0 x2 x3 x4 x5 x6 x7 s0 h) (ab_X15_readGroup_133 x0 x2 x3 x4 x5 x6 x7 s0 (vt_ab h)) := by
  unfold fn_X15_readGroup_133 ab_X15_readGroup_133
  obtain ⟨F, hF⟩ : ∃ F, sv_FP h = F := ⟨_, rfl⟩
  refine sm_gI w tx0 (by decide) (fun v1 => ?_)
  refine sm_gI w tx0 (by decide) (fun v2 => ?_)
  refine sm_if (fun _ => ?_) (fun _ => ?_)
  · refine sm_if (fun _ => ?_) (fun _ => ?_)
    · exact sm_X15_readGroup_212 w tx0
    · refine sm_if (fun _ => ?_) (fun _ => ?_)
      · exact sm_X15_readGroup_212 w tx0
      · refine sm_gA w hF tx0 tk_1611 (by decide) (fun v3 av3 => ?_)
        refine sm_lI w hF tx0 av3 tk_1611 (fun _ => ?_)
        refine sm_if (fun _ => ?_) (fun _ => ?_)
        · refine sm_gA w hF tx0 tk_1612 (by decide) (fun v5 av5 => ?_)
          refine sm_lI w hF tx0 av5 tk_1612 (fun _ => ?_)
          refine sm_if (fun _ => ?_) (fun _ => ?_)
          · refine sm_gA w hF tx0 tk_1613 (by decide) (fun v7 av7 => ?_)
            refine sm_lI w hF tx0 av7 tk_1613 (fun _ => ?_)
            refine sm_if (fun _ => ?_) (fun _ => ?_)
            · refine sm_gA w hF tx0 tk_1614 (by decide) (fun v9 av9 => ?_)
              refine sm_lZ w hF tx0 av9 tk_1614 (fun _ => ?_)
              refine sm_if (fun _ => ?_) (fun _ => ?_)
              · exact sm_X15_readGroup_213 w tx0
              · exact sm_X15_readGroup_212 w tx0
            · exact sm_X15_readGroup_212 w tx0
          · exact sm_X15_readGroup_212 w tx0
        · exact sm_X15_readGroup_212 w tx0
  · exact sm_X15_readGroup_212 w tx0
theorem sm_X15_readGroup_118 {h0 : sv_H} {x0 : Nat} {x1 : Int32} {x2 : Int32} {x3 : Int32} {x4 : Int32} {x5 : Int32} {x6 : Int32} {x7 : Int32} {h : sv_H} (w : vt_W h0 h) (tx0 : sv_K h0 x0 = 16) : vt_sm h0 (fn_X15_readGroup_118 x0 x1 x2 x3 x4 x5 x6 x7 h) (ab_X15_readGroup_118 x0 x1 x2 x3 x4 x5 x6 x7 (vt_ab h)) := by
  unfold fn_X15_readGroup_118 ab_X15_readGroup_118
  obtain ⟨F, hF⟩ : ∃ F, sv_FP h = F := ⟨_, rfl⟩
  refine sm_if (fun _ => ?_) (fun _ => ?_)
  · exact sm_X15_readGroup_133 w tx0
  · exact sm_X15_readGroup_133 w tx0
theorem sm_X15_readGroup_46 {h0 : sv_H} {x0 : Nat} {x1 : Int32} {x2 : Int32} {x3 : Int32} {x4 : Int32} {h : sv_H} (w : vt_W h0 h) (tx0 : sv_K h0 x0 = 16) : vt_sm h0 (fn_X15_readGroup_46 x0 x1 x2 x3 x4 h) (ab_X15_readGroup_46 x0 x1 x2 x3 x4 (vt_ab h)) := by
  unfold fn_X15_readGroup_46 ab_X15_readGroup_46
  obtain ⟨F, hF⟩ : ∃ F, sv_FP h = F := ⟨_, rfl⟩
  refine sm_cl w (sm_X15_nextUpTo w.1 (w.k tx0 (by decide))) (fun r1 h2 e w2 => ?_)
  have hF2 : sv_FP h2 = F := (ow_X15_nextUpTo sv_clT trivial e).2.1.1.trans hF
  clear e w hF
  have hF := hF2
  have w := w2
  clear hF2 w2
  refine sm_if (fun _ => ?_) (fun _ => ?_)
  · exact sm_X15_readGroup_118 w tx0
  · refine sm_cl w (sm_X15_nextUpTo w.1 (w.k tx0 (by decide))) (fun r3 h2 e w2 => ?_)
    have hF2 : sv_FP h2 = F := (ow_X15_nextUpTo sv_clT trivial e).2.1.1.trans hF
    clear e w hF
    have hF := hF2
    have w := w2
    clear hF2 w2
    refine sm_cl w (sm_X15_nextUpTo w.1 (w.k tx0 (by decide))) (fun r5 h2 e w2 => ?_)
    have hF2 : sv_FP h2 = F := (ow_X15_nextUpTo sv_clT trivial e).2.1.1.trans hF
    clear e w hF
    have hF := hF2
    have w := w2
    clear hF2 w2
    refine sm_gI w tx0 (by decide) (fun v7 => ?_)
    refine sm_if (fun _ => ?_) (fun _ => ?_)
    · refine sm_if (fun _ => ?_) (fun _ => ?_)
      · refine sm_if (fun _ => ?_) (fun _ => ?_)
        · refine sm_gI w tx0 (by decide) (fun v8 => ?_)
          refine sm_cl w (sm_X15_wrong w.1 (w.k tx0 (by decide))) (fun _ h2 e w2 => ?_)
          have hF2 : sv_FP h2 = F := (ow_X15_wrong sv_clT trivial e).2.1.1.trans hF
          clear e w hF
          have hF := hF2
          have w := w2
          clear hF2 w2
          exact sm_X15_readGroup_118 w tx0
        · exact sm_X15_readGroup_118 w tx0
      · exact sm_X15_readGroup_118 w tx0
    · exact sm_X15_readGroup_118 w tx0
theorem sm_X15_readGroup_0 {h0 : sv_H} {x0 : Nat} {x1 : Int32} {x2 : Int32} {h : sv_H} (w : vt_W h0 h) (tx0 : sv_K h0 x0 = 16) : vt_sm h0 (fn_X15_readGroup x0 x1 x2 h) (ab_X15_readGroup x0 x1 x2 (vt_ab h)) := by
  unfold fn_X15_readGroup ab_X15_readGroup
  obtain ⟨F, hF⟩ : ∃ F, sv_FP h = F := ⟨_, rfl⟩
  refine sm_kd w tx0 (by decide) ?_
  refine sm_gI w tx0 (by decide) (fun v1 => ?_)
  refine sm_if (fun _ => ?_) (fun _ => ?_)
  · refine sm_cl w (sm_X15_wrong w.1 (w.k tx0 (by decide))) (fun _ h2 e w2 => ?_)
    have hF2 : sv_FP h2 = F := (ow_X15_wrong sv_clT trivial e).2.1.1.trans hF
    clear e w hF
    have hF := hF2
    have w := w2
    clear hF2 w2
    exact sm_X15_readGroup_46 w tx0
  · refine sm_gI w tx0 (by decide) (fun v2 => ?_)
    refine sm_if (fun _ => ?_) (fun _ => ?_)
    · exact sm_X15_readGroup_46 w tx0
    · refine sm_cl w (sm_X15_wrong w.1 (w.k tx0 (by decide))) (fun _ h2 e w2 => ?_)
      have hF2 : sv_FP h2 = F := (ow_X15_wrong sv_clT trivial e).2.1.1.trans hF
      clear e w hF
      have hF := hF2
      have w := w2
      clear hF2 w2
      exact sm_X15_readGroup_46 w tx0
theorem sm_X15_readGroup {x0 : Nat} {x1 : Int32} {x2 : Int32} {h : sv_H} (g : vt_G h) (tx0 : sv_K h x0 = 16) : vt_sm h (fn_X15_readGroup x0 x1 x2 h) (ab_X15_readGroup x0 x1 x2 (vt_ab h)) := sm_X15_readGroup_0 ⟨g, vt_ko.refl h⟩ tx0

theorem sm_X15_readAll_264 {h0 : sv_H} {h : sv_H} (w : vt_W h0 h) : vt_sm h0 (fn_X15_readAll_264 h) (ab_X15_readAll_264 (vt_ab h)) := by
  unfold fn_X15_readAll_264 ab_X15_readAll_264
  obtain ⟨F, hF⟩ : ∃ F, sv_FP h = F := ⟨_, rfl⟩
  exact sm_rt w
theorem sm_X15_readAll_230 {h0 : sv_H} {k154 : Nat → Int32 → Int32 → Int32 → sv_H → Option (Unit × sv_H)} {j154 : Nat → Int32 → Int32 → Int32 → vt_S → Option (Unit × vt_S)} (hk154 : ∀ {x0 : Nat} {x3 : Int32} {x4 : Int32} {x5 : Int32} {h : sv_H}, vt_W h0 h → sv_K h0 x0 = 16 → vt_sm h0 (k154 x0 x3 x4 x5 h) (j154 x0 x3 x4 x5 (vt_ab h))) {x0 : Nat} {x3 : Int32} {x4 : Int32} {x5 : Int32} {h : sv_H} (w : vt_W h0 h) (tx0 : sv_K h0 x0 = 16) : vt_sm h0 (fn_X15_readAll_230 k154 x0 x3 x4 x5 h) (ab_X15_readAll_230 j154 x0 x3 x4 x5 (vt_ab h)) := by
  unfold fn_X15_readAll_230 ab_X15_readAll_230
  obtain ⟨F, hF⟩ : ∃ F, sv_FP h = F := ⟨_, rfl⟩
  exact hk154 w tx0
theorem sm_X15_readAll_196 {h0 : sv_H} {k154 : Nat → Int32 → Int32 → Int32 → sv_H → Option (Unit × sv_H)} {j154 : Nat → Int32 → Int32 → Int32 → vt_S → Option (Unit × vt_S)} (hk154 : ∀ {x0 : Nat} {x3 : Int32} {x4 : Int32} {x5 : Int32} {h : sv_H}, vt_W h0 h → sv_K h0 x0 = 16 → vt_sm h0 (k154 x0 x3 x4 x5 h) (j154 x0 x3 x4 x5 (vt_ab h))) {x0 : Nat} {x3 : Int32} {x4 : Int32} {x5 : Int32} {s0 : Int32} {h : sv_H} (w : vt_W h0 h) (tx0 : sv_K h0 x0 = 16) : vt_sm h0 (fn_X15_readAll_196 k154 x0 x3 x4 x5 s0 h) (ab_X15_readAll_196 j154 x0 x3 x4 x5 s0 (vt_ab h)) := by
  unfold fn_X15_readAll_196 ab_X15_readAll_196
  obtain ⟨F, hF⟩ : ∃ F, sv_FP h = F := ⟨_, rfl⟩
  refine sm_cl w (sm_X15_next w.1 (w.k tx0 (by decide))) (fun r1 h2 e w2 => ?_)
  have hF2 : sv_FP h2 = F := (ow_X15_next sv_clT trivial e).2.1.1.trans hF
  clear e w hF
  have hF := hF2
  have w := w2
  clear hF2 w2
  refine sm_gI w tx0 (by decide) (fun v3 => ?_)
  refine sm_if (fun _ => ?_) (fun _ => ?_)
  · refine sm_if (fun _ => ?_) (fun _ => ?_)
    · exact sm_X15_readAll_230 (k154 := k154) (j154 := j154) hk154 w tx0
    · refine sm_gI w tx0 (by decide) (fun v4 => ?_)
      refine sm_cl w (sm_X15_wrong w.1 (w.k tx0 (by decide))) (fun _ h2 e w2 => ?_)
      have hF2 : sv_FP h2 = F := (ow_X15_wrong sv_clT trivial e).2.1.1.trans hF
      clear e w hF
      have hF := hF2
      have w := w2
      clear hF2 w2
      exact sm_X15_readAll_230 (k154 := k154) (j154 := j154) hk154 w tx0
  · exact sm_X15_readAll_230 (k154 := k154) (j154 := j154) hk154 w tx0
theorem sm_X15_readAll_172 {h0 : sv_H} {k154 : Nat → Int32 → Int32 → Int32 → sv_H → Option (Unit × sv_H)} {j154 : Nat → Int32 → Int32 → Int32 → vt_S → Option (Unit × vt_S)} (hk154 : ∀ {x0 : Nat} {x3 : Int32} {x4 : Int32} {x5 : Int32} {h : sv_H}, vt_W h0 h → sv_K h0 x0 = 16 → vt_sm h0 (k154 x0 x3 x4 x5 h) (j154 x0 x3 x4 x5 (vt_ab h))) {x0 : Nat} {x3 : Int32} {x4 : Int32} {x5 : Int32} {s0 : Int32} {h : sv_H} (w : vt_W h0 h) (tx0 : sv_K h0 x0 = 16) : vt_sm h0 (fn_X15_readAll_172 k154 x0 x3 x4 x5 s0 h) (ab_X15_readAll_172 j154 x0 x3 x4 x5 s0 (vt_ab h)) := by
  unfold fn_X15_readAll_172 ab_X15_readAll_172
  obtain ⟨F, hF⟩ : ∃ F, sv_FP h = F := ⟨_, rfl⟩
  refine sm_if (fun _ => ?_) (fun _ => ?_)
  · exact sm_X15_readAll_196 (k154 := k154) (j154 := j154) hk154 w tx0
  · exact sm_X15_readAll_196 (k154 := k154) (j154 := j154) hk154 w tx0
theorem sm_X15_readAll_154b {h0 : sv_H} {k154 : Nat → Int32 → Int32 → Int32 → sv_H → Option (Unit × sv_H)} {j154 : Nat → Int32 → Int32 → Int32 → vt_S → Option (Unit × vt_S)} (hk154 : ∀ {x0 : Nat} {x3 : Int32} {x4 : Int32} {x5 : Int32} {h : sv_H}, vt_W h0 h → sv_K h0 x0 = 16 → vt_sm h0 (k154 x0 x3 x4 x5 h) (j154 x0 x3 x4 x5 (vt_ab h))) {x0 : Nat} {x3 : Int32} {x4 : Int32} {x5 : Int32} {h : sv_H} (w : vt_W h0 h) (tx0 : sv_K h0 x0 = 16) : vt_sm h0 (fn_X15_readAll_154b k154 x0 x3 x4 x5 h) (ab_X15_readAll_154b j154 x0 x3 x4 x5 (vt_ab h)) := by
  unfold fn_X15_readAll_154b ab_X15_readAll_154b
  obtain ⟨F, hF⟩ : ∃ F, sv_FP h = F := ⟨_, rfl⟩
  refine sm_if (fun _ => ?_) (fun _ => ?_)
  · refine sm_gI w tx0 (by decide) (fun v1 => ?_)
    refine sm_if (fun _ => ?_) (fun _ => ?_)
    · refine sm_gI w tx0 (by decide) (fun v2 => ?_)
      refine sm_gI w tx0 (by decide) (fun v3 => ?_)
      refine sm_if (fun _ => ?_) (fun _ => ?_)
      · exact sm_X15_readAll_264 w
      · refine sm_gI w tx0 (by decide) (fun v4 => ?_)
        refine sm_cl w (sm_X15_wrong w.1 (w.k tx0 (by decide))) (fun _ h2 e w2 => ?_)
        have hF2 : sv_FP h2 = F := (ow_X15_wrong sv_clT trivial e).2.1.1.trans hF
        clear e w hF
        have hF := hF2
        have w := w2
        clear hF2 w2
        exact sm_X15_readAll_264 w
    · exact sm_X15_readAll_264 w
  · refine sm_if (fun _ => ?_) (fun _ => ?_)
    · exact sm_X15_readAll_172 (k154 := k154) (j154 := j154) hk154 w tx0
    · exact sm_X15_readAll_172 (k154 := k154) (j154 := j154) hk154 w tx0
theorem sm_X15_readAll_154 {h0 : sv_H} : ∀ (n : Nat) {x0 : Nat} {x3 : Int32} {x4 : Int32} {x5 : Int32} {h : sv_H}, vt_W h0 h → sv_K h0 x0 = 16 → vt_sm h0 (fn_X15_readAll_154 n x0 x3 x4 x5 h) (ab_X15_readAll_154 n x0 x3 x4 x5 (vt_ab h)) := by
  intro n
  induction n with
  | zero => intro x0 x3 x4 x5 h w tx0; exact sm_no
  | succ n ih => intro x0 x3 x4 x5 h w tx0; exact sm_X15_readAll_154b (k154 := fn_X15_readAll_154 n) (j154 := ab_X15_readAll_154 n) (fun w tx0 => ih w tx0) w tx0
theorem sm_X15_readAll_140 {h0 : sv_H} {x0 : Nat} {h : sv_H} (w : vt_W h0 h) (tx0 : sv_K h0 x0 = 16) : vt_sm h0 (fn_X15_readAll_140 x0 h) (ab_X15_readAll_140 x0 (vt_ab h)) := by
  unfold fn_X15_readAll_140 ab_X15_readAll_140
  obtain ⟨F, hF⟩ : ∃ F, sv_FP h = F := ⟨_, rfl⟩
  refine sm_gI w tx0 (by decide) (fun v1 => ?_)
  refine sm_gI w tx0 (by decide) (fun v2 => ?_)
  exact sm_X15_readAll_154 sv_fuel w tx0
theorem sm_X15_readAll_110b {h0 : sv_H} {k110 : Nat → Int32 → Int32 → sv_H → Option (Unit × sv_H)} {j110 : Nat → Int32 → Int32 → vt_S → Option (Unit × vt_S)} (hk110 : ∀ {x0 : Nat} {x1 : Int32} {x2 : Int32} {h : sv_H}, vt_W h0 h → sv_K h0 x0 = 16 → vt_sm h0 (k110 x0 x1 x2 h) (j110 x0 x1 x2 (vt_ab h))) {x0 : Nat} {x1 : Int32} {x2 : Int32} {h : sv_H} (w : vt_W h0 h) (tx0 : sv_K h0 x0 = 16) : vt_sm h0 (fn_X15_readAll_110b k110 x0 x1 x2 h) (ab_X15_readAll_110b j110 x0 x1 x2 (vt_ab h)) := by
  unfold fn_X15_readAll_110b ab_X15_readAll_110b
  obtain ⟨F, hF⟩ : ∃ F, sv_FP h = F := ⟨_, rfl⟩
  refine sm_if (fun _ => ?_) (fun _ => ?_)
  · exact sm_X15_readAll_140 w tx0
  · refine sm_gI w tx0 (by decide) (fun v1 => ?_)
    refine sm_if (fun _ => ?_) (fun _ => ?_)
    · refine sm_cl w (sm_X15_readGroup w.1 (w.k tx0 (by decide))) (fun _ h2 e w2 => ?_)
      have hF2 : sv_FP h2 = F := (ow_X15_readGroup sv_clT trivial e).2.1.1.trans hF
      clear e w hF
      have hF := hF2
      have w := w2
      clear hF2 w2
      refine sm_cl w (sm_X15_next w.1 (w.k tx0 (by decide))) (fun r3 h2 e w2 => ?_)
      have hF2 : sv_FP h2 = F := (ow_X15_next sv_clT trivial e).2.1.1.trans hF
      clear e w hF
      have hF := hF2
      have w := w2
      clear hF2 w2
      exact hk110 w tx0
    · exact sm_X15_readAll_140 w tx0
theorem sm_X15_readAll_110 {h0 : sv_H} : ∀ (n : Nat) {x0 : Nat} {x1 : Int32} {x2 : Int32} {h : sv_H}, vt_W h0 h → sv_K h0 x0 = 16 → vt_sm h0 (fn_X15_readAll_110 n x0 x1 x2 h) (ab_X15_readAll_110 n x0 x1 x2 (vt_ab h)) := by
  intro n
  induction n with
  | zero => intro x0 x1 x2 h w tx0; exact sm_no
  | succ n ih => intro x0 x1 x2 h w tx0; exact sm_X15_readAll_110b (k110 := fn_X15_readAll_110 n) (j110 := ab_X15_readAll_110 n) (fun w tx0 => ih w tx0) w tx0
theorem sm_X15_readAll_49 {h0 : sv_H} {k2 : Nat → Int32 → sv_H → Option (Unit × sv_H)} {j2 : Nat → Int32 → vt_S → Option (Unit × vt_S)} (hk2 : ∀ {x0 : Nat} {x1 : Int32} {h : sv_H}, vt_W h0 h → sv_K h0 x0 = 16 → vt_sm h0 (k2 x0 x1 h) (j2 x0 x1 (vt_ab h))) {x0 : Nat} {x1 : Int32} {h : sv_H} (w : vt_W h0 h) (tx0 : sv_K h0 x0 = 16) : vt_sm h0 (fn_X15_readAll_49 k2 x0 x1 h) (ab_X15_readAll_49 j2 x0 x1 (vt_ab h)) := by
  unfold fn_X15_readAll_49 ab_X15_readAll_49
  obtain ⟨F, hF⟩ : ∃ F, sv_FP h = F := ⟨_, rfl⟩
  exact hk2 w tx0
theorem sm_X15_readAll_40 {h0 : sv_H} {k2 : Nat → Int32 → sv_H → Option (Unit × sv_H)} {j2 : Nat → Int32 → vt_S → Option (Unit × vt_S)} (hk2 : ∀ {x0 : Nat} {x1 : Int32} {h : sv_H}, vt_W h0 h → sv_K h0 x0 = 16 → vt_sm h0 (k2 x0 x1 h) (j2 x0 x1 (vt_ab h))) {x0 : Nat} {x1 : Int32} {s0 : Int32} {s1 : Int32} {h : sv_H} (w : vt_W h0 h) (tx0 : sv_K h0 x0 = 16) : vt_sm h0 (fn_X15_readAll_40 k2 x0 x1 s0 s1 h) (ab_X15_readAll_40 j2 x0 x1 s0 s1 (vt_ab h)) := by
  unfold fn_X15_readAll_40 ab_X15_readAll_40
  obtain ⟨F, hF⟩ : ∃ F, sv_FP h = F := ⟨_, rfl⟩
  refine sm_if (fun _ => ?_) (fun _ => ?_)
  · exact sm_X15_readAll_49 (k2 := k2) (j2 := j2) hk2 w tx0
  · refine sm_cl w (sm_X15_wrong w.1 (w.k tx0 (by decide))) (fun _ h2 e w2 => ?_)
    have hF2 : sv_FP h2 = F := (ow_X15_wrong sv_clT trivial e).2.1.1.trans hF
    clear e w hF
    have hF := hF2
    have w := w2
    clear hF2 w2
    exact sm_X15_readAll_49 (k2 := k2) (j2 := j2) hk2 w tx0
theorem sm_X15_readAll_2b {h0 : sv_H} {k2 : Nat → Int32 → sv_H → Option (Unit × sv_H)} {j2 : Nat → Int32 → vt_S → Option (Unit × vt_S)} (hk2 : ∀ {x0 : Nat} {x1 : Int32} {h : sv_H}, vt_W h0 h → sv_K h0 x0 = 16 → vt_sm h0 (k2 x0 x1 h) (j2 x0 x1 (vt_ab h))) {x0 : Nat} {x1 : Int32} {h : sv_H} (w : vt_W h0 h) (tx0 : sv_K h0 x0 = 16) : vt_sm h0 (fn_X15_readAll_2b k2 x0 x1 h) (ab_X15_readAll_2b j2 x0 x1 (vt_ab h)) := by
  unfold fn_X15_readAll_2b ab_X15_readAll_2b
  obtain ⟨F, hF⟩ : ∃ F, sv_FP h = F := ⟨_, rfl⟩
  refine sm_if (fun _ => ?_) (fun _ => ?_)
  · refine sm_gA w hF tx0 tk_1610 (by decide) (fun v1 av1 => ?_)
    refine sm_cl w (sm_X15_nextTwo w.1 (w.k tx0 (by decide))) (fun r2 h2 e w2 => ?_)
    have hF2 : sv_FP h2 = F := (ow_X15_nextTwo sv_clT trivial e).2.1.1.trans hF
    clear e w hF
    have hF := hF2
    have w := w2
    clear hF2 w2
    refine sm_sI w hF tx0 av1 tk_1610 (fun h w hF => ?_)
    refine sm_gA w hF tx0 tk_1610 (by decide) (fun v5 av5 => ?_)
    refine sm_cl w (sm_X15_nextTwo w.1 (w.k tx0 (by decide))) (fun r6 h2 e w2 => ?_)
    have hF2 : sv_FP h2 = F := (ow_X15_nextTwo sv_clT trivial e).2.1.1.trans hF
    clear e w hF
    have hF := hF2
    have w := w2
    clear hF2 w2
    refine sm_sI w hF tx0 av5 tk_1610 (fun h w hF => ?_)
    refine sm_gA w hF tx0 tk_1610 (by decide) (fun v9 av9 => ?_)
    refine sm_cl w (sm_X15_nextUpTo w.1 (w.k tx0 (by decide))) (fun r10 h2 e w2 => ?_)
    have hF2 : sv_FP h2 = F := (ow_X15_nextUpTo sv_clT trivial e).2.1.1.trans hF
    clear e w hF
    have hF := hF2
    have w := w2
    clear hF2 w2
    refine sm_sI w hF tx0 av9 tk_1610 (fun h w hF => ?_)
    refine sm_gA w hF tx0 tk_1610 (by decide) (fun v13 av13 => ?_)
    refine sm_cl w (sm_X15_next w.1 (w.k tx0 (by decide))) (fun r14 h2 e w2 => ?_)
    have hF2 : sv_FP h2 = F := (ow_X15_next sv_clT trivial e).2.1.1.trans hF
    clear e w hF
    have hF := hF2
    have w := w2
    clear hF2 w2
    refine sm_sI w hF tx0 av13 tk_1610 (fun h w hF => ?_)
    refine sm_pI w hF tx0 (by decide) (fun h w hF => ?_)
    refine sm_cl w (sm_X15_next w.1 (w.k tx0 (by decide))) (fun r18 h2 e w2 => ?_)
    have hF2 : sv_FP h2 = F := (ow_X15_next sv_clT trivial e).2.1.1.trans hF
    clear e w hF
    have hF := hF2
    have w := w2
    clear hF2 w2
    exact sm_X15_readAll_110 sv_fuel w tx0
  · refine sm_cl w (sm_X15_next w.1 (w.k tx0 (by decide))) (fun r20 h2 e w2 => ?_)
    have hF2 : sv_FP h2 = F := (ow_X15_next sv_clT trivial e).2.1.1.trans hF
    clear e w hF
    have hF := hF2
    have w := w2
    clear hF2 w2
    refine sm_gI w tx0 (by decide) (fun v22 => ?_)
    refine sm_if (fun _ => ?_) (fun _ => ?_)
    · refine sm_if (fun _ => ?_) (fun _ => ?_)
      · exact sm_X15_readAll_40 (k2 := k2) (j2 := j2) hk2 w tx0
      · refine sm_if (fun _ => ?_) (fun _ => ?_)
        · exact sm_X15_readAll_40 (k2 := k2) (j2 := j2) hk2 w tx0
        · exact sm_X15_readAll_40 (k2 := k2) (j2 := j2) hk2 w tx0
    · exact sm_X15_readAll_49 (k2 := k2) (j2 := j2) hk2 w tx0
theorem sm_X15_readAll_2 {h0 : sv_H} : ∀ (n : Nat) {x0 : Nat} {x1 : Int32} {h : sv_H}, vt_W h0 h → sv_K h0 x0 = 16 → vt_sm h0 (fn_X15_readAll_2 n x0 x1 h) (ab_X15_readAll_2 n x0 x1 (vt_ab h)) := by
  intro n
  induction n with
  | zero => intro x0 x1 h w tx0; exact sm_no
  | succ n ih => intro x0 x1 h w tx0; exact sm_X15_readAll_2b (k2 := fn_X15_readAll_2 n) (j2 := ab_X15_readAll_2 n) (fun w tx0 => ih w tx0) w tx0
theorem sm_X15_readAll_0 {h0 : sv_H} {x0 : Nat} {h : sv_H} (w : vt_W h0 h) (tx0 : sv_K h0 x0 = 16) : vt_sm h0 (fn_X15_readAll x0 h) (ab_X15_readAll x0 (vt_ab h)) := by
  unfold fn_X15_readAll ab_X15_readAll
  obtain ⟨F, hF⟩ : ∃ F, sv_FP h = F := ⟨_, rfl⟩
  refine sm_kd w tx0 (by decide) ?_
  exact sm_X15_readAll_2 sv_fuel w tx0
theorem sm_X15_readAll {x0 : Nat} {h : sv_H} (g : vt_G h) (tx0 : sv_K h x0 = 16) : vt_sm h (fn_X15_readAll x0 h) (ab_X15_readAll x0 (vt_ab h)) := sm_X15_readAll_0 ⟨g, vt_ko.refl h⟩ tx0

theorem sm_X15_read_101b {h0 : sv_H} {k101 : Nat → Int32 → sv_H → Option (Int32 × sv_H)} {j101 : Nat → Int32 → vt_S → Option (Int32 × vt_S)} (hk101 : ∀ {x0 : Nat} {x2 : Int32} {h : sv_H}, vt_W h0 h → sv_K h0 x0 = 16 → vt_sm h0 (k101 x0 x2 h) (j101 x0 x2 (vt_ab h))) {x0 : Nat} {x2 : Int32} {h : sv_H} (w : vt_W h0 h) (tx0 : sv_K h0 x0 = 16) : vt_sm h0 (fn_X15_read_101b k101 x0 x2 h) (ab_X15_read_101b j101 x0 x2 (vt_ab h)) := by
  unfold fn_X15_read_101b ab_X15_read_101b
  obtain ⟨F, hF⟩ : ∃ F, sv_FP h = F := ⟨_, rfl⟩
  refine sm_gI w tx0 (by decide) (fun v1 => ?_)
  refine sm_if (fun _ => ?_) (fun _ => ?_)
  · exact sm_rt w
  · refine sm_gA w hF tx0 tk_1601 (by decide) (fun v2 av2 => ?_)
    refine sm_gA w hF tx0 tk_1611 (by decide) (fun v3 av3 => ?_)
    refine sm_lI w hF tx0 av3 tk_1611 (fun _ => ?_)
    refine sm_sI w hF tx0 av2 tk_1601 (fun h w hF => ?_)
    refine sm_gA w hF tx0 tk_1602 (by decide) (fun v6 av6 => ?_)
    refine sm_gA w hF tx0 tk_1612 (by decide) (fun v7 av7 => ?_)
    refine sm_lI w hF tx0 av7 tk_1612 (fun _ => ?_)
    refine sm_sI w hF tx0 av6 tk_1602 (fun h w hF => ?_)
    refine sm_gA w hF tx0 tk_1603 (by decide) (fun v10 av10 => ?_)
    refine sm_gA w hF tx0 tk_1613 (by decide) (fun v11 av11 => ?_)
    refine sm_lI w hF tx0 av11 tk_1613 (fun _ => ?_)
    refine sm_sI w hF tx0 av10 tk_1603 (fun h w hF => ?_)
    refine sm_gA w hF tx0 tk_1604 (by decide) (fun v14 av14 => ?_)
    refine sm_gA w hF tx0 tk_1614 (by decide) (fun v15 av15 => ?_)
    refine sm_lZ w hF tx0 av15 tk_1614 (fun _ => ?_)
    refine sm_sZ w hF tx0 av14 tk_1604 (fun h w hF => ?_)
    exact hk101 w tx0
theorem sm_X15_read_101 {h0 : sv_H} : ∀ (n : Nat) {x0 : Nat} {x2 : Int32} {h : sv_H}, vt_W h0 h → sv_K h0 x0 = 16 → vt_sm h0 (fn_X15_read_101 n x0 x2 h) (ab_X15_read_101 n x0 x2 (vt_ab h)) := by
  intro n
  induction n with
  | zero => intro x0 x2 h w tx0; exact sm_no
  | succ n ih => intro x0 x2 h w tx0; exact sm_X15_read_101b (k101 := fn_X15_read_101 n) (j101 := ab_X15_read_101 n) (fun w tx0 => ih w tx0) w tx0
theorem sm_X15_read_68b {h0 : sv_H} {k68 : Nat → Int32 → sv_H → Option (Int32 × sv_H)} {j68 : Nat → Int32 → vt_S → Option (Int32 × vt_S)} (hk68 : ∀ {x0 : Nat} {x2 : Int32} {h : sv_H}, vt_W h0 h → sv_K h0 x0 = 16 → vt_sm h0 (k68 x0 x2 h) (j68 x0 x2 (vt_ab h))) {x0 : Nat} {x2 : Int32} {h : sv_H} (w : vt_W h0 h) (tx0 : sv_K h0 x0 = 16) : vt_sm h0 (fn_X15_read_68b k68 x0 x2 h) (ab_X15_read_68b j68 x0 x2 (vt_ab h)) := by
  unfold fn_X15_read_68b ab_X15_read_68b
  obtain ⟨F, hF⟩ : ∃ F, sv_FP h = F := ⟨_, rfl⟩
  refine sm_if (fun _ => ?_) (fun _ => ?_)
  · refine sm_gI w tx0 (by decide) (fun v1 => ?_)
    refine sm_pI w hF tx0 (by decide) (fun h w hF => ?_)
    exact sm_X15_read_101 sv_fuel w tx0
  · refine sm_gA w hF tx0 tk_1600 (by decide) (fun v3 av3 => ?_)
    refine sm_gA w hF tx0 tk_1610 (by decide) (fun v4 av4 => ?_)
    refine sm_lI w hF tx0 av4 tk_1610 (fun _ => ?_)
    refine sm_sI w hF tx0 av3 tk_1600 (fun h w hF => ?_)
    exact hk68 w tx0
theorem sm_X15_read_68 {h0 : sv_H} : ∀ (n : Nat) {x0 : Nat} {x2 : Int32} {h : sv_H}, vt_W h0 h → sv_K h0 x0 = 16 → vt_sm h0 (fn_X15_read_68 n x0 x2 h) (ab_X15_read_68 n x0 x2 (vt_ab h)) := by
  intro n
  induction n with
  | zero => intro x0 x2 h w tx0; exact sm_no
  | succ n ih => intro x0 x2 h w tx0; exact sm_X15_read_68b (k68 := fn_X15_read_68 n) (j68 := ab_X15_read_68 n) (fun w tx0 => ih w tx0) w tx0
theorem sm_X15_read_54 {h0 : sv_H} {x0 : Nat} {h : sv_H} (w : vt_W h0 h) (tx0 : sv_K h0 x0 = 16) : vt_sm h0 (fn_X15_read_54 x0 h) (ab_X15_read_54 x0 (vt_ab h)) := by
  unfold fn_X15_read_54 ab_X15_read_54
  obtain ⟨F, hF⟩ : ∃ F, sv_FP h = F := ⟨_, rfl⟩
  refine sm_gI w tx0 (by decide) (fun v1 => ?_)
  refine sm_if (fun _ => ?_) (fun _ => ?_)
  · exact sm_X15_read_68 sv_fuel w tx0
  · refine sm_gI w tx0 (by decide) (fun v2 => ?_)
    exact sm_rt w
theorem sm_X15_read_0 {h0 : sv_H} {x0 : Nat} {x1 : Int32} {h : sv_H} (w : vt_W h0 h) (tx0 : sv_K h0 x0 = 16) : vt_sm h0 (fn_X15_read x0 x1 h) (ab_X15_read x0 x1 (vt_ab h)) := by
  unfold fn_X15_read ab_X15_read
  obtain ⟨F, hF⟩ : ∃ F, sv_FP h = F := ⟨_, rfl⟩
  refine sm_kd w tx0 (by decide) ?_
  refine sm_pI w hF tx0 (by decide) (fun h w hF => ?_)
  refine sm_pI w hF tx0 (by decide) (fun h w hF => ?_)
  refine sm_pI w hF tx0 (by decide) (fun h w hF => ?_)
  refine sm_pI w hF tx0 (by decide) (fun h w hF => ?_)
  refine sm_pI w hF tx0 (by decide) (fun h w hF => ?_)
  refine sm_cl w (sm_X15_readAll w.1 (w.k tx0 (by decide))) (fun _ h2 e w2 => ?_)
  have hF2 : sv_FP h2 = F := (ow_X15_readAll sv_clT trivial e).2.1.1.trans hF
  clear e w hF
  have hF := hF2
  have w := w2
  clear hF2 w2
  refine sm_gI w tx0 (by decide) (fun v7 => ?_)
  refine sm_if (fun _ => ?_) (fun _ => ?_)
  · refine sm_gA w hF tx0 tk_1610 (by decide) (fun v8 av8 => ?_)
    refine sm_lI w hF tx0 av8 tk_1610 (fun _ => ?_)
    refine sm_if (fun _ => ?_) (fun _ => ?_)
    · exact sm_X15_read_54 w tx0
    · refine sm_cl w (sm_X15_wrong w.1 (w.k tx0 (by decide))) (fun _ h2 e w2 => ?_)
      have hF2 : sv_FP h2 = F := (ow_X15_wrong sv_clT trivial e).2.1.1.trans hF
      clear e w hF
      have hF := hF2
      have w := w2
      clear hF2 w2
      exact sm_X15_read_54 w tx0
  · exact sm_X15_read_54 w tx0
theorem sm_X15_read {x0 : Nat} {x1 : Int32} {h : sv_H} (g : vt_G h) (tx0 : sv_K h x0 = 16) : vt_sm h (fn_X15_read x0 x1 h) (ab_X15_read x0 x1 (vt_ab h)) := sm_X15_read_0 ⟨g, vt_ko.refl h⟩ tx0

theorem sm_X17_loadDemo_97 {h0 : sv_H} {x0 : Nat} {h : sv_H} (w : vt_W h0 h) (tx0 : sv_K h0 x0 = 18) : vt_sm h0 (fn_X17_loadDemo_97 x0 h) (ab_X17_loadDemo_97 x0 (vt_ab h)) := by
  unfold fn_X17_loadDemo_97 ab_X17_loadDemo_97
  obtain ⟨F, hF⟩ : ∃ F, sv_FP h = F := ⟨_, rfl⟩
  refine sm_gI w tx0 (by decide) (fun v1 => ?_)
  exact sm_rt w
theorem sm_X17_loadDemo_7b {h0 : sv_H} {k7 : Nat → Int32 → sv_H → Option (Int32 × sv_H)} {j7 : Nat → Int32 → vt_S → Option (Int32 × vt_S)} (hk7 : ∀ {x0 : Nat} {x1 : Int32} {h : sv_H}, vt_W h0 h → sv_K h0 x0 = 18 → vt_sm h0 (k7 x0 x1 h) (j7 x0 x1 (vt_ab h))) {x0 : Nat} {x1 : Int32} {h : sv_H} (w : vt_W h0 h) (tx0 : sv_K h0 x0 = 18) : vt_sm h0 (fn_X17_loadDemo_7b k7 x0 x1 h) (ab_X17_loadDemo_7b j7 x0 x1 (vt_ab h)) := by
  unfold fn_X17_loadDemo_7b ab_X17_loadDemo_7b
  obtain ⟨F, hF⟩ : ∃ F, sv_FP h = F := ⟨_, rfl⟩
  refine sm_gP w tx0 tk_1801 rfl (fun v1 tv1 => ?_)
  refine sm_gI w tv1 (by decide) (fun v2 => ?_)
  refine sm_if (fun _ => ?_) (fun _ => ?_)
  · refine sm_gP w tx0 tk_1802 rfl (fun v3 tv3 => ?_)
    refine sm_gP w tx0 tk_1801 rfl (fun v4 tv4 => ?_)
    refine sm_gI w tv4 (by decide) (fun v5 => ?_)
    refine sm_pI w hF tv3 (by decide) (fun h w hF => ?_)
    refine sm_gP w tx0 tk_1802 rfl (fun v7 tv7 => ?_)
    refine sm_cl w (sm_X17_sectors w.1 (w.k tx0 (by decide))) (fun r8 h2 e w2 => ?_)
    have hF2 : sv_FP h2 = F := by rw [ro_X17_sectors e]; exact hF
    clear e w hF
    have hF := hF2
    have w := w2
    clear hF2 w2
    refine sm_cl w (sm_X15_read w.1 (w.k tv7 (by decide))) (fun r10 h2 e w2 => ?_)
    have hF2 : sv_FP h2 = F := (ow_X15_read sv_clT trivial e).2.1.1.trans hF
    clear e w hF
    have hF := hF2
    have w := w2
    clear hF2 w2
    refine sm_pI w hF tx0 (by decide) (fun h w hF => ?_)
    refine sm_gP w tx0 tk_1802 rfl (fun v13 tv13 => ?_)
    refine sm_gI w tv13 (by decide) (fun v14 => ?_)
    refine sm_pI w hF tx0 (by decide) (fun h w hF => ?_)
    refine sm_gI w tx0 (by decide) (fun v16 => ?_)
    refine sm_if (fun _ => ?_) (fun _ => ?_)
    · refine sm_cl w (sm_X17_begin w.1 (w.k tx0 (by decide))) (fun _ h2 e w2 => ?_)
      have hF2 : sv_FP h2 = F := (ow_X17_begin sv_clT trivial e).2.1.1.trans hF
      clear e w hF
      have hF := hF2
      have w := w2
      clear hF2 w2
      exact sm_X17_loadDemo_97 w tx0
    · exact sm_X17_loadDemo_97 w tx0
  · refine sm_gP w tx0 tk_1802 rfl (fun v18 tv18 => ?_)
    refine sm_gA w hF tv18 tk_1608 (by decide) (fun v19 av19 => ?_)
    refine sm_gP w tx0 tk_1801 rfl (fun v20 tv20 => ?_)
    refine sm_gA w hF tv20 tk_1500 (by decide) (fun v21 av21 => ?_)
    refine sm_lB w hF tv20 av21 tk_1500 (fun _ => ?_)
    refine sm_sI w hF tv18 av19 tk_1608 (fun h w hF => ?_)
    exact hk7 w tx0
theorem sm_X17_loadDemo_7 {h0 : sv_H} : ∀ (n : Nat) {x0 : Nat} {x1 : Int32} {h : sv_H}, vt_W h0 h → sv_K h0 x0 = 18 → vt_sm h0 (fn_X17_loadDemo_7 n x0 x1 h) (ab_X17_loadDemo_7 n x0 x1 (vt_ab h)) := by
  intro n
  induction n with
  | zero => intro x0 x1 h w tx0; exact sm_no
  | succ n ih => intro x0 x1 h w tx0; exact sm_X17_loadDemo_7b (k7 := fn_X17_loadDemo_7 n) (j7 := ab_X17_loadDemo_7 n) (fun w tx0 => ih w tx0) w tx0
theorem sm_X17_loadDemo_0 {h0 : sv_H} {x0 : Nat} {h : sv_H} (w : vt_W h0 h) (tx0 : sv_K h0 x0 = 18) : vt_sm h0 (fn_X17_loadDemo x0 h) (ab_X17_loadDemo x0 (vt_ab h)) := by
  unfold fn_X17_loadDemo ab_X17_loadDemo
  obtain ⟨F, hF⟩ : ∃ F, sv_FP h = F := ⟨_, rfl⟩
  refine sm_kd w tx0 (by decide) ?_
  refine sm_pI w hF tx0 (by decide) (fun h w hF => ?_)
  exact sm_X17_loadDemo_7 sv_fuel w tx0
theorem sm_X17_loadDemo {x0 : Nat} {h : sv_H} (g : vt_G h) (tx0 : sv_K h x0 = 18) : vt_sm h (fn_X17_loadDemo x0 h) (ab_X17_loadDemo x0 (vt_ab h)) := sm_X17_loadDemo_0 ⟨g, vt_ko.refl h⟩ tx0

theorem sm_X12_saveMap_0 {h0 : sv_H} {x0 : Nat} {h : sv_H} (w : vt_W h0 h) (tx0 : sv_K h0 x0 = 13) : vt_sm h0 (fn_X12_saveMap x0 h) (ab_X12_saveMap x0 (vt_ab h)) := by
  unfold fn_X12_saveMap ab_X12_saveMap
  obtain ⟨F, hF⟩ : ∃ F, sv_FP h = F := ⟨_, rfl⟩
  refine sm_kd w tx0 (by decide) ?_
  refine sm_cl w (sm_X12_hasMap w.1 (w.k tx0 (by decide))) (fun r1 h2 e w2 => ?_)
  have hF2 : sv_FP h2 = F := by rw [ro_X12_hasMap e]; exact hF
  clear e w hF
  have hF := hF2
  have w := w2
  clear hF2 w2
  refine sm_if (fun _ => ?_) (fun _ => ?_)
  · exact sm_rt w
  · refine sm_gP w tx0 tk_1301 rfl (fun v3 tv3 => ?_)
    refine sm_gP w tx0 tk_1306 rfl (fun v4 tv4 => ?_)
    refine sm_gP w tv4 tk_300 rfl (fun v5 tv5 => ?_)
    refine sm_cl w (sm_X0_become w.1 (w.k tv3 (by decide)) (w.k tv5 (by decide))) (fun _ h2 e w2 => ?_)
    obtain ⟨F, hF2⟩ : ∃ F, sv_FP h2 = F := ⟨_, rfl⟩
    clear e w hF
    have hF := hF2
    have w := w2
    clear hF2 w2
    refine sm_gP w tx0 tk_1301 rfl (fun v7 tv7 => ?_)
    refine sm_gI w tv7 (by decide) (fun v8 => ?_)
    exact sm_rt w
theorem sm_X12_saveMap {x0 : Nat} {h : sv_H} (g : vt_G h) (tx0 : sv_K h x0 = 13) : vt_sm h (fn_X12_saveMap x0 h) (ab_X12_saveMap x0 (vt_ab h)) := sm_X12_saveMap_0 ⟨g, vt_ko.refl h⟩ tx0

theorem sm_X17_saveMap_27b {h0 : sv_H} {k27 : Nat → Int32 → sv_H → Option (Int32 × sv_H)} {j27 : Nat → Int32 → vt_S → Option (Int32 × vt_S)} (hk27 : ∀ {x0 : Nat} {x1 : Int32} {h : sv_H}, vt_W h0 h → sv_K h0 x0 = 18 → vt_sm h0 (k27 x0 x1 h) (j27 x0 x1 (vt_ab h))) {x0 : Nat} {x1 : Int32} {h : sv_H} (w : vt_W h0 h) (tx0 : sv_K h0 x0 = 18) : vt_sm h0 (fn_X17_saveMap_27b k27 x0 x1 h) (ab_X17_saveMap_27b j27 x0 x1 (vt_ab h)) := by
  unfold fn_X17_saveMap_27b ab_X17_saveMap_27b
  obtain ⟨F, hF⟩ : ∃ F, sv_FP h = F := ⟨_, rfl⟩
  refine sm_gI w tx0 (by decide) (fun v1 => ?_)
  refine sm_if (fun _ => ?_) (fun _ => ?_)
  · refine sm_gI w tx0 (by decide) (fun v2 => ?_)
    exact sm_rt w
  · refine sm_gA w hF tx0 tk_1805 (by decide) (fun v3 av3 => ?_)
    refine sm_gP w tx0 tk_1801 rfl (fun v4 tv4 => ?_)
    refine sm_gA w hF tv4 tk_1502 (by decide) (fun v5 av5 => ?_)
    refine sm_lB w hF tv4 av5 tk_1502 (fun _ => ?_)
    refine sm_sI w hF tx0 av3 tk_1805 (fun h w hF => ?_)
    exact hk27 w tx0
theorem sm_X17_saveMap_27 {h0 : sv_H} : ∀ (n : Nat) {x0 : Nat} {x1 : Int32} {h : sv_H}, vt_W h0 h → sv_K h0 x0 = 18 → vt_sm h0 (fn_X17_saveMap_27 n x0 x1 h) (ab_X17_saveMap_27 n x0 x1 (vt_ab h)) := by
  intro n
  induction n with
  | zero => intro x0 x1 h w tx0; exact sm_no
  | succ n ih => intro x0 x1 h w tx0; exact sm_X17_saveMap_27b (k27 := fn_X17_saveMap_27 n) (j27 := ab_X17_saveMap_27 n) (fun w tx0 => ih w tx0) w tx0
theorem sm_X17_saveMap_0 {h0 : sv_H} {x0 : Nat} {h : sv_H} (w : vt_W h0 h) (tx0 : sv_K h0 x0 = 18) : vt_sm h0 (fn_X17_saveMap x0 h) (ab_X17_saveMap x0 (vt_ab h)) := by
  unfold fn_X17_saveMap ab_X17_saveMap
  obtain ⟨F, hF⟩ : ∃ F, sv_FP h = F := ⟨_, rfl⟩
  refine sm_kd w tx0 (by decide) ?_
  refine sm_pI w hF tx0 (by decide) (fun h w hF => ?_)
  refine sm_gI w tx0 (by decide) (fun v2 => ?_)
  refine sm_if (fun _ => ?_) (fun _ => ?_)
  · exact sm_rt w
  · refine sm_gP w tx0 tk_1801 rfl (fun v3 tv3 => ?_)
    refine sm_gI w tv3 (by decide) (fun v4 => ?_)
    refine sm_pI w hF tx0 (by decide) (fun h w hF => ?_)
    exact sm_X17_saveMap_27 sv_fuel w tx0
theorem sm_X17_saveMap {x0 : Nat} {h : sv_H} (g : vt_G h) (tx0 : sv_K h x0 = 18) : vt_sm h (fn_X17_saveMap x0 h) (ab_X17_saveMap x0 (vt_ab h)) := sm_X17_saveMap_0 ⟨g, vt_ko.refl h⟩ tx0

theorem sm_X0_putPair_0 {h0 : sv_H} {x0 : Nat} {x1 : Int32} {h : sv_H} (w : vt_W h0 h) (tx0 : sv_K h0 x0 = 1) : vt_sm h0 (fn_X0_putPair x0 x1 h) (ab_X0_putPair x0 x1 (vt_ab h)) := by
  unfold fn_X0_putPair ab_X0_putPair
  obtain ⟨F, hF⟩ : ∃ F, sv_FP h = F := ⟨_, rfl⟩
  refine sm_kd w tx0 (by decide) ?_
  refine sm_cl w (sm_X0_put w.1 (w.k tx0 (by decide))) (fun _ h2 e w2 => ?_)
  obtain ⟨F, hF2⟩ : ∃ F, sv_FP h2 = F := ⟨_, rfl⟩
  clear e w hF
  have hF := hF2
  have w := w2
  clear hF2 w2
  refine sm_cl w (sm_X0_put w.1 (w.k tx0 (by decide))) (fun _ h2 e w2 => ?_)
  obtain ⟨F, hF2⟩ : ∃ F, sv_FP h2 = F := ⟨_, rfl⟩
  clear e w hF
  have hF := hF2
  have w := w2
  clear hF2 w2
  exact sm_rt w
theorem sm_X0_putPair {x0 : Nat} {x1 : Int32} {h : sv_H} (g : vt_G h) (tx0 : sv_K h x0 = 1) : vt_sm h (fn_X0_putPair x0 x1 h) (ab_X0_putPair x0 x1 (vt_ab h)) := sm_X0_putPair_0 ⟨g, vt_ko.refl h⟩ tx0

theorem sm_X5_asideOf_0 {h0 : sv_H} {x0 : Int32} {h : sv_H} (w : vt_W h0 h) : vt_sm h0 (fn_X5_asideOf x0 h) (ab_X5_asideOf x0 (vt_ab h)) := by
  unfold fn_X5_asideOf ab_X5_asideOf
  obtain ⟨F, hF⟩ : ∃ F, sv_FP h = F := ⟨_, rfl⟩
  exact sm_rt w
theorem sm_X5_asideOf {x0 : Int32} {h : sv_H} (g : vt_G h) : vt_sm h (fn_X5_asideOf x0 h) (ab_X5_asideOf x0 (vt_ab h)) := sm_X5_asideOf_0 ⟨g, vt_ko.refl h⟩

theorem sm_X5_turnOf_0 {h0 : sv_H} {x0 : Int32} {h : sv_H} (w : vt_W h0 h) : vt_sm h0 (fn_X5_turnOf x0 h) (ab_X5_turnOf x0 (vt_ab h)) := by
  unfold fn_X5_turnOf ab_X5_turnOf
  obtain ⟨F, hF⟩ : ∃ F, sv_FP h = F := ⟨_, rfl⟩
  exact sm_rt w
theorem sm_X5_turnOf {x0 : Int32} {h : sv_H} (g : vt_G h) : vt_sm h (fn_X5_turnOf x0 h) (ab_X5_turnOf x0 (vt_ab h)) := sm_X5_turnOf_0 ⟨g, vt_ko.refl h⟩

theorem sm_X5_usesOf_12 {h0 : sv_H} {s0 : Int32} {h : sv_H} (w : vt_W h0 h) : vt_sm h0 (fn_X5_usesOf_12 s0 h) (ab_X5_usesOf_12 s0 (vt_ab h)) := by
  unfold fn_X5_usesOf_12 ab_X5_usesOf_12
  obtain ⟨F, hF⟩ : ∃ F, sv_FP h = F := ⟨_, rfl⟩
  exact sm_rz w
theorem sm_X5_usesOf_0 {h0 : sv_H} {x0 : Int32} {h : sv_H} (w : vt_W h0 h) : vt_sm h0 (fn_X5_usesOf x0 h) (ab_X5_usesOf x0 (vt_ab h)) := by
  unfold fn_X5_usesOf ab_X5_usesOf
  obtain ⟨F, hF⟩ : ∃ F, sv_FP h = F := ⟨_, rfl⟩
  refine sm_if (fun _ => ?_) (fun _ => ?_)
  · exact sm_X5_usesOf_12 w
  · exact sm_X5_usesOf_12 w
theorem sm_X5_usesOf {x0 : Int32} {h : sv_H} (g : vt_G h) : vt_sm h (fn_X5_usesOf x0 h) (ab_X5_usesOf x0 (vt_ab h)) := sm_X5_usesOf_0 ⟨g, vt_ko.refl h⟩

theorem sm_X5_aheadOf_0 {h0 : sv_H} {x0 : Int32} {h : sv_H} (w : vt_W h0 h) : vt_sm h0 (fn_X5_aheadOf x0 h) (ab_X5_aheadOf x0 (vt_ab h)) := by
  unfold fn_X5_aheadOf ab_X5_aheadOf
  obtain ⟨F, hF⟩ : ∃ F, sv_FP h = F := ⟨_, rfl⟩
  exact sm_rt w
theorem sm_X5_aheadOf {x0 : Int32} {h : sv_H} (g : vt_G h) : vt_sm h (fn_X5_aheadOf x0 h) (ab_X5_aheadOf x0 (vt_ab h)) := sm_X5_aheadOf_0 ⟨g, vt_ko.refl h⟩

theorem sm_X5_writeGroup_88 {h0 : sv_H} {h : sv_H} (w : vt_W h0 h) : vt_sm h0 (fn_X5_writeGroup_88 h) (ab_X5_writeGroup_88 (vt_ab h)) := by
  unfold fn_X5_writeGroup_88 ab_X5_writeGroup_88
  obtain ⟨F, hF⟩ : ∃ F, sv_FP h = F := ⟨_, rfl⟩
  exact sm_rt w
theorem sm_X5_writeGroup_47 {h0 : sv_H} {x0 : Nat} {x1 : Int32} {x3 : Int32} {s0 : Nat} {s1 : Int32} {s2 : Int32} {h : sv_H} (w : vt_W h0 h) (tx0 : sv_K h0 x0 = 1) (ts0 : sv_K h0 s0 = 1) : vt_sm h0 (fn_X5_writeGroup_47 x0 x1 x3 s0 s1 s2 h) (ab_X5_writeGroup_47 x0 x1 x3 s0 s1 s2 (vt_ab h)) := by
  unfold fn_X5_writeGroup_47 ab_X5_writeGroup_47
  obtain ⟨F, hF⟩ : ∃ F, sv_FP h = F := ⟨_, rfl⟩
  refine sm_cl w (sm_X0_put w.1 (w.k ts0 (by decide))) (fun _ h2 e w2 => ?_)
  obtain ⟨F, hF2⟩ : ∃ F, sv_FP h2 = F := ⟨_, rfl⟩
  clear e w hF
  have hF := hF2
  have w := w2
  clear hF2 w2
  refine sm_cl w (sm_X5_aheadOf w.1) (fun r2 h2 e w2 => ?_)
  have hF2 : sv_FP h2 = F := by rw [ro_X5_aheadOf e]; exact hF
  clear e w hF
  have hF := hF2
  have w := w2
  clear hF2 w2
  refine sm_cl w (sm_X0_put w.1 (w.k tx0 (by decide))) (fun _ h2 e w2 => ?_)
  obtain ⟨F, hF2⟩ : ∃ F, sv_FP h2 = F := ⟨_, rfl⟩
  clear e w hF
  have hF := hF2
  have w := w2
  clear hF2 w2
  refine sm_if (fun _ => ?_) (fun _ => ?_)
  · exact sm_X5_writeGroup_88 w
  · refine sm_cl w (sm_X5_asideOf w.1) (fun r5 h2 e w2 => ?_)
    have hF2 : sv_FP h2 = F := by rw [ro_X5_asideOf e]; exact hF
    clear e w hF
    have hF := hF2
    have w := w2
    clear hF2 w2
    refine sm_cl w (sm_X0_put w.1 (w.k tx0 (by decide))) (fun _ h2 e w2 => ?_)
    obtain ⟨F, hF2⟩ : ∃ F, sv_FP h2 = F := ⟨_, rfl⟩
    clear e w hF
    have hF := hF2
    have w := w2
    clear hF2 w2
    refine sm_cl w (sm_X5_turnOf w.1) (fun r8 h2 e w2 => ?_)
    have hF2 : sv_FP h2 = F := by rw [ro_X5_turnOf e]; exact hF
    clear e w hF
    have hF := hF2
    have w := w2
    clear hF2 w2
    refine sm_cl w (sm_X0_put w.1 (w.k tx0 (by decide))) (fun _ h2 e w2 => ?_)
    obtain ⟨F, hF2⟩ : ∃ F, sv_FP h2 = F := ⟨_, rfl⟩
    clear e w hF
    have hF := hF2
    have w := w2
    clear hF2 w2
    exact sm_X5_writeGroup_88 w
theorem sm_X5_writeGroup_35 {h0 : sv_H} {x0 : Nat} {x1 : Int32} {x3 : Int32} {s0 : Nat} {s1 : Int32} {s2 : Int32} {h : sv_H} (w : vt_W h0 h) (tx0 : sv_K h0 x0 = 1) (ts0 : sv_K h0 s0 = 1) : vt_sm h0 (fn_X5_writeGroup_35 x0 x1 x3 s0 s1 s2 h) (ab_X5_writeGroup_35 x0 x1 x3 s0 s1 s2 (vt_ab h)) := by
  unfold fn_X5_writeGroup_35 ab_X5_writeGroup_35
  obtain ⟨F, hF⟩ : ∃ F, sv_FP h = F := ⟨_, rfl⟩
  refine sm_if (fun _ => ?_) (fun _ => ?_)
  · exact sm_X5_writeGroup_47 w tx0 ts0
  · exact sm_X5_writeGroup_47 w tx0 ts0
theorem sm_X5_writeGroup_19 {h0 : sv_H} {x0 : Nat} {x1 : Int32} {x2 : Int32} {s0 : Int32} {h : sv_H} (w : vt_W h0 h) (tx0 : sv_K h0 x0 = 1) : vt_sm h0 (fn_X5_writeGroup_19 x0 x1 x2 s0 h) (ab_X5_writeGroup_19 x0 x1 x2 s0 (vt_ab h)) := by
  unfold fn_X5_writeGroup_19 ab_X5_writeGroup_19
  obtain ⟨F, hF⟩ : ∃ F, sv_FP h = F := ⟨_, rfl⟩
  refine sm_cl w (sm_X5_usesOf w.1) (fun r1 h2 e w2 => ?_)
  have hF2 : sv_FP h2 = F := by rw [ro_X5_usesOf e]; exact hF
  clear e w hF
  have hF := hF2
  have w := w2
  clear hF2 w2
  refine sm_if (fun _ => ?_) (fun _ => ?_)
  · exact sm_X5_writeGroup_35 w tx0 tx0
  · exact sm_X5_writeGroup_35 w tx0 tx0
theorem sm_X5_writeGroup_14 {h0 : sv_H} {x0 : Nat} {x1 : Int32} {x2 : Int32} {h : sv_H} (w : vt_W h0 h) (tx0 : sv_K h0 x0 = 1) : vt_sm h0 (fn_X5_writeGroup_14 x0 x1 x2 h) (ab_X5_writeGroup_14 x0 x1 x2 (vt_ab h)) := by
  unfold fn_X5_writeGroup_14 ab_X5_writeGroup_14
  obtain ⟨F, hF⟩ : ∃ F, sv_FP h = F := ⟨_, rfl⟩
  exact sm_X5_writeGroup_19 w tx0
theorem sm_X5_writeGroup_0 {h0 : sv_H} {x0 : Nat} {x1 : Int32} {x2 : Int32} {h : sv_H} (w : vt_W h0 h) (tx0 : sv_K h0 x0 = 1) : vt_sm h0 (fn_X5_writeGroup x0 x1 x2 h) (ab_X5_writeGroup x0 x1 x2 (vt_ab h)) := by
  unfold fn_X5_writeGroup ab_X5_writeGroup
  obtain ⟨F, hF⟩ : ∃ F, sv_FP h = F := ⟨_, rfl⟩
  refine sm_cl w (sm_X5_asideOf w.1) (fun r1 h2 e w2 => ?_)
  have hF2 : sv_FP h2 = F := by rw [ro_X5_asideOf e]; exact hF
  clear e w hF
  have hF := hF2
  have w := w2
  clear hF2 w2
  refine sm_if (fun _ => ?_) (fun _ => ?_)
  · refine sm_cl w (sm_X5_turnOf w.1) (fun r3 h2 e w2 => ?_)
    have hF2 : sv_FP h2 = F := by rw [ro_X5_turnOf e]; exact hF
    clear e w hF
    have hF := hF2
    have w := w2
    clear hF2 w2
    refine sm_if (fun _ => ?_) (fun _ => ?_)
    · exact sm_X5_writeGroup_19 w tx0
    · exact sm_X5_writeGroup_14 w tx0
  · exact sm_X5_writeGroup_14 w tx0
theorem sm_X5_writeGroup {x0 : Nat} {x1 : Int32} {x2 : Int32} {h : sv_H} (g : vt_G h) (tx0 : sv_K h x0 = 1) : vt_sm h (fn_X5_writeGroup x0 x1 x2 h) (ab_X5_writeGroup x0 x1 x2 (vt_ab h)) := sm_X5_writeGroup_0 ⟨g, vt_ko.refl h⟩ tx0

theorem sm_X5_write_151b {h0 : sv_H} {k151 : Nat → Int64 → Int32 → sv_H → Option (Unit × sv_H)} {j151 : Nat → Int64 → Int32 → vt_S → Option (Unit × vt_S)} (hk151 : ∀ {x1 : Nat} {x3 : Int64} {x5 : Int32} {h : sv_H}, vt_W h0 h → sv_K h0 x1 = 1 → vt_sm h0 (k151 x1 x3 x5 h) (j151 x1 x3 x5 (vt_ab h))) {x1 : Nat} {x3 : Int64} {x5 : Int32} {h : sv_H} (w : vt_W h0 h) (tx1 : sv_K h0 x1 = 1) : vt_sm h0 (fn_X5_write_151b k151 x1 x3 x5 h) (ab_X5_write_151b j151 x1 x3 x5 (vt_ab h)) := by
  unfold fn_X5_write_151b ab_X5_write_151b
  obtain ⟨F, hF⟩ : ∃ F, sv_FP h = F := ⟨_, rfl⟩
  refine sm_if (fun _ => ?_) (fun _ => ?_)
  · exact sm_rt w
  · refine sm_cl w (sm_X0_put w.1 (w.k tx1 (by decide))) (fun _ h2 e w2 => ?_)
    obtain ⟨F, hF2⟩ : ∃ F, sv_FP h2 = F := ⟨_, rfl⟩
    clear e w hF
    have hF := hF2
    have w := w2
    clear hF2 w2
    exact hk151 w tx1
theorem sm_X5_write_151 {h0 : sv_H} : ∀ (n : Nat) {x1 : Nat} {x3 : Int64} {x5 : Int32} {h : sv_H}, vt_W h0 h → sv_K h0 x1 = 1 → vt_sm h0 (fn_X5_write_151 n x1 x3 x5 h) (ab_X5_write_151 n x1 x3 x5 (vt_ab h)) := by
  intro n
  induction n with
  | zero => intro x1 x3 x5 h w tx1; exact sm_no
  | succ n ih => intro x1 x3 x5 h w tx1; exact sm_X5_write_151b (k151 := fn_X5_write_151 n) (j151 := ab_X5_write_151 n) (fun w tx1 => ih w tx1) w tx1
theorem sm_X5_write_127 {h0 : sv_H} {k70 : Nat → Nat → Int32 → Int32 → sv_H → Option (Unit × sv_H)} {j70 : Nat → Nat → Int32 → Int32 → vt_S → Option (Unit × vt_S)} (hk70 : ∀ {x0 : Nat} {x1 : Nat} {x2 : Int32} {x3 : Int32} {h : sv_H}, vt_W h0 h → sv_K h0 x0 = 6 → sv_K h0 x1 = 1 → vt_sm h0 (k70 x0 x1 x2 x3 h) (j70 x0 x1 x2 x3 (vt_ab h))) {x0 : Nat} {x1 : Nat} {x2 : Int32} {x3 : Int32} {h : sv_H} (w : vt_W h0 h) (tx0 : sv_K h0 x0 = 6) (tx1 : sv_K h0 x1 = 1) : vt_sm h0 (fn_X5_write_127 k70 x0 x1 x2 x3 h) (ab_X5_write_127 j70 x0 x1 x2 x3 (vt_ab h)) := by
  unfold fn_X5_write_127 ab_X5_write_127
  obtain ⟨F, hF⟩ : ∃ F, sv_FP h = F := ⟨_, rfl⟩
  exact hk70 w tx0 tx1
theorem sm_X5_write_114 {h0 : sv_H} {k70 : Nat → Nat → Int32 → Int32 → sv_H → Option (Unit × sv_H)} {j70 : Nat → Nat → Int32 → Int32 → vt_S → Option (Unit × vt_S)} (hk70 : ∀ {x0 : Nat} {x1 : Nat} {x2 : Int32} {x3 : Int32} {h : sv_H}, vt_W h0 h → sv_K h0 x0 = 6 → sv_K h0 x1 = 1 → vt_sm h0 (k70 x0 x1 x2 x3 h) (j70 x0 x1 x2 x3 (vt_ab h))) {x0 : Nat} {x1 : Nat} {x2 : Int32} {x3 : Int32} {h : sv_H} (w : vt_W h0 h) (tx0 : sv_K h0 x0 = 6) (tx1 : sv_K h0 x1 = 1) : vt_sm h0 (fn_X5_write_114 k70 x0 x1 x2 x3 h) (ab_X5_write_114 j70 x0 x1 x2 x3 (vt_ab h)) := by
  unfold fn_X5_write_114 ab_X5_write_114
  obtain ⟨F, hF⟩ : ∃ F, sv_FP h = F := ⟨_, rfl⟩
  refine sm_gA w hF tx0 tk_601 (by decide) (fun v1 av1 => ?_)
  refine sm_lI w hF tx0 av1 tk_601 (fun _ => ?_)
  refine sm_cl w (sm_X5_writeGroup w.1 (w.k tx1 (by decide))) (fun _ h2 e w2 => ?_)
  obtain ⟨F, hF2⟩ : ∃ F, sv_FP h2 = F := ⟨_, rfl⟩
  clear e w hF
  have hF := hF2
  have w := w2
  clear hF2 w2
  exact sm_X5_write_127 (k70 := k70) (j70 := j70) hk70 w tx0 tx1
theorem sm_X5_write_70b {h0 : sv_H} {k70 : Nat → Nat → Int32 → Int32 → sv_H → Option (Unit × sv_H)} {j70 : Nat → Nat → Int32 → Int32 → vt_S → Option (Unit × vt_S)} (hk70 : ∀ {x0 : Nat} {x1 : Nat} {x2 : Int32} {x3 : Int32} {h : sv_H}, vt_W h0 h → sv_K h0 x0 = 6 → sv_K h0 x1 = 1 → vt_sm h0 (k70 x0 x1 x2 x3 h) (j70 x0 x1 x2 x3 (vt_ab h))) {x0 : Nat} {x1 : Nat} {x2 : Int32} {x3 : Int32} {h : sv_H} (w : vt_W h0 h) (tx0 : sv_K h0 x0 = 6) (tx1 : sv_K h0 x1 = 1) : vt_sm h0 (fn_X5_write_70b k70 x0 x1 x2 x3 h) (ab_X5_write_70b j70 x0 x1 x2 x3 (vt_ab h)) := by
  unfold fn_X5_write_70b ab_X5_write_70b
  obtain ⟨F, hF⟩ : ∃ F, sv_FP h = F := ⟨_, rfl⟩
  refine sm_gI w tx0 (by decide) (fun v1 => ?_)
  refine sm_if (fun _ => ?_) (fun _ => ?_)
  · refine sm_cl w (sm_X0_put w.1 (w.k tx1 (by decide))) (fun _ h2 e w2 => ?_)
    obtain ⟨F, hF2⟩ : ∃ F, sv_FP h2 = F := ⟨_, rfl⟩
    clear e w hF
    have hF := hF2
    have w := w2
    clear hF2 w2
    refine sm_gI w tx1 (by decide) (fun v3 => ?_)
    refine sm_cl w (sm_X5_checkOf w.1 (w.k tx1 (by decide))) (fun r4 h2 e w2 => ?_)
    have hF2 : sv_FP h2 = F := by rw [ro_X5_checkOf e]; exact hF
    clear e w hF
    have hF := hF2
    have w := w2
    clear hF2 w2
    exact sm_X5_write_151 sv_fuel w tx1
  · refine sm_if (fun _ => ?_) (fun _ => ?_)
    · exact sm_X5_write_114 (k70 := k70) (j70 := j70) hk70 w tx0 tx1
    · refine sm_gI w tx0 (by decide) (fun v6 => ?_)
      refine sm_if (fun _ => ?_) (fun _ => ?_)
      · exact sm_X5_write_114 (k70 := k70) (j70 := j70) hk70 w tx0 tx1
      · refine sm_gA w hF tx0 tk_601 (by decide) (fun v7 av7 => ?_)
        refine sm_lI w hF tx0 av7 tk_601 (fun _ => ?_)
        refine sm_gA w hF tx0 tk_601 (by decide) (fun v9 av9 => ?_)
        refine sm_lI w hF tx0 av9 tk_601 (fun _ => ?_)
        refine sm_if (fun _ => ?_) (fun _ => ?_)
        · exact sm_X5_write_127 (k70 := k70) (j70 := j70) hk70 w tx0 tx1
        · exact sm_X5_write_114 (k70 := k70) (j70 := j70) hk70 w tx0 tx1
theorem sm_X5_write_70 {h0 : sv_H} : ∀ (n : Nat) {x0 : Nat} {x1 : Nat} {x2 : Int32} {x3 : Int32} {h : sv_H}, vt_W h0 h → sv_K h0 x0 = 6 → sv_K h0 x1 = 1 → vt_sm h0 (fn_X5_write_70 n x0 x1 x2 x3 h) (ab_X5_write_70 n x0 x1 x2 x3 (vt_ab h)) := by
  intro n
  induction n with
  | zero => intro x0 x1 x2 x3 h w tx0 tx1; exact sm_no
  | succ n ih => intro x0 x1 x2 x3 h w tx0 tx1; exact sm_X5_write_70b (k70 := fn_X5_write_70 n) (j70 := ab_X5_write_70 n) (fun w tx0 tx1 => ih w tx0 tx1) w tx0 tx1
theorem sm_X5_write_0 {h0 : sv_H} {x0 : Nat} {x1 : Nat} {h : sv_H} (w : vt_W h0 h) (tx0 : sv_K h0 x0 = 6) (tx1 : sv_K h0 x1 = 1) : vt_sm h0 (fn_X5_write x0 x1 h) (ab_X5_write x0 x1 (vt_ab h)) := by
  unfold fn_X5_write ab_X5_write
  obtain ⟨F, hF⟩ : ∃ F, sv_FP h = F := ⟨_, rfl⟩
  refine sm_kd w tx0 (by decide) ?_
  refine sm_pI w hF tx1 (by decide) (fun h w hF => ?_)
  refine sm_cl w (sm_X0_put w.1 (w.k tx1 (by decide))) (fun _ h2 e w2 => ?_)
  obtain ⟨F, hF2⟩ : ∃ F, sv_FP h2 = F := ⟨_, rfl⟩
  clear e w hF
  have hF := hF2
  have w := w2
  clear hF2 w2
  refine sm_cl w (sm_X0_put w.1 (w.k tx1 (by decide))) (fun _ h2 e w2 => ?_)
  obtain ⟨F, hF2⟩ : ∃ F, sv_FP h2 = F := ⟨_, rfl⟩
  clear e w hF
  have hF := hF2
  have w := w2
  clear hF2 w2
  refine sm_cl w (sm_X0_put w.1 (w.k tx1 (by decide))) (fun _ h2 e w2 => ?_)
  obtain ⟨F, hF2⟩ : ∃ F, sv_FP h2 = F := ⟨_, rfl⟩
  clear e w hF
  have hF := hF2
  have w := w2
  clear hF2 w2
  refine sm_gP w tx0 tk_600 rfl (fun v5 tv5 => ?_)
  refine sm_gI w tv5 (by decide) (fun v6 => ?_)
  refine sm_cl w (sm_X0_putPair w.1 (w.k tx1 (by decide))) (fun _ h2 e w2 => ?_)
  obtain ⟨F, hF2⟩ : ∃ F, sv_FP h2 = F := ⟨_, rfl⟩
  clear e w hF
  have hF := hF2
  have w := w2
  clear hF2 w2
  refine sm_gP w tx0 tk_600 rfl (fun v8 tv8 => ?_)
  refine sm_gI w tv8 (by decide) (fun v9 => ?_)
  refine sm_cl w (sm_X0_putPair w.1 (w.k tx1 (by decide))) (fun _ h2 e w2 => ?_)
  obtain ⟨F, hF2⟩ : ∃ F, sv_FP h2 = F := ⟨_, rfl⟩
  clear e w hF
  have hF := hF2
  have w := w2
  clear hF2 w2
  refine sm_gP w tx0 tk_600 rfl (fun v11 tv11 => ?_)
  refine sm_gI w tv11 (by decide) (fun v12 => ?_)
  refine sm_cl w (sm_X0_put w.1 (w.k tx1 (by decide))) (fun _ h2 e w2 => ?_)
  obtain ⟨F, hF2⟩ : ∃ F, sv_FP h2 = F := ⟨_, rfl⟩
  clear e w hF
  have hF := hF2
  have w := w2
  clear hF2 w2
  refine sm_gP w tx0 tk_600 rfl (fun v14 tv14 => ?_)
  refine sm_gI w tv14 (by decide) (fun v15 => ?_)
  refine sm_cl w (sm_X0_put w.1 (w.k tx1 (by decide))) (fun _ h2 e w2 => ?_)
  obtain ⟨F, hF2⟩ : ∃ F, sv_FP h2 = F := ⟨_, rfl⟩
  clear e w hF
  have hF := hF2
  have w := w2
  clear hF2 w2
  exact sm_X5_write_70 sv_fuel w tx0 tx1
theorem sm_X5_write {x0 : Nat} {x1 : Nat} {h : sv_H} (g : vt_G h) (tx0 : sv_K h x0 = 6) (tx1 : sv_K h x1 = 1) : vt_sm h (fn_X5_write x0 x1 h) (ab_X5_write x0 x1 (vt_ab h)) := sm_X5_write_0 ⟨g, vt_ko.refl h⟩ tx0 tx1

theorem sm_X12_saveDemo_0 {h0 : sv_H} {x0 : Nat} {h : sv_H} (w : vt_W h0 h) (tx0 : sv_K h0 x0 = 13) : vt_sm h0 (fn_X12_saveDemo x0 h) (ab_X12_saveDemo x0 (vt_ab h)) := by
  unfold fn_X12_saveDemo ab_X12_saveDemo
  obtain ⟨F, hF⟩ : ∃ F, sv_FP h = F := ⟨_, rfl⟩
  refine sm_kd w tx0 (by decide) ?_
  refine sm_cl w (sm_X12_hasMap w.1 (w.k tx0 (by decide))) (fun r1 h2 e w2 => ?_)
  have hF2 : sv_FP h2 = F := by rw [ro_X12_hasMap e]; exact hF
  clear e w hF
  have hF := hF2
  have w := w2
  clear hF2 w2
  refine sm_if (fun _ => ?_) (fun _ => ?_)
  · exact sm_rt w
  · refine sm_gP w tx0 tk_1308 rfl (fun v3 tv3 => ?_)
    refine sm_gP w tx0 tk_1301 rfl (fun v4 tv4 => ?_)
    refine sm_cl w (sm_X5_write w.1 (w.k tv3 (by decide)) (w.k tv4 (by decide))) (fun _ h2 e w2 => ?_)
    obtain ⟨F, hF2⟩ : ∃ F, sv_FP h2 = F := ⟨_, rfl⟩
    clear e w hF
    have hF := hF2
    have w := w2
    clear hF2 w2
    refine sm_gP w tx0 tk_1301 rfl (fun v6 tv6 => ?_)
    refine sm_gI w tv6 (by decide) (fun v7 => ?_)
    exact sm_rt w
theorem sm_X12_saveDemo {x0 : Nat} {h : sv_H} (g : vt_G h) (tx0 : sv_K h x0 = 13) : vt_sm h (fn_X12_saveDemo x0 h) (ab_X12_saveDemo x0 (vt_ab h)) := sm_X12_saveDemo_0 ⟨g, vt_ko.refl h⟩ tx0

theorem sm_X15_put_0 {h0 : sv_H} {x0 : Nat} {x1 : Int32} {h : sv_H} (w : vt_W h0 h) (tx0 : sv_K h0 x0 = 16) : vt_sm h0 (fn_X15_put x0 x1 h) (ab_X15_put x0 x1 (vt_ab h)) := by
  unfold fn_X15_put ab_X15_put
  obtain ⟨F, hF⟩ : ∃ F, sv_FP h = F := ⟨_, rfl⟩
  refine sm_kd w tx0 (by decide) ?_
  refine sm_gA w hF tx0 tk_1606 (by decide) (fun v1 av1 => ?_)
  refine sm_gI w tx0 (by decide) (fun v2 => ?_)
  refine sm_sI w hF tx0 av1 tk_1606 (fun h w hF => ?_)
  refine sm_gI w tx0 (by decide) (fun v4 => ?_)
  refine sm_pI w hF tx0 (by decide) (fun h w hF => ?_)
  exact sm_rt w
theorem sm_X15_put {x0 : Nat} {x1 : Int32} {h : sv_H} (g : vt_G h) (tx0 : sv_K h x0 = 16) : vt_sm h (fn_X15_put x0 x1 h) (ab_X15_put x0 x1 (vt_ab h)) := sm_X15_put_0 ⟨g, vt_ko.refl h⟩ tx0

theorem sm_X15_run_92 {h0 : sv_H} {x2 : Int32} {h : sv_H} (w : vt_W h0 h) : vt_sm h0 (fn_X15_run_92 x2 h) (ab_X15_run_92 x2 (vt_ab h)) := by
  unfold fn_X15_run_92 ab_X15_run_92
  obtain ⟨F, hF⟩ : ∃ F, sv_FP h = F := ⟨_, rfl⟩
  exact sm_rt w
theorem sm_X15_run_2b {h0 : sv_H} {k2 : Nat → Int32 → Int32 → sv_H → Option (Int32 × sv_H)} {j2 : Nat → Int32 → Int32 → vt_S → Option (Int32 × vt_S)} (hk2 : ∀ {x0 : Nat} {x1 : Int32} {x2 : Int32} {h : sv_H}, vt_W h0 h → sv_K h0 x0 = 16 → vt_sm h0 (k2 x0 x1 x2 h) (j2 x0 x1 x2 (vt_ab h))) {x0 : Nat} {x1 : Int32} {x2 : Int32} {h : sv_H} (w : vt_W h0 h) (tx0 : sv_K h0 x0 = 16) : vt_sm h0 (fn_X15_run_2b k2 x0 x1 x2 h) (ab_X15_run_2b j2 x0 x1 x2 (vt_ab h)) := by
  unfold fn_X15_run_2b ab_X15_run_2b
  obtain ⟨F, hF⟩ : ∃ F, sv_FP h = F := ⟨_, rfl⟩
  refine sm_if (fun _ => ?_) (fun _ => ?_)
  · exact sm_X15_run_92 w
  · refine sm_gI w tx0 (by decide) (fun v1 => ?_)
    refine sm_if (fun _ => ?_) (fun _ => ?_)
    · exact sm_X15_run_92 w
    · refine sm_gA w hF tx0 tk_1601 (by decide) (fun v2 av2 => ?_)
      refine sm_lI w hF tx0 av2 tk_1601 (fun _ => ?_)
      refine sm_gA w hF tx0 tk_1601 (by decide) (fun v4 av4 => ?_)
      refine sm_lI w hF tx0 av4 tk_1601 (fun _ => ?_)
      refine sm_if (fun _ => ?_) (fun _ => ?_)
      · refine sm_gA w hF tx0 tk_1602 (by decide) (fun v6 av6 => ?_)
        refine sm_lI w hF tx0 av6 tk_1602 (fun _ => ?_)
        refine sm_gA w hF tx0 tk_1602 (by decide) (fun v8 av8 => ?_)
        refine sm_lI w hF tx0 av8 tk_1602 (fun _ => ?_)
        refine sm_if (fun _ => ?_) (fun _ => ?_)
        · refine sm_gA w hF tx0 tk_1603 (by decide) (fun v10 av10 => ?_)
          refine sm_lI w hF tx0 av10 tk_1603 (fun _ => ?_)
          refine sm_gA w hF tx0 tk_1603 (by decide) (fun v12 av12 => ?_)
          refine sm_lI w hF tx0 av12 tk_1603 (fun _ => ?_)
          refine sm_if (fun _ => ?_) (fun _ => ?_)
          · refine sm_gA w hF tx0 tk_1604 (by decide) (fun v14 av14 => ?_)
            refine sm_lZ w hF tx0 av14 tk_1604 (fun _ => ?_)
            refine sm_gA w hF tx0 tk_1604 (by decide) (fun v16 av16 => ?_)
            refine sm_lZ w hF tx0 av16 tk_1604 (fun _ => ?_)
            refine sm_if (fun _ => ?_) (fun _ => ?_)
            · exact hk2 w tx0
            · exact sm_X15_run_92 w
          · exact sm_X15_run_92 w
        · exact sm_X15_run_92 w
      · exact sm_X15_run_92 w
theorem sm_X15_run_2 {h0 : sv_H} : ∀ (n : Nat) {x0 : Nat} {x1 : Int32} {x2 : Int32} {h : sv_H}, vt_W h0 h → sv_K h0 x0 = 16 → vt_sm h0 (fn_X15_run_2 n x0 x1 x2 h) (ab_X15_run_2 n x0 x1 x2 (vt_ab h)) := by
  intro n
  induction n with
  | zero => intro x0 x1 x2 h w tx0; exact sm_no
  | succ n ih => intro x0 x1 x2 h w tx0; exact sm_X15_run_2b (k2 := fn_X15_run_2 n) (j2 := ab_X15_run_2 n) (fun w tx0 => ih w tx0) w tx0
theorem sm_X15_run_0 {h0 : sv_H} {x0 : Nat} {x1 : Int32} {h : sv_H} (w : vt_W h0 h) (tx0 : sv_K h0 x0 = 16) : vt_sm h0 (fn_X15_run x0 x1 h) (ab_X15_run x0 x1 (vt_ab h)) := by
  unfold fn_X15_run ab_X15_run
  obtain ⟨F, hF⟩ : ∃ F, sv_FP h = F := ⟨_, rfl⟩
  refine sm_kd w tx0 (by decide) ?_
  exact sm_X15_run_2 sv_fuel w tx0
theorem sm_X15_run {x0 : Nat} {x1 : Int32} {h : sv_H} (g : vt_G h) (tx0 : sv_K h x0 = 16) : vt_sm h (fn_X15_run x0 x1 h) (ab_X15_run x0 x1 (vt_ab h)) := sm_X15_run_0 ⟨g, vt_ko.refl h⟩ tx0

theorem sm_X15_checkByte_36 {h0 : sv_H} {s0 : Int32} {h : sv_H} (w : vt_W h0 h) : vt_sm h0 (fn_X15_checkByte_36 s0 h) (ab_X15_checkByte_36 s0 (vt_ab h)) := by
  unfold fn_X15_checkByte_36 ab_X15_checkByte_36
  obtain ⟨F, hF⟩ : ∃ F, sv_FP h = F := ⟨_, rfl⟩
  exact sm_rt w
theorem sm_X15_checkByte_16 {h0 : sv_H} {x1 : Int32} {s0 : Int32} {h : sv_H} (w : vt_W h0 h) : vt_sm h0 (fn_X15_checkByte_16 x1 s0 h) (ab_X15_checkByte_16 x1 s0 (vt_ab h)) := by
  unfold fn_X15_checkByte_16 ab_X15_checkByte_16
  obtain ⟨F, hF⟩ : ∃ F, sv_FP h = F := ⟨_, rfl⟩
  refine sm_if (fun _ => ?_) (fun _ => ?_)
  · exact sm_X15_checkByte_36 w
  · exact sm_X15_checkByte_36 w
theorem sm_X15_checkByte_0 {h0 : sv_H} {x0 : Nat} {x1 : Int32} {h : sv_H} (w : vt_W h0 h) (tx0 : sv_K h0 x0 = 16) : vt_sm h0 (fn_X15_checkByte x0 x1 h) (ab_X15_checkByte x0 x1 (vt_ab h)) := by
  unfold fn_X15_checkByte ab_X15_checkByte
  obtain ⟨F, hF⟩ : ∃ F, sv_FP h = F := ⟨_, rfl⟩
  refine sm_kd w tx0 (by decide) ?_
  refine sm_if (fun _ => ?_) (fun _ => ?_)
  · refine sm_gI w tx0 (by decide) (fun v1 => ?_)
    exact sm_X15_checkByte_16 w
  · refine sm_gI w tx0 (by decide) (fun v2 => ?_)
    exact sm_X15_checkByte_16 w
theorem sm_X15_checkByte {x0 : Nat} {x1 : Int32} {h : sv_H} (g : vt_G h) (tx0 : sv_K h x0 = 16) : vt_sm h (fn_X15_checkByte x0 x1 h) (ab_X15_checkByte x0 x1 (vt_ab h)) := sm_X15_checkByte_0 ⟨g, vt_ko.refl h⟩ tx0

theorem sm_X15_write_244b {h0 : sv_H} {k244 : Nat → Int32 → sv_H → Option (Int32 × sv_H)} {j244 : Nat → Int32 → vt_S → Option (Int32 × vt_S)} (hk244 : ∀ {x0 : Nat} {x2 : Int32} {h : sv_H}, vt_W h0 h → sv_K h0 x0 = 16 → vt_sm h0 (k244 x0 x2 h) (j244 x0 x2 (vt_ab h))) {x0 : Nat} {x2 : Int32} {h : sv_H} (w : vt_W h0 h) (tx0 : sv_K h0 x0 = 16) : vt_sm h0 (fn_X15_write_244b k244 x0 x2 h) (ab_X15_write_244b j244 x0 x2 (vt_ab h)) := by
  unfold fn_X15_write_244b ab_X15_write_244b
  obtain ⟨F, hF⟩ : ∃ F, sv_FP h = F := ⟨_, rfl⟩
  refine sm_if (fun _ => ?_) (fun _ => ?_)
  · refine sm_gI w tx0 (by decide) (fun v1 => ?_)
    exact sm_rt w
  · refine sm_cl w (sm_X15_checkByte w.1 (w.k tx0 (by decide))) (fun r2 h2 e w2 => ?_)
    have hF2 : sv_FP h2 = F := by rw [ro_X15_checkByte e]; exact hF
    clear e w hF
    have hF := hF2
    have w := w2
    clear hF2 w2
    refine sm_cl w (sm_X15_put w.1 (w.k tx0 (by decide))) (fun _ h2 e w2 => ?_)
    have hF2 : sv_FP h2 = F := (ow_X15_put sv_clT trivial e).2.1.1.trans hF
    clear e w hF
    have hF := hF2
    have w := w2
    clear hF2 w2
    exact hk244 w tx0
theorem sm_X15_write_244 {h0 : sv_H} : ∀ (n : Nat) {x0 : Nat} {x2 : Int32} {h : sv_H}, vt_W h0 h → sv_K h0 x0 = 16 → vt_sm h0 (fn_X15_write_244 n x0 x2 h) (ab_X15_write_244 n x0 x2 (vt_ab h)) := by
  intro n
  induction n with
  | zero => intro x0 x2 h w tx0; exact sm_no
  | succ n ih => intro x0 x2 h w tx0; exact sm_X15_write_244b (k244 := fn_X15_write_244 n) (j244 := ab_X15_write_244 n) (fun w tx0 => ih w tx0) w tx0
theorem sm_X15_write_218b {h0 : sv_H} {k218 : Nat → Int32 → sv_H → Option (Int32 × sv_H)} {j218 : Nat → Int32 → vt_S → Option (Int32 × vt_S)} (hk218 : ∀ {x0 : Nat} {x2 : Int32} {h : sv_H}, vt_W h0 h → sv_K h0 x0 = 16 → vt_sm h0 (k218 x0 x2 h) (j218 x0 x2 (vt_ab h))) {x0 : Nat} {x2 : Int32} {h : sv_H} (w : vt_W h0 h) (tx0 : sv_K h0 x0 = 16) : vt_sm h0 (fn_X15_write_218b k218 x0 x2 h) (ab_X15_write_218b j218 x0 x2 (vt_ab h)) := by
  unfold fn_X15_write_218b ab_X15_write_218b
  obtain ⟨F, hF⟩ : ∃ F, sv_FP h = F := ⟨_, rfl⟩
  refine sm_gI w tx0 (by decide) (fun v1 => ?_)
  refine sm_if (fun _ => ?_) (fun _ => ?_)
  · exact sm_X15_write_244 sv_fuel w tx0
  · refine sm_gA w hF tx0 tk_1606 (by decide) (fun v2 av2 => ?_)
    refine sm_lI w hF tx0 av2 tk_1606 (fun _ => ?_)
    refine sm_cl w (sm_X15_sum w.1 (w.k tx0 (by decide))) (fun _ h2 e w2 => ?_)
    have hF2 : sv_FP h2 = F := (ow_X15_sum sv_clT trivial e).2.1.1.trans hF
    clear e w hF
    have hF := hF2
    have w := w2
    clear hF2 w2
    exact hk218 w tx0
theorem sm_X15_write_218 {h0 : sv_H} : ∀ (n : Nat) {x0 : Nat} {x2 : Int32} {h : sv_H}, vt_W h0 h → sv_K h0 x0 = 16 → vt_sm h0 (fn_X15_write_218 n x0 x2 h) (ab_X15_write_218 n x0 x2 (vt_ab h)) := by
  intro n
  induction n with
  | zero => intro x0 x2 h w tx0; exact sm_no
  | succ n ih => intro x0 x2 h w tx0; exact sm_X15_write_218b (k218 := fn_X15_write_218 n) (j218 := ab_X15_write_218 n) (fun w tx0 => ih w tx0) w tx0
theorem sm_X15_write_194 {h0 : sv_H} {k80 : Nat → Int32 → sv_H → Option (Int32 × sv_H)} {j80 : Nat → Int32 → vt_S → Option (Int32 × vt_S)} (hk80 : ∀ {x0 : Nat} {x1 : Int32} {h : sv_H}, vt_W h0 h → sv_K h0 x0 = 16 → vt_sm h0 (k80 x0 x1 h) (j80 x0 x1 (vt_ab h))) {x0 : Nat} {x1 : Int32} {x2 : Int32} {h : sv_H} (w : vt_W h0 h) (tx0 : sv_K h0 x0 = 16) : vt_sm h0 (fn_X15_write_194 k80 x0 x1 x2 h) (ab_X15_write_194 j80 x0 x1 x2 (vt_ab h)) := by
  unfold fn_X15_write_194 ab_X15_write_194
  obtain ⟨F, hF⟩ : ∃ F, sv_FP h = F := ⟨_, rfl⟩
  exact hk80 w tx0
theorem sm_X15_write_147 {h0 : sv_H} {k80 : Nat → Int32 → sv_H → Option (Int32 × sv_H)} {j80 : Nat → Int32 → vt_S → Option (Int32 × vt_S)} (hk80 : ∀ {x0 : Nat} {x1 : Int32} {h : sv_H}, vt_W h0 h → sv_K h0 x0 = 16 → vt_sm h0 (k80 x0 x1 h) (j80 x0 x1 (vt_ab h))) {x0 : Nat} {x1 : Int32} {x2 : Int32} {x3 : Int32} {s0 : Nat} {s1 : Int32} {s2 : Int32} {h : sv_H} (w : vt_W h0 h) (tx0 : sv_K h0 x0 = 16) (ts0 : sv_K h0 s0 = 16) : vt_sm h0 (fn_X15_write_147 k80 x0 x1 x2 x3 s0 s1 s2 h) (ab_X15_write_147 j80 x0 x1 x2 x3 s0 s1 s2 (vt_ab h)) := by
  unfold fn_X15_write_147 ab_X15_write_147
  obtain ⟨F, hF⟩ : ∃ F, sv_FP h = F := ⟨_, rfl⟩
  refine sm_cl w (sm_X15_put w.1 (w.k ts0 (by decide))) (fun _ h2 e w2 => ?_)
  have hF2 : sv_FP h2 = F := (ow_X15_put sv_clT trivial e).2.1.1.trans hF
  clear e w hF
  have hF := hF2
  have w := w2
  clear hF2 w2
  refine sm_gA w hF tx0 tk_1601 (by decide) (fun v2 av2 => ?_)
  refine sm_lI w hF tx0 av2 tk_1601 (fun _ => ?_)
  refine sm_cl w (sm_X15_put w.1 (w.k tx0 (by decide))) (fun _ h2 e w2 => ?_)
  have hF2 : sv_FP h2 = F := (ow_X15_put sv_clT trivial e).2.1.1.trans hF
  clear e w hF
  have hF := hF2
  have w := w2
  clear hF2 w2
  refine sm_if (fun _ => ?_) (fun _ => ?_)
  · exact sm_X15_write_194 (k80 := k80) (j80 := j80) hk80 w tx0
  · refine sm_gA w hF tx0 tk_1602 (by decide) (fun v5 av5 => ?_)
    refine sm_lI w hF tx0 av5 tk_1602 (fun _ => ?_)
    refine sm_cl w (sm_X15_put w.1 (w.k tx0 (by decide))) (fun _ h2 e w2 => ?_)
    have hF2 : sv_FP h2 = F := (ow_X15_put sv_clT trivial e).2.1.1.trans hF
    clear e w hF
    have hF := hF2
    have w := w2
    clear hF2 w2
    refine sm_gA w hF tx0 tk_1603 (by decide) (fun v8 av8 => ?_)
    refine sm_lI w hF tx0 av8 tk_1603 (fun _ => ?_)
    refine sm_cl w (sm_X15_put w.1 (w.k tx0 (by decide))) (fun _ h2 e w2 => ?_)
    have hF2 : sv_FP h2 = F := (ow_X15_put sv_clT trivial e).2.1.1.trans hF
    clear e w hF
    have hF := hF2
    have w := w2
    clear hF2 w2
    exact sm_X15_write_194 (k80 := k80) (j80 := j80) hk80 w tx0
theorem sm_X15_write_135 {h0 : sv_H} {k80 : Nat → Int32 → sv_H → Option (Int32 × sv_H)} {j80 : Nat → Int32 → vt_S → Option (Int32 × vt_S)} (hk80 : ∀ {x0 : Nat} {x1 : Int32} {h : sv_H}, vt_W h0 h → sv_K h0 x0 = 16 → vt_sm h0 (k80 x0 x1 h) (j80 x0 x1 (vt_ab h))) {x0 : Nat} {x1 : Int32} {x2 : Int32} {x3 : Int32} {s0 : Nat} {s1 : Int32} {s2 : Int32} {h : sv_H} (w : vt_W h0 h) (tx0 : sv_K h0 x0 = 16) (ts0 : sv_K h0 s0 = 16) : vt_sm h0 (fn_X15_write_135 k80 x0 x1 x2 x3 s0 s1 s2 h) (ab_X15_write_135 j80 x0 x1 x2 x3 s0 s1 s2 (vt_ab h)) := by
  unfold fn_X15_write_135 ab_X15_write_135
  obtain ⟨F, hF⟩ : ∃ F, sv_FP h = F := ⟨_, rfl⟩
  refine sm_if (fun _ => ?_) (fun _ => ?_)
  · exact sm_X15_write_147 (k80 := k80) (j80 := j80) hk80 w tx0 ts0
  · exact sm_X15_write_147 (k80 := k80) (j80 := j80) hk80 w tx0 ts0
theorem sm_X15_write_117 {h0 : sv_H} {k80 : Nat → Int32 → sv_H → Option (Int32 × sv_H)} {j80 : Nat → Int32 → vt_S → Option (Int32 × vt_S)} (hk80 : ∀ {x0 : Nat} {x1 : Int32} {h : sv_H}, vt_W h0 h → sv_K h0 x0 = 16 → vt_sm h0 (k80 x0 x1 h) (j80 x0 x1 (vt_ab h))) {x0 : Nat} {x1 : Int32} {x2 : Int32} {s0 : Int32} {h : sv_H} (w : vt_W h0 h) (tx0 : sv_K h0 x0 = 16) : vt_sm h0 (fn_X15_write_117 k80 x0 x1 x2 s0 h) (ab_X15_write_117 j80 x0 x1 x2 s0 (vt_ab h)) := by
  unfold fn_X15_write_117 ab_X15_write_117
  obtain ⟨F, hF⟩ : ∃ F, sv_FP h = F := ⟨_, rfl⟩
  refine sm_gA w hF tx0 tk_1604 (by decide) (fun v1 av1 => ?_)
  refine sm_lZ w hF tx0 av1 tk_1604 (fun _ => ?_)
  refine sm_if (fun _ => ?_) (fun _ => ?_)
  · exact sm_X15_write_135 (k80 := k80) (j80 := j80) hk80 w tx0 tx0
  · exact sm_X15_write_135 (k80 := k80) (j80 := j80) hk80 w tx0 tx0
theorem sm_X15_write_112 {h0 : sv_H} {k80 : Nat → Int32 → sv_H → Option (Int32 × sv_H)} {j80 : Nat → Int32 → vt_S → Option (Int32 × vt_S)} (hk80 : ∀ {x0 : Nat} {x1 : Int32} {h : sv_H}, vt_W h0 h → sv_K h0 x0 = 16 → vt_sm h0 (k80 x0 x1 h) (j80 x0 x1 (vt_ab h))) {x0 : Nat} {x1 : Int32} {x2 : Int32} {h : sv_H} (w : vt_W h0 h) (tx0 : sv_K h0 x0 = 16) : vt_sm h0 (fn_X15_write_112 k80 x0 x1 x2 h) (ab_X15_write_112 j80 x0 x1 x2 (vt_ab h)) := by
  unfold fn_X15_write_112 ab_X15_write_112
  obtain ⟨F, hF⟩ : ∃ F, sv_FP h = F := ⟨_, rfl⟩
  exact sm_X15_write_117 (k80 := k80) (j80 := j80) hk80 w tx0
theorem sm_X15_write_80b {h0 : sv_H} {k80 : Nat → Int32 → sv_H → Option (Int32 × sv_H)} {j80 : Nat → Int32 → vt_S → Option (Int32 × vt_S)} (hk80 : ∀ {x0 : Nat} {x1 : Int32} {h : sv_H}, vt_W h0 h → sv_K h0 x0 = 16 → vt_sm h0 (k80 x0 x1 h) (j80 x0 x1 (vt_ab h))) {x0 : Nat} {x1 : Int32} {h : sv_H} (w : vt_W h0 h) (tx0 : sv_K h0 x0 = 16) : vt_sm h0 (fn_X15_write_80b k80 x0 x1 h) (ab_X15_write_80b j80 x0 x1 (vt_ab h)) := by
  unfold fn_X15_write_80b ab_X15_write_80b
  obtain ⟨F, hF⟩ : ∃ F, sv_FP h = F := ⟨_, rfl⟩
  refine sm_gI w tx0 (by decide) (fun v1 => ?_)
  refine sm_if (fun _ => ?_) (fun _ => ?_)
  · refine sm_cl w (sm_X15_put w.1 (w.k tx0 (by decide))) (fun _ h2 e w2 => ?_)
    have hF2 : sv_FP h2 = F := (ow_X15_put sv_clT trivial e).2.1.1.trans hF
    clear e w hF
    have hF := hF2
    have w := w2
    clear hF2 w2
    refine sm_pI w hF tx0 (by decide) (fun h w hF => ?_)
    refine sm_pI w hF tx0 (by decide) (fun h w hF => ?_)
    exact sm_X15_write_218 sv_fuel w tx0
  · refine sm_cl w (sm_X15_run w.1 (w.k tx0 (by decide))) (fun r5 h2 e w2 => ?_)
    have hF2 : sv_FP h2 = F := by rw [ro_X15_run e]; exact hF
    clear e w hF
    have hF := hF2
    have w := w2
    clear hF2 w2
    refine sm_gA w hF tx0 tk_1602 (by decide) (fun v7 av7 => ?_)
    refine sm_lI w hF tx0 av7 tk_1602 (fun _ => ?_)
    refine sm_if (fun _ => ?_) (fun _ => ?_)
    · refine sm_gA w hF tx0 tk_1603 (by decide) (fun v9 av9 => ?_)
      refine sm_lI w hF tx0 av9 tk_1603 (fun _ => ?_)
      refine sm_if (fun _ => ?_) (fun _ => ?_)
      · exact sm_X15_write_117 (k80 := k80) (j80 := j80) hk80 w tx0
      · exact sm_X15_write_112 (k80 := k80) (j80 := j80) hk80 w tx0
    · exact sm_X15_write_112 (k80 := k80) (j80 := j80) hk80 w tx0
theorem sm_X15_write_80 {h0 : sv_H} : ∀ (n : Nat) {x0 : Nat} {x1 : Int32} {h : sv_H}, vt_W h0 h → sv_K h0 x0 = 16 → vt_sm h0 (fn_X15_write_80 n x0 x1 h) (ab_X15_write_80 n x0 x1 (vt_ab h)) := by
  intro n
  induction n with
  | zero => intro x0 x1 h w tx0; exact sm_no
  | succ n ih => intro x0 x1 h w tx0; exact sm_X15_write_80b (k80 := fn_X15_write_80 n) (j80 := ab_X15_write_80 n) (fun w tx0 => ih w tx0) w tx0
theorem sm_X15_write_24b {h0 : sv_H} {k24 : Nat → Int32 → sv_H → Option (Int32 × sv_H)} {j24 : Nat → Int32 → vt_S → Option (Int32 × vt_S)} (hk24 : ∀ {x0 : Nat} {x1 : Int32} {h : sv_H}, vt_W h0 h → sv_K h0 x0 = 16 → vt_sm h0 (k24 x0 x1 h) (j24 x0 x1 (vt_ab h))) {x0 : Nat} {x1 : Int32} {h : sv_H} (w : vt_W h0 h) (tx0 : sv_K h0 x0 = 16) : vt_sm h0 (fn_X15_write_24b k24 x0 x1 h) (ab_X15_write_24b j24 x0 x1 (vt_ab h)) := by
  unfold fn_X15_write_24b ab_X15_write_24b
  obtain ⟨F, hF⟩ : ∃ F, sv_FP h = F := ⟨_, rfl⟩
  refine sm_if (fun _ => ?_) (fun _ => ?_)
  · refine sm_gA w hF tx0 tk_1600 (by decide) (fun v1 av1 => ?_)
    refine sm_lI w hF tx0 av1 tk_1600 (fun _ => ?_)
    refine sm_cl w (sm_X15_put w.1 (w.k tx0 (by decide))) (fun _ h2 e w2 => ?_)
    have hF2 : sv_FP h2 = F := (ow_X15_put sv_clT trivial e).2.1.1.trans hF
    clear e w hF
    have hF := hF2
    have w := w2
    clear hF2 w2
    refine sm_gA w hF tx0 tk_1600 (by decide) (fun v4 av4 => ?_)
    refine sm_lI w hF tx0 av4 tk_1600 (fun _ => ?_)
    refine sm_cl w (sm_X15_put w.1 (w.k tx0 (by decide))) (fun _ h2 e w2 => ?_)
    have hF2 : sv_FP h2 = F := (ow_X15_put sv_clT trivial e).2.1.1.trans hF
    clear e w hF
    have hF := hF2
    have w := w2
    clear hF2 w2
    exact sm_X15_write_80 sv_fuel w tx0
  · refine sm_gA w hF tx0 tk_1600 (by decide) (fun v7 av7 => ?_)
    refine sm_lI w hF tx0 av7 tk_1600 (fun _ => ?_)
    refine sm_cl w (sm_X15_put w.1 (w.k tx0 (by decide))) (fun _ h2 e w2 => ?_)
    have hF2 : sv_FP h2 = F := (ow_X15_put sv_clT trivial e).2.1.1.trans hF
    clear e w hF
    have hF := hF2
    have w := w2
    clear hF2 w2
    refine sm_gA w hF tx0 tk_1600 (by decide) (fun v10 av10 => ?_)
    refine sm_lI w hF tx0 av10 tk_1600 (fun _ => ?_)
    refine sm_cl w (sm_X15_put w.1 (w.k tx0 (by decide))) (fun _ h2 e w2 => ?_)
    have hF2 : sv_FP h2 = F := (ow_X15_put sv_clT trivial e).2.1.1.trans hF
    clear e w hF
    have hF := hF2
    have w := w2
    clear hF2 w2
    exact hk24 w tx0
theorem sm_X15_write_24 {h0 : sv_H} : ∀ (n : Nat) {x0 : Nat} {x1 : Int32} {h : sv_H}, vt_W h0 h → sv_K h0 x0 = 16 → vt_sm h0 (fn_X15_write_24 n x0 x1 h) (ab_X15_write_24 n x0 x1 (vt_ab h)) := by
  intro n
  induction n with
  | zero => intro x0 x1 h w tx0; exact sm_no
  | succ n ih => intro x0 x1 h w tx0; exact sm_X15_write_24b (k24 := fn_X15_write_24 n) (j24 := ab_X15_write_24 n) (fun w tx0 => ih w tx0) w tx0
theorem sm_X15_write_0 {h0 : sv_H} {x0 : Nat} {h : sv_H} (w : vt_W h0 h) (tx0 : sv_K h0 x0 = 16) : vt_sm h0 (fn_X15_write x0 h) (ab_X15_write x0 (vt_ab h)) := by
  unfold fn_X15_write ab_X15_write
  obtain ⟨F, hF⟩ : ∃ F, sv_FP h = F := ⟨_, rfl⟩
  refine sm_kd w tx0 (by decide) ?_
  refine sm_pI w hF tx0 (by decide) (fun h w hF => ?_)
  refine sm_cl w (sm_X15_put w.1 (w.k tx0 (by decide))) (fun _ h2 e w2 => ?_)
  have hF2 : sv_FP h2 = F := (ow_X15_put sv_clT trivial e).2.1.1.trans hF
  clear e w hF
  have hF := hF2
  have w := w2
  clear hF2 w2
  refine sm_cl w (sm_X15_put w.1 (w.k tx0 (by decide))) (fun _ h2 e w2 => ?_)
  have hF2 : sv_FP h2 = F := (ow_X15_put sv_clT trivial e).2.1.1.trans hF
  clear e w hF
  have hF := hF2
  have w := w2
  clear hF2 w2
  refine sm_cl w (sm_X15_put w.1 (w.k tx0 (by decide))) (fun _ h2 e w2 => ?_)
  have hF2 : sv_FP h2 = F := (ow_X15_put sv_clT trivial e).2.1.1.trans hF
  clear e w hF
  have hF := hF2
  have w := w2
  clear hF2 w2
  exact sm_X15_write_24 sv_fuel w tx0
theorem sm_X15_write {x0 : Nat} {h : sv_H} (g : vt_G h) (tx0 : sv_K h x0 = 16) : vt_sm h (fn_X15_write x0 h) (ab_X15_write x0 (vt_ab h)) := sm_X15_write_0 ⟨g, vt_ko.refl h⟩ tx0

theorem sm_X17_saveDemo_27b {h0 : sv_H} {k27 : Nat → Int32 → sv_H → Option (Int32 × sv_H)} {j27 : Nat → Int32 → vt_S → Option (Int32 × vt_S)} (hk27 : ∀ {x0 : Nat} {x1 : Int32} {h : sv_H}, vt_W h0 h → sv_K h0 x0 = 18 → vt_sm h0 (k27 x0 x1 h) (j27 x0 x1 (vt_ab h))) {x0 : Nat} {x1 : Int32} {h : sv_H} (w : vt_W h0 h) (tx0 : sv_K h0 x0 = 18) : vt_sm h0 (fn_X17_saveDemo_27b k27 x0 x1 h) (ab_X17_saveDemo_27b j27 x0 x1 (vt_ab h)) := by
  unfold fn_X17_saveDemo_27b ab_X17_saveDemo_27b
  obtain ⟨F, hF⟩ : ∃ F, sv_FP h = F := ⟨_, rfl⟩
  refine sm_gI w tx0 (by decide) (fun v1 => ?_)
  refine sm_if (fun _ => ?_) (fun _ => ?_)
  · refine sm_gI w tx0 (by decide) (fun v2 => ?_)
    exact sm_rt w
  · refine sm_gA w hF tx0 tk_1805 (by decide) (fun v3 av3 => ?_)
    refine sm_gP w tx0 tk_1802 rfl (fun v4 tv4 => ?_)
    refine sm_gA w hF tv4 tk_1606 (by decide) (fun v5 av5 => ?_)
    refine sm_lI w hF tv4 av5 tk_1606 (fun _ => ?_)
    refine sm_sI w hF tx0 av3 tk_1805 (fun h w hF => ?_)
    exact hk27 w tx0
theorem sm_X17_saveDemo_27 {h0 : sv_H} : ∀ (n : Nat) {x0 : Nat} {x1 : Int32} {h : sv_H}, vt_W h0 h → sv_K h0 x0 = 18 → vt_sm h0 (fn_X17_saveDemo_27 n x0 x1 h) (ab_X17_saveDemo_27 n x0 x1 (vt_ab h)) := by
  intro n
  induction n with
  | zero => intro x0 x1 h w tx0; exact sm_no
  | succ n ih => intro x0 x1 h w tx0; exact sm_X17_saveDemo_27b (k27 := fn_X17_saveDemo_27 n) (j27 := ab_X17_saveDemo_27 n) (fun w tx0 => ih w tx0) w tx0
theorem sm_X17_saveDemo_0 {h0 : sv_H} {x0 : Nat} {h : sv_H} (w : vt_W h0 h) (tx0 : sv_K h0 x0 = 18) : vt_sm h0 (fn_X17_saveDemo x0 h) (ab_X17_saveDemo x0 (vt_ab h)) := by
  unfold fn_X17_saveDemo ab_X17_saveDemo
  obtain ⟨F, hF⟩ : ∃ F, sv_FP h = F := ⟨_, rfl⟩
  refine sm_kd w tx0 (by decide) ?_
  refine sm_pI w hF tx0 (by decide) (fun h w hF => ?_)
  refine sm_gI w tx0 (by decide) (fun v2 => ?_)
  refine sm_if (fun _ => ?_) (fun _ => ?_)
  · exact sm_rt w
  · refine sm_gP w tx0 tk_1802 rfl (fun v3 tv3 => ?_)
    refine sm_cl w (sm_X15_write w.1 (w.k tv3 (by decide))) (fun r4 h2 e w2 => ?_)
    have hF2 : sv_FP h2 = F := (ow_X15_write sv_clT trivial e).2.1.1.trans hF
    clear e w hF
    have hF := hF2
    have w := w2
    clear hF2 w2
    refine sm_pI w hF tx0 (by decide) (fun h w hF => ?_)
    exact sm_X17_saveDemo_27 sv_fuel w tx0
theorem sm_X17_saveDemo {x0 : Nat} {h : sv_H} (g : vt_G h) (tx0 : sv_K h x0 = 18) : vt_sm h (fn_X17_saveDemo x0 h) (ab_X17_saveDemo x0 (vt_ab h)) := sm_X17_saveDemo_0 ⟨g, vt_ko.refl h⟩ tx0

theorem sm_X12_turnBytes_0 {h0 : sv_H} {x0 : Nat} {h : sv_H} (w : vt_W h0 h) (tx0 : sv_K h0 x0 = 13) : vt_sm h0 (fn_X12_turnBytes x0 h) (ab_X12_turnBytes x0 (vt_ab h)) := by
  unfold fn_X12_turnBytes ab_X12_turnBytes
  obtain ⟨F, hF⟩ : ∃ F, sv_FP h = F := ⟨_, rfl⟩
  refine sm_kd w tx0 (by decide) ?_
  refine sm_gP w tx0 tk_1300 rfl (fun v1 tv1 => ?_)
  refine sm_gP w tx0 tk_1301 rfl (fun v2 tv2 => ?_)
  refine sm_cl w (sm_X0_become w.1 (w.k tv1 (by decide)) (w.k tv2 (by decide))) (fun _ h2 e w2 => ?_)
  obtain ⟨F, hF2⟩ : ∃ F, sv_FP h2 = F := ⟨_, rfl⟩
  clear e w hF
  have hF := hF2
  have w := w2
  clear hF2 w2
  exact sm_rt w
theorem sm_X12_turnBytes {x0 : Nat} {h : sv_H} (g : vt_G h) (tx0 : sv_K h x0 = 13) : vt_sm h (fn_X12_turnBytes x0 h) (ab_X12_turnBytes x0 (vt_ab h)) := sm_X12_turnBytes_0 ⟨g, vt_ko.refl h⟩ tx0

theorem sm_X17_turnBytes_18b {h0 : sv_H} {k18 : Nat → Int32 → sv_H → Option (Unit × sv_H)} {j18 : Nat → Int32 → vt_S → Option (Unit × vt_S)} (hk18 : ∀ {x0 : Nat} {x1 : Int32} {h : sv_H}, vt_W h0 h → sv_K h0 x0 = 18 → vt_sm h0 (k18 x0 x1 h) (j18 x0 x1 (vt_ab h))) {x0 : Nat} {x1 : Int32} {h : sv_H} (w : vt_W h0 h) (tx0 : sv_K h0 x0 = 18) : vt_sm h0 (fn_X17_turnBytes_18b k18 x0 x1 h) (ab_X17_turnBytes_18b j18 x0 x1 (vt_ab h)) := by
  unfold fn_X17_turnBytes_18b ab_X17_turnBytes_18b
  obtain ⟨F, hF⟩ : ∃ F, sv_FP h = F := ⟨_, rfl⟩
  refine sm_gI w tx0 (by decide) (fun v1 => ?_)
  refine sm_if (fun _ => ?_) (fun _ => ?_)
  · exact sm_rt w
  · refine sm_gP w tx0 tk_1801 rfl (fun v2 tv2 => ?_)
    refine sm_gA w hF tv2 tk_1500 (by decide) (fun v3 av3 => ?_)
    refine sm_gA w hF tx0 tk_1805 (by decide) (fun v4 av4 => ?_)
    refine sm_lI w hF tx0 av4 tk_1805 (fun _ => ?_)
    refine sm_sB w hF tv2 av3 tk_1500 (fun h w hF => ?_)
    exact hk18 w tx0
theorem sm_X17_turnBytes_18 {h0 : sv_H} : ∀ (n : Nat) {x0 : Nat} {x1 : Int32} {h : sv_H}, vt_W h0 h → sv_K h0 x0 = 18 → vt_sm h0 (fn_X17_turnBytes_18 n x0 x1 h) (ab_X17_turnBytes_18 n x0 x1 (vt_ab h)) := by
  intro n
  induction n with
  | zero => intro x0 x1 h w tx0; exact sm_no
  | succ n ih => intro x0 x1 h w tx0; exact sm_X17_turnBytes_18b (k18 := fn_X17_turnBytes_18 n) (j18 := ab_X17_turnBytes_18 n) (fun w tx0 => ih w tx0) w tx0
theorem sm_X17_turnBytes_0 {h0 : sv_H} {x0 : Nat} {h : sv_H} (w : vt_W h0 h) (tx0 : sv_K h0 x0 = 18) : vt_sm h0 (fn_X17_turnBytes x0 h) (ab_X17_turnBytes x0 (vt_ab h)) := by
  unfold fn_X17_turnBytes ab_X17_turnBytes
  obtain ⟨F, hF⟩ : ∃ F, sv_FP h = F := ⟨_, rfl⟩
  refine sm_kd w tx0 (by decide) ?_
  refine sm_pI w hF tx0 (by decide) (fun h w hF => ?_)
  refine sm_gP w tx0 tk_1801 rfl (fun v2 tv2 => ?_)
  refine sm_gI w tx0 (by decide) (fun v3 => ?_)
  refine sm_pI w hF tv2 (by decide) (fun h w hF => ?_)
  exact sm_X17_turnBytes_18 sv_fuel w tx0
theorem sm_X17_turnBytes {x0 : Nat} {h : sv_H} (g : vt_G h) (tx0 : sv_K h x0 = 18) : vt_sm h (fn_X17_turnBytes x0 h) (ab_X17_turnBytes x0 (vt_ab h)) := sm_X17_turnBytes_0 ⟨g, vt_ko.refl h⟩ tx0

theorem sm_X12_isPlace_33 {h0 : sv_H} {s0 : Int32} {h : sv_H} (w : vt_W h0 h) : vt_sm h0 (fn_X12_isPlace_33 s0 h) (ab_X12_isPlace_33 s0 (vt_ab h)) := by
  unfold fn_X12_isPlace_33 ab_X12_isPlace_33
  obtain ⟨F, hF⟩ : ∃ F, sv_FP h = F := ⟨_, rfl⟩
  exact sm_rz w
theorem sm_X12_isPlace_32 {h0 : sv_H} {h : sv_H} (w : vt_W h0 h) : vt_sm h0 (fn_X12_isPlace_32 h) (ab_X12_isPlace_32 (vt_ab h)) := by
  unfold fn_X12_isPlace_32 ab_X12_isPlace_32
  obtain ⟨F, hF⟩ : ∃ F, sv_FP h = F := ⟨_, rfl⟩
  exact sm_X12_isPlace_33 w
theorem sm_X12_isPlace_0 {h0 : sv_H} {x0 : Int32} {x1 : Int32} {h : sv_H} (w : vt_W h0 h) : vt_sm h0 (fn_X12_isPlace x0 x1 h) (ab_X12_isPlace x0 x1 (vt_ab h)) := by
  unfold fn_X12_isPlace ab_X12_isPlace
  obtain ⟨F, hF⟩ : ∃ F, sv_FP h = F := ⟨_, rfl⟩
  refine sm_if (fun _ => ?_) (fun _ => ?_)
  · exact sm_X12_isPlace_32 w
  · refine sm_if (fun _ => ?_) (fun _ => ?_)
    · exact sm_X12_isPlace_32 w
    · refine sm_if (fun _ => ?_) (fun _ => ?_)
      · exact sm_X12_isPlace_32 w
      · refine sm_if (fun _ => ?_) (fun _ => ?_)
        · exact sm_X12_isPlace_32 w
        · exact sm_X12_isPlace_33 w
theorem sm_X12_isPlace {x0 : Int32} {x1 : Int32} {h : sv_H} (g : vt_G h) : vt_sm h (fn_X12_isPlace x0 x1 h) (ab_X12_isPlace x0 x1 (vt_ab h)) := sm_X12_isPlace_0 ⟨g, vt_ko.refl h⟩

theorem sm_X12_isSector_20 {h0 : sv_H} {s0 : Int32} {h : sv_H} (w : vt_W h0 h) : vt_sm h0 (fn_X12_isSector_20 s0 h) (ab_X12_isSector_20 s0 (vt_ab h)) := by
  unfold fn_X12_isSector_20 ab_X12_isSector_20
  obtain ⟨F, hF⟩ : ∃ F, sv_FP h = F := ⟨_, rfl⟩
  exact sm_rz w
theorem sm_X12_isSector_19 {h0 : sv_H} {h : sv_H} (w : vt_W h0 h) : vt_sm h0 (fn_X12_isSector_19 h) (ab_X12_isSector_19 (vt_ab h)) := by
  unfold fn_X12_isSector_19 ab_X12_isSector_19
  obtain ⟨F, hF⟩ : ∃ F, sv_FP h = F := ⟨_, rfl⟩
  exact sm_X12_isSector_20 w
theorem sm_X12_isSector_0 {h0 : sv_H} {x0 : Nat} {x1 : Int32} {h : sv_H} (w : vt_W h0 h) (tx0 : sv_K h0 x0 = 13) : vt_sm h0 (fn_X12_isSector x0 x1 h) (ab_X12_isSector x0 x1 (vt_ab h)) := by
  unfold fn_X12_isSector ab_X12_isSector
  obtain ⟨F, hF⟩ : ∃ F, sv_FP h = F := ⟨_, rfl⟩
  refine sm_kd w tx0 (by decide) ?_
  refine sm_if (fun _ => ?_) (fun _ => ?_)
  · exact sm_X12_isSector_19 w
  · refine sm_gP w tx0 tk_1306 rfl (fun v1 tv1 => ?_)
    refine sm_gI w tv1 (by decide) (fun v2 => ?_)
    refine sm_if (fun _ => ?_) (fun _ => ?_)
    · exact sm_X12_isSector_19 w
    · exact sm_X12_isSector_20 w
theorem sm_X12_isSector {x0 : Nat} {x1 : Int32} {h : sv_H} (g : vt_G h) (tx0 : sv_K h x0 = 13) : vt_sm h (fn_X12_isSector x0 x1 h) (ab_X12_isSector x0 x1 (vt_ab h)) := sm_X12_isSector_0 ⟨g, vt_ko.refl h⟩ tx0

theorem sm_X12_startAt_34 {h0 : sv_H} {h : sv_H} (w : vt_W h0 h) : vt_sm h0 (fn_X12_startAt_34 h) (ab_X12_startAt_34 (vt_ab h)) := by
  unfold fn_X12_startAt_34 ab_X12_startAt_34
  obtain ⟨F, hF⟩ : ∃ F, sv_FP h = F := ⟨_, rfl⟩
  exact sm_rt w
theorem sm_X12_startAt_0 {h0 : sv_H} {x0 : Nat} {x1 : Int32} {x2 : Int32} {x3 : Int32} {x4 : Int32} {h : sv_H} (w : vt_W h0 h) (tx0 : sv_K h0 x0 = 13) : vt_sm h0 (fn_X12_startAt x0 x1 x2 x3 x4 h) (ab_X12_startAt x0 x1 x2 x3 x4 (vt_ab h)) := by
  unfold fn_X12_startAt ab_X12_startAt
  obtain ⟨F, hF⟩ : ∃ F, sv_FP h = F := ⟨_, rfl⟩
  refine sm_kd w tx0 (by decide) ?_
  refine sm_cl w (sm_X12_hasMap w.1 (w.k tx0 (by decide))) (fun r1 h2 e w2 => ?_)
  have hF2 : sv_FP h2 = F := by rw [ro_X12_hasMap e]; exact hF
  clear e w hF
  have hF := hF2
  have w := w2
  clear hF2 w2
  refine sm_if (fun _ => ?_) (fun _ => ?_)
  · exact sm_X12_startAt_34 w
  · refine sm_cl w (sm_X12_isPlace w.1) (fun r3 h2 e w2 => ?_)
    have hF2 : sv_FP h2 = F := by rw [ro_X12_isPlace e]; exact hF
    clear e w hF
    have hF := hF2
    have w := w2
    clear hF2 w2
    refine sm_if (fun _ => ?_) (fun _ => ?_)
    · exact sm_X12_startAt_34 w
    · refine sm_if (fun _ => ?_) (fun _ => ?_)
      · exact sm_X12_startAt_34 w
      · refine sm_if (fun _ => ?_) (fun _ => ?_)
        · exact sm_X12_startAt_34 w
        · refine sm_cl w (sm_X12_isSector w.1 (w.k tx0 (by decide))) (fun r5 h2 e w2 => ?_)
          have hF2 : sv_FP h2 = F := by rw [ro_X12_isSector e]; exact hF
          clear e w hF
          have hF := hF2
          have w := w2
          clear hF2 w2
          refine sm_if (fun _ => ?_) (fun _ => ?_)
          · exact sm_X12_startAt_34 w
          · refine sm_gP w tx0 tk_1308 rfl (fun v7 tv7 => ?_)
            refine sm_gP w tv7 tk_600 rfl (fun v8 tv8 => ?_)
            refine sm_cl w (sm_X7_put w.1 (w.k tv8 (by decide))) (fun _ h2 e w2 => ?_)
            have hF2 : sv_FP h2 = F := (ow_X7_put sv_clT trivial e).2.1.1.trans hF
            clear e w hF
            have hF := hF2
            have w := w2
            clear hF2 w2
            refine sm_gP w tx0 tk_1304 rfl (fun v10 tv10 => ?_)
            refine sm_gP w tx0 tk_1306 rfl (fun v11 tv11 => ?_)
            refine sm_gP w tx0 tk_1308 rfl (fun v12 tv12 => ?_)
            refine sm_gP w tv12 tk_600 rfl (fun v13 tv13 => ?_)
            refine sm_cl w (sm_X10_begin w.1 (w.k tv10 (by decide)) (w.k tv11 (by decide)) (w.k tv13 (by decide))) (fun _ h2 e w2 => ?_)
            obtain ⟨F, hF2⟩ : ∃ F, sv_FP h2 = F := ⟨_, rfl⟩
            clear e w hF
            have hF := hF2
            have w := w2
            clear hF2 w2
            exact sm_rt w
theorem sm_X12_startAt {x0 : Nat} {x1 : Int32} {x2 : Int32} {x3 : Int32} {x4 : Int32} {h : sv_H} (g : vt_G h) (tx0 : sv_K h x0 = 13) : vt_sm h (fn_X12_startAt x0 x1 x2 x3 x4 h) (ab_X12_startAt x0 x1 x2 x3 x4 (vt_ab h)) := sm_X12_startAt_0 ⟨g, vt_ko.refl h⟩ tx0

theorem sm_X15_start_51 {h0 : sv_H} {h : sv_H} (w : vt_W h0 h) : vt_sm h0 (fn_X15_start_51 h) (ab_X15_start_51 (vt_ab h)) := by
  unfold fn_X15_start_51 ab_X15_start_51
  obtain ⟨F, hF⟩ : ∃ F, sv_FP h = F := ⟨_, rfl⟩
  exact sm_rt w
theorem sm_X15_start_0 {h0 : sv_H} {x0 : Nat} {x1 : Int32} {x2 : Int32} {x3 : Int32} {x4 : Int32} {h : sv_H} (w : vt_W h0 h) (tx0 : sv_K h0 x0 = 16) : vt_sm h0 (fn_X15_start x0 x1 x2 x3 x4 h) (ab_X15_start x0 x1 x2 x3 x4 (vt_ab h)) := by
  unfold fn_X15_start ab_X15_start
  obtain ⟨F, hF⟩ : ∃ F, sv_FP h = F := ⟨_, rfl⟩
  refine sm_kd w tx0 (by decide) ?_
  refine sm_if (fun _ => ?_) (fun _ => ?_)
  · exact sm_X15_start_51 w
  · refine sm_if (fun _ => ?_) (fun _ => ?_)
    · exact sm_X15_start_51 w
    · refine sm_if (fun _ => ?_) (fun _ => ?_)
      · exact sm_X15_start_51 w
      · refine sm_if (fun _ => ?_) (fun _ => ?_)
        · exact sm_X15_start_51 w
        · refine sm_if (fun _ => ?_) (fun _ => ?_)
          · exact sm_X15_start_51 w
          · refine sm_if (fun _ => ?_) (fun _ => ?_)
            · exact sm_X15_start_51 w
            · refine sm_if (fun _ => ?_) (fun _ => ?_)
              · exact sm_X15_start_51 w
              · refine sm_if (fun _ => ?_) (fun _ => ?_)
                · refine sm_gA w hF tx0 tk_1600 (by decide) (fun v1 av1 => ?_)
                  refine sm_sI w hF tx0 av1 tk_1600 (fun h w hF => ?_)
                  refine sm_gA w hF tx0 tk_1600 (by decide) (fun v3 av3 => ?_)
                  refine sm_sI w hF tx0 av3 tk_1600 (fun h w hF => ?_)
                  refine sm_gA w hF tx0 tk_1600 (by decide) (fun v5 av5 => ?_)
                  refine sm_sI w hF tx0 av5 tk_1600 (fun h w hF => ?_)
                  refine sm_gA w hF tx0 tk_1600 (by decide) (fun v7 av7 => ?_)
                  refine sm_sI w hF tx0 av7 tk_1600 (fun h w hF => ?_)
                  exact sm_rt w
                · exact sm_X15_start_51 w
theorem sm_X15_start {x0 : Nat} {x1 : Int32} {x2 : Int32} {x3 : Int32} {x4 : Int32} {h : sv_H} (g : vt_G h) (tx0 : sv_K h x0 = 16) : vt_sm h (fn_X15_start x0 x1 x2 x3 x4 h) (ab_X15_start x0 x1 x2 x3 x4 (vt_ab h)) := sm_X15_start_0 ⟨g, vt_ko.refl h⟩ tx0

theorem sm_X17_startAt_36 {h0 : sv_H} {h : sv_H} (w : vt_W h0 h) : vt_sm h0 (fn_X17_startAt_36 h) (ab_X17_startAt_36 (vt_ab h)) := by
  unfold fn_X17_startAt_36 ab_X17_startAt_36
  obtain ⟨F, hF⟩ : ∃ F, sv_FP h = F := ⟨_, rfl⟩
  exact sm_rt w
theorem sm_X17_startAt_0 {h0 : sv_H} {x0 : Nat} {x1 : Int32} {x2 : Int32} {x3 : Int32} {x4 : Int32} {h : sv_H} (w : vt_W h0 h) (tx0 : sv_K h0 x0 = 18) : vt_sm h0 (fn_X17_startAt x0 x1 x2 x3 x4 h) (ab_X17_startAt x0 x1 x2 x3 x4 (vt_ab h)) := by
  unfold fn_X17_startAt ab_X17_startAt
  obtain ⟨F, hF⟩ : ∃ F, sv_FP h = F := ⟨_, rfl⟩
  refine sm_kd w tx0 (by decide) ?_
  refine sm_pI w hF tx0 (by decide) (fun h w hF => ?_)
  refine sm_gI w tx0 (by decide) (fun v2 => ?_)
  refine sm_if (fun _ => ?_) (fun _ => ?_)
  · exact sm_X17_startAt_36 w
  · refine sm_cl w (sm_X17_sectors w.1 (w.k tx0 (by decide))) (fun r3 h2 e w2 => ?_)
    have hF2 : sv_FP h2 = F := by rw [ro_X17_sectors e]; exact hF
    clear e w hF
    have hF := hF2
    have w := w2
    clear hF2 w2
    refine sm_if (fun _ => ?_) (fun _ => ?_)
    · exact sm_X17_startAt_36 w
    · refine sm_gP w tx0 tk_1802 rfl (fun v5 tv5 => ?_)
      refine sm_cl w (sm_X15_start w.1 (w.k tv5 (by decide))) (fun r6 h2 e w2 => ?_)
      have hF2 : sv_FP h2 = F := (ow_X15_start sv_clT trivial e).2.1.1.trans hF
      clear e w hF
      have hF := hF2
      have w := w2
      clear hF2 w2
      refine sm_if (fun _ => ?_) (fun _ => ?_)
      · exact sm_X17_startAt_36 w
      · refine sm_cl w (sm_X17_begin w.1 (w.k tx0 (by decide))) (fun _ h2 e w2 => ?_)
        have hF2 : sv_FP h2 = F := (ow_X17_begin sv_clT trivial e).2.1.1.trans hF
        clear e w hF
        have hF := hF2
        have w := w2
        clear hF2 w2
        exact sm_rt w
theorem sm_X17_startAt {x0 : Nat} {x1 : Int32} {x2 : Int32} {x3 : Int32} {x4 : Int32} {h : sv_H} (g : vt_G h) (tx0 : sv_K h x0 = 18) : vt_sm h (fn_X17_startAt x0 x1 x2 x3 x4 h) (ab_X17_startAt x0 x1 x2 x3 x4 (vt_ab h)) := sm_X17_startAt_0 ⟨g, vt_ko.refl h⟩ tx0

theorem sm_X5_isInput_41 {h0 : sv_H} {s0 : Int32} {h : sv_H} (w : vt_W h0 h) : vt_sm h0 (fn_X5_isInput_41 s0 h) (ab_X5_isInput_41 s0 (vt_ab h)) := by
  unfold fn_X5_isInput_41 ab_X5_isInput_41
  obtain ⟨F, hF⟩ : ∃ F, sv_FP h = F := ⟨_, rfl⟩
  exact sm_rz w
theorem sm_X5_isInput_40 {h0 : sv_H} {h : sv_H} (w : vt_W h0 h) : vt_sm h0 (fn_X5_isInput_40 h) (ab_X5_isInput_40 (vt_ab h)) := by
  unfold fn_X5_isInput_40 ab_X5_isInput_40
  obtain ⟨F, hF⟩ : ∃ F, sv_FP h = F := ⟨_, rfl⟩
  exact sm_X5_isInput_41 w
theorem sm_X5_isInput_0 {h0 : sv_H} {x0 : Int32} {x1 : Int32} {x2 : Int32} {h : sv_H} (w : vt_W h0 h) : vt_sm h0 (fn_X5_isInput x0 x1 x2 h) (ab_X5_isInput x0 x1 x2 (vt_ab h)) := by
  unfold fn_X5_isInput ab_X5_isInput
  obtain ⟨F, hF⟩ : ∃ F, sv_FP h = F := ⟨_, rfl⟩
  refine sm_if (fun _ => ?_) (fun _ => ?_)
  · exact sm_X5_isInput_40 w
  · refine sm_if (fun _ => ?_) (fun _ => ?_)
    · exact sm_X5_isInput_40 w
    · refine sm_if (fun _ => ?_) (fun _ => ?_)
      · exact sm_X5_isInput_40 w
      · refine sm_if (fun _ => ?_) (fun _ => ?_)
        · exact sm_X5_isInput_40 w
        · refine sm_if (fun _ => ?_) (fun _ => ?_)
          · exact sm_X5_isInput_40 w
          · refine sm_if (fun _ => ?_) (fun _ => ?_)
            · exact sm_X5_isInput_40 w
            · exact sm_X5_isInput_41 w
theorem sm_X5_isInput {x0 : Int32} {x1 : Int32} {x2 : Int32} {h : sv_H} (g : vt_G h) : vt_sm h (fn_X5_isInput x0 x1 x2 h) (ab_X5_isInput x0 x1 x2 (vt_ab h)) := sm_X5_isInput_0 ⟨g, vt_ko.refl h⟩

theorem sm_X12_addInput_29 {h0 : sv_H} {h : sv_H} (w : vt_W h0 h) : vt_sm h0 (fn_X12_addInput_29 h) (ab_X12_addInput_29 (vt_ab h)) := by
  unfold fn_X12_addInput_29 ab_X12_addInput_29
  obtain ⟨F, hF⟩ : ∃ F, sv_FP h = F := ⟨_, rfl⟩
  exact sm_rt w
theorem sm_X12_addInput_0 {h0 : sv_H} {x0 : Nat} {x1 : Int32} {x2 : Int32} {x3 : Int32} {x4 : Int32} {h : sv_H} (w : vt_W h0 h) (tx0 : sv_K h0 x0 = 13) : vt_sm h0 (fn_X12_addInput x0 x1 x2 x3 x4 h) (ab_X12_addInput x0 x1 x2 x3 x4 (vt_ab h)) := by
  unfold fn_X12_addInput ab_X12_addInput
  obtain ⟨F, hF⟩ : ∃ F, sv_FP h = F := ⟨_, rfl⟩
  refine sm_kd w tx0 (by decide) ?_
  refine sm_cl w (sm_X12_hasMap w.1 (w.k tx0 (by decide))) (fun r1 h2 e w2 => ?_)
  have hF2 : sv_FP h2 = F := by rw [ro_X12_hasMap e]; exact hF
  clear e w hF
  have hF := hF2
  have w := w2
  clear hF2 w2
  refine sm_if (fun _ => ?_) (fun _ => ?_)
  · exact sm_X12_addInput_29 w
  · refine sm_cl w (sm_X5_isInput w.1) (fun r3 h2 e w2 => ?_)
    have hF2 : sv_FP h2 = F := by rw [ro_X5_isInput e]; exact hF
    clear e w hF
    have hF := hF2
    have w := w2
    clear hF2 w2
    refine sm_if (fun _ => ?_) (fun _ => ?_)
    · exact sm_X12_addInput_29 w
    · refine sm_gP w tx0 tk_1308 rfl (fun v5 tv5 => ?_)
      refine sm_gI w tv5 (by decide) (fun v6 => ?_)
      refine sm_if (fun _ => ?_) (fun _ => ?_)
      · refine sm_gP w tx0 tk_1308 rfl (fun v7 tv7 => ?_)
        refine sm_cl w (sm_X5_inputOf w.1) (fun r8 h2 e w2 => ?_)
        have hF2 : sv_FP h2 = F := by rw [ro_X5_inputOf e]; exact hF
        clear e w hF
        have hF := hF2
        have w := w2
        clear hF2 w2
        refine sm_cl w (sm_X5_add w.1 (w.k tv7 (by decide))) (fun _ h2 e w2 => ?_)
        obtain ⟨F, hF2⟩ : ∃ F, sv_FP h2 = F := ⟨_, rfl⟩
        clear e w hF
        have hF := hF2
        have w := w2
        clear hF2 w2
        refine sm_gP w tx0 tk_1308 rfl (fun v11 tv11 => ?_)
        refine sm_gI w tv11 (by decide) (fun v12 => ?_)
        exact sm_rt w
      · exact sm_X12_addInput_29 w
theorem sm_X12_addInput {x0 : Nat} {x1 : Int32} {x2 : Int32} {x3 : Int32} {x4 : Int32} {h : sv_H} (g : vt_G h) (tx0 : sv_K h x0 = 13) : vt_sm h (fn_X12_addInput x0 x1 x2 x3 x4 h) (ab_X12_addInput x0 x1 x2 x3 x4 (vt_ab h)) := sm_X12_addInput_0 ⟨g, vt_ko.refl h⟩ tx0

theorem sm_X15_isIn_16 {h0 : sv_H} {s0 : Int32} {h : sv_H} (w : vt_W h0 h) : vt_sm h0 (fn_X15_isIn_16 s0 h) (ab_X15_isIn_16 s0 (vt_ab h)) := by
  unfold fn_X15_isIn_16 ab_X15_isIn_16
  obtain ⟨F, hF⟩ : ∃ F, sv_FP h = F := ⟨_, rfl⟩
  exact sm_rz w
theorem sm_X15_isIn_15 {h0 : sv_H} {h : sv_H} (w : vt_W h0 h) : vt_sm h0 (fn_X15_isIn_15 h) (ab_X15_isIn_15 (vt_ab h)) := by
  unfold fn_X15_isIn_15 ab_X15_isIn_15
  obtain ⟨F, hF⟩ : ∃ F, sv_FP h = F := ⟨_, rfl⟩
  exact sm_X15_isIn_16 w
theorem sm_X15_isIn_0 {h0 : sv_H} {x0 : Int32} {x1 : Int32} {h : sv_H} (w : vt_W h0 h) : vt_sm h0 (fn_X15_isIn x0 x1 h) (ab_X15_isIn x0 x1 (vt_ab h)) := by
  unfold fn_X15_isIn ab_X15_isIn
  obtain ⟨F, hF⟩ : ∃ F, sv_FP h = F := ⟨_, rfl⟩
  refine sm_if (fun _ => ?_) (fun _ => ?_)
  · exact sm_X15_isIn_15 w
  · refine sm_if (fun _ => ?_) (fun _ => ?_)
    · exact sm_X15_isIn_15 w
    · exact sm_X15_isIn_16 w
theorem sm_X15_isIn {x0 : Int32} {x1 : Int32} {h : sv_H} (g : vt_G h) : vt_sm h (fn_X15_isIn x0 x1 h) (ab_X15_isIn x0 x1 (vt_ab h)) := sm_X15_isIn_0 ⟨g, vt_ko.refl h⟩

theorem sm_X15_record_54 {h0 : sv_H} {h : sv_H} (w : vt_W h0 h) : vt_sm h0 (fn_X15_record_54 h) (ab_X15_record_54 (vt_ab h)) := by
  unfold fn_X15_record_54 ab_X15_record_54
  obtain ⟨F, hF⟩ : ∃ F, sv_FP h = F := ⟨_, rfl⟩
  exact sm_rt w
theorem sm_X15_record_59b {h0 : sv_H} {k59 : Nat → Int32 → Int32 → Int32 → Int32 → Int32 → Int32 → sv_H → Option (Int32 × sv_H)} {j59 : Nat → Int32 → Int32 → Int32 → Int32 → Int32 → Int32 → vt_S → Option (Int32 × vt_S)} (hk59 : ∀ {x0 : Nat} {x1 : Int32} {x2 : Int32} {x3 : Int32} {x4 : Int32} {x5 : Int32} {x6 : Int32} {h : sv_H}, vt_W h0 h → sv_K h0 x0 = 16 → vt_sm h0 (k59 x0 x1 x2 x3 x4 x5 x6 h) (j59 x0 x1 x2 x3 x4 x5 x6 (vt_ab h))) {x0 : Nat} {x1 : Int32} {x2 : Int32} {x3 : Int32} {x4 : Int32} {x5 : Int32} {x6 : Int32} {h : sv_H} (w : vt_W h0 h) (tx0 : sv_K h0 x0 = 16) : vt_sm h0 (fn_X15_record_59b k59 x0 x1 x2 x3 x4 x5 x6 h) (ab_X15_record_59b j59 x0 x1 x2 x3 x4 x5 x6 (vt_ab h)) := by
  unfold fn_X15_record_59b ab_X15_record_59b
  obtain ⟨F, hF⟩ : ∃ F, sv_FP h = F := ⟨_, rfl⟩
  refine sm_if (fun _ => ?_) (fun _ => ?_)
  · refine sm_gI w tx0 (by decide) (fun v1 => ?_)
    exact sm_rt w
  · refine sm_gA w hF tx0 tk_1601 (by decide) (fun v2 av2 => ?_)
    refine sm_gI w tx0 (by decide) (fun v3 => ?_)
    refine sm_sI w hF tx0 av2 tk_1601 (fun h w hF => ?_)
    refine sm_gA w hF tx0 tk_1602 (by decide) (fun v5 av5 => ?_)
    refine sm_gI w tx0 (by decide) (fun v6 => ?_)
    refine sm_sI w hF tx0 av5 tk_1602 (fun h w hF => ?_)
    refine sm_gA w hF tx0 tk_1603 (by decide) (fun v8 av8 => ?_)
    refine sm_gI w tx0 (by decide) (fun v9 => ?_)
    refine sm_sI w hF tx0 av8 tk_1603 (fun h w hF => ?_)
    refine sm_gA w hF tx0 tk_1604 (by decide) (fun v11 av11 => ?_)
    refine sm_gI w tx0 (by decide) (fun v12 => ?_)
    refine sm_sZ w hF tx0 av11 tk_1604 (fun h w hF => ?_)
    refine sm_gI w tx0 (by decide) (fun v14 => ?_)
    refine sm_pI w hF tx0 (by decide) (fun h w hF => ?_)
    exact hk59 w tx0
theorem sm_X15_record_59 {h0 : sv_H} : ∀ (n : Nat) {x0 : Nat} {x1 : Int32} {x2 : Int32} {x3 : Int32} {x4 : Int32} {x5 : Int32} {x6 : Int32} {h : sv_H}, vt_W h0 h → sv_K h0 x0 = 16 → vt_sm h0 (fn_X15_record_59 n x0 x1 x2 x3 x4 x5 x6 h) (ab_X15_record_59 n x0 x1 x2 x3 x4 x5 x6 (vt_ab h)) := by
  intro n
  induction n with
  | zero => intro x0 x1 x2 x3 x4 x5 x6 h w tx0; exact sm_no
  | succ n ih => intro x0 x1 x2 x3 x4 x5 x6 h w tx0; exact sm_X15_record_59b (k59 := fn_X15_record_59 n) (j59 := ab_X15_record_59 n) (fun w tx0 => ih w tx0) w tx0
theorem sm_X15_record_0 {h0 : sv_H} {x0 : Nat} {x1 : Int32} {x2 : Int32} {x3 : Int32} {x4 : Int32} {x5 : Int32} {h : sv_H} (w : vt_W h0 h) (tx0 : sv_K h0 x0 = 16) : vt_sm h0 (fn_X15_record x0 x1 x2 x3 x4 x5 h) (ab_X15_record x0 x1 x2 x3 x4 x5 (vt_ab h)) := by
  unfold fn_X15_record ab_X15_record
  obtain ⟨F, hF⟩ : ∃ F, sv_FP h = F := ⟨_, rfl⟩
  refine sm_kd w tx0 (by decide) ?_
  refine sm_cl w (sm_X15_isIn w.1) (fun r1 h2 e w2 => ?_)
  have hF2 : sv_FP h2 = F := by rw [ro_X15_isIn e]; exact hF
  clear e w hF
  have hF := hF2
  have w := w2
  clear hF2 w2
  refine sm_if (fun _ => ?_) (fun _ => ?_)
  · exact sm_X15_record_54 w
  · refine sm_cl w (sm_X15_isIn w.1) (fun r3 h2 e w2 => ?_)
    have hF2 : sv_FP h2 = F := by rw [ro_X15_isIn e]; exact hF
    clear e w hF
    have hF := hF2
    have w := w2
    clear hF2 w2
    refine sm_if (fun _ => ?_) (fun _ => ?_)
    · exact sm_X15_record_54 w
    · refine sm_cl w (sm_X15_isIn w.1) (fun r5 h2 e w2 => ?_)
      have hF2 : sv_FP h2 = F := by rw [ro_X15_isIn e]; exact hF
      clear e w hF
      have hF := hF2
      have w := w2
      clear hF2 w2
      refine sm_if (fun _ => ?_) (fun _ => ?_)
      · exact sm_X15_record_54 w
      · refine sm_if (fun _ => ?_) (fun _ => ?_)
        · exact sm_X15_record_54 w
        · refine sm_if (fun _ => ?_) (fun _ => ?_)
          · exact sm_X15_record_54 w
          · refine sm_gI w tx0 (by decide) (fun v7 => ?_)
            refine sm_if (fun _ => ?_) (fun _ => ?_)
            · exact sm_X15_record_59 sv_fuel w tx0
            · exact sm_X15_record_54 w
theorem sm_X15_record {x0 : Nat} {x1 : Int32} {x2 : Int32} {x3 : Int32} {x4 : Int32} {x5 : Int32} {h : sv_H} (g : vt_G h) (tx0 : sv_K h x0 = 16) : vt_sm h (fn_X15_record x0 x1 x2 x3 x4 x5 h) (ab_X15_record x0 x1 x2 x3 x4 x5 (vt_ab h)) := sm_X15_record_0 ⟨g, vt_ko.refl h⟩ tx0

