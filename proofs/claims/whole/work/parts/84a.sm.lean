theorem sm_J13_signum_95d88_0 {h0 : sv_H} {x0 : Int64} {h : sv_H} (w : vt_W h0 h) : vt_sm h0 (fn_J13_signum_95d88 x0 h) (ab_J13_signum_95d88 x0 (vt_ab h)) := by
  unfold fn_J13_signum_95d88 ab_J13_signum_95d88
  obtain ⟨F, hF⟩ : ∃ F, sv_FP h = F := ⟨_, rfl⟩
  exact sm_rt w
theorem sm_J13_signum_95d88 {x0 : Int64} {h : sv_H} (g : vt_G h) : vt_sm h (fn_J13_signum_95d88 x0 h) (ab_J13_signum_95d88 x0 (vt_ab h)) := sm_J13_signum_95d88_0 ⟨g, vt_ko.refl h⟩

theorem sm_J6_signum_0f7a4_0 {h0 : sv_H} {x0 : Int32} {h : sv_H} (w : vt_W h0 h) : vt_sm h0 (fn_J6_signum_0f7a4 x0 h) (ab_J6_signum_0f7a4 x0 (vt_ab h)) := by
  unfold fn_J6_signum_0f7a4 ab_J6_signum_0f7a4
  obtain ⟨F, hF⟩ : ∃ F, sv_FP h = F := ⟨_, rfl⟩
  exact sm_rt w
theorem sm_J6_signum_0f7a4 {x0 : Int32} {h : sv_H} (g : vt_G h) : vt_sm h (fn_J6_signum_0f7a4 x0 h) (ab_J6_signum_0f7a4 x0 (vt_ab h)) := sm_J6_signum_0f7a4_0 ⟨g, vt_ko.refl h⟩

theorem sm_J9_floorDiv_7cf53_21 {h0 : sv_H} {x2 : Int32} {h : sv_H} (w : vt_W h0 h) : vt_sm h0 (fn_J9_floorDiv_7cf53_21 x2 h) (ab_J9_floorDiv_7cf53_21 x2 (vt_ab h)) := by
  unfold fn_J9_floorDiv_7cf53_21 ab_J9_floorDiv_7cf53_21
  obtain ⟨F, hF⟩ : ∃ F, sv_FP h = F := ⟨_, rfl⟩
  exact sm_rt w
theorem sm_J9_floorDiv_7cf53_0 {h0 : sv_H} {x0 : Int32} {x1 : Int32} {h : sv_H} (w : vt_W h0 h) : vt_sm h0 (fn_J9_floorDiv_7cf53 x0 x1 h) (ab_J9_floorDiv_7cf53 x0 x1 (vt_ab h)) := by
  unfold fn_J9_floorDiv_7cf53 ab_J9_floorDiv_7cf53
  obtain ⟨F, hF⟩ : ∃ F, sv_FP h = F := ⟨_, rfl⟩
  refine sm_if (fun _ => sm_no) (fun _ => ?_)
  refine sm_if (fun _ => ?_) (fun _ => ?_)
  · exact sm_J9_floorDiv_7cf53_21 w
  · refine sm_if (fun _ => ?_) (fun _ => ?_)
    · exact sm_J9_floorDiv_7cf53_21 w
    · exact sm_rt w
theorem sm_J9_floorDiv_7cf53 {x0 : Int32} {x1 : Int32} {h : sv_H} (g : vt_G h) : vt_sm h (fn_J9_floorDiv_7cf53 x0 x1 h) (ab_J9_floorDiv_7cf53 x0 x1 (vt_ab h)) := sm_J9_floorDiv_7cf53_0 ⟨g, vt_ko.refl h⟩

theorem sm_J9_floorDiv_f86c9_27 {h0 : sv_H} {x4 : Int64} {h : sv_H} (w : vt_W h0 h) : vt_sm h0 (fn_J9_floorDiv_f86c9_27 x4 h) (ab_J9_floorDiv_f86c9_27 x4 (vt_ab h)) := by
  unfold fn_J9_floorDiv_f86c9_27 ab_J9_floorDiv_f86c9_27
  obtain ⟨F, hF⟩ : ∃ F, sv_FP h = F := ⟨_, rfl⟩
  exact sm_rt w
theorem sm_J9_floorDiv_f86c9_0 {h0 : sv_H} {x0 : Int64} {x2 : Int64} {h : sv_H} (w : vt_W h0 h) : vt_sm h0 (fn_J9_floorDiv_f86c9 x0 x2 h) (ab_J9_floorDiv_f86c9 x0 x2 (vt_ab h)) := by
  unfold fn_J9_floorDiv_f86c9 ab_J9_floorDiv_f86c9
  obtain ⟨F, hF⟩ : ∃ F, sv_FP h = F := ⟨_, rfl⟩
  refine sm_if (fun _ => sm_no) (fun _ => ?_)
  refine sm_if (fun _ => ?_) (fun _ => ?_)
  · exact sm_J9_floorDiv_f86c9_27 w
  · refine sm_if (fun _ => ?_) (fun _ => ?_)
    · exact sm_J9_floorDiv_f86c9_27 w
    · exact sm_rt w
theorem sm_J9_floorDiv_f86c9 {x0 : Int64} {x2 : Int64} {h : sv_H} (g : vt_G h) : vt_sm h (fn_J9_floorDiv_f86c9 x0 x2 h) (ab_J9_floorDiv_f86c9 x0 x2 (vt_ab h)) := sm_J9_floorDiv_f86c9_0 ⟨g, vt_ko.refl h⟩

theorem sm_J9_floorMod_7cf53_18 {h0 : sv_H} {x2 : Int32} {h : sv_H} (w : vt_W h0 h) : vt_sm h0 (fn_J9_floorMod_7cf53_18 x2 h) (ab_J9_floorMod_7cf53_18 x2 (vt_ab h)) := by
  unfold fn_J9_floorMod_7cf53_18 ab_J9_floorMod_7cf53_18
  obtain ⟨F, hF⟩ : ∃ F, sv_FP h = F := ⟨_, rfl⟩
  exact sm_rt w
theorem sm_J9_floorMod_7cf53_0 {h0 : sv_H} {x0 : Int32} {x1 : Int32} {h : sv_H} (w : vt_W h0 h) : vt_sm h0 (fn_J9_floorMod_7cf53 x0 x1 h) (ab_J9_floorMod_7cf53 x0 x1 (vt_ab h)) := by
  unfold fn_J9_floorMod_7cf53 ab_J9_floorMod_7cf53
  obtain ⟨F, hF⟩ : ∃ F, sv_FP h = F := ⟨_, rfl⟩
  refine sm_if (fun _ => sm_no) (fun _ => ?_)
  refine sm_if (fun _ => ?_) (fun _ => ?_)
  · exact sm_J9_floorMod_7cf53_18 w
  · refine sm_if (fun _ => ?_) (fun _ => ?_)
    · exact sm_J9_floorMod_7cf53_18 w
    · exact sm_rt w
theorem sm_J9_floorMod_7cf53 {x0 : Int32} {x1 : Int32} {h : sv_H} (g : vt_G h) : vt_sm h (fn_J9_floorMod_7cf53 x0 x1 h) (ab_J9_floorMod_7cf53 x0 x1 (vt_ab h)) := sm_J9_floorMod_7cf53_0 ⟨g, vt_ko.refl h⟩

theorem sm_J9_multiplyHigh_f86c9_0 {h0 : sv_H} {x0 : Int64} {x2 : Int64} {h : sv_H} (w : vt_W h0 h) : vt_sm h0 (fn_J9_multiplyHigh_f86c9 x0 x2 h) (ab_J9_multiplyHigh_f86c9 x0 x2 (vt_ab h)) := by
  unfold fn_J9_multiplyHigh_f86c9 ab_J9_multiplyHigh_f86c9
  obtain ⟨F, hF⟩ : ∃ F, sv_FP h = F := ⟨_, rfl⟩
  exact sm_rt w
theorem sm_J9_multiplyHigh_f86c9 {x0 : Int64} {x2 : Int64} {h : sv_H} (g : vt_G h) : vt_sm h (fn_J9_multiplyHigh_f86c9 x0 x2 h) (ab_J9_multiplyHigh_f86c9 x0 x2 (vt_ab h)) := sm_J9_multiplyHigh_f86c9_0 ⟨g, vt_ko.refl h⟩

theorem sm_X0_makeRoom_50 {h0 : sv_H} {h : sv_H} (w : vt_W h0 h) : vt_sm h0 (fn_X0_makeRoom_50 h) (ab_X0_makeRoom_50 (vt_ab h)) := by
  unfold fn_X0_makeRoom_50 ab_X0_makeRoom_50
  obtain ⟨F, hF⟩ : ∃ F, sv_FP h = F := ⟨_, rfl⟩
  exact sm_rt w
theorem sm_X0_makeRoom_29 {h0 : sv_H} {x0 : Nat} {x2 : Int32} {h : sv_H} (w : vt_W h0 h) (tx0 : sv_K h0 x0 = 1) : vt_sm h0 (fn_X0_makeRoom_29 x0 x2 h) (ab_X0_makeRoom_29 x0 x2 (vt_ab h)) := by
  unfold fn_X0_makeRoom_29 ab_X0_makeRoom_29
  obtain ⟨F, hF⟩ : ∃ F, sv_FP h = F := ⟨_, rfl⟩
  refine sm_gA w hF tx0 tk_100 (by decide) (fun v1 av1 => ?_)
  refine sm_len w hF tx0 av1 tk_100 (by decide) (fun _ => ?_)
  refine sm_if (fun _ => ?_) (fun _ => ?_)
  · exact sm_X0_makeRoom_50 w
  · refine sm_gA w hF tx0 tk_100 (by decide) (fun v3 av3 => ?_)
    refine sm_grI w hF tx0 av3 tk_100 rfl (fun h w => ?_)
    clear hF
    obtain ⟨F, hF⟩ : ∃ F, sv_FP h = F := ⟨_, rfl⟩
    exact sm_X0_makeRoom_50 w
theorem sm_X0_makeRoom_8b {h0 : sv_H} {k8 : Nat → Int32 → Int32 → Int32 → sv_H → Option (Unit × sv_H)} {j8 : Nat → Int32 → Int32 → Int32 → vt_S → Option (Unit × vt_S)} (hk8 : ∀ {x0 : Nat} {x1 : Int32} {x2 : Int32} {x3 : Int32} {h : sv_H}, vt_W h0 h → sv_K h0 x0 = 1 → vt_sm h0 (k8 x0 x1 x2 x3 h) (j8 x0 x1 x2 x3 (vt_ab h))) {x0 : Nat} {x1 : Int32} {x2 : Int32} {x3 : Int32} {h : sv_H} (w : vt_W h0 h) (tx0 : sv_K h0 x0 = 1) : vt_sm h0 (fn_X0_makeRoom_8b k8 x0 x1 x2 x3 h) (ab_X0_makeRoom_8b j8 x0 x1 x2 x3 (vt_ab h)) := by
  unfold fn_X0_makeRoom_8b ab_X0_makeRoom_8b
  obtain ⟨F, hF⟩ : ∃ F, sv_FP h = F := ⟨_, rfl⟩
  refine sm_if (fun _ => ?_) (fun _ => ?_)
  · exact sm_X0_makeRoom_29 w tx0
  · refine sm_if (fun _ => ?_) (fun _ => ?_)
    · exact sm_X0_makeRoom_29 w tx0
    · exact hk8 w tx0
theorem sm_X0_makeRoom_8 {h0 : sv_H} : ∀ (n : Nat) {x0 : Nat} {x1 : Int32} {x2 : Int32} {x3 : Int32} {h : sv_H}, vt_W h0 h → sv_K h0 x0 = 1 → vt_sm h0 (fn_X0_makeRoom_8 n x0 x1 x2 x3 h) (ab_X0_makeRoom_8 n x0 x1 x2 x3 (vt_ab h)) := by
  intro n
  induction n with
  | zero => intro x0 x1 x2 x3 h w tx0; exact sm_no
  | succ n ih => intro x0 x1 x2 x3 h w tx0; exact sm_X0_makeRoom_8b (k8 := fn_X0_makeRoom_8 n) (j8 := ab_X0_makeRoom_8 n) (fun w tx0 => ih w tx0) w tx0
theorem sm_X0_makeRoom_0 {h0 : sv_H} {x0 : Nat} {x1 : Int32} {h : sv_H} (w : vt_W h0 h) (tx0 : sv_K h0 x0 = 1) : vt_sm h0 (fn_X0_makeRoom x0 x1 h) (ab_X0_makeRoom x0 x1 (vt_ab h)) := by
  unfold fn_X0_makeRoom ab_X0_makeRoom
  obtain ⟨F, hF⟩ : ∃ F, sv_FP h = F := ⟨_, rfl⟩
  refine sm_kd w tx0 (by decide) ?_
  refine sm_gA w hF tx0 tk_100 (by decide) (fun v1 av1 => ?_)
  refine sm_len w hF tx0 av1 tk_100 (by decide) (fun _ => ?_)
  exact sm_X0_makeRoom_8 sv_fuel w tx0
theorem sm_X0_makeRoom {x0 : Nat} {x1 : Int32} {h : sv_H} (g : vt_G h) (tx0 : sv_K h x0 = 1) : vt_sm h (fn_X0_makeRoom x0 x1 h) (ab_X0_makeRoom x0 x1 (vt_ab h)) := sm_X0_makeRoom_0 ⟨g, vt_ko.refl h⟩ tx0

theorem sm_X0_put_44 {h0 : sv_H} {h : sv_H} (w : vt_W h0 h) : vt_sm h0 (fn_X0_put_44 h) (ab_X0_put_44 (vt_ab h)) := by
  unfold fn_X0_put_44 ab_X0_put_44
  obtain ⟨F, hF⟩ : ∃ F, sv_FP h = F := ⟨_, rfl⟩
  exact sm_rt w
theorem sm_X0_put_0 {h0 : sv_H} {x0 : Nat} {x1 : Int32} {h : sv_H} (w : vt_W h0 h) (tx0 : sv_K h0 x0 = 1) : vt_sm h0 (fn_X0_put x0 x1 h) (ab_X0_put x0 x1 (vt_ab h)) := by
  unfold fn_X0_put ab_X0_put
  obtain ⟨F, hF⟩ : ∃ F, sv_FP h = F := ⟨_, rfl⟩
  refine sm_kd w tx0 (by decide) ?_
  refine sm_gI w tx0 (by decide) (fun v1 => ?_)
  refine sm_if (fun _ => ?_) (fun _ => ?_)
  · exact sm_X0_put_44 w
  · refine sm_gI w tx0 (by decide) (fun v2 => ?_)
    refine sm_cl w (sm_X0_makeRoom w.1 (w.k tx0 (by decide))) (fun _ h2 e w2 => ?_)
    obtain ⟨F, hF2⟩ : ∃ F, sv_FP h2 = F := ⟨_, rfl⟩
    clear e w hF
    have hF := hF2
    have w := w2
    clear hF2 w2
    refine sm_gA w hF tx0 tk_100 (by decide) (fun v4 av4 => ?_)
    refine sm_gI w tx0 (by decide) (fun v5 => ?_)
    refine sm_sI w hF tx0 av4 tk_100 (fun h w hF => ?_)
    refine sm_gI w tx0 (by decide) (fun v7 => ?_)
    refine sm_pI w hF tx0 (by decide) (fun h w hF => ?_)
    exact sm_X0_put_44 w
theorem sm_X0_put {x0 : Nat} {x1 : Int32} {h : sv_H} (g : vt_G h) (tx0 : sv_K h x0 = 1) : vt_sm h (fn_X0_put x0 x1 h) (ab_X0_put x0 x1 (vt_ab h)) := sm_X0_put_0 ⟨g, vt_ko.refl h⟩ tx0

theorem sm_X12_giveBytes_26 {h0 : sv_H} {h : sv_H} (w : vt_W h0 h) : vt_sm h0 (fn_X12_giveBytes_26 h) (ab_X12_giveBytes_26 (vt_ab h)) := by
  unfold fn_X12_giveBytes_26 ab_X12_giveBytes_26
  obtain ⟨F, hF⟩ : ∃ F, sv_FP h = F := ⟨_, rfl⟩
  exact sm_rt w
theorem sm_X12_giveBytes_33b {h0 : sv_H} {k33 : Nat → Int64 → Int32 → sv_H → Option (Int32 × sv_H)} {j33 : Nat → Int64 → Int32 → vt_S → Option (Int32 × vt_S)} (hk33 : ∀ {x0 : Nat} {x1 : Int64} {x4 : Int32} {h : sv_H}, vt_W h0 h → sv_K h0 x0 = 13 → vt_sm h0 (k33 x0 x1 x4 h) (j33 x0 x1 x4 (vt_ab h))) {x0 : Nat} {x1 : Int64} {x4 : Int32} {h : sv_H} (w : vt_W h0 h) (tx0 : sv_K h0 x0 = 13) : vt_sm h0 (fn_X12_giveBytes_33b k33 x0 x1 x4 h) (ab_X12_giveBytes_33b j33 x0 x1 x4 (vt_ab h)) := by
  unfold fn_X12_giveBytes_33b ab_X12_giveBytes_33b
  obtain ⟨F, hF⟩ : ∃ F, sv_FP h = F := ⟨_, rfl⟩
  refine sm_if (fun _ => ?_) (fun _ => ?_)
  · exact sm_rt w
  · refine sm_gP w tx0 tk_1300 rfl (fun v1 tv1 => ?_)
    refine sm_cl w (sm_X0_put w.1 (w.k tv1 (by decide))) (fun _ h2 e w2 => ?_)
    obtain ⟨F, hF2⟩ : ∃ F, sv_FP h2 = F := ⟨_, rfl⟩
    clear e w hF
    have hF := hF2
    have w := w2
    clear hF2 w2
    exact hk33 w tx0
theorem sm_X12_giveBytes_33 {h0 : sv_H} : ∀ (n : Nat) {x0 : Nat} {x1 : Int64} {x4 : Int32} {h : sv_H}, vt_W h0 h → sv_K h0 x0 = 13 → vt_sm h0 (fn_X12_giveBytes_33 n x0 x1 x4 h) (ab_X12_giveBytes_33 n x0 x1 x4 (vt_ab h)) := by
  intro n
  induction n with
  | zero => intro x0 x1 x4 h w tx0; exact sm_no
  | succ n ih => intro x0 x1 x4 h w tx0; exact sm_X12_giveBytes_33b (k33 := fn_X12_giveBytes_33 n) (j33 := ab_X12_giveBytes_33 n) (fun w tx0 => ih w tx0) w tx0
theorem sm_X12_giveBytes_0 {h0 : sv_H} {x0 : Nat} {x1 : Int64} {x3 : Int32} {h : sv_H} (w : vt_W h0 h) (tx0 : sv_K h0 x0 = 13) : vt_sm h0 (fn_X12_giveBytes x0 x1 x3 h) (ab_X12_giveBytes x0 x1 x3 (vt_ab h)) := by
  unfold fn_X12_giveBytes ab_X12_giveBytes
  obtain ⟨F, hF⟩ : ∃ F, sv_FP h = F := ⟨_, rfl⟩
  refine sm_kd w tx0 (by decide) ?_
  refine sm_if (fun _ => ?_) (fun _ => ?_)
  · exact sm_X12_giveBytes_26 w
  · refine sm_if (fun _ => ?_) (fun _ => ?_)
    · exact sm_X12_giveBytes_26 w
    · refine sm_gP w tx0 tk_1300 rfl (fun v1 tv1 => ?_)
      refine sm_gI w tv1 (by decide) (fun v2 => ?_)
      refine sm_if (fun _ => ?_) (fun _ => ?_)
      · exact sm_X12_giveBytes_33 sv_fuel w tx0
      · exact sm_X12_giveBytes_26 w
theorem sm_X12_giveBytes {x0 : Nat} {x1 : Int64} {x3 : Int32} {h : sv_H} (g : vt_G h) (tx0 : sv_K h x0 = 13) : vt_sm h (fn_X12_giveBytes x0 x1 x3 h) (ab_X12_giveBytes x0 x1 x3 (vt_ab h)) := sm_X12_giveBytes_0 ⟨g, vt_ko.refl h⟩ tx0

theorem sm_X17_giveBytes_31 {h0 : sv_H} {h : sv_H} (w : vt_W h0 h) : vt_sm h0 (fn_X17_giveBytes_31 h) (ab_X17_giveBytes_31 (vt_ab h)) := by
  unfold fn_X17_giveBytes_31 ab_X17_giveBytes_31
  obtain ⟨F, hF⟩ : ∃ F, sv_FP h = F := ⟨_, rfl⟩
  exact sm_rt w
theorem sm_X17_giveBytes_38b {h0 : sv_H} {k38 : Nat → Int64 → Int32 → sv_H → Option (Int32 × sv_H)} {j38 : Nat → Int64 → Int32 → vt_S → Option (Int32 × vt_S)} (hk38 : ∀ {x0 : Nat} {x1 : Int64} {x4 : Int32} {h : sv_H}, vt_W h0 h → sv_K h0 x0 = 18 → vt_sm h0 (k38 x0 x1 x4 h) (j38 x0 x1 x4 (vt_ab h))) {x0 : Nat} {x1 : Int64} {x4 : Int32} {h : sv_H} (w : vt_W h0 h) (tx0 : sv_K h0 x0 = 18) : vt_sm h0 (fn_X17_giveBytes_38b k38 x0 x1 x4 h) (ab_X17_giveBytes_38b j38 x0 x1 x4 (vt_ab h)) := by
  unfold fn_X17_giveBytes_38b ab_X17_giveBytes_38b
  obtain ⟨F, hF⟩ : ∃ F, sv_FP h = F := ⟨_, rfl⟩
  refine sm_if (fun _ => ?_) (fun _ => ?_)
  · exact sm_rt w
  · refine sm_gP w tx0 tk_1801 rfl (fun v1 tv1 => ?_)
    refine sm_gA w hF tv1 tk_1500 (by decide) (fun v2 av2 => ?_)
    refine sm_gP w tx0 tk_1801 rfl (fun v3 tv3 => ?_)
    refine sm_gI w tv3 (by decide) (fun v4 => ?_)
    refine sm_sB w hF tv1 av2 tk_1500 (fun h w hF => ?_)
    refine sm_gP w tx0 tk_1801 rfl (fun v6 tv6 => ?_)
    refine sm_gI w tv6 (by decide) (fun v7 => ?_)
    refine sm_pI w hF tv6 (by decide) (fun h w hF => ?_)
    exact hk38 w tx0
theorem sm_X17_giveBytes_38 {h0 : sv_H} : ∀ (n : Nat) {x0 : Nat} {x1 : Int64} {x4 : Int32} {h : sv_H}, vt_W h0 h → sv_K h0 x0 = 18 → vt_sm h0 (fn_X17_giveBytes_38 n x0 x1 x4 h) (ab_X17_giveBytes_38 n x0 x1 x4 (vt_ab h)) := by
  intro n
  induction n with
  | zero => intro x0 x1 x4 h w tx0; exact sm_no
  | succ n ih => intro x0 x1 x4 h w tx0; exact sm_X17_giveBytes_38b (k38 := fn_X17_giveBytes_38 n) (j38 := ab_X17_giveBytes_38 n) (fun w tx0 => ih w tx0) w tx0
theorem sm_X17_giveBytes_0 {h0 : sv_H} {x0 : Nat} {x1 : Int64} {x3 : Int32} {h : sv_H} (w : vt_W h0 h) (tx0 : sv_K h0 x0 = 18) : vt_sm h0 (fn_X17_giveBytes x0 x1 x3 h) (ab_X17_giveBytes x0 x1 x3 (vt_ab h)) := by
  unfold fn_X17_giveBytes ab_X17_giveBytes
  obtain ⟨F, hF⟩ : ∃ F, sv_FP h = F := ⟨_, rfl⟩
  refine sm_kd w tx0 (by decide) ?_
  refine sm_pI w hF tx0 (by decide) (fun h w hF => ?_)
  refine sm_if (fun _ => ?_) (fun _ => ?_)
  · exact sm_X17_giveBytes_31 w
  · refine sm_if (fun _ => ?_) (fun _ => ?_)
    · exact sm_X17_giveBytes_31 w
    · refine sm_gP w tx0 tk_1801 rfl (fun v2 tv2 => ?_)
      refine sm_gI w tv2 (by decide) (fun v3 => ?_)
      refine sm_if (fun _ => ?_) (fun _ => ?_)
      · exact sm_X17_giveBytes_38 sv_fuel w tx0
      · exact sm_X17_giveBytes_31 w
theorem sm_X17_giveBytes {x0 : Nat} {x1 : Int64} {x3 : Int32} {h : sv_H} (g : vt_G h) (tx0 : sv_K h x0 = 18) : vt_sm h (fn_X17_giveBytes x0 x1 x3 h) (ab_X17_giveBytes x0 x1 x3 (vt_ab h)) := sm_X17_giveBytes_0 ⟨g, vt_ko.refl h⟩ tx0

theorem sm_X12_cutBytes_15 {h0 : sv_H} {h : sv_H} (w : vt_W h0 h) : vt_sm h0 (fn_X12_cutBytes_15 h) (ab_X12_cutBytes_15 (vt_ab h)) := by
  unfold fn_X12_cutBytes_15 ab_X12_cutBytes_15
  obtain ⟨F, hF⟩ : ∃ F, sv_FP h = F := ⟨_, rfl⟩
  exact sm_rt w
theorem sm_X12_cutBytes_0 {h0 : sv_H} {x0 : Nat} {x1 : Int32} {h : sv_H} (w : vt_W h0 h) (tx0 : sv_K h0 x0 = 13) : vt_sm h0 (fn_X12_cutBytes x0 x1 h) (ab_X12_cutBytes x0 x1 (vt_ab h)) := by
  unfold fn_X12_cutBytes ab_X12_cutBytes
  obtain ⟨F, hF⟩ : ∃ F, sv_FP h = F := ⟨_, rfl⟩
  refine sm_kd w tx0 (by decide) ?_
  refine sm_if (fun _ => ?_) (fun _ => ?_)
  · exact sm_X12_cutBytes_15 w
  · refine sm_gP w tx0 tk_1300 rfl (fun v1 tv1 => ?_)
    refine sm_gI w tv1 (by decide) (fun v2 => ?_)
    refine sm_if (fun _ => ?_) (fun _ => ?_)
    · refine sm_gP w tx0 tk_1300 rfl (fun v3 tv3 => ?_)
      refine sm_pI w hF tv3 (by decide) (fun h w hF => ?_)
      exact sm_rt w
    · exact sm_X12_cutBytes_15 w
theorem sm_X12_cutBytes {x0 : Nat} {x1 : Int32} {h : sv_H} (g : vt_G h) (tx0 : sv_K h x0 = 13) : vt_sm h (fn_X12_cutBytes x0 x1 h) (ab_X12_cutBytes x0 x1 (vt_ab h)) := sm_X12_cutBytes_0 ⟨g, vt_ko.refl h⟩ tx0

theorem sm_X17_cutBytes_20 {h0 : sv_H} {h : sv_H} (w : vt_W h0 h) : vt_sm h0 (fn_X17_cutBytes_20 h) (ab_X17_cutBytes_20 (vt_ab h)) := by
  unfold fn_X17_cutBytes_20 ab_X17_cutBytes_20
  obtain ⟨F, hF⟩ : ∃ F, sv_FP h = F := ⟨_, rfl⟩
  exact sm_rt w
theorem sm_X17_cutBytes_0 {h0 : sv_H} {x0 : Nat} {x1 : Int32} {h : sv_H} (w : vt_W h0 h) (tx0 : sv_K h0 x0 = 18) : vt_sm h0 (fn_X17_cutBytes x0 x1 h) (ab_X17_cutBytes x0 x1 (vt_ab h)) := by
  unfold fn_X17_cutBytes ab_X17_cutBytes
  obtain ⟨F, hF⟩ : ∃ F, sv_FP h = F := ⟨_, rfl⟩
  refine sm_kd w tx0 (by decide) ?_
  refine sm_pI w hF tx0 (by decide) (fun h w hF => ?_)
  refine sm_if (fun _ => ?_) (fun _ => ?_)
  · exact sm_X17_cutBytes_20 w
  · refine sm_gP w tx0 tk_1801 rfl (fun v2 tv2 => ?_)
    refine sm_gI w tv2 (by decide) (fun v3 => ?_)
    refine sm_if (fun _ => ?_) (fun _ => ?_)
    · refine sm_gP w tx0 tk_1801 rfl (fun v4 tv4 => ?_)
      refine sm_pI w hF tv4 (by decide) (fun h w hF => ?_)
      exact sm_rt w
    · exact sm_X17_cutBytes_20 w
theorem sm_X17_cutBytes {x0 : Nat} {x1 : Int32} {h : sv_H} (g : vt_G h) (tx0 : sv_K h x0 = 18) : vt_sm h (fn_X17_cutBytes x0 x1 h) (ab_X17_cutBytes x0 x1 (vt_ab h)) := sm_X17_cutBytes_0 ⟨g, vt_ko.refl h⟩ tx0

theorem sm_X12_pokeByte_15 {h0 : sv_H} {h : sv_H} (w : vt_W h0 h) : vt_sm h0 (fn_X12_pokeByte_15 h) (ab_X12_pokeByte_15 (vt_ab h)) := by
  unfold fn_X12_pokeByte_15 ab_X12_pokeByte_15
  obtain ⟨F, hF⟩ : ∃ F, sv_FP h = F := ⟨_, rfl⟩
  exact sm_rt w
theorem sm_X12_pokeByte_0 {h0 : sv_H} {x0 : Nat} {x1 : Int32} {x2 : Int32} {h : sv_H} (w : vt_W h0 h) (tx0 : sv_K h0 x0 = 13) : vt_sm h0 (fn_X12_pokeByte x0 x1 x2 h) (ab_X12_pokeByte x0 x1 x2 (vt_ab h)) := by
  unfold fn_X12_pokeByte ab_X12_pokeByte
  obtain ⟨F, hF⟩ : ∃ F, sv_FP h = F := ⟨_, rfl⟩
  refine sm_kd w tx0 (by decide) ?_
  refine sm_if (fun _ => ?_) (fun _ => ?_)
  · exact sm_X12_pokeByte_15 w
  · refine sm_gP w tx0 tk_1300 rfl (fun v1 tv1 => ?_)
    refine sm_gI w tv1 (by decide) (fun v2 => ?_)
    refine sm_if (fun _ => ?_) (fun _ => ?_)
    · refine sm_gP w tx0 tk_1300 rfl (fun v3 tv3 => ?_)
      refine sm_gA w hF tv3 tk_100 (by decide) (fun v4 av4 => ?_)
      refine sm_sI w hF tv3 av4 tk_100 (fun h w hF => ?_)
      exact sm_rt w
    · exact sm_X12_pokeByte_15 w
theorem sm_X12_pokeByte {x0 : Nat} {x1 : Int32} {x2 : Int32} {h : sv_H} (g : vt_G h) (tx0 : sv_K h x0 = 13) : vt_sm h (fn_X12_pokeByte x0 x1 x2 h) (ab_X12_pokeByte x0 x1 x2 (vt_ab h)) := sm_X12_pokeByte_0 ⟨g, vt_ko.refl h⟩ tx0

theorem sm_X17_pokeByte_20 {h0 : sv_H} {h : sv_H} (w : vt_W h0 h) : vt_sm h0 (fn_X17_pokeByte_20 h) (ab_X17_pokeByte_20 (vt_ab h)) := by
  unfold fn_X17_pokeByte_20 ab_X17_pokeByte_20
  obtain ⟨F, hF⟩ : ∃ F, sv_FP h = F := ⟨_, rfl⟩
  exact sm_rt w
theorem sm_X17_pokeByte_0 {h0 : sv_H} {x0 : Nat} {x1 : Int32} {x2 : Int32} {h : sv_H} (w : vt_W h0 h) (tx0 : sv_K h0 x0 = 18) : vt_sm h0 (fn_X17_pokeByte x0 x1 x2 h) (ab_X17_pokeByte x0 x1 x2 (vt_ab h)) := by
  unfold fn_X17_pokeByte ab_X17_pokeByte
  obtain ⟨F, hF⟩ : ∃ F, sv_FP h = F := ⟨_, rfl⟩
  refine sm_kd w tx0 (by decide) ?_
  refine sm_pI w hF tx0 (by decide) (fun h w hF => ?_)
  refine sm_if (fun _ => ?_) (fun _ => ?_)
  · exact sm_X17_pokeByte_20 w
  · refine sm_gP w tx0 tk_1801 rfl (fun v2 tv2 => ?_)
    refine sm_gI w tv2 (by decide) (fun v3 => ?_)
    refine sm_if (fun _ => ?_) (fun _ => ?_)
    · refine sm_gP w tx0 tk_1801 rfl (fun v4 tv4 => ?_)
      refine sm_gA w hF tv4 tk_1500 (by decide) (fun v5 av5 => ?_)
      refine sm_sB w hF tv4 av5 tk_1500 (fun h w hF => ?_)
      exact sm_rt w
    · exact sm_X17_pokeByte_20 w
theorem sm_X17_pokeByte {x0 : Nat} {x1 : Int32} {x2 : Int32} {h : sv_H} (g : vt_G h) (tx0 : sv_K h x0 = 18) : vt_sm h (fn_X17_pokeByte x0 x1 x2 h) (ab_X17_pokeByte x0 x1 x2 (vt_ab h)) := sm_X17_pokeByte_0 ⟨g, vt_ko.refl h⟩ tx0

theorem sm_X4_begin_0 {h0 : sv_H} {x0 : Nat} {h : sv_H} (w : vt_W h0 h) (tx0 : sv_K h0 x0 = 5) : vt_sm h0 (fn_X4_begin x0 h) (ab_X4_begin x0 (vt_ab h)) := by
  unfold fn_X4_begin ab_X4_begin
  obtain ⟨F, hF⟩ : ∃ F, sv_FP h = F := ⟨_, rfl⟩
  refine sm_kd w tx0 (by decide) ?_
  refine sm_pI w hF tx0 (by decide) (fun h w hF => ?_)
  refine sm_pI w hF tx0 (by decide) (fun h w hF => ?_)
  refine sm_pI w hF tx0 (by decide) (fun h w hF => ?_)
  exact sm_rt w
theorem sm_X4_begin {x0 : Nat} {h : sv_H} (g : vt_G h) (tx0 : sv_K h x0 = 5) : vt_sm h (fn_X4_begin x0 h) (ab_X4_begin x0 (vt_ab h)) := sm_X4_begin_0 ⟨g, vt_ko.refl h⟩ tx0

theorem sm_X4_blame_17 {h0 : sv_H} {h : sv_H} (w : vt_W h0 h) : vt_sm h0 (fn_X4_blame_17 h) (ab_X4_blame_17 (vt_ab h)) := by
  unfold fn_X4_blame_17 ab_X4_blame_17
  obtain ⟨F, hF⟩ : ∃ F, sv_FP h = F := ⟨_, rfl⟩
  exact sm_rt w
theorem sm_X4_blame_0 {h0 : sv_H} {x0 : Nat} {x1 : Int32} {x2 : Int32} {h : sv_H} (w : vt_W h0 h) (tx0 : sv_K h0 x0 = 5) : vt_sm h0 (fn_X4_blame x0 x1 x2 h) (ab_X4_blame x0 x1 x2 (vt_ab h)) := by
  unfold fn_X4_blame ab_X4_blame
  obtain ⟨F, hF⟩ : ∃ F, sv_FP h = F := ⟨_, rfl⟩
  refine sm_kd w tx0 (by decide) ?_
  refine sm_gI w tx0 (by decide) (fun v1 => ?_)
  refine sm_if (fun _ => ?_) (fun _ => ?_)
  · refine sm_pI w hF tx0 (by decide) (fun h w hF => ?_)
    refine sm_pI w hF tx0 (by decide) (fun h w hF => ?_)
    exact sm_X4_blame_17 w
  · exact sm_X4_blame_17 w
theorem sm_X4_blame {x0 : Nat} {x1 : Int32} {x2 : Int32} {h : sv_H} (g : vt_G h) (tx0 : sv_K h x0 = 5) : vt_sm h (fn_X4_blame x0 x1 x2 h) (ab_X4_blame x0 x1 x2 (vt_ab h)) := sm_X4_blame_0 ⟨g, vt_ko.refl h⟩ tx0

theorem sm_X4_one_0 {h0 : sv_H} {x0 : Nat} {h : sv_H} (w : vt_W h0 h) (tx0 : sv_K h0 x0 = 5) : vt_sm h0 (fn_X4_one x0 h) (ab_X4_one x0 (vt_ab h)) := by
  unfold fn_X4_one ab_X4_one
  obtain ⟨F, hF⟩ : ∃ F, sv_FP h = F := ⟨_, rfl⟩
  refine sm_kd w tx0 (by decide) ?_
  refine sm_gI w tx0 (by decide) (fun v1 => ?_)
  refine sm_if (fun _ => ?_) (fun _ => ?_)
  · refine sm_gI w tx0 (by decide) (fun v2 => ?_)
    refine sm_gP w tx0 tk_500 rfl (fun v3 tv3 => ?_)
    refine sm_gI w tv3 (by decide) (fun v4 => ?_)
    refine sm_if (fun _ => ?_) (fun _ => ?_)
    · refine sm_gP w tx0 tk_500 rfl (fun v5 tv5 => ?_)
      refine sm_gA w hF tv5 tk_100 (by decide) (fun v6 av6 => ?_)
      refine sm_gI w tx0 (by decide) (fun v7 => ?_)
      refine sm_lI w hF tv5 av6 tk_100 (fun _ => ?_)
      refine sm_gI w tx0 (by decide) (fun v9 => ?_)
      refine sm_pI w hF tx0 (by decide) (fun h w hF => ?_)
      exact sm_rt w
    · refine sm_gP w tx0 tk_500 rfl (fun v11 tv11 => ?_)
      refine sm_gI w tv11 (by decide) (fun v12 => ?_)
      refine sm_cl w (sm_X4_blame w.1 (w.k tx0 (by decide))) (fun _ h2 e w2 => ?_)
      have hF2 : sv_FP h2 = F := (ow_X4_blame sv_clT trivial e).2.1.1.trans hF
      clear e w hF
      have hF := hF2
      have w := w2
      clear hF2 w2
      exact sm_rt w
  · exact sm_rt w
theorem sm_X4_one {x0 : Nat} {h : sv_H} (g : vt_G h) (tx0 : sv_K h x0 = 5) : vt_sm h (fn_X4_one x0 h) (ab_X4_one x0 (vt_ab h)) := sm_X4_one_0 ⟨g, vt_ko.refl h⟩ tx0

theorem sm_X4_expect_19 {h0 : sv_H} {h : sv_H} (w : vt_W h0 h) : vt_sm h0 (fn_X4_expect_19 h) (ab_X4_expect_19 (vt_ab h)) := by
  unfold fn_X4_expect_19 ab_X4_expect_19
  obtain ⟨F, hF⟩ : ∃ F, sv_FP h = F := ⟨_, rfl⟩
  exact sm_rt w
theorem sm_X4_expect_0 {h0 : sv_H} {x0 : Nat} {x1 : Int32} {x2 : Int32} {h : sv_H} (w : vt_W h0 h) (tx0 : sv_K h0 x0 = 5) : vt_sm h0 (fn_X4_expect x0 x1 x2 h) (ab_X4_expect x0 x1 x2 (vt_ab h)) := by
  unfold fn_X4_expect ab_X4_expect
  obtain ⟨F, hF⟩ : ∃ F, sv_FP h = F := ⟨_, rfl⟩
  refine sm_kd w tx0 (by decide) ?_
  refine sm_gI w tx0 (by decide) (fun v1 => ?_)
  refine sm_cl w (sm_X4_one w.1 (w.k tx0 (by decide))) (fun r2 h2 e w2 => ?_)
  have hF2 : sv_FP h2 = F := (ow_X4_one sv_clT trivial e).2.1.1.trans hF
  clear e w hF
  have hF := hF2
  have w := w2
  clear hF2 w2
  refine sm_if (fun _ => ?_) (fun _ => ?_)
  · exact sm_X4_expect_19 w
  · refine sm_cl w (sm_X4_blame w.1 (w.k tx0 (by decide))) (fun _ h2 e w2 => ?_)
    have hF2 : sv_FP h2 = F := (ow_X4_blame sv_clT trivial e).2.1.1.trans hF
    clear e w hF
    have hF := hF2
    have w := w2
    clear hF2 w2
    exact sm_X4_expect_19 w
theorem sm_X4_expect {x0 : Nat} {x1 : Int32} {x2 : Int32} {h : sv_H} (g : vt_G h) (tx0 : sv_K h x0 = 5) : vt_sm h (fn_X4_expect x0 x1 x2 h) (ab_X4_expect x0 x1 x2 (vt_ab h)) := sm_X4_expect_0 ⟨g, vt_ko.refl h⟩ tx0

theorem sm_X4_bounded_29 {h0 : sv_H} {s0 : Int32} {h : sv_H} (w : vt_W h0 h) : vt_sm h0 (fn_X4_bounded_29 s0 h) (ab_X4_bounded_29 s0 (vt_ab h)) := by
  unfold fn_X4_bounded_29 ab_X4_bounded_29
  obtain ⟨F, hF⟩ : ∃ F, sv_FP h = F := ⟨_, rfl⟩
  exact sm_rt w
theorem sm_X4_bounded_17 {h0 : sv_H} {x0 : Nat} {x1 : Int32} {x2 : Int32} {h : sv_H} (w : vt_W h0 h) (tx0 : sv_K h0 x0 = 5) : vt_sm h0 (fn_X4_bounded_17 x0 x1 x2 h) (ab_X4_bounded_17 x0 x1 x2 (vt_ab h)) := by
  unfold fn_X4_bounded_17 ab_X4_bounded_17
  obtain ⟨F, hF⟩ : ∃ F, sv_FP h = F := ⟨_, rfl⟩
  refine sm_gI w tx0 (by decide) (fun v1 => ?_)
  refine sm_if (fun _ => ?_) (fun _ => ?_)
  · exact sm_X4_bounded_29 w
  · exact sm_X4_bounded_29 w
theorem sm_X4_bounded_10 {h0 : sv_H} {x0 : Nat} {x1 : Int32} {x2 : Int32} {x4 : Int32} {h : sv_H} (w : vt_W h0 h) (tx0 : sv_K h0 x0 = 5) : vt_sm h0 (fn_X4_bounded_10 x0 x1 x2 x4 h) (ab_X4_bounded_10 x0 x1 x2 x4 (vt_ab h)) := by
  unfold fn_X4_bounded_10 ab_X4_bounded_10
  obtain ⟨F, hF⟩ : ∃ F, sv_FP h = F := ⟨_, rfl⟩
  refine sm_cl w (sm_X4_blame w.1 (w.k tx0 (by decide))) (fun _ h2 e w2 => ?_)
  have hF2 : sv_FP h2 = F := (ow_X4_blame sv_clT trivial e).2.1.1.trans hF
  clear e w hF
  have hF := hF2
  have w := w2
  clear hF2 w2
  exact sm_X4_bounded_17 w tx0
theorem sm_X4_bounded_0 {h0 : sv_H} {x0 : Nat} {x1 : Int32} {x2 : Int32} {x3 : Int32} {x4 : Int32} {h : sv_H} (w : vt_W h0 h) (tx0 : sv_K h0 x0 = 5) : vt_sm h0 (fn_X4_bounded x0 x1 x2 x3 x4 h) (ab_X4_bounded x0 x1 x2 x3 x4 (vt_ab h)) := by
  unfold fn_X4_bounded ab_X4_bounded
  obtain ⟨F, hF⟩ : ∃ F, sv_FP h = F := ⟨_, rfl⟩
  refine sm_kd w tx0 (by decide) ?_
  refine sm_if (fun _ => ?_) (fun _ => ?_)
  · exact sm_X4_bounded_10 w tx0
  · refine sm_if (fun _ => ?_) (fun _ => ?_)
    · exact sm_X4_bounded_17 w tx0
    · exact sm_X4_bounded_10 w tx0
theorem sm_X4_bounded {x0 : Nat} {x1 : Int32} {x2 : Int32} {x3 : Int32} {x4 : Int32} {h : sv_H} (g : vt_G h) (tx0 : sv_K h x0 = 5) : vt_sm h (fn_X4_bounded x0 x1 x2 x3 x4 h) (ab_X4_bounded x0 x1 x2 x3 x4 (vt_ab h)) := sm_X4_bounded_0 ⟨g, vt_ko.refl h⟩ tx0

theorem sm_X4_within_0 {h0 : sv_H} {x0 : Nat} {x1 : Int32} {x2 : Int32} {h : sv_H} (w : vt_W h0 h) (tx0 : sv_K h0 x0 = 5) : vt_sm h0 (fn_X4_within x0 x1 x2 h) (ab_X4_within x0 x1 x2 (vt_ab h)) := by
  unfold fn_X4_within ab_X4_within
  obtain ⟨F, hF⟩ : ∃ F, sv_FP h = F := ⟨_, rfl⟩
  refine sm_kd w tx0 (by decide) ?_
  refine sm_gI w tx0 (by decide) (fun v1 => ?_)
  refine sm_cl w (sm_X4_one w.1 (w.k tx0 (by decide))) (fun r2 h2 e w2 => ?_)
  have hF2 : sv_FP h2 = F := (ow_X4_one sv_clT trivial e).2.1.1.trans hF
  clear e w hF
  have hF := hF2
  have w := w2
  clear hF2 w2
  refine sm_cl w (sm_X4_bounded w.1 (w.k tx0 (by decide))) (fun r4 h2 e w2 => ?_)
  have hF2 : sv_FP h2 = F := (ow_X4_bounded sv_clT trivial e).2.1.1.trans hF
  clear e w hF
  have hF := hF2
  have w := w2
  clear hF2 w2
  exact sm_rt w
theorem sm_X4_within {x0 : Nat} {x1 : Int32} {x2 : Int32} {h : sv_H} (g : vt_G h) (tx0 : sv_K h x0 = 5) : vt_sm h (fn_X4_within x0 x1 x2 h) (ab_X4_within x0 x1 x2 (vt_ab h)) := sm_X4_within_0 ⟨g, vt_ko.refl h⟩ tx0

theorem sm_X4_well_12 {h0 : sv_H} {s0 : Int32} {h : sv_H} (w : vt_W h0 h) : vt_sm h0 (fn_X4_well_12 s0 h) (ab_X4_well_12 s0 (vt_ab h)) := by
  unfold fn_X4_well_12 ab_X4_well_12
  obtain ⟨F, hF⟩ : ∃ F, sv_FP h = F := ⟨_, rfl⟩
  exact sm_rz w
theorem sm_X4_well_0 {h0 : sv_H} {x0 : Nat} {h : sv_H} (w : vt_W h0 h) (tx0 : sv_K h0 x0 = 5) : vt_sm h0 (fn_X4_well x0 h) (ab_X4_well x0 (vt_ab h)) := by
  unfold fn_X4_well ab_X4_well
  obtain ⟨F, hF⟩ : ∃ F, sv_FP h = F := ⟨_, rfl⟩
  refine sm_kd w tx0 (by decide) ?_
  refine sm_gI w tx0 (by decide) (fun v1 => ?_)
  refine sm_if (fun _ => ?_) (fun _ => ?_)
  · exact sm_X4_well_12 w
  · exact sm_X4_well_12 w
theorem sm_X4_well {x0 : Nat} {h : sv_H} (g : vt_G h) (tx0 : sv_K h x0 = 5) : vt_sm h (fn_X4_well x0 h) (ab_X4_well x0 (vt_ab h)) := sm_X4_well_0 ⟨g, vt_ko.refl h⟩ tx0

theorem sm_X4_pair_0 {h0 : sv_H} {x0 : Nat} {h : sv_H} (w : vt_W h0 h) (tx0 : sv_K h0 x0 = 5) : vt_sm h0 (fn_X4_pair x0 h) (ab_X4_pair x0 (vt_ab h)) := by
  unfold fn_X4_pair ab_X4_pair
  obtain ⟨F, hF⟩ : ∃ F, sv_FP h = F := ⟨_, rfl⟩
  refine sm_kd w tx0 (by decide) ?_
  refine sm_cl w (sm_X4_one w.1 (w.k tx0 (by decide))) (fun r1 h2 e w2 => ?_)
  have hF2 : sv_FP h2 = F := (ow_X4_one sv_clT trivial e).2.1.1.trans hF
  clear e w hF
  have hF := hF2
  have w := w2
  clear hF2 w2
  refine sm_cl w (sm_X4_one w.1 (w.k tx0 (by decide))) (fun r3 h2 e w2 => ?_)
  have hF2 : sv_FP h2 = F := (ow_X4_one sv_clT trivial e).2.1.1.trans hF
  clear e w hF
  have hF := hF2
  have w := w2
  clear hF2 w2
  exact sm_rt w
theorem sm_X4_pair {x0 : Nat} {h : sv_H} (g : vt_G h) (tx0 : sv_K h x0 = 5) : vt_sm h (fn_X4_pair x0 h) (ab_X4_pair x0 (vt_ab h)) := sm_X4_pair_0 ⟨g, vt_ko.refl h⟩ tx0

theorem sm_X2_readVertex_56 {h0 : sv_H} {k20 : Nat → Nat → Int32 → Int32 → Int32 → Int32 → Int32 → sv_H → Option (Unit × sv_H)} {j20 : Nat → Nat → Int32 → Int32 → Int32 → Int32 → Int32 → vt_S → Option (Unit × vt_S)} (hk20 : ∀ {x0 : Nat} {x1 : Nat} {x2 : Int32} {x3 : Int32} {x4 : Int32} {x5 : Int32} {x6 : Int32} {h : sv_H}, vt_W h0 h → sv_K h0 x0 = 3 → sv_K h0 x1 = 5 → vt_sm h0 (k20 x0 x1 x2 x3 x4 x5 x6 h) (j20 x0 x1 x2 x3 x4 x5 x6 (vt_ab h))) {x0 : Nat} {x1 : Nat} {x2 : Int32} {x3 : Int32} {x4 : Int32} {x5 : Int32} {x6 : Int32} {h : sv_H} (w : vt_W h0 h) (tx0 : sv_K h0 x0 = 3) (tx1 : sv_K h0 x1 = 5) : vt_sm h0 (fn_X2_readVertex_56 k20 x0 x1 x2 x3 x4 x5 x6 h) (ab_X2_readVertex_56 j20 x0 x1 x2 x3 x4 x5 x6 (vt_ab h)) := by
  unfold fn_X2_readVertex_56 ab_X2_readVertex_56
  obtain ⟨F, hF⟩ : ∃ F, sv_FP h = F := ⟨_, rfl⟩
  exact hk20 w tx0 tx1
theorem sm_X2_readVertex_20b {h0 : sv_H} {k20 : Nat → Nat → Int32 → Int32 → Int32 → Int32 → Int32 → sv_H → Option (Unit × sv_H)} {j20 : Nat → Nat → Int32 → Int32 → Int32 → Int32 → Int32 → vt_S → Option (Unit × vt_S)} (hk20 : ∀ {x0 : Nat} {x1 : Nat} {x2 : Int32} {x3 : Int32} {x4 : Int32} {x5 : Int32} {x6 : Int32} {h : sv_H}, vt_W h0 h → sv_K h0 x0 = 3 → sv_K h0 x1 = 5 → vt_sm h0 (k20 x0 x1 x2 x3 x4 x5 x6 h) (j20 x0 x1 x2 x3 x4 x5 x6 (vt_ab h))) {x0 : Nat} {x1 : Nat} {x2 : Int32} {x3 : Int32} {x4 : Int32} {x5 : Int32} {x6 : Int32} {h : sv_H} (w : vt_W h0 h) (tx0 : sv_K h0 x0 = 3) (tx1 : sv_K h0 x1 = 5) : vt_sm h0 (fn_X2_readVertex_20b k20 x0 x1 x2 x3 x4 x5 x6 h) (ab_X2_readVertex_20b j20 x0 x1 x2 x3 x4 x5 x6 (vt_ab h)) := by
  unfold fn_X2_readVertex_20b ab_X2_readVertex_20b
  obtain ⟨F, hF⟩ : ∃ F, sv_FP h = F := ⟨_, rfl⟩
  refine sm_if (fun _ => ?_) (fun _ => ?_)
  · refine sm_gA w hF tx0 tk_302 (by decide) (fun v1 av1 => ?_)
    refine sm_sI w hF tx0 av1 tk_302 (fun h w hF => ?_)
    refine sm_gA w hF tx0 tk_303 (by decide) (fun v3 av3 => ?_)
    refine sm_sI w hF tx0 av3 tk_303 (fun h w hF => ?_)
    exact sm_rt w
  · refine sm_gA w hF tx0 tk_302 (by decide) (fun v5 av5 => ?_)
    refine sm_lI w hF tx0 av5 tk_302 (fun _ => ?_)
    refine sm_if (fun _ => ?_) (fun _ => ?_)
    · refine sm_gA w hF tx0 tk_303 (by decide) (fun v7 av7 => ?_)
      refine sm_lI w hF tx0 av7 tk_303 (fun _ => ?_)
      refine sm_if (fun _ => ?_) (fun _ => ?_)
      · refine sm_cl w (sm_X4_blame w.1 (w.k tx1 (by decide))) (fun _ h2 e w2 => ?_)
        have hF2 : sv_FP h2 = F := (ow_X4_blame sv_clT trivial e).2.1.1.trans hF
        clear e w hF
        have hF := hF2
        have w := w2
        clear hF2 w2
        exact sm_X2_readVertex_56 (k20 := k20) (j20 := j20) hk20 w tx0 tx1
      · exact sm_X2_readVertex_56 (k20 := k20) (j20 := j20) hk20 w tx0 tx1
    · exact sm_X2_readVertex_56 (k20 := k20) (j20 := j20) hk20 w tx0 tx1
theorem sm_X2_readVertex_20 {h0 : sv_H} : ∀ (n : Nat) {x0 : Nat} {x1 : Nat} {x2 : Int32} {x3 : Int32} {x4 : Int32} {x5 : Int32} {x6 : Int32} {h : sv_H}, vt_W h0 h → sv_K h0 x0 = 3 → sv_K h0 x1 = 5 → vt_sm h0 (fn_X2_readVertex_20 n x0 x1 x2 x3 x4 x5 x6 h) (ab_X2_readVertex_20 n x0 x1 x2 x3 x4 x5 x6 (vt_ab h)) := by
  intro n
  induction n with
  | zero => intro x0 x1 x2 x3 x4 x5 x6 h w tx0 tx1; exact sm_no
  | succ n ih => intro x0 x1 x2 x3 x4 x5 x6 h w tx0 tx1; exact sm_X2_readVertex_20b (k20 := fn_X2_readVertex_20 n) (j20 := ab_X2_readVertex_20 n) (fun w tx0 tx1 => ih w tx0 tx1) w tx0 tx1
theorem sm_X2_readVertex_0 {h0 : sv_H} {x0 : Nat} {x1 : Nat} {x2 : Int32} {h : sv_H} (w : vt_W h0 h) (tx0 : sv_K h0 x0 = 3) (tx1 : sv_K h0 x1 = 5) : vt_sm h0 (fn_X2_readVertex x0 x1 x2 h) (ab_X2_readVertex x0 x1 x2 (vt_ab h)) := by
  unfold fn_X2_readVertex ab_X2_readVertex
  obtain ⟨F, hF⟩ : ∃ F, sv_FP h = F := ⟨_, rfl⟩
  refine sm_kd w tx0 (by decide) ?_
  refine sm_cl w (sm_X4_pair w.1 (w.k tx1 (by decide))) (fun r1 h2 e w2 => ?_)
  have hF2 : sv_FP h2 = F := (ow_X4_pair sv_clT trivial e).2.1.1.trans hF
  clear e w hF
  have hF := hF2
  have w := w2
  clear hF2 w2
  refine sm_gI w tx1 (by decide) (fun v3 => ?_)
  refine sm_cl w (sm_X4_pair w.1 (w.k tx1 (by decide))) (fun r4 h2 e w2 => ?_)
  have hF2 : sv_FP h2 = F := (ow_X4_pair sv_clT trivial e).2.1.1.trans hF
  clear e w hF
  have hF := hF2
  have w := w2
  clear hF2 w2
  exact sm_X2_readVertex_20 sv_fuel w tx0 tx1
theorem sm_X2_readVertex {x0 : Nat} {x1 : Nat} {x2 : Int32} {h : sv_H} (g : vt_G h) (tx0 : sv_K h x0 = 3) (tx1 : sv_K h x1 = 5) : vt_sm h (fn_X2_readVertex x0 x1 x2 h) (ab_X2_readVertex x0 x1 x2 (vt_ab h)) := sm_X2_readVertex_0 ⟨g, vt_ko.refl h⟩ tx0 tx1

theorem sm_X2_readTexture_78 {h0 : sv_H} {h : sv_H} (w : vt_W h0 h) : vt_sm h0 (fn_X2_readTexture_78 h) (ab_X2_readTexture_78 (vt_ab h)) := by
  unfold fn_X2_readTexture_78 ab_X2_readTexture_78
  obtain ⟨F, hF⟩ : ∃ F, sv_FP h = F := ⟨_, rfl⟩
  exact sm_rt w
theorem sm_X2_readTexture_40b {h0 : sv_H} {k40 : Nat → Nat → Int32 → Int32 → sv_H → Option (Unit × sv_H)} {j40 : Nat → Nat → Int32 → Int32 → vt_S → Option (Unit × vt_S)} (hk40 : ∀ {x0 : Nat} {x1 : Nat} {x2 : Int32} {x3 : Int32} {h : sv_H}, vt_W h0 h → sv_K h0 x0 = 3 → sv_K h0 x1 = 5 → vt_sm h0 (k40 x0 x1 x2 x3 h) (j40 x0 x1 x2 x3 (vt_ab h))) {x0 : Nat} {x1 : Nat} {x2 : Int32} {x3 : Int32} {h : sv_H} (w : vt_W h0 h) (tx0 : sv_K h0 x0 = 3) (tx1 : sv_K h0 x1 = 5) : vt_sm h0 (fn_X2_readTexture_40b k40 x0 x1 x2 x3 h) (ab_X2_readTexture_40b j40 x0 x1 x2 x3 (vt_ab h)) := by
  unfold fn_X2_readTexture_40b ab_X2_readTexture_40b
  obtain ⟨F, hF⟩ : ∃ F, sv_FP h = F := ⟨_, rfl⟩
  refine sm_gA w hF tx0 tk_304 (by decide) (fun v1 av1 => ?_)
  refine sm_lI w hF tx0 av1 tk_304 (fun _ => ?_)
  refine sm_gA w hF tx0 tk_305 (by decide) (fun v3 av3 => ?_)
  refine sm_lI w hF tx0 av3 tk_305 (fun _ => ?_)
  refine sm_if (fun _ => ?_) (fun _ => ?_)
  · exact sm_X2_readTexture_78 w
  · refine sm_cl w (sm_X4_well w.1 (w.k tx1 (by decide))) (fun r5 h2 e w2 => ?_)
    have hF2 : sv_FP h2 = F := by rw [ro_X4_well e]; exact hF
    clear e w hF
    have hF := hF2
    have w := w2
    clear hF2 w2
    refine sm_if (fun _ => ?_) (fun _ => ?_)
    · exact sm_X2_readTexture_78 w
    · refine sm_cl w (sm_X4_within w.1 (w.k tx1 (by decide))) (fun r7 h2 e w2 => ?_)
      have hF2 : sv_FP h2 = F := (ow_X4_within sv_clT trivial e).2.1.1.trans hF
      clear e w hF
      have hF := hF2
      have w := w2
      clear hF2 w2
      exact hk40 w tx0 tx1
theorem sm_X2_readTexture_40 {h0 : sv_H} : ∀ (n : Nat) {x0 : Nat} {x1 : Nat} {x2 : Int32} {x3 : Int32} {h : sv_H}, vt_W h0 h → sv_K h0 x0 = 3 → sv_K h0 x1 = 5 → vt_sm h0 (fn_X2_readTexture_40 n x0 x1 x2 x3 h) (ab_X2_readTexture_40 n x0 x1 x2 x3 (vt_ab h)) := by
  intro n
  induction n with
  | zero => intro x0 x1 x2 x3 h w tx0 tx1; exact sm_no
  | succ n ih => intro x0 x1 x2 x3 h w tx0 tx1; exact sm_X2_readTexture_40b (k40 := fn_X2_readTexture_40 n) (j40 := ab_X2_readTexture_40 n) (fun w tx0 tx1 => ih w tx0 tx1) w tx0 tx1
theorem sm_X2_readTexture_0 {h0 : sv_H} {x0 : Nat} {x1 : Nat} {x2 : Int32} {h : sv_H} (w : vt_W h0 h) (tx0 : sv_K h0 x0 = 3) (tx1 : sv_K h0 x1 = 5) : vt_sm h0 (fn_X2_readTexture x0 x1 x2 h) (ab_X2_readTexture x0 x1 x2 (vt_ab h)) := by
  unfold fn_X2_readTexture ab_X2_readTexture
  obtain ⟨F, hF⟩ : ∃ F, sv_FP h = F := ⟨_, rfl⟩
  refine sm_kd w tx0 (by decide) ?_
  refine sm_gA w hF tx0 tk_304 (by decide) (fun v1 av1 => ?_)
  refine sm_cl w (sm_X4_within w.1 (w.k tx1 (by decide))) (fun r2 h2 e w2 => ?_)
  have hF2 : sv_FP h2 = F := (ow_X4_within sv_clT trivial e).2.1.1.trans hF
  clear e w hF
  have hF := hF2
  have w := w2
  clear hF2 w2
  refine sm_sI w hF tx0 av1 tk_304 (fun h w hF => ?_)
  refine sm_gA w hF tx0 tk_305 (by decide) (fun v5 av5 => ?_)
  refine sm_cl w (sm_X4_within w.1 (w.k tx1 (by decide))) (fun r6 h2 e w2 => ?_)
  have hF2 : sv_FP h2 = F := (ow_X4_within sv_clT trivial e).2.1.1.trans hF
  clear e w hF
  have hF := hF2
  have w := w2
  clear hF2 w2
  refine sm_sI w hF tx0 av5 tk_305 (fun h w hF => ?_)
  refine sm_gA w hF tx0 tk_306 (by decide) (fun v9 av9 => ?_)
  refine sm_gI w tx1 (by decide) (fun v10 => ?_)
  refine sm_sI w hF tx0 av9 tk_306 (fun h w hF => ?_)
  exact sm_X2_readTexture_40 sv_fuel w tx0 tx1
theorem sm_X2_readTexture {x0 : Nat} {x1 : Nat} {x2 : Int32} {h : sv_H} (g : vt_G h) (tx0 : sv_K h x0 = 3) (tx1 : sv_K h x1 = 5) : vt_sm h (fn_X2_readTexture x0 x1 x2 h) (ab_X2_readTexture x0 x1 x2 (vt_ab h)) := sm_X2_readTexture_0 ⟨g, vt_ko.refl h⟩ tx0 tx1

theorem sm_X4_pairWithin_0 {h0 : sv_H} {x0 : Nat} {x1 : Int32} {x2 : Int32} {h : sv_H} (w : vt_W h0 h) (tx0 : sv_K h0 x0 = 5) : vt_sm h0 (fn_X4_pairWithin x0 x1 x2 h) (ab_X4_pairWithin x0 x1 x2 (vt_ab h)) := by
  unfold fn_X4_pairWithin ab_X4_pairWithin
  obtain ⟨F, hF⟩ : ∃ F, sv_FP h = F := ⟨_, rfl⟩
  refine sm_kd w tx0 (by decide) ?_
  refine sm_gI w tx0 (by decide) (fun v1 => ?_)
  refine sm_cl w (sm_X4_pair w.1 (w.k tx0 (by decide))) (fun r2 h2 e w2 => ?_)
  have hF2 : sv_FP h2 = F := (ow_X4_pair sv_clT trivial e).2.1.1.trans hF
  clear e w hF
  have hF := hF2
  have w := w2
  clear hF2 w2
  refine sm_cl w (sm_X4_bounded w.1 (w.k tx0 (by decide))) (fun r4 h2 e w2 => ?_)
  have hF2 : sv_FP h2 = F := (ow_X4_bounded sv_clT trivial e).2.1.1.trans hF
  clear e w hF
  have hF := hF2
  have w := w2
  clear hF2 w2
  exact sm_rt w
theorem sm_X4_pairWithin {x0 : Nat} {x1 : Int32} {x2 : Int32} {h : sv_H} (g : vt_G h) (tx0 : sv_K h x0 = 5) : vt_sm h (fn_X4_pairWithin x0 x1 x2 h) (ab_X4_pairWithin x0 x1 x2 (vt_ab h)) := sm_X4_pairWithin_0 ⟨g, vt_ko.refl h⟩ tx0

theorem sm_X4_numberOrNone_0 {h0 : sv_H} {x0 : Nat} {x1 : Int32} {h : sv_H} (w : vt_W h0 h) (tx0 : sv_K h0 x0 = 5) : vt_sm h0 (fn_X4_numberOrNone x0 x1 h) (ab_X4_numberOrNone x0 x1 (vt_ab h)) := by
  unfold fn_X4_numberOrNone ab_X4_numberOrNone
  obtain ⟨F, hF⟩ : ∃ F, sv_FP h = F := ⟨_, rfl⟩
  refine sm_kd w tx0 (by decide) ?_
  refine sm_gI w tx0 (by decide) (fun v1 => ?_)
  refine sm_cl w (sm_X4_one w.1 (w.k tx0 (by decide))) (fun r2 h2 e w2 => ?_)
  have hF2 : sv_FP h2 = F := (ow_X4_one sv_clT trivial e).2.1.1.trans hF
  clear e w hF
  have hF := hF2
  have w := w2
  clear hF2 w2
  refine sm_if (fun _ => ?_) (fun _ => ?_)
  · exact sm_rt w
  · refine sm_cl w (sm_X4_bounded w.1 (w.k tx0 (by decide))) (fun r4 h2 e w2 => ?_)
    have hF2 : sv_FP h2 = F := (ow_X4_bounded sv_clT trivial e).2.1.1.trans hF
    clear e w hF
    have hF := hF2
    have w := w2
    clear hF2 w2
    exact sm_rt w
theorem sm_X4_numberOrNone {x0 : Nat} {x1 : Int32} {h : sv_H} (g : vt_G h) (tx0 : sv_K h x0 = 5) : vt_sm h (fn_X4_numberOrNone x0 x1 h) (ab_X4_numberOrNone x0 x1 (vt_ab h)) := sm_X4_numberOrNone_0 ⟨g, vt_ko.refl h⟩ tx0

theorem sm_X2_readSector_50 {h0 : sv_H} {x0 : Nat} {x1 : Nat} {x2 : Nat} {h : sv_H} (w : vt_W h0 h) (tx0 : sv_K h0 x0 = 3) (tx1 : sv_K h0 x1 = 5) (tx2 : sv_K h0 x2 = 7) : vt_sm h0 (fn_X2_readSector_50 x0 x1 x2 h) (ab_X2_readSector_50 x0 x1 x2 (vt_ab h)) := by
  unfold fn_X2_readSector_50 ab_X2_readSector_50
  obtain ⟨F, hF⟩ : ∃ F, sv_FP h = F := ⟨_, rfl⟩
  refine sm_gI w tx0 (by decide) (fun v1 => ?_)
  refine sm_cl w (sm_X4_within w.1 (w.k tx1 (by decide))) (fun r2 h2 e w2 => ?_)
  have hF2 : sv_FP h2 = F := (ow_X4_within sv_clT trivial e).2.1.1.trans hF
  clear e w hF
  have hF := hF2
  have w := w2
  clear hF2 w2
  refine sm_pI w hF tx2 (by decide) (fun h w hF => ?_)
  refine sm_gI w tx0 (by decide) (fun v5 => ?_)
  refine sm_cl w (sm_X4_numberOrNone w.1 (w.k tx1 (by decide))) (fun r6 h2 e w2 => ?_)
  have hF2 : sv_FP h2 = F := (ow_X4_numberOrNone sv_clT trivial e).2.1.1.trans hF
  clear e w hF
  have hF := hF2
  have w := w2
  clear hF2 w2
  refine sm_pI w hF tx2 (by decide) (fun h w hF => ?_)
  refine sm_cl w (sm_X4_within w.1 (w.k tx1 (by decide))) (fun r9 h2 e w2 => ?_)
  have hF2 : sv_FP h2 = F := (ow_X4_within sv_clT trivial e).2.1.1.trans hF
  clear e w hF
  have hF := hF2
  have w := w2
  clear hF2 w2
  refine sm_pI w hF tx2 (by decide) (fun h w hF => ?_)
  refine sm_cl w (sm_X4_within w.1 (w.k tx1 (by decide))) (fun r12 h2 e w2 => ?_)
  have hF2 : sv_FP h2 = F := (ow_X4_within sv_clT trivial e).2.1.1.trans hF
  clear e w hF
  have hF := hF2
  have w := w2
  clear hF2 w2
  refine sm_pI w hF tx2 (by decide) (fun h w hF => ?_)
  refine sm_cl w (sm_X4_one w.1 (w.k tx1 (by decide))) (fun r15 h2 e w2 => ?_)
  have hF2 : sv_FP h2 = F := (ow_X4_one sv_clT trivial e).2.1.1.trans hF
  clear e w hF
  have hF := hF2
  have w := w2
  clear hF2 w2
  refine sm_pI w hF tx2 (by decide) (fun h w hF => ?_)
  exact sm_rt w
theorem sm_X2_readSector_0 {h0 : sv_H} {x0 : Nat} {x1 : Nat} {x2 : Nat} {h : sv_H} (w : vt_W h0 h) (tx0 : sv_K h0 x0 = 3) (tx1 : sv_K h0 x1 = 5) (tx2 : sv_K h0 x2 = 7) : vt_sm h0 (fn_X2_readSector x0 x1 x2 h) (ab_X2_readSector x0 x1 x2 (vt_ab h)) := by
  unfold fn_X2_readSector ab_X2_readSector
  obtain ⟨F, hF⟩ : ∃ F, sv_FP h = F := ⟨_, rfl⟩
  refine sm_kd w tx0 (by decide) ?_
  refine sm_cl w (sm_X4_pairWithin w.1 (w.k tx1 (by decide))) (fun r1 h2 e w2 => ?_)
  have hF2 : sv_FP h2 = F := (ow_X4_pairWithin sv_clT trivial e).2.1.1.trans hF
  clear e w hF
  have hF := hF2
  have w := w2
  clear hF2 w2
  refine sm_pI w hF tx2 (by decide) (fun h w hF => ?_)
  refine sm_gI w tx1 (by decide) (fun v4 => ?_)
  refine sm_cl w (sm_X4_pairWithin w.1 (w.k tx1 (by decide))) (fun r5 h2 e w2 => ?_)
  have hF2 : sv_FP h2 = F := (ow_X4_pairWithin sv_clT trivial e).2.1.1.trans hF
  clear e w hF
  have hF := hF2
  have w := w2
  clear hF2 w2
  refine sm_pI w hF tx2 (by decide) (fun h w hF => ?_)
  refine sm_gI w tx2 (by decide) (fun v8 => ?_)
  refine sm_gI w tx2 (by decide) (fun v9 => ?_)
  refine sm_if (fun _ => ?_) (fun _ => ?_)
  · exact sm_X2_readSector_50 w tx0 tx1 tx2
  · refine sm_cl w (sm_X4_blame w.1 (w.k tx1 (by decide))) (fun _ h2 e w2 => ?_)
    have hF2 : sv_FP h2 = F := (ow_X4_blame sv_clT trivial e).2.1.1.trans hF
    clear e w hF
    have hF := hF2
    have w := w2
    clear hF2 w2
    exact sm_X2_readSector_50 w tx0 tx1 tx2
theorem sm_X2_readSector {x0 : Nat} {x1 : Nat} {x2 : Nat} {h : sv_H} (g : vt_G h) (tx0 : sv_K h x0 = 3) (tx1 : sv_K h x1 = 5) (tx2 : sv_K h x2 = 7) : vt_sm h (fn_X2_readSector x0 x1 x2 h) (ab_X2_readSector x0 x1 x2 (vt_ab h)) := sm_X2_readSector_0 ⟨g, vt_ko.refl h⟩ tx0 tx1 tx2

theorem sm_X2_readWall_164 {h0 : sv_H} {k116 : Nat → Nat → Nat → Int32 → sv_H → Option (Unit × sv_H)} {j116 : Nat → Nat → Nat → Int32 → vt_S → Option (Unit × vt_S)} (hk116 : ∀ {x0 : Nat} {x1 : Nat} {x2 : Nat} {x6 : Int32} {h : sv_H}, vt_W h0 h → sv_K h0 x0 = 3 → sv_K h0 x1 = 5 → sv_K h0 x2 = 12 → vt_sm h0 (k116 x0 x1 x2 x6 h) (j116 x0 x1 x2 x6 (vt_ab h))) {x0 : Nat} {x1 : Nat} {x2 : Nat} {x6 : Int32} {s0 : Nat} {s0o : Nat} {s1 : Int32} {s2 : Nat} {s3 : Int32} {h : sv_H} (w : vt_W h0 h) (tx0 : sv_K h0 x0 = 3) (tx1 : sv_K h0 x1 = 5) (tx2 : sv_K h0 x2 = 12) (ts0 : sv_K h0 s0o = 12) (as0 : sv_FP h 1211 s0o = s0) (ts2 : sv_K h0 s2 = 5) : vt_sm h0 (fn_X2_readWall_164 k116 x0 x1 x2 x6 s0 s1 s2 s3 h) (ab_X2_readWall_164 j116 x0 x1 x2 x6 s0o s1 s2 s3 (vt_ab h)) := by
  unfold fn_X2_readWall_164 ab_X2_readWall_164
  obtain ⟨F, hF⟩ : ∃ F, sv_FP h = F := ⟨_, rfl⟩
  rw [hF] at as0
  refine sm_cl w (sm_X4_numberOrNone w.1 (w.k ts2 (by decide))) (fun r1 h2 e w2 => ?_)
  have hF2 : sv_FP h2 = F := (ow_X4_numberOrNone sv_clT trivial e).2.1.1.trans hF
  clear e w hF
  have hF := hF2
  have w := w2
  clear hF2 w2
  refine sm_sI w hF ts0 as0 tk_1211 (fun h w hF => ?_)
  exact hk116 w tx0 tx1 tx2
theorem sm_X2_readWall_142 {h0 : sv_H} {k116 : Nat → Nat → Nat → Int32 → sv_H → Option (Unit × sv_H)} {j116 : Nat → Nat → Nat → Int32 → vt_S → Option (Unit × vt_S)} (hk116 : ∀ {x0 : Nat} {x1 : Nat} {x2 : Nat} {x6 : Int32} {h : sv_H}, vt_W h0 h → sv_K h0 x0 = 3 → sv_K h0 x1 = 5 → sv_K h0 x2 = 12 → vt_sm h0 (k116 x0 x1 x2 x6 h) (j116 x0 x1 x2 x6 (vt_ab h))) {x0 : Nat} {x1 : Nat} {x2 : Nat} {x6 : Int32} {s0 : Int32} {h : sv_H} (w : vt_W h0 h) (tx0 : sv_K h0 x0 = 3) (tx1 : sv_K h0 x1 = 5) (tx2 : sv_K h0 x2 = 12) : vt_sm h0 (fn_X2_readWall_142 k116 x0 x1 x2 x6 s0 h) (ab_X2_readWall_142 j116 x0 x1 x2 x6 s0 (vt_ab h)) := by
  unfold fn_X2_readWall_142 ab_X2_readWall_142
  obtain ⟨F, hF⟩ : ∃ F, sv_FP h = F := ⟨_, rfl⟩
  refine sm_gA w hF tx2 tk_1211 (by decide) (fun v1 av1 => ?_)
  refine sm_if (fun _ => ?_) (fun _ => ?_)
  · exact sm_X2_readWall_164 (k116 := k116) (j116 := j116) hk116 w tx0 tx1 tx2 tx2 (by rw [hF]; exact av1) tx1
  · refine sm_gI w tx0 (by decide) (fun v2 => ?_)
    exact sm_X2_readWall_164 (k116 := k116) (j116 := j116) hk116 w tx0 tx1 tx2 tx2 (by rw [hF]; exact av1) tx1
theorem sm_X2_readWall_137 {h0 : sv_H} {k116 : Nat → Nat → Nat → Int32 → sv_H → Option (Unit × sv_H)} {j116 : Nat → Nat → Nat → Int32 → vt_S → Option (Unit × vt_S)} (hk116 : ∀ {x0 : Nat} {x1 : Nat} {x2 : Nat} {x6 : Int32} {h : sv_H}, vt_W h0 h → sv_K h0 x0 = 3 → sv_K h0 x1 = 5 → sv_K h0 x2 = 12 → vt_sm h0 (k116 x0 x1 x2 x6 h) (j116 x0 x1 x2 x6 (vt_ab h))) {x0 : Nat} {x1 : Nat} {x2 : Nat} {x6 : Int32} {h : sv_H} (w : vt_W h0 h) (tx0 : sv_K h0 x0 = 3) (tx1 : sv_K h0 x1 = 5) (tx2 : sv_K h0 x2 = 12) : vt_sm h0 (fn_X2_readWall_137 k116 x0 x1 x2 x6 h) (ab_X2_readWall_137 j116 x0 x1 x2 x6 (vt_ab h)) := by
  unfold fn_X2_readWall_137 ab_X2_readWall_137
  obtain ⟨F, hF⟩ : ∃ F, sv_FP h = F := ⟨_, rfl⟩
  exact sm_X2_readWall_142 (k116 := k116) (j116 := j116) hk116 w tx0 tx1 tx2
theorem sm_X2_readWall_116b {h0 : sv_H} {k116 : Nat → Nat → Nat → Int32 → sv_H → Option (Unit × sv_H)} {j116 : Nat → Nat → Nat → Int32 → vt_S → Option (Unit × vt_S)} (hk116 : ∀ {x0 : Nat} {x1 : Nat} {x2 : Nat} {x6 : Int32} {h : sv_H}, vt_W h0 h → sv_K h0 x0 = 3 → sv_K h0 x1 = 5 → sv_K h0 x2 = 12 → vt_sm h0 (k116 x0 x1 x2 x6 h) (j116 x0 x1 x2 x6 (vt_ab h))) {x0 : Nat} {x1 : Nat} {x2 : Nat} {x6 : Int32} {h : sv_H} (w : vt_W h0 h) (tx0 : sv_K h0 x0 = 3) (tx1 : sv_K h0 x1 = 5) (tx2 : sv_K h0 x2 = 12) : vt_sm h0 (fn_X2_readWall_116b k116 x0 x1 x2 x6 h) (ab_X2_readWall_116b j116 x0 x1 x2 x6 (vt_ab h)) := by
  unfold fn_X2_readWall_116b ab_X2_readWall_116b
  obtain ⟨F, hF⟩ : ∃ F, sv_FP h = F := ⟨_, rfl⟩
  refine sm_if (fun _ => ?_) (fun _ => ?_)
  · refine sm_cl w (sm_X4_one w.1 (w.k tx1 (by decide))) (fun r1 h2 e w2 => ?_)
    have hF2 : sv_FP h2 = F := (ow_X4_one sv_clT trivial e).2.1.1.trans hF
    clear e w hF
    have hF := hF2
    have w := w2
    clear hF2 w2
    refine sm_pI w hF tx2 (by decide) (fun h w hF => ?_)
    refine sm_pI w hF tx2 (by decide) (fun h w hF => ?_)
    refine sm_cl w (sm_X4_within w.1 (w.k tx1 (by decide))) (fun r5 h2 e w2 => ?_)
    have hF2 : sv_FP h2 = F := (ow_X4_within sv_clT trivial e).2.1.1.trans hF
    clear e w hF
    have hF := hF2
    have w := w2
    clear hF2 w2
    refine sm_pI w hF tx2 (by decide) (fun h w hF => ?_)
    refine sm_cl w (sm_X4_within w.1 (w.k tx1 (by decide))) (fun r8 h2 e w2 => ?_)
    have hF2 : sv_FP h2 = F := (ow_X4_within sv_clT trivial e).2.1.1.trans hF
    clear e w hF
    have hF := hF2
    have w := w2
    clear hF2 w2
    refine sm_pI w hF tx2 (by decide) (fun h w hF => ?_)
    refine sm_cl w (sm_X4_one w.1 (w.k tx1 (by decide))) (fun r11 h2 e w2 => ?_)
    have hF2 : sv_FP h2 = F := (ow_X4_one sv_clT trivial e).2.1.1.trans hF
    clear e w hF
    have hF := hF2
    have w := w2
    clear hF2 w2
    refine sm_pI w hF tx2 (by decide) (fun h w hF => ?_)
    exact sm_rt w
  · refine sm_if (fun _ => ?_) (fun _ => ?_)
    · exact sm_X2_readWall_137 (k116 := k116) (j116 := j116) hk116 w tx0 tx1 tx2
    · refine sm_gI w tx2 (by decide) (fun v14 => ?_)
      refine sm_if (fun _ => ?_) (fun _ => ?_)
      · exact sm_X2_readWall_142 (k116 := k116) (j116 := j116) hk116 w tx0 tx1 tx2
      · exact sm_X2_readWall_137 (k116 := k116) (j116 := j116) hk116 w tx0 tx1 tx2
theorem sm_X2_readWall_116 {h0 : sv_H} : ∀ (n : Nat) {x0 : Nat} {x1 : Nat} {x2 : Nat} {x6 : Int32} {h : sv_H}, vt_W h0 h → sv_K h0 x0 = 3 → sv_K h0 x1 = 5 → sv_K h0 x2 = 12 → vt_sm h0 (fn_X2_readWall_116 n x0 x1 x2 x6 h) (ab_X2_readWall_116 n x0 x1 x2 x6 (vt_ab h)) := by
  intro n
  induction n with
  | zero => intro x0 x1 x2 x6 h w tx0 tx1 tx2; exact sm_no
  | succ n ih => intro x0 x1 x2 x6 h w tx0 tx1 tx2; exact sm_X2_readWall_116b (k116 := fn_X2_readWall_116 n) (j116 := ab_X2_readWall_116 n) (fun w tx0 tx1 tx2 => ih w tx0 tx1 tx2) w tx0 tx1 tx2
theorem sm_X2_readWall_44 {h0 : sv_H} {x0 : Nat} {x1 : Nat} {x2 : Nat} {x3 : Int32} {x5 : Int32} {h : sv_H} (w : vt_W h0 h) (tx0 : sv_K h0 x0 = 3) (tx1 : sv_K h0 x1 = 5) (tx2 : sv_K h0 x2 = 12) : vt_sm h0 (fn_X2_readWall_44 x0 x1 x2 x3 x5 h) (ab_X2_readWall_44 x0 x1 x2 x3 x5 (vt_ab h)) := by
  unfold fn_X2_readWall_44 ab_X2_readWall_44
  obtain ⟨F, hF⟩ : ∃ F, sv_FP h = F := ⟨_, rfl⟩
  refine sm_gA w hF tx0 tk_302 (by decide) (fun v1 av1 => ?_)
  refine sm_lI w hF tx0 av1 tk_302 (fun _ => ?_)
  refine sm_pI w hF tx2 (by decide) (fun h w hF => ?_)
  refine sm_gA w hF tx0 tk_303 (by decide) (fun v4 av4 => ?_)
  refine sm_lI w hF tx0 av4 tk_303 (fun _ => ?_)
  refine sm_pI w hF tx2 (by decide) (fun h w hF => ?_)
  refine sm_gA w hF tx0 tk_302 (by decide) (fun v7 av7 => ?_)
  refine sm_lI w hF tx0 av7 tk_302 (fun _ => ?_)
  refine sm_pI w hF tx2 (by decide) (fun h w hF => ?_)
  refine sm_gA w hF tx0 tk_303 (by decide) (fun v10 av10 => ?_)
  refine sm_lI w hF tx0 av10 tk_303 (fun _ => ?_)
  refine sm_pI w hF tx2 (by decide) (fun h w hF => ?_)
  refine sm_gI w tx0 (by decide) (fun v13 => ?_)
  refine sm_cl w (sm_X4_within w.1 (w.k tx1 (by decide))) (fun r14 h2 e w2 => ?_)
  have hF2 : sv_FP h2 = F := (ow_X4_within sv_clT trivial e).2.1.1.trans hF
  clear e w hF
  have hF := hF2
  have w := w2
  clear hF2 w2
  refine sm_pI w hF tx2 (by decide) (fun h w hF => ?_)
  refine sm_gI w tx0 (by decide) (fun v17 => ?_)
  refine sm_cl w (sm_X4_numberOrNone w.1 (w.k tx1 (by decide))) (fun r18 h2 e w2 => ?_)
  have hF2 : sv_FP h2 = F := (ow_X4_numberOrNone sv_clT trivial e).2.1.1.trans hF
  clear e w hF
  have hF := hF2
  have w := w2
  clear hF2 w2
  refine sm_pI w hF tx2 (by decide) (fun h w hF => ?_)
  exact sm_X2_readWall_116 sv_fuel w tx0 tx1 tx2
theorem sm_X2_readWall_0 {h0 : sv_H} {x0 : Nat} {x1 : Nat} {x2 : Nat} {h : sv_H} (w : vt_W h0 h) (tx0 : sv_K h0 x0 = 3) (tx1 : sv_K h0 x1 = 5) (tx2 : sv_K h0 x2 = 12) : vt_sm h0 (fn_X2_readWall x0 x1 x2 h) (ab_X2_readWall x0 x1 x2 (vt_ab h)) := by
  unfold fn_X2_readWall ab_X2_readWall
  obtain ⟨F, hF⟩ : ∃ F, sv_FP h = F := ⟨_, rfl⟩
  refine sm_kd w tx0 (by decide) ?_
  refine sm_gI w tx0 (by decide) (fun v1 => ?_)
  refine sm_cl w (sm_X4_within w.1 (w.k tx1 (by decide))) (fun r2 h2 e w2 => ?_)
  have hF2 : sv_FP h2 = F := (ow_X4_within sv_clT trivial e).2.1.1.trans hF
  clear e w hF
  have hF := hF2
  have w := w2
  clear hF2 w2
  refine sm_gI w tx1 (by decide) (fun v4 => ?_)
  refine sm_gI w tx0 (by decide) (fun v5 => ?_)
  refine sm_cl w (sm_X4_within w.1 (w.k tx1 (by decide))) (fun r6 h2 e w2 => ?_)
  have hF2 : sv_FP h2 = F := (ow_X4_within sv_clT trivial e).2.1.1.trans hF
  clear e w hF
  have hF := hF2
  have w := w2
  clear hF2 w2
  refine sm_if (fun _ => ?_) (fun _ => ?_)
  · refine sm_cl w (sm_X4_blame w.1 (w.k tx1 (by decide))) (fun _ h2 e w2 => ?_)
    have hF2 : sv_FP h2 = F := (ow_X4_blame sv_clT trivial e).2.1.1.trans hF
    clear e w hF
    have hF := hF2
    have w := w2
    clear hF2 w2
    exact sm_X2_readWall_44 w tx0 tx1 tx2
  · exact sm_X2_readWall_44 w tx0 tx1 tx2
theorem sm_X2_readWall {x0 : Nat} {x1 : Nat} {x2 : Nat} {h : sv_H} (g : vt_G h) (tx0 : sv_K h x0 = 3) (tx1 : sv_K h x1 = 5) (tx2 : sv_K h x2 = 12) : vt_sm h (fn_X2_readWall x0 x1 x2 h) (ab_X2_readWall x0 x1 x2 (vt_ab h)) := sm_X2_readWall_0 ⟨g, vt_ko.refl h⟩ tx0 tx1 tx2

theorem sm_X4_readStart_0 {h0 : sv_H} {x0 : Nat} {x1 : Nat} {x2 : Int32} {h : sv_H} (w : vt_W h0 h) (tx0 : sv_K h0 x0 = 5) (tx1 : sv_K h0 x1 = 8) : vt_sm h0 (fn_X4_readStart x0 x1 x2 h) (ab_X4_readStart x0 x1 x2 (vt_ab h)) := by
  unfold fn_X4_readStart ab_X4_readStart
  obtain ⟨F, hF⟩ : ∃ F, sv_FP h = F := ⟨_, rfl⟩
  refine sm_kd w tx0 (by decide) ?_
  refine sm_cl w (sm_X4_pair w.1 (w.k tx0 (by decide))) (fun r1 h2 e w2 => ?_)
  have hF2 : sv_FP h2 = F := (ow_X4_pair sv_clT trivial e).2.1.1.trans hF
  clear e w hF
  have hF := hF2
  have w := w2
  clear hF2 w2
  refine sm_pI w hF tx1 (by decide) (fun h w hF => ?_)
  refine sm_cl w (sm_X4_pair w.1 (w.k tx0 (by decide))) (fun r4 h2 e w2 => ?_)
  have hF2 : sv_FP h2 = F := (ow_X4_pair sv_clT trivial e).2.1.1.trans hF
  clear e w hF
  have hF := hF2
  have w := w2
  clear hF2 w2
  refine sm_pI w hF tx1 (by decide) (fun h w hF => ?_)
  refine sm_cl w (sm_X4_within w.1 (w.k tx0 (by decide))) (fun r7 h2 e w2 => ?_)
  have hF2 : sv_FP h2 = F := (ow_X4_within sv_clT trivial e).2.1.1.trans hF
  clear e w hF
  have hF := hF2
  have w := w2
  clear hF2 w2
  refine sm_pI w hF tx1 (by decide) (fun h w hF => ?_)
  refine sm_cl w (sm_X4_within w.1 (w.k tx0 (by decide))) (fun r10 h2 e w2 => ?_)
  have hF2 : sv_FP h2 = F := (ow_X4_within sv_clT trivial e).2.1.1.trans hF
  clear e w hF
  have hF := hF2
  have w := w2
  clear hF2 w2
  refine sm_pI w hF tx1 (by decide) (fun h w hF => ?_)
  exact sm_rt w
theorem sm_X4_readStart {x0 : Nat} {x1 : Nat} {x2 : Int32} {h : sv_H} (g : vt_G h) (tx0 : sv_K h x0 = 5) (tx1 : sv_K h x1 = 8) : vt_sm h (fn_X4_readStart x0 x1 x2 h) (ab_X4_readStart x0 x1 x2 (vt_ab h)) := sm_X4_readStart_0 ⟨g, vt_ko.refl h⟩ tx0 tx1

theorem sm_X2_readCheck_7b {h0 : sv_H} {k7 : Nat → Int32 → Int32 → Int32 → sv_H → Option (Unit × sv_H)} {j7 : Nat → Int32 → Int32 → Int32 → vt_S → Option (Unit × vt_S)} (hk7 : ∀ {x1 : Nat} {x2 : Int32} {x3 : Int32} {x4 : Int32} {h : sv_H}, vt_W h0 h → sv_K h0 x1 = 5 → vt_sm h0 (k7 x1 x2 x3 x4 h) (j7 x1 x2 x3 x4 (vt_ab h))) {x1 : Nat} {x2 : Int32} {x3 : Int32} {x4 : Int32} {h : sv_H} (w : vt_W h0 h) (tx1 : sv_K h0 x1 = 5) : vt_sm h0 (fn_X2_readCheck_7b k7 x1 x2 x3 x4 h) (ab_X2_readCheck_7b j7 x1 x2 x3 x4 (vt_ab h)) := by
  unfold fn_X2_readCheck_7b ab_X2_readCheck_7b
  obtain ⟨F, hF⟩ : ∃ F, sv_FP h = F := ⟨_, rfl⟩
  refine sm_gI w tx1 (by decide) (fun v1 => ?_)
  refine sm_if (fun _ => ?_) (fun _ => ?_)
  · refine sm_cl w (sm_X4_expect w.1 (w.k tx1 (by decide))) (fun _ h2 e w2 => ?_)
    have hF2 : sv_FP h2 = F := (ow_X4_expect sv_clT trivial e).2.1.1.trans hF
    clear e w hF
    have hF := hF2
    have w := w2
    clear hF2 w2
    refine sm_cl w (sm_X4_expect w.1 (w.k tx1 (by decide))) (fun _ h2 e w2 => ?_)
    have hF2 : sv_FP h2 = F := (ow_X4_expect sv_clT trivial e).2.1.1.trans hF
    clear e w hF
    have hF := hF2
    have w := w2
    clear hF2 w2
    exact sm_rt w
  · refine sm_gP w tx1 tk_500 rfl (fun v4 tv4 => ?_)
    refine sm_gA w hF tv4 tk_100 (by decide) (fun v5 av5 => ?_)
    refine sm_lI w hF tv4 av5 tk_100 (fun _ => ?_)
    exact hk7 w tx1
theorem sm_X2_readCheck_7 {h0 : sv_H} : ∀ (n : Nat) {x1 : Nat} {x2 : Int32} {x3 : Int32} {x4 : Int32} {h : sv_H}, vt_W h0 h → sv_K h0 x1 = 5 → vt_sm h0 (fn_X2_readCheck_7 n x1 x2 x3 x4 h) (ab_X2_readCheck_7 n x1 x2 x3 x4 (vt_ab h)) := by
  intro n
  induction n with
  | zero => intro x1 x2 x3 x4 h w tx1; exact sm_no
  | succ n ih => intro x1 x2 x3 x4 h w tx1; exact sm_X2_readCheck_7b (k7 := fn_X2_readCheck_7 n) (j7 := ab_X2_readCheck_7 n) (fun w tx1 => ih w tx1) w tx1
theorem sm_X2_readCheck_0 {h0 : sv_H} {x0 : Nat} {x1 : Nat} {h : sv_H} (w : vt_W h0 h) (tx0 : sv_K h0 x0 = 3) (tx1 : sv_K h0 x1 = 5) : vt_sm h0 (fn_X2_readCheck x0 x1 h) (ab_X2_readCheck x0 x1 (vt_ab h)) := by
  unfold fn_X2_readCheck ab_X2_readCheck
  obtain ⟨F, hF⟩ : ∃ F, sv_FP h = F := ⟨_, rfl⟩
  refine sm_kd w tx0 (by decide) ?_
  exact sm_X2_readCheck_7 sv_fuel w tx1
theorem sm_X2_readCheck {x0 : Nat} {x1 : Nat} {h : sv_H} (g : vt_G h) (tx0 : sv_K h x0 = 3) (tx1 : sv_K h x1 = 5) : vt_sm h (fn_X2_readCheck x0 x1 h) (ab_X2_readCheck x0 x1 (vt_ab h)) := sm_X2_readCheck_0 ⟨g, vt_ko.refl h⟩ tx0 tx1

theorem sm_X4_expectEnd_23 {h0 : sv_H} {h : sv_H} (w : vt_W h0 h) : vt_sm h0 (fn_X4_expectEnd_23 h) (ab_X4_expectEnd_23 (vt_ab h)) := by
  unfold fn_X4_expectEnd_23 ab_X4_expectEnd_23
  obtain ⟨F, hF⟩ : ∃ F, sv_FP h = F := ⟨_, rfl⟩
  exact sm_rt w
theorem sm_X4_expectEnd_0 {h0 : sv_H} {x0 : Nat} {x1 : Int32} {h : sv_H} (w : vt_W h0 h) (tx0 : sv_K h0 x0 = 5) : vt_sm h0 (fn_X4_expectEnd x0 x1 h) (ab_X4_expectEnd x0 x1 (vt_ab h)) := by
  unfold fn_X4_expectEnd ab_X4_expectEnd
  obtain ⟨F, hF⟩ : ∃ F, sv_FP h = F := ⟨_, rfl⟩
  refine sm_kd w tx0 (by decide) ?_
  refine sm_gI w tx0 (by decide) (fun v1 => ?_)
  refine sm_gP w tx0 tk_500 rfl (fun v2 tv2 => ?_)
  refine sm_gI w tv2 (by decide) (fun v3 => ?_)
  refine sm_if (fun _ => ?_) (fun _ => ?_)
  · exact sm_X4_expectEnd_23 w
  · refine sm_gI w tx0 (by decide) (fun v4 => ?_)
    refine sm_cl w (sm_X4_blame w.1 (w.k tx0 (by decide))) (fun _ h2 e w2 => ?_)
    have hF2 : sv_FP h2 = F := (ow_X4_blame sv_clT trivial e).2.1.1.trans hF
    clear e w hF
    have hF := hF2
    have w := w2
    clear hF2 w2
    exact sm_X4_expectEnd_23 w
theorem sm_X4_expectEnd {x0 : Nat} {x1 : Int32} {h : sv_H} (g : vt_G h) (tx0 : sv_K h x0 = 5) : vt_sm h (fn_X4_expectEnd x0 x1 h) (ab_X4_expectEnd x0 x1 (vt_ab h)) := sm_X4_expectEnd_0 ⟨g, vt_ko.refl h⟩ tx0

theorem sm_X12_cross_0 {h0 : sv_H} {x0 : Int64} {x2 : Int64} {x4 : Int64} {x6 : Int64} {h : sv_H} (w : vt_W h0 h) : vt_sm h0 (fn_X12_cross x0 x2 x4 x6 h) (ab_X12_cross x0 x2 x4 x6 (vt_ab h)) := by
  unfold fn_X12_cross ab_X12_cross
  obtain ⟨F, hF⟩ : ∃ F, sv_FP h = F := ⟨_, rfl⟩
  exact sm_rt w
theorem sm_X12_cross {x0 : Int64} {x2 : Int64} {x4 : Int64} {x6 : Int64} {h : sv_H} (g : vt_G h) : vt_sm h (fn_X12_cross x0 x2 x4 x6 h) (ab_X12_cross x0 x2 x4 x6 (vt_ab h)) := sm_X12_cross_0 ⟨g, vt_ko.refl h⟩

theorem sm_X11_goesAlong_53 {h0 : sv_H} {s0 : Int32} {h : sv_H} (w : vt_W h0 h) : vt_sm h0 (fn_X11_goesAlong_53 s0 h) (ab_X11_goesAlong_53 s0 (vt_ab h)) := by
  unfold fn_X11_goesAlong_53 ab_X11_goesAlong_53
  obtain ⟨F, hF⟩ : ∃ F, sv_FP h = F := ⟨_, rfl⟩
  exact sm_rz w
theorem sm_X11_goesAlong_52 {h0 : sv_H} {h : sv_H} (w : vt_W h0 h) : vt_sm h0 (fn_X11_goesAlong_52 h) (ab_X11_goesAlong_52 (vt_ab h)) := by
  unfold fn_X11_goesAlong_52 ab_X11_goesAlong_52
  obtain ⟨F, hF⟩ : ∃ F, sv_FP h = F := ⟨_, rfl⟩
  exact sm_X11_goesAlong_53 w
theorem sm_X11_goesAlong_0 {h0 : sv_H} {x0 : Int64} {x2 : Int64} {x4 : Int64} {x6 : Int64} {x8 : Int64} {x10 : Int64} {h : sv_H} (w : vt_W h0 h) : vt_sm h0 (fn_X11_goesAlong x0 x2 x4 x6 x8 x10 h) (ab_X11_goesAlong x0 x2 x4 x6 x8 x10 (vt_ab h)) := by
  unfold fn_X11_goesAlong ab_X11_goesAlong
  obtain ⟨F, hF⟩ : ∃ F, sv_FP h = F := ⟨_, rfl⟩
  refine sm_cl w (sm_X12_cross w.1) (fun r1 h2 e w2 => ?_)
  have hF2 : sv_FP h2 = F := by rw [ro_X12_cross e]; exact hF
  clear e w hF
  have hF := hF2
  have w := w2
  clear hF2 w2
  refine sm_if (fun _ => ?_) (fun _ => ?_)
  · refine sm_if (fun _ => ?_) (fun _ => ?_)
    · exact sm_X11_goesAlong_52 w
    · exact sm_X11_goesAlong_53 w
  · exact sm_X11_goesAlong_52 w
theorem sm_X11_goesAlong {x0 : Int64} {x2 : Int64} {x4 : Int64} {x6 : Int64} {x8 : Int64} {x10 : Int64} {h : sv_H} (g : vt_G h) : vt_sm h (fn_X11_goesAlong x0 x2 x4 x6 x8 x10 h) (ab_X11_goesAlong x0 x2 x4 x6 x8 x10 (vt_ab h)) := sm_X11_goesAlong_0 ⟨g, vt_ko.refl h⟩

theorem sm_X11_reachesBox_66 {h0 : sv_H} {s0 : Int32} {h : sv_H} (w : vt_W h0 h) : vt_sm h0 (fn_X11_reachesBox_66 s0 h) (ab_X11_reachesBox_66 s0 (vt_ab h)) := by
  unfold fn_X11_reachesBox_66 ab_X11_reachesBox_66
  obtain ⟨F, hF⟩ : ∃ F, sv_FP h = F := ⟨_, rfl⟩
  exact sm_rz w
theorem sm_X11_reachesBox_65 {h0 : sv_H} {h : sv_H} (w : vt_W h0 h) : vt_sm h0 (fn_X11_reachesBox_65 h) (ab_X11_reachesBox_65 (vt_ab h)) := by
  unfold fn_X11_reachesBox_65 ab_X11_reachesBox_65
  obtain ⟨F, hF⟩ : ∃ F, sv_FP h = F := ⟨_, rfl⟩
  exact sm_X11_reachesBox_66 w
theorem sm_X11_reachesBox_0 {h0 : sv_H} {x0 : Nat} {x1 : Int32} {x2 : Int32} {x3 : Int32} {x4 : Int32} {h : sv_H} (w : vt_W h0 h) (tx0 : sv_K h0 x0 = 12) : vt_sm h0 (fn_X11_reachesBox x0 x1 x2 x3 x4 h) (ab_X11_reachesBox x0 x1 x2 x3 x4 (vt_ab h)) := by
  unfold fn_X11_reachesBox ab_X11_reachesBox
  obtain ⟨F, hF⟩ : ∃ F, sv_FP h = F := ⟨_, rfl⟩
  refine sm_kd w tx0 (by decide) ?_
  refine sm_gI w tx0 (by decide) (fun v1 => ?_)
  refine sm_gI w tx0 (by decide) (fun v2 => ?_)
  refine sm_let (fun _ => ?_)
  refine sm_if (fun _ => ?_) (fun _ => ?_)
  · exact sm_X11_reachesBox_65 w
  · refine sm_gI w tx0 (by decide) (fun v4 => ?_)
    refine sm_gI w tx0 (by decide) (fun v5 => ?_)
    refine sm_let (fun _ => ?_)
    refine sm_if (fun _ => ?_) (fun _ => ?_)
    · exact sm_X11_reachesBox_65 w
    · refine sm_gI w tx0 (by decide) (fun v7 => ?_)
      refine sm_gI w tx0 (by decide) (fun v8 => ?_)
      refine sm_let (fun _ => ?_)
      refine sm_if (fun _ => ?_) (fun _ => ?_)
      · exact sm_X11_reachesBox_65 w
      · refine sm_gI w tx0 (by decide) (fun v10 => ?_)
        refine sm_gI w tx0 (by decide) (fun v11 => ?_)
        refine sm_let (fun _ => ?_)
        refine sm_if (fun _ => ?_) (fun _ => ?_)
        · exact sm_X11_reachesBox_65 w
        · exact sm_X11_reachesBox_66 w
theorem sm_X11_reachesBox {x0 : Nat} {x1 : Int32} {x2 : Int32} {x3 : Int32} {x4 : Int32} {h : sv_H} (g : vt_G h) (tx0 : sv_K h x0 = 12) : vt_sm h (fn_X11_reachesBox x0 x1 x2 x3 x4 h) (ab_X11_reachesBox x0 x1 x2 x3 x4 (vt_ab h)) := sm_X11_reachesBox_0 ⟨g, vt_ko.refl h⟩ tx0

theorem sm_X11_sideOf_0 {h0 : sv_H} {x0 : Nat} {x1 : Int32} {x2 : Int32} {h : sv_H} (w : vt_W h0 h) (tx0 : sv_K h0 x0 = 12) : vt_sm h0 (fn_X11_sideOf x0 x1 x2 h) (ab_X11_sideOf x0 x1 x2 (vt_ab h)) := by
  unfold fn_X11_sideOf ab_X11_sideOf
  obtain ⟨F, hF⟩ : ∃ F, sv_FP h = F := ⟨_, rfl⟩
  refine sm_kd w tx0 (by decide) ?_
  refine sm_gI w tx0 (by decide) (fun v1 => ?_)
  refine sm_gI w tx0 (by decide) (fun v2 => ?_)
  refine sm_gI w tx0 (by decide) (fun v3 => ?_)
  refine sm_gI w tx0 (by decide) (fun v4 => ?_)
  refine sm_gI w tx0 (by decide) (fun v5 => ?_)
  refine sm_gI w tx0 (by decide) (fun v6 => ?_)
  exact sm_rt w
theorem sm_X11_sideOf {x0 : Nat} {x1 : Int32} {x2 : Int32} {h : sv_H} (g : vt_G h) (tx0 : sv_K h x0 = 12) : vt_sm h (fn_X11_sideOf x0 x1 x2 h) (ab_X11_sideOf x0 x1 x2 (vt_ab h)) := sm_X11_sideOf_0 ⟨g, vt_ko.refl h⟩ tx0

theorem sm_X11_lineParts_39 {h0 : sv_H} {s0 : Int32} {h : sv_H} (w : vt_W h0 h) : vt_sm h0 (fn_X11_lineParts_39 s0 h) (ab_X11_lineParts_39 s0 (vt_ab h)) := by
  unfold fn_X11_lineParts_39 ab_X11_lineParts_39
  obtain ⟨F, hF⟩ : ∃ F, sv_FP h = F := ⟨_, rfl⟩
  exact sm_rz w
theorem sm_X11_lineParts_0 {h0 : sv_H} {x0 : Nat} {x1 : Nat} {h : sv_H} (w : vt_W h0 h) (tx0 : sv_K h0 x0 = 12) (tx1 : sv_K h0 x1 = 12) : vt_sm h0 (fn_X11_lineParts x0 x1 h) (ab_X11_lineParts x0 x1 (vt_ab h)) := by
  unfold fn_X11_lineParts ab_X11_lineParts
  obtain ⟨F, hF⟩ : ∃ F, sv_FP h = F := ⟨_, rfl⟩
  refine sm_kd w tx0 (by decide) ?_
  refine sm_gI w tx1 (by decide) (fun v1 => ?_)
  refine sm_gI w tx1 (by decide) (fun v2 => ?_)
  refine sm_cl w (sm_X11_sideOf w.1 (w.k tx0 (by decide))) (fun r3 h2 e w2 => ?_)
  have hF2 : sv_FP h2 = F := by rw [ro_X11_sideOf e]; exact hF
  clear e w hF
  have hF := hF2
  have w := w2
  clear hF2 w2
  refine sm_cl w (sm_J13_signum_95d88 w.1) (fun r5 h2 e w2 => ?_)
  have hF2 : sv_FP h2 = F := by rw [ro_J13_signum_95d88 e]; exact hF
  clear e w hF
  have hF := hF2
  have w := w2
  clear hF2 w2
  refine sm_gI w tx1 (by decide) (fun v7 => ?_)
  refine sm_gI w tx1 (by decide) (fun v8 => ?_)
  refine sm_cl w (sm_X11_sideOf w.1 (w.k tx0 (by decide))) (fun r9 h2 e w2 => ?_)
  have hF2 : sv_FP h2 = F := by rw [ro_X11_sideOf e]; exact hF
  clear e w hF
  have hF := hF2
  have w := w2
  clear hF2 w2
  refine sm_cl w (sm_J13_signum_95d88 w.1) (fun r11 h2 e w2 => ?_)
  have hF2 : sv_FP h2 = F := by rw [ro_J13_signum_95d88 e]; exact hF
  clear e w hF
  have hF := hF2
  have w := w2
  clear hF2 w2
  refine sm_if (fun _ => ?_) (fun _ => ?_)
  · exact sm_X11_lineParts_39 w
  · exact sm_X11_lineParts_39 w
theorem sm_X11_lineParts {x0 : Nat} {x1 : Nat} {h : sv_H} (g : vt_G h) (tx0 : sv_K h x0 = 12) (tx1 : sv_K h x1 = 12) : vt_sm h (fn_X11_lineParts x0 x1 h) (ab_X11_lineParts x0 x1 (vt_ab h)) := sm_X11_lineParts_0 ⟨g, vt_ko.refl h⟩ tx0 tx1

theorem sm_X11_touches_72 {h0 : sv_H} {s0 : Int32} {h : sv_H} (w : vt_W h0 h) : vt_sm h0 (fn_X11_touches_72 s0 h) (ab_X11_touches_72 s0 (vt_ab h)) := by
  unfold fn_X11_touches_72 ab_X11_touches_72
  obtain ⟨F, hF⟩ : ∃ F, sv_FP h = F := ⟨_, rfl⟩
  exact sm_rz w
theorem sm_X11_touches_71 {h0 : sv_H} {h : sv_H} (w : vt_W h0 h) : vt_sm h0 (fn_X11_touches_71 h) (ab_X11_touches_71 (vt_ab h)) := by
  unfold fn_X11_touches_71 ab_X11_touches_71
  obtain ⟨F, hF⟩ : ∃ F, sv_FP h = F := ⟨_, rfl⟩
  exact sm_X11_touches_72 w
theorem sm_X11_touches_0 {h0 : sv_H} {x0 : Nat} {x1 : Nat} {h : sv_H} (w : vt_W h0 h) (tx0 : sv_K h0 x0 = 12) (tx1 : sv_K h0 x1 = 12) : vt_sm h0 (fn_X11_touches x0 x1 h) (ab_X11_touches x0 x1 (vt_ab h)) := by
  unfold fn_X11_touches ab_X11_touches
  obtain ⟨F, hF⟩ : ∃ F, sv_FP h = F := ⟨_, rfl⟩
  refine sm_kd w tx0 (by decide) ?_
  refine sm_gI w tx1 (by decide) (fun v1 => ?_)
  refine sm_gI w tx1 (by decide) (fun v2 => ?_)
  refine sm_let (fun _ => ?_)
  refine sm_gI w tx1 (by decide) (fun v4 => ?_)
  refine sm_gI w tx1 (by decide) (fun v5 => ?_)
  refine sm_let (fun _ => ?_)
  refine sm_gI w tx1 (by decide) (fun v7 => ?_)
  refine sm_gI w tx1 (by decide) (fun v8 => ?_)
  refine sm_let (fun _ => ?_)
  refine sm_gI w tx1 (by decide) (fun v10 => ?_)
  refine sm_gI w tx1 (by decide) (fun v11 => ?_)
  refine sm_let (fun _ => ?_)
  refine sm_cl w (sm_X11_reachesBox w.1 (w.k tx0 (by decide))) (fun r13 h2 e w2 => ?_)
  have hF2 : sv_FP h2 = F := by rw [ro_X11_reachesBox e]; exact hF
  clear e w hF
  have hF := hF2
  have w := w2
  clear hF2 w2
  refine sm_if (fun _ => ?_) (fun _ => ?_)
  · exact sm_X11_touches_71 w
  · refine sm_cl w (sm_X11_lineParts w.1 (w.k tx0 (by decide)) (w.k tx1 (by decide))) (fun r15 h2 e w2 => ?_)
    have hF2 : sv_FP h2 = F := by rw [ro_X11_lineParts e]; exact hF
    clear e w hF
    have hF := hF2
    have w := w2
    clear hF2 w2
    refine sm_if (fun _ => ?_) (fun _ => ?_)
    · exact sm_X11_touches_71 w
    · refine sm_cl w (sm_X11_lineParts w.1 (w.k tx1 (by decide)) (w.k tx0 (by decide))) (fun r17 h2 e w2 => ?_)
      have hF2 : sv_FP h2 = F := by rw [ro_X11_lineParts e]; exact hF
      clear e w hF
      have hF := hF2
      have w := w2
      clear hF2 w2
      refine sm_if (fun _ => ?_) (fun _ => ?_)
      · exact sm_X11_touches_71 w
      · exact sm_X11_touches_72 w
theorem sm_X11_touches {x0 : Nat} {x1 : Nat} {h : sv_H} (g : vt_G h) (tx0 : sv_K h x0 = 12) (tx1 : sv_K h x1 = 12) : vt_sm h (fn_X11_touches x0 x1 h) (ab_X11_touches x0 x1 (vt_ab h)) := sm_X11_touches_0 ⟨g, vt_ko.refl h⟩ tx0 tx1

theorem sm_X11_overlaps_224 {h0 : sv_H} {x0 : Nat} {x1 : Nat} {h : sv_H} (w : vt_W h0 h) (tx0 : sv_K h0 x0 = 12) (tx1 : sv_K h0 x1 = 12) : vt_sm h0 (fn_X11_overlaps_224 x0 x1 h) (ab_X11_overlaps_224 x0 x1 (vt_ab h)) := by
  unfold fn_X11_overlaps_224 ab_X11_overlaps_224
  obtain ⟨F, hF⟩ : ∃ F, sv_FP h = F := ⟨_, rfl⟩
  refine sm_cl w (sm_X11_touches w.1 (w.k tx0 (by decide)) (w.k tx1 (by decide))) (fun r1 h2 e w2 => ?_)
  have hF2 : sv_FP h2 = F := by rw [ro_X11_touches e]; exact hF
  clear e w hF
  have hF := hF2
  have w := w2
  clear hF2 w2
  exact sm_rz w
theorem sm_X11_overlaps_168 {h0 : sv_H} {x0 : Nat} {x1 : Nat} {h : sv_H} (w : vt_W h0 h) (tx0 : sv_K h0 x0 = 12) (tx1 : sv_K h0 x1 = 12) : vt_sm h0 (fn_X11_overlaps_168 x0 x1 h) (ab_X11_overlaps_168 x0 x1 (vt_ab h)) := by
  unfold fn_X11_overlaps_168 ab_X11_overlaps_168
  obtain ⟨F, hF⟩ : ∃ F, sv_FP h = F := ⟨_, rfl⟩
  refine sm_gI w tx0 (by decide) (fun v1 => ?_)
  refine sm_gI w tx1 (by decide) (fun v2 => ?_)
  refine sm_if (fun _ => ?_) (fun _ => ?_)
  · refine sm_gI w tx0 (by decide) (fun v3 => ?_)
    refine sm_gI w tx1 (by decide) (fun v4 => ?_)
    refine sm_if (fun _ => ?_) (fun _ => ?_)
    · refine sm_gI w tx0 (by decide) (fun v5 => ?_)
      refine sm_gI w tx0 (by decide) (fun v6 => ?_)
      refine sm_gI w tx0 (by decide) (fun v7 => ?_)
      refine sm_gI w tx0 (by decide) (fun v8 => ?_)
      refine sm_gI w tx1 (by decide) (fun v9 => ?_)
      refine sm_gI w tx1 (by decide) (fun v10 => ?_)
      refine sm_cl w (sm_X11_goesAlong w.1) (fun r11 h2 e w2 => ?_)
      have hF2 : sv_FP h2 = F := by rw [ro_X11_goesAlong e]; exact hF
      clear e w hF
      have hF := hF2
      have w := w2
      clear hF2 w2
      exact sm_rz w
    · exact sm_X11_overlaps_224 w tx0 tx1
  · exact sm_X11_overlaps_224 w tx0 tx1
theorem sm_X11_overlaps_112 {h0 : sv_H} {x0 : Nat} {x1 : Nat} {h : sv_H} (w : vt_W h0 h) (tx0 : sv_K h0 x0 = 12) (tx1 : sv_K h0 x1 = 12) : vt_sm h0 (fn_X11_overlaps_112 x0 x1 h) (ab_X11_overlaps_112 x0 x1 (vt_ab h)) := by
  unfold fn_X11_overlaps_112 ab_X11_overlaps_112
  obtain ⟨F, hF⟩ : ∃ F, sv_FP h = F := ⟨_, rfl⟩
  refine sm_gI w tx0 (by decide) (fun v1 => ?_)
  refine sm_gI w tx1 (by decide) (fun v2 => ?_)
  refine sm_if (fun _ => ?_) (fun _ => ?_)
  · refine sm_gI w tx0 (by decide) (fun v3 => ?_)
    refine sm_gI w tx1 (by decide) (fun v4 => ?_)
    refine sm_if (fun _ => ?_) (fun _ => ?_)
    · refine sm_gI w tx0 (by decide) (fun v5 => ?_)
      refine sm_gI w tx0 (by decide) (fun v6 => ?_)
      refine sm_gI w tx0 (by decide) (fun v7 => ?_)
      refine sm_gI w tx0 (by decide) (fun v8 => ?_)
      refine sm_gI w tx1 (by decide) (fun v9 => ?_)
      refine sm_gI w tx1 (by decide) (fun v10 => ?_)
      refine sm_cl w (sm_X11_goesAlong w.1) (fun r11 h2 e w2 => ?_)
      have hF2 : sv_FP h2 = F := by rw [ro_X11_goesAlong e]; exact hF
      clear e w hF
      have hF := hF2
      have w := w2
      clear hF2 w2
      exact sm_rz w
    · exact sm_X11_overlaps_168 w tx0 tx1
  · exact sm_X11_overlaps_168 w tx0 tx1
theorem sm_X11_overlaps_56 {h0 : sv_H} {x0 : Nat} {x1 : Nat} {h : sv_H} (w : vt_W h0 h) (tx0 : sv_K h0 x0 = 12) (tx1 : sv_K h0 x1 = 12) : vt_sm h0 (fn_X11_overlaps_56 x0 x1 h) (ab_X11_overlaps_56 x0 x1 (vt_ab h)) := by
  unfold fn_X11_overlaps_56 ab_X11_overlaps_56
  obtain ⟨F, hF⟩ : ∃ F, sv_FP h = F := ⟨_, rfl⟩
  refine sm_gI w tx0 (by decide) (fun v1 => ?_)
  refine sm_gI w tx1 (by decide) (fun v2 => ?_)
  refine sm_if (fun _ => ?_) (fun _ => ?_)
  · refine sm_gI w tx0 (by decide) (fun v3 => ?_)
    refine sm_gI w tx1 (by decide) (fun v4 => ?_)
    refine sm_if (fun _ => ?_) (fun _ => ?_)
    · refine sm_gI w tx0 (by decide) (fun v5 => ?_)
      refine sm_gI w tx0 (by decide) (fun v6 => ?_)
      refine sm_gI w tx0 (by decide) (fun v7 => ?_)
      refine sm_gI w tx0 (by decide) (fun v8 => ?_)
      refine sm_gI w tx1 (by decide) (fun v9 => ?_)
      refine sm_gI w tx1 (by decide) (fun v10 => ?_)
      refine sm_cl w (sm_X11_goesAlong w.1) (fun r11 h2 e w2 => ?_)
      have hF2 : sv_FP h2 = F := by rw [ro_X11_goesAlong e]; exact hF
      clear e w hF
      have hF := hF2
      have w := w2
      clear hF2 w2
      exact sm_rz w
    · exact sm_X11_overlaps_112 w tx0 tx1
  · exact sm_X11_overlaps_112 w tx0 tx1
theorem sm_X11_overlaps_0 {h0 : sv_H} {x0 : Nat} {x1 : Nat} {h : sv_H} (w : vt_W h0 h) (tx0 : sv_K h0 x0 = 12) (tx1 : sv_K h0 x1 = 12) : vt_sm h0 (fn_X11_overlaps x0 x1 h) (ab_X11_overlaps x0 x1 (vt_ab h)) := by
  unfold fn_X11_overlaps ab_X11_overlaps
  obtain ⟨F, hF⟩ : ∃ F, sv_FP h = F := ⟨_, rfl⟩
  refine sm_kd w tx0 (by decide) ?_
  refine sm_gI w tx0 (by decide) (fun v1 => ?_)
  refine sm_gI w tx1 (by decide) (fun v2 => ?_)
  refine sm_if (fun _ => ?_) (fun _ => ?_)
  · refine sm_gI w tx0 (by decide) (fun v3 => ?_)
    refine sm_gI w tx1 (by decide) (fun v4 => ?_)
    refine sm_if (fun _ => ?_) (fun _ => ?_)
    · refine sm_gI w tx0 (by decide) (fun v5 => ?_)
      refine sm_gI w tx0 (by decide) (fun v6 => ?_)
      refine sm_gI w tx0 (by decide) (fun v7 => ?_)
      refine sm_gI w tx0 (by decide) (fun v8 => ?_)
      refine sm_gI w tx1 (by decide) (fun v9 => ?_)
      refine sm_gI w tx1 (by decide) (fun v10 => ?_)
      refine sm_cl w (sm_X11_goesAlong w.1) (fun r11 h2 e w2 => ?_)
      have hF2 : sv_FP h2 = F := by rw [ro_X11_goesAlong e]; exact hF
      clear e w hF
      have hF := hF2
      have w := w2
      clear hF2 w2
      exact sm_rz w
    · exact sm_X11_overlaps_56 w tx0 tx1
  · exact sm_X11_overlaps_56 w tx0 tx1
theorem sm_X11_overlaps {x0 : Nat} {x1 : Nat} {h : sv_H} (g : vt_G h) (tx0 : sv_K h x0 = 12) (tx1 : sv_K h x1 = 12) : vt_sm h (fn_X11_overlaps x0 x1 h) (ab_X11_overlaps x0 x1 (vt_ab h)) := sm_X11_overlaps_0 ⟨g, vt_ko.refl h⟩ tx0 tx1

theorem sm_X2_findOverlap_76 {h0 : sv_H} {h : sv_H} (w : vt_W h0 h) : vt_sm h0 (fn_X2_findOverlap_76 h) (ab_X2_findOverlap_76 (vt_ab h)) := by
  unfold fn_X2_findOverlap_76 ab_X2_findOverlap_76
  obtain ⟨F, hF⟩ : ∃ F, sv_FP h = F := ⟨_, rfl⟩
  exact sm_rt w
theorem sm_X2_findOverlap_70 {h0 : sv_H} {k2 : Nat → Nat → Int32 → Int32 → sv_H → Option (Unit × sv_H)} {j2 : Nat → Nat → Int32 → Int32 → vt_S → Option (Unit × vt_S)} (hk2 : ∀ {x0 : Nat} {x1 : Nat} {x2 : Int32} {x3 : Int32} {h : sv_H}, vt_W h0 h → sv_K h0 x0 = 3 → sv_K h0 x1 = 5 → vt_sm h0 (k2 x0 x1 x2 x3 h) (j2 x0 x1 x2 x3 (vt_ab h))) {x0 : Nat} {x1 : Nat} {x2 : Int32} {x3 : Int32} {h : sv_H} (w : vt_W h0 h) (tx0 : sv_K h0 x0 = 3) (tx1 : sv_K h0 x1 = 5) : vt_sm h0 (fn_X2_findOverlap_70 k2 x0 x1 x2 x3 h) (ab_X2_findOverlap_70 j2 x0 x1 x2 x3 (vt_ab h)) := by
  unfold fn_X2_findOverlap_70 ab_X2_findOverlap_70
  obtain ⟨F, hF⟩ : ∃ F, sv_FP h = F := ⟨_, rfl⟩
  exact hk2 w tx0 tx1
theorem sm_X2_findOverlap_64 {h0 : sv_H} {k2 : Nat → Nat → Int32 → Int32 → sv_H → Option (Unit × sv_H)} {j2 : Nat → Nat → Int32 → Int32 → vt_S → Option (Unit × vt_S)} (hk2 : ∀ {x0 : Nat} {x1 : Nat} {x2 : Int32} {x3 : Int32} {h : sv_H}, vt_W h0 h → sv_K h0 x0 = 3 → sv_K h0 x1 = 5 → vt_sm h0 (k2 x0 x1 x2 x3 h) (j2 x0 x1 x2 x3 (vt_ab h))) {k20 : Nat → Nat → Int32 → Int32 → Int32 → sv_H → Option (Unit × sv_H)} {j20 : Nat → Nat → Int32 → Int32 → Int32 → vt_S → Option (Unit × vt_S)} (hk20 : ∀ {x0 : Nat} {x1 : Nat} {x2 : Int32} {x3 : Int32} {x4 : Int32} {h : sv_H}, vt_W h0 h → sv_K h0 x0 = 3 → sv_K h0 x1 = 5 → vt_sm h0 (k20 x0 x1 x2 x3 x4 h) (j20 x0 x1 x2 x3 x4 (vt_ab h))) {x0 : Nat} {x1 : Nat} {x2 : Int32} {x3 : Int32} {x4 : Int32} {h : sv_H} (w : vt_W h0 h) (tx0 : sv_K h0 x0 = 3) (tx1 : sv_K h0 x1 = 5) : vt_sm h0 (fn_X2_findOverlap_64 k2 k20 x0 x1 x2 x3 x4 h) (ab_X2_findOverlap_64 j2 j20 x0 x1 x2 x3 x4 (vt_ab h)) := by
  unfold fn_X2_findOverlap_64 ab_X2_findOverlap_64
  obtain ⟨F, hF⟩ : ∃ F, sv_FP h = F := ⟨_, rfl⟩
  exact hk20 w tx0 tx1
theorem sm_X2_findOverlap_20b {h0 : sv_H} {k2 : Nat → Nat → Int32 → Int32 → sv_H → Option (Unit × sv_H)} {j2 : Nat → Nat → Int32 → Int32 → vt_S → Option (Unit × vt_S)} (hk2 : ∀ {x0 : Nat} {x1 : Nat} {x2 : Int32} {x3 : Int32} {h : sv_H}, vt_W h0 h → sv_K h0 x0 = 3 → sv_K h0 x1 = 5 → vt_sm h0 (k2 x0 x1 x2 x3 h) (j2 x0 x1 x2 x3 (vt_ab h))) {k20 : Nat → Nat → Int32 → Int32 → Int32 → sv_H → Option (Unit × sv_H)} {j20 : Nat → Nat → Int32 → Int32 → Int32 → vt_S → Option (Unit × vt_S)} (hk20 : ∀ {x0 : Nat} {x1 : Nat} {x2 : Int32} {x3 : Int32} {x4 : Int32} {h : sv_H}, vt_W h0 h → sv_K h0 x0 = 3 → sv_K h0 x1 = 5 → vt_sm h0 (k20 x0 x1 x2 x3 x4 h) (j20 x0 x1 x2 x3 x4 (vt_ab h))) {x0 : Nat} {x1 : Nat} {x2 : Int32} {x3 : Int32} {x4 : Int32} {h : sv_H} (w : vt_W h0 h) (tx0 : sv_K h0 x0 = 3) (tx1 : sv_K h0 x1 = 5) : vt_sm h0 (fn_X2_findOverlap_20b k2 k20 x0 x1 x2 x3 x4 h) (ab_X2_findOverlap_20b j2 j20 x0 x1 x2 x3 x4 (vt_ab h)) := by
  unfold fn_X2_findOverlap_20b ab_X2_findOverlap_20b
  obtain ⟨F, hF⟩ : ∃ F, sv_FP h = F := ⟨_, rfl⟩
  refine sm_if (fun _ => ?_) (fun _ => ?_)
  · exact sm_X2_findOverlap_70 (k2 := k2) (j2 := j2) hk2 w tx0 tx1
  · refine sm_cl w (sm_X4_well w.1 (w.k tx1 (by decide))) (fun r1 h2 e w2 => ?_)
    have hF2 : sv_FP h2 = F := by rw [ro_X4_well e]; exact hF
    clear e w hF
    have hF := hF2
    have w := w2
    clear hF2 w2
    refine sm_if (fun _ => ?_) (fun _ => ?_)
    · exact sm_X2_findOverlap_70 (k2 := k2) (j2 := j2) hk2 w tx0 tx1
    · refine sm_gA w hF tx0 tk_308 (by decide) (fun v3 av3 => ?_)
      refine sm_lP (c := 12) w hF tx0 av3 tk_308 (by decide) (fun v4 tv4 => ?_)
      refine sm_gA w hF tx0 tk_308 (by decide) (fun v5 av5 => ?_)
      refine sm_lP (c := 12) w hF tx0 av5 tk_308 (by decide) (fun v6 tv6 => ?_)
      refine sm_cl w (sm_X11_overlaps w.1 (w.k tv4 (by decide)) (w.k tv6 (by decide))) (fun r7 h2 e w2 => ?_)
      have hF2 : sv_FP h2 = F := by rw [ro_X11_overlaps e]; exact hF
      clear e w hF
      have hF := hF2
      have w := w2
      clear hF2 w2
      refine sm_if (fun _ => ?_) (fun _ => ?_)
      · exact sm_X2_findOverlap_64 (k2 := k2) (j2 := j2) (k20 := k20) (j20 := j20) hk2 hk20 w tx0 tx1
      · refine sm_cl w (sm_X4_blame w.1 (w.k tx1 (by decide))) (fun _ h2 e w2 => ?_)
        have hF2 : sv_FP h2 = F := (ow_X4_blame sv_clT trivial e).2.1.1.trans hF
        clear e w hF
        have hF := hF2
        have w := w2
        clear hF2 w2
        exact sm_X2_findOverlap_64 (k2 := k2) (j2 := j2) (k20 := k20) (j20 := j20) hk2 hk20 w tx0 tx1
theorem sm_X2_findOverlap_20 {h0 : sv_H} {k2 : Nat → Nat → Int32 → Int32 → sv_H → Option (Unit × sv_H)} {j2 : Nat → Nat → Int32 → Int32 → vt_S → Option (Unit × vt_S)} (hk2 : ∀ {x0 : Nat} {x1 : Nat} {x2 : Int32} {x3 : Int32} {h : sv_H}, vt_W h0 h → sv_K h0 x0 = 3 → sv_K h0 x1 = 5 → vt_sm h0 (k2 x0 x1 x2 x3 h) (j2 x0 x1 x2 x3 (vt_ab h))) : ∀ (n : Nat) {x0 : Nat} {x1 : Nat} {x2 : Int32} {x3 : Int32} {x4 : Int32} {h : sv_H}, vt_W h0 h → sv_K h0 x0 = 3 → sv_K h0 x1 = 5 → vt_sm h0 (fn_X2_findOverlap_20 k2 n x0 x1 x2 x3 x4 h) (ab_X2_findOverlap_20 j2 n x0 x1 x2 x3 x4 (vt_ab h)) := by
  intro n
  induction n with
  | zero => intro x0 x1 x2 x3 x4 h w tx0 tx1; exact sm_no
  | succ n ih => intro x0 x1 x2 x3 x4 h w tx0 tx1; exact sm_X2_findOverlap_20b (k2 := k2) (j2 := j2) (k20 := fn_X2_findOverlap_20 k2 n) (j20 := ab_X2_findOverlap_20 j2 n) hk2 (fun w tx0 tx1 => ih w tx0 tx1) w tx0 tx1
theorem sm_X2_findOverlap_2b {h0 : sv_H} {k2 : Nat → Nat → Int32 → Int32 → sv_H → Option (Unit × sv_H)} {j2 : Nat → Nat → Int32 → Int32 → vt_S → Option (Unit × vt_S)} (hk2 : ∀ {x0 : Nat} {x1 : Nat} {x2 : Int32} {x3 : Int32} {h : sv_H}, vt_W h0 h → sv_K h0 x0 = 3 → sv_K h0 x1 = 5 → vt_sm h0 (k2 x0 x1 x2 x3 h) (j2 x0 x1 x2 x3 (vt_ab h))) {x0 : Nat} {x1 : Nat} {x2 : Int32} {x3 : Int32} {h : sv_H} (w : vt_W h0 h) (tx0 : sv_K h0 x0 = 3) (tx1 : sv_K h0 x1 = 5) : vt_sm h0 (fn_X2_findOverlap_2b k2 x0 x1 x2 x3 h) (ab_X2_findOverlap_2b j2 x0 x1 x2 x3 (vt_ab h)) := by
  unfold fn_X2_findOverlap_2b ab_X2_findOverlap_2b
  obtain ⟨F, hF⟩ : ∃ F, sv_FP h = F := ⟨_, rfl⟩
  refine sm_gI w tx0 (by decide) (fun v1 => ?_)
  refine sm_if (fun _ => ?_) (fun _ => ?_)
  · exact sm_X2_findOverlap_76 w
  · refine sm_cl w (sm_X4_well w.1 (w.k tx1 (by decide))) (fun r2 h2 e w2 => ?_)
    have hF2 : sv_FP h2 = F := by rw [ro_X4_well e]; exact hF
    clear e w hF
    have hF := hF2
    have w := w2
    clear hF2 w2
    refine sm_if (fun _ => ?_) (fun _ => ?_)
    · exact sm_X2_findOverlap_76 w
    · exact sm_X2_findOverlap_20 (k2 := k2) (j2 := j2) hk2 sv_fuel w tx0 tx1
theorem sm_X2_findOverlap_2 {h0 : sv_H} : ∀ (n : Nat) {x0 : Nat} {x1 : Nat} {x2 : Int32} {x3 : Int32} {h : sv_H}, vt_W h0 h → sv_K h0 x0 = 3 → sv_K h0 x1 = 5 → vt_sm h0 (fn_X2_findOverlap_2 n x0 x1 x2 x3 h) (ab_X2_findOverlap_2 n x0 x1 x2 x3 (vt_ab h)) := by
  intro n
  induction n with
  | zero => intro x0 x1 x2 x3 h w tx0 tx1; exact sm_no
  | succ n ih => intro x0 x1 x2 x3 h w tx0 tx1; exact sm_X2_findOverlap_2b (k2 := fn_X2_findOverlap_2 n) (j2 := ab_X2_findOverlap_2 n) (fun w tx0 tx1 => ih w tx0 tx1) w tx0 tx1
theorem sm_X2_findOverlap_0 {h0 : sv_H} {x0 : Nat} {x1 : Nat} {x2 : Int32} {h : sv_H} (w : vt_W h0 h) (tx0 : sv_K h0 x0 = 3) (tx1 : sv_K h0 x1 = 5) : vt_sm h0 (fn_X2_findOverlap x0 x1 x2 h) (ab_X2_findOverlap x0 x1 x2 (vt_ab h)) := by
  unfold fn_X2_findOverlap ab_X2_findOverlap
  obtain ⟨F, hF⟩ : ∃ F, sv_FP h = F := ⟨_, rfl⟩
  refine sm_kd w tx0 (by decide) ?_
  exact sm_X2_findOverlap_2 sv_fuel w tx0 tx1
theorem sm_X2_findOverlap {x0 : Nat} {x1 : Nat} {x2 : Int32} {h : sv_H} (g : vt_G h) (tx0 : sv_K h x0 = 3) (tx1 : sv_K h x1 = 5) : vt_sm h (fn_X2_findOverlap x0 x1 x2 h) (ab_X2_findOverlap x0 x1 x2 (vt_ab h)) := sm_X2_findOverlap_0 ⟨g, vt_ko.refl h⟩ tx0 tx1

theorem sm_X2_read_197 {h0 : sv_H} {x0 : Nat} {x1 : Nat} {x2 : Int32} {h : sv_H} (w : vt_W h0 h) (tx0 : sv_K h0 x0 = 3) (tx1 : sv_K h0 x1 = 5) : vt_sm h0 (fn_X2_read_197 x0 x1 x2 h) (ab_X2_read_197 x0 x1 x2 (vt_ab h)) := by
  unfold fn_X2_read_197 ab_X2_read_197
  obtain ⟨F, hF⟩ : ∃ F, sv_FP h = F := ⟨_, rfl⟩
  refine sm_gP w tx0 tk_301 rfl (fun v1 tv1 => ?_)
  refine sm_gI w tx0 (by decide) (fun v2 => ?_)
  refine sm_cl w (sm_X4_readStart w.1 (w.k tx1 (by decide)) (w.k tv1 (by decide))) (fun _ h2 e w2 => ?_)
  have hF2 : sv_FP h2 = F := (ow_X4_readStart sv_clT trivial trivial e).2.1.1.trans hF
  clear e w hF
  have hF := hF2
  have w := w2
  clear hF2 w2
  refine sm_cl w (sm_X2_readCheck w.1 (w.k tx0 (by decide)) (w.k tx1 (by decide))) (fun _ h2 e w2 => ?_)
  have hF2 : sv_FP h2 = F := (ow_X2_readCheck sv_clT trivial trivial e).2.1.1.trans hF
  clear e w hF
  have hF := hF2
  have w := w2
  clear hF2 w2
  refine sm_cl w (sm_X4_expectEnd w.1 (w.k tx1 (by decide))) (fun _ h2 e w2 => ?_)
  have hF2 : sv_FP h2 = F := (ow_X4_expectEnd sv_clT trivial e).2.1.1.trans hF
  clear e w hF
  have hF := hF2
  have w := w2
  clear hF2 w2
  refine sm_cl w (sm_X2_findOverlap w.1 (w.k tx0 (by decide)) (w.k tx1 (by decide))) (fun _ h2 e w2 => ?_)
  have hF2 : sv_FP h2 = F := (ow_X2_findOverlap sv_clT trivial trivial e).2.1.1.trans hF
  clear e w hF
  have hF := hF2
  have w := w2
  clear hF2 w2
  exact sm_rt w
theorem sm_X2_read_165b {h0 : sv_H} {k165 : Nat → Nat → Int32 → Int32 → sv_H → Option (Unit × sv_H)} {j165 : Nat → Nat → Int32 → Int32 → vt_S → Option (Unit × vt_S)} (hk165 : ∀ {x0 : Nat} {x1 : Nat} {x2 : Int32} {x3 : Int32} {h : sv_H}, vt_W h0 h → sv_K h0 x0 = 3 → sv_K h0 x1 = 5 → vt_sm h0 (k165 x0 x1 x2 x3 h) (j165 x0 x1 x2 x3 (vt_ab h))) {x0 : Nat} {x1 : Nat} {x2 : Int32} {x3 : Int32} {h : sv_H} (w : vt_W h0 h) (tx0 : sv_K h0 x0 = 3) (tx1 : sv_K h0 x1 = 5) : vt_sm h0 (fn_X2_read_165b k165 x0 x1 x2 x3 h) (ab_X2_read_165b j165 x0 x1 x2 x3 (vt_ab h)) := by
  unfold fn_X2_read_165b ab_X2_read_165b
  obtain ⟨F, hF⟩ : ∃ F, sv_FP h = F := ⟨_, rfl⟩
  refine sm_gI w tx0 (by decide) (fun v1 => ?_)
  refine sm_if (fun _ => ?_) (fun _ => ?_)
  · exact sm_X2_read_197 w tx0 tx1
  · refine sm_cl w (sm_X4_well w.1 (w.k tx1 (by decide))) (fun r2 h2 e w2 => ?_)
    have hF2 : sv_FP h2 = F := by rw [ro_X4_well e]; exact hF
    clear e w hF
    have hF := hF2
    have w := w2
    clear hF2 w2
    refine sm_if (fun _ => ?_) (fun _ => ?_)
    · exact sm_X2_read_197 w tx0 tx1
    · refine sm_gA w hF tx0 tk_308 (by decide) (fun v4 av4 => ?_)
      refine sm_lP (c := 12) w hF tx0 av4 tk_308 (by decide) (fun v5 tv5 => ?_)
      refine sm_cl w (sm_X2_readWall w.1 (w.k tx0 (by decide)) (w.k tx1 (by decide)) (w.k tv5 (by decide))) (fun _ h2 e w2 => ?_)
      have hF2 : sv_FP h2 = F := (ow_X2_readWall sv_clT trivial trivial trivial e).2.1.1.trans hF
      clear e w hF
      have hF := hF2
      have w := w2
      clear hF2 w2
      exact hk165 w tx0 tx1
theorem sm_X2_read_165 {h0 : sv_H} : ∀ (n : Nat) {x0 : Nat} {x1 : Nat} {x2 : Int32} {x3 : Int32} {h : sv_H}, vt_W h0 h → sv_K h0 x0 = 3 → sv_K h0 x1 = 5 → vt_sm h0 (fn_X2_read_165 n x0 x1 x2 x3 h) (ab_X2_read_165 n x0 x1 x2 x3 (vt_ab h)) := by
  intro n
  induction n with
  | zero => intro x0 x1 x2 x3 h w tx0 tx1; exact sm_no
  | succ n ih => intro x0 x1 x2 x3 h w tx0 tx1; exact sm_X2_read_165b (k165 := fn_X2_read_165 n) (j165 := ab_X2_read_165 n) (fun w tx0 tx1 => ih w tx0 tx1) w tx0 tx1
theorem sm_X2_read_158 {h0 : sv_H} {x0 : Nat} {x1 : Nat} {h : sv_H} (w : vt_W h0 h) (tx0 : sv_K h0 x0 = 3) (tx1 : sv_K h0 x1 = 5) : vt_sm h0 (fn_X2_read_158 x0 x1 h) (ab_X2_read_158 x0 x1 (vt_ab h)) := by
  unfold fn_X2_read_158 ab_X2_read_158
  obtain ⟨F, hF⟩ : ∃ F, sv_FP h = F := ⟨_, rfl⟩
  refine sm_gI w tx1 (by decide) (fun v1 => ?_)
  exact sm_X2_read_165 sv_fuel w tx0 tx1
theorem sm_X2_read_126b {h0 : sv_H} {k126 : Nat → Nat → Int32 → sv_H → Option (Unit × sv_H)} {j126 : Nat → Nat → Int32 → vt_S → Option (Unit × vt_S)} (hk126 : ∀ {x0 : Nat} {x1 : Nat} {x2 : Int32} {h : sv_H}, vt_W h0 h → sv_K h0 x0 = 3 → sv_K h0 x1 = 5 → vt_sm h0 (k126 x0 x1 x2 h) (j126 x0 x1 x2 (vt_ab h))) {x0 : Nat} {x1 : Nat} {x2 : Int32} {h : sv_H} (w : vt_W h0 h) (tx0 : sv_K h0 x0 = 3) (tx1 : sv_K h0 x1 = 5) : vt_sm h0 (fn_X2_read_126b k126 x0 x1 x2 h) (ab_X2_read_126b j126 x0 x1 x2 (vt_ab h)) := by
  unfold fn_X2_read_126b ab_X2_read_126b
  obtain ⟨F, hF⟩ : ∃ F, sv_FP h = F := ⟨_, rfl⟩
  refine sm_gI w tx0 (by decide) (fun v1 => ?_)
  refine sm_if (fun _ => ?_) (fun _ => ?_)
  · exact sm_X2_read_158 w tx0 tx1
  · refine sm_cl w (sm_X4_well w.1 (w.k tx1 (by decide))) (fun r2 h2 e w2 => ?_)
    have hF2 : sv_FP h2 = F := by rw [ro_X4_well e]; exact hF
    clear e w hF
    have hF := hF2
    have w := w2
    clear hF2 w2
    refine sm_if (fun _ => ?_) (fun _ => ?_)
    · exact sm_X2_read_158 w tx0 tx1
    · refine sm_gA w hF tx0 tk_307 (by decide) (fun v4 av4 => ?_)
      refine sm_lP (c := 7) w hF tx0 av4 tk_307 (by decide) (fun v5 tv5 => ?_)
      refine sm_cl w (sm_X2_readSector w.1 (w.k tx0 (by decide)) (w.k tx1 (by decide)) (w.k tv5 (by decide))) (fun _ h2 e w2 => ?_)
      have hF2 : sv_FP h2 = F := (ow_X2_readSector sv_clT trivial trivial trivial e).2.1.1.trans hF
      clear e w hF
      have hF := hF2
      have w := w2
      clear hF2 w2
      exact hk126 w tx0 tx1
theorem sm_X2_read_126 {h0 : sv_H} : ∀ (n : Nat) {x0 : Nat} {x1 : Nat} {x2 : Int32} {h : sv_H}, vt_W h0 h → sv_K h0 x0 = 3 → sv_K h0 x1 = 5 → vt_sm h0 (fn_X2_read_126 n x0 x1 x2 h) (ab_X2_read_126 n x0 x1 x2 (vt_ab h)) := by
  intro n
  induction n with
  | zero => intro x0 x1 x2 h w tx0 tx1; exact sm_no
  | succ n ih => intro x0 x1 x2 h w tx0 tx1; exact sm_X2_read_126b (k126 := fn_X2_read_126 n) (j126 := ab_X2_read_126 n) (fun w tx0 tx1 => ih w tx0 tx1) w tx0 tx1
theorem sm_X2_read_124 {h0 : sv_H} {x0 : Nat} {x1 : Nat} {h : sv_H} (w : vt_W h0 h) (tx0 : sv_K h0 x0 = 3) (tx1 : sv_K h0 x1 = 5) : vt_sm h0 (fn_X2_read_124 x0 x1 h) (ab_X2_read_124 x0 x1 (vt_ab h)) := by
  unfold fn_X2_read_124 ab_X2_read_124
  obtain ⟨F, hF⟩ : ∃ F, sv_FP h = F := ⟨_, rfl⟩
  exact sm_X2_read_126 sv_fuel w tx0 tx1
theorem sm_X2_read_97b {h0 : sv_H} {k97 : Nat → Nat → Int32 → sv_H → Option (Unit × sv_H)} {j97 : Nat → Nat → Int32 → vt_S → Option (Unit × vt_S)} (hk97 : ∀ {x0 : Nat} {x1 : Nat} {x2 : Int32} {h : sv_H}, vt_W h0 h → sv_K h0 x0 = 3 → sv_K h0 x1 = 5 → vt_sm h0 (k97 x0 x1 x2 h) (j97 x0 x1 x2 (vt_ab h))) {x0 : Nat} {x1 : Nat} {x2 : Int32} {h : sv_H} (w : vt_W h0 h) (tx0 : sv_K h0 x0 = 3) (tx1 : sv_K h0 x1 = 5) : vt_sm h0 (fn_X2_read_97b k97 x0 x1 x2 h) (ab_X2_read_97b j97 x0 x1 x2 (vt_ab h)) := by
  unfold fn_X2_read_97b ab_X2_read_97b
  obtain ⟨F, hF⟩ : ∃ F, sv_FP h = F := ⟨_, rfl⟩
  refine sm_gI w tx0 (by decide) (fun v1 => ?_)
  refine sm_if (fun _ => ?_) (fun _ => ?_)
  · exact sm_X2_read_124 w tx0 tx1
  · refine sm_cl w (sm_X4_well w.1 (w.k tx1 (by decide))) (fun r2 h2 e w2 => ?_)
    have hF2 : sv_FP h2 = F := by rw [ro_X4_well e]; exact hF
    clear e w hF
    have hF := hF2
    have w := w2
    clear hF2 w2
    refine sm_if (fun _ => ?_) (fun _ => ?_)
    · exact sm_X2_read_124 w tx0 tx1
    · refine sm_cl w (sm_X2_readTexture w.1 (w.k tx0 (by decide)) (w.k tx1 (by decide))) (fun _ h2 e w2 => ?_)
      have hF2 : sv_FP h2 = F := (ow_X2_readTexture sv_clT trivial trivial e).2.1.1.trans hF
      clear e w hF
      have hF := hF2
      have w := w2
      clear hF2 w2
      exact hk97 w tx0 tx1
theorem sm_X2_read_97 {h0 : sv_H} : ∀ (n : Nat) {x0 : Nat} {x1 : Nat} {x2 : Int32} {h : sv_H}, vt_W h0 h → sv_K h0 x0 = 3 → sv_K h0 x1 = 5 → vt_sm h0 (fn_X2_read_97 n x0 x1 x2 h) (ab_X2_read_97 n x0 x1 x2 (vt_ab h)) := by
  intro n
  induction n with
  | zero => intro x0 x1 x2 h w tx0 tx1; exact sm_no
  | succ n ih => intro x0 x1 x2 h w tx0 tx1; exact sm_X2_read_97b (k97 := fn_X2_read_97 n) (j97 := ab_X2_read_97 n) (fun w tx0 tx1 => ih w tx0 tx1) w tx0 tx1
theorem sm_X2_read_95 {h0 : sv_H} {x0 : Nat} {x1 : Nat} {h : sv_H} (w : vt_W h0 h) (tx0 : sv_K h0 x0 = 3) (tx1 : sv_K h0 x1 = 5) : vt_sm h0 (fn_X2_read_95 x0 x1 h) (ab_X2_read_95 x0 x1 (vt_ab h)) := by
  unfold fn_X2_read_95 ab_X2_read_95
  obtain ⟨F, hF⟩ : ∃ F, sv_FP h = F := ⟨_, rfl⟩
  exact sm_X2_read_97 sv_fuel w tx0 tx1
theorem sm_X2_read_68b {h0 : sv_H} {k68 : Nat → Nat → Int32 → sv_H → Option (Unit × sv_H)} {j68 : Nat → Nat → Int32 → vt_S → Option (Unit × vt_S)} (hk68 : ∀ {x0 : Nat} {x1 : Nat} {x2 : Int32} {h : sv_H}, vt_W h0 h → sv_K h0 x0 = 3 → sv_K h0 x1 = 5 → vt_sm h0 (k68 x0 x1 x2 h) (j68 x0 x1 x2 (vt_ab h))) {x0 : Nat} {x1 : Nat} {x2 : Int32} {h : sv_H} (w : vt_W h0 h) (tx0 : sv_K h0 x0 = 3) (tx1 : sv_K h0 x1 = 5) : vt_sm h0 (fn_X2_read_68b k68 x0 x1 x2 h) (ab_X2_read_68b j68 x0 x1 x2 (vt_ab h)) := by
  unfold fn_X2_read_68b ab_X2_read_68b
  obtain ⟨F, hF⟩ : ∃ F, sv_FP h = F := ⟨_, rfl⟩
  refine sm_gI w tx0 (by decide) (fun v1 => ?_)
  refine sm_if (fun _ => ?_) (fun _ => ?_)
  · exact sm_X2_read_95 w tx0 tx1
  · refine sm_cl w (sm_X4_well w.1 (w.k tx1 (by decide))) (fun r2 h2 e w2 => ?_)
    have hF2 : sv_FP h2 = F := by rw [ro_X4_well e]; exact hF
    clear e w hF
    have hF := hF2
    have w := w2
    clear hF2 w2
    refine sm_if (fun _ => ?_) (fun _ => ?_)
    · exact sm_X2_read_95 w tx0 tx1
    · refine sm_cl w (sm_X2_readVertex w.1 (w.k tx0 (by decide)) (w.k tx1 (by decide))) (fun _ h2 e w2 => ?_)
      have hF2 : sv_FP h2 = F := (ow_X2_readVertex sv_clT trivial trivial e).2.1.1.trans hF
      clear e w hF
      have hF := hF2
      have w := w2
      clear hF2 w2
      exact hk68 w tx0 tx1
theorem sm_X2_read_68 {h0 : sv_H} : ∀ (n : Nat) {x0 : Nat} {x1 : Nat} {x2 : Int32} {h : sv_H}, vt_W h0 h → sv_K h0 x0 = 3 → sv_K h0 x1 = 5 → vt_sm h0 (fn_X2_read_68 n x0 x1 x2 h) (ab_X2_read_68 n x0 x1 x2 (vt_ab h)) := by
  intro n
  induction n with
  | zero => intro x0 x1 x2 h w tx0 tx1; exact sm_no
  | succ n ih => intro x0 x1 x2 h w tx0 tx1; exact sm_X2_read_68b (k68 := fn_X2_read_68 n) (j68 := ab_X2_read_68 n) (fun w tx0 tx1 => ih w tx0 tx1) w tx0 tx1
theorem sm_X2_read_0 {h0 : sv_H} {x0 : Nat} {x1 : Nat} {h : sv_H} (w : vt_W h0 h) (tx0 : sv_K h0 x0 = 3) (tx1 : sv_K h0 x1 = 5) : vt_sm h0 (fn_X2_read x0 x1 h) (ab_X2_read x0 x1 (vt_ab h)) := by
  unfold fn_X2_read ab_X2_read
  obtain ⟨F, hF⟩ : ∃ F, sv_FP h = F := ⟨_, rfl⟩
  refine sm_kd w tx0 (by decide) ?_
  refine sm_cl w (sm_X4_expect w.1 (w.k tx1 (by decide))) (fun _ h2 e w2 => ?_)
  have hF2 : sv_FP h2 = F := (ow_X4_expect sv_clT trivial e).2.1.1.trans hF
  clear e w hF
  have hF := hF2
  have w := w2
  clear hF2 w2
  refine sm_cl w (sm_X4_expect w.1 (w.k tx1 (by decide))) (fun _ h2 e w2 => ?_)
  have hF2 : sv_FP h2 = F := (ow_X4_expect sv_clT trivial e).2.1.1.trans hF
  clear e w hF
  have hF := hF2
  have w := w2
  clear hF2 w2
  refine sm_cl w (sm_X4_expect w.1 (w.k tx1 (by decide))) (fun _ h2 e w2 => ?_)
  have hF2 : sv_FP h2 = F := (ow_X4_expect sv_clT trivial e).2.1.1.trans hF
  clear e w hF
  have hF := hF2
  have w := w2
  clear hF2 w2
  refine sm_cl w (sm_X4_within w.1 (w.k tx1 (by decide))) (fun r4 h2 e w2 => ?_)
  have hF2 : sv_FP h2 = F := (ow_X4_within sv_clT trivial e).2.1.1.trans hF
  clear e w hF
  have hF := hF2
  have w := w2
  clear hF2 w2
  refine sm_pI w hF tx0 (by decide) (fun h w hF => ?_)
  refine sm_cl w (sm_X4_within w.1 (w.k tx1 (by decide))) (fun r7 h2 e w2 => ?_)
  have hF2 : sv_FP h2 = F := (ow_X4_within sv_clT trivial e).2.1.1.trans hF
  clear e w hF
  have hF := hF2
  have w := w2
  clear hF2 w2
  refine sm_pI w hF tx0 (by decide) (fun h w hF => ?_)
  refine sm_cl w (sm_X4_within w.1 (w.k tx1 (by decide))) (fun r10 h2 e w2 => ?_)
  have hF2 : sv_FP h2 = F := (ow_X4_within sv_clT trivial e).2.1.1.trans hF
  clear e w hF
  have hF := hF2
  have w := w2
  clear hF2 w2
  refine sm_pI w hF tx0 (by decide) (fun h w hF => ?_)
  refine sm_cl w (sm_X4_within w.1 (w.k tx1 (by decide))) (fun r13 h2 e w2 => ?_)
  have hF2 : sv_FP h2 = F := (ow_X4_within sv_clT trivial e).2.1.1.trans hF
  clear e w hF
  have hF := hF2
  have w := w2
  clear hF2 w2
  refine sm_pI w hF tx0 (by decide) (fun h w hF => ?_)
  exact sm_X2_read_68 sv_fuel w tx0 tx1
theorem sm_X2_read {x0 : Nat} {x1 : Nat} {h : sv_H} (g : vt_G h) (tx0 : sv_K h x0 = 3) (tx1 : sv_K h x1 = 5) : vt_sm h (fn_X2_read x0 x1 h) (ab_X2_read x0 x1 (vt_ab h)) := sm_X2_read_0 ⟨g, vt_ko.refl h⟩ tx0 tx1

theorem sm_X12_swapPlans_0 {h0 : sv_H} {x0 : Nat} {h : sv_H} (w : vt_W h0 h) (tx0 : sv_K h0 x0 = 13) : vt_sm h0 (fn_X12_swapPlans x0 h) (ab_X12_swapPlans x0 (vt_ab h)) := by
  unfold fn_X12_swapPlans ab_X12_swapPlans
  obtain ⟨F, hF⟩ : ∃ F, sv_FP h = F := ⟨_, rfl⟩
  refine sm_kd w tx0 (by decide) ?_
  refine sm_gP w tx0 tk_1306 rfl (fun v1 tv1 => ?_)
  refine sm_gP w tx0 tk_1307 rfl (fun v2 tv2 => ?_)
  refine sm_pP w tx0 tv2 tk_1306 rfl (fun h w => ?_)
  clear hF
  obtain ⟨F, hF⟩ : ∃ F, sv_FP h = F := ⟨_, rfl⟩
  refine sm_pP w tx0 tv1 tk_1307 rfl (fun h w => ?_)
  clear hF
  obtain ⟨F, hF⟩ : ∃ F, sv_FP h = F := ⟨_, rfl⟩
  exact sm_rt w
theorem sm_X12_swapPlans {x0 : Nat} {h : sv_H} (g : vt_G h) (tx0 : sv_K h x0 = 13) : vt_sm h (fn_X12_swapPlans x0 h) (ab_X12_swapPlans x0 (vt_ab h)) := sm_X12_swapPlans_0 ⟨g, vt_ko.refl h⟩ tx0

theorem sm_X0_become_0 {h0 : sv_H} {x0 : Nat} {x1 : Nat} {h : sv_H} (w : vt_W h0 h) (tx0 : sv_K h0 x0 = 1) (tx1 : sv_K h0 x1 = 1) : vt_sm h0 (fn_X0_become x0 x1 h) (ab_X0_become x0 x1 (vt_ab h)) := by
  unfold fn_X0_become ab_X0_become
  obtain ⟨F, hF⟩ : ∃ F, sv_FP h = F := ⟨_, rfl⟩
  refine sm_kd w tx0 (by decide) ?_
  refine sm_gI w tx1 (by decide) (fun v1 => ?_)
  refine sm_cl w (sm_X0_makeRoom w.1 (w.k tx0 (by decide))) (fun _ h2 e w2 => ?_)
  obtain ⟨F, hF2⟩ : ∃ F, sv_FP h2 = F := ⟨_, rfl⟩
  clear e w hF
  have hF := hF2
  have w := w2
  clear hF2 w2
  refine sm_gA w hF tx1 tk_100 (by decide) (fun v3 av3 => ?_)
  refine sm_gA w hF tx0 tk_100 (by decide) (fun v4 av4 => ?_)
  refine sm_gI w tx1 (by decide) (fun v5 => ?_)
  refine sm_cp w hF tx1 av3 tk_100 tx0 av4 tk_100 (fun h w hF => ?_)
  refine sm_gI w tx1 (by decide) (fun v7 => ?_)
  refine sm_pI w hF tx0 (by decide) (fun h w hF => ?_)
  exact sm_rt w
theorem sm_X0_become {x0 : Nat} {x1 : Nat} {h : sv_H} (g : vt_G h) (tx0 : sv_K h x0 = 1) (tx1 : sv_K h x1 = 1) : vt_sm h (fn_X0_become x0 x1 h) (ab_X0_become x0 x1 (vt_ab h)) := sm_X0_become_0 ⟨g, vt_ko.refl h⟩ tx0 tx1

theorem sm_X1_makeRoom_0 {h0 : sv_H} {x0 : Nat} {x1 : Int32} {h : sv_H} (w : vt_W h0 h) (tx0 : sv_K h0 x0 = 2) : vt_sm h0 (fn_X1_makeRoom x0 x1 h) (ab_X1_makeRoom x0 x1 (vt_ab h)) := by
  unfold fn_X1_makeRoom ab_X1_makeRoom
  obtain ⟨F, hF⟩ : ∃ F, sv_FP h = F := ⟨_, rfl⟩
  refine sm_kd w tx0 (by decide) ?_
  refine sm_gA w hF tx0 tk_200 (by decide) (fun v1 av1 => ?_)
  refine sm_grI w hF tx0 av1 tk_200 rfl (fun h w => ?_)
  clear hF
  obtain ⟨F, hF⟩ : ∃ F, sv_FP h = F := ⟨_, rfl⟩
  refine sm_gA w hF tx0 tk_201 (by decide) (fun v5 av5 => ?_)
  refine sm_grI w hF tx0 av5 tk_201 rfl (fun h w => ?_)
  clear hF
  obtain ⟨F, hF⟩ : ∃ F, sv_FP h = F := ⟨_, rfl⟩
  refine sm_gA w hF tx0 tk_202 (by decide) (fun v9 av9 => ?_)
  refine sm_grJ w hF tx0 av9 tk_202 rfl (fun h w => ?_)
  clear hF
  obtain ⟨F, hF⟩ : ∃ F, sv_FP h = F := ⟨_, rfl⟩
  refine sm_gA w hF tx0 tk_203 (by decide) (fun v13 av13 => ?_)
  refine sm_grJ w hF tx0 av13 tk_203 rfl (fun h w => ?_)
  clear hF
  obtain ⟨F, hF⟩ : ∃ F, sv_FP h = F := ⟨_, rfl⟩
  refine sm_gA w hF tx0 tk_204 (by decide) (fun v17 av17 => ?_)
  refine sm_grJ w hF tx0 av17 tk_204 rfl (fun h w => ?_)
  clear hF
  obtain ⟨F, hF⟩ : ∃ F, sv_FP h = F := ⟨_, rfl⟩
  refine sm_gA w hF tx0 tk_205 (by decide) (fun v21 av21 => ?_)
  refine sm_grJ w hF tx0 av21 tk_205 rfl (fun h w => ?_)
  clear hF
  obtain ⟨F, hF⟩ : ∃ F, sv_FP h = F := ⟨_, rfl⟩
  exact sm_rt w
theorem sm_X1_makeRoom {x0 : Nat} {x1 : Int32} {h : sv_H} (g : vt_G h) (tx0 : sv_K h x0 = 2) : vt_sm h (fn_X1_makeRoom x0 x1 h) (ab_X1_makeRoom x0 x1 (vt_ab h)) := sm_X1_makeRoom_0 ⟨g, vt_ko.refl h⟩ tx0

theorem sm_X1_add_22 {h0 : sv_H} {x0 : Nat} {x1 : Int32} {h : sv_H} (w : vt_W h0 h) (tx0 : sv_K h0 x0 = 2) : vt_sm h0 (fn_X1_add_22 x0 x1 h) (ab_X1_add_22 x0 x1 (vt_ab h)) := by
  unfold fn_X1_add_22 ab_X1_add_22
  obtain ⟨F, hF⟩ : ∃ F, sv_FP h = F := ⟨_, rfl⟩
  refine sm_gI w tx0 (by decide) (fun v1 => ?_)
  refine sm_gA w hF tx0 tk_200 (by decide) (fun v2 av2 => ?_)
  refine sm_sI w hF tx0 av2 tk_200 (fun h w hF => ?_)
  refine sm_gA w hF tx0 tk_201 (by decide) (fun v4 av4 => ?_)
  refine sm_sI w hF tx0 av4 tk_201 (fun h w hF => ?_)
  refine sm_gA w hF tx0 tk_202 (by decide) (fun v6 av6 => ?_)
  refine sm_sJ w hF tx0 av6 tk_202 (fun h w hF => ?_)
  refine sm_gA w hF tx0 tk_203 (by decide) (fun v8 av8 => ?_)
  refine sm_sJ w hF tx0 av8 tk_203 (fun h w hF => ?_)
  refine sm_gA w hF tx0 tk_204 (by decide) (fun v10 av10 => ?_)
  refine sm_sJ w hF tx0 av10 tk_204 (fun h w hF => ?_)
  refine sm_gA w hF tx0 tk_205 (by decide) (fun v12 av12 => ?_)
  refine sm_sJ w hF tx0 av12 tk_205 (fun h w hF => ?_)
  refine sm_gI w tx0 (by decide) (fun v14 => ?_)
  refine sm_pI w hF tx0 (by decide) (fun h w hF => ?_)
  exact sm_rt w
theorem sm_X1_add_0 {h0 : sv_H} {x0 : Nat} {x1 : Int32} {h : sv_H} (w : vt_W h0 h) (tx0 : sv_K h0 x0 = 2) : vt_sm h0 (fn_X1_add x0 x1 h) (ab_X1_add x0 x1 (vt_ab h)) := by
  unfold fn_X1_add ab_X1_add
  obtain ⟨F, hF⟩ : ∃ F, sv_FP h = F := ⟨_, rfl⟩
  refine sm_kd w tx0 (by decide) ?_
  refine sm_gI w tx0 (by decide) (fun v1 => ?_)
  refine sm_gA w hF tx0 tk_200 (by decide) (fun v2 av2 => ?_)
  refine sm_len w hF tx0 av2 tk_200 (by decide) (fun _ => ?_)
  refine sm_if (fun _ => ?_) (fun _ => ?_)
  · refine sm_gI w tx0 (by decide) (fun v4 => ?_)
    refine sm_cl w (sm_X1_makeRoom w.1 (w.k tx0 (by decide))) (fun _ h2 e w2 => ?_)
    obtain ⟨F, hF2⟩ : ∃ F, sv_FP h2 = F := ⟨_, rfl⟩
    clear e w hF
    have hF := hF2
    have w := w2
    clear hF2 w2
    exact sm_X1_add_22 w tx0
  · exact sm_X1_add_22 w tx0
theorem sm_X1_add {x0 : Nat} {x1 : Int32} {h : sv_H} (g : vt_G h) (tx0 : sv_K h x0 = 2) : vt_sm h (fn_X1_add x0 x1 h) (ab_X1_add x0 x1 (vt_ab h)) := sm_X1_add_0 ⟨g, vt_ko.refl h⟩ tx0

theorem sm_X1_chainWhole_53 {h0 : sv_H} {s0 : Int32} {h : sv_H} (w : vt_W h0 h) : vt_sm h0 (fn_X1_chainWhole_53 s0 h) (ab_X1_chainWhole_53 s0 (vt_ab h)) := by
  unfold fn_X1_chainWhole_53 ab_X1_chainWhole_53
  obtain ⟨F, hF⟩ : ∃ F, sv_FP h = F := ⟨_, rfl⟩
  exact sm_rt w
theorem sm_X1_chainWhole_37 {h0 : sv_H} {k7 : Nat → Int32 → Int32 → sv_H → Option (Int32 × sv_H)} {j7 : Nat → Int32 → Int32 → vt_S → Option (Int32 × vt_S)} (hk7 : ∀ {x0 : Nat} {x1 : Int32} {x2 : Int32} {h : sv_H}, vt_W h0 h → sv_K h0 x0 = 2 → vt_sm h0 (k7 x0 x1 x2 h) (j7 x0 x1 x2 (vt_ab h))) {x0 : Nat} {x1 : Int32} {x2 : Int32} {s0 : Nat} {s0o : Nat} {s1 : Int32} {s2 : Int32} {h : sv_H} (w : vt_W h0 h) (tx0 : sv_K h0 x0 = 2) (ts0 : sv_K h0 s0o = 2) (as0 : sv_FP h 201 s0o = s0) : vt_sm h0 (fn_X1_chainWhole_37 k7 x0 x1 x2 s0 s1 s2 h) (ab_X1_chainWhole_37 j7 x0 x1 x2 s0o s1 s2 (vt_ab h)) := by
  unfold fn_X1_chainWhole_37 ab_X1_chainWhole_37
  obtain ⟨F, hF⟩ : ∃ F, sv_FP h = F := ⟨_, rfl⟩
  rw [hF] at as0
  refine sm_sI w hF ts0 as0 tk_201 (fun h w hF => ?_)
  exact hk7 w tx0
theorem sm_X1_chainWhole_7b {h0 : sv_H} {k7 : Nat → Int32 → Int32 → sv_H → Option (Int32 × sv_H)} {j7 : Nat → Int32 → Int32 → vt_S → Option (Int32 × vt_S)} (hk7 : ∀ {x0 : Nat} {x1 : Int32} {x2 : Int32} {h : sv_H}, vt_W h0 h → sv_K h0 x0 = 2 → vt_sm h0 (k7 x0 x1 x2 h) (j7 x0 x1 x2 (vt_ab h))) {x0 : Nat} {x1 : Int32} {x2 : Int32} {h : sv_H} (w : vt_W h0 h) (tx0 : sv_K h0 x0 = 2) : vt_sm h0 (fn_X1_chainWhole_7b k7 x0 x1 x2 h) (ab_X1_chainWhole_7b j7 x0 x1 x2 (vt_ab h)) := by
  unfold fn_X1_chainWhole_7b ab_X1_chainWhole_7b
  obtain ⟨F, hF⟩ : ∃ F, sv_FP h = F := ⟨_, rfl⟩
  refine sm_if (fun _ => ?_) (fun _ => ?_)
  · refine sm_if (fun _ => ?_) (fun _ => ?_)
    · exact sm_X1_chainWhole_53 w
    · exact sm_X1_chainWhole_53 w
  · refine sm_cl w (sm_X1_add w.1 (w.k tx0 (by decide))) (fun r1 h2 e w2 => ?_)
    obtain ⟨F, hF2⟩ : ∃ F, sv_FP h2 = F := ⟨_, rfl⟩
    clear e w hF
    have hF := hF2
    have w := w2
    clear hF2 w2
    refine sm_gA w hF tx0 tk_201 (by decide) (fun v3 av3 => ?_)
    refine sm_if (fun _ => ?_) (fun _ => ?_)
    · exact sm_X1_chainWhole_37 (k7 := k7) (j7 := j7) hk7 w tx0 tx0 (by rw [hF]; exact av3)
    · exact sm_X1_chainWhole_37 (k7 := k7) (j7 := j7) hk7 w tx0 tx0 (by rw [hF]; exact av3)
theorem sm_X1_chainWhole_7 {h0 : sv_H} : ∀ (n : Nat) {x0 : Nat} {x1 : Int32} {x2 : Int32} {h : sv_H}, vt_W h0 h → sv_K h0 x0 = 2 → vt_sm h0 (fn_X1_chainWhole_7 n x0 x1 x2 h) (ab_X1_chainWhole_7 n x0 x1 x2 (vt_ab h)) := by
  intro n
  induction n with
  | zero => intro x0 x1 x2 h w tx0; exact sm_no
  | succ n ih => intro x0 x1 x2 h w tx0; exact sm_X1_chainWhole_7b (k7 := fn_X1_chainWhole_7 n) (j7 := ab_X1_chainWhole_7 n) (fun w tx0 => ih w tx0) w tx0
theorem sm_X1_chainWhole_0 {h0 : sv_H} {x0 : Nat} {x1 : Int32} {h : sv_H} (w : vt_W h0 h) (tx0 : sv_K h0 x0 = 2) : vt_sm h0 (fn_X1_chainWhole x0 x1 h) (ab_X1_chainWhole x0 x1 (vt_ab h)) := by
  unfold fn_X1_chainWhole ab_X1_chainWhole
  obtain ⟨F, hF⟩ : ∃ F, sv_FP h = F := ⟨_, rfl⟩
  refine sm_kd w tx0 (by decide) ?_
  refine sm_pI w hF tx0 (by decide) (fun h w hF => ?_)
  exact sm_X1_chainWhole_7 sv_fuel w tx0
theorem sm_X1_chainWhole {x0 : Nat} {x1 : Int32} {h : sv_H} (g : vt_G h) (tx0 : sv_K h x0 = 2) : vt_sm h (fn_X1_chainWhole x0 x1 h) (ab_X1_chainWhole x0 x1 (vt_ab h)) := sm_X1_chainWhole_0 ⟨g, vt_ko.refl h⟩ tx0

theorem sm_X8_open_50 {h0 : sv_H} {h : sv_H} (w : vt_W h0 h) : vt_sm h0 (fn_X8_open_50 h) (ab_X8_open_50 (vt_ab h)) := by
  unfold fn_X8_open_50 ab_X8_open_50
  obtain ⟨F, hF⟩ : ∃ F, sv_FP h = F := ⟨_, rfl⟩
  exact sm_rt w
theorem sm_X8_open_0 {h0 : sv_H} {x0 : Nat} {x1 : Int32} {x2 : Int32} {x3 : Int32} {h : sv_H} (w : vt_W h0 h) (tx0 : sv_K h0 x0 = 9) : vt_sm h0 (fn_X8_open x0 x1 x2 x3 h) (ab_X8_open x0 x1 x2 x3 (vt_ab h)) := by
  unfold fn_X8_open ab_X8_open
  obtain ⟨F, hF⟩ : ∃ F, sv_FP h = F := ⟨_, rfl⟩
  refine sm_kd w tx0 (by decide) ?_
  refine sm_gI w tx0 (by decide) (fun v1 => ?_)
  refine sm_if (fun _ => ?_) (fun _ => ?_)
  · exact sm_X8_open_50 w
  · refine sm_gA w hF tx0 tk_907 (by decide) (fun v2 av2 => ?_)
    refine sm_gI w tx0 (by decide) (fun v3 => ?_)
    refine sm_sI w hF tx0 av2 tk_907 (fun h w hF => ?_)
    refine sm_gA w hF tx0 tk_908 (by decide) (fun v5 av5 => ?_)
    refine sm_gI w tx0 (by decide) (fun v6 => ?_)
    refine sm_sI w hF tx0 av5 tk_908 (fun h w hF => ?_)
    refine sm_gA w hF tx0 tk_909 (by decide) (fun v8 av8 => ?_)
    refine sm_gI w tx0 (by decide) (fun v9 => ?_)
    refine sm_sZ w hF tx0 av8 tk_909 (fun h w hF => ?_)
    refine sm_gI w tx0 (by decide) (fun v11 => ?_)
    refine sm_pI w hF tx0 (by decide) (fun h w hF => ?_)
    exact sm_X8_open_50 w
theorem sm_X8_open {x0 : Nat} {x1 : Int32} {x2 : Int32} {x3 : Int32} {h : sv_H} (g : vt_G h) (tx0 : sv_K h x0 = 9) : vt_sm h (fn_X8_open x0 x1 x2 x3 h) (ab_X8_open x0 x1 x2 x3 (vt_ab h)) := sm_X8_open_0 ⟨g, vt_ko.refl h⟩ tx0

theorem sm_X8_hang_27 {h0 : sv_H} {h : sv_H} (w : vt_W h0 h) : vt_sm h0 (fn_X8_hang_27 h) (ab_X8_hang_27 (vt_ab h)) := by
  unfold fn_X8_hang_27 ab_X8_hang_27
  obtain ⟨F, hF⟩ : ∃ F, sv_FP h = F := ⟨_, rfl⟩
  exact sm_rt w
theorem sm_X8_hang_0 {h0 : sv_H} {x0 : Nat} {x1 : Int32} {x2 : Int32} {x3 : Int32} {h : sv_H} (w : vt_W h0 h) (tx0 : sv_K h0 x0 = 9) : vt_sm h0 (fn_X8_hang x0 x1 x2 x3 h) (ab_X8_hang x0 x1 x2 x3 (vt_ab h)) := by
  unfold fn_X8_hang ab_X8_hang
  obtain ⟨F, hF⟩ : ∃ F, sv_FP h = F := ⟨_, rfl⟩
  refine sm_kd w tx0 (by decide) ?_
  refine sm_if (fun _ => ?_) (fun _ => ?_)
  · exact sm_rt w
  · refine sm_if (fun _ => ?_) (fun _ => ?_)
    · refine sm_gA w hF tx0 tk_903 (by decide) (fun v1 av1 => ?_)
      refine sm_sI w hF tx0 av1 tk_903 (fun h w hF => ?_)
      exact sm_X8_hang_27 w
    · refine sm_gA w hF tx0 tk_902 (by decide) (fun v3 av3 => ?_)
      refine sm_sI w hF tx0 av3 tk_902 (fun h w hF => ?_)
      exact sm_X8_hang_27 w
theorem sm_X8_hang {x0 : Nat} {x1 : Int32} {x2 : Int32} {x3 : Int32} {h : sv_H} (g : vt_G h) (tx0 : sv_K h x0 = 9) : vt_sm h (fn_X8_hang x0 x1 x2 x3 h) (ab_X8_hang x0 x1 x2 x3 (vt_ab h)) := sm_X8_hang_0 ⟨g, vt_ko.refl h⟩ tx0

theorem sm_X12_compareQuotients_160 {h0 : sv_H} {h : sv_H} (w : vt_W h0 h) : vt_sm h0 (fn_X12_compareQuotients_160 h) (ab_X12_compareQuotients_160 (vt_ab h)) := by
  unfold fn_X12_compareQuotients_160 ab_X12_compareQuotients_160
  obtain ⟨F, hF⟩ : ∃ F, sv_FP h = F := ⟨_, rfl⟩
  exact sm_rt w
theorem sm_X12_compareQuotients_137 {h0 : sv_H} {s0 : Int32} {h : sv_H} (w : vt_W h0 h) : vt_sm h0 (fn_X12_compareQuotients_137 s0 h) (ab_X12_compareQuotients_137 s0 (vt_ab h)) := by
  unfold fn_X12_compareQuotients_137 ab_X12_compareQuotients_137
  obtain ⟨F, hF⟩ : ∃ F, sv_FP h = F := ⟨_, rfl⟩
  exact sm_rt w
theorem sm_X12_compareQuotients_125 {h0 : sv_H} {x21 : Int64} {h : sv_H} (w : vt_W h0 h) : vt_sm h0 (fn_X12_compareQuotients_125 x21 h) (ab_X12_compareQuotients_125 x21 (vt_ab h)) := by
  unfold fn_X12_compareQuotients_125 ab_X12_compareQuotients_125
  obtain ⟨F, hF⟩ : ∃ F, sv_FP h = F := ⟨_, rfl⟩
  refine sm_if (fun _ => ?_) (fun _ => ?_)
  · exact sm_X12_compareQuotients_137 w
  · exact sm_X12_compareQuotients_137 w
theorem sm_X12_compareQuotients_111 {h0 : sv_H} {k17 : Int64 → Int64 → Int64 → Int64 → Int32 → sv_H → Option (Int32 × sv_H)} {j17 : Int64 → Int64 → Int64 → Int64 → Int32 → vt_S → Option (Int32 × vt_S)} (hk17 : ∀ {x8 : Int64} {x10 : Int64} {x12 : Int64} {x14 : Int64} {x16 : Int32} {h : sv_H}, vt_W h0 h → vt_sm h0 (k17 x8 x10 x12 x14 x16 h) (j17 x8 x10 x12 x14 x16 (vt_ab h))) {x10 : Int64} {x14 : Int64} {x16 : Int32} {x21 : Int64} {x23 : Int64} {h : sv_H} (w : vt_W h0 h) : vt_sm h0 (fn_X12_compareQuotients_111 k17 x10 x14 x16 x21 x23 h) (ab_X12_compareQuotients_111 j17 x10 x14 x16 x21 x23 (vt_ab h)) := by
  unfold fn_X12_compareQuotients_111 ab_X12_compareQuotients_111
  obtain ⟨F, hF⟩ : ∃ F, sv_FP h = F := ⟨_, rfl⟩
  refine sm_if (fun _ => ?_) (fun _ => ?_)
  · exact sm_X12_compareQuotients_125 w
  · refine sm_if (fun _ => ?_) (fun _ => ?_)
    · exact sm_X12_compareQuotients_125 w
    · exact hk17 w
theorem sm_X12_compareQuotients_74 {h0 : sv_H} {s0 : Int32} {h : sv_H} (w : vt_W h0 h) : vt_sm h0 (fn_X12_compareQuotients_74 s0 h) (ab_X12_compareQuotients_74 s0 (vt_ab h)) := by
  unfold fn_X12_compareQuotients_74 ab_X12_compareQuotients_74
  obtain ⟨F, hF⟩ : ∃ F, sv_FP h = F := ⟨_, rfl⟩
  exact sm_rt w
theorem sm_X12_compareQuotients_17b {h0 : sv_H} {k17 : Int64 → Int64 → Int64 → Int64 → Int32 → sv_H → Option (Int32 × sv_H)} {j17 : Int64 → Int64 → Int64 → Int64 → Int32 → vt_S → Option (Int32 × vt_S)} (hk17 : ∀ {x8 : Int64} {x10 : Int64} {x12 : Int64} {x14 : Int64} {x16 : Int32} {h : sv_H}, vt_W h0 h → vt_sm h0 (k17 x8 x10 x12 x14 x16 h) (j17 x8 x10 x12 x14 x16 (vt_ab h))) {x8 : Int64} {x10 : Int64} {x12 : Int64} {x14 : Int64} {x16 : Int32} {h : sv_H} (w : vt_W h0 h) : vt_sm h0 (fn_X12_compareQuotients_17b k17 x8 x10 x12 x14 x16 h) (ab_X12_compareQuotients_17b j17 x8 x10 x12 x14 x16 (vt_ab h)) := by
  unfold fn_X12_compareQuotients_17b ab_X12_compareQuotients_17b
  obtain ⟨F, hF⟩ : ∃ F, sv_FP h = F := ⟨_, rfl⟩
  refine sm_if (fun _ => ?_) (fun _ => ?_)
  · exact sm_X12_compareQuotients_160 w
  · refine sm_if (fun _ => ?_) (fun _ => ?_)
    · exact sm_X12_compareQuotients_160 w
    · refine sm_if (fun _ => ?_) (fun _ => ?_)
      · exact sm_X12_compareQuotients_160 w
      · refine sm_if (fun _ => sm_no) (fun _ => ?_)
        refine sm_if (fun _ => sm_no) (fun _ => ?_)
        refine sm_if (fun _ => ?_) (fun _ => ?_)
        · refine sm_if (fun _ => ?_) (fun _ => ?_)
          · refine sm_if (fun _ => ?_) (fun _ => ?_)
            · exact sm_rt w
            · exact sm_X12_compareQuotients_111 (k17 := k17) (j17 := j17) hk17 w
          · exact sm_X12_compareQuotients_111 (k17 := k17) (j17 := j17) hk17 w
        · refine sm_if (fun _ => ?_) (fun _ => ?_)
          · exact sm_X12_compareQuotients_74 w
          · exact sm_X12_compareQuotients_74 w
theorem sm_X12_compareQuotients_17 {h0 : sv_H} : ∀ (n : Nat) {x8 : Int64} {x10 : Int64} {x12 : Int64} {x14 : Int64} {x16 : Int32} {h : sv_H}, vt_W h0 h → vt_sm h0 (fn_X12_compareQuotients_17 n x8 x10 x12 x14 x16 h) (ab_X12_compareQuotients_17 n x8 x10 x12 x14 x16 (vt_ab h)) := by
  intro n
  induction n with
  | zero => intro x8 x10 x12 x14 x16 h w; exact sm_no
  | succ n ih => intro x8 x10 x12 x14 x16 h w; exact sm_X12_compareQuotients_17b (k17 := fn_X12_compareQuotients_17 n) (j17 := ab_X12_compareQuotients_17 n) (fun w => ih w) w
theorem sm_X12_compareQuotients_0 {h0 : sv_H} {x0 : Int64} {x2 : Int64} {x4 : Int64} {x6 : Int64} {h : sv_H} (w : vt_W h0 h) : vt_sm h0 (fn_X12_compareQuotients x0 x2 x4 x6 h) (ab_X12_compareQuotients x0 x2 x4 x6 (vt_ab h)) := by
  unfold fn_X12_compareQuotients ab_X12_compareQuotients
  obtain ⟨F, hF⟩ : ∃ F, sv_FP h = F := ⟨_, rfl⟩
  exact sm_X12_compareQuotients_17 sv_fuel w
theorem sm_X12_compareQuotients {x0 : Int64} {x2 : Int64} {x4 : Int64} {x6 : Int64} {h : sv_H} (g : vt_G h) : vt_sm h (fn_X12_compareQuotients x0 x2 x4 x6 h) (ab_X12_compareQuotients x0 x2 x4 x6 (vt_ab h)) := sm_X12_compareQuotients_0 ⟨g, vt_ko.refl h⟩

theorem sm_X1_sideAt_85 {h0 : sv_H} {s0 : Int32} {h : sv_H} (w : vt_W h0 h) : vt_sm h0 (fn_X1_sideAt_85 s0 h) (ab_X1_sideAt_85 s0 (vt_ab h)) := by
  unfold fn_X1_sideAt_85 ab_X1_sideAt_85
  obtain ⟨F, hF⟩ : ∃ F, sv_FP h = F := ⟨_, rfl⟩
  exact sm_rt w
theorem sm_X1_sideAt_82 {h0 : sv_H} {s0 : Int64} {h : sv_H} (w : vt_W h0 h) : vt_sm h0 (fn_X1_sideAt_82 s0 h) (ab_X1_sideAt_82 s0 (vt_ab h)) := by
  unfold fn_X1_sideAt_82 ab_X1_sideAt_82
  obtain ⟨F, hF⟩ : ∃ F, sv_FP h = F := ⟨_, rfl⟩
  refine sm_cl w (sm_J13_signum_95d88 w.1) (fun r1 h2 e w2 => ?_)
  have hF2 : sv_FP h2 = F := by rw [ro_J13_signum_95d88 e]; exact hF
  clear e w hF
  have hF := hF2
  have w := w2
  clear hF2 w2
  exact sm_X1_sideAt_85 w
theorem sm_X1_sideAt_0 {h0 : sv_H} {x0 : Int64} {x2 : Int64} {x4 : Int64} {x6 : Int64} {h : sv_H} (w : vt_W h0 h) : vt_sm h0 (fn_X1_sideAt x0 x2 x4 x6 h) (ab_X1_sideAt x0 x2 x4 x6 (vt_ab h)) := by
  unfold fn_X1_sideAt ab_X1_sideAt
  obtain ⟨F, hF⟩ : ∃ F, sv_FP h = F := ⟨_, rfl⟩
  refine sm_if (fun _ => ?_) (fun _ => ?_)
  · refine sm_cl w (sm_J13_signum_95d88 w.1) (fun r13 h2 e w2 => ?_)
    have hF2 : sv_FP h2 = F := by rw [ro_J13_signum_95d88 e]; exact hF
    clear e w hF
    have hF := hF2
    have w := w2
    clear hF2 w2
    exact sm_rt w
  · refine sm_if (fun _ => ?_) (fun _ => ?_)
    · refine sm_cl w (sm_J13_signum_95d88 w.1) (fun r11 h2 e w2 => ?_)
      have hF2 : sv_FP h2 = F := by rw [ro_J13_signum_95d88 e]; exact hF
      clear e w hF
      have hF := hF2
      have w := w2
      clear hF2 w2
      exact sm_rt w
    · refine sm_cl w (sm_J13_signum_95d88 w.1) (fun r1 h2 e w2 => ?_)
      have hF2 : sv_FP h2 = F := by rw [ro_J13_signum_95d88 e]; exact hF
      clear e w hF
      have hF := hF2
      have w := w2
      clear hF2 w2
      refine sm_cl w (sm_J13_signum_95d88 w.1) (fun r3 h2 e w2 => ?_)
      have hF2 : sv_FP h2 = F := by rw [ro_J13_signum_95d88 e]; exact hF
      clear e w hF
      have hF := hF2
      have w := w2
      clear hF2 w2
      refine sm_if (fun _ => ?_) (fun _ => ?_)
      · refine sm_let (fun _ => ?_)
        refine sm_let (fun _ => ?_)
        refine sm_cl w (sm_X12_compareQuotients w.1) (fun r7 h2 e w2 => ?_)
        have hF2 : sv_FP h2 = F := by rw [ro_X12_compareQuotients e]; exact hF
        clear e w hF
        have hF := hF2
        have w := w2
        clear hF2 w2
        refine sm_if (fun _ => ?_) (fun _ => ?_)
        · exact sm_X1_sideAt_85 w
        · refine sm_if (fun _ => ?_) (fun _ => ?_)
          · exact sm_X1_sideAt_82 w
          · exact sm_X1_sideAt_82 w
      · refine sm_cl w (sm_J13_signum_95d88 w.1) (fun r9 h2 e w2 => ?_)
        have hF2 : sv_FP h2 = F := by rw [ro_J13_signum_95d88 e]; exact hF
        clear e w hF
        have hF := hF2
        have w := w2
        clear hF2 w2
        exact sm_rt w
theorem sm_X1_sideAt {x0 : Int64} {x2 : Int64} {x4 : Int64} {x6 : Int64} {h : sv_H} (g : vt_G h) : vt_sm h (fn_X1_sideAt x0 x2 x4 x6 h) (ab_X1_sideAt x0 x2 x4 x6 (vt_ab h)) := sm_X1_sideAt_0 ⟨g, vt_ko.refl h⟩

theorem sm_X1_lieOf_107 {h0 : sv_H} {s0 : Int32} {h : sv_H} (w : vt_W h0 h) : vt_sm h0 (fn_X1_lieOf_107 s0 h) (ab_X1_lieOf_107 s0 (vt_ab h)) := by
  unfold fn_X1_lieOf_107 ab_X1_lieOf_107
  obtain ⟨F, hF⟩ : ∃ F, sv_FP h = F := ⟨_, rfl⟩
  exact sm_rt w
theorem sm_X1_lieOf_0 {h0 : sv_H} {x0 : Nat} {x1 : Nat} {x2 : Int32} {x3 : Nat} {h : sv_H} (w : vt_W h0 h) (tx0 : sv_K h0 x0 = 2) (tx1 : sv_K h0 x1 = 3) (tx3 : sv_K h0 x3 = 12) : vt_sm h0 (fn_X1_lieOf x0 x1 x2 x3 h) (ab_X1_lieOf x0 x1 x2 x3 (vt_ab h)) := by
  unfold fn_X1_lieOf ab_X1_lieOf
  obtain ⟨F, hF⟩ : ∃ F, sv_FP h = F := ⟨_, rfl⟩
  refine sm_kd w tx0 (by decide) ?_
  refine sm_gA w hF tx1 tk_308 (by decide) (fun v1 av1 => ?_)
  refine sm_gA w hF tx0 tk_200 (by decide) (fun v2 av2 => ?_)
  refine sm_lI w hF tx0 av2 tk_200 (fun _ => ?_)
  refine sm_lP (c := 12) w hF tx1 av1 tk_308 (by decide) (fun v4 tv4 => ?_)
  refine sm_gI w tv4 (by decide) (fun v5 => ?_)
  refine sm_gI w tv4 (by decide) (fun v6 => ?_)
  refine sm_cl w (sm_X11_sideOf w.1 (w.k tx3 (by decide))) (fun r7 h2 e w2 => ?_)
  have hF2 : sv_FP h2 = F := by rw [ro_X11_sideOf e]; exact hF
  clear e w hF
  have hF := hF2
  have w := w2
  clear hF2 w2
  refine sm_gI w tv4 (by decide) (fun v9 => ?_)
  refine sm_gI w tv4 (by decide) (fun v10 => ?_)
  refine sm_cl w (sm_X11_sideOf w.1 (w.k tx3 (by decide))) (fun r11 h2 e w2 => ?_)
  have hF2 : sv_FP h2 = F := by rw [ro_X11_sideOf e]; exact hF
  clear e w hF
  have hF := hF2
  have w := w2
  clear hF2 w2
  refine sm_gA w hF tx0 tk_202 (by decide) (fun v13 av13 => ?_)
  refine sm_lJ w hF tx0 av13 tk_202 (fun _ => ?_)
  refine sm_gA w hF tx0 tk_203 (by decide) (fun v15 av15 => ?_)
  refine sm_lJ w hF tx0 av15 tk_203 (fun _ => ?_)
  refine sm_cl w (sm_X1_sideAt w.1) (fun r17 h2 e w2 => ?_)
  have hF2 : sv_FP h2 = F := by rw [ro_X1_sideAt e]; exact hF
  clear e w hF
  have hF := hF2
  have w := w2
  clear hF2 w2
  refine sm_gA w hF tx0 tk_204 (by decide) (fun v19 av19 => ?_)
  refine sm_lJ w hF tx0 av19 tk_204 (fun _ => ?_)
  refine sm_gA w hF tx0 tk_205 (by decide) (fun v21 av21 => ?_)
  refine sm_lJ w hF tx0 av21 tk_205 (fun _ => ?_)
  refine sm_cl w (sm_X1_sideAt w.1) (fun r23 h2 e w2 => ?_)
  have hF2 : sv_FP h2 = F := by rw [ro_X1_sideAt e]; exact hF
  clear e w hF
  have hF := hF2
  have w := w2
  clear hF2 w2
  refine sm_if (fun _ => ?_) (fun _ => ?_)
  · refine sm_cl w (sm_J6_signum_0f7a4 w.1) (fun r25 h2 e w2 => ?_)
    have hF2 : sv_FP h2 = F := by rw [ro_J6_signum_0f7a4 e]; exact hF
    clear e w hF
    have hF := hF2
    have w := w2
    clear hF2 w2
    exact sm_X1_lieOf_107 w
  · exact sm_X1_lieOf_107 w
theorem sm_X1_lieOf {x0 : Nat} {x1 : Nat} {x2 : Int32} {x3 : Nat} {h : sv_H} (g : vt_G h) (tx0 : sv_K h x0 = 2) (tx1 : sv_K h x1 = 3) (tx3 : sv_K h x3 = 12) : vt_sm h (fn_X1_lieOf x0 x1 x2 x3 h) (ab_X1_lieOf x0 x1 x2 x3 (vt_ab h)) := sm_X1_lieOf_0 ⟨g, vt_ko.refl h⟩ tx0 tx1 tx3

theorem sm_X8_costOf_76 {h0 : sv_H} {x4 : Int32} {x5 : Int32} {h : sv_H} (w : vt_W h0 h) : vt_sm h0 (fn_X8_costOf_76 x4 x5 h) (ab_X8_costOf_76 x4 x5 (vt_ab h)) := by
  unfold fn_X8_costOf_76 ab_X8_costOf_76
  obtain ⟨F, hF⟩ : ∃ F, sv_FP h = F := ⟨_, rfl⟩
  refine sm_let (fun _ => ?_)
  exact sm_rt w
theorem sm_X8_costOf_58 {h0 : sv_H} {k12 : Nat → Nat → Nat → Int32 → Int32 → Int32 → Int32 → sv_H → Option (Int32 × sv_H)} {j12 : Nat → Nat → Nat → Int32 → Int32 → Int32 → Int32 → vt_S → Option (Int32 × vt_S)} (hk12 : ∀ {x0 : Nat} {x1 : Nat} {x3 : Nat} {x4 : Int32} {x5 : Int32} {x6 : Int32} {x7 : Int32} {h : sv_H}, vt_W h0 h → sv_K h0 x0 = 9 → sv_K h0 x1 = 3 → sv_K h0 x3 = 12 → vt_sm h0 (k12 x0 x1 x3 x4 x5 x6 x7 h) (j12 x0 x1 x3 x4 x5 x6 x7 (vt_ab h))) {x0 : Nat} {x1 : Nat} {x3 : Nat} {x4 : Int32} {x5 : Int32} {x6 : Int32} {x7 : Int32} {h : sv_H} (w : vt_W h0 h) (tx0 : sv_K h0 x0 = 9) (tx1 : sv_K h0 x1 = 3) (tx3 : sv_K h0 x3 = 12) : vt_sm h0 (fn_X8_costOf_58 k12 x0 x1 x3 x4 x5 x6 x7 h) (ab_X8_costOf_58 j12 x0 x1 x3 x4 x5 x6 x7 (vt_ab h)) := by
  unfold fn_X8_costOf_58 ab_X8_costOf_58
  obtain ⟨F, hF⟩ : ∃ F, sv_FP h = F := ⟨_, rfl⟩
  refine sm_gP w tx0 tk_900 rfl (fun v1 tv1 => ?_)
  refine sm_gA w hF tv1 tk_201 (by decide) (fun v2 av2 => ?_)
  refine sm_lI w hF tv1 av2 tk_201 (fun _ => ?_)
  exact hk12 w tx0 tx1 tx3
theorem sm_X8_costOf_12b {h0 : sv_H} {k12 : Nat → Nat → Nat → Int32 → Int32 → Int32 → Int32 → sv_H → Option (Int32 × sv_H)} {j12 : Nat → Nat → Nat → Int32 → Int32 → Int32 → Int32 → vt_S → Option (Int32 × vt_S)} (hk12 : ∀ {x0 : Nat} {x1 : Nat} {x3 : Nat} {x4 : Int32} {x5 : Int32} {x6 : Int32} {x7 : Int32} {h : sv_H}, vt_W h0 h → sv_K h0 x0 = 9 → sv_K h0 x1 = 3 → sv_K h0 x3 = 12 → vt_sm h0 (k12 x0 x1 x3 x4 x5 x6 x7 h) (j12 x0 x1 x3 x4 x5 x6 x7 (vt_ab h))) {x0 : Nat} {x1 : Nat} {x3 : Nat} {x4 : Int32} {x5 : Int32} {x6 : Int32} {x7 : Int32} {h : sv_H} (w : vt_W h0 h) (tx0 : sv_K h0 x0 = 9) (tx1 : sv_K h0 x1 = 3) (tx3 : sv_K h0 x3 = 12) : vt_sm h0 (fn_X8_costOf_12b k12 x0 x1 x3 x4 x5 x6 x7 h) (ab_X8_costOf_12b j12 x0 x1 x3 x4 x5 x6 x7 (vt_ab h)) := by
  unfold fn_X8_costOf_12b ab_X8_costOf_12b
  obtain ⟨F, hF⟩ : ∃ F, sv_FP h = F := ⟨_, rfl⟩
  refine sm_if (fun _ => ?_) (fun _ => ?_)
  · exact sm_X8_costOf_76 w
  · refine sm_if (fun _ => ?_) (fun _ => ?_)
    · exact sm_X8_costOf_76 w
    · refine sm_gP w tx0 tk_900 rfl (fun v1 tv1 => ?_)
      refine sm_cl w (sm_X1_lieOf w.1 (w.k tv1 (by decide)) (w.k tx1 (by decide)) (w.k tx3 (by decide))) (fun r2 h2 e w2 => ?_)
      have hF2 : sv_FP h2 = F := by rw [ro_X1_lieOf e]; exact hF
      clear e w hF
      have hF := hF2
      have w := w2
      clear hF2 w2
      refine sm_if (fun _ => ?_) (fun _ => ?_)
      · exact sm_X8_costOf_58 (k12 := k12) (j12 := j12) hk12 w tx0 tx1 tx3
      · exact sm_X8_costOf_58 (k12 := k12) (j12 := j12) hk12 w tx0 tx1 tx3
theorem sm_X8_costOf_12 {h0 : sv_H} : ∀ (n : Nat) {x0 : Nat} {x1 : Nat} {x3 : Nat} {x4 : Int32} {x5 : Int32} {x6 : Int32} {x7 : Int32} {h : sv_H}, vt_W h0 h → sv_K h0 x0 = 9 → sv_K h0 x1 = 3 → sv_K h0 x3 = 12 → vt_sm h0 (fn_X8_costOf_12 n x0 x1 x3 x4 x5 x6 x7 h) (ab_X8_costOf_12 n x0 x1 x3 x4 x5 x6 x7 (vt_ab h)) := by
  intro n
  induction n with
  | zero => intro x0 x1 x3 x4 x5 x6 x7 h w tx0 tx1 tx3; exact sm_no
  | succ n ih => intro x0 x1 x3 x4 x5 x6 x7 h w tx0 tx1 tx3; exact sm_X8_costOf_12b (k12 := fn_X8_costOf_12 n) (j12 := ab_X8_costOf_12 n) (fun w tx0 tx1 tx3 => ih w tx0 tx1 tx3) w tx0 tx1 tx3
theorem sm_X8_costOf_0 {h0 : sv_H} {x0 : Nat} {x1 : Nat} {x2 : Int32} {x3 : Nat} {h : sv_H} (w : vt_W h0 h) (tx0 : sv_K h0 x0 = 9) (tx1 : sv_K h0 x1 = 3) (tx3 : sv_K h0 x3 = 12) : vt_sm h0 (fn_X8_costOf x0 x1 x2 x3 h) (ab_X8_costOf x0 x1 x2 x3 (vt_ab h)) := by
  unfold fn_X8_costOf ab_X8_costOf
  obtain ⟨F, hF⟩ : ∃ F, sv_FP h = F := ⟨_, rfl⟩
  refine sm_kd w tx0 (by decide) ?_
  exact sm_X8_costOf_12 sv_fuel w tx0 tx1 tx3
theorem sm_X8_costOf {x0 : Nat} {x1 : Nat} {x2 : Int32} {x3 : Nat} {h : sv_H} (g : vt_G h) (tx0 : sv_K h x0 = 9) (tx1 : sv_K h x1 = 3) (tx3 : sv_K h x3 = 12) : vt_sm h (fn_X8_costOf x0 x1 x2 x3 h) (ab_X8_costOf x0 x1 x2 x3 (vt_ab h)) := sm_X8_costOf_0 ⟨g, vt_ko.refl h⟩ tx0 tx1 tx3

theorem sm_X8_bestLine_96 {h0 : sv_H} {x3 : Int32} {h : sv_H} (w : vt_W h0 h) : vt_sm h0 (fn_X8_bestLine_96 x3 h) (ab_X8_bestLine_96 x3 (vt_ab h)) := by
  unfold fn_X8_bestLine_96 ab_X8_bestLine_96
  obtain ⟨F, hF⟩ : ∃ F, sv_FP h = F := ⟨_, rfl⟩
  exact sm_rt w
theorem sm_X8_bestLine_78 {h0 : sv_H} {k20 : Nat → Nat → Int32 → Int32 → Int32 → Int32 → Int32 → sv_H → Option (Int32 × sv_H)} {j20 : Nat → Nat → Int32 → Int32 → Int32 → Int32 → Int32 → vt_S → Option (Int32 × vt_S)} (hk20 : ∀ {x0 : Nat} {x1 : Nat} {x2 : Int32} {x3 : Int32} {x4 : Int32} {x5 : Int32} {x6 : Int32} {h : sv_H}, vt_W h0 h → sv_K h0 x0 = 9 → sv_K h0 x1 = 3 → vt_sm h0 (k20 x0 x1 x2 x3 x4 x5 x6 h) (j20 x0 x1 x2 x3 x4 x5 x6 (vt_ab h))) {x0 : Nat} {x1 : Nat} {x2 : Int32} {x3 : Int32} {x4 : Int32} {x5 : Int32} {x6 : Int32} {h : sv_H} (w : vt_W h0 h) (tx0 : sv_K h0 x0 = 9) (tx1 : sv_K h0 x1 = 3) : vt_sm h0 (fn_X8_bestLine_78 k20 x0 x1 x2 x3 x4 x5 x6 h) (ab_X8_bestLine_78 j20 x0 x1 x2 x3 x4 x5 x6 (vt_ab h)) := by
  unfold fn_X8_bestLine_78 ab_X8_bestLine_78
  obtain ⟨F, hF⟩ : ∃ F, sv_FP h = F := ⟨_, rfl⟩
  refine sm_gP w tx0 tk_900 rfl (fun v1 tv1 => ?_)
  refine sm_gA w hF tv1 tk_201 (by decide) (fun v2 av2 => ?_)
  refine sm_lI w hF tv1 av2 tk_201 (fun _ => ?_)
  exact hk20 w tx0 tx1
theorem sm_X8_bestLine_20b {h0 : sv_H} {k20 : Nat → Nat → Int32 → Int32 → Int32 → Int32 → Int32 → sv_H → Option (Int32 × sv_H)} {j20 : Nat → Nat → Int32 → Int32 → Int32 → Int32 → Int32 → vt_S → Option (Int32 × vt_S)} (hk20 : ∀ {x0 : Nat} {x1 : Nat} {x2 : Int32} {x3 : Int32} {x4 : Int32} {x5 : Int32} {x6 : Int32} {h : sv_H}, vt_W h0 h → sv_K h0 x0 = 9 → sv_K h0 x1 = 3 → vt_sm h0 (k20 x0 x1 x2 x3 x4 x5 x6 h) (j20 x0 x1 x2 x3 x4 x5 x6 (vt_ab h))) {x0 : Nat} {x1 : Nat} {x2 : Int32} {x3 : Int32} {x4 : Int32} {x5 : Int32} {x6 : Int32} {h : sv_H} (w : vt_W h0 h) (tx0 : sv_K h0 x0 = 9) (tx1 : sv_K h0 x1 = 3) : vt_sm h0 (fn_X8_bestLine_20b k20 x0 x1 x2 x3 x4 x5 x6 h) (ab_X8_bestLine_20b j20 x0 x1 x2 x3 x4 x5 x6 (vt_ab h)) := by
  unfold fn_X8_bestLine_20b ab_X8_bestLine_20b
  obtain ⟨F, hF⟩ : ∃ F, sv_FP h = F := ⟨_, rfl⟩
  refine sm_if (fun _ => ?_) (fun _ => ?_)
  · exact sm_X8_bestLine_96 w
  · refine sm_if (fun _ => ?_) (fun _ => ?_)
    · exact sm_X8_bestLine_96 w
    · refine sm_gA w hF tx1 tk_308 (by decide) (fun v1 av1 => ?_)
      refine sm_gP w tx0 tk_900 rfl (fun v2 tv2 => ?_)
      refine sm_gA w hF tv2 tk_200 (by decide) (fun v3 av3 => ?_)
      refine sm_lI w hF tv2 av3 tk_200 (fun _ => ?_)
      refine sm_lP (c := 12) w hF tx1 av1 tk_308 (by decide) (fun v5 tv5 => ?_)
      refine sm_cl w (sm_X8_costOf w.1 (w.k tx0 (by decide)) (w.k tx1 (by decide)) (w.k tv5 (by decide))) (fun r6 h2 e w2 => ?_)
      have hF2 : sv_FP h2 = F := by rw [ro_X8_costOf e]; exact hF
      clear e w hF
      have hF := hF2
      have w := w2
      clear hF2 w2
      refine sm_if (fun _ => ?_) (fun _ => ?_)
      · exact sm_X8_bestLine_78 (k20 := k20) (j20 := j20) hk20 w tx0 tx1
      · refine sm_gP w tx0 tk_900 rfl (fun v8 tv8 => ?_)
        refine sm_gA w hF tv8 tk_200 (by decide) (fun v9 av9 => ?_)
        refine sm_lI w hF tv8 av9 tk_200 (fun _ => ?_)
        exact sm_X8_bestLine_78 (k20 := k20) (j20 := j20) hk20 w tx0 tx1
theorem sm_X8_bestLine_20 {h0 : sv_H} : ∀ (n : Nat) {x0 : Nat} {x1 : Nat} {x2 : Int32} {x3 : Int32} {x4 : Int32} {x5 : Int32} {x6 : Int32} {h : sv_H}, vt_W h0 h → sv_K h0 x0 = 9 → sv_K h0 x1 = 3 → vt_sm h0 (fn_X8_bestLine_20 n x0 x1 x2 x3 x4 x5 x6 h) (ab_X8_bestLine_20 n x0 x1 x2 x3 x4 x5 x6 (vt_ab h)) := by
  intro n
  induction n with
  | zero => intro x0 x1 x2 x3 x4 x5 x6 h w tx0 tx1; exact sm_no
  | succ n ih => intro x0 x1 x2 x3 x4 x5 x6 h w tx0 tx1; exact sm_X8_bestLine_20b (k20 := fn_X8_bestLine_20 n) (j20 := ab_X8_bestLine_20 n) (fun w tx0 tx1 => ih w tx0 tx1) w tx0 tx1
theorem sm_X8_bestLine_0 {h0 : sv_H} {x0 : Nat} {x1 : Nat} {x2 : Int32} {h : sv_H} (w : vt_W h0 h) (tx0 : sv_K h0 x0 = 9) (tx1 : sv_K h0 x1 = 3) : vt_sm h0 (fn_X8_bestLine x0 x1 x2 h) (ab_X8_bestLine x0 x1 x2 (vt_ab h)) := by
  unfold fn_X8_bestLine ab_X8_bestLine
  obtain ⟨F, hF⟩ : ∃ F, sv_FP h = F := ⟨_, rfl⟩
  refine sm_kd w tx0 (by decide) ?_
  refine sm_gP w tx0 tk_900 rfl (fun v1 tv1 => ?_)
  refine sm_gA w hF tv1 tk_200 (by decide) (fun v2 av2 => ?_)
  refine sm_lI w hF tv1 av2 tk_200 (fun _ => ?_)
  exact sm_X8_bestLine_20 sv_fuel w tx0 tx1
theorem sm_X8_bestLine {x0 : Nat} {x1 : Nat} {x2 : Int32} {h : sv_H} (g : vt_G h) (tx0 : sv_K h x0 = 9) (tx1 : sv_K h x1 = 3) : vt_sm h (fn_X8_bestLine x0 x1 x2 h) (ab_X8_bestLine x0 x1 x2 (vt_ab h)) := sm_X8_bestLine_0 ⟨g, vt_ko.refl h⟩ tx0 tx1

theorem sm_X8_makeRoom_0 {h0 : sv_H} {x0 : Nat} {x1 : Int32} {h : sv_H} (w : vt_W h0 h) (tx0 : sv_K h0 x0 = 9) : vt_sm h0 (fn_X8_makeRoom x0 x1 h) (ab_X8_makeRoom x0 x1 (vt_ab h)) := by
  unfold fn_X8_makeRoom ab_X8_makeRoom
  obtain ⟨F, hF⟩ : ∃ F, sv_FP h = F := ⟨_, rfl⟩
  refine sm_kd w tx0 (by decide) ?_
  refine sm_gA w hF tx0 tk_901 (by decide) (fun v1 av1 => ?_)
  refine sm_grI w hF tx0 av1 tk_901 rfl (fun h w => ?_)
  clear hF
  obtain ⟨F, hF⟩ : ∃ F, sv_FP h = F := ⟨_, rfl⟩
  refine sm_gA w hF tx0 tk_902 (by decide) (fun v5 av5 => ?_)
  refine sm_grI w hF tx0 av5 tk_902 rfl (fun h w => ?_)
  clear hF
  obtain ⟨F, hF⟩ : ∃ F, sv_FP h = F := ⟨_, rfl⟩
  refine sm_gA w hF tx0 tk_903 (by decide) (fun v9 av9 => ?_)
  refine sm_grI w hF tx0 av9 tk_903 rfl (fun h w => ?_)
  clear hF
  obtain ⟨F, hF⟩ : ∃ F, sv_FP h = F := ⟨_, rfl⟩
  refine sm_gA w hF tx0 tk_904 (by decide) (fun v13 av13 => ?_)
  refine sm_grI w hF tx0 av13 tk_904 rfl (fun h w => ?_)
  clear hF
  obtain ⟨F, hF⟩ : ∃ F, sv_FP h = F := ⟨_, rfl⟩
  refine sm_gA w hF tx0 tk_905 (by decide) (fun v17 av17 => ?_)
  refine sm_grI w hF tx0 av17 tk_905 rfl (fun h w => ?_)
  clear hF
  obtain ⟨F, hF⟩ : ∃ F, sv_FP h = F := ⟨_, rfl⟩
  refine sm_gA w hF tx0 tk_906 (by decide) (fun v21 av21 => ?_)
  refine sm_grI w hF tx0 av21 tk_906 rfl (fun h w => ?_)
  clear hF
  obtain ⟨F, hF⟩ : ∃ F, sv_FP h = F := ⟨_, rfl⟩
  exact sm_rt w
theorem sm_X8_makeRoom {x0 : Nat} {x1 : Int32} {h : sv_H} (g : vt_G h) (tx0 : sv_K h x0 = 9) : vt_sm h (fn_X8_makeRoom x0 x1 h) (ab_X8_makeRoom x0 x1 (vt_ab h)) := sm_X8_makeRoom_0 ⟨g, vt_ko.refl h⟩ tx0

theorem sm_X8_addNode_63 {h0 : sv_H} {x0 : Nat} {x3 : Int32} {s0 : Nat} {s0o : Nat} {s1 : Int32} {s2 : Int32} {h : sv_H} (w : vt_W h0 h) (tx0 : sv_K h0 x0 = 9) (ts0 : sv_K h0 s0o = 9) (as0 : sv_FP h 906 s0o = s0) : vt_sm h0 (fn_X8_addNode_63 x0 x3 s0 s1 s2 h) (ab_X8_addNode_63 x0 x3 s0o s1 s2 (vt_ab h)) := by
  unfold fn_X8_addNode_63 ab_X8_addNode_63
  obtain ⟨F, hF⟩ : ∃ F, sv_FP h = F := ⟨_, rfl⟩
  rw [hF] at as0
  refine sm_sI w hF ts0 as0 tk_906 (fun h w hF => ?_)
  refine sm_gI w tx0 (by decide) (fun v2 => ?_)
  refine sm_pI w hF tx0 (by decide) (fun h w hF => ?_)
  exact sm_rt w
theorem sm_X8_addNode_22 {h0 : sv_H} {x0 : Nat} {x1 : Int32} {x2 : Int32} {h : sv_H} (w : vt_W h0 h) (tx0 : sv_K h0 x0 = 9) : vt_sm h0 (fn_X8_addNode_22 x0 x1 x2 h) (ab_X8_addNode_22 x0 x1 x2 (vt_ab h)) := by
  unfold fn_X8_addNode_22 ab_X8_addNode_22
  obtain ⟨F, hF⟩ : ∃ F, sv_FP h = F := ⟨_, rfl⟩
  refine sm_gI w tx0 (by decide) (fun v1 => ?_)
  refine sm_gA w hF tx0 tk_901 (by decide) (fun v2 av2 => ?_)
  refine sm_sI w hF tx0 av2 tk_901 (fun h w hF => ?_)
  refine sm_gA w hF tx0 tk_904 (by decide) (fun v4 av4 => ?_)
  refine sm_sI w hF tx0 av4 tk_904 (fun h w hF => ?_)
  refine sm_gA w hF tx0 tk_906 (by decide) (fun v6 av6 => ?_)
  refine sm_if (fun _ => ?_) (fun _ => ?_)
  · exact sm_X8_addNode_63 w tx0 tx0 (by rw [hF]; exact av6)
  · refine sm_gA w hF tx0 tk_906 (by decide) (fun v7 av7 => ?_)
    refine sm_lI w hF tx0 av7 tk_906 (fun _ => ?_)
    exact sm_X8_addNode_63 w tx0 tx0 (by rw [hF]; exact av6)
theorem sm_X8_addNode_0 {h0 : sv_H} {x0 : Nat} {x1 : Int32} {x2 : Int32} {h : sv_H} (w : vt_W h0 h) (tx0 : sv_K h0 x0 = 9) : vt_sm h0 (fn_X8_addNode x0 x1 x2 h) (ab_X8_addNode x0 x1 x2 (vt_ab h)) := by
  unfold fn_X8_addNode ab_X8_addNode
  obtain ⟨F, hF⟩ : ∃ F, sv_FP h = F := ⟨_, rfl⟩
  refine sm_kd w tx0 (by decide) ?_
  refine sm_gI w tx0 (by decide) (fun v1 => ?_)
  refine sm_gA w hF tx0 tk_901 (by decide) (fun v2 av2 => ?_)
  refine sm_len w hF tx0 av2 tk_901 (by decide) (fun _ => ?_)
  refine sm_if (fun _ => ?_) (fun _ => ?_)
  · refine sm_gI w tx0 (by decide) (fun v4 => ?_)
    refine sm_cl w (sm_X8_makeRoom w.1 (w.k tx0 (by decide))) (fun _ h2 e w2 => ?_)
    obtain ⟨F, hF2⟩ : ∃ F, sv_FP h2 = F := ⟨_, rfl⟩
    clear e w hF
    have hF := hF2
    have w := w2
    clear hF2 w2
    exact sm_X8_addNode_22 w tx0
  · exact sm_X8_addNode_22 w tx0
theorem sm_X8_addNode {x0 : Nat} {x1 : Int32} {x2 : Int32} {h : sv_H} (g : vt_G h) (tx0 : sv_K h x0 = 9) : vt_sm h (fn_X8_addNode x0 x1 x2 h) (ab_X8_addNode x0 x1 x2 (vt_ab h)) := sm_X8_addNode_0 ⟨g, vt_ko.refl h⟩ tx0

theorem sm_X1_cut_0 {h0 : sv_H} {x0 : Nat} {x1 : Nat} {x2 : Int32} {x3 : Nat} {h : sv_H} (w : vt_W h0 h) (tx0 : sv_K h0 x0 = 2) (tx1 : sv_K h0 x1 = 3) (tx3 : sv_K h0 x3 = 12) : vt_sm h0 (fn_X1_cut x0 x1 x2 x3 h) (ab_X1_cut x0 x1 x2 x3 (vt_ab h)) := by
  unfold fn_X1_cut ab_X1_cut
  obtain ⟨F, hF⟩ : ∃ F, sv_FP h = F := ⟨_, rfl⟩
  refine sm_kd w tx0 (by decide) ?_
  refine sm_gA w hF tx1 tk_308 (by decide) (fun v1 av1 => ?_)
  refine sm_gA w hF tx0 tk_200 (by decide) (fun v2 av2 => ?_)
  refine sm_lI w hF tx0 av2 tk_200 (fun _ => ?_)
  refine sm_lP (c := 12) w hF tx1 av1 tk_308 (by decide) (fun v4 tv4 => ?_)
  refine sm_gI w tv4 (by decide) (fun v5 => ?_)
  refine sm_gI w tv4 (by decide) (fun v6 => ?_)
  refine sm_cl w (sm_X11_sideOf w.1 (w.k tx3 (by decide))) (fun r7 h2 e w2 => ?_)
  have hF2 : sv_FP h2 = F := by rw [ro_X11_sideOf e]; exact hF
  clear e w hF
  have hF := hF2
  have w := w2
  clear hF2 w2
  refine sm_gI w tv4 (by decide) (fun v9 => ?_)
  refine sm_gI w tv4 (by decide) (fun v10 => ?_)
  refine sm_cl w (sm_X11_sideOf w.1 (w.k tx3 (by decide))) (fun r11 h2 e w2 => ?_)
  have hF2 : sv_FP h2 = F := by rw [ro_X11_sideOf e]; exact hF
  clear e w hF
  have hF := hF2
  have w := w2
  clear hF2 w2
  refine sm_gA w hF tx0 tk_200 (by decide) (fun v13 av13 => ?_)
  refine sm_lI w hF tx0 av13 tk_200 (fun _ => ?_)
  refine sm_cl w (sm_X1_add w.1 (w.k tx0 (by decide))) (fun r15 h2 e w2 => ?_)
  obtain ⟨F, hF2⟩ : ∃ F, sv_FP h2 = F := ⟨_, rfl⟩
  clear e w hF
  have hF := hF2
  have w := w2
  clear hF2 w2
  refine sm_gA w hF tx0 tk_202 (by decide) (fun v17 av17 => ?_)
  refine sm_let (fun _ => ?_)
  refine sm_sJ w hF tx0 av17 tk_202 (fun h w hF => ?_)
  refine sm_gA w hF tx0 tk_203 (by decide) (fun v20 av20 => ?_)
  refine sm_let (fun _ => ?_)
  refine sm_sJ w hF tx0 av20 tk_203 (fun h w hF => ?_)
  refine sm_gA w hF tx0 tk_204 (by decide) (fun v23 av23 => ?_)
  refine sm_gA w hF tx0 tk_204 (by decide) (fun v24 av24 => ?_)
  refine sm_lJ w hF tx0 av24 tk_204 (fun _ => ?_)
  refine sm_sJ w hF tx0 av23 tk_204 (fun h w hF => ?_)
  refine sm_gA w hF tx0 tk_205 (by decide) (fun v27 av27 => ?_)
  refine sm_gA w hF tx0 tk_205 (by decide) (fun v28 av28 => ?_)
  refine sm_lJ w hF tx0 av28 tk_205 (fun _ => ?_)
  refine sm_sJ w hF tx0 av27 tk_205 (fun h w hF => ?_)
  refine sm_gA w hF tx0 tk_204 (by decide) (fun v31 av31 => ?_)
  refine sm_gA w hF tx0 tk_202 (by decide) (fun v32 av32 => ?_)
  refine sm_lJ w hF tx0 av32 tk_202 (fun _ => ?_)
  refine sm_sJ w hF tx0 av31 tk_204 (fun h w hF => ?_)
  refine sm_gA w hF tx0 tk_205 (by decide) (fun v35 av35 => ?_)
  refine sm_gA w hF tx0 tk_203 (by decide) (fun v36 av36 => ?_)
  refine sm_lJ w hF tx0 av36 tk_203 (fun _ => ?_)
  refine sm_sJ w hF tx0 av35 tk_205 (fun h w hF => ?_)
  exact sm_rt w
theorem sm_X1_cut {x0 : Nat} {x1 : Nat} {x2 : Int32} {x3 : Nat} {h : sv_H} (g : vt_G h) (tx0 : sv_K h x0 = 2) (tx1 : sv_K h x1 = 3) (tx3 : sv_K h x3 = 12) : vt_sm h (fn_X1_cut x0 x1 x2 x3 h) (ab_X1_cut x0 x1 x2 x3 (vt_ab h)) := sm_X1_cut_0 ⟨g, vt_ko.refl h⟩ tx0 tx1 tx3

theorem sm_X8_append_86 {h0 : sv_H} {h : sv_H} (w : vt_W h0 h) : vt_sm h0 (fn_X8_append_86 h) (ab_X8_append_86 (vt_ab h)) := by
  unfold fn_X8_append_86 ab_X8_append_86
  obtain ⟨F, hF⟩ : ∃ F, sv_FP h = F := ⟨_, rfl⟩
  exact sm_rt w
theorem sm_X8_append_81 {h0 : sv_H} {x0 : Nat} {x1 : Int32} {h : sv_H} (w : vt_W h0 h) (tx0 : sv_K h0 x0 = 9) : vt_sm h0 (fn_X8_append_81 x0 x1 h) (ab_X8_append_81 x0 x1 (vt_ab h)) := by
  unfold fn_X8_append_81 ab_X8_append_81
  obtain ⟨F, hF⟩ : ∃ F, sv_FP h = F := ⟨_, rfl⟩
  refine sm_pI w hF tx0 (by decide) (fun h w hF => ?_)
  exact sm_X8_append_86 w
theorem sm_X8_append_44 {h0 : sv_H} {x0 : Nat} {x1 : Int32} {h : sv_H} (w : vt_W h0 h) (tx0 : sv_K h0 x0 = 9) : vt_sm h0 (fn_X8_append_44 x0 x1 h) (ab_X8_append_44 x0 x1 (vt_ab h)) := by
  unfold fn_X8_append_44 ab_X8_append_44
  obtain ⟨F, hF⟩ : ∃ F, sv_FP h = F := ⟨_, rfl⟩
  refine sm_pI w hF tx0 (by decide) (fun h w hF => ?_)
  exact sm_X8_append_86 w
theorem sm_X8_append_0 {h0 : sv_H} {x0 : Nat} {x1 : Int32} {x2 : Int32} {h : sv_H} (w : vt_W h0 h) (tx0 : sv_K h0 x0 = 9) : vt_sm h0 (fn_X8_append x0 x1 x2 h) (ab_X8_append x0 x1 x2 (vt_ab h)) := by
  unfold fn_X8_append ab_X8_append
  obtain ⟨F, hF⟩ : ∃ F, sv_FP h = F := ⟨_, rfl⟩
  refine sm_kd w tx0 (by decide) ?_
  refine sm_gP w tx0 tk_900 rfl (fun v1 tv1 => ?_)
  refine sm_gA w hF tv1 tk_201 (by decide) (fun v2 av2 => ?_)
  refine sm_sI w hF tv1 av2 tk_201 (fun h w hF => ?_)
  refine sm_if (fun _ => ?_) (fun _ => ?_)
  · refine sm_gI w tx0 (by decide) (fun v10 => ?_)
    refine sm_if (fun _ => ?_) (fun _ => ?_)
    · refine sm_pI w hF tx0 (by decide) (fun h w hF => ?_)
      exact sm_X8_append_44 w tx0
    · refine sm_gP w tx0 tk_900 rfl (fun v11 tv11 => ?_)
      refine sm_gA w hF tv11 tk_201 (by decide) (fun v12 av12 => ?_)
      refine sm_gI w tx0 (by decide) (fun v13 => ?_)
      refine sm_sI w hF tv11 av12 tk_201 (fun h w hF => ?_)
      exact sm_X8_append_44 w tx0
  · refine sm_gI w tx0 (by decide) (fun v4 => ?_)
    refine sm_if (fun _ => ?_) (fun _ => ?_)
    · refine sm_pI w hF tx0 (by decide) (fun h w hF => ?_)
      exact sm_X8_append_81 w tx0
    · refine sm_gP w tx0 tk_900 rfl (fun v5 tv5 => ?_)
      refine sm_gA w hF tv5 tk_201 (by decide) (fun v6 av6 => ?_)
      refine sm_gI w tx0 (by decide) (fun v7 => ?_)
      refine sm_sI w hF tv5 av6 tk_201 (fun h w hF => ?_)
      exact sm_X8_append_81 w tx0
theorem sm_X8_append {x0 : Nat} {x1 : Int32} {x2 : Int32} {h : sv_H} (g : vt_G h) (tx0 : sv_K h x0 = 9) : vt_sm h (fn_X8_append x0 x1 x2 h) (ab_X8_append x0 x1 x2 (vt_ab h)) := sm_X8_append_0 ⟨g, vt_ko.refl h⟩ tx0

theorem sm_X8_split_174 {h0 : sv_H} {h : sv_H} (w : vt_W h0 h) : vt_sm h0 (fn_X8_split_174 h) (ab_X8_split_174 (vt_ab h)) := by
  unfold fn_X8_split_174 ab_X8_split_174
  obtain ⟨F, hF⟩ : ∃ F, sv_FP h = F := ⟨_, rfl⟩
  exact sm_rt w
theorem sm_X8_split_164 {h0 : sv_H} {k29 : Nat → Nat → Int32 → Nat → Int32 → Int32 → sv_H → Option (Unit × sv_H)} {j29 : Nat → Nat → Int32 → Nat → Int32 → Int32 → vt_S → Option (Unit × vt_S)} (hk29 : ∀ {x0 : Nat} {x1 : Nat} {x3 : Int32} {x4 : Nat} {x5 : Int32} {x6 : Int32} {h : sv_H}, vt_W h0 h → sv_K h0 x0 = 9 → sv_K h0 x1 = 3 → sv_K h0 x4 = 12 → vt_sm h0 (k29 x0 x1 x3 x4 x5 x6 h) (j29 x0 x1 x3 x4 x5 x6 (vt_ab h))) {x0 : Nat} {x1 : Nat} {x3 : Int32} {x4 : Nat} {x6 : Int32} {x7 : Int32} {h : sv_H} (w : vt_W h0 h) (tx0 : sv_K h0 x0 = 9) (tx1 : sv_K h0 x1 = 3) (tx4 : sv_K h0 x4 = 12) : vt_sm h0 (fn_X8_split_164 k29 x0 x1 x3 x4 x6 x7 h) (ab_X8_split_164 j29 x0 x1 x3 x4 x6 x7 (vt_ab h)) := by
  unfold fn_X8_split_164 ab_X8_split_164
  obtain ⟨F, hF⟩ : ∃ F, sv_FP h = F := ⟨_, rfl⟩
  exact hk29 w tx0 tx1 tx4
theorem sm_X8_split_29b {h0 : sv_H} {k29 : Nat → Nat → Int32 → Nat → Int32 → Int32 → sv_H → Option (Unit × sv_H)} {j29 : Nat → Nat → Int32 → Nat → Int32 → Int32 → vt_S → Option (Unit × vt_S)} (hk29 : ∀ {x0 : Nat} {x1 : Nat} {x3 : Int32} {x4 : Nat} {x5 : Int32} {x6 : Int32} {h : sv_H}, vt_W h0 h → sv_K h0 x0 = 9 → sv_K h0 x1 = 3 → sv_K h0 x4 = 12 → vt_sm h0 (k29 x0 x1 x3 x4 x5 x6 h) (j29 x0 x1 x3 x4 x5 x6 (vt_ab h))) {x0 : Nat} {x1 : Nat} {x3 : Int32} {x4 : Nat} {x5 : Int32} {x6 : Int32} {h : sv_H} (w : vt_W h0 h) (tx0 : sv_K h0 x0 = 9) (tx1 : sv_K h0 x1 = 3) (tx4 : sv_K h0 x4 = 12) : vt_sm h0 (fn_X8_split_29b k29 x0 x1 x3 x4 x5 x6 h) (ab_X8_split_29b j29 x0 x1 x3 x4 x5 x6 (vt_ab h)) := by
  unfold fn_X8_split_29b ab_X8_split_29b
  obtain ⟨F, hF⟩ : ∃ F, sv_FP h = F := ⟨_, rfl⟩
  refine sm_if (fun _ => ?_) (fun _ => ?_)
  · exact sm_X8_split_174 w
  · refine sm_if (fun _ => ?_) (fun _ => ?_)
    · exact sm_X8_split_174 w
    · refine sm_gP w tx0 tk_900 rfl (fun v1 tv1 => ?_)
      refine sm_gA w hF tv1 tk_201 (by decide) (fun v2 av2 => ?_)
      refine sm_lI w hF tv1 av2 tk_201 (fun _ => ?_)
      refine sm_gP w tx0 tk_900 rfl (fun v4 tv4 => ?_)
      refine sm_cl w (sm_X1_lieOf w.1 (w.k tv4 (by decide)) (w.k tx1 (by decide)) (w.k tx4 (by decide))) (fun r5 h2 e w2 => ?_)
      have hF2 : sv_FP h2 = F := by rw [ro_X1_lieOf e]; exact hF
      clear e w hF
      have hF := hF2
      have w := w2
      clear hF2 w2
      refine sm_if (fun _ => ?_) (fun _ => ?_)
      · refine sm_gA w hF tx0 tk_904 (by decide) (fun v19 av19 => ?_)
        refine sm_lI w hF tx0 av19 tk_904 (fun _ => ?_)
        refine sm_sI w hF tx0 av19 tk_904 (fun h w hF => ?_)
        refine sm_gI w tx0 (by decide) (fun v22 => ?_)
        refine sm_pI w hF tx0 (by decide) (fun h w hF => ?_)
        exact sm_X8_split_164 (k29 := k29) (j29 := j29) hk29 w tx0 tx1 tx4
      · refine sm_if (fun _ => ?_) (fun _ => ?_)
        · refine sm_gP w tx0 tk_900 rfl (fun v8 tv8 => ?_)
          refine sm_cl w (sm_X1_cut w.1 (w.k tv8 (by decide)) (w.k tx1 (by decide)) (w.k tx4 (by decide))) (fun r9 h2 e w2 => ?_)
          obtain ⟨F, hF2⟩ : ∃ F, sv_FP h2 = F := ⟨_, rfl⟩
          clear e w hF
          have hF := hF2
          have w := w2
          clear hF2 w2
          refine sm_gP w tx0 tk_900 rfl (fun v11 tv11 => ?_)
          refine sm_cl w (sm_X1_lieOf w.1 (w.k tv11 (by decide)) (w.k tx1 (by decide)) (w.k tx4 (by decide))) (fun r12 h2 e w2 => ?_)
          have hF2 : sv_FP h2 = F := by rw [ro_X1_lieOf e]; exact hF
          clear e w hF
          have hF := hF2
          have w := w2
          clear hF2 w2
          refine sm_cl w (sm_X8_append w.1 (w.k tx0 (by decide))) (fun _ h2 e w2 => ?_)
          have hF2 : sv_FP h2 = F := (ow_X8_append sv_clT trivial e).2.1.1.trans hF
          clear e w hF
          have hF := hF2
          have w := w2
          clear hF2 w2
          refine sm_gP w tx0 tk_900 rfl (fun v15 tv15 => ?_)
          refine sm_cl w (sm_X1_lieOf w.1 (w.k tv15 (by decide)) (w.k tx1 (by decide)) (w.k tx4 (by decide))) (fun r16 h2 e w2 => ?_)
          have hF2 : sv_FP h2 = F := by rw [ro_X1_lieOf e]; exact hF
          clear e w hF
          have hF := hF2
          have w := w2
          clear hF2 w2
          refine sm_cl w (sm_X8_append w.1 (w.k tx0 (by decide))) (fun _ h2 e w2 => ?_)
          have hF2 : sv_FP h2 = F := (ow_X8_append sv_clT trivial e).2.1.1.trans hF
          clear e w hF
          have hF := hF2
          have w := w2
          clear hF2 w2
          exact sm_X8_split_164 (k29 := k29) (j29 := j29) hk29 w tx0 tx1 tx4
        · refine sm_cl w (sm_X8_append w.1 (w.k tx0 (by decide))) (fun _ h2 e w2 => ?_)
          have hF2 : sv_FP h2 = F := (ow_X8_append sv_clT trivial e).2.1.1.trans hF
          clear e w hF
          have hF := hF2
          have w := w2
          clear hF2 w2
          exact sm_X8_split_164 (k29 := k29) (j29 := j29) hk29 w tx0 tx1 tx4
theorem sm_X8_split_29 {h0 : sv_H} : ∀ (n : Nat) {x0 : Nat} {x1 : Nat} {x3 : Int32} {x4 : Nat} {x5 : Int32} {x6 : Int32} {h : sv_H}, vt_W h0 h → sv_K h0 x0 = 9 → sv_K h0 x1 = 3 → sv_K h0 x4 = 12 → vt_sm h0 (fn_X8_split_29 n x0 x1 x3 x4 x5 x6 h) (ab_X8_split_29 n x0 x1 x3 x4 x5 x6 (vt_ab h)) := by
  intro n
  induction n with
  | zero => intro x0 x1 x3 x4 x5 x6 h w tx0 tx1 tx4; exact sm_no
  | succ n ih => intro x0 x1 x3 x4 x5 x6 h w tx0 tx1 tx4; exact sm_X8_split_29b (k29 := fn_X8_split_29 n) (j29 := ab_X8_split_29 n) (fun w tx0 tx1 tx4 => ih w tx0 tx1 tx4) w tx0 tx1 tx4
theorem sm_X8_split_0 {h0 : sv_H} {x0 : Nat} {x1 : Nat} {x2 : Int32} {x3 : Int32} {h : sv_H} (w : vt_W h0 h) (tx0 : sv_K h0 x0 = 9) (tx1 : sv_K h0 x1 = 3) : vt_sm h0 (fn_X8_split x0 x1 x2 x3 h) (ab_X8_split x0 x1 x2 x3 (vt_ab h)) := by
  unfold fn_X8_split ab_X8_split
  obtain ⟨F, hF⟩ : ∃ F, sv_FP h = F := ⟨_, rfl⟩
  refine sm_kd w tx0 (by decide) ?_
  refine sm_pI w hF tx0 (by decide) (fun h w hF => ?_)
  refine sm_pI w hF tx0 (by decide) (fun h w hF => ?_)
  refine sm_gA w hF tx1 tk_308 (by decide) (fun v3 av3 => ?_)
  refine sm_gA w hF tx0 tk_901 (by decide) (fun v4 av4 => ?_)
  refine sm_lI w hF tx0 av4 tk_901 (fun _ => ?_)
  refine sm_lP (c := 12) w hF tx1 av3 tk_308 (by decide) (fun v6 tv6 => ?_)
  exact sm_X8_split_29 sv_fuel w tx0 tx1 tv6
theorem sm_X8_split {x0 : Nat} {x1 : Nat} {x2 : Int32} {x3 : Int32} {h : sv_H} (g : vt_G h) (tx0 : sv_K h x0 = 9) (tx1 : sv_K h x1 = 3) : vt_sm h (fn_X8_split x0 x1 x2 x3 h) (ab_X8_split x0 x1 x2 x3 (vt_ab h)) := sm_X8_split_0 ⟨g, vt_ko.refl h⟩ tx0 tx1

theorem sm_X8_sizeOf_14 {h0 : sv_H} {s0 : Int32} {h : sv_H} (w : vt_W h0 h) : vt_sm h0 (fn_X8_sizeOf_14 s0 h) (ab_X8_sizeOf_14 s0 (vt_ab h)) := by
  unfold fn_X8_sizeOf_14 ab_X8_sizeOf_14
  obtain ⟨F, hF⟩ : ∃ F, sv_FP h = F := ⟨_, rfl⟩
  exact sm_rt w
theorem sm_X8_sizeOf_0 {h0 : sv_H} {x0 : Nat} {x1 : Int32} {h : sv_H} (w : vt_W h0 h) (tx0 : sv_K h0 x0 = 9) : vt_sm h0 (fn_X8_sizeOf x0 x1 h) (ab_X8_sizeOf x0 x1 (vt_ab h)) := by
  unfold fn_X8_sizeOf ab_X8_sizeOf
  obtain ⟨F, hF⟩ : ∃ F, sv_FP h = F := ⟨_, rfl⟩
  refine sm_kd w tx0 (by decide) ?_
  refine sm_if (fun _ => ?_) (fun _ => ?_)
  · refine sm_gA w hF tx0 tk_905 (by decide) (fun v1 av1 => ?_)
    refine sm_lI w hF tx0 av1 tk_905 (fun _ => ?_)
    exact sm_X8_sizeOf_14 w
  · exact sm_X8_sizeOf_14 w
theorem sm_X8_sizeOf {x0 : Nat} {x1 : Int32} {h : sv_H} (g : vt_G h) (tx0 : sv_K h x0 = 9) : vt_sm h (fn_X8_sizeOf x0 x1 h) (ab_X8_sizeOf x0 x1 (vt_ab h)) := sm_X8_sizeOf_0 ⟨g, vt_ko.refl h⟩ tx0

theorem sm_X8_countSizes_7b {h0 : sv_H} {k7 : Nat → Int32 → sv_H → Option (Unit × sv_H)} {j7 : Nat → Int32 → vt_S → Option (Unit × vt_S)} (hk7 : ∀ {x0 : Nat} {x1 : Int32} {h : sv_H}, vt_W h0 h → sv_K h0 x0 = 9 → vt_sm h0 (k7 x0 x1 h) (j7 x0 x1 (vt_ab h))) {x0 : Nat} {x1 : Int32} {h : sv_H} (w : vt_W h0 h) (tx0 : sv_K h0 x0 = 9) : vt_sm h0 (fn_X8_countSizes_7b k7 x0 x1 h) (ab_X8_countSizes_7b j7 x0 x1 (vt_ab h)) := by
  unfold fn_X8_countSizes_7b ab_X8_countSizes_7b
  obtain ⟨F, hF⟩ : ∃ F, sv_FP h = F := ⟨_, rfl⟩
  refine sm_if (fun _ => ?_) (fun _ => ?_)
  · exact sm_rt w
  · refine sm_gA w hF tx0 tk_905 (by decide) (fun v1 av1 => ?_)
    refine sm_gA w hF tx0 tk_902 (by decide) (fun v2 av2 => ?_)
    refine sm_lI w hF tx0 av2 tk_902 (fun _ => ?_)
    refine sm_cl w (sm_X8_sizeOf w.1 (w.k tx0 (by decide))) (fun r4 h2 e w2 => ?_)
    have hF2 : sv_FP h2 = F := by rw [ro_X8_sizeOf e]; exact hF
    clear e w hF
    have hF := hF2
    have w := w2
    clear hF2 w2
    refine sm_gA w hF tx0 tk_903 (by decide) (fun v6 av6 => ?_)
    refine sm_lI w hF tx0 av6 tk_903 (fun _ => ?_)
    refine sm_cl w (sm_X8_sizeOf w.1 (w.k tx0 (by decide))) (fun r8 h2 e w2 => ?_)
    have hF2 : sv_FP h2 = F := by rw [ro_X8_sizeOf e]; exact hF
    clear e w hF
    have hF := hF2
    have w := w2
    clear hF2 w2
    refine sm_sI w hF tx0 av1 tk_905 (fun h w hF => ?_)
    exact hk7 w tx0
theorem sm_X8_countSizes_7 {h0 : sv_H} : ∀ (n : Nat) {x0 : Nat} {x1 : Int32} {h : sv_H}, vt_W h0 h → sv_K h0 x0 = 9 → vt_sm h0 (fn_X8_countSizes_7 n x0 x1 h) (ab_X8_countSizes_7 n x0 x1 (vt_ab h)) := by
  intro n
  induction n with
  | zero => intro x0 x1 h w tx0; exact sm_no
  | succ n ih => intro x0 x1 h w tx0; exact sm_X8_countSizes_7b (k7 := fn_X8_countSizes_7 n) (j7 := ab_X8_countSizes_7 n) (fun w tx0 => ih w tx0) w tx0
theorem sm_X8_countSizes_0 {h0 : sv_H} {x0 : Nat} {h : sv_H} (w : vt_W h0 h) (tx0 : sv_K h0 x0 = 9) : vt_sm h0 (fn_X8_countSizes x0 h) (ab_X8_countSizes x0 (vt_ab h)) := by
  unfold fn_X8_countSizes ab_X8_countSizes
  obtain ⟨F, hF⟩ : ∃ F, sv_FP h = F := ⟨_, rfl⟩
  refine sm_kd w tx0 (by decide) ?_
  refine sm_gI w tx0 (by decide) (fun v1 => ?_)
  exact sm_X8_countSizes_7 sv_fuel w tx0
theorem sm_X8_countSizes {x0 : Nat} {h : sv_H} (g : vt_G h) (tx0 : sv_K h x0 = 9) : vt_sm h (fn_X8_countSizes x0 h) (ab_X8_countSizes x0 (vt_ab h)) := sm_X8_countSizes_0 ⟨g, vt_ko.refl h⟩ tx0

theorem sm_X8_grow_186 {h0 : sv_H} {x0 : Nat} {h : sv_H} (w : vt_W h0 h) (tx0 : sv_K h0 x0 = 9) : vt_sm h0 (fn_X8_grow_186 x0 h) (ab_X8_grow_186 x0 (vt_ab h)) := by
  unfold fn_X8_grow_186 ab_X8_grow_186
  obtain ⟨F, hF⟩ : ∃ F, sv_FP h = F := ⟨_, rfl⟩
  refine sm_cl w (sm_X8_countSizes w.1 (w.k tx0 (by decide))) (fun _ h2 e w2 => ?_)
  have hF2 : sv_FP h2 = F := (ow_X8_countSizes sv_clT trivial e).2.1.1.trans hF
  clear e w hF
  have hF := hF2
  have w := w2
  clear hF2 w2
  exact sm_rt w
theorem sm_X8_grow_180 {h0 : sv_H} {k39 : Nat → Nat → Int32 → sv_H → Option (Unit × sv_H)} {j39 : Nat → Nat → Int32 → vt_S → Option (Unit × vt_S)} (hk39 : ∀ {x0 : Nat} {x1 : Nat} {x2 : Int32} {h : sv_H}, vt_W h0 h → sv_K h0 x0 = 9 → sv_K h0 x1 = 3 → vt_sm h0 (k39 x0 x1 x2 h) (j39 x0 x1 x2 (vt_ab h))) {x0 : Nat} {x1 : Nat} {x2 : Int32} {h : sv_H} (w : vt_W h0 h) (tx0 : sv_K h0 x0 = 9) (tx1 : sv_K h0 x1 = 3) : vt_sm h0 (fn_X8_grow_180 k39 x0 x1 x2 h) (ab_X8_grow_180 j39 x0 x1 x2 (vt_ab h)) := by
  unfold fn_X8_grow_180 ab_X8_grow_180
  obtain ⟨F, hF⟩ : ∃ F, sv_FP h = F := ⟨_, rfl⟩
  exact hk39 w tx0 tx1
theorem sm_X8_grow_39b {h0 : sv_H} {k39 : Nat → Nat → Int32 → sv_H → Option (Unit × sv_H)} {j39 : Nat → Nat → Int32 → vt_S → Option (Unit × vt_S)} (hk39 : ∀ {x0 : Nat} {x1 : Nat} {x2 : Int32} {h : sv_H}, vt_W h0 h → sv_K h0 x0 = 9 → sv_K h0 x1 = 3 → vt_sm h0 (k39 x0 x1 x2 h) (j39 x0 x1 x2 (vt_ab h))) {x0 : Nat} {x1 : Nat} {x2 : Int32} {h : sv_H} (w : vt_W h0 h) (tx0 : sv_K h0 x0 = 9) (tx1 : sv_K h0 x1 = 3) : vt_sm h0 (fn_X8_grow_39b k39 x0 x1 x2 h) (ab_X8_grow_39b j39 x0 x1 x2 (vt_ab h)) := by
  unfold fn_X8_grow_39b ab_X8_grow_39b
  obtain ⟨F, hF⟩ : ∃ F, sv_FP h = F := ⟨_, rfl⟩
  refine sm_if (fun _ => ?_) (fun _ => ?_)
  · exact sm_X8_grow_186 w tx0
  · refine sm_gI w tx0 (by decide) (fun v1 => ?_)
    refine sm_if (fun _ => ?_) (fun _ => ?_)
    · exact sm_X8_grow_186 w tx0
    · refine sm_gI w tx0 (by decide) (fun v2 => ?_)
      refine sm_pI w hF tx0 (by decide) (fun h w hF => ?_)
      refine sm_gA w hF tx0 tk_907 (by decide) (fun v4 av4 => ?_)
      refine sm_gI w tx0 (by decide) (fun v5 => ?_)
      refine sm_lI w hF tx0 av4 tk_907 (fun _ => ?_)
      refine sm_gA w hF tx0 tk_908 (by decide) (fun v7 av7 => ?_)
      refine sm_gI w tx0 (by decide) (fun v8 => ?_)
      refine sm_lI w hF tx0 av7 tk_908 (fun _ => ?_)
      refine sm_gA w hF tx0 tk_909 (by decide) (fun v10 av10 => ?_)
      refine sm_gI w tx0 (by decide) (fun v11 => ?_)
      refine sm_lZ w hF tx0 av10 tk_909 (fun _ => ?_)
      refine sm_if (fun _ => ?_) (fun _ => ?_)
      · refine sm_gI w tx0 (by decide) (fun v23 => ?_)
        refine sm_cl w (sm_X8_hang w.1 (w.k tx0 (by decide))) (fun _ h2 e w2 => ?_)
        have hF2 : sv_FP h2 = F := (ow_X8_hang sv_clT trivial e).2.1.1.trans hF
        clear e w hF
        have hF := hF2
        have w := w2
        clear hF2 w2
        refine sm_gI w tx0 (by decide) (fun v25 => ?_)
        refine sm_pI w hF tx0 (by decide) (fun h w hF => ?_)
        exact sm_X8_grow_180 (k39 := k39) (j39 := j39) hk39 w tx0 tx1
      · refine sm_cl w (sm_X8_bestLine w.1 (w.k tx0 (by decide)) (w.k tx1 (by decide))) (fun r13 h2 e w2 => ?_)
        have hF2 : sv_FP h2 = F := by rw [ro_X8_bestLine e]; exact hF
        clear e w hF
        have hF := hF2
        have w := w2
        clear hF2 w2
        refine sm_cl w (sm_X8_addNode w.1 (w.k tx0 (by decide))) (fun r15 h2 e w2 => ?_)
        obtain ⟨F, hF2⟩ : ∃ F, sv_FP h2 = F := ⟨_, rfl⟩
        clear e w hF
        have hF := hF2
        have w := w2
        clear hF2 w2
        refine sm_cl w (sm_X8_hang w.1 (w.k tx0 (by decide))) (fun _ h2 e w2 => ?_)
        have hF2 : sv_FP h2 = F := (ow_X8_hang sv_clT trivial e).2.1.1.trans hF
        clear e w hF
        have hF := hF2
        have w := w2
        clear hF2 w2
        refine sm_cl w (sm_X8_split w.1 (w.k tx0 (by decide)) (w.k tx1 (by decide))) (fun _ h2 e w2 => ?_)
        obtain ⟨F, hF2⟩ : ∃ F, sv_FP h2 = F := ⟨_, rfl⟩
        clear e w hF
        have hF := hF2
        have w := w2
        clear hF2 w2
        refine sm_gI w tx0 (by decide) (fun v19 => ?_)
        refine sm_cl w (sm_X8_open w.1 (w.k tx0 (by decide))) (fun _ h2 e w2 => ?_)
        have hF2 : sv_FP h2 = F := (ow_X8_open sv_clT trivial e).2.1.1.trans hF
        clear e w hF
        have hF := hF2
        have w := w2
        clear hF2 w2
        refine sm_gI w tx0 (by decide) (fun v21 => ?_)
        refine sm_cl w (sm_X8_open w.1 (w.k tx0 (by decide))) (fun _ h2 e w2 => ?_)
        have hF2 : sv_FP h2 = F := (ow_X8_open sv_clT trivial e).2.1.1.trans hF
        clear e w hF
        have hF := hF2
        have w := w2
        clear hF2 w2
        exact sm_X8_grow_180 (k39 := k39) (j39 := j39) hk39 w tx0 tx1
theorem sm_X8_grow_39 {h0 : sv_H} : ∀ (n : Nat) {x0 : Nat} {x1 : Nat} {x2 : Int32} {h : sv_H}, vt_W h0 h → sv_K h0 x0 = 9 → sv_K h0 x1 = 3 → vt_sm h0 (fn_X8_grow_39 n x0 x1 x2 h) (ab_X8_grow_39 n x0 x1 x2 (vt_ab h)) := by
  intro n
  induction n with
  | zero => intro x0 x1 x2 h w tx0 tx1; exact sm_no
  | succ n ih => intro x0 x1 x2 h w tx0 tx1; exact sm_X8_grow_39b (k39 := fn_X8_grow_39 n) (j39 := ab_X8_grow_39 n) (fun w tx0 tx1 => ih w tx0 tx1) w tx0 tx1
theorem sm_X8_grow_0 {h0 : sv_H} {x0 : Nat} {x1 : Nat} {h : sv_H} (w : vt_W h0 h) (tx0 : sv_K h0 x0 = 9) (tx1 : sv_K h0 x1 = 3) : vt_sm h0 (fn_X8_grow x0 x1 h) (ab_X8_grow x0 x1 (vt_ab h)) := by
  unfold fn_X8_grow ab_X8_grow
  obtain ⟨F, hF⟩ : ∃ F, sv_FP h = F := ⟨_, rfl⟩
  refine sm_kd w tx0 (by decide) ?_
  refine sm_pI w hF tx0 (by decide) (fun h w hF => ?_)
  refine sm_pI w hF tx0 (by decide) (fun h w hF => ?_)
  refine sm_pI w hF tx0 (by decide) (fun h w hF => ?_)
  refine sm_pI w hF tx0 (by decide) (fun h w hF => ?_)
  refine sm_gP w tx0 tk_900 rfl (fun v5 tv5 => ?_)
  refine sm_gI w tx1 (by decide) (fun v6 => ?_)
  refine sm_cl w (sm_X1_chainWhole w.1 (w.k tv5 (by decide))) (fun r7 h2 e w2 => ?_)
  obtain ⟨F, hF2⟩ : ∃ F, sv_FP h2 = F := ⟨_, rfl⟩
  clear e w hF
  have hF := hF2
  have w := w2
  clear hF2 w2
  refine sm_cl w (sm_X8_open w.1 (w.k tx0 (by decide))) (fun _ h2 e w2 => ?_)
  have hF2 : sv_FP h2 = F := (ow_X8_open sv_clT trivial e).2.1.1.trans hF
  clear e w hF
  have hF := hF2
  have w := w2
  clear hF2 w2
  exact sm_X8_grow_39 sv_fuel w tx0 tx1
theorem sm_X8_grow {x0 : Nat} {x1 : Nat} {h : sv_H} (g : vt_G h) (tx0 : sv_K h x0 = 9) (tx1 : sv_K h x1 = 3) : vt_sm h (fn_X8_grow x0 x1 h) (ab_X8_grow x0 x1 (vt_ab h)) := sm_X8_grow_0 ⟨g, vt_ko.refl h⟩ tx0 tx1

theorem sm_X7_put_0 {h0 : sv_H} {x0 : Nat} {x1 : Int32} {x2 : Int32} {x3 : Int32} {x4 : Int32} {h : sv_H} (w : vt_W h0 h) (tx0 : sv_K h0 x0 = 8) : vt_sm h0 (fn_X7_put x0 x1 x2 x3 x4 h) (ab_X7_put x0 x1 x2 x3 x4 (vt_ab h)) := by
  unfold fn_X7_put ab_X7_put
  obtain ⟨F, hF⟩ : ∃ F, sv_FP h = F := ⟨_, rfl⟩
  refine sm_kd w tx0 (by decide) ?_
  refine sm_pI w hF tx0 (by decide) (fun h w hF => ?_)
  refine sm_pI w hF tx0 (by decide) (fun h w hF => ?_)
  refine sm_pI w hF tx0 (by decide) (fun h w hF => ?_)
  refine sm_pI w hF tx0 (by decide) (fun h w hF => ?_)
  exact sm_rt w
theorem sm_X7_put {x0 : Nat} {x1 : Int32} {x2 : Int32} {x3 : Int32} {x4 : Int32} {h : sv_H} (g : vt_G h) (tx0 : sv_K h x0 = 8) : vt_sm h (fn_X7_put x0 x1 x2 x3 x4 h) (ab_X7_put x0 x1 x2 x3 x4 (vt_ab h)) := sm_X7_put_0 ⟨g, vt_ko.refl h⟩ tx0

theorem sm_X7_become_0 {h0 : sv_H} {x0 : Nat} {x1 : Nat} {h : sv_H} (w : vt_W h0 h) (tx0 : sv_K h0 x0 = 8) (tx1 : sv_K h0 x1 = 8) : vt_sm h0 (fn_X7_become x0 x1 h) (ab_X7_become x0 x1 (vt_ab h)) := by
  unfold fn_X7_become ab_X7_become
  obtain ⟨F, hF⟩ : ∃ F, sv_FP h = F := ⟨_, rfl⟩
  refine sm_kd w tx0 (by decide) ?_
  refine sm_gI w tx1 (by decide) (fun v1 => ?_)
  refine sm_gI w tx1 (by decide) (fun v2 => ?_)
  refine sm_gI w tx1 (by decide) (fun v3 => ?_)
  refine sm_gI w tx1 (by decide) (fun v4 => ?_)
  refine sm_cl w (sm_X7_put w.1 (w.k tx0 (by decide))) (fun _ h2 e w2 => ?_)
  have hF2 : sv_FP h2 = F := (ow_X7_put sv_clT trivial e).2.1.1.trans hF
  clear e w hF
  have hF := hF2
  have w := w2
  clear hF2 w2
  exact sm_rt w
theorem sm_X7_become {x0 : Nat} {x1 : Nat} {h : sv_H} (g : vt_G h) (tx0 : sv_K h x0 = 8) (tx1 : sv_K h x1 = 8) : vt_sm h (fn_X7_become x0 x1 h) (ab_X7_become x0 x1 (vt_ab h)) := sm_X7_become_0 ⟨g, vt_ko.refl h⟩ tx0 tx1

theorem sm_X6_endMover_0 {h0 : sv_H} {x0 : Nat} {h : sv_H} (w : vt_W h0 h) (tx0 : sv_K h0 x0 = 7) : vt_sm h0 (fn_X6_endMover x0 h) (ab_X6_endMover x0 (vt_ab h)) := by
  unfold fn_X6_endMover ab_X6_endMover
  obtain ⟨F, hF⟩ : ∃ F, sv_FP h = F := ⟨_, rfl⟩
  refine sm_kd w tx0 (by decide) ?_
  refine sm_pI w hF tx0 (by decide) (fun h w hF => ?_)
  refine sm_pI w hF tx0 (by decide) (fun h w hF => ?_)
  refine sm_pI w hF tx0 (by decide) (fun h w hF => ?_)
  exact sm_rt w
theorem sm_X6_endMover {x0 : Nat} {h : sv_H} (g : vt_G h) (tx0 : sv_K h x0 = 7) : vt_sm h (fn_X6_endMover x0 h) (ab_X6_endMover x0 (vt_ab h)) := sm_X6_endMover_0 ⟨g, vt_ko.refl h⟩ tx0

theorem sm_X6_settle_0 {h0 : sv_H} {x0 : Nat} {h : sv_H} (w : vt_W h0 h) (tx0 : sv_K h0 x0 = 7) : vt_sm h0 (fn_X6_settle x0 h) (ab_X6_settle x0 (vt_ab h)) := by
  unfold fn_X6_settle ab_X6_settle
  obtain ⟨F, hF⟩ : ∃ F, sv_FP h = F := ⟨_, rfl⟩
  refine sm_kd w tx0 (by decide) ?_
  refine sm_gI w tx0 (by decide) (fun v1 => ?_)
  refine sm_pI w hF tx0 (by decide) (fun h w hF => ?_)
  refine sm_gI w tx0 (by decide) (fun v3 => ?_)
  refine sm_pI w hF tx0 (by decide) (fun h w hF => ?_)
  refine sm_cl w (sm_X6_endMover w.1 (w.k tx0 (by decide))) (fun _ h2 e w2 => ?_)
  have hF2 : sv_FP h2 = F := (ow_X6_endMover sv_clT trivial e).2.1.1.trans hF
  clear e w hF
  have hF := hF2
  have w := w2
  clear hF2 w2
  exact sm_rt w
theorem sm_X6_settle {x0 : Nat} {h : sv_H} (g : vt_G h) (tx0 : sv_K h x0 = 7) : vt_sm h (fn_X6_settle x0 h) (ab_X6_settle x0 (vt_ab h)) := sm_X6_settle_0 ⟨g, vt_ko.refl h⟩ tx0

theorem sm_X2_settle_2b {h0 : sv_H} {k2 : Nat → Int32 → sv_H → Option (Unit × sv_H)} {j2 : Nat → Int32 → vt_S → Option (Unit × vt_S)} (hk2 : ∀ {x0 : Nat} {x1 : Int32} {h : sv_H}, vt_W h0 h → sv_K h0 x0 = 3 → vt_sm h0 (k2 x0 x1 h) (j2 x0 x1 (vt_ab h))) {x0 : Nat} {x1 : Int32} {h : sv_H} (w : vt_W h0 h) (tx0 : sv_K h0 x0 = 3) : vt_sm h0 (fn_X2_settle_2b k2 x0 x1 h) (ab_X2_settle_2b j2 x0 x1 (vt_ab h)) := by
  unfold fn_X2_settle_2b ab_X2_settle_2b
  obtain ⟨F, hF⟩ : ∃ F, sv_FP h = F := ⟨_, rfl⟩
  refine sm_gI w tx0 (by decide) (fun v1 => ?_)
  refine sm_if (fun _ => ?_) (fun _ => ?_)
  · exact sm_rt w
  · refine sm_gA w hF tx0 tk_307 (by decide) (fun v2 av2 => ?_)
    refine sm_lP (c := 7) w hF tx0 av2 tk_307 (by decide) (fun v3 tv3 => ?_)
    refine sm_cl w (sm_X6_settle w.1 (w.k tv3 (by decide))) (fun _ h2 e w2 => ?_)
    have hF2 : sv_FP h2 = F := (ow_X6_settle sv_clT trivial e).2.1.1.trans hF
    clear e w hF
    have hF := hF2
    have w := w2
    clear hF2 w2
    exact hk2 w tx0
theorem sm_X2_settle_2 {h0 : sv_H} : ∀ (n : Nat) {x0 : Nat} {x1 : Int32} {h : sv_H}, vt_W h0 h → sv_K h0 x0 = 3 → vt_sm h0 (fn_X2_settle_2 n x0 x1 h) (ab_X2_settle_2 n x0 x1 (vt_ab h)) := by
  intro n
  induction n with
  | zero => intro x0 x1 h w tx0; exact sm_no
  | succ n ih => intro x0 x1 h w tx0; exact sm_X2_settle_2b (k2 := fn_X2_settle_2 n) (j2 := ab_X2_settle_2 n) (fun w tx0 => ih w tx0) w tx0
theorem sm_X2_settle_0 {h0 : sv_H} {x0 : Nat} {h : sv_H} (w : vt_W h0 h) (tx0 : sv_K h0 x0 = 3) : vt_sm h0 (fn_X2_settle x0 h) (ab_X2_settle x0 (vt_ab h)) := by
  unfold fn_X2_settle ab_X2_settle
  obtain ⟨F, hF⟩ : ∃ F, sv_FP h = F := ⟨_, rfl⟩
  refine sm_kd w tx0 (by decide) ?_
  exact sm_X2_settle_2 sv_fuel w tx0
theorem sm_X2_settle {x0 : Nat} {h : sv_H} (g : vt_G h) (tx0 : sv_K h x0 = 3) : vt_sm h (fn_X2_settle x0 h) (ab_X2_settle x0 (vt_ab h)) := sm_X2_settle_0 ⟨g, vt_ko.refl h⟩ tx0

theorem sm_X10_begin_0 {h0 : sv_H} {x0 : Nat} {x1 : Nat} {x2 : Nat} {h : sv_H} (w : vt_W h0 h) (tx0 : sv_K h0 x0 = 11) (tx1 : sv_K h0 x1 = 3) (tx2 : sv_K h0 x2 = 8) : vt_sm h0 (fn_X10_begin x0 x1 x2 h) (ab_X10_begin x0 x1 x2 (vt_ab h)) := by
  unfold fn_X10_begin ab_X10_begin
  obtain ⟨F, hF⟩ : ∃ F, sv_FP h = F := ⟨_, rfl⟩
  refine sm_kd w tx0 (by decide) ?_
  refine sm_pP w tx0 tx1 tk_1101 rfl (fun h w => ?_)
  clear hF
  obtain ⟨F, hF⟩ : ∃ F, sv_FP h = F := ⟨_, rfl⟩
  refine sm_gP w tx0 tk_1101 rfl (fun v2 tv2 => ?_)
  refine sm_cl w (sm_X2_settle w.1 (w.k tv2 (by decide))) (fun _ h2 e w2 => ?_)
  have hF2 : sv_FP h2 = F := (ow_X2_settle sv_clT trivial e).2.1.1.trans hF
  clear e w hF
  have hF := hF2
  have w := w2
  clear hF2 w2
  refine sm_gI w tx2 (by decide) (fun v4 => ?_)
  refine sm_pI w hF tx0 (by decide) (fun h w hF => ?_)
  refine sm_gI w tx2 (by decide) (fun v6 => ?_)
  refine sm_pI w hF tx0 (by decide) (fun h w hF => ?_)
  refine sm_gI w tx2 (by decide) (fun v8 => ?_)
  refine sm_pI w hF tx0 (by decide) (fun h w hF => ?_)
  refine sm_gI w tx2 (by decide) (fun v10 => ?_)
  refine sm_pI w hF tx0 (by decide) (fun h w hF => ?_)
  refine sm_pI w hF tx0 (by decide) (fun h w hF => ?_)
  exact sm_rt w
theorem sm_X10_begin {x0 : Nat} {x1 : Nat} {x2 : Nat} {h : sv_H} (g : vt_G h) (tx0 : sv_K h x0 = 11) (tx1 : sv_K h x1 = 3) (tx2 : sv_K h x2 = 8) : vt_sm h (fn_X10_begin x0 x1 x2 h) (ab_X10_begin x0 x1 x2 (vt_ab h)) := sm_X10_begin_0 ⟨g, vt_ko.refl h⟩ tx0 tx1 tx2

theorem sm_X12_loadMap_110 {h0 : sv_H} {x0 : Nat} {h : sv_H} (w : vt_W h0 h) (tx0 : sv_K h0 x0 = 13) : vt_sm h0 (fn_X12_loadMap_110 x0 h) (ab_X12_loadMap_110 x0 (vt_ab h)) := by
  unfold fn_X12_loadMap_110 ab_X12_loadMap_110
  obtain ⟨F, hF⟩ : ∃ F, sv_FP h = F := ⟨_, rfl⟩
  refine sm_gP w tx0 tk_1302 rfl (fun v1 tv1 => ?_)
  refine sm_gI w tv1 (by decide) (fun v2 => ?_)
  exact sm_rt w
theorem sm_X12_loadMap_0 {h0 : sv_H} {x0 : Nat} {h : sv_H} (w : vt_W h0 h) (tx0 : sv_K h0 x0 = 13) : vt_sm h0 (fn_X12_loadMap x0 h) (ab_X12_loadMap x0 (vt_ab h)) := by
  unfold fn_X12_loadMap ab_X12_loadMap
  obtain ⟨F, hF⟩ : ∃ F, sv_FP h = F := ⟨_, rfl⟩
  refine sm_kd w tx0 (by decide) ?_
  refine sm_gP w tx0 tk_1302 rfl (fun v1 tv1 => ?_)
  refine sm_cl w (sm_X4_begin w.1 (w.k tv1 (by decide))) (fun _ h2 e w2 => ?_)
  have hF2 : sv_FP h2 = F := (ow_X4_begin sv_clT trivial e).2.1.1.trans hF
  clear e w hF
  have hF := hF2
  have w := w2
  clear hF2 w2
  refine sm_gP w tx0 tk_1307 rfl (fun v3 tv3 => ?_)
  refine sm_gP w tx0 tk_1302 rfl (fun v4 tv4 => ?_)
  refine sm_cl w (sm_X2_read w.1 (w.k tv3 (by decide)) (w.k tv4 (by decide))) (fun _ h2 e w2 => ?_)
  have hF2 : sv_FP h2 = F := (ow_X2_read sv_clT trivial trivial e).2.1.1.trans hF
  clear e w hF
  have hF := hF2
  have w := w2
  clear hF2 w2
  refine sm_gP w tx0 tk_1302 rfl (fun v6 tv6 => ?_)
  refine sm_cl w (sm_X4_well w.1 (w.k tv6 (by decide))) (fun r7 h2 e w2 => ?_)
  have hF2 : sv_FP h2 = F := by rw [ro_X4_well e]; exact hF
  clear e w hF
  have hF := hF2
  have w := w2
  clear hF2 w2
  refine sm_if (fun _ => ?_) (fun _ => ?_)
  · exact sm_X12_loadMap_110 w tx0
  · refine sm_cl w (sm_X12_swapPlans w.1 (w.k tx0 (by decide))) (fun _ h2 e w2 => ?_)
    obtain ⟨F, hF2⟩ : ∃ F, sv_FP h2 = F := ⟨_, rfl⟩
    clear e w hF
    have hF := hF2
    have w := w2
    clear hF2 w2
    refine sm_gI w tx0 (by decide) (fun v10 => ?_)
    refine sm_pI w hF tx0 (by decide) (fun h w hF => ?_)
    refine sm_gP w tx0 tk_1306 rfl (fun v12 tv12 => ?_)
    refine sm_gP w tv12 tk_300 rfl (fun v13 tv13 => ?_)
    refine sm_gP w tx0 tk_1300 rfl (fun v14 tv14 => ?_)
    refine sm_cl w (sm_X0_become w.1 (w.k tv13 (by decide)) (w.k tv14 (by decide))) (fun _ h2 e w2 => ?_)
    obtain ⟨F, hF2⟩ : ∃ F, sv_FP h2 = F := ⟨_, rfl⟩
    clear e w hF
    have hF := hF2
    have w := w2
    clear hF2 w2
    refine sm_gP w tx0 tk_1303 rfl (fun v16 tv16 => ?_)
    refine sm_gP w tx0 tk_1306 rfl (fun v17 tv17 => ?_)
    refine sm_cl w (sm_X8_grow w.1 (w.k tv16 (by decide)) (w.k tv17 (by decide))) (fun _ h2 e w2 => ?_)
    obtain ⟨F, hF2⟩ : ∃ F, sv_FP h2 = F := ⟨_, rfl⟩
    clear e w hF
    have hF := hF2
    have w := w2
    clear hF2 w2
    refine sm_gP w tx0 tk_1308 rfl (fun v19 tv19 => ?_)
    refine sm_pI w hF tv19 (by decide) (fun h w hF => ?_)
    refine sm_gP w tx0 tk_1308 rfl (fun v21 tv21 => ?_)
    refine sm_gP w tv21 tk_600 rfl (fun v22 tv22 => ?_)
    refine sm_gP w tx0 tk_1306 rfl (fun v23 tv23 => ?_)
    refine sm_gP w tv23 tk_301 rfl (fun v24 tv24 => ?_)
    refine sm_cl w (sm_X7_become w.1 (w.k tv22 (by decide)) (w.k tv24 (by decide))) (fun _ h2 e w2 => ?_)
    have hF2 : sv_FP h2 = F := (ow_X7_become sv_clT trivial trivial e).2.1.1.trans hF
    clear e w hF
    have hF := hF2
    have w := w2
    clear hF2 w2
    refine sm_gP w tx0 tk_1304 rfl (fun v26 tv26 => ?_)
    refine sm_gP w tx0 tk_1306 rfl (fun v27 tv27 => ?_)
    refine sm_gP w tx0 tk_1308 rfl (fun v28 tv28 => ?_)
    refine sm_gP w tv28 tk_600 rfl (fun v29 tv29 => ?_)
    refine sm_cl w (sm_X10_begin w.1 (w.k tv26 (by decide)) (w.k tv27 (by decide)) (w.k tv29 (by decide))) (fun _ h2 e w2 => ?_)
    obtain ⟨F, hF2⟩ : ∃ F, sv_FP h2 = F := ⟨_, rfl⟩
    clear e w hF
    have hF := hF2
    have w := w2
    clear hF2 w2
    exact sm_X12_loadMap_110 w tx0
theorem sm_X12_loadMap {x0 : Nat} {h : sv_H} (g : vt_G h) (tx0 : sv_K h x0 = 13) : vt_sm h (fn_X12_loadMap x0 h) (ab_X12_loadMap x0 (vt_ab h)) := sm_X12_loadMap_0 ⟨g, vt_ko.refl h⟩ tx0

theorem sm_X14_wrong_17 {h0 : sv_H} {h : sv_H} (w : vt_W h0 h) : vt_sm h0 (fn_X14_wrong_17 h) (ab_X14_wrong_17 (vt_ab h)) := by
  unfold fn_X14_wrong_17 ab_X14_wrong_17
  obtain ⟨F, hF⟩ : ∃ F, sv_FP h = F := ⟨_, rfl⟩
  exact sm_rt w
theorem sm_X14_wrong_0 {h0 : sv_H} {x0 : Nat} {x1 : Int32} {x2 : Int32} {h : sv_H} (w : vt_W h0 h) (tx0 : sv_K h0 x0 = 15) : vt_sm h0 (fn_X14_wrong x0 x1 x2 h) (ab_X14_wrong x0 x1 x2 (vt_ab h)) := by
  unfold fn_X14_wrong ab_X14_wrong
  obtain ⟨F, hF⟩ : ∃ F, sv_FP h = F := ⟨_, rfl⟩
  refine sm_kd w tx0 (by decide) ?_
  refine sm_gI w tx0 (by decide) (fun v1 => ?_)
  refine sm_if (fun _ => ?_) (fun _ => ?_)
  · refine sm_pI w hF tx0 (by decide) (fun h w hF => ?_)
    refine sm_pI w hF tx0 (by decide) (fun h w hF => ?_)
    exact sm_X14_wrong_17 w
  · exact sm_X14_wrong_17 w
theorem sm_X14_wrong {x0 : Nat} {x1 : Int32} {x2 : Int32} {h : sv_H} (g : vt_G h) (tx0 : sv_K h x0 = 15) : vt_sm h (fn_X14_wrong x0 x1 x2 h) (ab_X14_wrong x0 x1 x2 (vt_ab h)) := sm_X14_wrong_0 ⟨g, vt_ko.refl h⟩ tx0

theorem sm_X14_add_0 {h0 : sv_H} {x0 : Nat} {x1 : Int32} {h : sv_H} (w : vt_W h0 h) (tx0 : sv_K h0 x0 = 15) : vt_sm h0 (fn_X14_add x0 x1 h) (ab_X14_add x0 x1 (vt_ab h)) := by
  unfold fn_X14_add ab_X14_add
  obtain ⟨F, hF⟩ : ∃ F, sv_FP h = F := ⟨_, rfl⟩
  refine sm_kd w tx0 (by decide) ?_
  refine sm_gI w tx0 (by decide) (fun v1 => ?_)
  refine sm_pI w hF tx0 (by decide) (fun h w hF => ?_)
  refine sm_gI w tx0 (by decide) (fun v3 => ?_)
  refine sm_gI w tx0 (by decide) (fun v4 => ?_)
  refine sm_pI w hF tx0 (by decide) (fun h w hF => ?_)
  exact sm_rt w
theorem sm_X14_add {x0 : Nat} {x1 : Int32} {h : sv_H} (g : vt_G h) (tx0 : sv_K h x0 = 15) : vt_sm h (fn_X14_add x0 x1 h) (ab_X14_add x0 x1 (vt_ab h)) := sm_X14_add_0 ⟨g, vt_ko.refl h⟩ tx0

theorem sm_X14_next_64 {h0 : sv_H} {x0 : Nat} {x3 : Int32} {h : sv_H} (w : vt_W h0 h) (tx0 : sv_K h0 x0 = 15) : vt_sm h0 (fn_X14_next_64 x0 x3 h) (ab_X14_next_64 x0 x3 (vt_ab h)) := by
  unfold fn_X14_next_64 ab_X14_next_64
  obtain ⟨F, hF⟩ : ∃ F, sv_FP h = F := ⟨_, rfl⟩
  refine sm_cl w (sm_X14_add w.1 (w.k tx0 (by decide))) (fun _ h2 e w2 => ?_)
  have hF2 : sv_FP h2 = F := (ow_X14_add sv_clT trivial e).2.1.1.trans hF
  clear e w hF
  have hF := hF2
  have w := w2
  clear hF2 w2
  refine sm_gI w tx0 (by decide) (fun v2 => ?_)
  refine sm_pI w hF tx0 (by decide) (fun h w hF => ?_)
  exact sm_rt w
theorem sm_X14_next_55 {h0 : sv_H} {x0 : Nat} {x3 : Int32} {h : sv_H} (w : vt_W h0 h) (tx0 : sv_K h0 x0 = 15) : vt_sm h0 (fn_X14_next_55 x0 x3 h) (ab_X14_next_55 x0 x3 (vt_ab h)) := by
  unfold fn_X14_next_55 ab_X14_next_55
  obtain ⟨F, hF⟩ : ∃ F, sv_FP h = F := ⟨_, rfl⟩
  refine sm_gI w tx0 (by decide) (fun v1 => ?_)
  refine sm_cl w (sm_X14_wrong w.1 (w.k tx0 (by decide))) (fun _ h2 e w2 => ?_)
  have hF2 : sv_FP h2 = F := (ow_X14_wrong sv_clT trivial e).2.1.1.trans hF
  clear e w hF
  have hF := hF2
  have w := w2
  clear hF2 w2
  exact sm_X14_next_64 w tx0
theorem sm_X14_next_0 {h0 : sv_H} {x0 : Nat} {x1 : Int32} {x2 : Int32} {h : sv_H} (w : vt_W h0 h) (tx0 : sv_K h0 x0 = 15) : vt_sm h0 (fn_X14_next x0 x1 x2 h) (ab_X14_next x0 x1 x2 (vt_ab h)) := by
  unfold fn_X14_next ab_X14_next
  obtain ⟨F, hF⟩ : ∃ F, sv_FP h = F := ⟨_, rfl⟩
  refine sm_kd w tx0 (by decide) ?_
  refine sm_gI w tx0 (by decide) (fun v1 => ?_)
  refine sm_if (fun _ => ?_) (fun _ => ?_)
  · refine sm_gI w tx0 (by decide) (fun v2 => ?_)
    refine sm_gI w tx0 (by decide) (fun v3 => ?_)
    refine sm_if (fun _ => ?_) (fun _ => ?_)
    · refine sm_gI w tx0 (by decide) (fun v7 => ?_)
      refine sm_cl w (sm_X14_wrong w.1 (w.k tx0 (by decide))) (fun _ h2 e w2 => ?_)
      have hF2 : sv_FP h2 = F := (ow_X14_wrong sv_clT trivial e).2.1.1.trans hF
      clear e w hF
      have hF := hF2
      have w := w2
      clear hF2 w2
      exact sm_rt w
    · refine sm_gA w hF tx0 tk_1500 (by decide) (fun v4 av4 => ?_)
      refine sm_gI w tx0 (by decide) (fun v5 => ?_)
      refine sm_lB w hF tx0 av4 tk_1500 (fun _ => ?_)
      refine sm_if (fun _ => ?_) (fun _ => ?_)
      · exact sm_X14_next_55 w tx0
      · refine sm_if (fun _ => ?_) (fun _ => ?_)
        · exact sm_X14_next_64 w tx0
        · exact sm_X14_next_55 w tx0
  · exact sm_rt w
theorem sm_X14_next {x0 : Nat} {x1 : Int32} {x2 : Int32} {h : sv_H} (g : vt_G h) (tx0 : sv_K h x0 = 15) : vt_sm h (fn_X14_next x0 x1 x2 h) (ab_X14_next x0 x1 x2 (vt_ab h)) := sm_X14_next_0 ⟨g, vt_ko.refl h⟩ tx0

theorem sm_X14_nextTwo_77 {h0 : sv_H} {x4 : Int32} {h : sv_H} (w : vt_W h0 h) : vt_sm h0 (fn_X14_nextTwo_77 x4 h) (ab_X14_nextTwo_77 x4 (vt_ab h)) := by
  unfold fn_X14_nextTwo_77 ab_X14_nextTwo_77
  obtain ⟨F, hF⟩ : ∃ F, sv_FP h = F := ⟨_, rfl⟩
  exact sm_rt w
theorem sm_X14_nextTwo_71 {h0 : sv_H} {x0 : Nat} {x3 : Int32} {x4 : Int32} {h : sv_H} (w : vt_W h0 h) (tx0 : sv_K h0 x0 = 15) : vt_sm h0 (fn_X14_nextTwo_71 x0 x3 x4 h) (ab_X14_nextTwo_71 x0 x3 x4 (vt_ab h)) := by
  unfold fn_X14_nextTwo_71 ab_X14_nextTwo_71
  obtain ⟨F, hF⟩ : ∃ F, sv_FP h = F := ⟨_, rfl⟩
  refine sm_cl w (sm_X14_wrong w.1 (w.k tx0 (by decide))) (fun _ h2 e w2 => ?_)
  have hF2 : sv_FP h2 = F := (ow_X14_wrong sv_clT trivial e).2.1.1.trans hF
  clear e w hF
  have hF := hF2
  have w := w2
  clear hF2 w2
  exact sm_X14_nextTwo_77 w
theorem sm_X14_nextTwo_50 {h0 : sv_H} {x0 : Nat} {x1 : Int32} {x2 : Int32} {x3 : Int32} {s0 : Int32} {h : sv_H} (w : vt_W h0 h) (tx0 : sv_K h0 x0 = 15) : vt_sm h0 (fn_X14_nextTwo_50 x0 x1 x2 x3 s0 h) (ab_X14_nextTwo_50 x0 x1 x2 x3 s0 (vt_ab h)) := by
  unfold fn_X14_nextTwo_50 ab_X14_nextTwo_50
  obtain ⟨F, hF⟩ : ∃ F, sv_FP h = F := ⟨_, rfl⟩
  refine sm_gI w tx0 (by decide) (fun v1 => ?_)
  refine sm_if (fun _ => ?_) (fun _ => ?_)
  · refine sm_if (fun _ => ?_) (fun _ => ?_)
    · exact sm_X14_nextTwo_71 w tx0
    · refine sm_if (fun _ => ?_) (fun _ => ?_)
      · exact sm_X14_nextTwo_77 w
      · exact sm_X14_nextTwo_71 w tx0
  · exact sm_X14_nextTwo_77 w
theorem sm_X14_nextTwo_0 {h0 : sv_H} {x0 : Nat} {x1 : Int32} {x2 : Int32} {h : sv_H} (w : vt_W h0 h) (tx0 : sv_K h0 x0 = 15) : vt_sm h0 (fn_X14_nextTwo x0 x1 x2 h) (ab_X14_nextTwo x0 x1 x2 (vt_ab h)) := by
  unfold fn_X14_nextTwo ab_X14_nextTwo
  obtain ⟨F, hF⟩ : ∃ F, sv_FP h = F := ⟨_, rfl⟩
  refine sm_kd w tx0 (by decide) ?_
  refine sm_gI w tx0 (by decide) (fun v1 => ?_)
  refine sm_cl w (sm_X14_next w.1 (w.k tx0 (by decide))) (fun r2 h2 e w2 => ?_)
  have hF2 : sv_FP h2 = F := (ow_X14_next sv_clT trivial e).2.1.1.trans hF
  clear e w hF
  have hF := hF2
  have w := w2
  clear hF2 w2
  refine sm_cl w (sm_X14_next w.1 (w.k tx0 (by decide))) (fun r4 h2 e w2 => ?_)
  have hF2 : sv_FP h2 = F := (ow_X14_next sv_clT trivial e).2.1.1.trans hF
  clear e w hF
  have hF := hF2
  have w := w2
  clear hF2 w2
  refine sm_if (fun _ => ?_) (fun _ => ?_)
  · exact sm_X14_nextTwo_50 w tx0
  · exact sm_X14_nextTwo_50 w tx0
theorem sm_X14_nextTwo {x0 : Nat} {x1 : Int32} {x2 : Int32} {h : sv_H} (g : vt_G h) (tx0 : sv_K h x0 = 15) : vt_sm h (fn_X14_nextTwo x0 x1 x2 h) (ab_X14_nextTwo x0 x1 x2 (vt_ab h)) := sm_X14_nextTwo_0 ⟨g, vt_ko.refl h⟩ tx0

theorem sm_X14_pair_37 {h0 : sv_H} {s0 : Int32} {h : sv_H} (w : vt_W h0 h) : vt_sm h0 (fn_X14_pair_37 s0 h) (ab_X14_pair_37 s0 (vt_ab h)) := by
  unfold fn_X14_pair_37 ab_X14_pair_37
  obtain ⟨F, hF⟩ : ∃ F, sv_FP h = F := ⟨_, rfl⟩
  exact sm_rt w
theorem sm_X14_pair_0 {h0 : sv_H} {f0 : Nat} (hf0 : vt_tk f0 = (1, 904)) {x0 : Nat} {x0o : Nat} {x1 : Int32} {h : sv_H} (w : vt_W h0 h) (tx0 : sv_K h0 x0o = f0 / 100) (ax0 : sv_FP h f0 x0o = x0) : vt_sm h0 (fn_X14_pair x0 x1 h) (ab_X14_pair f0 x0o x1 (vt_ab h)) := by
  unfold fn_X14_pair ab_X14_pair
  obtain ⟨F, hF⟩ : ∃ F, sv_FP h = F := ⟨_, rfl⟩
  rw [hF] at ax0
  refine sm_lB w hF tx0 ax0 hf0 (fun _ => ?_)
  refine sm_lB w hF tx0 ax0 hf0 (fun _ => ?_)
  refine sm_if (fun _ => ?_) (fun _ => ?_)
  · exact sm_X14_pair_37 w
  · exact sm_X14_pair_37 w
theorem sm_X14_pair {f0 : Nat} {x0 : Nat} {x0o : Nat} {x1 : Int32} {h : sv_H} (g : vt_G h) (hf0 : vt_tk f0 = (1, 904)) (tx0 : sv_K h x0o = f0 / 100) (ax0 : sv_FP h f0 x0o = x0) : vt_sm h (fn_X14_pair x0 x1 h) (ab_X14_pair f0 x0o x1 (vt_ab h)) := sm_X14_pair_0 hf0 ⟨g, vt_ko.refl h⟩ tx0 ax0

theorem sm_X14_readVertex_93 {h0 : sv_H} {h : sv_H} (w : vt_W h0 h) : vt_sm h0 (fn_X14_readVertex_93 h) (ab_X14_readVertex_93 (vt_ab h)) := by
  unfold fn_X14_readVertex_93 ab_X14_readVertex_93
  obtain ⟨F, hF⟩ : ∃ F, sv_FP h = F := ⟨_, rfl⟩
  exact sm_rt w
theorem sm_X14_readVertex_87 {h0 : sv_H} {k31 : Nat → Int32 → Int32 → Int32 → Int32 → Int32 → sv_H → Option (Unit × sv_H)} {j31 : Nat → Int32 → Int32 → Int32 → Int32 → Int32 → vt_S → Option (Unit × vt_S)} (hk31 : ∀ {x0 : Nat} {x1 : Int32} {x2 : Int32} {x3 : Int32} {x4 : Int32} {x5 : Int32} {h : sv_H}, vt_W h0 h → sv_K h0 x0 = 15 → vt_sm h0 (k31 x0 x1 x2 x3 x4 x5 h) (j31 x0 x1 x2 x3 x4 x5 (vt_ab h))) {x0 : Nat} {x1 : Int32} {x2 : Int32} {x3 : Int32} {x4 : Int32} {x5 : Int32} {h : sv_H} (w : vt_W h0 h) (tx0 : sv_K h0 x0 = 15) : vt_sm h0 (fn_X14_readVertex_87 k31 x0 x1 x2 x3 x4 x5 h) (ab_X14_readVertex_87 j31 x0 x1 x2 x3 x4 x5 (vt_ab h)) := by
  unfold fn_X14_readVertex_87 ab_X14_readVertex_87
  obtain ⟨F, hF⟩ : ∃ F, sv_FP h = F := ⟨_, rfl⟩
  exact hk31 w tx0
theorem sm_X14_readVertex_31b {h0 : sv_H} {k31 : Nat → Int32 → Int32 → Int32 → Int32 → Int32 → sv_H → Option (Unit × sv_H)} {j31 : Nat → Int32 → Int32 → Int32 → Int32 → Int32 → vt_S → Option (Unit × vt_S)} (hk31 : ∀ {x0 : Nat} {x1 : Int32} {x2 : Int32} {x3 : Int32} {x4 : Int32} {x5 : Int32} {h : sv_H}, vt_W h0 h → sv_K h0 x0 = 15 → vt_sm h0 (k31 x0 x1 x2 x3 x4 x5 h) (j31 x0 x1 x2 x3 x4 x5 (vt_ab h))) {x0 : Nat} {x1 : Int32} {x2 : Int32} {x3 : Int32} {x4 : Int32} {x5 : Int32} {h : sv_H} (w : vt_W h0 h) (tx0 : sv_K h0 x0 = 15) : vt_sm h0 (fn_X14_readVertex_31b k31 x0 x1 x2 x3 x4 x5 h) (ab_X14_readVertex_31b j31 x0 x1 x2 x3 x4 x5 (vt_ab h)) := by
  unfold fn_X14_readVertex_31b ab_X14_readVertex_31b
  obtain ⟨F, hF⟩ : ∃ F, sv_FP h = F := ⟨_, rfl⟩
  refine sm_if (fun _ => ?_) (fun _ => ?_)
  · exact sm_X14_readVertex_93 w
  · refine sm_gI w tx0 (by decide) (fun v1 => ?_)
    refine sm_if (fun _ => ?_) (fun _ => ?_)
    · refine sm_gA w hF tx0 tk_1500 (by decide) (fun v2 av2 => ?_)
      refine sm_cl w (sm_X14_pair w.1 tk_1500 (w.k tx0 (by decide)) (by rw [hF]; exact av2)) (fun r3 h2 e w2 => ?_)
      have hF2 : sv_FP h2 = F := by rw [ro_X14_pair e]; exact hF
      clear e w hF
      have hF := hF2
      have w := w2
      clear hF2 w2
      refine sm_if (fun _ => ?_) (fun _ => ?_)
      · refine sm_gA w hF tx0 tk_1500 (by decide) (fun v5 av5 => ?_)
        refine sm_cl w (sm_X14_pair w.1 tk_1500 (w.k tx0 (by decide)) (by rw [hF]; exact av5)) (fun r6 h2 e w2 => ?_)
        have hF2 : sv_FP h2 = F := by rw [ro_X14_pair e]; exact hF
        clear e w hF
        have hF := hF2
        have w := w2
        clear hF2 w2
        refine sm_if (fun _ => ?_) (fun _ => ?_)
        · refine sm_cl w (sm_X14_wrong w.1 (w.k tx0 (by decide))) (fun _ h2 e w2 => ?_)
          have hF2 : sv_FP h2 = F := (ow_X14_wrong sv_clT trivial e).2.1.1.trans hF
          clear e w hF
          have hF := hF2
          have w := w2
          clear hF2 w2
          exact sm_X14_readVertex_87 (k31 := k31) (j31 := j31) hk31 w tx0
        · exact sm_X14_readVertex_87 (k31 := k31) (j31 := j31) hk31 w tx0
      · exact sm_X14_readVertex_87 (k31 := k31) (j31 := j31) hk31 w tx0
    · exact sm_X14_readVertex_93 w
theorem sm_X14_readVertex_31 {h0 : sv_H} : ∀ (n : Nat) {x0 : Nat} {x1 : Int32} {x2 : Int32} {x3 : Int32} {x4 : Int32} {x5 : Int32} {h : sv_H}, vt_W h0 h → sv_K h0 x0 = 15 → vt_sm h0 (fn_X14_readVertex_31 n x0 x1 x2 x3 x4 x5 h) (ab_X14_readVertex_31 n x0 x1 x2 x3 x4 x5 (vt_ab h)) := by
  intro n
  induction n with
  | zero => intro x0 x1 x2 x3 x4 x5 h w tx0; exact sm_no
  | succ n ih => intro x0 x1 x2 x3 x4 x5 h w tx0; exact sm_X14_readVertex_31b (k31 := fn_X14_readVertex_31 n) (j31 := ab_X14_readVertex_31 n) (fun w tx0 => ih w tx0) w tx0
theorem sm_X14_readVertex_0 {h0 : sv_H} {x0 : Nat} {x1 : Int32} {h : sv_H} (w : vt_W h0 h) (tx0 : sv_K h0 x0 = 15) : vt_sm h0 (fn_X14_readVertex x0 x1 h) (ab_X14_readVertex x0 x1 (vt_ab h)) := by
  unfold fn_X14_readVertex ab_X14_readVertex
  obtain ⟨F, hF⟩ : ∃ F, sv_FP h = F := ⟨_, rfl⟩
  refine sm_kd w tx0 (by decide) ?_
  refine sm_cl w (sm_X14_nextTwo w.1 (w.k tx0 (by decide))) (fun r1 h2 e w2 => ?_)
  have hF2 : sv_FP h2 = F := (ow_X14_nextTwo sv_clT trivial e).2.1.1.trans hF
  clear e w hF
  have hF := hF2
  have w := w2
  clear hF2 w2
  refine sm_gI w tx0 (by decide) (fun v3 => ?_)
  refine sm_cl w (sm_X14_nextTwo w.1 (w.k tx0 (by decide))) (fun r4 h2 e w2 => ?_)
  have hF2 : sv_FP h2 = F := (ow_X14_nextTwo sv_clT trivial e).2.1.1.trans hF
  clear e w hF
  have hF := hF2
  have w := w2
  clear hF2 w2
  exact sm_X14_readVertex_31 sv_fuel w tx0
theorem sm_X14_readVertex {x0 : Nat} {x1 : Int32} {h : sv_H} (g : vt_G h) (tx0 : sv_K h x0 = 15) : vt_sm h (fn_X14_readVertex x0 x1 h) (ab_X14_readVertex x0 x1 (vt_ab h)) := sm_X14_readVertex_0 ⟨g, vt_ko.refl h⟩ tx0

theorem sm_X14_readTexture_47 {h0 : sv_H} {h : sv_H} (w : vt_W h0 h) : vt_sm h0 (fn_X14_readTexture_47 h) (ab_X14_readTexture_47 (vt_ab h)) := by
  unfold fn_X14_readTexture_47 ab_X14_readTexture_47
  obtain ⟨F, hF⟩ : ∃ F, sv_FP h = F := ⟨_, rfl⟩
  exact sm_rt w
theorem sm_X14_readTexture_16b {h0 : sv_H} {k16 : Nat → Int32 → Int32 → Int32 → sv_H → Option (Unit × sv_H)} {j16 : Nat → Int32 → Int32 → Int32 → vt_S → Option (Unit × vt_S)} (hk16 : ∀ {x0 : Nat} {x1 : Int32} {x2 : Int32} {x3 : Int32} {h : sv_H}, vt_W h0 h → sv_K h0 x0 = 15 → vt_sm h0 (k16 x0 x1 x2 x3 h) (j16 x0 x1 x2 x3 (vt_ab h))) {x0 : Nat} {x1 : Int32} {x2 : Int32} {x3 : Int32} {h : sv_H} (w : vt_W h0 h) (tx0 : sv_K h0 x0 = 15) : vt_sm h0 (fn_X14_readTexture_16b k16 x0 x1 x2 x3 h) (ab_X14_readTexture_16b j16 x0 x1 x2 x3 (vt_ab h)) := by
  unfold fn_X14_readTexture_16b ab_X14_readTexture_16b
  obtain ⟨F, hF⟩ : ∃ F, sv_FP h = F := ⟨_, rfl⟩
  refine sm_if (fun _ => ?_) (fun _ => ?_)
  · exact sm_X14_readTexture_47 w
  · refine sm_gI w tx0 (by decide) (fun v1 => ?_)
    refine sm_if (fun _ => ?_) (fun _ => ?_)
    · refine sm_cl w (sm_X14_next w.1 (w.k tx0 (by decide))) (fun r2 h2 e w2 => ?_)
      have hF2 : sv_FP h2 = F := (ow_X14_next sv_clT trivial e).2.1.1.trans hF
      clear e w hF
      have hF := hF2
      have w := w2
      clear hF2 w2
      exact hk16 w tx0
    · exact sm_X14_readTexture_47 w
theorem sm_X14_readTexture_16 {h0 : sv_H} : ∀ (n : Nat) {x0 : Nat} {x1 : Int32} {x2 : Int32} {x3 : Int32} {h : sv_H}, vt_W h0 h → sv_K h0 x0 = 15 → vt_sm h0 (fn_X14_readTexture_16 n x0 x1 x2 x3 h) (ab_X14_readTexture_16 n x0 x1 x2 x3 (vt_ab h)) := by
  intro n
  induction n with
  | zero => intro x0 x1 x2 x3 h w tx0; exact sm_no
  | succ n ih => intro x0 x1 x2 x3 h w tx0; exact sm_X14_readTexture_16b (k16 := fn_X14_readTexture_16 n) (j16 := ab_X14_readTexture_16 n) (fun w tx0 => ih w tx0) w tx0
theorem sm_X14_readTexture_0 {h0 : sv_H} {x0 : Nat} {h : sv_H} (w : vt_W h0 h) (tx0 : sv_K h0 x0 = 15) : vt_sm h0 (fn_X14_readTexture x0 h) (ab_X14_readTexture x0 (vt_ab h)) := by
  unfold fn_X14_readTexture ab_X14_readTexture
  obtain ⟨F, hF⟩ : ∃ F, sv_FP h = F := ⟨_, rfl⟩
  refine sm_kd w tx0 (by decide) ?_
  refine sm_cl w (sm_X14_next w.1 (w.k tx0 (by decide))) (fun r1 h2 e w2 => ?_)
  have hF2 : sv_FP h2 = F := (ow_X14_next sv_clT trivial e).2.1.1.trans hF
  clear e w hF
  have hF := hF2
  have w := w2
  clear hF2 w2
  refine sm_cl w (sm_X14_next w.1 (w.k tx0 (by decide))) (fun r3 h2 e w2 => ?_)
  have hF2 : sv_FP h2 = F := (ow_X14_next sv_clT trivial e).2.1.1.trans hF
  clear e w hF
  have hF := hF2
  have w := w2
  clear hF2 w2
  exact sm_X14_readTexture_16 sv_fuel w tx0
theorem sm_X14_readTexture {x0 : Nat} {h : sv_H} (g : vt_G h) (tx0 : sv_K h x0 = 15) : vt_sm h (fn_X14_readTexture x0 h) (ab_X14_readTexture x0 (vt_ab h)) := sm_X14_readTexture_0 ⟨g, vt_ko.refl h⟩ tx0

theorem sm_X14_nextOr_39 {h0 : sv_H} {x2 : Int32} {h : sv_H} (w : vt_W h0 h) : vt_sm h0 (fn_X14_nextOr_39 x2 h) (ab_X14_nextOr_39 x2 (vt_ab h)) := by
  unfold fn_X14_nextOr_39 ab_X14_nextOr_39
  obtain ⟨F, hF⟩ : ∃ F, sv_FP h = F := ⟨_, rfl⟩
  exact sm_rt w
theorem sm_X14_nextOr_0 {h0 : sv_H} {x0 : Nat} {x1 : Int32} {h : sv_H} (w : vt_W h0 h) (tx0 : sv_K h0 x0 = 15) : vt_sm h0 (fn_X14_nextOr x0 x1 h) (ab_X14_nextOr x0 x1 (vt_ab h)) := by
  unfold fn_X14_nextOr ab_X14_nextOr
  obtain ⟨F, hF⟩ : ∃ F, sv_FP h = F := ⟨_, rfl⟩
  refine sm_kd w tx0 (by decide) ?_
  refine sm_cl w (sm_X14_next w.1 (w.k tx0 (by decide))) (fun r1 h2 e w2 => ?_)
  have hF2 : sv_FP h2 = F := (ow_X14_next sv_clT trivial e).2.1.1.trans hF
  clear e w hF
  have hF := hF2
  have w := w2
  clear hF2 w2
  refine sm_gI w tx0 (by decide) (fun v3 => ?_)
  refine sm_if (fun _ => ?_) (fun _ => ?_)
  · refine sm_if (fun _ => ?_) (fun _ => ?_)
    · exact sm_X14_nextOr_39 w
    · refine sm_if (fun _ => ?_) (fun _ => ?_)
      · exact sm_X14_nextOr_39 w
      · refine sm_gI w tx0 (by decide) (fun v4 => ?_)
        refine sm_cl w (sm_X14_wrong w.1 (w.k tx0 (by decide))) (fun _ h2 e w2 => ?_)
        have hF2 : sv_FP h2 = F := (ow_X14_wrong sv_clT trivial e).2.1.1.trans hF
        clear e w hF
        have hF := hF2
        have w := w2
        clear hF2 w2
        exact sm_X14_nextOr_39 w
  · exact sm_X14_nextOr_39 w
theorem sm_X14_nextOr {x0 : Nat} {x1 : Int32} {h : sv_H} (g : vt_G h) (tx0 : sv_K h x0 = 15) : vt_sm h (fn_X14_nextOr x0 x1 h) (ab_X14_nextOr x0 x1 (vt_ab h)) := sm_X14_nextOr_0 ⟨g, vt_ko.refl h⟩ tx0

theorem sm_X14_readSector_47 {h0 : sv_H} {x0 : Nat} {x1 : Int32} {h : sv_H} (w : vt_W h0 h) (tx0 : sv_K h0 x0 = 15) : vt_sm h0 (fn_X14_readSector_47 x0 x1 h) (ab_X14_readSector_47 x0 x1 (vt_ab h)) := by
  unfold fn_X14_readSector_47 ab_X14_readSector_47
  obtain ⟨F, hF⟩ : ∃ F, sv_FP h = F := ⟨_, rfl⟩
  refine sm_cl w (sm_X14_next w.1 (w.k tx0 (by decide))) (fun r1 h2 e w2 => ?_)
  have hF2 : sv_FP h2 = F := (ow_X14_next sv_clT trivial e).2.1.1.trans hF
  clear e w hF
  have hF := hF2
  have w := w2
  clear hF2 w2
  refine sm_cl w (sm_X14_nextOr w.1 (w.k tx0 (by decide))) (fun r3 h2 e w2 => ?_)
  have hF2 : sv_FP h2 = F := (ow_X14_nextOr sv_clT trivial e).2.1.1.trans hF
  clear e w hF
  have hF := hF2
  have w := w2
  clear hF2 w2
  refine sm_cl w (sm_X14_next w.1 (w.k tx0 (by decide))) (fun r5 h2 e w2 => ?_)
  have hF2 : sv_FP h2 = F := (ow_X14_next sv_clT trivial e).2.1.1.trans hF
  clear e w hF
  have hF := hF2
  have w := w2
  clear hF2 w2
  refine sm_cl w (sm_X14_next w.1 (w.k tx0 (by decide))) (fun r7 h2 e w2 => ?_)
  have hF2 : sv_FP h2 = F := (ow_X14_next sv_clT trivial e).2.1.1.trans hF
  clear e w hF
  have hF := hF2
  have w := w2
  clear hF2 w2
  refine sm_cl w (sm_X14_next w.1 (w.k tx0 (by decide))) (fun r9 h2 e w2 => ?_)
  have hF2 : sv_FP h2 = F := (ow_X14_next sv_clT trivial e).2.1.1.trans hF
  clear e w hF
  have hF := hF2
  have w := w2
  clear hF2 w2
  exact sm_rt w
theorem sm_X14_readSector_0 {h0 : sv_H} {x0 : Nat} {x1 : Int32} {h : sv_H} (w : vt_W h0 h) (tx0 : sv_K h0 x0 = 15) : vt_sm h0 (fn_X14_readSector x0 x1 h) (ab_X14_readSector x0 x1 (vt_ab h)) := by
  unfold fn_X14_readSector ab_X14_readSector
  obtain ⟨F, hF⟩ : ∃ F, sv_FP h = F := ⟨_, rfl⟩
  refine sm_kd w tx0 (by decide) ?_
  refine sm_cl w (sm_X14_nextTwo w.1 (w.k tx0 (by decide))) (fun r1 h2 e w2 => ?_)
  have hF2 : sv_FP h2 = F := (ow_X14_nextTwo sv_clT trivial e).2.1.1.trans hF
  clear e w hF
  have hF := hF2
  have w := w2
  clear hF2 w2
  refine sm_gI w tx0 (by decide) (fun v3 => ?_)
  refine sm_cl w (sm_X14_nextTwo w.1 (w.k tx0 (by decide))) (fun r4 h2 e w2 => ?_)
  have hF2 : sv_FP h2 = F := (ow_X14_nextTwo sv_clT trivial e).2.1.1.trans hF
  clear e w hF
  have hF := hF2
  have w := w2
  clear hF2 w2
  refine sm_gI w tx0 (by decide) (fun v6 => ?_)
  refine sm_if (fun _ => ?_) (fun _ => ?_)
  · refine sm_if (fun _ => ?_) (fun _ => ?_)
    · exact sm_X14_readSector_47 w tx0
    · refine sm_cl w (sm_X14_wrong w.1 (w.k tx0 (by decide))) (fun _ h2 e w2 => ?_)
      have hF2 : sv_FP h2 = F := (ow_X14_wrong sv_clT trivial e).2.1.1.trans hF
      clear e w hF
      have hF := hF2
      have w := w2
      clear hF2 w2
      exact sm_X14_readSector_47 w tx0
  · exact sm_X14_readSector_47 w tx0
theorem sm_X14_readSector {x0 : Nat} {x1 : Int32} {h : sv_H} (g : vt_G h) (tx0 : sv_K h x0 = 15) : vt_sm h (fn_X14_readSector x0 x1 h) (ab_X14_readSector x0 x1 (vt_ab h)) := sm_X14_readSector_0 ⟨g, vt_ko.refl h⟩ tx0

theorem sm_X14_readWall_119 {h0 : sv_H} {k65 : Nat → Int32 → Int32 → Int32 → sv_H → Option (Unit × sv_H)} {j65 : Nat → Int32 → Int32 → Int32 → vt_S → Option (Unit × vt_S)} (hk65 : ∀ {x0 : Nat} {x2 : Int32} {x7 : Int32} {x8 : Int32} {h : sv_H}, vt_W h0 h → sv_K h0 x0 = 15 → vt_sm h0 (k65 x0 x2 x7 x8 h) (j65 x0 x2 x7 x8 (vt_ab h))) {x0 : Nat} {x2 : Int32} {x7 : Int32} {x8 : Int32} {h : sv_H} (w : vt_W h0 h) (tx0 : sv_K h0 x0 = 15) : vt_sm h0 (fn_X14_readWall_119 k65 x0 x2 x7 x8 h) (ab_X14_readWall_119 j65 x0 x2 x7 x8 (vt_ab h)) := by
  unfold fn_X14_readWall_119 ab_X14_readWall_119
  obtain ⟨F, hF⟩ : ∃ F, sv_FP h = F := ⟨_, rfl⟩
  exact hk65 w tx0
theorem sm_X14_readWall_65b {h0 : sv_H} {k65 : Nat → Int32 → Int32 → Int32 → sv_H → Option (Unit × sv_H)} {j65 : Nat → Int32 → Int32 → Int32 → vt_S → Option (Unit × vt_S)} (hk65 : ∀ {x0 : Nat} {x2 : Int32} {x7 : Int32} {x8 : Int32} {h : sv_H}, vt_W h0 h → sv_K h0 x0 = 15 → vt_sm h0 (k65 x0 x2 x7 x8 h) (j65 x0 x2 x7 x8 (vt_ab h))) {x0 : Nat} {x2 : Int32} {x7 : Int32} {x8 : Int32} {h : sv_H} (w : vt_W h0 h) (tx0 : sv_K h0 x0 = 15) : vt_sm h0 (fn_X14_readWall_65b k65 x0 x2 x7 x8 h) (ab_X14_readWall_65b j65 x0 x2 x7 x8 (vt_ab h)) := by
  unfold fn_X14_readWall_65b ab_X14_readWall_65b
  obtain ⟨F, hF⟩ : ∃ F, sv_FP h = F := ⟨_, rfl⟩
  refine sm_if (fun _ => ?_) (fun _ => ?_)
  · refine sm_cl w (sm_X14_next w.1 (w.k tx0 (by decide))) (fun r1 h2 e w2 => ?_)
    have hF2 : sv_FP h2 = F := (ow_X14_next sv_clT trivial e).2.1.1.trans hF
    clear e w hF
    have hF := hF2
    have w := w2
    clear hF2 w2
    refine sm_cl w (sm_X14_next w.1 (w.k tx0 (by decide))) (fun r3 h2 e w2 => ?_)
    have hF2 : sv_FP h2 = F := (ow_X14_next sv_clT trivial e).2.1.1.trans hF
    clear e w hF
    have hF := hF2
    have w := w2
    clear hF2 w2
    refine sm_cl w (sm_X14_next w.1 (w.k tx0 (by decide))) (fun r5 h2 e w2 => ?_)
    have hF2 : sv_FP h2 = F := (ow_X14_next sv_clT trivial e).2.1.1.trans hF
    clear e w hF
    have hF := hF2
    have w := w2
    clear hF2 w2
    refine sm_cl w (sm_X14_next w.1 (w.k tx0 (by decide))) (fun r7 h2 e w2 => ?_)
    have hF2 : sv_FP h2 = F := (ow_X14_next sv_clT trivial e).2.1.1.trans hF
    clear e w hF
    have hF := hF2
    have w := w2
    clear hF2 w2
    exact sm_rt w
  · refine sm_cl w (sm_X14_nextOr w.1 (w.k tx0 (by decide))) (fun r9 h2 e w2 => ?_)
    have hF2 : sv_FP h2 = F := (ow_X14_nextOr sv_clT trivial e).2.1.1.trans hF
    clear e w hF
    have hF := hF2
    have w := w2
    clear hF2 w2
    refine sm_gI w tx0 (by decide) (fun v11 => ?_)
    refine sm_if (fun _ => ?_) (fun _ => ?_)
    · refine sm_if (fun _ => ?_) (fun _ => ?_)
      · exact sm_X14_readWall_119 (k65 := k65) (j65 := j65) hk65 w tx0
      · refine sm_if (fun _ => ?_) (fun _ => ?_)
        · refine sm_if (fun _ => ?_) (fun _ => ?_)
          · exact sm_X14_readWall_119 (k65 := k65) (j65 := j65) hk65 w tx0
          · refine sm_gI w tx0 (by decide) (fun v12 => ?_)
            refine sm_cl w (sm_X14_wrong w.1 (w.k tx0 (by decide))) (fun _ h2 e w2 => ?_)
            have hF2 : sv_FP h2 = F := (ow_X14_wrong sv_clT trivial e).2.1.1.trans hF
            clear e w hF
            have hF := hF2
            have w := w2
            clear hF2 w2
            exact sm_X14_readWall_119 (k65 := k65) (j65 := j65) hk65 w tx0
        · exact sm_X14_readWall_119 (k65 := k65) (j65 := j65) hk65 w tx0
    · exact sm_X14_readWall_119 (k65 := k65) (j65 := j65) hk65 w tx0
theorem sm_X14_readWall_65 {h0 : sv_H} : ∀ (n : Nat) {x0 : Nat} {x2 : Int32} {x7 : Int32} {x8 : Int32} {h : sv_H}, vt_W h0 h → sv_K h0 x0 = 15 → vt_sm h0 (fn_X14_readWall_65 n x0 x2 x7 x8 h) (ab_X14_readWall_65 n x0 x2 x7 x8 (vt_ab h)) := by
  intro n
  induction n with
  | zero => intro x0 x2 x7 x8 h w tx0; exact sm_no
  | succ n ih => intro x0 x2 x7 x8 h w tx0; exact sm_X14_readWall_65b (k65 := fn_X14_readWall_65 n) (j65 := ab_X14_readWall_65 n) (fun w tx0 => ih w tx0) w tx0
theorem sm_X14_readWall_45 {h0 : sv_H} {x0 : Nat} {x2 : Int32} {x3 : Int32} {h : sv_H} (w : vt_W h0 h) (tx0 : sv_K h0 x0 = 15) : vt_sm h0 (fn_X14_readWall_45 x0 x2 x3 h) (ab_X14_readWall_45 x0 x2 x3 (vt_ab h)) := by
  unfold fn_X14_readWall_45 ab_X14_readWall_45
  obtain ⟨F, hF⟩ : ∃ F, sv_FP h = F := ⟨_, rfl⟩
  refine sm_cl w (sm_X14_next w.1 (w.k tx0 (by decide))) (fun r1 h2 e w2 => ?_)
  have hF2 : sv_FP h2 = F := (ow_X14_next sv_clT trivial e).2.1.1.trans hF
  clear e w hF
  have hF := hF2
  have w := w2
  clear hF2 w2
  refine sm_cl w (sm_X14_nextOr w.1 (w.k tx0 (by decide))) (fun r3 h2 e w2 => ?_)
  have hF2 : sv_FP h2 = F := (ow_X14_nextOr sv_clT trivial e).2.1.1.trans hF
  clear e w hF
  have hF := hF2
  have w := w2
  clear hF2 w2
  exact sm_X14_readWall_65 sv_fuel w tx0
theorem sm_X14_readWall_0 {h0 : sv_H} {x0 : Nat} {x1 : Int32} {x2 : Int32} {x3 : Int32} {h : sv_H} (w : vt_W h0 h) (tx0 : sv_K h0 x0 = 15) : vt_sm h0 (fn_X14_readWall x0 x1 x2 x3 h) (ab_X14_readWall x0 x1 x2 x3 (vt_ab h)) := by
  unfold fn_X14_readWall ab_X14_readWall
  obtain ⟨F, hF⟩ : ∃ F, sv_FP h = F := ⟨_, rfl⟩
  refine sm_kd w tx0 (by decide) ?_
  refine sm_cl w (sm_X14_next w.1 (w.k tx0 (by decide))) (fun r1 h2 e w2 => ?_)
  have hF2 : sv_FP h2 = F := (ow_X14_next sv_clT trivial e).2.1.1.trans hF
  clear e w hF
  have hF := hF2
  have w := w2
  clear hF2 w2
  refine sm_cl w (sm_X14_next w.1 (w.k tx0 (by decide))) (fun r3 h2 e w2 => ?_)
  have hF2 : sv_FP h2 = F := (ow_X14_next sv_clT trivial e).2.1.1.trans hF
  clear e w hF
  have hF := hF2
  have w := w2
  clear hF2 w2
  refine sm_gI w tx0 (by decide) (fun v5 => ?_)
  refine sm_if (fun _ => ?_) (fun _ => ?_)
  · refine sm_if (fun _ => ?_) (fun _ => ?_)
    · refine sm_gI w tx0 (by decide) (fun v6 => ?_)
      refine sm_cl w (sm_X14_wrong w.1 (w.k tx0 (by decide))) (fun _ h2 e w2 => ?_)
      have hF2 : sv_FP h2 = F := (ow_X14_wrong sv_clT trivial e).2.1.1.trans hF
      clear e w hF
      have hF := hF2
      have w := w2
      clear hF2 w2
      exact sm_X14_readWall_45 w tx0
    · exact sm_X14_readWall_45 w tx0
  · exact sm_X14_readWall_45 w tx0
theorem sm_X14_readWall {x0 : Nat} {x1 : Int32} {x2 : Int32} {x3 : Int32} {h : sv_H} (g : vt_G h) (tx0 : sv_K h x0 = 15) : vt_sm h (fn_X14_readWall x0 x1 x2 x3 h) (ab_X14_readWall x0 x1 x2 x3 (vt_ab h)) := sm_X14_readWall_0 ⟨g, vt_ko.refl h⟩ tx0

theorem sm_X14_readCheck_32 {h0 : sv_H} {h : sv_H} (w : vt_W h0 h) : vt_sm h0 (fn_X14_readCheck_32 h) (ab_X14_readCheck_32 (vt_ab h)) := by
  unfold fn_X14_readCheck_32 ab_X14_readCheck_32
  obtain ⟨F, hF⟩ : ∃ F, sv_FP h = F := ⟨_, rfl⟩
  exact sm_rt w
theorem sm_X14_readCheck_0 {h0 : sv_H} {x0 : Nat} {x1 : Int32} {h : sv_H} (w : vt_W h0 h) (tx0 : sv_K h0 x0 = 15) : vt_sm h0 (fn_X14_readCheck x0 x1 h) (ab_X14_readCheck x0 x1 (vt_ab h)) := by
  unfold fn_X14_readCheck ab_X14_readCheck
  obtain ⟨F, hF⟩ : ∃ F, sv_FP h = F := ⟨_, rfl⟩
  refine sm_kd w tx0 (by decide) ?_
  refine sm_gI w tx0 (by decide) (fun v1 => ?_)
  refine sm_cl w (sm_X14_next w.1 (w.k tx0 (by decide))) (fun r2 h2 e w2 => ?_)
  have hF2 : sv_FP h2 = F := (ow_X14_next sv_clT trivial e).2.1.1.trans hF
  clear e w hF
  have hF := hF2
  have w := w2
  clear hF2 w2
  refine sm_gI w tx0 (by decide) (fun v4 => ?_)
  refine sm_if (fun _ => ?_) (fun _ => ?_)
  · refine sm_if (fun _ => ?_) (fun _ => ?_)
    · exact sm_X14_readCheck_32 w
    · refine sm_cl w (sm_X14_wrong w.1 (w.k tx0 (by decide))) (fun _ h2 e w2 => ?_)
      have hF2 : sv_FP h2 = F := (ow_X14_wrong sv_clT trivial e).2.1.1.trans hF
      clear e w hF
      have hF := hF2
      have w := w2
      clear hF2 w2
      exact sm_X14_readCheck_32 w
  · exact sm_X14_readCheck_32 w
theorem sm_X14_readCheck {x0 : Nat} {x1 : Int32} {h : sv_H} (g : vt_G h) (tx0 : sv_K h x0 = 15) : vt_sm h (fn_X14_readCheck x0 x1 h) (ab_X14_readCheck x0 x1 (vt_ab h)) := sm_X14_readCheck_0 ⟨g, vt_ko.refl h⟩ tx0

theorem sm_X14_vertexOf_0 {h0 : sv_H} {x0 : Nat} {x1 : Int32} {x2 : Int32} {h : sv_H} (w : vt_W h0 h) (tx0 : sv_K h0 x0 = 15) : vt_sm h0 (fn_X14_vertexOf x0 x1 x2 h) (ab_X14_vertexOf x0 x1 x2 (vt_ab h)) := by
  unfold fn_X14_vertexOf ab_X14_vertexOf
  obtain ⟨F, hF⟩ : ∃ F, sv_FP h = F := ⟨_, rfl⟩
  refine sm_kd w tx0 (by decide) ?_
  refine sm_gA w hF tx0 tk_1500 (by decide) (fun v1 av1 => ?_)
  refine sm_lB w hF tx0 av1 tk_1500 (fun _ => ?_)
  exact sm_rt w
theorem sm_X14_vertexOf {x0 : Nat} {x1 : Int32} {x2 : Int32} {h : sv_H} (g : vt_G h) (tx0 : sv_K h x0 = 15) : vt_sm h (fn_X14_vertexOf x0 x1 x2 h) (ab_X14_vertexOf x0 x1 x2 (vt_ab h)) := sm_X14_vertexOf_0 ⟨g, vt_ko.refl h⟩ tx0

theorem sm_X14_cross_0 {h0 : sv_H} {x0 : Int64} {x2 : Int64} {x4 : Int64} {x6 : Int64} {h : sv_H} (w : vt_W h0 h) : vt_sm h0 (fn_X14_cross x0 x2 x4 x6 h) (ab_X14_cross x0 x2 x4 x6 (vt_ab h)) := by
  unfold fn_X14_cross ab_X14_cross
  obtain ⟨F, hF⟩ : ∃ F, sv_FP h = F := ⟨_, rfl⟩
  exact sm_rt w
theorem sm_X14_cross {x0 : Int64} {x2 : Int64} {x4 : Int64} {x6 : Int64} {h : sv_H} (g : vt_G h) : vt_sm h (fn_X14_cross x0 x2 x4 x6 h) (ab_X14_cross x0 x2 x4 x6 (vt_ab h)) := sm_X14_cross_0 ⟨g, vt_ko.refl h⟩

theorem sm_X14_side_153 {h0 : sv_H} {s0 : Int32} {h : sv_H} (w : vt_W h0 h) : vt_sm h0 (fn_X14_side_153 s0 h) (ab_X14_side_153 s0 (vt_ab h)) := by
  unfold fn_X14_side_153 ab_X14_side_153
  obtain ⟨F, hF⟩ : ∃ F, sv_FP h = F := ⟨_, rfl⟩
  exact sm_rt w
theorem sm_X14_side_0 {h0 : sv_H} {x0 : Nat} {x1 : Int32} {x2 : Int32} {h : sv_H} (w : vt_W h0 h) (tx0 : sv_K h0 x0 = 15) : vt_sm h0 (fn_X14_side x0 x1 x2 h) (ab_X14_side x0 x1 x2 (vt_ab h)) := by
  unfold fn_X14_side ab_X14_side
  obtain ⟨F, hF⟩ : ∃ F, sv_FP h = F := ⟨_, rfl⟩
  refine sm_kd w tx0 (by decide) ?_
  refine sm_gA w hF tx0 tk_1500 (by decide) (fun v1 av1 => ?_)
  refine sm_cl w (sm_X14_vertexOf w.1 (w.k tx0 (by decide))) (fun r2 h2 e w2 => ?_)
  have hF2 : sv_FP h2 = F := by rw [ro_X14_vertexOf e]; exact hF
  clear e w hF
  have hF := hF2
  have w := w2
  clear hF2 w2
  refine sm_cl w (sm_X14_pair w.1 tk_1500 (w.k tx0 (by decide)) (by rw [hF]; exact av1)) (fun r4 h2 e w2 => ?_)
  have hF2 : sv_FP h2 = F := by rw [ro_X14_pair e]; exact hF
  clear e w hF
  have hF := hF2
  have w := w2
  clear hF2 w2
  refine sm_gA w hF tx0 tk_1500 (by decide) (fun v6 av6 => ?_)
  refine sm_cl w (sm_X14_vertexOf w.1 (w.k tx0 (by decide))) (fun r7 h2 e w2 => ?_)
  have hF2 : sv_FP h2 = F := by rw [ro_X14_vertexOf e]; exact hF
  clear e w hF
  have hF := hF2
  have w := w2
  clear hF2 w2
  refine sm_cl w (sm_X14_pair w.1 tk_1500 (w.k tx0 (by decide)) (by rw [hF]; exact av6)) (fun r9 h2 e w2 => ?_)
  have hF2 : sv_FP h2 = F := by rw [ro_X14_pair e]; exact hF
  clear e w hF
  have hF := hF2
  have w := w2
  clear hF2 w2
  refine sm_gA w hF tx0 tk_1500 (by decide) (fun v11 av11 => ?_)
  refine sm_cl w (sm_X14_vertexOf w.1 (w.k tx0 (by decide))) (fun r12 h2 e w2 => ?_)
  have hF2 : sv_FP h2 = F := by rw [ro_X14_vertexOf e]; exact hF
  clear e w hF
  have hF := hF2
  have w := w2
  clear hF2 w2
  refine sm_cl w (sm_X14_pair w.1 tk_1500 (w.k tx0 (by decide)) (by rw [hF]; exact av11)) (fun r14 h2 e w2 => ?_)
  have hF2 : sv_FP h2 = F := by rw [ro_X14_pair e]; exact hF
  clear e w hF
  have hF := hF2
  have w := w2
  clear hF2 w2
  refine sm_gA w hF tx0 tk_1500 (by decide) (fun v16 av16 => ?_)
  refine sm_cl w (sm_X14_vertexOf w.1 (w.k tx0 (by decide))) (fun r17 h2 e w2 => ?_)
  have hF2 : sv_FP h2 = F := by rw [ro_X14_vertexOf e]; exact hF
  clear e w hF
  have hF := hF2
  have w := w2
  clear hF2 w2
  refine sm_cl w (sm_X14_pair w.1 tk_1500 (w.k tx0 (by decide)) (by rw [hF]; exact av16)) (fun r19 h2 e w2 => ?_)
  have hF2 : sv_FP h2 = F := by rw [ro_X14_pair e]; exact hF
  clear e w hF
  have hF := hF2
  have w := w2
  clear hF2 w2
  refine sm_gA w hF tx0 tk_1500 (by decide) (fun v21 av21 => ?_)
  refine sm_cl w (sm_X14_pair w.1 tk_1500 (w.k tx0 (by decide)) (by rw [hF]; exact av21)) (fun r22 h2 e w2 => ?_)
  have hF2 : sv_FP h2 = F := by rw [ro_X14_pair e]; exact hF
  clear e w hF
  have hF := hF2
  have w := w2
  clear hF2 w2
  refine sm_gA w hF tx0 tk_1500 (by decide) (fun v24 av24 => ?_)
  refine sm_cl w (sm_X14_pair w.1 tk_1500 (w.k tx0 (by decide)) (by rw [hF]; exact av24)) (fun r25 h2 e w2 => ?_)
  have hF2 : sv_FP h2 = F := by rw [ro_X14_pair e]; exact hF
  clear e w hF
  have hF := hF2
  have w := w2
  clear hF2 w2
  refine sm_cl w (sm_X14_cross w.1) (fun r27 h2 e w2 => ?_)
  have hF2 : sv_FP h2 = F := by rw [ro_X14_cross e]; exact hF
  clear e w hF
  have hF := hF2
  have w := w2
  clear hF2 w2
  refine sm_if (fun _ => ?_) (fun _ => ?_)
  · refine sm_if (fun _ => ?_) (fun _ => ?_)
    · exact sm_X14_side_153 w
    · exact sm_X14_side_153 w
  · exact sm_X14_side_153 w
theorem sm_X14_side {x0 : Nat} {x1 : Int32} {x2 : Int32} {h : sv_H} (g : vt_G h) (tx0 : sv_K h x0 = 15) : vt_sm h (fn_X14_side x0 x1 x2 h) (ab_X14_side x0 x1 x2 (vt_ab h)) := sm_X14_side_0 ⟨g, vt_ko.refl h⟩ tx0

theorem sm_X14_lies_35 {h0 : sv_H} {h : sv_H} (w : vt_W h0 h) : vt_sm h0 (fn_X14_lies_35 h) (ab_X14_lies_35 (vt_ab h)) := by
  unfold fn_X14_lies_35 ab_X14_lies_35
  obtain ⟨F, hF⟩ : ∃ F, sv_FP h = F := ⟨_, rfl⟩
  exact sm_rt w
theorem sm_X14_lies_156 {h0 : sv_H} {s0 : Int32} {h : sv_H} (w : vt_W h0 h) : vt_sm h0 (fn_X14_lies_156 s0 h) (ab_X14_lies_156 s0 (vt_ab h)) := by
  unfold fn_X14_lies_156 ab_X14_lies_156
  obtain ⟨F, hF⟩ : ∃ F, sv_FP h = F := ⟨_, rfl⟩
  exact sm_rz w
theorem sm_X14_lies_0 {h0 : sv_H} {x0 : Nat} {x1 : Int32} {x2 : Int32} {h : sv_H} (w : vt_W h0 h) (tx0 : sv_K h0 x0 = 15) : vt_sm h0 (fn_X14_lies x0 x1 x2 h) (ab_X14_lies x0 x1 x2 (vt_ab h)) := by
  unfold fn_X14_lies ab_X14_lies
  obtain ⟨F, hF⟩ : ∃ F, sv_FP h = F := ⟨_, rfl⟩
  refine sm_kd w tx0 (by decide) ?_
  refine sm_cl w (sm_X14_vertexOf w.1 (w.k tx0 (by decide))) (fun r1 h2 e w2 => ?_)
  have hF2 : sv_FP h2 = F := by rw [ro_X14_vertexOf e]; exact hF
  clear e w hF
  have hF := hF2
  have w := w2
  clear hF2 w2
  refine sm_cl w (sm_X14_vertexOf w.1 (w.k tx0 (by decide))) (fun r3 h2 e w2 => ?_)
  have hF2 : sv_FP h2 = F := by rw [ro_X14_vertexOf e]; exact hF
  clear e w hF
  have hF := hF2
  have w := w2
  clear hF2 w2
  refine sm_if (fun _ => ?_) (fun _ => ?_)
  · exact sm_X14_lies_35 w
  · refine sm_if (fun _ => ?_) (fun _ => ?_)
    · exact sm_X14_lies_35 w
    · refine sm_cl w (sm_X14_side w.1 (w.k tx0 (by decide))) (fun r5 h2 e w2 => ?_)
      have hF2 : sv_FP h2 = F := by rw [ro_X14_side e]; exact hF
      clear e w hF
      have hF := hF2
      have w := w2
      clear hF2 w2
      refine sm_if (fun _ => ?_) (fun _ => ?_)
      · refine sm_gA w hF tx0 tk_1500 (by decide) (fun v7 av7 => ?_)
        refine sm_cl w (sm_X14_pair w.1 tk_1500 (w.k tx0 (by decide)) (by rw [hF]; exact av7)) (fun r8 h2 e w2 => ?_)
        have hF2 : sv_FP h2 = F := by rw [ro_X14_pair e]; exact hF
        clear e w hF
        have hF := hF2
        have w := w2
        clear hF2 w2
        refine sm_gA w hF tx0 tk_1500 (by decide) (fun v10 av10 => ?_)
        refine sm_cl w (sm_X14_pair w.1 tk_1500 (w.k tx0 (by decide)) (by rw [hF]; exact av10)) (fun r11 h2 e w2 => ?_)
        have hF2 : sv_FP h2 = F := by rw [ro_X14_pair e]; exact hF
        clear e w hF
        have hF := hF2
        have w := w2
        clear hF2 w2
        refine sm_gA w hF tx0 tk_1500 (by decide) (fun v13 av13 => ?_)
        refine sm_cl w (sm_X14_pair w.1 tk_1500 (w.k tx0 (by decide)) (by rw [hF]; exact av13)) (fun r14 h2 e w2 => ?_)
        have hF2 : sv_FP h2 = F := by rw [ro_X14_pair e]; exact hF
        clear e w hF
        have hF := hF2
        have w := w2
        clear hF2 w2
        refine sm_gA w hF tx0 tk_1500 (by decide) (fun v16 av16 => ?_)
        refine sm_cl w (sm_X14_pair w.1 tk_1500 (w.k tx0 (by decide)) (by rw [hF]; exact av16)) (fun r17 h2 e w2 => ?_)
        have hF2 : sv_FP h2 = F := by rw [ro_X14_pair e]; exact hF
        clear e w hF
        have hF := hF2
        have w := w2
        clear hF2 w2
        refine sm_gA w hF tx0 tk_1500 (by decide) (fun v19 av19 => ?_)
        refine sm_cl w (sm_X14_pair w.1 tk_1500 (w.k tx0 (by decide)) (by rw [hF]; exact av19)) (fun r20 h2 e w2 => ?_)
        have hF2 : sv_FP h2 = F := by rw [ro_X14_pair e]; exact hF
        clear e w hF
        have hF := hF2
        have w := w2
        clear hF2 w2
        refine sm_gA w hF tx0 tk_1500 (by decide) (fun v22 av22 => ?_)
        refine sm_cl w (sm_X14_pair w.1 tk_1500 (w.k tx0 (by decide)) (by rw [hF]; exact av22)) (fun r23 h2 e w2 => ?_)
        have hF2 : sv_FP h2 = F := by rw [ro_X14_pair e]; exact hF
        clear e w hF
        have hF := hF2
        have w := w2
        clear hF2 w2
        refine sm_if (fun _ => ?_) (fun _ => ?_)
        · exact sm_X14_lies_156 w
        · exact sm_X14_lies_156 w
      · exact sm_X14_lies_35 w
theorem sm_X14_lies {x0 : Nat} {x1 : Int32} {x2 : Int32} {h : sv_H} (g : vt_G h) (tx0 : sv_K h x0 = 15) : vt_sm h (fn_X14_lies x0 x1 x2 h) (ab_X14_lies x0 x1 x2 (vt_ab h)) := sm_X14_lies_0 ⟨g, vt_ko.refl h⟩ tx0

theorem sm_X14_touch_160 {h0 : sv_H} {s0 : Int32} {h : sv_H} (w : vt_W h0 h) : vt_sm h0 (fn_X14_touch_160 s0 h) (ab_X14_touch_160 s0 (vt_ab h)) := by
  unfold fn_X14_touch_160 ab_X14_touch_160
  obtain ⟨F, hF⟩ : ∃ F, sv_FP h = F := ⟨_, rfl⟩
  exact sm_rz w
theorem sm_X14_touch_155 {h0 : sv_H} {h : sv_H} (w : vt_W h0 h) : vt_sm h0 (fn_X14_touch_155 h) (ab_X14_touch_155 (vt_ab h)) := by
  unfold fn_X14_touch_155 ab_X14_touch_155
  obtain ⟨F, hF⟩ : ∃ F, sv_FP h = F := ⟨_, rfl⟩
  exact sm_X14_touch_160 w
theorem sm_X14_touch_104 {h0 : sv_H} {x0 : Nat} {x1 : Int32} {x2 : Int32} {x3 : Int32} {x4 : Int32} {x5 : Int32} {x6 : Int32} {x7 : Int32} {s0 : Int32} {h : sv_H} (w : vt_W h0 h) (tx0 : sv_K h0 x0 = 15) : vt_sm h0 (fn_X14_touch_104 x0 x1 x2 x3 x4 x5 x6 x7 s0 h) (ab_X14_touch_104 x0 x1 x2 x3 x4 x5 x6 x7 s0 (vt_ab h)) := by
  unfold fn_X14_touch_104 ab_X14_touch_104
  obtain ⟨F, hF⟩ : ∃ F, sv_FP h = F := ⟨_, rfl⟩
  refine sm_if (fun _ => ?_) (fun _ => ?_)
  · refine sm_if (fun _ => ?_) (fun _ => ?_)
    · refine sm_cl w (sm_X14_lies w.1 (w.k tx0 (by decide))) (fun r1 h2 e w2 => ?_)
      have hF2 : sv_FP h2 = F := by rw [ro_X14_lies e]; exact hF
      clear e w hF
      have hF := hF2
      have w := w2
      clear hF2 w2
      refine sm_if (fun _ => ?_) (fun _ => ?_)
      · refine sm_cl w (sm_X14_lies w.1 (w.k tx0 (by decide))) (fun r3 h2 e w2 => ?_)
        have hF2 : sv_FP h2 = F := by rw [ro_X14_lies e]; exact hF
        clear e w hF
        have hF := hF2
        have w := w2
        clear hF2 w2
        refine sm_if (fun _ => ?_) (fun _ => ?_)
        · refine sm_cl w (sm_X14_lies w.1 (w.k tx0 (by decide))) (fun r5 h2 e w2 => ?_)
          have hF2 : sv_FP h2 = F := by rw [ro_X14_lies e]; exact hF
          clear e w hF
          have hF := hF2
          have w := w2
          clear hF2 w2
          refine sm_if (fun _ => ?_) (fun _ => ?_)
          · refine sm_cl w (sm_X14_lies w.1 (w.k tx0 (by decide))) (fun r7 h2 e w2 => ?_)
            have hF2 : sv_FP h2 = F := by rw [ro_X14_lies e]; exact hF
            clear e w hF
            have hF := hF2
            have w := w2
            clear hF2 w2
            refine sm_if (fun _ => ?_) (fun _ => ?_)
            · exact sm_X14_touch_160 w
            · exact sm_X14_touch_155 w
          · exact sm_X14_touch_155 w
        · exact sm_X14_touch_155 w
      · exact sm_X14_touch_155 w
    · exact sm_X14_touch_155 w
  · exact sm_X14_touch_155 w
theorem sm_X14_touch_103 {h0 : sv_H} {x0 : Nat} {x1 : Int32} {x2 : Int32} {x3 : Int32} {x4 : Int32} {x5 : Int32} {x6 : Int32} {x7 : Int32} {h : sv_H} (w : vt_W h0 h) (tx0 : sv_K h0 x0 = 15) : vt_sm h0 (fn_X14_touch_103 x0 x1 x2 x3 x4 x5 x6 x7 h) (ab_X14_touch_103 x0 x1 x2 x3 x4 x5 x6 x7 (vt_ab h)) := by
  unfold fn_X14_touch_103 ab_X14_touch_103
  obtain ⟨F, hF⟩ : ∃ F, sv_FP h = F := ⟨_, rfl⟩
  exact sm_X14_touch_104 w tx0
theorem sm_X14_touch_62 {h0 : sv_H} {x0 : Nat} {x1 : Int32} {x2 : Int32} {x3 : Int32} {x4 : Int32} {x5 : Int32} {x6 : Int32} {s0 : Int32} {h : sv_H} (w : vt_W h0 h) (tx0 : sv_K h0 x0 = 15) : vt_sm h0 (fn_X14_touch_62 x0 x1 x2 x3 x4 x5 x6 s0 h) (ab_X14_touch_62 x0 x1 x2 x3 x4 x5 x6 s0 (vt_ab h)) := by
  unfold fn_X14_touch_62 ab_X14_touch_62
  obtain ⟨F, hF⟩ : ∃ F, sv_FP h = F := ⟨_, rfl⟩
  refine sm_cl w (sm_X14_side w.1 (w.k tx0 (by decide))) (fun r1 h2 e w2 => ?_)
  have hF2 : sv_FP h2 = F := by rw [ro_X14_side e]; exact hF
  clear e w hF
  have hF := hF2
  have w := w2
  clear hF2 w2
  refine sm_cl w (sm_X14_side w.1 (w.k tx0 (by decide))) (fun r3 h2 e w2 => ?_)
  have hF2 : sv_FP h2 = F := by rw [ro_X14_side e]; exact hF
  clear e w hF
  have hF := hF2
  have w := w2
  clear hF2 w2
  refine sm_if (fun _ => ?_) (fun _ => ?_)
  · exact sm_X14_touch_103 w tx0
  · refine sm_cl w (sm_X14_side w.1 (w.k tx0 (by decide))) (fun r5 h2 e w2 => ?_)
    have hF2 : sv_FP h2 = F := by rw [ro_X14_side e]; exact hF
    clear e w hF
    have hF := hF2
    have w := w2
    clear hF2 w2
    refine sm_cl w (sm_X14_side w.1 (w.k tx0 (by decide))) (fun r7 h2 e w2 => ?_)
    have hF2 : sv_FP h2 = F := by rw [ro_X14_side e]; exact hF
    clear e w hF
    have hF := hF2
    have w := w2
    clear hF2 w2
    refine sm_if (fun _ => ?_) (fun _ => ?_)
    · exact sm_X14_touch_103 w tx0
    · exact sm_X14_touch_104 w tx0
theorem sm_X14_touch_57 {h0 : sv_H} {x0 : Nat} {x1 : Int32} {x2 : Int32} {x3 : Int32} {x4 : Int32} {x5 : Int32} {x6 : Int32} {h : sv_H} (w : vt_W h0 h) (tx0 : sv_K h0 x0 = 15) : vt_sm h0 (fn_X14_touch_57 x0 x1 x2 x3 x4 x5 x6 h) (ab_X14_touch_57 x0 x1 x2 x3 x4 x5 x6 (vt_ab h)) := by
  unfold fn_X14_touch_57 ab_X14_touch_57
  obtain ⟨F, hF⟩ : ∃ F, sv_FP h = F := ⟨_, rfl⟩
  exact sm_X14_touch_62 w tx0
theorem sm_X14_touch_61 {h0 : sv_H} {x0 : Nat} {x1 : Int32} {x2 : Int32} {x3 : Int32} {x4 : Int32} {x5 : Int32} {x6 : Int32} {h : sv_H} (w : vt_W h0 h) (tx0 : sv_K h0 x0 = 15) : vt_sm h0 (fn_X14_touch_61 x0 x1 x2 x3 x4 x5 x6 h) (ab_X14_touch_61 x0 x1 x2 x3 x4 x5 x6 (vt_ab h)) := by
  unfold fn_X14_touch_61 ab_X14_touch_61
  obtain ⟨F, hF⟩ : ∃ F, sv_FP h = F := ⟨_, rfl⟩
  exact sm_X14_touch_62 w tx0
theorem sm_X14_touch_43 {h0 : sv_H} {x0 : Nat} {x1 : Int32} {x2 : Int32} {x3 : Int32} {x4 : Int32} {x5 : Int32} {x6 : Int32} {h : sv_H} (w : vt_W h0 h) (tx0 : sv_K h0 x0 = 15) : vt_sm h0 (fn_X14_touch_43 x0 x1 x2 x3 x4 x5 x6 h) (ab_X14_touch_43 x0 x1 x2 x3 x4 x5 x6 (vt_ab h)) := by
  unfold fn_X14_touch_43 ab_X14_touch_43
  obtain ⟨F, hF⟩ : ∃ F, sv_FP h = F := ⟨_, rfl⟩
  refine sm_if (fun _ => ?_) (fun _ => ?_)
  · exact sm_X14_touch_57 w tx0
  · refine sm_if (fun _ => ?_) (fun _ => ?_)
    · exact sm_X14_touch_57 w tx0
    · exact sm_X14_touch_61 w tx0
theorem sm_X14_touch_0 {h0 : sv_H} {x0 : Nat} {x1 : Int32} {x2 : Int32} {h : sv_H} (w : vt_W h0 h) (tx0 : sv_K h0 x0 = 15) : vt_sm h0 (fn_X14_touch x0 x1 x2 h) (ab_X14_touch x0 x1 x2 (vt_ab h)) := by
  unfold fn_X14_touch ab_X14_touch
  obtain ⟨F, hF⟩ : ∃ F, sv_FP h = F := ⟨_, rfl⟩
  refine sm_kd w tx0 (by decide) ?_
  refine sm_cl w (sm_X14_vertexOf w.1 (w.k tx0 (by decide))) (fun r1 h2 e w2 => ?_)
  have hF2 : sv_FP h2 = F := by rw [ro_X14_vertexOf e]; exact hF
  clear e w hF
  have hF := hF2
  have w := w2
  clear hF2 w2
  refine sm_cl w (sm_X14_vertexOf w.1 (w.k tx0 (by decide))) (fun r3 h2 e w2 => ?_)
  have hF2 : sv_FP h2 = F := by rw [ro_X14_vertexOf e]; exact hF
  clear e w hF
  have hF := hF2
  have w := w2
  clear hF2 w2
  refine sm_cl w (sm_X14_vertexOf w.1 (w.k tx0 (by decide))) (fun r5 h2 e w2 => ?_)
  have hF2 : sv_FP h2 = F := by rw [ro_X14_vertexOf e]; exact hF
  clear e w hF
  have hF := hF2
  have w := w2
  clear hF2 w2
  refine sm_cl w (sm_X14_vertexOf w.1 (w.k tx0 (by decide))) (fun r7 h2 e w2 => ?_)
  have hF2 : sv_FP h2 = F := by rw [ro_X14_vertexOf e]; exact hF
  clear e w hF
  have hF := hF2
  have w := w2
  clear hF2 w2
  refine sm_if (fun _ => ?_) (fun _ => ?_)
  · exact sm_X14_touch_43 w tx0
  · refine sm_if (fun _ => ?_) (fun _ => ?_)
    · exact sm_X14_touch_43 w tx0
    · exact sm_X14_touch_61 w tx0
theorem sm_X14_touch {x0 : Nat} {x1 : Int32} {x2 : Int32} {h : sv_H} (g : vt_G h) (tx0 : sv_K h x0 = 15) : vt_sm h (fn_X14_touch x0 x1 x2 h) (ab_X14_touch x0 x1 x2 (vt_ab h)) := sm_X14_touch_0 ⟨g, vt_ko.refl h⟩ tx0

