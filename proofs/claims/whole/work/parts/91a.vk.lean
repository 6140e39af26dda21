theorem ve_J13_signum_95d88_0 {z0 : vt_S} {x0 : Int64} {h : vt_S} (hs : veq z0 h) : vfr veq z0 (ab_J13_signum_95d88 x0 h) := by
  unfold ab_J13_signum_95d88
  exact vr_rt hs
theorem ve_J13_signum_95d88 {x0 : Int64} {h : vt_S} {r : Int32} {s : vt_S} (e : ab_J13_signum_95d88 x0 h = some (r, s)) : s = h := ve_J13_signum_95d88_0 rfl r s e

theorem ve_J6_signum_0f7a4_0 {z0 : vt_S} {x0 : Int32} {h : vt_S} (hs : veq z0 h) : vfr veq z0 (ab_J6_signum_0f7a4 x0 h) := by
  unfold ab_J6_signum_0f7a4
  exact vr_rt hs
theorem ve_J6_signum_0f7a4 {x0 : Int32} {h : vt_S} {r : Int32} {s : vt_S} (e : ab_J6_signum_0f7a4 x0 h = some (r, s)) : s = h := ve_J6_signum_0f7a4_0 rfl r s e

theorem ve_J9_floorDiv_7cf53_21 {z0 : vt_S} {x2 : Int32} {h : vt_S} (hs : veq z0 h) : vfr veq z0 (ab_J9_floorDiv_7cf53_21 x2 h) := by
  unfold ab_J9_floorDiv_7cf53_21
  exact vr_rt hs
theorem ve_J9_floorDiv_7cf53_0 {z0 : vt_S} {x0 : Int32} {x1 : Int32} {h : vt_S} (hs : veq z0 h) : vfr veq z0 (ab_J9_floorDiv_7cf53 x0 x1 h) := by
  unfold ab_J9_floorDiv_7cf53
  refine vr_if vr_no ?_
  refine vr_if ?_ ?_
  · exact ve_J9_floorDiv_7cf53_21 hs
  · refine vr_if ?_ ?_
    · exact ve_J9_floorDiv_7cf53_21 hs
    · exact vr_rt hs
theorem ve_J9_floorDiv_7cf53 {x0 : Int32} {x1 : Int32} {h : vt_S} {r : Int32} {s : vt_S} (e : ab_J9_floorDiv_7cf53 x0 x1 h = some (r, s)) : s = h := ve_J9_floorDiv_7cf53_0 rfl r s e

theorem ve_J9_floorDiv_f86c9_27 {z0 : vt_S} {x4 : Int64} {h : vt_S} (hs : veq z0 h) : vfr veq z0 (ab_J9_floorDiv_f86c9_27 x4 h) := by
  unfold ab_J9_floorDiv_f86c9_27
  exact vr_rt hs
theorem ve_J9_floorDiv_f86c9_0 {z0 : vt_S} {x0 : Int64} {x2 : Int64} {h : vt_S} (hs : veq z0 h) : vfr veq z0 (ab_J9_floorDiv_f86c9 x0 x2 h) := by
  unfold ab_J9_floorDiv_f86c9
  refine vr_if vr_no ?_
  refine vr_if ?_ ?_
  · exact ve_J9_floorDiv_f86c9_27 hs
  · refine vr_if ?_ ?_
    · exact ve_J9_floorDiv_f86c9_27 hs
    · exact vr_rt hs
theorem ve_J9_floorDiv_f86c9 {x0 : Int64} {x2 : Int64} {h : vt_S} {r : Int64} {s : vt_S} (e : ab_J9_floorDiv_f86c9 x0 x2 h = some (r, s)) : s = h := ve_J9_floorDiv_f86c9_0 rfl r s e

theorem ve_J9_floorMod_7cf53_18 {z0 : vt_S} {x2 : Int32} {h : vt_S} (hs : veq z0 h) : vfr veq z0 (ab_J9_floorMod_7cf53_18 x2 h) := by
  unfold ab_J9_floorMod_7cf53_18
  exact vr_rt hs
theorem ve_J9_floorMod_7cf53_0 {z0 : vt_S} {x0 : Int32} {x1 : Int32} {h : vt_S} (hs : veq z0 h) : vfr veq z0 (ab_J9_floorMod_7cf53 x0 x1 h) := by
  unfold ab_J9_floorMod_7cf53
  refine vr_if vr_no ?_
  refine vr_if ?_ ?_
  · exact ve_J9_floorMod_7cf53_18 hs
  · refine vr_if ?_ ?_
    · exact ve_J9_floorMod_7cf53_18 hs
    · exact vr_rt hs
theorem ve_J9_floorMod_7cf53 {x0 : Int32} {x1 : Int32} {h : vt_S} {r : Int32} {s : vt_S} (e : ab_J9_floorMod_7cf53 x0 x1 h = some (r, s)) : s = h := ve_J9_floorMod_7cf53_0 rfl r s e

theorem ve_J9_multiplyHigh_f86c9_0 {z0 : vt_S} {x0 : Int64} {x2 : Int64} {h : vt_S} (hs : veq z0 h) : vfr veq z0 (ab_J9_multiplyHigh_f86c9 x0 x2 h) := by
  unfold ab_J9_multiplyHigh_f86c9
  exact vr_rt hs
theorem ve_J9_multiplyHigh_f86c9 {x0 : Int64} {x2 : Int64} {h : vt_S} {r : Int64} {s : vt_S} (e : ab_J9_multiplyHigh_f86c9 x0 x2 h = some (r, s)) : s = h := ve_J9_multiplyHigh_f86c9_0 rfl r s e

theorem vk_X0_makeRoom_50 {O : Nat → Prop} {z0 : vt_S} {h : vt_S} (hs : vw [] [100] [100] O z0 h) : vfr (vw [] [100] [100] O) z0 (ab_X0_makeRoom_50 h) := by
  unfold ab_X0_makeRoom_50
  exact vr_rt hs
theorem vk_X0_makeRoom_29 {O : Nat → Prop} {z0 : vt_S} {x0 : Nat} {x2 : Int32} {h : vt_S} (ox0 : O x0) (hs : vw [] [100] [100] O z0 h) : vfr (vw [] [100] [100] O) z0 (ab_X0_makeRoom_29 x0 x2 h) := by
  unfold ab_X0_makeRoom_29
  refine vr_let (fun _ => ?_)
  refine vr_if ?_ ?_
  · exact vk_X0_makeRoom_50 hs
  · refine vr_gI hs (by decide) (by decide) ox0 (fun h hs => ?_)
    exact vk_X0_makeRoom_50 hs
theorem vk_X0_makeRoom_8b {O : Nat → Prop} {z0 : vt_S} {k8 : Nat → Int32 → Int32 → Int32 → vt_S → Option (Unit × vt_S)} (hk8 : ∀ {x0 : Nat} {x1 : Int32} {x2 : Int32} {x3 : Int32} {h : vt_S}, O x0 → vw [] [100] [100] O z0 h → vfr (vw [] [100] [100] O) z0 (k8 x0 x1 x2 x3 h)) {x0 : Nat} {x1 : Int32} {x2 : Int32} {x3 : Int32} {h : vt_S} (ox0 : O x0) (hs : vw [] [100] [100] O z0 h) : vfr (vw [] [100] [100] O) z0 (ab_X0_makeRoom_8b k8 x0 x1 x2 x3 h) := by
  unfold ab_X0_makeRoom_8b
  refine vr_if ?_ ?_
  · exact vk_X0_makeRoom_29 ox0 hs
  · refine vr_if ?_ ?_
    · exact vk_X0_makeRoom_29 ox0 hs
    · exact hk8 ox0 hs
theorem vk_X0_makeRoom_8 {O : Nat → Prop} {z0 : vt_S} : ∀ (n : Nat) {x0 : Nat} {x1 : Int32} {x2 : Int32} {x3 : Int32} {h : vt_S}, O x0 → vw [] [100] [100] O z0 h → vfr (vw [] [100] [100] O) z0 (ab_X0_makeRoom_8 n x0 x1 x2 x3 h) := by
  intro n
  induction n with
  | zero => intro x0 x1 x2 x3 h ox0 hs; exact vr_no
  | succ n ih => intro x0 x1 x2 x3 h ox0 hs; exact vk_X0_makeRoom_8b (fun ox0 hs => ih ox0 hs) ox0 hs
theorem vk_X0_makeRoom_0 {O : Nat → Prop} {z0 : vt_S} {x0 : Nat} {x1 : Int32} {h : vt_S} (ox0 : O x0) (hs : vw [] [100] [100] O z0 h) : vfr (vw [] [100] [100] O) z0 (ab_X0_makeRoom x0 x1 h) := by
  unfold ab_X0_makeRoom
  refine vr_let (fun _ => ?_)
  exact vk_X0_makeRoom_8 sv_fuel ox0 hs
theorem vk_X0_makeRoom {O : Nat → Prop} {x0 : Nat} {x1 : Int32} {h : vt_S} {r : Unit} {s : vt_S} (c : vcl O h) (ox0 : O x0) (e : ab_X0_makeRoom x0 x1 h = some (r, s)) : vw [] [100] [100] O h s := vk_X0_makeRoom_0 ox0 ⟨vk.refl h, c⟩ r s e

theorem vk_X0_put_44 {O : Nat → Prop} {z0 : vt_S} {h : vt_S} (hs : vw [101] [100] [100] O z0 h) : vfr (vw [101] [100] [100] O) z0 (ab_X0_put_44 h) := by
  unfold ab_X0_put_44
  exact vr_rt hs
theorem vk_X0_put_0 {O : Nat → Prop} {z0 : vt_S} {x0 : Nat} {x1 : Int32} {h : vt_S} (ox0 : O x0) (hs : vw [101] [100] [100] O z0 h) : vfr (vw [101] [100] [100] O) z0 (ab_X0_put x0 x1 h) := by
  unfold ab_X0_put
  refine vr_let (fun _ => ?_)
  refine vr_if ?_ ?_
  · exact vk_X0_put_44 hs
  · refine vr_let (fun _ => ?_)
    refine vr_cl (fun _ _ e => (let q := vk_X0_makeRoom hs.2 ox0 e; ⟨hs.1.trans (q.1.weak (by decide) (by decide) (by decide)), q.2⟩)) (fun _ h hs => ?_)
    refine vr_let (fun _ => ?_)
    refine vr_sI hs (by decide) ox0 (fun h hs => ?_)
    refine vr_let (fun _ => ?_)
    refine vr_I hs (by decide) ox0 (fun h hs => ?_)
    exact vk_X0_put_44 hs
theorem vk_X0_put {O : Nat → Prop} {x0 : Nat} {x1 : Int32} {h : vt_S} {r : Unit} {s : vt_S} (c : vcl O h) (ox0 : O x0) (e : ab_X0_put x0 x1 h = some (r, s)) : vw [101] [100] [100] O h s := vk_X0_put_0 ox0 ⟨vk.refl h, c⟩ r s e

theorem vk_X12_giveBytes_26 {O : Nat → Prop} {z0 : vt_S} {h : vt_S} (hs : vw [101] [100] [100] O z0 h) : vfr (vw [101] [100] [100] O) z0 (ab_X12_giveBytes_26 h) := by
  unfold ab_X12_giveBytes_26
  exact vr_rt hs
theorem vk_X12_giveBytes_33b {O : Nat → Prop} {z0 : vt_S} {k33 : Nat → Int64 → Int32 → vt_S → Option (Int32 × vt_S)} (hk33 : ∀ {x0 : Nat} {x1 : Int64} {x4 : Int32} {h : vt_S}, O x0 → vw [101] [100] [100] O z0 h → vfr (vw [101] [100] [100] O) z0 (k33 x0 x1 x4 h)) {x0 : Nat} {x1 : Int64} {x4 : Int32} {h : vt_S} (ox0 : O x0) (hs : vw [101] [100] [100] O z0 h) : vfr (vw [101] [100] [100] O) z0 (ab_X12_giveBytes_33b k33 x0 x1 x4 h) := by
  unfold ab_X12_giveBytes_33b
  refine vr_if ?_ ?_
  · exact vr_rt hs
  · refine vr_gP hs ox0 (fun v1 ov1 => ?_)
    refine vr_cl (fun _ _ e => (let q := vk_X0_put hs.2 ov1 e; ⟨hs.1.trans (q.1.weak (by decide) (by decide) (by decide)), q.2⟩)) (fun _ h hs => ?_)
    exact hk33 ox0 hs
theorem vk_X12_giveBytes_33 {O : Nat → Prop} {z0 : vt_S} : ∀ (n : Nat) {x0 : Nat} {x1 : Int64} {x4 : Int32} {h : vt_S}, O x0 → vw [101] [100] [100] O z0 h → vfr (vw [101] [100] [100] O) z0 (ab_X12_giveBytes_33 n x0 x1 x4 h) := by
  intro n
  induction n with
  | zero => intro x0 x1 x4 h ox0 hs; exact vr_no
  | succ n ih => intro x0 x1 x4 h ox0 hs; exact vk_X12_giveBytes_33b (fun ox0 hs => ih ox0 hs) ox0 hs
theorem vk_X12_giveBytes_0 {O : Nat → Prop} {z0 : vt_S} {x0 : Nat} {x1 : Int64} {x3 : Int32} {h : vt_S} (ox0 : O x0) (hs : vw [101] [100] [100] O z0 h) : vfr (vw [101] [100] [100] O) z0 (ab_X12_giveBytes x0 x1 x3 h) := by
  unfold ab_X12_giveBytes
  refine vr_if ?_ ?_
  · exact vk_X12_giveBytes_26 hs
  · refine vr_if ?_ ?_
    · exact vk_X12_giveBytes_26 hs
    · refine vr_gP hs ox0 (fun v1 ov1 => ?_)
      refine vr_let (fun _ => ?_)
      refine vr_if ?_ ?_
      · exact vk_X12_giveBytes_33 sv_fuel ox0 hs
      · exact vk_X12_giveBytes_26 hs
theorem vk_X12_giveBytes {O : Nat → Prop} {x0 : Nat} {x1 : Int64} {x3 : Int32} {h : vt_S} {r : Int32} {s : vt_S} (c : vcl O h) (ox0 : O x0) (e : ab_X12_giveBytes x0 x1 x3 h = some (r, s)) : vw [101] [100] [100] O h s := vk_X12_giveBytes_0 ox0 ⟨vk.refl h, c⟩ r s e

theorem vk_X17_giveBytes_31 {O : Nat → Prop} {z0 : vt_S} {h : vt_S} (hs : vw [1501, 1800] [1500] [] O z0 h) : vfr (vw [1501, 1800] [1500] [] O) z0 (ab_X17_giveBytes_31 h) := by
  unfold ab_X17_giveBytes_31
  exact vr_rt hs
theorem vk_X17_giveBytes_38b {O : Nat → Prop} {z0 : vt_S} {k38 : Nat → Int64 → Int32 → vt_S → Option (Int32 × vt_S)} (hk38 : ∀ {x0 : Nat} {x1 : Int64} {x4 : Int32} {h : vt_S}, O x0 → vw [1501, 1800] [1500] [] O z0 h → vfr (vw [1501, 1800] [1500] [] O) z0 (k38 x0 x1 x4 h)) {x0 : Nat} {x1 : Int64} {x4 : Int32} {h : vt_S} (ox0 : O x0) (hs : vw [1501, 1800] [1500] [] O z0 h) : vfr (vw [1501, 1800] [1500] [] O) z0 (ab_X17_giveBytes_38b k38 x0 x1 x4 h) := by
  unfold ab_X17_giveBytes_38b
  refine vr_if ?_ ?_
  · exact vr_rt hs
  · refine vr_gP hs ox0 (fun v1 ov1 => ?_)
    refine vr_gP hs ox0 (fun v3 ov3 => ?_)
    refine vr_let (fun _ => ?_)
    refine vr_sI hs (by decide) ov1 (fun h hs => ?_)
    refine vr_gP hs ox0 (fun v6 ov6 => ?_)
    refine vr_let (fun _ => ?_)
    refine vr_I hs (by decide) ov6 (fun h hs => ?_)
    exact hk38 ox0 hs
theorem vk_X17_giveBytes_38 {O : Nat → Prop} {z0 : vt_S} : ∀ (n : Nat) {x0 : Nat} {x1 : Int64} {x4 : Int32} {h : vt_S}, O x0 → vw [1501, 1800] [1500] [] O z0 h → vfr (vw [1501, 1800] [1500] [] O) z0 (ab_X17_giveBytes_38 n x0 x1 x4 h) := by
  intro n
  induction n with
  | zero => intro x0 x1 x4 h ox0 hs; exact vr_no
  | succ n ih => intro x0 x1 x4 h ox0 hs; exact vk_X17_giveBytes_38b (fun ox0 hs => ih ox0 hs) ox0 hs
theorem vk_X17_giveBytes_0 {O : Nat → Prop} {z0 : vt_S} {x0 : Nat} {x1 : Int64} {x3 : Int32} {h : vt_S} (ox0 : O x0) (hs : vw [1501, 1800] [1500] [] O z0 h) : vfr (vw [1501, 1800] [1500] [] O) z0 (ab_X17_giveBytes x0 x1 x3 h) := by
  unfold ab_X17_giveBytes
  refine vr_I hs (by decide) ox0 (fun h hs => ?_)
  refine vr_if ?_ ?_
  · exact vk_X17_giveBytes_31 hs
  · refine vr_if ?_ ?_
    · exact vk_X17_giveBytes_31 hs
    · refine vr_gP hs ox0 (fun v2 ov2 => ?_)
      refine vr_let (fun _ => ?_)
      refine vr_if ?_ ?_
      · exact vk_X17_giveBytes_38 sv_fuel ox0 hs
      · exact vk_X17_giveBytes_31 hs
theorem vk_X17_giveBytes {O : Nat → Prop} {x0 : Nat} {x1 : Int64} {x3 : Int32} {h : vt_S} {r : Int32} {s : vt_S} (c : vcl O h) (ox0 : O x0) (e : ab_X17_giveBytes x0 x1 x3 h = some (r, s)) : vw [1501, 1800] [1500] [] O h s := vk_X17_giveBytes_0 ox0 ⟨vk.refl h, c⟩ r s e

theorem vk_X12_cutBytes_15 {O : Nat → Prop} {z0 : vt_S} {h : vt_S} (hs : vw [101] [] [] O z0 h) : vfr (vw [101] [] [] O) z0 (ab_X12_cutBytes_15 h) := by
  unfold ab_X12_cutBytes_15
  exact vr_rt hs
theorem vk_X12_cutBytes_0 {O : Nat → Prop} {z0 : vt_S} {x0 : Nat} {x1 : Int32} {h : vt_S} (ox0 : O x0) (hs : vw [101] [] [] O z0 h) : vfr (vw [101] [] [] O) z0 (ab_X12_cutBytes x0 x1 h) := by
  unfold ab_X12_cutBytes
  refine vr_if ?_ ?_
  · exact vk_X12_cutBytes_15 hs
  · refine vr_gP hs ox0 (fun v1 ov1 => ?_)
    refine vr_let (fun _ => ?_)
    refine vr_if ?_ ?_
    · refine vr_gP hs ox0 (fun v3 ov3 => ?_)
      refine vr_I hs (by decide) ov3 (fun h hs => ?_)
      exact vr_rt hs
    · exact vk_X12_cutBytes_15 hs
theorem vk_X12_cutBytes {O : Nat → Prop} {x0 : Nat} {x1 : Int32} {h : vt_S} {r : Int32} {s : vt_S} (c : vcl O h) (ox0 : O x0) (e : ab_X12_cutBytes x0 x1 h = some (r, s)) : vw [101] [] [] O h s := vk_X12_cutBytes_0 ox0 ⟨vk.refl h, c⟩ r s e

theorem vk_X17_cutBytes_20 {O : Nat → Prop} {z0 : vt_S} {h : vt_S} (hs : vw [1501, 1800] [] [] O z0 h) : vfr (vw [1501, 1800] [] [] O) z0 (ab_X17_cutBytes_20 h) := by
  unfold ab_X17_cutBytes_20
  exact vr_rt hs
theorem vk_X17_cutBytes_0 {O : Nat → Prop} {z0 : vt_S} {x0 : Nat} {x1 : Int32} {h : vt_S} (ox0 : O x0) (hs : vw [1501, 1800] [] [] O z0 h) : vfr (vw [1501, 1800] [] [] O) z0 (ab_X17_cutBytes x0 x1 h) := by
  unfold ab_X17_cutBytes
  refine vr_I hs (by decide) ox0 (fun h hs => ?_)
  refine vr_if ?_ ?_
  · exact vk_X17_cutBytes_20 hs
  · refine vr_gP hs ox0 (fun v2 ov2 => ?_)
    refine vr_let (fun _ => ?_)
    refine vr_if ?_ ?_
    · refine vr_gP hs ox0 (fun v4 ov4 => ?_)
      refine vr_I hs (by decide) ov4 (fun h hs => ?_)
      exact vr_rt hs
    · exact vk_X17_cutBytes_20 hs
theorem vk_X17_cutBytes {O : Nat → Prop} {x0 : Nat} {x1 : Int32} {h : vt_S} {r : Int32} {s : vt_S} (c : vcl O h) (ox0 : O x0) (e : ab_X17_cutBytes x0 x1 h = some (r, s)) : vw [1501, 1800] [] [] O h s := vk_X17_cutBytes_0 ox0 ⟨vk.refl h, c⟩ r s e

theorem vk_X12_pokeByte_15 {O : Nat → Prop} {z0 : vt_S} {h : vt_S} (hs : vw [] [100] [] O z0 h) : vfr (vw [] [100] [] O) z0 (ab_X12_pokeByte_15 h) := by
  unfold ab_X12_pokeByte_15
  exact vr_rt hs
theorem vk_X12_pokeByte_0 {O : Nat → Prop} {z0 : vt_S} {x0 : Nat} {x1 : Int32} {x2 : Int32} {h : vt_S} (ox0 : O x0) (hs : vw [] [100] [] O z0 h) : vfr (vw [] [100] [] O) z0 (ab_X12_pokeByte x0 x1 x2 h) := by
  unfold ab_X12_pokeByte
  refine vr_if ?_ ?_
  · exact vk_X12_pokeByte_15 hs
  · refine vr_gP hs ox0 (fun v1 ov1 => ?_)
    refine vr_let (fun _ => ?_)
    refine vr_if ?_ ?_
    · refine vr_gP hs ox0 (fun v3 ov3 => ?_)
      refine vr_sI hs (by decide) ov3 (fun h hs => ?_)
      exact vr_rt hs
    · exact vk_X12_pokeByte_15 hs
theorem vk_X12_pokeByte {O : Nat → Prop} {x0 : Nat} {x1 : Int32} {x2 : Int32} {h : vt_S} {r : Int32} {s : vt_S} (c : vcl O h) (ox0 : O x0) (e : ab_X12_pokeByte x0 x1 x2 h = some (r, s)) : vw [] [100] [] O h s := vk_X12_pokeByte_0 ox0 ⟨vk.refl h, c⟩ r s e

theorem vk_X17_pokeByte_20 {O : Nat → Prop} {z0 : vt_S} {h : vt_S} (hs : vw [1800] [1500] [] O z0 h) : vfr (vw [1800] [1500] [] O) z0 (ab_X17_pokeByte_20 h) := by
  unfold ab_X17_pokeByte_20
  exact vr_rt hs
theorem vk_X17_pokeByte_0 {O : Nat → Prop} {z0 : vt_S} {x0 : Nat} {x1 : Int32} {x2 : Int32} {h : vt_S} (ox0 : O x0) (hs : vw [1800] [1500] [] O z0 h) : vfr (vw [1800] [1500] [] O) z0 (ab_X17_pokeByte x0 x1 x2 h) := by
  unfold ab_X17_pokeByte
  refine vr_I hs (by decide) ox0 (fun h hs => ?_)
  refine vr_if ?_ ?_
  · exact vk_X17_pokeByte_20 hs
  · refine vr_gP hs ox0 (fun v2 ov2 => ?_)
    refine vr_let (fun _ => ?_)
    refine vr_if ?_ ?_
    · refine vr_gP hs ox0 (fun v4 ov4 => ?_)
      refine vr_sI hs (by decide) ov4 (fun h hs => ?_)
      exact vr_rt hs
    · exact vk_X17_pokeByte_20 hs
theorem vk_X17_pokeByte {O : Nat → Prop} {x0 : Nat} {x1 : Int32} {x2 : Int32} {h : vt_S} {r : Int32} {s : vt_S} (c : vcl O h) (ox0 : O x0) (e : ab_X17_pokeByte x0 x1 x2 h = some (r, s)) : vw [1800] [1500] [] O h s := vk_X17_pokeByte_0 ox0 ⟨vk.refl h, c⟩ r s e

theorem vk_X4_begin_0 {O : Nat → Prop} {z0 : vt_S} {x0 : Nat} {h : vt_S} (ox0 : O x0) (hs : vw [501, 502, 503] [] [] O z0 h) : vfr (vw [501, 502, 503] [] [] O) z0 (ab_X4_begin x0 h) := by
  unfold ab_X4_begin
  refine vr_I hs (by decide) ox0 (fun h hs => ?_)
  refine vr_I hs (by decide) ox0 (fun h hs => ?_)
  refine vr_I hs (by decide) ox0 (fun h hs => ?_)
  exact vr_rt hs
theorem vk_X4_begin {O : Nat → Prop} {x0 : Nat} {h : vt_S} {r : Unit} {s : vt_S} (c : vcl O h) (ox0 : O x0) (e : ab_X4_begin x0 h = some (r, s)) : vw [501, 502, 503] [] [] O h s := vk_X4_begin_0 ox0 ⟨vk.refl h, c⟩ r s e

theorem vk_X4_blame_17 {O : Nat → Prop} {z0 : vt_S} {h : vt_S} (hs : vw [502, 503] [] [] O z0 h) : vfr (vw [502, 503] [] [] O) z0 (ab_X4_blame_17 h) := by
  unfold ab_X4_blame_17
  exact vr_rt hs
theorem vk_X4_blame_0 {O : Nat → Prop} {z0 : vt_S} {x0 : Nat} {x1 : Int32} {x2 : Int32} {h : vt_S} (ox0 : O x0) (hs : vw [502, 503] [] [] O z0 h) : vfr (vw [502, 503] [] [] O) z0 (ab_X4_blame x0 x1 x2 h) := by
  unfold ab_X4_blame
  refine vr_let (fun _ => ?_)
  refine vr_if ?_ ?_
  · refine vr_I hs (by decide) ox0 (fun h hs => ?_)
    refine vr_I hs (by decide) ox0 (fun h hs => ?_)
    exact vk_X4_blame_17 hs
  · exact vk_X4_blame_17 hs
theorem vk_X4_blame {O : Nat → Prop} {x0 : Nat} {x1 : Int32} {x2 : Int32} {h : vt_S} {r : Unit} {s : vt_S} (c : vcl O h) (ox0 : O x0) (e : ab_X4_blame x0 x1 x2 h = some (r, s)) : vw [502, 503] [] [] O h s := vk_X4_blame_0 ox0 ⟨vk.refl h, c⟩ r s e

theorem vk_X4_one_0 {O : Nat → Prop} {z0 : vt_S} {x0 : Nat} {h : vt_S} (ox0 : O x0) (hs : vw [501, 502, 503] [] [] O z0 h) : vfr (vw [501, 502, 503] [] [] O) z0 (ab_X4_one x0 h) := by
  unfold ab_X4_one
  refine vr_let (fun _ => ?_)
  refine vr_if ?_ ?_
  · refine vr_let (fun _ => ?_)
    refine vr_gP hs ox0 (fun v3 ov3 => ?_)
    refine vr_let (fun _ => ?_)
    refine vr_if ?_ ?_
    · refine vr_gP hs ox0 (fun v5 ov5 => ?_)
      refine vr_let (fun _ => ?_)
      refine vr_bd (fun _ => ?_)
      refine vr_let (fun _ => ?_)
      refine vr_I hs (by decide) ox0 (fun h hs => ?_)
      exact vr_rt hs
    · refine vr_gP hs ox0 (fun v11 ov11 => ?_)
      refine vr_let (fun _ => ?_)
      refine vr_cl (fun _ _ e => (let q := vk_X4_blame hs.2 ox0 e; ⟨hs.1.trans (q.1.weak (by decide) (by decide) (by decide)), q.2⟩)) (fun _ h hs => ?_)
      exact vr_rt hs
  · exact vr_rt hs
theorem vk_X4_one {O : Nat → Prop} {x0 : Nat} {h : vt_S} {r : Int32} {s : vt_S} (c : vcl O h) (ox0 : O x0) (e : ab_X4_one x0 h = some (r, s)) : vw [501, 502, 503] [] [] O h s := vk_X4_one_0 ox0 ⟨vk.refl h, c⟩ r s e

theorem vk_X4_expect_19 {O : Nat → Prop} {z0 : vt_S} {h : vt_S} (hs : vw [501, 502, 503] [] [] O z0 h) : vfr (vw [501, 502, 503] [] [] O) z0 (ab_X4_expect_19 h) := by
  unfold ab_X4_expect_19
  exact vr_rt hs
theorem vk_X4_expect_0 {O : Nat → Prop} {z0 : vt_S} {x0 : Nat} {x1 : Int32} {x2 : Int32} {h : vt_S} (ox0 : O x0) (hs : vw [501, 502, 503] [] [] O z0 h) : vfr (vw [501, 502, 503] [] [] O) z0 (ab_X4_expect x0 x1 x2 h) := by
  unfold ab_X4_expect
  refine vr_let (fun _ => ?_)
  refine vr_cl (fun _ _ e => (let q := vk_X4_one hs.2 ox0 e; ⟨hs.1.trans (q.1.weak (by decide) (by decide) (by decide)), q.2⟩)) (fun _ h hs => ?_)
  refine vr_if ?_ ?_
  · exact vk_X4_expect_19 hs
  · refine vr_cl (fun _ _ e => (let q := vk_X4_blame hs.2 ox0 e; ⟨hs.1.trans (q.1.weak (by decide) (by decide) (by decide)), q.2⟩)) (fun _ h hs => ?_)
    exact vk_X4_expect_19 hs
theorem vk_X4_expect {O : Nat → Prop} {x0 : Nat} {x1 : Int32} {x2 : Int32} {h : vt_S} {r : Unit} {s : vt_S} (c : vcl O h) (ox0 : O x0) (e : ab_X4_expect x0 x1 x2 h = some (r, s)) : vw [501, 502, 503] [] [] O h s := vk_X4_expect_0 ox0 ⟨vk.refl h, c⟩ r s e

theorem vk_X4_bounded_29 {O : Nat → Prop} {z0 : vt_S} {s0 : Int32} {h : vt_S} (hs : vw [502, 503] [] [] O z0 h) : vfr (vw [502, 503] [] [] O) z0 (ab_X4_bounded_29 s0 h) := by
  unfold ab_X4_bounded_29
  exact vr_rt hs
theorem vk_X4_bounded_17 {O : Nat → Prop} {z0 : vt_S} {x0 : Nat} {x1 : Int32} {x2 : Int32} {h : vt_S} (ox0 : O x0) (hs : vw [502, 503] [] [] O z0 h) : vfr (vw [502, 503] [] [] O) z0 (ab_X4_bounded_17 x0 x1 x2 h) := by
  unfold ab_X4_bounded_17
  refine vr_let (fun _ => ?_)
  refine vr_if ?_ ?_
  · exact vk_X4_bounded_29 hs
  · exact vk_X4_bounded_29 hs
theorem vk_X4_bounded_10 {O : Nat → Prop} {z0 : vt_S} {x0 : Nat} {x1 : Int32} {x2 : Int32} {x4 : Int32} {h : vt_S} (ox0 : O x0) (hs : vw [502, 503] [] [] O z0 h) : vfr (vw [502, 503] [] [] O) z0 (ab_X4_bounded_10 x0 x1 x2 x4 h) := by
  unfold ab_X4_bounded_10
  refine vr_cl (fun _ _ e => (let q := vk_X4_blame hs.2 ox0 e; ⟨hs.1.trans (q.1.weak (by decide) (by decide) (by decide)), q.2⟩)) (fun _ h hs => ?_)
  exact vk_X4_bounded_17 ox0 hs
theorem vk_X4_bounded_0 {O : Nat → Prop} {z0 : vt_S} {x0 : Nat} {x1 : Int32} {x2 : Int32} {x3 : Int32} {x4 : Int32} {h : vt_S} (ox0 : O x0) (hs : vw [502, 503] [] [] O z0 h) : vfr (vw [502, 503] [] [] O) z0 (ab_X4_bounded x0 x1 x2 x3 x4 h) := by
  unfold ab_X4_bounded
  refine vr_if ?_ ?_
  · exact vk_X4_bounded_10 ox0 hs
  · refine vr_if ?_ ?_
    · exact vk_X4_bounded_17 ox0 hs
    · exact vk_X4_bounded_10 ox0 hs
theorem vk_X4_bounded {O : Nat → Prop} {x0 : Nat} {x1 : Int32} {x2 : Int32} {x3 : Int32} {x4 : Int32} {h : vt_S} {r : Int32} {s : vt_S} (c : vcl O h) (ox0 : O x0) (e : ab_X4_bounded x0 x1 x2 x3 x4 h = some (r, s)) : vw [502, 503] [] [] O h s := vk_X4_bounded_0 ox0 ⟨vk.refl h, c⟩ r s e

theorem vk_X4_within_0 {O : Nat → Prop} {z0 : vt_S} {x0 : Nat} {x1 : Int32} {x2 : Int32} {h : vt_S} (ox0 : O x0) (hs : vw [501, 502, 503] [] [] O z0 h) : vfr (vw [501, 502, 503] [] [] O) z0 (ab_X4_within x0 x1 x2 h) := by
  unfold ab_X4_within
  refine vr_let (fun _ => ?_)
  refine vr_cl (fun _ _ e => (let q := vk_X4_one hs.2 ox0 e; ⟨hs.1.trans (q.1.weak (by decide) (by decide) (by decide)), q.2⟩)) (fun _ h hs => ?_)
  refine vr_cl (fun _ _ e => (let q := vk_X4_bounded hs.2 ox0 e; ⟨hs.1.trans (q.1.weak (by decide) (by decide) (by decide)), q.2⟩)) (fun _ h hs => ?_)
  exact vr_rt hs
theorem vk_X4_within {O : Nat → Prop} {x0 : Nat} {x1 : Int32} {x2 : Int32} {h : vt_S} {r : Int32} {s : vt_S} (c : vcl O h) (ox0 : O x0) (e : ab_X4_within x0 x1 x2 h = some (r, s)) : vw [501, 502, 503] [] [] O h s := vk_X4_within_0 ox0 ⟨vk.refl h, c⟩ r s e

theorem ve_X4_well_12 {z0 : vt_S} {s0 : Int32} {h : vt_S} (hs : veq z0 h) : vfr veq z0 (ab_X4_well_12 s0 h) := by
  unfold ab_X4_well_12
  exact vr_rz hs
theorem ve_X4_well_0 {z0 : vt_S} {x0 : Nat} {h : vt_S} (hs : veq z0 h) : vfr veq z0 (ab_X4_well x0 h) := by
  unfold ab_X4_well
  refine vr_let (fun _ => ?_)
  refine vr_if ?_ ?_
  · exact ve_X4_well_12 hs
  · exact ve_X4_well_12 hs
theorem ve_X4_well {x0 : Nat} {h : vt_S} {r : Int32} {s : vt_S} (e : ab_X4_well x0 h = some (r, s)) : s = h := ve_X4_well_0 rfl r s e

theorem vk_X4_pair_0 {O : Nat → Prop} {z0 : vt_S} {x0 : Nat} {h : vt_S} (ox0 : O x0) (hs : vw [501, 502, 503] [] [] O z0 h) : vfr (vw [501, 502, 503] [] [] O) z0 (ab_X4_pair x0 h) := by
  unfold ab_X4_pair
  refine vr_cl (fun _ _ e => (let q := vk_X4_one hs.2 ox0 e; ⟨hs.1.trans (q.1.weak (by decide) (by decide) (by decide)), q.2⟩)) (fun _ h hs => ?_)
  refine vr_cl (fun _ _ e => (let q := vk_X4_one hs.2 ox0 e; ⟨hs.1.trans (q.1.weak (by decide) (by decide) (by decide)), q.2⟩)) (fun _ h hs => ?_)
  exact vr_rt hs
theorem vk_X4_pair {O : Nat → Prop} {x0 : Nat} {h : vt_S} {r : Int32} {s : vt_S} (c : vcl O h) (ox0 : O x0) (e : ab_X4_pair x0 h = some (r, s)) : vw [501, 502, 503] [] [] O h s := vk_X4_pair_0 ox0 ⟨vk.refl h, c⟩ r s e

theorem vk_X2_readVertex_56 {O : Nat → Prop} {z0 : vt_S} {k20 : Nat → Nat → Int32 → Int32 → Int32 → Int32 → Int32 → vt_S → Option (Unit × vt_S)} (hk20 : ∀ {x0 : Nat} {x1 : Nat} {x2 : Int32} {x3 : Int32} {x4 : Int32} {x5 : Int32} {x6 : Int32} {h : vt_S}, O x0 → O x1 → vw [501, 502, 503] [302, 303] [] O z0 h → vfr (vw [501, 502, 503] [302, 303] [] O) z0 (k20 x0 x1 x2 x3 x4 x5 x6 h)) {x0 : Nat} {x1 : Nat} {x2 : Int32} {x3 : Int32} {x4 : Int32} {x5 : Int32} {x6 : Int32} {h : vt_S} (ox0 : O x0) (ox1 : O x1) (hs : vw [501, 502, 503] [302, 303] [] O z0 h) : vfr (vw [501, 502, 503] [302, 303] [] O) z0 (ab_X2_readVertex_56 k20 x0 x1 x2 x3 x4 x5 x6 h) := by
  unfold ab_X2_readVertex_56
  exact hk20 ox0 ox1 hs
theorem vk_X2_readVertex_20b {O : Nat → Prop} {z0 : vt_S} {k20 : Nat → Nat → Int32 → Int32 → Int32 → Int32 → Int32 → vt_S → Option (Unit × vt_S)} (hk20 : ∀ {x0 : Nat} {x1 : Nat} {x2 : Int32} {x3 : Int32} {x4 : Int32} {x5 : Int32} {x6 : Int32} {h : vt_S}, O x0 → O x1 → vw [501, 502, 503] [302, 303] [] O z0 h → vfr (vw [501, 502, 503] [302, 303] [] O) z0 (k20 x0 x1 x2 x3 x4 x5 x6 h)) {x0 : Nat} {x1 : Nat} {x2 : Int32} {x3 : Int32} {x4 : Int32} {x5 : Int32} {x6 : Int32} {h : vt_S} (ox0 : O x0) (ox1 : O x1) (hs : vw [501, 502, 503] [302, 303] [] O z0 h) : vfr (vw [501, 502, 503] [302, 303] [] O) z0 (ab_X2_readVertex_20b k20 x0 x1 x2 x3 x4 x5 x6 h) := by
  unfold ab_X2_readVertex_20b
  refine vr_if ?_ ?_
  · refine vr_sI hs (by decide) ox0 (fun h hs => ?_)
    refine vr_sI hs (by decide) ox0 (fun h hs => ?_)
    exact vr_rt hs
  · refine vr_bd (fun _ => ?_)
    refine vr_if ?_ ?_
    · refine vr_bd (fun _ => ?_)
      refine vr_if ?_ ?_
      · refine vr_cl (fun _ _ e => (let q := vk_X4_blame hs.2 ox1 e; ⟨hs.1.trans (q.1.weak (by decide) (by decide) (by decide)), q.2⟩)) (fun _ h hs => ?_)
        exact vk_X2_readVertex_56 hk20 ox0 ox1 hs
      · exact vk_X2_readVertex_56 hk20 ox0 ox1 hs
    · exact vk_X2_readVertex_56 hk20 ox0 ox1 hs
theorem vk_X2_readVertex_20 {O : Nat → Prop} {z0 : vt_S} : ∀ (n : Nat) {x0 : Nat} {x1 : Nat} {x2 : Int32} {x3 : Int32} {x4 : Int32} {x5 : Int32} {x6 : Int32} {h : vt_S}, O x0 → O x1 → vw [501, 502, 503] [302, 303] [] O z0 h → vfr (vw [501, 502, 503] [302, 303] [] O) z0 (ab_X2_readVertex_20 n x0 x1 x2 x3 x4 x5 x6 h) := by
  intro n
  induction n with
  | zero => intro x0 x1 x2 x3 x4 x5 x6 h ox0 ox1 hs; exact vr_no
  | succ n ih => intro x0 x1 x2 x3 x4 x5 x6 h ox0 ox1 hs; exact vk_X2_readVertex_20b (fun ox0 ox1 hs => ih ox0 ox1 hs) ox0 ox1 hs
theorem vk_X2_readVertex_0 {O : Nat → Prop} {z0 : vt_S} {x0 : Nat} {x1 : Nat} {x2 : Int32} {h : vt_S} (ox0 : O x0) (ox1 : O x1) (hs : vw [501, 502, 503] [302, 303] [] O z0 h) : vfr (vw [501, 502, 503] [302, 303] [] O) z0 (ab_X2_readVertex x0 x1 x2 h) := by
  unfold ab_X2_readVertex
  refine vr_cl (fun _ _ e => (let q := vk_X4_pair hs.2 ox1 e; ⟨hs.1.trans (q.1.weak (by decide) (by decide) (by decide)), q.2⟩)) (fun _ h hs => ?_)
  refine vr_let (fun _ => ?_)
  refine vr_cl (fun _ _ e => (let q := vk_X4_pair hs.2 ox1 e; ⟨hs.1.trans (q.1.weak (by decide) (by decide) (by decide)), q.2⟩)) (fun _ h hs => ?_)
  exact vk_X2_readVertex_20 sv_fuel ox0 ox1 hs
theorem vk_X2_readVertex {O : Nat → Prop} {x0 : Nat} {x1 : Nat} {x2 : Int32} {h : vt_S} {r : Unit} {s : vt_S} (c : vcl O h) (ox0 : O x0) (ox1 : O x1) (e : ab_X2_readVertex x0 x1 x2 h = some (r, s)) : vw [501, 502, 503] [302, 303] [] O h s := vk_X2_readVertex_0 ox0 ox1 ⟨vk.refl h, c⟩ r s e

theorem vk_X2_readTexture_78 {O : Nat → Prop} {z0 : vt_S} {h : vt_S} (hs : vw [501, 502, 503] [304, 305, 306] [] O z0 h) : vfr (vw [501, 502, 503] [304, 305, 306] [] O) z0 (ab_X2_readTexture_78 h) := by
  unfold ab_X2_readTexture_78
  exact vr_rt hs
theorem vk_X2_readTexture_40b {O : Nat → Prop} {z0 : vt_S} {k40 : Nat → Nat → Int32 → Int32 → vt_S → Option (Unit × vt_S)} (hk40 : ∀ {x0 : Nat} {x1 : Nat} {x2 : Int32} {x3 : Int32} {h : vt_S}, O x0 → O x1 → vw [501, 502, 503] [304, 305, 306] [] O z0 h → vfr (vw [501, 502, 503] [304, 305, 306] [] O) z0 (k40 x0 x1 x2 x3 h)) {x0 : Nat} {x1 : Nat} {x2 : Int32} {x3 : Int32} {h : vt_S} (ox0 : O x0) (ox1 : O x1) (hs : vw [501, 502, 503] [304, 305, 306] [] O z0 h) : vfr (vw [501, 502, 503] [304, 305, 306] [] O) z0 (ab_X2_readTexture_40b k40 x0 x1 x2 x3 h) := by
  unfold ab_X2_readTexture_40b
  refine vr_bd (fun _ => ?_)
  refine vr_bd (fun _ => ?_)
  refine vr_if ?_ ?_
  · exact vk_X2_readTexture_78 hs
  · refine vr_cl (fun _ _ e => (by rw [ve_X4_well e]; exact hs)) (fun _ h hs => ?_)
    refine vr_if ?_ ?_
    · exact vk_X2_readTexture_78 hs
    · refine vr_cl (fun _ _ e => (let q := vk_X4_within hs.2 ox1 e; ⟨hs.1.trans (q.1.weak (by decide) (by decide) (by decide)), q.2⟩)) (fun _ h hs => ?_)
      exact hk40 ox0 ox1 hs
theorem vk_X2_readTexture_40 {O : Nat → Prop} {z0 : vt_S} : ∀ (n : Nat) {x0 : Nat} {x1 : Nat} {x2 : Int32} {x3 : Int32} {h : vt_S}, O x0 → O x1 → vw [501, 502, 503] [304, 305, 306] [] O z0 h → vfr (vw [501, 502, 503] [304, 305, 306] [] O) z0 (ab_X2_readTexture_40 n x0 x1 x2 x3 h) := by
  intro n
  induction n with
  | zero => intro x0 x1 x2 x3 h ox0 ox1 hs; exact vr_no
  | succ n ih => intro x0 x1 x2 x3 h ox0 ox1 hs; exact vk_X2_readTexture_40b (fun ox0 ox1 hs => ih ox0 ox1 hs) ox0 ox1 hs
theorem vk_X2_readTexture_0 {O : Nat → Prop} {z0 : vt_S} {x0 : Nat} {x1 : Nat} {x2 : Int32} {h : vt_S} (ox0 : O x0) (ox1 : O x1) (hs : vw [501, 502, 503] [304, 305, 306] [] O z0 h) : vfr (vw [501, 502, 503] [304, 305, 306] [] O) z0 (ab_X2_readTexture x0 x1 x2 h) := by
  unfold ab_X2_readTexture
  refine vr_cl (fun _ _ e => (let q := vk_X4_within hs.2 ox1 e; ⟨hs.1.trans (q.1.weak (by decide) (by decide) (by decide)), q.2⟩)) (fun _ h hs => ?_)
  refine vr_sI hs (by decide) ox0 (fun h hs => ?_)
  refine vr_cl (fun _ _ e => (let q := vk_X4_within hs.2 ox1 e; ⟨hs.1.trans (q.1.weak (by decide) (by decide) (by decide)), q.2⟩)) (fun _ h hs => ?_)
  refine vr_sI hs (by decide) ox0 (fun h hs => ?_)
  refine vr_let (fun _ => ?_)
  refine vr_sI hs (by decide) ox0 (fun h hs => ?_)
  exact vk_X2_readTexture_40 sv_fuel ox0 ox1 hs
theorem vk_X2_readTexture {O : Nat → Prop} {x0 : Nat} {x1 : Nat} {x2 : Int32} {h : vt_S} {r : Unit} {s : vt_S} (c : vcl O h) (ox0 : O x0) (ox1 : O x1) (e : ab_X2_readTexture x0 x1 x2 h = some (r, s)) : vw [501, 502, 503] [304, 305, 306] [] O h s := vk_X2_readTexture_0 ox0 ox1 ⟨vk.refl h, c⟩ r s e

theorem vk_X4_pairWithin_0 {O : Nat → Prop} {z0 : vt_S} {x0 : Nat} {x1 : Int32} {x2 : Int32} {h : vt_S} (ox0 : O x0) (hs : vw [501, 502, 503] [] [] O z0 h) : vfr (vw [501, 502, 503] [] [] O) z0 (ab_X4_pairWithin x0 x1 x2 h) := by
  unfold ab_X4_pairWithin
  refine vr_let (fun _ => ?_)
  refine vr_cl (fun _ _ e => (let q := vk_X4_pair hs.2 ox0 e; ⟨hs.1.trans (q.1.weak (by decide) (by decide) (by decide)), q.2⟩)) (fun _ h hs => ?_)
  refine vr_cl (fun _ _ e => (let q := vk_X4_bounded hs.2 ox0 e; ⟨hs.1.trans (q.1.weak (by decide) (by decide) (by decide)), q.2⟩)) (fun _ h hs => ?_)
  exact vr_rt hs
theorem vk_X4_pairWithin {O : Nat → Prop} {x0 : Nat} {x1 : Int32} {x2 : Int32} {h : vt_S} {r : Int32} {s : vt_S} (c : vcl O h) (ox0 : O x0) (e : ab_X4_pairWithin x0 x1 x2 h = some (r, s)) : vw [501, 502, 503] [] [] O h s := vk_X4_pairWithin_0 ox0 ⟨vk.refl h, c⟩ r s e

theorem vk_X4_numberOrNone_0 {O : Nat → Prop} {z0 : vt_S} {x0 : Nat} {x1 : Int32} {h : vt_S} (ox0 : O x0) (hs : vw [501, 502, 503] [] [] O z0 h) : vfr (vw [501, 502, 503] [] [] O) z0 (ab_X4_numberOrNone x0 x1 h) := by
  unfold ab_X4_numberOrNone
  refine vr_let (fun _ => ?_)
  refine vr_cl (fun _ _ e => (let q := vk_X4_one hs.2 ox0 e; ⟨hs.1.trans (q.1.weak (by decide) (by decide) (by decide)), q.2⟩)) (fun _ h hs => ?_)
  refine vr_if ?_ ?_
  · exact vr_rt hs
  · refine vr_cl (fun _ _ e => (let q := vk_X4_bounded hs.2 ox0 e; ⟨hs.1.trans (q.1.weak (by decide) (by decide) (by decide)), q.2⟩)) (fun _ h hs => ?_)
    exact vr_rt hs
theorem vk_X4_numberOrNone {O : Nat → Prop} {x0 : Nat} {x1 : Int32} {h : vt_S} {r : Int32} {s : vt_S} (c : vcl O h) (ox0 : O x0) (e : ab_X4_numberOrNone x0 x1 h = some (r, s)) : vw [501, 502, 503] [] [] O h s := vk_X4_numberOrNone_0 ox0 ⟨vk.refl h, c⟩ r s e

theorem vk_X2_readSector_50 {O : Nat → Prop} {z0 : vt_S} {x0 : Nat} {x1 : Nat} {x2 : Nat} {h : vt_S} (ox0 : O x0) (ox1 : O x1) (ox2 : O x2) (hs : vw [501, 502, 503, 700, 701, 702, 703, 704, 705, 706] [] [] O z0 h) : vfr (vw [501, 502, 503, 700, 701, 702, 703, 704, 705, 706] [] [] O) z0 (ab_X2_readSector_50 x0 x1 x2 h) := by
  unfold ab_X2_readSector_50
  refine vr_let (fun _ => ?_)
  refine vr_cl (fun _ _ e => (let q := vk_X4_within hs.2 ox1 e; ⟨hs.1.trans (q.1.weak (by decide) (by decide) (by decide)), q.2⟩)) (fun _ h hs => ?_)
  refine vr_I hs (by decide) ox2 (fun h hs => ?_)
  refine vr_let (fun _ => ?_)
  refine vr_cl (fun _ _ e => (let q := vk_X4_numberOrNone hs.2 ox1 e; ⟨hs.1.trans (q.1.weak (by decide) (by decide) (by decide)), q.2⟩)) (fun _ h hs => ?_)
  refine vr_I hs (by decide) ox2 (fun h hs => ?_)
  refine vr_cl (fun _ _ e => (let q := vk_X4_within hs.2 ox1 e; ⟨hs.1.trans (q.1.weak (by decide) (by decide) (by decide)), q.2⟩)) (fun _ h hs => ?_)
  refine vr_I hs (by decide) ox2 (fun h hs => ?_)
  refine vr_cl (fun _ _ e => (let q := vk_X4_within hs.2 ox1 e; ⟨hs.1.trans (q.1.weak (by decide) (by decide) (by decide)), q.2⟩)) (fun _ h hs => ?_)
  refine vr_I hs (by decide) ox2 (fun h hs => ?_)
  refine vr_cl (fun _ _ e => (let q := vk_X4_one hs.2 ox1 e; ⟨hs.1.trans (q.1.weak (by decide) (by decide) (by decide)), q.2⟩)) (fun _ h hs => ?_)
  refine vr_I hs (by decide) ox2 (fun h hs => ?_)
  exact vr_rt hs
theorem vk_X2_readSector_0 {O : Nat → Prop} {z0 : vt_S} {x0 : Nat} {x1 : Nat} {x2 : Nat} {h : vt_S} (ox0 : O x0) (ox1 : O x1) (ox2 : O x2) (hs : vw [501, 502, 503, 700, 701, 702, 703, 704, 705, 706] [] [] O z0 h) : vfr (vw [501, 502, 503, 700, 701, 702, 703, 704, 705, 706] [] [] O) z0 (ab_X2_readSector x0 x1 x2 h) := by
  unfold ab_X2_readSector
  refine vr_cl (fun _ _ e => (let q := vk_X4_pairWithin hs.2 ox1 e; ⟨hs.1.trans (q.1.weak (by decide) (by decide) (by decide)), q.2⟩)) (fun _ h hs => ?_)
  refine vr_I hs (by decide) ox2 (fun h hs => ?_)
  refine vr_let (fun _ => ?_)
  refine vr_cl (fun _ _ e => (let q := vk_X4_pairWithin hs.2 ox1 e; ⟨hs.1.trans (q.1.weak (by decide) (by decide) (by decide)), q.2⟩)) (fun _ h hs => ?_)
  refine vr_I hs (by decide) ox2 (fun h hs => ?_)
  refine vr_let (fun _ => ?_)
  refine vr_let (fun _ => ?_)
  refine vr_if ?_ ?_
  · exact vk_X2_readSector_50 ox0 ox1 ox2 hs
  · refine vr_cl (fun _ _ e => (let q := vk_X4_blame hs.2 ox1 e; ⟨hs.1.trans (q.1.weak (by decide) (by decide) (by decide)), q.2⟩)) (fun _ h hs => ?_)
    exact vk_X2_readSector_50 ox0 ox1 ox2 hs
theorem vk_X2_readSector {O : Nat → Prop} {x0 : Nat} {x1 : Nat} {x2 : Nat} {h : vt_S} {r : Unit} {s : vt_S} (c : vcl O h) (ox0 : O x0) (ox1 : O x1) (ox2 : O x2) (e : ab_X2_readSector x0 x1 x2 h = some (r, s)) : vw [501, 502, 503, 700, 701, 702, 703, 704, 705, 706] [] [] O h s := vk_X2_readSector_0 ox0 ox1 ox2 ⟨vk.refl h, c⟩ r s e

theorem vk_X2_readWall_164 {O : Nat → Prop} {z0 : vt_S} {k116 : Nat → Nat → Nat → Int32 → vt_S → Option (Unit × vt_S)} (hk116 : ∀ {x0 : Nat} {x1 : Nat} {x2 : Nat} {x6 : Int32} {h : vt_S}, O x0 → O x1 → O x2 → vw [501, 502, 503, 1200, 1201, 1202, 1203, 1204, 1205, 1206, 1207, 1208, 1209, 1210] [1211] [] O z0 h → vfr (vw [501, 502, 503, 1200, 1201, 1202, 1203, 1204, 1205, 1206, 1207, 1208, 1209, 1210] [1211] [] O) z0 (k116 x0 x1 x2 x6 h)) {x0 : Nat} {x1 : Nat} {x2 : Nat} {x6 : Int32} {s0 : Nat} {s1 : Int32} {s2 : Nat} {s3 : Int32} {h : vt_S} (ox0 : O x0) (ox1 : O x1) (ox2 : O x2) (os0 : O s0) (os2 : O s2) (hs : vw [501, 502, 503, 1200, 1201, 1202, 1203, 1204, 1205, 1206, 1207, 1208, 1209, 1210] [1211] [] O z0 h) : vfr (vw [501, 502, 503, 1200, 1201, 1202, 1203, 1204, 1205, 1206, 1207, 1208, 1209, 1210] [1211] [] O) z0 (ab_X2_readWall_164 k116 x0 x1 x2 x6 s0 s1 s2 s3 h) := by
  unfold ab_X2_readWall_164
  refine vr_cl (fun _ _ e => (let q := vk_X4_numberOrNone hs.2 os2 e; ⟨hs.1.trans (q.1.weak (by decide) (by decide) (by decide)), q.2⟩)) (fun _ h hs => ?_)
  refine vr_sI hs (by decide) os0 (fun h hs => ?_)
  exact hk116 ox0 ox1 ox2 hs
theorem vk_X2_readWall_142 {O : Nat → Prop} {z0 : vt_S} {k116 : Nat → Nat → Nat → Int32 → vt_S → Option (Unit × vt_S)} (hk116 : ∀ {x0 : Nat} {x1 : Nat} {x2 : Nat} {x6 : Int32} {h : vt_S}, O x0 → O x1 → O x2 → vw [501, 502, 503, 1200, 1201, 1202, 1203, 1204, 1205, 1206, 1207, 1208, 1209, 1210] [1211] [] O z0 h → vfr (vw [501, 502, 503, 1200, 1201, 1202, 1203, 1204, 1205, 1206, 1207, 1208, 1209, 1210] [1211] [] O) z0 (k116 x0 x1 x2 x6 h)) {x0 : Nat} {x1 : Nat} {x2 : Nat} {x6 : Int32} {s0 : Int32} {h : vt_S} (ox0 : O x0) (ox1 : O x1) (ox2 : O x2) (hs : vw [501, 502, 503, 1200, 1201, 1202, 1203, 1204, 1205, 1206, 1207, 1208, 1209, 1210] [1211] [] O z0 h) : vfr (vw [501, 502, 503, 1200, 1201, 1202, 1203, 1204, 1205, 1206, 1207, 1208, 1209, 1210] [1211] [] O) z0 (ab_X2_readWall_142 k116 x0 x1 x2 x6 s0 h) := by
  unfold ab_X2_readWall_142
  refine vr_if ?_ ?_
  · exact vk_X2_readWall_164 hk116 ox0 ox1 ox2 ox2 ox1 hs
  · refine vr_let (fun _ => ?_)
    exact vk_X2_readWall_164 hk116 ox0 ox1 ox2 ox2 ox1 hs
theorem vk_X2_readWall_137 {O : Nat → Prop} {z0 : vt_S} {k116 : Nat → Nat → Nat → Int32 → vt_S → Option (Unit × vt_S)} (hk116 : ∀ {x0 : Nat} {x1 : Nat} {x2 : Nat} {x6 : Int32} {h : vt_S}, O x0 → O x1 → O x2 → vw [501, 502, 503, 1200, 1201, 1202, 1203, 1204, 1205, 1206, 1207, 1208, 1209, 1210] [1211] [] O z0 h → vfr (vw [501, 502, 503, 1200, 1201, 1202, 1203, 1204, 1205, 1206, 1207, 1208, 1209, 1210] [1211] [] O) z0 (k116 x0 x1 x2 x6 h)) {x0 : Nat} {x1 : Nat} {x2 : Nat} {x6 : Int32} {h : vt_S} (ox0 : O x0) (ox1 : O x1) (ox2 : O x2) (hs : vw [501, 502, 503, 1200, 1201, 1202, 1203, 1204, 1205, 1206, 1207, 1208, 1209, 1210] [1211] [] O z0 h) : vfr (vw [501, 502, 503, 1200, 1201, 1202, 1203, 1204, 1205, 1206, 1207, 1208, 1209, 1210] [1211] [] O) z0 (ab_X2_readWall_137 k116 x0 x1 x2 x6 h) := by
  unfold ab_X2_readWall_137
  exact vk_X2_readWall_142 hk116 ox0 ox1 ox2 hs
theorem vk_X2_readWall_116b {O : Nat → Prop} {z0 : vt_S} {k116 : Nat → Nat → Nat → Int32 → vt_S → Option (Unit × vt_S)} (hk116 : ∀ {x0 : Nat} {x1 : Nat} {x2 : Nat} {x6 : Int32} {h : vt_S}, O x0 → O x1 → O x2 → vw [501, 502, 503, 1200, 1201, 1202, 1203, 1204, 1205, 1206, 1207, 1208, 1209, 1210] [1211] [] O z0 h → vfr (vw [501, 502, 503, 1200, 1201, 1202, 1203, 1204, 1205, 1206, 1207, 1208, 1209, 1210] [1211] [] O) z0 (k116 x0 x1 x2 x6 h)) {x0 : Nat} {x1 : Nat} {x2 : Nat} {x6 : Int32} {h : vt_S} (ox0 : O x0) (ox1 : O x1) (ox2 : O x2) (hs : vw [501, 502, 503, 1200, 1201, 1202, 1203, 1204, 1205, 1206, 1207, 1208, 1209, 1210] [1211] [] O z0 h) : vfr (vw [501, 502, 503, 1200, 1201, 1202, 1203, 1204, 1205, 1206, 1207, 1208, 1209, 1210] [1211] [] O) z0 (ab_X2_readWall_116b k116 x0 x1 x2 x6 h) := by
  unfold ab_X2_readWall_116b
  refine vr_if ?_ ?_
  · refine vr_cl (fun _ _ e => (let q := vk_X4_one hs.2 ox1 e; ⟨hs.1.trans (q.1.weak (by decide) (by decide) (by decide)), q.2⟩)) (fun _ h hs => ?_)
    refine vr_I hs (by decide) ox2 (fun h hs => ?_)
    refine vr_I hs (by decide) ox2 (fun h hs => ?_)
    refine vr_cl (fun _ _ e => (let q := vk_X4_within hs.2 ox1 e; ⟨hs.1.trans (q.1.weak (by decide) (by decide) (by decide)), q.2⟩)) (fun _ h hs => ?_)
    refine vr_I hs (by decide) ox2 (fun h hs => ?_)
    refine vr_cl (fun _ _ e => (let q := vk_X4_within hs.2 ox1 e; ⟨hs.1.trans (q.1.weak (by decide) (by decide) (by decide)), q.2⟩)) (fun _ h hs => ?_)
    refine vr_I hs (by decide) ox2 (fun h hs => ?_)
    refine vr_cl (fun _ _ e => (let q := vk_X4_one hs.2 ox1 e; ⟨hs.1.trans (q.1.weak (by decide) (by decide) (by decide)), q.2⟩)) (fun _ h hs => ?_)
    refine vr_I hs (by decide) ox2 (fun h hs => ?_)
    exact vr_rt hs
  · refine vr_if ?_ ?_
    · exact vk_X2_readWall_137 hk116 ox0 ox1 ox2 hs
    · refine vr_let (fun _ => ?_)
      refine vr_if ?_ ?_
      · exact vk_X2_readWall_142 hk116 ox0 ox1 ox2 hs
      · exact vk_X2_readWall_137 hk116 ox0 ox1 ox2 hs
theorem vk_X2_readWall_116 {O : Nat → Prop} {z0 : vt_S} : ∀ (n : Nat) {x0 : Nat} {x1 : Nat} {x2 : Nat} {x6 : Int32} {h : vt_S}, O x0 → O x1 → O x2 → vw [501, 502, 503, 1200, 1201, 1202, 1203, 1204, 1205, 1206, 1207, 1208, 1209, 1210] [1211] [] O z0 h → vfr (vw [501, 502, 503, 1200, 1201, 1202, 1203, 1204, 1205, 1206, 1207, 1208, 1209, 1210] [1211] [] O) z0 (ab_X2_readWall_116 n x0 x1 x2 x6 h) := by
  intro n
  induction n with
  | zero => intro x0 x1 x2 x6 h ox0 ox1 ox2 hs; exact vr_no
  | succ n ih => intro x0 x1 x2 x6 h ox0 ox1 ox2 hs; exact vk_X2_readWall_116b (fun ox0 ox1 ox2 hs => ih ox0 ox1 ox2 hs) ox0 ox1 ox2 hs
theorem vk_X2_readWall_44 {O : Nat → Prop} {z0 : vt_S} {x0 : Nat} {x1 : Nat} {x2 : Nat} {x3 : Int32} {x5 : Int32} {h : vt_S} (ox0 : O x0) (ox1 : O x1) (ox2 : O x2) (hs : vw [501, 502, 503, 1200, 1201, 1202, 1203, 1204, 1205, 1206, 1207, 1208, 1209, 1210] [1211] [] O z0 h) : vfr (vw [501, 502, 503, 1200, 1201, 1202, 1203, 1204, 1205, 1206, 1207, 1208, 1209, 1210] [1211] [] O) z0 (ab_X2_readWall_44 x0 x1 x2 x3 x5 h) := by
  unfold ab_X2_readWall_44
  refine vr_bd (fun _ => ?_)
  refine vr_I hs (by decide) ox2 (fun h hs => ?_)
  refine vr_bd (fun _ => ?_)
  refine vr_I hs (by decide) ox2 (fun h hs => ?_)
  refine vr_bd (fun _ => ?_)
  refine vr_I hs (by decide) ox2 (fun h hs => ?_)
  refine vr_bd (fun _ => ?_)
  refine vr_I hs (by decide) ox2 (fun h hs => ?_)
  refine vr_let (fun _ => ?_)
  refine vr_cl (fun _ _ e => (let q := vk_X4_within hs.2 ox1 e; ⟨hs.1.trans (q.1.weak (by decide) (by decide) (by decide)), q.2⟩)) (fun _ h hs => ?_)
  refine vr_I hs (by decide) ox2 (fun h hs => ?_)
  refine vr_let (fun _ => ?_)
  refine vr_cl (fun _ _ e => (let q := vk_X4_numberOrNone hs.2 ox1 e; ⟨hs.1.trans (q.1.weak (by decide) (by decide) (by decide)), q.2⟩)) (fun _ h hs => ?_)
  refine vr_I hs (by decide) ox2 (fun h hs => ?_)
  exact vk_X2_readWall_116 sv_fuel ox0 ox1 ox2 hs
theorem vk_X2_readWall_0 {O : Nat → Prop} {z0 : vt_S} {x0 : Nat} {x1 : Nat} {x2 : Nat} {h : vt_S} (ox0 : O x0) (ox1 : O x1) (ox2 : O x2) (hs : vw [501, 502, 503, 1200, 1201, 1202, 1203, 1204, 1205, 1206, 1207, 1208, 1209, 1210] [1211] [] O z0 h) : vfr (vw [501, 502, 503, 1200, 1201, 1202, 1203, 1204, 1205, 1206, 1207, 1208, 1209, 1210] [1211] [] O) z0 (ab_X2_readWall x0 x1 x2 h) := by
  unfold ab_X2_readWall
  refine vr_let (fun _ => ?_)
  refine vr_cl (fun _ _ e => (let q := vk_X4_within hs.2 ox1 e; ⟨hs.1.trans (q.1.weak (by decide) (by decide) (by decide)), q.2⟩)) (fun _ h hs => ?_)
  refine vr_let (fun _ => ?_)
  refine vr_let (fun _ => ?_)
  refine vr_cl (fun _ _ e => (let q := vk_X4_within hs.2 ox1 e; ⟨hs.1.trans (q.1.weak (by decide) (by decide) (by decide)), q.2⟩)) (fun _ h hs => ?_)
  refine vr_if ?_ ?_
  · refine vr_cl (fun _ _ e => (let q := vk_X4_blame hs.2 ox1 e; ⟨hs.1.trans (q.1.weak (by decide) (by decide) (by decide)), q.2⟩)) (fun _ h hs => ?_)
    exact vk_X2_readWall_44 ox0 ox1 ox2 hs
  · exact vk_X2_readWall_44 ox0 ox1 ox2 hs
theorem vk_X2_readWall {O : Nat → Prop} {x0 : Nat} {x1 : Nat} {x2 : Nat} {h : vt_S} {r : Unit} {s : vt_S} (c : vcl O h) (ox0 : O x0) (ox1 : O x1) (ox2 : O x2) (e : ab_X2_readWall x0 x1 x2 h = some (r, s)) : vw [501, 502, 503, 1200, 1201, 1202, 1203, 1204, 1205, 1206, 1207, 1208, 1209, 1210] [1211] [] O h s := vk_X2_readWall_0 ox0 ox1 ox2 ⟨vk.refl h, c⟩ r s e

theorem vk_X4_readStart_0 {O : Nat → Prop} {z0 : vt_S} {x0 : Nat} {x1 : Nat} {x2 : Int32} {h : vt_S} (ox0 : O x0) (ox1 : O x1) (hs : vw [501, 502, 503, 800, 801, 802, 803] [] [] O z0 h) : vfr (vw [501, 502, 503, 800, 801, 802, 803] [] [] O) z0 (ab_X4_readStart x0 x1 x2 h) := by
  unfold ab_X4_readStart
  refine vr_cl (fun _ _ e => (let q := vk_X4_pair hs.2 ox0 e; ⟨hs.1.trans (q.1.weak (by decide) (by decide) (by decide)), q.2⟩)) (fun _ h hs => ?_)
  refine vr_I hs (by decide) ox1 (fun h hs => ?_)
  refine vr_cl (fun _ _ e => (let q := vk_X4_pair hs.2 ox0 e; ⟨hs.1.trans (q.1.weak (by decide) (by decide) (by decide)), q.2⟩)) (fun _ h hs => ?_)
  refine vr_I hs (by decide) ox1 (fun h hs => ?_)
  refine vr_cl (fun _ _ e => (let q := vk_X4_within hs.2 ox0 e; ⟨hs.1.trans (q.1.weak (by decide) (by decide) (by decide)), q.2⟩)) (fun _ h hs => ?_)
  refine vr_I hs (by decide) ox1 (fun h hs => ?_)
  refine vr_cl (fun _ _ e => (let q := vk_X4_within hs.2 ox0 e; ⟨hs.1.trans (q.1.weak (by decide) (by decide) (by decide)), q.2⟩)) (fun _ h hs => ?_)
  refine vr_I hs (by decide) ox1 (fun h hs => ?_)
  exact vr_rt hs
theorem vk_X4_readStart {O : Nat → Prop} {x0 : Nat} {x1 : Nat} {x2 : Int32} {h : vt_S} {r : Unit} {s : vt_S} (c : vcl O h) (ox0 : O x0) (ox1 : O x1) (e : ab_X4_readStart x0 x1 x2 h = some (r, s)) : vw [501, 502, 503, 800, 801, 802, 803] [] [] O h s := vk_X4_readStart_0 ox0 ox1 ⟨vk.refl h, c⟩ r s e

theorem vk_X2_readCheck_7b {O : Nat → Prop} {z0 : vt_S} {k7 : Nat → Int32 → Int32 → Int32 → vt_S → Option (Unit × vt_S)} (hk7 : ∀ {x1 : Nat} {x2 : Int32} {x3 : Int32} {x4 : Int32} {h : vt_S}, O x1 → vw [501, 502, 503] [] [] O z0 h → vfr (vw [501, 502, 503] [] [] O) z0 (k7 x1 x2 x3 x4 h)) {x1 : Nat} {x2 : Int32} {x3 : Int32} {x4 : Int32} {h : vt_S} (ox1 : O x1) (hs : vw [501, 502, 503] [] [] O z0 h) : vfr (vw [501, 502, 503] [] [] O) z0 (ab_X2_readCheck_7b k7 x1 x2 x3 x4 h) := by
  unfold ab_X2_readCheck_7b
  refine vr_let (fun _ => ?_)
  refine vr_if ?_ ?_
  · refine vr_cl (fun _ _ e => (let q := vk_X4_expect hs.2 ox1 e; ⟨hs.1.trans (q.1.weak (by decide) (by decide) (by decide)), q.2⟩)) (fun _ h hs => ?_)
    refine vr_cl (fun _ _ e => (let q := vk_X4_expect hs.2 ox1 e; ⟨hs.1.trans (q.1.weak (by decide) (by decide) (by decide)), q.2⟩)) (fun _ h hs => ?_)
    exact vr_rt hs
  · refine vr_gP hs ox1 (fun v4 ov4 => ?_)
    refine vr_bd (fun _ => ?_)
    exact hk7 ox1 hs
theorem vk_X2_readCheck_7 {O : Nat → Prop} {z0 : vt_S} : ∀ (n : Nat) {x1 : Nat} {x2 : Int32} {x3 : Int32} {x4 : Int32} {h : vt_S}, O x1 → vw [501, 502, 503] [] [] O z0 h → vfr (vw [501, 502, 503] [] [] O) z0 (ab_X2_readCheck_7 n x1 x2 x3 x4 h) := by
  intro n
  induction n with
  | zero => intro x1 x2 x3 x4 h ox1 hs; exact vr_no
  | succ n ih => intro x1 x2 x3 x4 h ox1 hs; exact vk_X2_readCheck_7b (fun ox1 hs => ih ox1 hs) ox1 hs
theorem vk_X2_readCheck_0 {O : Nat → Prop} {z0 : vt_S} {x0 : Nat} {x1 : Nat} {h : vt_S} (ox0 : O x0) (ox1 : O x1) (hs : vw [501, 502, 503] [] [] O z0 h) : vfr (vw [501, 502, 503] [] [] O) z0 (ab_X2_readCheck x0 x1 h) := by
  unfold ab_X2_readCheck
  exact vk_X2_readCheck_7 sv_fuel ox1 hs
theorem vk_X2_readCheck {O : Nat → Prop} {x0 : Nat} {x1 : Nat} {h : vt_S} {r : Unit} {s : vt_S} (c : vcl O h) (ox0 : O x0) (ox1 : O x1) (e : ab_X2_readCheck x0 x1 h = some (r, s)) : vw [501, 502, 503] [] [] O h s := vk_X2_readCheck_0 ox0 ox1 ⟨vk.refl h, c⟩ r s e

theorem vk_X4_expectEnd_23 {O : Nat → Prop} {z0 : vt_S} {h : vt_S} (hs : vw [502, 503] [] [] O z0 h) : vfr (vw [502, 503] [] [] O) z0 (ab_X4_expectEnd_23 h) := by
  unfold ab_X4_expectEnd_23
  exact vr_rt hs
theorem vk_X4_expectEnd_0 {O : Nat → Prop} {z0 : vt_S} {x0 : Nat} {x1 : Int32} {h : vt_S} (ox0 : O x0) (hs : vw [502, 503] [] [] O z0 h) : vfr (vw [502, 503] [] [] O) z0 (ab_X4_expectEnd x0 x1 h) := by
  unfold ab_X4_expectEnd
  refine vr_let (fun _ => ?_)
  refine vr_gP hs ox0 (fun v2 ov2 => ?_)
  refine vr_let (fun _ => ?_)
  refine vr_if ?_ ?_
  · exact vk_X4_expectEnd_23 hs
  · refine vr_let (fun _ => ?_)
    refine vr_cl (fun _ _ e => (let q := vk_X4_blame hs.2 ox0 e; ⟨hs.1.trans (q.1.weak (by decide) (by decide) (by decide)), q.2⟩)) (fun _ h hs => ?_)
    exact vk_X4_expectEnd_23 hs
theorem vk_X4_expectEnd {O : Nat → Prop} {x0 : Nat} {x1 : Int32} {h : vt_S} {r : Unit} {s : vt_S} (c : vcl O h) (ox0 : O x0) (e : ab_X4_expectEnd x0 x1 h = some (r, s)) : vw [502, 503] [] [] O h s := vk_X4_expectEnd_0 ox0 ⟨vk.refl h, c⟩ r s e

theorem ve_X12_cross_0 {z0 : vt_S} {x0 : Int64} {x2 : Int64} {x4 : Int64} {x6 : Int64} {h : vt_S} (hs : veq z0 h) : vfr veq z0 (ab_X12_cross x0 x2 x4 x6 h) := by
  unfold ab_X12_cross
  exact vr_rt hs
theorem ve_X12_cross {x0 : Int64} {x2 : Int64} {x4 : Int64} {x6 : Int64} {h : vt_S} {r : Int64} {s : vt_S} (e : ab_X12_cross x0 x2 x4 x6 h = some (r, s)) : s = h := ve_X12_cross_0 rfl r s e

theorem ve_X11_goesAlong_53 {z0 : vt_S} {s0 : Int32} {h : vt_S} (hs : veq z0 h) : vfr veq z0 (ab_X11_goesAlong_53 s0 h) := by
  unfold ab_X11_goesAlong_53
  exact vr_rz hs
theorem ve_X11_goesAlong_52 {z0 : vt_S} {h : vt_S} (hs : veq z0 h) : vfr veq z0 (ab_X11_goesAlong_52 h) := by
  unfold ab_X11_goesAlong_52
  exact ve_X11_goesAlong_53 hs
theorem ve_X11_goesAlong_0 {z0 : vt_S} {x0 : Int64} {x2 : Int64} {x4 : Int64} {x6 : Int64} {x8 : Int64} {x10 : Int64} {h : vt_S} (hs : veq z0 h) : vfr veq z0 (ab_X11_goesAlong x0 x2 x4 x6 x8 x10 h) := by
  unfold ab_X11_goesAlong
  refine vr_cl (fun _ _ e => ((ve_X12_cross e).trans hs)) (fun _ h hs => ?_)
  refine vr_if ?_ ?_
  · refine vr_if ?_ ?_
    · exact ve_X11_goesAlong_52 hs
    · exact ve_X11_goesAlong_53 hs
  · exact ve_X11_goesAlong_52 hs
theorem ve_X11_goesAlong {x0 : Int64} {x2 : Int64} {x4 : Int64} {x6 : Int64} {x8 : Int64} {x10 : Int64} {h : vt_S} {r : Int32} {s : vt_S} (e : ab_X11_goesAlong x0 x2 x4 x6 x8 x10 h = some (r, s)) : s = h := ve_X11_goesAlong_0 rfl r s e

theorem ve_X11_reachesBox_66 {z0 : vt_S} {s0 : Int32} {h : vt_S} (hs : veq z0 h) : vfr veq z0 (ab_X11_reachesBox_66 s0 h) := by
  unfold ab_X11_reachesBox_66
  exact vr_rz hs
theorem ve_X11_reachesBox_65 {z0 : vt_S} {h : vt_S} (hs : veq z0 h) : vfr veq z0 (ab_X11_reachesBox_65 h) := by
  unfold ab_X11_reachesBox_65
  exact ve_X11_reachesBox_66 hs
theorem ve_X11_reachesBox_0 {z0 : vt_S} {x0 : Nat} {x1 : Int32} {x2 : Int32} {x3 : Int32} {x4 : Int32} {h : vt_S} (hs : veq z0 h) : vfr veq z0 (ab_X11_reachesBox x0 x1 x2 x3 x4 h) := by
  unfold ab_X11_reachesBox
  refine vr_let (fun _ => ?_)
  refine vr_let (fun _ => ?_)
  refine vr_let (fun _ => ?_)
  refine vr_if ?_ ?_
  · exact ve_X11_reachesBox_65 hs
  · refine vr_let (fun _ => ?_)
    refine vr_let (fun _ => ?_)
    refine vr_let (fun _ => ?_)
    refine vr_if ?_ ?_
    · exact ve_X11_reachesBox_65 hs
    · refine vr_let (fun _ => ?_)
      refine vr_let (fun _ => ?_)
      refine vr_let (fun _ => ?_)
      refine vr_if ?_ ?_
      · exact ve_X11_reachesBox_65 hs
      · refine vr_let (fun _ => ?_)
        refine vr_let (fun _ => ?_)
        refine vr_let (fun _ => ?_)
        refine vr_if ?_ ?_
        · exact ve_X11_reachesBox_65 hs
        · exact ve_X11_reachesBox_66 hs
theorem ve_X11_reachesBox {x0 : Nat} {x1 : Int32} {x2 : Int32} {x3 : Int32} {x4 : Int32} {h : vt_S} {r : Int32} {s : vt_S} (e : ab_X11_reachesBox x0 x1 x2 x3 x4 h = some (r, s)) : s = h := ve_X11_reachesBox_0 rfl r s e

theorem ve_X11_sideOf_0 {z0 : vt_S} {x0 : Nat} {x1 : Int32} {x2 : Int32} {h : vt_S} (hs : veq z0 h) : vfr veq z0 (ab_X11_sideOf x0 x1 x2 h) := by
  unfold ab_X11_sideOf
  refine vr_let (fun _ => ?_)
  refine vr_let (fun _ => ?_)
  refine vr_let (fun _ => ?_)
  refine vr_let (fun _ => ?_)
  refine vr_let (fun _ => ?_)
  refine vr_let (fun _ => ?_)
  exact vr_rt hs
theorem ve_X11_sideOf {x0 : Nat} {x1 : Int32} {x2 : Int32} {h : vt_S} {r : Int64} {s : vt_S} (e : ab_X11_sideOf x0 x1 x2 h = some (r, s)) : s = h := ve_X11_sideOf_0 rfl r s e

theorem ve_X11_lineParts_39 {z0 : vt_S} {s0 : Int32} {h : vt_S} (hs : veq z0 h) : vfr veq z0 (ab_X11_lineParts_39 s0 h) := by
  unfold ab_X11_lineParts_39
  exact vr_rz hs
theorem ve_X11_lineParts_0 {z0 : vt_S} {x0 : Nat} {x1 : Nat} {h : vt_S} (hs : veq z0 h) : vfr veq z0 (ab_X11_lineParts x0 x1 h) := by
  unfold ab_X11_lineParts
  refine vr_let (fun _ => ?_)
  refine vr_let (fun _ => ?_)
  refine vr_cl (fun _ _ e => ((ve_X11_sideOf e).trans hs)) (fun _ h hs => ?_)
  refine vr_cl (fun _ _ e => ((ve_J13_signum_95d88 e).trans hs)) (fun _ h hs => ?_)
  refine vr_let (fun _ => ?_)
  refine vr_let (fun _ => ?_)
  refine vr_cl (fun _ _ e => ((ve_X11_sideOf e).trans hs)) (fun _ h hs => ?_)
  refine vr_cl (fun _ _ e => ((ve_J13_signum_95d88 e).trans hs)) (fun _ h hs => ?_)
  refine vr_if ?_ ?_
  · exact ve_X11_lineParts_39 hs
  · exact ve_X11_lineParts_39 hs
theorem ve_X11_lineParts {x0 : Nat} {x1 : Nat} {h : vt_S} {r : Int32} {s : vt_S} (e : ab_X11_lineParts x0 x1 h = some (r, s)) : s = h := ve_X11_lineParts_0 rfl r s e

theorem ve_X11_touches_72 {z0 : vt_S} {s0 : Int32} {h : vt_S} (hs : veq z0 h) : vfr veq z0 (ab_X11_touches_72 s0 h) := by
  unfold ab_X11_touches_72
  exact vr_rz hs
theorem ve_X11_touches_71 {z0 : vt_S} {h : vt_S} (hs : veq z0 h) : vfr veq z0 (ab_X11_touches_71 h) := by
  unfold ab_X11_touches_71
  exact ve_X11_touches_72 hs
theorem ve_X11_touches_0 {z0 : vt_S} {x0 : Nat} {x1 : Nat} {h : vt_S} (hs : veq z0 h) : vfr veq z0 (ab_X11_touches x0 x1 h) := by
  unfold ab_X11_touches
  refine vr_let (fun _ => ?_)
  refine vr_let (fun _ => ?_)
  refine vr_let (fun _ => ?_)
  refine vr_let (fun _ => ?_)
  refine vr_let (fun _ => ?_)
  refine vr_let (fun _ => ?_)
  refine vr_let (fun _ => ?_)
  refine vr_let (fun _ => ?_)
  refine vr_let (fun _ => ?_)
  refine vr_let (fun _ => ?_)
  refine vr_let (fun _ => ?_)
  refine vr_let (fun _ => ?_)
  refine vr_cl (fun _ _ e => ((ve_X11_reachesBox e).trans hs)) (fun _ h hs => ?_)
  refine vr_if ?_ ?_
  · exact ve_X11_touches_71 hs
  · refine vr_cl (fun _ _ e => ((ve_X11_lineParts e).trans hs)) (fun _ h hs => ?_)
    refine vr_if ?_ ?_
    · exact ve_X11_touches_71 hs
    · refine vr_cl (fun _ _ e => ((ve_X11_lineParts e).trans hs)) (fun _ h hs => ?_)
      refine vr_if ?_ ?_
      · exact ve_X11_touches_71 hs
      · exact ve_X11_touches_72 hs
theorem ve_X11_touches {x0 : Nat} {x1 : Nat} {h : vt_S} {r : Int32} {s : vt_S} (e : ab_X11_touches x0 x1 h = some (r, s)) : s = h := ve_X11_touches_0 rfl r s e

theorem ve_X11_overlaps_224 {z0 : vt_S} {x0 : Nat} {x1 : Nat} {h : vt_S} (hs : veq z0 h) : vfr veq z0 (ab_X11_overlaps_224 x0 x1 h) := by
  unfold ab_X11_overlaps_224
  refine vr_cl (fun _ _ e => ((ve_X11_touches e).trans hs)) (fun _ h hs => ?_)
  exact vr_rz hs
theorem ve_X11_overlaps_168 {z0 : vt_S} {x0 : Nat} {x1 : Nat} {h : vt_S} (hs : veq z0 h) : vfr veq z0 (ab_X11_overlaps_168 x0 x1 h) := by
  unfold ab_X11_overlaps_168
  refine vr_let (fun _ => ?_)
  refine vr_let (fun _ => ?_)
  refine vr_if ?_ ?_
  · refine vr_let (fun _ => ?_)
    refine vr_let (fun _ => ?_)
    refine vr_if ?_ ?_
    · refine vr_let (fun _ => ?_)
      refine vr_let (fun _ => ?_)
      refine vr_let (fun _ => ?_)
      refine vr_let (fun _ => ?_)
      refine vr_let (fun _ => ?_)
      refine vr_let (fun _ => ?_)
      refine vr_cl (fun _ _ e => ((ve_X11_goesAlong e).trans hs)) (fun _ h hs => ?_)
      exact vr_rz hs
    · exact ve_X11_overlaps_224 hs
  · exact ve_X11_overlaps_224 hs
theorem ve_X11_overlaps_112 {z0 : vt_S} {x0 : Nat} {x1 : Nat} {h : vt_S} (hs : veq z0 h) : vfr veq z0 (ab_X11_overlaps_112 x0 x1 h) := by
  unfold ab_X11_overlaps_112
  refine vr_let (fun _ => ?_)
  refine vr_let (fun _ => ?_)
  refine vr_if ?_ ?_
  · refine vr_let (fun _ => ?_)
    refine vr_let (fun _ => ?_)
    refine vr_if ?_ ?_
    · refine vr_let (fun _ => ?_)
      refine vr_let (fun _ => ?_)
      refine vr_let (fun _ => ?_)
      refine vr_let (fun _ => ?_)
      refine vr_let (fun _ => ?_)
      refine vr_let (fun _ => ?_)
      refine vr_cl (fun _ _ e => ((ve_X11_goesAlong e).trans hs)) (fun _ h hs => ?_)
      exact vr_rz hs
    · exact ve_X11_overlaps_168 hs
  · exact ve_X11_overlaps_168 hs
theorem ve_X11_overlaps_56 {z0 : vt_S} {x0 : Nat} {x1 : Nat} {h : vt_S} (hs : veq z0 h) : vfr veq z0 (ab_X11_overlaps_56 x0 x1 h) := by
  unfold ab_X11_overlaps_56
  refine vr_let (fun _ => ?_)
  refine vr_let (fun _ => ?_)
  refine vr_if ?_ ?_
  · refine vr_let (fun _ => ?_)
    refine vr_let (fun _ => ?_)
    refine vr_if ?_ ?_
    · refine vr_let (fun _ => ?_)
      refine vr_let (fun _ => ?_)
      refine vr_let (fun _ => ?_)
      refine vr_let (fun _ => ?_)
      refine vr_let (fun _ => ?_)
      refine vr_let (fun _ => ?_)
      refine vr_cl (fun _ _ e => ((ve_X11_goesAlong e).trans hs)) (fun _ h hs => ?_)
      exact vr_rz hs
    · exact ve_X11_overlaps_112 hs
  · exact ve_X11_overlaps_112 hs
theorem ve_X11_overlaps_0 {z0 : vt_S} {x0 : Nat} {x1 : Nat} {h : vt_S} (hs : veq z0 h) : vfr veq z0 (ab_X11_overlaps x0 x1 h) := by
  unfold ab_X11_overlaps
  refine vr_let (fun _ => ?_)
  refine vr_let (fun _ => ?_)
  refine vr_if ?_ ?_
  · refine vr_let (fun _ => ?_)
    refine vr_let (fun _ => ?_)
    refine vr_if ?_ ?_
    · refine vr_let (fun _ => ?_)
      refine vr_let (fun _ => ?_)
      refine vr_let (fun _ => ?_)
      refine vr_let (fun _ => ?_)
      refine vr_let (fun _ => ?_)
      refine vr_let (fun _ => ?_)
      refine vr_cl (fun _ _ e => ((ve_X11_goesAlong e).trans hs)) (fun _ h hs => ?_)
      exact vr_rz hs
    · exact ve_X11_overlaps_56 hs
  · exact ve_X11_overlaps_56 hs
theorem ve_X11_overlaps {x0 : Nat} {x1 : Nat} {h : vt_S} {r : Int32} {s : vt_S} (e : ab_X11_overlaps x0 x1 h = some (r, s)) : s = h := ve_X11_overlaps_0 rfl r s e

theorem vk_X2_findOverlap_76 {O : Nat → Prop} {z0 : vt_S} {h : vt_S} (hs : vw [502, 503] [] [] O z0 h) : vfr (vw [502, 503] [] [] O) z0 (ab_X2_findOverlap_76 h) := by
  unfold ab_X2_findOverlap_76
  exact vr_rt hs
theorem vk_X2_findOverlap_70 {O : Nat → Prop} {z0 : vt_S} {k2 : Nat → Nat → Int32 → Int32 → vt_S → Option (Unit × vt_S)} (hk2 : ∀ {x0 : Nat} {x1 : Nat} {x2 : Int32} {x3 : Int32} {h : vt_S}, O x0 → O x1 → vw [502, 503] [] [] O z0 h → vfr (vw [502, 503] [] [] O) z0 (k2 x0 x1 x2 x3 h)) {x0 : Nat} {x1 : Nat} {x2 : Int32} {x3 : Int32} {h : vt_S} (ox0 : O x0) (ox1 : O x1) (hs : vw [502, 503] [] [] O z0 h) : vfr (vw [502, 503] [] [] O) z0 (ab_X2_findOverlap_70 k2 x0 x1 x2 x3 h) := by
  unfold ab_X2_findOverlap_70
  exact hk2 ox0 ox1 hs
theorem vk_X2_findOverlap_64 {O : Nat → Prop} {z0 : vt_S} {k2 : Nat → Nat → Int32 → Int32 → vt_S → Option (Unit × vt_S)} (hk2 : ∀ {x0 : Nat} {x1 : Nat} {x2 : Int32} {x3 : Int32} {h : vt_S}, O x0 → O x1 → vw [502, 503] [] [] O z0 h → vfr (vw [502, 503] [] [] O) z0 (k2 x0 x1 x2 x3 h)) {k20 : Nat → Nat → Int32 → Int32 → Int32 → vt_S → Option (Unit × vt_S)} (hk20 : ∀ {x0 : Nat} {x1 : Nat} {x2 : Int32} {x3 : Int32} {x4 : Int32} {h : vt_S}, O x0 → O x1 → vw [502, 503] [] [] O z0 h → vfr (vw [502, 503] [] [] O) z0 (k20 x0 x1 x2 x3 x4 h)) {x0 : Nat} {x1 : Nat} {x2 : Int32} {x3 : Int32} {x4 : Int32} {h : vt_S} (ox0 : O x0) (ox1 : O x1) (hs : vw [502, 503] [] [] O z0 h) : vfr (vw [502, 503] [] [] O) z0 (ab_X2_findOverlap_64 k2 k20 x0 x1 x2 x3 x4 h) := by
  unfold ab_X2_findOverlap_64
  exact hk20 ox0 ox1 hs
theorem vk_X2_findOverlap_20b {O : Nat → Prop} {z0 : vt_S} {k2 : Nat → Nat → Int32 → Int32 → vt_S → Option (Unit × vt_S)} (hk2 : ∀ {x0 : Nat} {x1 : Nat} {x2 : Int32} {x3 : Int32} {h : vt_S}, O x0 → O x1 → vw [502, 503] [] [] O z0 h → vfr (vw [502, 503] [] [] O) z0 (k2 x0 x1 x2 x3 h)) {k20 : Nat → Nat → Int32 → Int32 → Int32 → vt_S → Option (Unit × vt_S)} (hk20 : ∀ {x0 : Nat} {x1 : Nat} {x2 : Int32} {x3 : Int32} {x4 : Int32} {h : vt_S}, O x0 → O x1 → vw [502, 503] [] [] O z0 h → vfr (vw [502, 503] [] [] O) z0 (k20 x0 x1 x2 x3 x4 h)) {x0 : Nat} {x1 : Nat} {x2 : Int32} {x3 : Int32} {x4 : Int32} {h : vt_S} (ox0 : O x0) (ox1 : O x1) (hs : vw [502, 503] [] [] O z0 h) : vfr (vw [502, 503] [] [] O) z0 (ab_X2_findOverlap_20b k2 k20 x0 x1 x2 x3 x4 h) := by
  unfold ab_X2_findOverlap_20b
  refine vr_if ?_ ?_
  · exact vk_X2_findOverlap_70 hk2 ox0 ox1 hs
  · refine vr_cl (fun _ _ e => (by rw [ve_X4_well e]; exact hs)) (fun _ h hs => ?_)
    refine vr_if ?_ ?_
    · exact vk_X2_findOverlap_70 hk2 ox0 ox1 hs
    · refine vr_lP hs ox0 (fun v4 ov4 => ?_)
      refine vr_lP hs ox0 (fun v6 ov6 => ?_)
      refine vr_cl (fun _ _ e => (by rw [ve_X11_overlaps e]; exact hs)) (fun _ h hs => ?_)
      refine vr_if ?_ ?_
      · exact vk_X2_findOverlap_64 hk2 hk20 ox0 ox1 hs
      · refine vr_cl (fun _ _ e => (let q := vk_X4_blame hs.2 ox1 e; ⟨hs.1.trans (q.1.weak (by decide) (by decide) (by decide)), q.2⟩)) (fun _ h hs => ?_)
        exact vk_X2_findOverlap_64 hk2 hk20 ox0 ox1 hs
theorem vk_X2_findOverlap_20 {O : Nat → Prop} {z0 : vt_S} {k2 : Nat → Nat → Int32 → Int32 → vt_S → Option (Unit × vt_S)} (hk2 : ∀ {x0 : Nat} {x1 : Nat} {x2 : Int32} {x3 : Int32} {h : vt_S}, O x0 → O x1 → vw [502, 503] [] [] O z0 h → vfr (vw [502, 503] [] [] O) z0 (k2 x0 x1 x2 x3 h)) : ∀ (n : Nat) {x0 : Nat} {x1 : Nat} {x2 : Int32} {x3 : Int32} {x4 : Int32} {h : vt_S}, O x0 → O x1 → vw [502, 503] [] [] O z0 h → vfr (vw [502, 503] [] [] O) z0 (ab_X2_findOverlap_20 k2 n x0 x1 x2 x3 x4 h) := by
  intro n
  induction n with
  | zero => intro x0 x1 x2 x3 x4 h ox0 ox1 hs; exact vr_no
  | succ n ih => intro x0 x1 x2 x3 x4 h ox0 ox1 hs; exact vk_X2_findOverlap_20b hk2 (fun ox0 ox1 hs => ih ox0 ox1 hs) ox0 ox1 hs
theorem vk_X2_findOverlap_2b {O : Nat → Prop} {z0 : vt_S} {k2 : Nat → Nat → Int32 → Int32 → vt_S → Option (Unit × vt_S)} (hk2 : ∀ {x0 : Nat} {x1 : Nat} {x2 : Int32} {x3 : Int32} {h : vt_S}, O x0 → O x1 → vw [502, 503] [] [] O z0 h → vfr (vw [502, 503] [] [] O) z0 (k2 x0 x1 x2 x3 h)) {x0 : Nat} {x1 : Nat} {x2 : Int32} {x3 : Int32} {h : vt_S} (ox0 : O x0) (ox1 : O x1) (hs : vw [502, 503] [] [] O z0 h) : vfr (vw [502, 503] [] [] O) z0 (ab_X2_findOverlap_2b k2 x0 x1 x2 x3 h) := by
  unfold ab_X2_findOverlap_2b
  refine vr_let (fun _ => ?_)
  refine vr_if ?_ ?_
  · exact vk_X2_findOverlap_76 hs
  · refine vr_cl (fun _ _ e => (by rw [ve_X4_well e]; exact hs)) (fun _ h hs => ?_)
    refine vr_if ?_ ?_
    · exact vk_X2_findOverlap_76 hs
    · exact vk_X2_findOverlap_20 hk2 sv_fuel ox0 ox1 hs
theorem vk_X2_findOverlap_2 {O : Nat → Prop} {z0 : vt_S} : ∀ (n : Nat) {x0 : Nat} {x1 : Nat} {x2 : Int32} {x3 : Int32} {h : vt_S}, O x0 → O x1 → vw [502, 503] [] [] O z0 h → vfr (vw [502, 503] [] [] O) z0 (ab_X2_findOverlap_2 n x0 x1 x2 x3 h) := by
  intro n
  induction n with
  | zero => intro x0 x1 x2 x3 h ox0 ox1 hs; exact vr_no
  | succ n ih => intro x0 x1 x2 x3 h ox0 ox1 hs; exact vk_X2_findOverlap_2b (fun ox0 ox1 hs => ih ox0 ox1 hs) ox0 ox1 hs
theorem vk_X2_findOverlap_0 {O : Nat → Prop} {z0 : vt_S} {x0 : Nat} {x1 : Nat} {x2 : Int32} {h : vt_S} (ox0 : O x0) (ox1 : O x1) (hs : vw [502, 503] [] [] O z0 h) : vfr (vw [502, 503] [] [] O) z0 (ab_X2_findOverlap x0 x1 x2 h) := by
  unfold ab_X2_findOverlap
  exact vk_X2_findOverlap_2 sv_fuel ox0 ox1 hs
theorem vk_X2_findOverlap {O : Nat → Prop} {x0 : Nat} {x1 : Nat} {x2 : Int32} {h : vt_S} {r : Unit} {s : vt_S} (c : vcl O h) (ox0 : O x0) (ox1 : O x1) (e : ab_X2_findOverlap x0 x1 x2 h = some (r, s)) : vw [502, 503] [] [] O h s := vk_X2_findOverlap_0 ox0 ox1 ⟨vk.refl h, c⟩ r s e

theorem vk_X2_read_197 {O : Nat → Prop} {z0 : vt_S} {x0 : Nat} {x1 : Nat} {x2 : Int32} {h : vt_S} (ox0 : O x0) (ox1 : O x1) (hs : vw [309, 310, 311, 312, 501, 502, 503, 700, 701, 702, 703, 704, 705, 706, 800, 801, 802, 803, 1200, 1201, 1202, 1203, 1204, 1205, 1206, 1207, 1208, 1209, 1210] [302, 303, 304, 305, 306, 1211] [] O z0 h) : vfr (vw [309, 310, 311, 312, 501, 502, 503, 700, 701, 702, 703, 704, 705, 706, 800, 801, 802, 803, 1200, 1201, 1202, 1203, 1204, 1205, 1206, 1207, 1208, 1209, 1210] [302, 303, 304, 305, 306, 1211] [] O) z0 (ab_X2_read_197 x0 x1 x2 h) := by
  unfold ab_X2_read_197
  refine vr_gP hs ox0 (fun v1 ov1 => ?_)
  refine vr_let (fun _ => ?_)
  refine vr_cl (fun _ _ e => (let q := vk_X4_readStart hs.2 ox1 ov1 e; ⟨hs.1.trans (q.1.weak (by decide) (by decide) (by decide)), q.2⟩)) (fun _ h hs => ?_)
  refine vr_cl (fun _ _ e => (let q := vk_X2_readCheck hs.2 ox0 ox1 e; ⟨hs.1.trans (q.1.weak (by decide) (by decide) (by decide)), q.2⟩)) (fun _ h hs => ?_)
  refine vr_cl (fun _ _ e => (let q := vk_X4_expectEnd hs.2 ox1 e; ⟨hs.1.trans (q.1.weak (by decide) (by decide) (by decide)), q.2⟩)) (fun _ h hs => ?_)
  refine vr_cl (fun _ _ e => (let q := vk_X2_findOverlap hs.2 ox0 ox1 e; ⟨hs.1.trans (q.1.weak (by decide) (by decide) (by decide)), q.2⟩)) (fun _ h hs => ?_)
  exact vr_rt hs
theorem vk_X2_read_165b {O : Nat → Prop} {z0 : vt_S} {k165 : Nat → Nat → Int32 → Int32 → vt_S → Option (Unit × vt_S)} (hk165 : ∀ {x0 : Nat} {x1 : Nat} {x2 : Int32} {x3 : Int32} {h : vt_S}, O x0 → O x1 → vw [309, 310, 311, 312, 501, 502, 503, 700, 701, 702, 703, 704, 705, 706, 800, 801, 802, 803, 1200, 1201, 1202, 1203, 1204, 1205, 1206, 1207, 1208, 1209, 1210] [302, 303, 304, 305, 306, 1211] [] O z0 h → vfr (vw [309, 310, 311, 312, 501, 502, 503, 700, 701, 702, 703, 704, 705, 706, 800, 801, 802, 803, 1200, 1201, 1202, 1203, 1204, 1205, 1206, 1207, 1208, 1209, 1210] [302, 303, 304, 305, 306, 1211] [] O) z0 (k165 x0 x1 x2 x3 h)) {x0 : Nat} {x1 : Nat} {x2 : Int32} {x3 : Int32} {h : vt_S} (ox0 : O x0) (ox1 : O x1) (hs : vw [309, 310, 311, 312, 501, 502, 503, 700, 701, 702, 703, 704, 705, 706, 800, 801, 802, 803, 1200, 1201, 1202, 1203, 1204, 1205, 1206, 1207, 1208, 1209, 1210] [302, 303, 304, 305, 306, 1211] [] O z0 h) : vfr (vw [309, 310, 311, 312, 501, 502, 503, 700, 701, 702, 703, 704, 705, 706, 800, 801, 802, 803, 1200, 1201, 1202, 1203, 1204, 1205, 1206, 1207, 1208, 1209, 1210] [302, 303, 304, 305, 306, 1211] [] O) z0 (ab_X2_read_165b k165 x0 x1 x2 x3 h) := by
  unfold ab_X2_read_165b
  refine vr_let (fun _ => ?_)
  refine vr_if ?_ ?_
  · exact vk_X2_read_197 ox0 ox1 hs
  · refine vr_cl (fun _ _ e => (by rw [ve_X4_well e]; exact hs)) (fun _ h hs => ?_)
    refine vr_if ?_ ?_
    · exact vk_X2_read_197 ox0 ox1 hs
    · refine vr_lP hs ox0 (fun v5 ov5 => ?_)
      refine vr_cl (fun _ _ e => (let q := vk_X2_readWall hs.2 ox0 ox1 ov5 e; ⟨hs.1.trans (q.1.weak (by decide) (by decide) (by decide)), q.2⟩)) (fun _ h hs => ?_)
      exact hk165 ox0 ox1 hs
theorem vk_X2_read_165 {O : Nat → Prop} {z0 : vt_S} : ∀ (n : Nat) {x0 : Nat} {x1 : Nat} {x2 : Int32} {x3 : Int32} {h : vt_S}, O x0 → O x1 → vw [309, 310, 311, 312, 501, 502, 503, 700, 701, 702, 703, 704, 705, 706, 800, 801, 802, 803, 1200, 1201, 1202, 1203, 1204, 1205, 1206, 1207, 1208, 1209, 1210] [302, 303, 304, 305, 306, 1211] [] O z0 h → vfr (vw [309, 310, 311, 312, 501, 502, 503, 700, 701, 702, 703, 704, 705, 706, 800, 801, 802, 803, 1200, 1201, 1202, 1203, 1204, 1205, 1206, 1207, 1208, 1209, 1210] [302, 303, 304, 305, 306, 1211] [] O) z0 (ab_X2_read_165 n x0 x1 x2 x3 h) := by
  intro n
  induction n with
  | zero => intro x0 x1 x2 x3 h ox0 ox1 hs; exact vr_no
  | succ n ih => intro x0 x1 x2 x3 h ox0 ox1 hs; exact vk_X2_read_165b (fun ox0 ox1 hs => ih ox0 ox1 hs) ox0 ox1 hs
theorem vk_X2_read_158 {O : Nat → Prop} {z0 : vt_S} {x0 : Nat} {x1 : Nat} {h : vt_S} (ox0 : O x0) (ox1 : O x1) (hs : vw [309, 310, 311, 312, 501, 502, 503, 700, 701, 702, 703, 704, 705, 706, 800, 801, 802, 803, 1200, 1201, 1202, 1203, 1204, 1205, 1206, 1207, 1208, 1209, 1210] [302, 303, 304, 305, 306, 1211] [] O z0 h) : vfr (vw [309, 310, 311, 312, 501, 502, 503, 700, 701, 702, 703, 704, 705, 706, 800, 801, 802, 803, 1200, 1201, 1202, 1203, 1204, 1205, 1206, 1207, 1208, 1209, 1210] [302, 303, 304, 305, 306, 1211] [] O) z0 (ab_X2_read_158 x0 x1 h) := by
  unfold ab_X2_read_158
  refine vr_let (fun _ => ?_)
  exact vk_X2_read_165 sv_fuel ox0 ox1 hs
theorem vk_X2_read_126b {O : Nat → Prop} {z0 : vt_S} {k126 : Nat → Nat → Int32 → vt_S → Option (Unit × vt_S)} (hk126 : ∀ {x0 : Nat} {x1 : Nat} {x2 : Int32} {h : vt_S}, O x0 → O x1 → vw [309, 310, 311, 312, 501, 502, 503, 700, 701, 702, 703, 704, 705, 706, 800, 801, 802, 803, 1200, 1201, 1202, 1203, 1204, 1205, 1206, 1207, 1208, 1209, 1210] [302, 303, 304, 305, 306, 1211] [] O z0 h → vfr (vw [309, 310, 311, 312, 501, 502, 503, 700, 701, 702, 703, 704, 705, 706, 800, 801, 802, 803, 1200, 1201, 1202, 1203, 1204, 1205, 1206, 1207, 1208, 1209, 1210] [302, 303, 304, 305, 306, 1211] [] O) z0 (k126 x0 x1 x2 h)) {x0 : Nat} {x1 : Nat} {x2 : Int32} {h : vt_S} (ox0 : O x0) (ox1 : O x1) (hs : vw [309, 310, 311, 312, 501, 502, 503, 700, 701, 702, 703, 704, 705, 706, 800, 801, 802, 803, 1200, 1201, 1202, 1203, 1204, 1205, 1206, 1207, 1208, 1209, 1210] [302, 303, 304, 305, 306, 1211] [] O z0 h) : vfr (vw [309, 310, 311, 312, 501, 502, 503, 700, 701, 702, 703, 704, 705, 706, 800, 801, 802, 803, 1200, 1201, 1202, 1203, 1204, 1205, 1206, 1207, 1208, 1209, 1210] [302, 303, 304, 305, 306, 1211] [] O) z0 (ab_X2_read_126b k126 x0 x1 x2 h) := by
  unfold ab_X2_read_126b
  refine vr_let (fun _ => ?_)
  refine vr_if ?_ ?_
  · exact vk_X2_read_158 ox0 ox1 hs
  · refine vr_cl (fun _ _ e => (by rw [ve_X4_well e]; exact hs)) (fun _ h hs => ?_)
    refine vr_if ?_ ?_
    · exact vk_X2_read_158 ox0 ox1 hs
    · refine vr_lP hs ox0 (fun v5 ov5 => ?_)
      refine vr_cl (fun _ _ e => (let q := vk_X2_readSector hs.2 ox0 ox1 ov5 e; ⟨hs.1.trans (q.1.weak (by decide) (by decide) (by decide)), q.2⟩)) (fun _ h hs => ?_)
      exact hk126 ox0 ox1 hs
theorem vk_X2_read_126 {O : Nat → Prop} {z0 : vt_S} : ∀ (n : Nat) {x0 : Nat} {x1 : Nat} {x2 : Int32} {h : vt_S}, O x0 → O x1 → vw [309, 310, 311, 312, 501, 502, 503, 700, 701, 702, 703, 704, 705, 706, 800, 801, 802, 803, 1200, 1201, 1202, 1203, 1204, 1205, 1206, 1207, 1208, 1209, 1210] [302, 303, 304, 305, 306, 1211] [] O z0 h → vfr (vw [309, 310, 311, 312, 501, 502, 503, 700, 701, 702, 703, 704, 705, 706, 800, 801, 802, 803, 1200, 1201, 1202, 1203, 1204, 1205, 1206, 1207, 1208, 1209, 1210] [302, 303, 304, 305, 306, 1211] [] O) z0 (ab_X2_read_126 n x0 x1 x2 h) := by
  intro n
  induction n with
  | zero => intro x0 x1 x2 h ox0 ox1 hs; exact vr_no
  | succ n ih => intro x0 x1 x2 h ox0 ox1 hs; exact vk_X2_read_126b (fun ox0 ox1 hs => ih ox0 ox1 hs) ox0 ox1 hs
theorem vk_X2_read_124 {O : Nat → Prop} {z0 : vt_S} {x0 : Nat} {x1 : Nat} {h : vt_S} (ox0 : O x0) (ox1 : O x1) (hs : vw [309, 310, 311, 312, 501, 502, 503, 700, 701, 702, 703, 704, 705, 706, 800, 801, 802, 803, 1200, 1201, 1202, 1203, 1204, 1205, 1206, 1207, 1208, 1209, 1210] [302, 303, 304, 305, 306, 1211] [] O z0 h) : vfr (vw [309, 310, 311, 312, 501, 502, 503, 700, 701, 702, 703, 704, 705, 706, 800, 801, 802, 803, 1200, 1201, 1202, 1203, 1204, 1205, 1206, 1207, 1208, 1209, 1210] [302, 303, 304, 305, 306, 1211] [] O) z0 (ab_X2_read_124 x0 x1 h) := by
  unfold ab_X2_read_124
  exact vk_X2_read_126 sv_fuel ox0 ox1 hs
theorem vk_X2_read_97b {O : Nat → Prop} {z0 : vt_S} {k97 : Nat → Nat → Int32 → vt_S → Option (Unit × vt_S)} (hk97 : ∀ {x0 : Nat} {x1 : Nat} {x2 : Int32} {h : vt_S}, O x0 → O x1 → vw [309, 310, 311, 312, 501, 502, 503, 700, 701, 702, 703, 704, 705, 706, 800, 801, 802, 803, 1200, 1201, 1202, 1203, 1204, 1205, 1206, 1207, 1208, 1209, 1210] [302, 303, 304, 305, 306, 1211] [] O z0 h → vfr (vw [309, 310, 311, 312, 501, 502, 503, 700, 701, 702, 703, 704, 705, 706, 800, 801, 802, 803, 1200, 1201, 1202, 1203, 1204, 1205, 1206, 1207, 1208, 1209, 1210] [302, 303, 304, 305, 306, 1211] [] O) z0 (k97 x0 x1 x2 h)) {x0 : Nat} {x1 : Nat} {x2 : Int32} {h : vt_S} (ox0 : O x0) (ox1 : O x1) (hs : vw [309, 310, 311, 312, 501, 502, 503, 700, 701, 702, 703, 704, 705, 706, 800, 801, 802, 803, 1200, 1201, 1202, 1203, 1204, 1205, 1206, 1207, 1208, 1209, 1210] [302, 303, 304, 305, 306, 1211] [] O z0 h) : vfr (vw [309, 310, 311, 312, 501, 502, 503, 700, 701, 702, 703, 704, 705, 706, 800, 801, 802, 803, 1200, 1201, 1202, 1203, 1204, 1205, 1206, 1207, 1208, 1209, 1210] [302, 303, 304, 305, 306, 1211] [] O) z0 (ab_X2_read_97b k97 x0 x1 x2 h) := by
  unfold ab_X2_read_97b
  refine vr_let (fun _ => ?_)
  refine vr_if ?_ ?_
  · exact vk_X2_read_124 ox0 ox1 hs
  · refine vr_cl (fun _ _ e => (by rw [ve_X4_well e]; exact hs)) (fun _ h hs => ?_)
    refine vr_if ?_ ?_
    · exact vk_X2_read_124 ox0 ox1 hs
    · refine vr_cl (fun _ _ e => (let q := vk_X2_readTexture hs.2 ox0 ox1 e; ⟨hs.1.trans (q.1.weak (by decide) (by decide) (by decide)), q.2⟩)) (fun _ h hs => ?_)
      exact hk97 ox0 ox1 hs
theorem vk_X2_read_97 {O : Nat → Prop} {z0 : vt_S} : ∀ (n : Nat) {x0 : Nat} {x1 : Nat} {x2 : Int32} {h : vt_S}, O x0 → O x1 → vw [309, 310, 311, 312, 501, 502, 503, 700, 701, 702, 703, 704, 705, 706, 800, 801, 802, 803, 1200, 1201, 1202, 1203, 1204, 1205, 1206, 1207, 1208, 1209, 1210] [302, 303, 304, 305, 306, 1211] [] O z0 h → vfr (vw [309, 310, 311, 312, 501, 502, 503, 700, 701, 702, 703, 704, 705, 706, 800, 801, 802, 803, 1200, 1201, 1202, 1203, 1204, 1205, 1206, 1207, 1208, 1209, 1210] [302, 303, 304, 305, 306, 1211] [] O) z0 (ab_X2_read_97 n x0 x1 x2 h) := by
  intro n
  induction n with
  | zero => intro x0 x1 x2 h ox0 ox1 hs; exact vr_no
  | succ n ih => intro x0 x1 x2 h ox0 ox1 hs; exact vk_X2_read_97b (fun ox0 ox1 hs => ih ox0 ox1 hs) ox0 ox1 hs
theorem vk_X2_read_95 {O : Nat → Prop} {z0 : vt_S} {x0 : Nat} {x1 : Nat} {h : vt_S} (ox0 : O x0) (ox1 : O x1) (hs : vw [309, 310, 311, 312, 501, 502, 503, 700, 701, 702, 703, 704, 705, 706, 800, 801, 802, 803, 1200, 1201, 1202, 1203, 1204, 1205, 1206, 1207, 1208, 1209, 1210] [302, 303, 304, 305, 306, 1211] [] O z0 h) : vfr (vw [309, 310, 311, 312, 501, 502, 503, 700, 701, 702, 703, 704, 705, 706, 800, 801, 802, 803, 1200, 1201, 1202, 1203, 1204, 1205, 1206, 1207, 1208, 1209, 1210] [302, 303, 304, 305, 306, 1211] [] O) z0 (ab_X2_read_95 x0 x1 h) := by
  unfold ab_X2_read_95
  exact vk_X2_read_97 sv_fuel ox0 ox1 hs
theorem vk_X2_read_68b {O : Nat → Prop} {z0 : vt_S} {k68 : Nat → Nat → Int32 → vt_S → Option (Unit × vt_S)} (hk68 : ∀ {x0 : Nat} {x1 : Nat} {x2 : Int32} {h : vt_S}, O x0 → O x1 → vw [309, 310, 311, 312, 501, 502, 503, 700, 701, 702, 703, 704, 705, 706, 800, 801, 802, 803, 1200, 1201, 1202, 1203, 1204, 1205, 1206, 1207, 1208, 1209, 1210] [302, 303, 304, 305, 306, 1211] [] O z0 h → vfr (vw [309, 310, 311, 312, 501, 502, 503, 700, 701, 702, 703, 704, 705, 706, 800, 801, 802, 803, 1200, 1201, 1202, 1203, 1204, 1205, 1206, 1207, 1208, 1209, 1210] [302, 303, 304, 305, 306, 1211] [] O) z0 (k68 x0 x1 x2 h)) {x0 : Nat} {x1 : Nat} {x2 : Int32} {h : vt_S} (ox0 : O x0) (ox1 : O x1) (hs : vw [309, 310, 311, 312, 501, 502, 503, 700, 701, 702, 703, 704, 705, 706, 800, 801, 802, 803, 1200, 1201, 1202, 1203, 1204, 1205, 1206, 1207, 1208, 1209, 1210] [302, 303, 304, 305, 306, 1211] [] O z0 h) : vfr (vw [309, 310, 311, 312, 501, 502, 503, 700, 701, 702, 703, 704, 705, 706, 800, 801, 802, 803, 1200, 1201, 1202, 1203, 1204, 1205, 1206, 1207, 1208, 1209, 1210] [302, 303, 304, 305, 306, 1211] [] O) z0 (ab_X2_read_68b k68 x0 x1 x2 h) := by
  unfold ab_X2_read_68b
  refine vr_let (fun _ => ?_)
  refine vr_if ?_ ?_
  · exact vk_X2_read_95 ox0 ox1 hs
  · refine vr_cl (fun _ _ e => (by rw [ve_X4_well e]; exact hs)) (fun _ h hs => ?_)
    refine vr_if ?_ ?_
    · exact vk_X2_read_95 ox0 ox1 hs
    · refine vr_cl (fun _ _ e => (let q := vk_X2_readVertex hs.2 ox0 ox1 e; ⟨hs.1.trans (q.1.weak (by decide) (by decide) (by decide)), q.2⟩)) (fun _ h hs => ?_)
      exact hk68 ox0 ox1 hs
theorem vk_X2_read_68 {O : Nat → Prop} {z0 : vt_S} : ∀ (n : Nat) {x0 : Nat} {x1 : Nat} {x2 : Int32} {h : vt_S}, O x0 → O x1 → vw [309, 310, 311, 312, 501, 502, 503, 700, 701, 702, 703, 704, 705, 706, 800, 801, 802, 803, 1200, 1201, 1202, 1203, 1204, 1205, 1206, 1207, 1208, 1209, 1210] [302, 303, 304, 305, 306, 1211] [] O z0 h → vfr (vw [309, 310, 311, 312, 501, 502, 503, 700, 701, 702, 703, 704, 705, 706, 800, 801, 802, 803, 1200, 1201, 1202, 1203, 1204, 1205, 1206, 1207, 1208, 1209, 1210] [302, 303, 304, 305, 306, 1211] [] O) z0 (ab_X2_read_68 n x0 x1 x2 h) := by
  intro n
  induction n with
  | zero => intro x0 x1 x2 h ox0 ox1 hs; exact vr_no
  | succ n ih => intro x0 x1 x2 h ox0 ox1 hs; exact vk_X2_read_68b (fun ox0 ox1 hs => ih ox0 ox1 hs) ox0 ox1 hs
theorem vk_X2_read_0 {O : Nat → Prop} {z0 : vt_S} {x0 : Nat} {x1 : Nat} {h : vt_S} (ox0 : O x0) (ox1 : O x1) (hs : vw [309, 310, 311, 312, 501, 502, 503, 700, 701, 702, 703, 704, 705, 706, 800, 801, 802, 803, 1200, 1201, 1202, 1203, 1204, 1205, 1206, 1207, 1208, 1209, 1210] [302, 303, 304, 305, 306, 1211] [] O z0 h) : vfr (vw [309, 310, 311, 312, 501, 502, 503, 700, 701, 702, 703, 704, 705, 706, 800, 801, 802, 803, 1200, 1201, 1202, 1203, 1204, 1205, 1206, 1207, 1208, 1209, 1210] [302, 303, 304, 305, 306, 1211] [] O) z0 (ab_X2_read x0 x1 h) := by
  unfold ab_X2_read
  refine vr_cl (fun _ _ e => (let q := vk_X4_expect hs.2 ox1 e; ⟨hs.1.trans (q.1.weak (by decide) (by decide) (by decide)), q.2⟩)) (fun _ h hs => ?_)
  refine vr_cl (fun _ _ e => (let q := vk_X4_expect hs.2 ox1 e; ⟨hs.1.trans (q.1.weak (by decide) (by decide) (by decide)), q.2⟩)) (fun _ h hs => ?_)
  refine vr_cl (fun _ _ e => (let q := vk_X4_expect hs.2 ox1 e; ⟨hs.1.trans (q.1.weak (by decide) (by decide) (by decide)), q.2⟩)) (fun _ h hs => ?_)
  refine vr_cl (fun _ _ e => (let q := vk_X4_within hs.2 ox1 e; ⟨hs.1.trans (q.1.weak (by decide) (by decide) (by decide)), q.2⟩)) (fun _ h hs => ?_)
  refine vr_I hs (by decide) ox0 (fun h hs => ?_)
  refine vr_cl (fun _ _ e => (let q := vk_X4_within hs.2 ox1 e; ⟨hs.1.trans (q.1.weak (by decide) (by decide) (by decide)), q.2⟩)) (fun _ h hs => ?_)
  refine vr_I hs (by decide) ox0 (fun h hs => ?_)
  refine vr_cl (fun _ _ e => (let q := vk_X4_within hs.2 ox1 e; ⟨hs.1.trans (q.1.weak (by decide) (by decide) (by decide)), q.2⟩)) (fun _ h hs => ?_)
  refine vr_I hs (by decide) ox0 (fun h hs => ?_)
  refine vr_cl (fun _ _ e => (let q := vk_X4_within hs.2 ox1 e; ⟨hs.1.trans (q.1.weak (by decide) (by decide) (by decide)), q.2⟩)) (fun _ h hs => ?_)
  refine vr_I hs (by decide) ox0 (fun h hs => ?_)
  exact vk_X2_read_68 sv_fuel ox0 ox1 hs
theorem vk_X2_read {O : Nat → Prop} {x0 : Nat} {x1 : Nat} {h : vt_S} {r : Unit} {s : vt_S} (c : vcl O h) (ox0 : O x0) (ox1 : O x1) (e : ab_X2_read x0 x1 h = some (r, s)) : vw [309, 310, 311, 312, 501, 502, 503, 700, 701, 702, 703, 704, 705, 706, 800, 801, 802, 803, 1200, 1201, 1202, 1203, 1204, 1205, 1206, 1207, 1208, 1209, 1210] [302, 303, 304, 305, 306, 1211] [] O h s := vk_X2_read_0 ox0 ox1 ⟨vk.refl h, c⟩ r s e

theorem vk_X12_swapPlans_0 {O : Nat → Prop} {z0 : vt_S} {x0 : Nat} {h : vt_S} (ox0 : O x0) (hs : vw [1306, 1307] [] [] O z0 h) : vfr (vw [1306, 1307] [] [] O) z0 (ab_X12_swapPlans x0 h) := by
  unfold ab_X12_swapPlans
  refine vr_gP hs ox0 (fun v1 ov1 => ?_)
  refine vr_gP hs ox0 (fun v2 ov2 => ?_)
  refine vr_P hs (by decide) ox0 ov2 (fun h hs => ?_)
  refine vr_P hs (by decide) ox0 ov1 (fun h hs => ?_)
  exact vr_rt hs
theorem vk_X12_swapPlans {O : Nat → Prop} {x0 : Nat} {h : vt_S} {r : Unit} {s : vt_S} (c : vcl O h) (ox0 : O x0) (e : ab_X12_swapPlans x0 h = some (r, s)) : vw [1306, 1307] [] [] O h s := vk_X12_swapPlans_0 ox0 ⟨vk.refl h, c⟩ r s e

theorem vk_X0_become_0 {O : Nat → Prop} {z0 : vt_S} {x0 : Nat} {x1 : Nat} {h : vt_S} (ox0 : O x0) (ox1 : O x1) (hs : vw [101] [100] [100] O z0 h) : vfr (vw [101] [100] [100] O) z0 (ab_X0_become x0 x1 h) := by
  unfold ab_X0_become
  refine vr_let (fun _ => ?_)
  refine vr_cl (fun _ _ e => (let q := vk_X0_makeRoom hs.2 ox0 e; ⟨hs.1.trans (q.1.weak (by decide) (by decide) (by decide)), q.2⟩)) (fun _ h hs => ?_)
  refine vr_let (fun _ => ?_)
  refine vr_cp hs (by decide) ox0 (fun h hs => ?_)
  refine vr_let (fun _ => ?_)
  refine vr_I hs (by decide) ox0 (fun h hs => ?_)
  exact vr_rt hs
theorem vk_X0_become {O : Nat → Prop} {x0 : Nat} {x1 : Nat} {h : vt_S} {r : Unit} {s : vt_S} (c : vcl O h) (ox0 : O x0) (ox1 : O x1) (e : ab_X0_become x0 x1 h = some (r, s)) : vw [101] [100] [100] O h s := vk_X0_become_0 ox0 ox1 ⟨vk.refl h, c⟩ r s e

theorem vk_X1_makeRoom_0 {O : Nat → Prop} {z0 : vt_S} {x0 : Nat} {x1 : Int32} {h : vt_S} (ox0 : O x0) (hs : vw [] [200, 201, 202, 203, 204, 205] [200, 201, 202, 203, 204, 205] O z0 h) : vfr (vw [] [200, 201, 202, 203, 204, 205] [200, 201, 202, 203, 204, 205] O) z0 (ab_X1_makeRoom x0 x1 h) := by
  unfold ab_X1_makeRoom
  refine vr_gI hs (by decide) (by decide) ox0 (fun h hs => ?_)
  refine vr_gI hs (by decide) (by decide) ox0 (fun h hs => ?_)
  refine vr_gJ hs (by decide) (by decide) ox0 (fun h hs => ?_)
  refine vr_gJ hs (by decide) (by decide) ox0 (fun h hs => ?_)
  refine vr_gJ hs (by decide) (by decide) ox0 (fun h hs => ?_)
  refine vr_gJ hs (by decide) (by decide) ox0 (fun h hs => ?_)
  exact vr_rt hs
theorem vk_X1_makeRoom {O : Nat → Prop} {x0 : Nat} {x1 : Int32} {h : vt_S} {r : Unit} {s : vt_S} (c : vcl O h) (ox0 : O x0) (e : ab_X1_makeRoom x0 x1 h = some (r, s)) : vw [] [200, 201, 202, 203, 204, 205] [200, 201, 202, 203, 204, 205] O h s := vk_X1_makeRoom_0 ox0 ⟨vk.refl h, c⟩ r s e

theorem vk_X1_add_22 {O : Nat → Prop} {z0 : vt_S} {x0 : Nat} {x1 : Int32} {h : vt_S} (ox0 : O x0) (hs : vw [206] [200, 201, 202, 203, 204, 205] [200, 201, 202, 203, 204, 205] O z0 h) : vfr (vw [206] [200, 201, 202, 203, 204, 205] [200, 201, 202, 203, 204, 205] O) z0 (ab_X1_add_22 x0 x1 h) := by
  unfold ab_X1_add_22
  refine vr_let (fun _ => ?_)
  refine vr_sI hs (by decide) ox0 (fun h hs => ?_)
  refine vr_sI hs (by decide) ox0 (fun h hs => ?_)
  refine vr_sJ hs (by decide) ox0 (fun h hs => ?_)
  refine vr_sJ hs (by decide) ox0 (fun h hs => ?_)
  refine vr_sJ hs (by decide) ox0 (fun h hs => ?_)
  refine vr_sJ hs (by decide) ox0 (fun h hs => ?_)
  refine vr_let (fun _ => ?_)
  refine vr_I hs (by decide) ox0 (fun h hs => ?_)
  exact vr_rt hs
theorem vk_X1_add_0 {O : Nat → Prop} {z0 : vt_S} {x0 : Nat} {x1 : Int32} {h : vt_S} (ox0 : O x0) (hs : vw [206] [200, 201, 202, 203, 204, 205] [200, 201, 202, 203, 204, 205] O z0 h) : vfr (vw [206] [200, 201, 202, 203, 204, 205] [200, 201, 202, 203, 204, 205] O) z0 (ab_X1_add x0 x1 h) := by
  unfold ab_X1_add
  refine vr_let (fun _ => ?_)
  refine vr_let (fun _ => ?_)
  refine vr_if ?_ ?_
  · refine vr_let (fun _ => ?_)
    refine vr_cl (fun _ _ e => (let q := vk_X1_makeRoom hs.2 ox0 e; ⟨hs.1.trans (q.1.weak (by decide) (by decide) (by decide)), q.2⟩)) (fun _ h hs => ?_)
    exact vk_X1_add_22 ox0 hs
  · exact vk_X1_add_22 ox0 hs
theorem vk_X1_add {O : Nat → Prop} {x0 : Nat} {x1 : Int32} {h : vt_S} {r : Int32} {s : vt_S} (c : vcl O h) (ox0 : O x0) (e : ab_X1_add x0 x1 h = some (r, s)) : vw [206] [200, 201, 202, 203, 204, 205] [200, 201, 202, 203, 204, 205] O h s := vk_X1_add_0 ox0 ⟨vk.refl h, c⟩ r s e

theorem vk_X1_chainWhole_53 {O : Nat → Prop} {z0 : vt_S} {s0 : Int32} {h : vt_S} (hs : vw [206] [200, 201, 202, 203, 204, 205] [200, 201, 202, 203, 204, 205] O z0 h) : vfr (vw [206] [200, 201, 202, 203, 204, 205] [200, 201, 202, 203, 204, 205] O) z0 (ab_X1_chainWhole_53 s0 h) := by
  unfold ab_X1_chainWhole_53
  exact vr_rt hs
theorem vk_X1_chainWhole_37 {O : Nat → Prop} {z0 : vt_S} {k7 : Nat → Int32 → Int32 → vt_S → Option (Int32 × vt_S)} (hk7 : ∀ {x0 : Nat} {x1 : Int32} {x2 : Int32} {h : vt_S}, O x0 → vw [206] [200, 201, 202, 203, 204, 205] [200, 201, 202, 203, 204, 205] O z0 h → vfr (vw [206] [200, 201, 202, 203, 204, 205] [200, 201, 202, 203, 204, 205] O) z0 (k7 x0 x1 x2 h)) {x0 : Nat} {x1 : Int32} {x2 : Int32} {s0 : Nat} {s1 : Int32} {s2 : Int32} {h : vt_S} (ox0 : O x0) (os0 : O s0) (hs : vw [206] [200, 201, 202, 203, 204, 205] [200, 201, 202, 203, 204, 205] O z0 h) : vfr (vw [206] [200, 201, 202, 203, 204, 205] [200, 201, 202, 203, 204, 205] O) z0 (ab_X1_chainWhole_37 k7 x0 x1 x2 s0 s1 s2 h) := by
  unfold ab_X1_chainWhole_37
  refine vr_sI hs (by decide) os0 (fun h hs => ?_)
  exact hk7 ox0 hs
theorem vk_X1_chainWhole_7b {O : Nat → Prop} {z0 : vt_S} {k7 : Nat → Int32 → Int32 → vt_S → Option (Int32 × vt_S)} (hk7 : ∀ {x0 : Nat} {x1 : Int32} {x2 : Int32} {h : vt_S}, O x0 → vw [206] [200, 201, 202, 203, 204, 205] [200, 201, 202, 203, 204, 205] O z0 h → vfr (vw [206] [200, 201, 202, 203, 204, 205] [200, 201, 202, 203, 204, 205] O) z0 (k7 x0 x1 x2 h)) {x0 : Nat} {x1 : Int32} {x2 : Int32} {h : vt_S} (ox0 : O x0) (hs : vw [206] [200, 201, 202, 203, 204, 205] [200, 201, 202, 203, 204, 205] O z0 h) : vfr (vw [206] [200, 201, 202, 203, 204, 205] [200, 201, 202, 203, 204, 205] O) z0 (ab_X1_chainWhole_7b k7 x0 x1 x2 h) := by
  unfold ab_X1_chainWhole_7b
  refine vr_if ?_ ?_
  · refine vr_if ?_ ?_
    · exact vk_X1_chainWhole_53 hs
    · exact vk_X1_chainWhole_53 hs
  · refine vr_cl (fun _ _ e => (let q := vk_X1_add hs.2 ox0 e; ⟨hs.1.trans (q.1.weak (by decide) (by decide) (by decide)), q.2⟩)) (fun _ h hs => ?_)
    refine vr_if ?_ ?_
    · exact vk_X1_chainWhole_37 hk7 ox0 ox0 hs
    · exact vk_X1_chainWhole_37 hk7 ox0 ox0 hs
theorem vk_X1_chainWhole_7 {O : Nat → Prop} {z0 : vt_S} : ∀ (n : Nat) {x0 : Nat} {x1 : Int32} {x2 : Int32} {h : vt_S}, O x0 → vw [206] [200, 201, 202, 203, 204, 205] [200, 201, 202, 203, 204, 205] O z0 h → vfr (vw [206] [200, 201, 202, 203, 204, 205] [200, 201, 202, 203, 204, 205] O) z0 (ab_X1_chainWhole_7 n x0 x1 x2 h) := by
  intro n
  induction n with
  | zero => intro x0 x1 x2 h ox0 hs; exact vr_no
  | succ n ih => intro x0 x1 x2 h ox0 hs; exact vk_X1_chainWhole_7b (fun ox0 hs => ih ox0 hs) ox0 hs
theorem vk_X1_chainWhole_0 {O : Nat → Prop} {z0 : vt_S} {x0 : Nat} {x1 : Int32} {h : vt_S} (ox0 : O x0) (hs : vw [206] [200, 201, 202, 203, 204, 205] [200, 201, 202, 203, 204, 205] O z0 h) : vfr (vw [206] [200, 201, 202, 203, 204, 205] [200, 201, 202, 203, 204, 205] O) z0 (ab_X1_chainWhole x0 x1 h) := by
  unfold ab_X1_chainWhole
  refine vr_I hs (by decide) ox0 (fun h hs => ?_)
  exact vk_X1_chainWhole_7 sv_fuel ox0 hs
theorem vk_X1_chainWhole {O : Nat → Prop} {x0 : Nat} {x1 : Int32} {h : vt_S} {r : Int32} {s : vt_S} (c : vcl O h) (ox0 : O x0) (e : ab_X1_chainWhole x0 x1 h = some (r, s)) : vw [206] [200, 201, 202, 203, 204, 205] [200, 201, 202, 203, 204, 205] O h s := vk_X1_chainWhole_0 ox0 ⟨vk.refl h, c⟩ r s e

theorem vk_X8_open_50 {O : Nat → Prop} {z0 : vt_S} {h : vt_S} (hs : vw [910] [907, 908, 909] [] O z0 h) : vfr (vw [910] [907, 908, 909] [] O) z0 (ab_X8_open_50 h) := by
  unfold ab_X8_open_50
  exact vr_rt hs
theorem vk_X8_open_0 {O : Nat → Prop} {z0 : vt_S} {x0 : Nat} {x1 : Int32} {x2 : Int32} {x3 : Int32} {h : vt_S} (ox0 : O x0) (hs : vw [910] [907, 908, 909] [] O z0 h) : vfr (vw [910] [907, 908, 909] [] O) z0 (ab_X8_open x0 x1 x2 x3 h) := by
  unfold ab_X8_open
  refine vr_let (fun _ => ?_)
  refine vr_if ?_ ?_
  · exact vk_X8_open_50 hs
  · refine vr_let (fun _ => ?_)
    refine vr_sI hs (by decide) ox0 (fun h hs => ?_)
    refine vr_let (fun _ => ?_)
    refine vr_sI hs (by decide) ox0 (fun h hs => ?_)
    refine vr_let (fun _ => ?_)
    refine vr_sI hs (by decide) ox0 (fun h hs => ?_)
    refine vr_let (fun _ => ?_)
    refine vr_I hs (by decide) ox0 (fun h hs => ?_)
    exact vk_X8_open_50 hs
theorem vk_X8_open {O : Nat → Prop} {x0 : Nat} {x1 : Int32} {x2 : Int32} {x3 : Int32} {h : vt_S} {r : Unit} {s : vt_S} (c : vcl O h) (ox0 : O x0) (e : ab_X8_open x0 x1 x2 x3 h = some (r, s)) : vw [910] [907, 908, 909] [] O h s := vk_X8_open_0 ox0 ⟨vk.refl h, c⟩ r s e

theorem vk_X8_hang_27 {O : Nat → Prop} {z0 : vt_S} {h : vt_S} (hs : vw [] [902, 903] [] O z0 h) : vfr (vw [] [902, 903] [] O) z0 (ab_X8_hang_27 h) := by
  unfold ab_X8_hang_27
  exact vr_rt hs
theorem vk_X8_hang_0 {O : Nat → Prop} {z0 : vt_S} {x0 : Nat} {x1 : Int32} {x2 : Int32} {x3 : Int32} {h : vt_S} (ox0 : O x0) (hs : vw [] [902, 903] [] O z0 h) : vfr (vw [] [902, 903] [] O) z0 (ab_X8_hang x0 x1 x2 x3 h) := by
  unfold ab_X8_hang
  refine vr_if ?_ ?_
  · exact vr_rt hs
  · refine vr_if ?_ ?_
    · refine vr_sI hs (by decide) ox0 (fun h hs => ?_)
      exact vk_X8_hang_27 hs
    · refine vr_sI hs (by decide) ox0 (fun h hs => ?_)
      exact vk_X8_hang_27 hs
theorem vk_X8_hang {O : Nat → Prop} {x0 : Nat} {x1 : Int32} {x2 : Int32} {x3 : Int32} {h : vt_S} {r : Unit} {s : vt_S} (c : vcl O h) (ox0 : O x0) (e : ab_X8_hang x0 x1 x2 x3 h = some (r, s)) : vw [] [902, 903] [] O h s := vk_X8_hang_0 ox0 ⟨vk.refl h, c⟩ r s e

theorem ve_X12_compareQuotients_160 {z0 : vt_S} {h : vt_S} (hs : veq z0 h) : vfr veq z0 (ab_X12_compareQuotients_160 h) := by
  unfold ab_X12_compareQuotients_160
  exact vr_rt hs
theorem ve_X12_compareQuotients_137 {z0 : vt_S} {s0 : Int32} {h : vt_S} (hs : veq z0 h) : vfr veq z0 (ab_X12_compareQuotients_137 s0 h) := by
  unfold ab_X12_compareQuotients_137
  exact vr_rt hs
theorem ve_X12_compareQuotients_125 {z0 : vt_S} {x21 : Int64} {h : vt_S} (hs : veq z0 h) : vfr veq z0 (ab_X12_compareQuotients_125 x21 h) := by
  unfold ab_X12_compareQuotients_125
  refine vr_if ?_ ?_
  · exact ve_X12_compareQuotients_137 hs
  · exact ve_X12_compareQuotients_137 hs
theorem ve_X12_compareQuotients_111 {z0 : vt_S} {k17 : Int64 → Int64 → Int64 → Int64 → Int32 → vt_S → Option (Int32 × vt_S)} (hk17 : ∀ {x8 : Int64} {x10 : Int64} {x12 : Int64} {x14 : Int64} {x16 : Int32} {h : vt_S}, veq z0 h → vfr veq z0 (k17 x8 x10 x12 x14 x16 h)) {x10 : Int64} {x14 : Int64} {x16 : Int32} {x21 : Int64} {x23 : Int64} {h : vt_S} (hs : veq z0 h) : vfr veq z0 (ab_X12_compareQuotients_111 k17 x10 x14 x16 x21 x23 h) := by
  unfold ab_X12_compareQuotients_111
  refine vr_if ?_ ?_
  · exact ve_X12_compareQuotients_125 hs
  · refine vr_if ?_ ?_
    · exact ve_X12_compareQuotients_125 hs
    · exact hk17 hs
theorem ve_X12_compareQuotients_74 {z0 : vt_S} {s0 : Int32} {h : vt_S} (hs : veq z0 h) : vfr veq z0 (ab_X12_compareQuotients_74 s0 h) := by
  unfold ab_X12_compareQuotients_74
  exact vr_rt hs
theorem ve_X12_compareQuotients_17b {z0 : vt_S} {k17 : Int64 → Int64 → Int64 → Int64 → Int32 → vt_S → Option (Int32 × vt_S)} (hk17 : ∀ {x8 : Int64} {x10 : Int64} {x12 : Int64} {x14 : Int64} {x16 : Int32} {h : vt_S}, veq z0 h → vfr veq z0 (k17 x8 x10 x12 x14 x16 h)) {x8 : Int64} {x10 : Int64} {x12 : Int64} {x14 : Int64} {x16 : Int32} {h : vt_S} (hs : veq z0 h) : vfr veq z0 (ab_X12_compareQuotients_17b k17 x8 x10 x12 x14 x16 h) := by
  unfold ab_X12_compareQuotients_17b
  refine vr_if ?_ ?_
  · exact ve_X12_compareQuotients_160 hs
  · refine vr_if ?_ ?_
    · exact ve_X12_compareQuotients_160 hs
    · refine vr_if ?_ ?_
      · exact ve_X12_compareQuotients_160 hs
      · refine vr_if vr_no ?_
        refine vr_if vr_no ?_
        refine vr_if ?_ ?_
        · refine vr_if ?_ ?_
          · refine vr_if ?_ ?_
            · exact vr_rt hs
            · exact ve_X12_compareQuotients_111 hk17 hs
          · exact ve_X12_compareQuotients_111 hk17 hs
        · refine vr_if ?_ ?_
          · exact ve_X12_compareQuotients_74 hs
          · exact ve_X12_compareQuotients_74 hs
theorem ve_X12_compareQuotients_17 {z0 : vt_S} : ∀ (n : Nat) {x8 : Int64} {x10 : Int64} {x12 : Int64} {x14 : Int64} {x16 : Int32} {h : vt_S}, veq z0 h → vfr veq z0 (ab_X12_compareQuotients_17 n x8 x10 x12 x14 x16 h) := by
  intro n
  induction n with
  | zero => intro x8 x10 x12 x14 x16 h hs; exact vr_no
  | succ n ih => intro x8 x10 x12 x14 x16 h hs; exact ve_X12_compareQuotients_17b (fun hs => ih hs) hs
theorem ve_X12_compareQuotients_0 {z0 : vt_S} {x0 : Int64} {x2 : Int64} {x4 : Int64} {x6 : Int64} {h : vt_S} (hs : veq z0 h) : vfr veq z0 (ab_X12_compareQuotients x0 x2 x4 x6 h) := by
  unfold ab_X12_compareQuotients
  exact ve_X12_compareQuotients_17 sv_fuel hs
theorem ve_X12_compareQuotients {x0 : Int64} {x2 : Int64} {x4 : Int64} {x6 : Int64} {h : vt_S} {r : Int32} {s : vt_S} (e : ab_X12_compareQuotients x0 x2 x4 x6 h = some (r, s)) : s = h := ve_X12_compareQuotients_0 rfl r s e

theorem ve_X1_sideAt_85 {z0 : vt_S} {s0 : Int32} {h : vt_S} (hs : veq z0 h) : vfr veq z0 (ab_X1_sideAt_85 s0 h) := by
  unfold ab_X1_sideAt_85
  exact vr_rt hs
theorem ve_X1_sideAt_82 {z0 : vt_S} {s0 : Int64} {h : vt_S} (hs : veq z0 h) : vfr veq z0 (ab_X1_sideAt_82 s0 h) := by
  unfold ab_X1_sideAt_82
  refine vr_cl (fun _ _ e => ((ve_J13_signum_95d88 e).trans hs)) (fun _ h hs => ?_)
  exact ve_X1_sideAt_85 hs
theorem ve_X1_sideAt_0 {z0 : vt_S} {x0 : Int64} {x2 : Int64} {x4 : Int64} {x6 : Int64} {h : vt_S} (hs : veq z0 h) : vfr veq z0 (ab_X1_sideAt x0 x2 x4 x6 h) := by
  unfold ab_X1_sideAt
  refine vr_if ?_ ?_
  · refine vr_cl (fun _ _ e => ((ve_J13_signum_95d88 e).trans hs)) (fun _ h hs => ?_)
    exact vr_rt hs
  · refine vr_if ?_ ?_
    · refine vr_cl (fun _ _ e => ((ve_J13_signum_95d88 e).trans hs)) (fun _ h hs => ?_)
      exact vr_rt hs
    · refine vr_cl (fun _ _ e => ((ve_J13_signum_95d88 e).trans hs)) (fun _ h hs => ?_)
      refine vr_cl (fun _ _ e => ((ve_J13_signum_95d88 e).trans hs)) (fun _ h hs => ?_)
      refine vr_if ?_ ?_
      · refine vr_let (fun _ => ?_)
        refine vr_let (fun _ => ?_)
        refine vr_cl (fun _ _ e => ((ve_X12_compareQuotients e).trans hs)) (fun _ h hs => ?_)
        refine vr_if ?_ ?_
        · exact ve_X1_sideAt_85 hs
        · refine vr_if ?_ ?_
          · exact ve_X1_sideAt_82 hs
          · exact ve_X1_sideAt_82 hs
      · refine vr_cl (fun _ _ e => ((ve_J13_signum_95d88 e).trans hs)) (fun _ h hs => ?_)
        exact vr_rt hs
theorem ve_X1_sideAt {x0 : Int64} {x2 : Int64} {x4 : Int64} {x6 : Int64} {h : vt_S} {r : Int32} {s : vt_S} (e : ab_X1_sideAt x0 x2 x4 x6 h = some (r, s)) : s = h := ve_X1_sideAt_0 rfl r s e

theorem ve_X1_lieOf_107 {z0 : vt_S} {s0 : Int32} {h : vt_S} (hs : veq z0 h) : vfr veq z0 (ab_X1_lieOf_107 s0 h) := by
  unfold ab_X1_lieOf_107
  exact vr_rt hs
theorem ve_X1_lieOf_0 {z0 : vt_S} {x0 : Nat} {x1 : Nat} {x2 : Int32} {x3 : Nat} {h : vt_S} (hs : veq z0 h) : vfr veq z0 (ab_X1_lieOf x0 x1 x2 x3 h) := by
  unfold ab_X1_lieOf
  refine vr_bd (fun _ => ?_)
  refine vr_bd (fun _ => ?_)
  refine vr_let (fun _ => ?_)
  refine vr_let (fun _ => ?_)
  refine vr_cl (fun _ _ e => ((ve_X11_sideOf e).trans hs)) (fun _ h hs => ?_)
  refine vr_let (fun _ => ?_)
  refine vr_let (fun _ => ?_)
  refine vr_cl (fun _ _ e => ((ve_X11_sideOf e).trans hs)) (fun _ h hs => ?_)
  refine vr_bd (fun _ => ?_)
  refine vr_bd (fun _ => ?_)
  refine vr_cl (fun _ _ e => ((ve_X1_sideAt e).trans hs)) (fun _ h hs => ?_)
  refine vr_bd (fun _ => ?_)
  refine vr_bd (fun _ => ?_)
  refine vr_cl (fun _ _ e => ((ve_X1_sideAt e).trans hs)) (fun _ h hs => ?_)
  refine vr_if ?_ ?_
  · refine vr_cl (fun _ _ e => ((ve_J6_signum_0f7a4 e).trans hs)) (fun _ h hs => ?_)
    exact ve_X1_lieOf_107 hs
  · exact ve_X1_lieOf_107 hs
theorem ve_X1_lieOf {x0 : Nat} {x1 : Nat} {x2 : Int32} {x3 : Nat} {h : vt_S} {r : Int32} {s : vt_S} (e : ab_X1_lieOf x0 x1 x2 x3 h = some (r, s)) : s = h := ve_X1_lieOf_0 rfl r s e

theorem ve_X8_costOf_76 {z0 : vt_S} {x4 : Int32} {x5 : Int32} {h : vt_S} (hs : veq z0 h) : vfr veq z0 (ab_X8_costOf_76 x4 x5 h) := by
  unfold ab_X8_costOf_76
  refine vr_let (fun _ => ?_)
  exact vr_rt hs
theorem ve_X8_costOf_58 {z0 : vt_S} {k12 : Nat → Nat → Nat → Int32 → Int32 → Int32 → Int32 → vt_S → Option (Int32 × vt_S)} (hk12 : ∀ {x0 : Nat} {x1 : Nat} {x3 : Nat} {x4 : Int32} {x5 : Int32} {x6 : Int32} {x7 : Int32} {h : vt_S}, veq z0 h → vfr veq z0 (k12 x0 x1 x3 x4 x5 x6 x7 h)) {x0 : Nat} {x1 : Nat} {x3 : Nat} {x4 : Int32} {x5 : Int32} {x6 : Int32} {x7 : Int32} {h : vt_S} (hs : veq z0 h) : vfr veq z0 (ab_X8_costOf_58 k12 x0 x1 x3 x4 x5 x6 x7 h) := by
  unfold ab_X8_costOf_58
  refine vr_let (fun _ => ?_)
  refine vr_bd (fun _ => ?_)
  exact hk12 hs
theorem ve_X8_costOf_12b {z0 : vt_S} {k12 : Nat → Nat → Nat → Int32 → Int32 → Int32 → Int32 → vt_S → Option (Int32 × vt_S)} (hk12 : ∀ {x0 : Nat} {x1 : Nat} {x3 : Nat} {x4 : Int32} {x5 : Int32} {x6 : Int32} {x7 : Int32} {h : vt_S}, veq z0 h → vfr veq z0 (k12 x0 x1 x3 x4 x5 x6 x7 h)) {x0 : Nat} {x1 : Nat} {x3 : Nat} {x4 : Int32} {x5 : Int32} {x6 : Int32} {x7 : Int32} {h : vt_S} (hs : veq z0 h) : vfr veq z0 (ab_X8_costOf_12b k12 x0 x1 x3 x4 x5 x6 x7 h) := by
  unfold ab_X8_costOf_12b
  refine vr_if ?_ ?_
  · exact ve_X8_costOf_76 hs
  · refine vr_if ?_ ?_
    · exact ve_X8_costOf_76 hs
    · refine vr_let (fun _ => ?_)
      refine vr_cl (fun _ _ e => ((ve_X1_lieOf e).trans hs)) (fun _ h hs => ?_)
      refine vr_if ?_ ?_
      · exact ve_X8_costOf_58 hk12 hs
      · exact ve_X8_costOf_58 hk12 hs
theorem ve_X8_costOf_12 {z0 : vt_S} : ∀ (n : Nat) {x0 : Nat} {x1 : Nat} {x3 : Nat} {x4 : Int32} {x5 : Int32} {x6 : Int32} {x7 : Int32} {h : vt_S}, veq z0 h → vfr veq z0 (ab_X8_costOf_12 n x0 x1 x3 x4 x5 x6 x7 h) := by
  intro n
  induction n with
  | zero => intro x0 x1 x3 x4 x5 x6 x7 h hs; exact vr_no
  | succ n ih => intro x0 x1 x3 x4 x5 x6 x7 h hs; exact ve_X8_costOf_12b (fun hs => ih hs) hs
theorem ve_X8_costOf_0 {z0 : vt_S} {x0 : Nat} {x1 : Nat} {x2 : Int32} {x3 : Nat} {h : vt_S} (hs : veq z0 h) : vfr veq z0 (ab_X8_costOf x0 x1 x2 x3 h) := by
  unfold ab_X8_costOf
  exact ve_X8_costOf_12 sv_fuel hs
theorem ve_X8_costOf {x0 : Nat} {x1 : Nat} {x2 : Int32} {x3 : Nat} {h : vt_S} {r : Int32} {s : vt_S} (e : ab_X8_costOf x0 x1 x2 x3 h = some (r, s)) : s = h := ve_X8_costOf_0 rfl r s e

theorem ve_X8_bestLine_96 {z0 : vt_S} {x3 : Int32} {h : vt_S} (hs : veq z0 h) : vfr veq z0 (ab_X8_bestLine_96 x3 h) := by
  unfold ab_X8_bestLine_96
  exact vr_rt hs
theorem ve_X8_bestLine_78 {z0 : vt_S} {k20 : Nat → Nat → Int32 → Int32 → Int32 → Int32 → Int32 → vt_S → Option (Int32 × vt_S)} (hk20 : ∀ {x0 : Nat} {x1 : Nat} {x2 : Int32} {x3 : Int32} {x4 : Int32} {x5 : Int32} {x6 : Int32} {h : vt_S}, veq z0 h → vfr veq z0 (k20 x0 x1 x2 x3 x4 x5 x6 h)) {x0 : Nat} {x1 : Nat} {x2 : Int32} {x3 : Int32} {x4 : Int32} {x5 : Int32} {x6 : Int32} {h : vt_S} (hs : veq z0 h) : vfr veq z0 (ab_X8_bestLine_78 k20 x0 x1 x2 x3 x4 x5 x6 h) := by
  unfold ab_X8_bestLine_78
  refine vr_let (fun _ => ?_)
  refine vr_bd (fun _ => ?_)
  exact hk20 hs
theorem ve_X8_bestLine_20b {z0 : vt_S} {k20 : Nat → Nat → Int32 → Int32 → Int32 → Int32 → Int32 → vt_S → Option (Int32 × vt_S)} (hk20 : ∀ {x0 : Nat} {x1 : Nat} {x2 : Int32} {x3 : Int32} {x4 : Int32} {x5 : Int32} {x6 : Int32} {h : vt_S}, veq z0 h → vfr veq z0 (k20 x0 x1 x2 x3 x4 x5 x6 h)) {x0 : Nat} {x1 : Nat} {x2 : Int32} {x3 : Int32} {x4 : Int32} {x5 : Int32} {x6 : Int32} {h : vt_S} (hs : veq z0 h) : vfr veq z0 (ab_X8_bestLine_20b k20 x0 x1 x2 x3 x4 x5 x6 h) := by
  unfold ab_X8_bestLine_20b
  refine vr_if ?_ ?_
  · exact ve_X8_bestLine_96 hs
  · refine vr_if ?_ ?_
    · exact ve_X8_bestLine_96 hs
    · refine vr_let (fun _ => ?_)
      refine vr_bd (fun _ => ?_)
      refine vr_bd (fun _ => ?_)
      refine vr_cl (fun _ _ e => ((ve_X8_costOf e).trans hs)) (fun _ h hs => ?_)
      refine vr_if ?_ ?_
      · exact ve_X8_bestLine_78 hk20 hs
      · refine vr_let (fun _ => ?_)
        refine vr_bd (fun _ => ?_)
        exact ve_X8_bestLine_78 hk20 hs
theorem ve_X8_bestLine_20 {z0 : vt_S} : ∀ (n : Nat) {x0 : Nat} {x1 : Nat} {x2 : Int32} {x3 : Int32} {x4 : Int32} {x5 : Int32} {x6 : Int32} {h : vt_S}, veq z0 h → vfr veq z0 (ab_X8_bestLine_20 n x0 x1 x2 x3 x4 x5 x6 h) := by
  intro n
  induction n with
  | zero => intro x0 x1 x2 x3 x4 x5 x6 h hs; exact vr_no
  | succ n ih => intro x0 x1 x2 x3 x4 x5 x6 h hs; exact ve_X8_bestLine_20b (fun hs => ih hs) hs
theorem ve_X8_bestLine_0 {z0 : vt_S} {x0 : Nat} {x1 : Nat} {x2 : Int32} {h : vt_S} (hs : veq z0 h) : vfr veq z0 (ab_X8_bestLine x0 x1 x2 h) := by
  unfold ab_X8_bestLine
  refine vr_let (fun _ => ?_)
  refine vr_bd (fun _ => ?_)
  exact ve_X8_bestLine_20 sv_fuel hs
theorem ve_X8_bestLine {x0 : Nat} {x1 : Nat} {x2 : Int32} {h : vt_S} {r : Int32} {s : vt_S} (e : ab_X8_bestLine x0 x1 x2 h = some (r, s)) : s = h := ve_X8_bestLine_0 rfl r s e

theorem vk_X8_makeRoom_0 {O : Nat → Prop} {z0 : vt_S} {x0 : Nat} {x1 : Int32} {h : vt_S} (ox0 : O x0) (hs : vw [] [901, 902, 903, 904, 905, 906] [901, 902, 903, 904, 905, 906] O z0 h) : vfr (vw [] [901, 902, 903, 904, 905, 906] [901, 902, 903, 904, 905, 906] O) z0 (ab_X8_makeRoom x0 x1 h) := by
  unfold ab_X8_makeRoom
  refine vr_gI hs (by decide) (by decide) ox0 (fun h hs => ?_)
  refine vr_gI hs (by decide) (by decide) ox0 (fun h hs => ?_)
  refine vr_gI hs (by decide) (by decide) ox0 (fun h hs => ?_)
  refine vr_gI hs (by decide) (by decide) ox0 (fun h hs => ?_)
  refine vr_gI hs (by decide) (by decide) ox0 (fun h hs => ?_)
  refine vr_gI hs (by decide) (by decide) ox0 (fun h hs => ?_)
  exact vr_rt hs
theorem vk_X8_makeRoom {O : Nat → Prop} {x0 : Nat} {x1 : Int32} {h : vt_S} {r : Unit} {s : vt_S} (c : vcl O h) (ox0 : O x0) (e : ab_X8_makeRoom x0 x1 h = some (r, s)) : vw [] [901, 902, 903, 904, 905, 906] [901, 902, 903, 904, 905, 906] O h s := vk_X8_makeRoom_0 ox0 ⟨vk.refl h, c⟩ r s e

theorem vk_X8_addNode_63 {O : Nat → Prop} {z0 : vt_S} {x0 : Nat} {x3 : Int32} {s0 : Nat} {s1 : Int32} {s2 : Int32} {h : vt_S} (ox0 : O x0) (os0 : O s0) (hs : vw [911] [901, 902, 903, 904, 905, 906] [901, 902, 903, 904, 905, 906] O z0 h) : vfr (vw [911] [901, 902, 903, 904, 905, 906] [901, 902, 903, 904, 905, 906] O) z0 (ab_X8_addNode_63 x0 x3 s0 s1 s2 h) := by
  unfold ab_X8_addNode_63
  refine vr_sI hs (by decide) os0 (fun h hs => ?_)
  refine vr_let (fun _ => ?_)
  refine vr_I hs (by decide) ox0 (fun h hs => ?_)
  exact vr_rt hs
theorem vk_X8_addNode_22 {O : Nat → Prop} {z0 : vt_S} {x0 : Nat} {x1 : Int32} {x2 : Int32} {h : vt_S} (ox0 : O x0) (hs : vw [911] [901, 902, 903, 904, 905, 906] [901, 902, 903, 904, 905, 906] O z0 h) : vfr (vw [911] [901, 902, 903, 904, 905, 906] [901, 902, 903, 904, 905, 906] O) z0 (ab_X8_addNode_22 x0 x1 x2 h) := by
  unfold ab_X8_addNode_22
  refine vr_let (fun _ => ?_)
  refine vr_sI hs (by decide) ox0 (fun h hs => ?_)
  refine vr_sI hs (by decide) ox0 (fun h hs => ?_)
  refine vr_if ?_ ?_
  · exact vk_X8_addNode_63 ox0 ox0 hs
  · refine vr_bd (fun _ => ?_)
    exact vk_X8_addNode_63 ox0 ox0 hs
theorem vk_X8_addNode_0 {O : Nat → Prop} {z0 : vt_S} {x0 : Nat} {x1 : Int32} {x2 : Int32} {h : vt_S} (ox0 : O x0) (hs : vw [911] [901, 902, 903, 904, 905, 906] [901, 902, 903, 904, 905, 906] O z0 h) : vfr (vw [911] [901, 902, 903, 904, 905, 906] [901, 902, 903, 904, 905, 906] O) z0 (ab_X8_addNode x0 x1 x2 h) := by
  unfold ab_X8_addNode
  refine vr_let (fun _ => ?_)
  refine vr_let (fun _ => ?_)
  refine vr_if ?_ ?_
  · refine vr_let (fun _ => ?_)
    refine vr_cl (fun _ _ e => (let q := vk_X8_makeRoom hs.2 ox0 e; ⟨hs.1.trans (q.1.weak (by decide) (by decide) (by decide)), q.2⟩)) (fun _ h hs => ?_)
    exact vk_X8_addNode_22 ox0 hs
  · exact vk_X8_addNode_22 ox0 hs
theorem vk_X8_addNode {O : Nat → Prop} {x0 : Nat} {x1 : Int32} {x2 : Int32} {h : vt_S} {r : Int32} {s : vt_S} (c : vcl O h) (ox0 : O x0) (e : ab_X8_addNode x0 x1 x2 h = some (r, s)) : vw [911] [901, 902, 903, 904, 905, 906] [901, 902, 903, 904, 905, 906] O h s := vk_X8_addNode_0 ox0 ⟨vk.refl h, c⟩ r s e

theorem vk_X1_cut_0 {O : Nat → Prop} {z0 : vt_S} {x0 : Nat} {x1 : Nat} {x2 : Int32} {x3 : Nat} {h : vt_S} (ox0 : O x0) (ox1 : O x1) (ox3 : O x3) (hs : vw [206] [200, 201, 202, 203, 204, 205] [200, 201, 202, 203, 204, 205] O z0 h) : vfr (vw [206] [200, 201, 202, 203, 204, 205] [200, 201, 202, 203, 204, 205] O) z0 (ab_X1_cut x0 x1 x2 x3 h) := by
  unfold ab_X1_cut
  refine vr_bd (fun _ => ?_)
  refine vr_lP hs ox1 (fun v4 ov4 => ?_)
  refine vr_let (fun _ => ?_)
  refine vr_let (fun _ => ?_)
  refine vr_cl (fun _ _ e => (by rw [ve_X11_sideOf e]; exact hs)) (fun _ h hs => ?_)
  refine vr_let (fun _ => ?_)
  refine vr_let (fun _ => ?_)
  refine vr_cl (fun _ _ e => (by rw [ve_X11_sideOf e]; exact hs)) (fun _ h hs => ?_)
  refine vr_bd (fun _ => ?_)
  refine vr_cl (fun _ _ e => (let q := vk_X1_add hs.2 ox0 e; ⟨hs.1.trans (q.1.weak (by decide) (by decide) (by decide)), q.2⟩)) (fun _ h hs => ?_)
  refine vr_let (fun _ => ?_)
  refine vr_sJ hs (by decide) ox0 (fun h hs => ?_)
  refine vr_let (fun _ => ?_)
  refine vr_sJ hs (by decide) ox0 (fun h hs => ?_)
  refine vr_bd (fun _ => ?_)
  refine vr_sJ hs (by decide) ox0 (fun h hs => ?_)
  refine vr_bd (fun _ => ?_)
  refine vr_sJ hs (by decide) ox0 (fun h hs => ?_)
  refine vr_bd (fun _ => ?_)
  refine vr_sJ hs (by decide) ox0 (fun h hs => ?_)
  refine vr_bd (fun _ => ?_)
  refine vr_sJ hs (by decide) ox0 (fun h hs => ?_)
  exact vr_rt hs
theorem vk_X1_cut {O : Nat → Prop} {x0 : Nat} {x1 : Nat} {x2 : Int32} {x3 : Nat} {h : vt_S} {r : Int32} {s : vt_S} (c : vcl O h) (ox0 : O x0) (ox1 : O x1) (ox3 : O x3) (e : ab_X1_cut x0 x1 x2 x3 h = some (r, s)) : vw [206] [200, 201, 202, 203, 204, 205] [200, 201, 202, 203, 204, 205] O h s := vk_X1_cut_0 ox0 ox1 ox3 ⟨vk.refl h, c⟩ r s e

theorem vk_X8_append_86 {O : Nat → Prop} {z0 : vt_S} {h : vt_S} (hs : vw [914, 915, 916, 917] [201] [] O z0 h) : vfr (vw [914, 915, 916, 917] [201] [] O) z0 (ab_X8_append_86 h) := by
  unfold ab_X8_append_86
  exact vr_rt hs
theorem vk_X8_append_81 {O : Nat → Prop} {z0 : vt_S} {x0 : Nat} {x1 : Int32} {h : vt_S} (ox0 : O x0) (hs : vw [914, 915, 916, 917] [201] [] O z0 h) : vfr (vw [914, 915, 916, 917] [201] [] O) z0 (ab_X8_append_81 x0 x1 h) := by
  unfold ab_X8_append_81
  refine vr_I hs (by decide) ox0 (fun h hs => ?_)
  exact vk_X8_append_86 hs
theorem vk_X8_append_44 {O : Nat → Prop} {z0 : vt_S} {x0 : Nat} {x1 : Int32} {h : vt_S} (ox0 : O x0) (hs : vw [914, 915, 916, 917] [201] [] O z0 h) : vfr (vw [914, 915, 916, 917] [201] [] O) z0 (ab_X8_append_44 x0 x1 h) := by
  unfold ab_X8_append_44
  refine vr_I hs (by decide) ox0 (fun h hs => ?_)
  exact vk_X8_append_86 hs
theorem vk_X8_append_0 {O : Nat → Prop} {z0 : vt_S} {x0 : Nat} {x1 : Int32} {x2 : Int32} {h : vt_S} (ox0 : O x0) (hs : vw [914, 915, 916, 917] [201] [] O z0 h) : vfr (vw [914, 915, 916, 917] [201] [] O) z0 (ab_X8_append x0 x1 x2 h) := by
  unfold ab_X8_append
  refine vr_gP hs ox0 (fun v1 ov1 => ?_)
  refine vr_sI hs (by decide) ov1 (fun h hs => ?_)
  refine vr_if ?_ ?_
  · refine vr_let (fun _ => ?_)
    refine vr_if ?_ ?_
    · refine vr_I hs (by decide) ox0 (fun h hs => ?_)
      exact vk_X8_append_44 ox0 hs
    · refine vr_gP hs ox0 (fun v11 ov11 => ?_)
      refine vr_let (fun _ => ?_)
      refine vr_sI hs (by decide) ov11 (fun h hs => ?_)
      exact vk_X8_append_44 ox0 hs
  · refine vr_let (fun _ => ?_)
    refine vr_if ?_ ?_
    · refine vr_I hs (by decide) ox0 (fun h hs => ?_)
      exact vk_X8_append_81 ox0 hs
    · refine vr_gP hs ox0 (fun v5 ov5 => ?_)
      refine vr_let (fun _ => ?_)
      refine vr_sI hs (by decide) ov5 (fun h hs => ?_)
      exact vk_X8_append_81 ox0 hs
theorem vk_X8_append {O : Nat → Prop} {x0 : Nat} {x1 : Int32} {x2 : Int32} {h : vt_S} {r : Unit} {s : vt_S} (c : vcl O h) (ox0 : O x0) (e : ab_X8_append x0 x1 x2 h = some (r, s)) : vw [914, 915, 916, 917] [201] [] O h s := vk_X8_append_0 ox0 ⟨vk.refl h, c⟩ r s e

theorem vk_X8_split_174 {O : Nat → Prop} {z0 : vt_S} {h : vt_S} (hs : vw [206, 913, 914, 915, 916, 917] [200, 201, 202, 203, 204, 205, 904] [200, 201, 202, 203, 204, 205] O z0 h) : vfr (vw [206, 913, 914, 915, 916, 917] [200, 201, 202, 203, 204, 205, 904] [200, 201, 202, 203, 204, 205] O) z0 (ab_X8_split_174 h) := by
  unfold ab_X8_split_174
  exact vr_rt hs
theorem vk_X8_split_164 {O : Nat → Prop} {z0 : vt_S} {k29 : Nat → Nat → Int32 → Nat → Int32 → Int32 → vt_S → Option (Unit × vt_S)} (hk29 : ∀ {x0 : Nat} {x1 : Nat} {x3 : Int32} {x4 : Nat} {x5 : Int32} {x6 : Int32} {h : vt_S}, O x0 → O x1 → O x4 → vw [206, 913, 914, 915, 916, 917] [200, 201, 202, 203, 204, 205, 904] [200, 201, 202, 203, 204, 205] O z0 h → vfr (vw [206, 913, 914, 915, 916, 917] [200, 201, 202, 203, 204, 205, 904] [200, 201, 202, 203, 204, 205] O) z0 (k29 x0 x1 x3 x4 x5 x6 h)) {x0 : Nat} {x1 : Nat} {x3 : Int32} {x4 : Nat} {x6 : Int32} {x7 : Int32} {h : vt_S} (ox0 : O x0) (ox1 : O x1) (ox4 : O x4) (hs : vw [206, 913, 914, 915, 916, 917] [200, 201, 202, 203, 204, 205, 904] [200, 201, 202, 203, 204, 205] O z0 h) : vfr (vw [206, 913, 914, 915, 916, 917] [200, 201, 202, 203, 204, 205, 904] [200, 201, 202, 203, 204, 205] O) z0 (ab_X8_split_164 k29 x0 x1 x3 x4 x6 x7 h) := by
  unfold ab_X8_split_164
  exact hk29 ox0 ox1 ox4 hs
theorem vk_X8_split_29b {O : Nat → Prop} {z0 : vt_S} {k29 : Nat → Nat → Int32 → Nat → Int32 → Int32 → vt_S → Option (Unit × vt_S)} (hk29 : ∀ {x0 : Nat} {x1 : Nat} {x3 : Int32} {x4 : Nat} {x5 : Int32} {x6 : Int32} {h : vt_S}, O x0 → O x1 → O x4 → vw [206, 913, 914, 915, 916, 917] [200, 201, 202, 203, 204, 205, 904] [200, 201, 202, 203, 204, 205] O z0 h → vfr (vw [206, 913, 914, 915, 916, 917] [200, 201, 202, 203, 204, 205, 904] [200, 201, 202, 203, 204, 205] O) z0 (k29 x0 x1 x3 x4 x5 x6 h)) {x0 : Nat} {x1 : Nat} {x3 : Int32} {x4 : Nat} {x5 : Int32} {x6 : Int32} {h : vt_S} (ox0 : O x0) (ox1 : O x1) (ox4 : O x4) (hs : vw [206, 913, 914, 915, 916, 917] [200, 201, 202, 203, 204, 205, 904] [200, 201, 202, 203, 204, 205] O z0 h) : vfr (vw [206, 913, 914, 915, 916, 917] [200, 201, 202, 203, 204, 205, 904] [200, 201, 202, 203, 204, 205] O) z0 (ab_X8_split_29b k29 x0 x1 x3 x4 x5 x6 h) := by
  unfold ab_X8_split_29b
  refine vr_if ?_ ?_
  · exact vk_X8_split_174 hs
  · refine vr_if ?_ ?_
    · exact vk_X8_split_174 hs
    · refine vr_gP hs ox0 (fun v1 ov1 => ?_)
      refine vr_bd (fun _ => ?_)
      refine vr_gP hs ox0 (fun v4 ov4 => ?_)
      refine vr_cl (fun _ _ e => (by rw [ve_X1_lieOf e]; exact hs)) (fun _ h hs => ?_)
      refine vr_if ?_ ?_
      · refine vr_bd (fun _ => ?_)
        refine vr_sI hs (by decide) ox0 (fun h hs => ?_)
        refine vr_let (fun _ => ?_)
        refine vr_I hs (by decide) ox0 (fun h hs => ?_)
        exact vk_X8_split_164 hk29 ox0 ox1 ox4 hs
      · refine vr_if ?_ ?_
        · refine vr_gP hs ox0 (fun v8 ov8 => ?_)
          refine vr_cl (fun _ _ e => (let q := vk_X1_cut hs.2 ov8 ox1 ox4 e; ⟨hs.1.trans (q.1.weak (by decide) (by decide) (by decide)), q.2⟩)) (fun _ h hs => ?_)
          refine vr_gP hs ox0 (fun v11 ov11 => ?_)
          refine vr_cl (fun _ _ e => (by rw [ve_X1_lieOf e]; exact hs)) (fun _ h hs => ?_)
          refine vr_cl (fun _ _ e => (let q := vk_X8_append hs.2 ox0 e; ⟨hs.1.trans (q.1.weak (by decide) (by decide) (by decide)), q.2⟩)) (fun _ h hs => ?_)
          refine vr_gP hs ox0 (fun v15 ov15 => ?_)
          refine vr_cl (fun _ _ e => (by rw [ve_X1_lieOf e]; exact hs)) (fun _ h hs => ?_)
          refine vr_cl (fun _ _ e => (let q := vk_X8_append hs.2 ox0 e; ⟨hs.1.trans (q.1.weak (by decide) (by decide) (by decide)), q.2⟩)) (fun _ h hs => ?_)
          exact vk_X8_split_164 hk29 ox0 ox1 ox4 hs
        · refine vr_cl (fun _ _ e => (let q := vk_X8_append hs.2 ox0 e; ⟨hs.1.trans (q.1.weak (by decide) (by decide) (by decide)), q.2⟩)) (fun _ h hs => ?_)
          exact vk_X8_split_164 hk29 ox0 ox1 ox4 hs
theorem vk_X8_split_29 {O : Nat → Prop} {z0 : vt_S} : ∀ (n : Nat) {x0 : Nat} {x1 : Nat} {x3 : Int32} {x4 : Nat} {x5 : Int32} {x6 : Int32} {h : vt_S}, O x0 → O x1 → O x4 → vw [206, 913, 914, 915, 916, 917] [200, 201, 202, 203, 204, 205, 904] [200, 201, 202, 203, 204, 205] O z0 h → vfr (vw [206, 913, 914, 915, 916, 917] [200, 201, 202, 203, 204, 205, 904] [200, 201, 202, 203, 204, 205] O) z0 (ab_X8_split_29 n x0 x1 x3 x4 x5 x6 h) := by
  intro n
  induction n with
  | zero => intro x0 x1 x3 x4 x5 x6 h ox0 ox1 ox4 hs; exact vr_no
  | succ n ih => intro x0 x1 x3 x4 x5 x6 h ox0 ox1 ox4 hs; exact vk_X8_split_29b (fun ox0 ox1 ox4 hs => ih ox0 ox1 ox4 hs) ox0 ox1 ox4 hs
theorem vk_X8_split_0 {O : Nat → Prop} {z0 : vt_S} {x0 : Nat} {x1 : Nat} {x2 : Int32} {x3 : Int32} {h : vt_S} (ox0 : O x0) (ox1 : O x1) (hs : vw [206, 913, 914, 915, 916, 917] [200, 201, 202, 203, 204, 205, 904] [200, 201, 202, 203, 204, 205] O z0 h) : vfr (vw [206, 913, 914, 915, 916, 917] [200, 201, 202, 203, 204, 205, 904] [200, 201, 202, 203, 204, 205] O) z0 (ab_X8_split x0 x1 x2 x3 h) := by
  unfold ab_X8_split
  refine vr_I hs (by decide) ox0 (fun h hs => ?_)
  refine vr_I hs (by decide) ox0 (fun h hs => ?_)
  refine vr_bd (fun _ => ?_)
  refine vr_lP hs ox1 (fun v6 ov6 => ?_)
  exact vk_X8_split_29 sv_fuel ox0 ox1 ov6 hs
theorem vk_X8_split {O : Nat → Prop} {x0 : Nat} {x1 : Nat} {x2 : Int32} {x3 : Int32} {h : vt_S} {r : Unit} {s : vt_S} (c : vcl O h) (ox0 : O x0) (ox1 : O x1) (e : ab_X8_split x0 x1 x2 x3 h = some (r, s)) : vw [206, 913, 914, 915, 916, 917] [200, 201, 202, 203, 204, 205, 904] [200, 201, 202, 203, 204, 205] O h s := vk_X8_split_0 ox0 ox1 ⟨vk.refl h, c⟩ r s e

theorem ve_X8_sizeOf_14 {z0 : vt_S} {s0 : Int32} {h : vt_S} (hs : veq z0 h) : vfr veq z0 (ab_X8_sizeOf_14 s0 h) := by
  unfold ab_X8_sizeOf_14
  exact vr_rt hs
theorem ve_X8_sizeOf_0 {z0 : vt_S} {x0 : Nat} {x1 : Int32} {h : vt_S} (hs : veq z0 h) : vfr veq z0 (ab_X8_sizeOf x0 x1 h) := by
  unfold ab_X8_sizeOf
  refine vr_if ?_ ?_
  · refine vr_bd (fun _ => ?_)
    exact ve_X8_sizeOf_14 hs
  · exact ve_X8_sizeOf_14 hs
theorem ve_X8_sizeOf {x0 : Nat} {x1 : Int32} {h : vt_S} {r : Int32} {s : vt_S} (e : ab_X8_sizeOf x0 x1 h = some (r, s)) : s = h := ve_X8_sizeOf_0 rfl r s e

theorem vk_X8_countSizes_7b {O : Nat → Prop} {z0 : vt_S} {k7 : Nat → Int32 → vt_S → Option (Unit × vt_S)} (hk7 : ∀ {x0 : Nat} {x1 : Int32} {h : vt_S}, O x0 → vw [] [905] [] O z0 h → vfr (vw [] [905] [] O) z0 (k7 x0 x1 h)) {x0 : Nat} {x1 : Int32} {h : vt_S} (ox0 : O x0) (hs : vw [] [905] [] O z0 h) : vfr (vw [] [905] [] O) z0 (ab_X8_countSizes_7b k7 x0 x1 h) := by
  unfold ab_X8_countSizes_7b
  refine vr_if ?_ ?_
  · exact vr_rt hs
  · refine vr_bd (fun _ => ?_)
    refine vr_cl (fun _ _ e => (by rw [ve_X8_sizeOf e]; exact hs)) (fun _ h hs => ?_)
    refine vr_bd (fun _ => ?_)
    refine vr_cl (fun _ _ e => (by rw [ve_X8_sizeOf e]; exact hs)) (fun _ h hs => ?_)
    refine vr_sI hs (by decide) ox0 (fun h hs => ?_)
    exact hk7 ox0 hs
theorem vk_X8_countSizes_7 {O : Nat → Prop} {z0 : vt_S} : ∀ (n : Nat) {x0 : Nat} {x1 : Int32} {h : vt_S}, O x0 → vw [] [905] [] O z0 h → vfr (vw [] [905] [] O) z0 (ab_X8_countSizes_7 n x0 x1 h) := by
  intro n
  induction n with
  | zero => intro x0 x1 h ox0 hs; exact vr_no
  | succ n ih => intro x0 x1 h ox0 hs; exact vk_X8_countSizes_7b (fun ox0 hs => ih ox0 hs) ox0 hs
theorem vk_X8_countSizes_0 {O : Nat → Prop} {z0 : vt_S} {x0 : Nat} {h : vt_S} (ox0 : O x0) (hs : vw [] [905] [] O z0 h) : vfr (vw [] [905] [] O) z0 (ab_X8_countSizes x0 h) := by
  unfold ab_X8_countSizes
  refine vr_let (fun _ => ?_)
  exact vk_X8_countSizes_7 sv_fuel ox0 hs
theorem vk_X8_countSizes {O : Nat → Prop} {x0 : Nat} {h : vt_S} {r : Unit} {s : vt_S} (c : vcl O h) (ox0 : O x0) (e : ab_X8_countSizes x0 h = some (r, s)) : vw [] [905] [] O h s := vk_X8_countSizes_0 ox0 ⟨vk.refl h, c⟩ r s e

theorem vk_X8_grow_186 {O : Nat → Prop} {z0 : vt_S} {x0 : Nat} {h : vt_S} (ox0 : O x0) (hs : vw [206, 910, 911, 912, 913, 914, 915, 916, 917] [200, 201, 202, 203, 204, 205, 901, 902, 903, 904, 905, 906, 907, 908, 909] [200, 201, 202, 203, 204, 205, 901, 902, 903, 904, 905, 906] O z0 h) : vfr (vw [206, 910, 911, 912, 913, 914, 915, 916, 917] [200, 201, 202, 203, 204, 205, 901, 902, 903, 904, 905, 906, 907, 908, 909] [200, 201, 202, 203, 204, 205, 901, 902, 903, 904, 905, 906] O) z0 (ab_X8_grow_186 x0 h) := by
  unfold ab_X8_grow_186
  refine vr_cl (fun _ _ e => (let q := vk_X8_countSizes hs.2 ox0 e; ⟨hs.1.trans (q.1.weak (by decide) (by decide) (by decide)), q.2⟩)) (fun _ h hs => ?_)
  exact vr_rt hs
theorem vk_X8_grow_180 {O : Nat → Prop} {z0 : vt_S} {k39 : Nat → Nat → Int32 → vt_S → Option (Unit × vt_S)} (hk39 : ∀ {x0 : Nat} {x1 : Nat} {x2 : Int32} {h : vt_S}, O x0 → O x1 → vw [206, 910, 911, 912, 913, 914, 915, 916, 917] [200, 201, 202, 203, 204, 205, 901, 902, 903, 904, 905, 906, 907, 908, 909] [200, 201, 202, 203, 204, 205, 901, 902, 903, 904, 905, 906] O z0 h → vfr (vw [206, 910, 911, 912, 913, 914, 915, 916, 917] [200, 201, 202, 203, 204, 205, 901, 902, 903, 904, 905, 906, 907, 908, 909] [200, 201, 202, 203, 204, 205, 901, 902, 903, 904, 905, 906] O) z0 (k39 x0 x1 x2 h)) {x0 : Nat} {x1 : Nat} {x2 : Int32} {h : vt_S} (ox0 : O x0) (ox1 : O x1) (hs : vw [206, 910, 911, 912, 913, 914, 915, 916, 917] [200, 201, 202, 203, 204, 205, 901, 902, 903, 904, 905, 906, 907, 908, 909] [200, 201, 202, 203, 204, 205, 901, 902, 903, 904, 905, 906] O z0 h) : vfr (vw [206, 910, 911, 912, 913, 914, 915, 916, 917] [200, 201, 202, 203, 204, 205, 901, 902, 903, 904, 905, 906, 907, 908, 909] [200, 201, 202, 203, 204, 205, 901, 902, 903, 904, 905, 906] O) z0 (ab_X8_grow_180 k39 x0 x1 x2 h) := by
  unfold ab_X8_grow_180
  exact hk39 ox0 ox1 hs
theorem vk_X8_grow_39b {O : Nat → Prop} {z0 : vt_S} {k39 : Nat → Nat → Int32 → vt_S → Option (Unit × vt_S)} (hk39 : ∀ {x0 : Nat} {x1 : Nat} {x2 : Int32} {h : vt_S}, O x0 → O x1 → vw [206, 910, 911, 912, 913, 914, 915, 916, 917] [200, 201, 202, 203, 204, 205, 901, 902, 903, 904, 905, 906, 907, 908, 909] [200, 201, 202, 203, 204, 205, 901, 902, 903, 904, 905, 906] O z0 h → vfr (vw [206, 910, 911, 912, 913, 914, 915, 916, 917] [200, 201, 202, 203, 204, 205, 901, 902, 903, 904, 905, 906, 907, 908, 909] [200, 201, 202, 203, 204, 205, 901, 902, 903, 904, 905, 906] O) z0 (k39 x0 x1 x2 h)) {x0 : Nat} {x1 : Nat} {x2 : Int32} {h : vt_S} (ox0 : O x0) (ox1 : O x1) (hs : vw [206, 910, 911, 912, 913, 914, 915, 916, 917] [200, 201, 202, 203, 204, 205, 901, 902, 903, 904, 905, 906, 907, 908, 909] [200, 201, 202, 203, 204, 205, 901, 902, 903, 904, 905, 906] O z0 h) : vfr (vw [206, 910, 911, 912, 913, 914, 915, 916, 917] [200, 201, 202, 203, 204, 205, 901, 902, 903, 904, 905, 906, 907, 908, 909] [200, 201, 202, 203, 204, 205, 901, 902, 903, 904, 905, 906] O) z0 (ab_X8_grow_39b k39 x0 x1 x2 h) := by
  unfold ab_X8_grow_39b
  refine vr_if ?_ ?_
  · exact vk_X8_grow_186 ox0 hs
  · refine vr_let (fun _ => ?_)
    refine vr_if ?_ ?_
    · exact vk_X8_grow_186 ox0 hs
    · refine vr_let (fun _ => ?_)
      refine vr_I hs (by decide) ox0 (fun h hs => ?_)
      refine vr_let (fun _ => ?_)
      refine vr_bd (fun _ => ?_)
      refine vr_let (fun _ => ?_)
      refine vr_bd (fun _ => ?_)
      refine vr_let (fun _ => ?_)
      refine vr_bd (fun _ => ?_)
      refine vr_if ?_ ?_
      · refine vr_let (fun _ => ?_)
        refine vr_cl (fun _ _ e => (let q := vk_X8_hang hs.2 ox0 e; ⟨hs.1.trans (q.1.weak (by decide) (by decide) (by decide)), q.2⟩)) (fun _ h hs => ?_)
        refine vr_let (fun _ => ?_)
        refine vr_I hs (by decide) ox0 (fun h hs => ?_)
        exact vk_X8_grow_180 hk39 ox0 ox1 hs
      · refine vr_cl (fun _ _ e => (by rw [ve_X8_bestLine e]; exact hs)) (fun _ h hs => ?_)
        refine vr_cl (fun _ _ e => (let q := vk_X8_addNode hs.2 ox0 e; ⟨hs.1.trans (q.1.weak (by decide) (by decide) (by decide)), q.2⟩)) (fun _ h hs => ?_)
        refine vr_cl (fun _ _ e => (let q := vk_X8_hang hs.2 ox0 e; ⟨hs.1.trans (q.1.weak (by decide) (by decide) (by decide)), q.2⟩)) (fun _ h hs => ?_)
        refine vr_cl (fun _ _ e => (let q := vk_X8_split hs.2 ox0 ox1 e; ⟨hs.1.trans (q.1.weak (by decide) (by decide) (by decide)), q.2⟩)) (fun _ h hs => ?_)
        refine vr_let (fun _ => ?_)
        refine vr_cl (fun _ _ e => (let q := vk_X8_open hs.2 ox0 e; ⟨hs.1.trans (q.1.weak (by decide) (by decide) (by decide)), q.2⟩)) (fun _ h hs => ?_)
        refine vr_let (fun _ => ?_)
        refine vr_cl (fun _ _ e => (let q := vk_X8_open hs.2 ox0 e; ⟨hs.1.trans (q.1.weak (by decide) (by decide) (by decide)), q.2⟩)) (fun _ h hs => ?_)
        exact vk_X8_grow_180 hk39 ox0 ox1 hs
theorem vk_X8_grow_39 {O : Nat → Prop} {z0 : vt_S} : ∀ (n : Nat) {x0 : Nat} {x1 : Nat} {x2 : Int32} {h : vt_S}, O x0 → O x1 → vw [206, 910, 911, 912, 913, 914, 915, 916, 917] [200, 201, 202, 203, 204, 205, 901, 902, 903, 904, 905, 906, 907, 908, 909] [200, 201, 202, 203, 204, 205, 901, 902, 903, 904, 905, 906] O z0 h → vfr (vw [206, 910, 911, 912, 913, 914, 915, 916, 917] [200, 201, 202, 203, 204, 205, 901, 902, 903, 904, 905, 906, 907, 908, 909] [200, 201, 202, 203, 204, 205, 901, 902, 903, 904, 905, 906] O) z0 (ab_X8_grow_39 n x0 x1 x2 h) := by
  intro n
  induction n with
  | zero => intro x0 x1 x2 h ox0 ox1 hs; exact vr_no
  | succ n ih => intro x0 x1 x2 h ox0 ox1 hs; exact vk_X8_grow_39b (fun ox0 ox1 hs => ih ox0 ox1 hs) ox0 ox1 hs
theorem vk_X8_grow_0 {O : Nat → Prop} {z0 : vt_S} {x0 : Nat} {x1 : Nat} {h : vt_S} (ox0 : O x0) (ox1 : O x1) (hs : vw [206, 910, 911, 912, 913, 914, 915, 916, 917] [200, 201, 202, 203, 204, 205, 901, 902, 903, 904, 905, 906, 907, 908, 909] [200, 201, 202, 203, 204, 205, 901, 902, 903, 904, 905, 906] O z0 h) : vfr (vw [206, 910, 911, 912, 913, 914, 915, 916, 917] [200, 201, 202, 203, 204, 205, 901, 902, 903, 904, 905, 906, 907, 908, 909] [200, 201, 202, 203, 204, 205, 901, 902, 903, 904, 905, 906] O) z0 (ab_X8_grow x0 x1 h) := by
  unfold ab_X8_grow
  refine vr_I hs (by decide) ox0 (fun h hs => ?_)
  refine vr_I hs (by decide) ox0 (fun h hs => ?_)
  refine vr_I hs (by decide) ox0 (fun h hs => ?_)
  refine vr_I hs (by decide) ox0 (fun h hs => ?_)
  refine vr_gP hs ox0 (fun v5 ov5 => ?_)
  refine vr_let (fun _ => ?_)
  refine vr_cl (fun _ _ e => (let q := vk_X1_chainWhole hs.2 ov5 e; ⟨hs.1.trans (q.1.weak (by decide) (by decide) (by decide)), q.2⟩)) (fun _ h hs => ?_)
  refine vr_cl (fun _ _ e => (let q := vk_X8_open hs.2 ox0 e; ⟨hs.1.trans (q.1.weak (by decide) (by decide) (by decide)), q.2⟩)) (fun _ h hs => ?_)
  exact vk_X8_grow_39 sv_fuel ox0 ox1 hs
theorem vk_X8_grow {O : Nat → Prop} {x0 : Nat} {x1 : Nat} {h : vt_S} {r : Unit} {s : vt_S} (c : vcl O h) (ox0 : O x0) (ox1 : O x1) (e : ab_X8_grow x0 x1 h = some (r, s)) : vw [206, 910, 911, 912, 913, 914, 915, 916, 917] [200, 201, 202, 203, 204, 205, 901, 902, 903, 904, 905, 906, 907, 908, 909] [200, 201, 202, 203, 204, 205, 901, 902, 903, 904, 905, 906] O h s := vk_X8_grow_0 ox0 ox1 ⟨vk.refl h, c⟩ r s e

theorem vk_X7_put_0 {O : Nat → Prop} {z0 : vt_S} {x0 : Nat} {x1 : Int32} {x2 : Int32} {x3 : Int32} {x4 : Int32} {h : vt_S} (ox0 : O x0) (hs : vw [800, 801, 802, 803] [] [] O z0 h) : vfr (vw [800, 801, 802, 803] [] [] O) z0 (ab_X7_put x0 x1 x2 x3 x4 h) := by
  unfold ab_X7_put
  refine vr_I hs (by decide) ox0 (fun h hs => ?_)
  refine vr_I hs (by decide) ox0 (fun h hs => ?_)
  refine vr_I hs (by decide) ox0 (fun h hs => ?_)
  refine vr_I hs (by decide) ox0 (fun h hs => ?_)
  exact vr_rt hs
theorem vk_X7_put {O : Nat → Prop} {x0 : Nat} {x1 : Int32} {x2 : Int32} {x3 : Int32} {x4 : Int32} {h : vt_S} {r : Unit} {s : vt_S} (c : vcl O h) (ox0 : O x0) (e : ab_X7_put x0 x1 x2 x3 x4 h = some (r, s)) : vw [800, 801, 802, 803] [] [] O h s := vk_X7_put_0 ox0 ⟨vk.refl h, c⟩ r s e

theorem vk_X7_become_0 {O : Nat → Prop} {z0 : vt_S} {x0 : Nat} {x1 : Nat} {h : vt_S} (ox0 : O x0) (ox1 : O x1) (hs : vw [800, 801, 802, 803] [] [] O z0 h) : vfr (vw [800, 801, 802, 803] [] [] O) z0 (ab_X7_become x0 x1 h) := by
  unfold ab_X7_become
  refine vr_let (fun _ => ?_)
  refine vr_let (fun _ => ?_)
  refine vr_let (fun _ => ?_)
  refine vr_let (fun _ => ?_)
  refine vr_cl (fun _ _ e => (let q := vk_X7_put hs.2 ox0 e; ⟨hs.1.trans (q.1.weak (by decide) (by decide) (by decide)), q.2⟩)) (fun _ h hs => ?_)
  exact vr_rt hs
theorem vk_X7_become {O : Nat → Prop} {x0 : Nat} {x1 : Nat} {h : vt_S} {r : Unit} {s : vt_S} (c : vcl O h) (ox0 : O x0) (ox1 : O x1) (e : ab_X7_become x0 x1 h = some (r, s)) : vw [800, 801, 802, 803] [] [] O h s := vk_X7_become_0 ox0 ox1 ⟨vk.refl h, c⟩ r s e

theorem vk_X6_endMover_0 {O : Nat → Prop} {z0 : vt_S} {x0 : Nat} {h : vt_S} (ox0 : O x0) (hs : vw [709, 710, 711] [] [] O z0 h) : vfr (vw [709, 710, 711] [] [] O) z0 (ab_X6_endMover x0 h) := by
  unfold ab_X6_endMover
  refine vr_I hs (by decide) ox0 (fun h hs => ?_)
  refine vr_I hs (by decide) ox0 (fun h hs => ?_)
  refine vr_I hs (by decide) ox0 (fun h hs => ?_)
  exact vr_rt hs
theorem vk_X6_endMover {O : Nat → Prop} {x0 : Nat} {h : vt_S} {r : Unit} {s : vt_S} (c : vcl O h) (ox0 : O x0) (e : ab_X6_endMover x0 h = some (r, s)) : vw [709, 710, 711] [] [] O h s := vk_X6_endMover_0 ox0 ⟨vk.refl h, c⟩ r s e

theorem vk_X6_settle_0 {O : Nat → Prop} {z0 : vt_S} {x0 : Nat} {h : vt_S} (ox0 : O x0) (hs : vw [707, 708, 709, 710, 711] [] [] O z0 h) : vfr (vw [707, 708, 709, 710, 711] [] [] O) z0 (ab_X6_settle x0 h) := by
  unfold ab_X6_settle
  refine vr_let (fun _ => ?_)
  refine vr_I hs (by decide) ox0 (fun h hs => ?_)
  refine vr_let (fun _ => ?_)
  refine vr_I hs (by decide) ox0 (fun h hs => ?_)
  refine vr_cl (fun _ _ e => (let q := vk_X6_endMover hs.2 ox0 e; ⟨hs.1.trans (q.1.weak (by decide) (by decide) (by decide)), q.2⟩)) (fun _ h hs => ?_)
  exact vr_rt hs
theorem vk_X6_settle {O : Nat → Prop} {x0 : Nat} {h : vt_S} {r : Unit} {s : vt_S} (c : vcl O h) (ox0 : O x0) (e : ab_X6_settle x0 h = some (r, s)) : vw [707, 708, 709, 710, 711] [] [] O h s := vk_X6_settle_0 ox0 ⟨vk.refl h, c⟩ r s e

theorem vk_X2_settle_2b {O : Nat → Prop} {z0 : vt_S} {k2 : Nat → Int32 → vt_S → Option (Unit × vt_S)} (hk2 : ∀ {x0 : Nat} {x1 : Int32} {h : vt_S}, O x0 → vw [707, 708, 709, 710, 711] [] [] O z0 h → vfr (vw [707, 708, 709, 710, 711] [] [] O) z0 (k2 x0 x1 h)) {x0 : Nat} {x1 : Int32} {h : vt_S} (ox0 : O x0) (hs : vw [707, 708, 709, 710, 711] [] [] O z0 h) : vfr (vw [707, 708, 709, 710, 711] [] [] O) z0 (ab_X2_settle_2b k2 x0 x1 h) := by
  unfold ab_X2_settle_2b
  refine vr_let (fun _ => ?_)
  refine vr_if ?_ ?_
  · exact vr_rt hs
  · refine vr_lP hs ox0 (fun v3 ov3 => ?_)
    refine vr_cl (fun _ _ e => (let q := vk_X6_settle hs.2 ov3 e; ⟨hs.1.trans (q.1.weak (by decide) (by decide) (by decide)), q.2⟩)) (fun _ h hs => ?_)
    exact hk2 ox0 hs
theorem vk_X2_settle_2 {O : Nat → Prop} {z0 : vt_S} : ∀ (n : Nat) {x0 : Nat} {x1 : Int32} {h : vt_S}, O x0 → vw [707, 708, 709, 710, 711] [] [] O z0 h → vfr (vw [707, 708, 709, 710, 711] [] [] O) z0 (ab_X2_settle_2 n x0 x1 h) := by
  intro n
  induction n with
  | zero => intro x0 x1 h ox0 hs; exact vr_no
  | succ n ih => intro x0 x1 h ox0 hs; exact vk_X2_settle_2b (fun ox0 hs => ih ox0 hs) ox0 hs
theorem vk_X2_settle_0 {O : Nat → Prop} {z0 : vt_S} {x0 : Nat} {h : vt_S} (ox0 : O x0) (hs : vw [707, 708, 709, 710, 711] [] [] O z0 h) : vfr (vw [707, 708, 709, 710, 711] [] [] O) z0 (ab_X2_settle x0 h) := by
  unfold ab_X2_settle
  exact vk_X2_settle_2 sv_fuel ox0 hs
theorem vk_X2_settle {O : Nat → Prop} {x0 : Nat} {h : vt_S} {r : Unit} {s : vt_S} (c : vcl O h) (ox0 : O x0) (e : ab_X2_settle x0 h = some (r, s)) : vw [707, 708, 709, 710, 711] [] [] O h s := vk_X2_settle_0 ox0 ⟨vk.refl h, c⟩ r s e

theorem vk_X10_begin_0 {O : Nat → Prop} {z0 : vt_S} {x0 : Nat} {x1 : Nat} {x2 : Nat} {h : vt_S} (ox0 : O x0) (ox1 : O x1) (ox2 : O x2) (hs : vw [707, 708, 709, 710, 711, 1101, 1102, 1103, 1104, 1105, 1106] [] [] O z0 h) : vfr (vw [707, 708, 709, 710, 711, 1101, 1102, 1103, 1104, 1105, 1106] [] [] O) z0 (ab_X10_begin x0 x1 x2 h) := by
  unfold ab_X10_begin
  refine vr_P hs (by decide) ox0 ox1 (fun h hs => ?_)
  refine vr_gP hs ox0 (fun v2 ov2 => ?_)
  refine vr_cl (fun _ _ e => (let q := vk_X2_settle hs.2 ov2 e; ⟨hs.1.trans (q.1.weak (by decide) (by decide) (by decide)), q.2⟩)) (fun _ h hs => ?_)
  refine vr_let (fun _ => ?_)
  refine vr_I hs (by decide) ox0 (fun h hs => ?_)
  refine vr_let (fun _ => ?_)
  refine vr_I hs (by decide) ox0 (fun h hs => ?_)
  refine vr_let (fun _ => ?_)
  refine vr_I hs (by decide) ox0 (fun h hs => ?_)
  refine vr_let (fun _ => ?_)
  refine vr_I hs (by decide) ox0 (fun h hs => ?_)
  refine vr_I hs (by decide) ox0 (fun h hs => ?_)
  exact vr_rt hs
theorem vk_X10_begin {O : Nat → Prop} {x0 : Nat} {x1 : Nat} {x2 : Nat} {h : vt_S} {r : Unit} {s : vt_S} (c : vcl O h) (ox0 : O x0) (ox1 : O x1) (ox2 : O x2) (e : ab_X10_begin x0 x1 x2 h = some (r, s)) : vw [707, 708, 709, 710, 711, 1101, 1102, 1103, 1104, 1105, 1106] [] [] O h s := vk_X10_begin_0 ox0 ox1 ox2 ⟨vk.refl h, c⟩ r s e

theorem vk_X12_loadMap_110 {O : Nat → Prop} {z0 : vt_S} {x0 : Nat} {h : vt_S} (ox0 : O x0) (hs : vw [101, 206, 309, 310, 311, 312, 501, 502, 503, 602, 700, 701, 702, 703, 704, 705, 706, 707, 708, 709, 710, 711, 800, 801, 802, 803, 910, 911, 912, 913, 914, 915, 916, 917, 1101, 1102, 1103, 1104, 1105, 1106, 1200, 1201, 1202, 1203, 1204, 1205, 1206, 1207, 1208, 1209, 1210, 1306, 1307, 1310] [100, 200, 201, 202, 203, 204, 205, 302, 303, 304, 305, 306, 901, 902, 903, 904, 905, 906, 907, 908, 909, 1211] [100, 200, 201, 202, 203, 204, 205, 901, 902, 903, 904, 905, 906] O z0 h) : vfr (vw [101, 206, 309, 310, 311, 312, 501, 502, 503, 602, 700, 701, 702, 703, 704, 705, 706, 707, 708, 709, 710, 711, 800, 801, 802, 803, 910, 911, 912, 913, 914, 915, 916, 917, 1101, 1102, 1103, 1104, 1105, 1106, 1200, 1201, 1202, 1203, 1204, 1205, 1206, 1207, 1208, 1209, 1210, 1306, 1307, 1310] [100, 200, 201, 202, 203, 204, 205, 302, 303, 304, 305, 306, 901, 902, 903, 904, 905, 906, 907, 908, 909, 1211] [100, 200, 201, 202, 203, 204, 205, 901, 902, 903, 904, 905, 906] O) z0 (ab_X12_loadMap_110 x0 h) := by
  unfold ab_X12_loadMap_110
  refine vr_gP hs ox0 (fun v1 ov1 => ?_)
  refine vr_let (fun _ => ?_)
  exact vr_rt hs
theorem vk_X12_loadMap_0 {O : Nat → Prop} {z0 : vt_S} {x0 : Nat} {h : vt_S} (ox0 : O x0) (hs : vw [101, 206, 309, 310, 311, 312, 501, 502, 503, 602, 700, 701, 702, 703, 704, 705, 706, 707, 708, 709, 710, 711, 800, 801, 802, 803, 910, 911, 912, 913, 914, 915, 916, 917, 1101, 1102, 1103, 1104, 1105, 1106, 1200, 1201, 1202, 1203, 1204, 1205, 1206, 1207, 1208, 1209, 1210, 1306, 1307, 1310] [100, 200, 201, 202, 203, 204, 205, 302, 303, 304, 305, 306, 901, 902, 903, 904, 905, 906, 907, 908, 909, 1211] [100, 200, 201, 202, 203, 204, 205, 901, 902, 903, 904, 905, 906] O z0 h) : vfr (vw [101, 206, 309, 310, 311, 312, 501, 502, 503, 602, 700, 701, 702, 703, 704, 705, 706, 707, 708, 709, 710, 711, 800, 801, 802, 803, 910, 911, 912, 913, 914, 915, 916, 917, 1101, 1102, 1103, 1104, 1105, 1106, 1200, 1201, 1202, 1203, 1204, 1205, 1206, 1207, 1208, 1209, 1210, 1306, 1307, 1310] [100, 200, 201, 202, 203, 204, 205, 302, 303, 304, 305, 306, 901, 902, 903, 904, 905, 906, 907, 908, 909, 1211] [100, 200, 201, 202, 203, 204, 205, 901, 902, 903, 904, 905, 906] O) z0 (ab_X12_loadMap x0 h) := by
  unfold ab_X12_loadMap
  refine vr_gP hs ox0 (fun v1 ov1 => ?_)
  refine vr_cl (fun _ _ e => (let q := vk_X4_begin hs.2 ov1 e; ⟨hs.1.trans (q.1.weak (by decide) (by decide) (by decide)), q.2⟩)) (fun _ h hs => ?_)
  refine vr_gP hs ox0 (fun v3 ov3 => ?_)
  refine vr_gP hs ox0 (fun v4 ov4 => ?_)
  refine vr_cl (fun _ _ e => (let q := vk_X2_read hs.2 ov3 ov4 e; ⟨hs.1.trans (q.1.weak (by decide) (by decide) (by decide)), q.2⟩)) (fun _ h hs => ?_)
  refine vr_gP hs ox0 (fun v6 ov6 => ?_)
  refine vr_cl (fun _ _ e => (by rw [ve_X4_well e]; exact hs)) (fun _ h hs => ?_)
  refine vr_if ?_ ?_
  · exact vk_X12_loadMap_110 ox0 hs
  · refine vr_cl (fun _ _ e => (let q := vk_X12_swapPlans hs.2 ox0 e; ⟨hs.1.trans (q.1.weak (by decide) (by decide) (by decide)), q.2⟩)) (fun _ h hs => ?_)
    refine vr_let (fun _ => ?_)
    refine vr_I hs (by decide) ox0 (fun h hs => ?_)
    refine vr_gP hs ox0 (fun v12 ov12 => ?_)
    refine vr_gP hs ov12 (fun v13 ov13 => ?_)
    refine vr_gP hs ox0 (fun v14 ov14 => ?_)
    refine vr_cl (fun _ _ e => (let q := vk_X0_become hs.2 ov13 ov14 e; ⟨hs.1.trans (q.1.weak (by decide) (by decide) (by decide)), q.2⟩)) (fun _ h hs => ?_)
    refine vr_gP hs ox0 (fun v16 ov16 => ?_)
    refine vr_gP hs ox0 (fun v17 ov17 => ?_)
    refine vr_cl (fun _ _ e => (let q := vk_X8_grow hs.2 ov16 ov17 e; ⟨hs.1.trans (q.1.weak (by decide) (by decide) (by decide)), q.2⟩)) (fun _ h hs => ?_)
    refine vr_gP hs ox0 (fun v19 ov19 => ?_)
    refine vr_I hs (by decide) ov19 (fun h hs => ?_)
    refine vr_gP hs ox0 (fun v21 ov21 => ?_)
    refine vr_gP hs ov21 (fun v22 ov22 => ?_)
    refine vr_gP hs ox0 (fun v23 ov23 => ?_)
    refine vr_gP hs ov23 (fun v24 ov24 => ?_)
    refine vr_cl (fun _ _ e => (let q := vk_X7_become hs.2 ov22 ov24 e; ⟨hs.1.trans (q.1.weak (by decide) (by decide) (by decide)), q.2⟩)) (fun _ h hs => ?_)
    refine vr_gP hs ox0 (fun v26 ov26 => ?_)
    refine vr_gP hs ox0 (fun v27 ov27 => ?_)
    refine vr_gP hs ox0 (fun v28 ov28 => ?_)
    refine vr_gP hs ov28 (fun v29 ov29 => ?_)
    refine vr_cl (fun _ _ e => (let q := vk_X10_begin hs.2 ov26 ov27 ov29 e; ⟨hs.1.trans (q.1.weak (by decide) (by decide) (by decide)), q.2⟩)) (fun _ h hs => ?_)
    exact vk_X12_loadMap_110 ox0 hs
theorem vk_X12_loadMap {O : Nat → Prop} {x0 : Nat} {h : vt_S} {r : Int32} {s : vt_S} (c : vcl O h) (ox0 : O x0) (e : ab_X12_loadMap x0 h = some (r, s)) : vw [101, 206, 309, 310, 311, 312, 501, 502, 503, 602, 700, 701, 702, 703, 704, 705, 706, 707, 708, 709, 710, 711, 800, 801, 802, 803, 910, 911, 912, 913, 914, 915, 916, 917, 1101, 1102, 1103, 1104, 1105, 1106, 1200, 1201, 1202, 1203, 1204, 1205, 1206, 1207, 1208, 1209, 1210, 1306, 1307, 1310] [100, 200, 201, 202, 203, 204, 205, 302, 303, 304, 305, 306, 901, 902, 903, 904, 905, 906, 907, 908, 909, 1211] [100, 200, 201, 202, 203, 204, 205, 901, 902, 903, 904, 905, 906] O h s := vk_X12_loadMap_0 ox0 ⟨vk.refl h, c⟩ r s e

theorem vk_X14_wrong_17 {O : Nat → Prop} {z0 : vt_S} {h : vt_S} (hs : vw [1504, 1505] [] [] O z0 h) : vfr (vw [1504, 1505] [] [] O) z0 (ab_X14_wrong_17 h) := by
  unfold ab_X14_wrong_17
  exact vr_rt hs
theorem vk_X14_wrong_0 {O : Nat → Prop} {z0 : vt_S} {x0 : Nat} {x1 : Int32} {x2 : Int32} {h : vt_S} (ox0 : O x0) (hs : vw [1504, 1505] [] [] O z0 h) : vfr (vw [1504, 1505] [] [] O) z0 (ab_X14_wrong x0 x1 x2 h) := by
  unfold ab_X14_wrong
  refine vr_let (fun _ => ?_)
  refine vr_if ?_ ?_
  · refine vr_I hs (by decide) ox0 (fun h hs => ?_)
    refine vr_I hs (by decide) ox0 (fun h hs => ?_)
    exact vk_X14_wrong_17 hs
  · exact vk_X14_wrong_17 hs
theorem vk_X14_wrong {O : Nat → Prop} {x0 : Nat} {x1 : Int32} {x2 : Int32} {h : vt_S} {r : Unit} {s : vt_S} (c : vcl O h) (ox0 : O x0) (e : ab_X14_wrong x0 x1 x2 h = some (r, s)) : vw [1504, 1505] [] [] O h s := vk_X14_wrong_0 ox0 ⟨vk.refl h, c⟩ r s e

theorem vk_X14_add_0 {O : Nat → Prop} {z0 : vt_S} {x0 : Nat} {x1 : Int32} {h : vt_S} (ox0 : O x0) (hs : vw [1508, 1509] [] [] O z0 h) : vfr (vw [1508, 1509] [] [] O) z0 (ab_X14_add x0 x1 h) := by
  unfold ab_X14_add
  refine vr_let (fun _ => ?_)
  refine vr_I hs (by decide) ox0 (fun h hs => ?_)
  refine vr_let (fun _ => ?_)
  refine vr_let (fun _ => ?_)
  refine vr_I hs (by decide) ox0 (fun h hs => ?_)
  exact vr_rt hs
theorem vk_X14_add {O : Nat → Prop} {x0 : Nat} {x1 : Int32} {h : vt_S} {r : Unit} {s : vt_S} (c : vcl O h) (ox0 : O x0) (e : ab_X14_add x0 x1 h = some (r, s)) : vw [1508, 1509] [] [] O h s := vk_X14_add_0 ox0 ⟨vk.refl h, c⟩ r s e

theorem vk_X14_next_64 {O : Nat → Prop} {z0 : vt_S} {x0 : Nat} {x3 : Int32} {h : vt_S} (ox0 : O x0) (hs : vw [1504, 1505, 1507, 1508, 1509] [] [] O z0 h) : vfr (vw [1504, 1505, 1507, 1508, 1509] [] [] O) z0 (ab_X14_next_64 x0 x3 h) := by
  unfold ab_X14_next_64
  refine vr_cl (fun _ _ e => (let q := vk_X14_add hs.2 ox0 e; ⟨hs.1.trans (q.1.weak (by decide) (by decide) (by decide)), q.2⟩)) (fun _ h hs => ?_)
  refine vr_let (fun _ => ?_)
  refine vr_I hs (by decide) ox0 (fun h hs => ?_)
  exact vr_rt hs
theorem vk_X14_next_55 {O : Nat → Prop} {z0 : vt_S} {x0 : Nat} {x3 : Int32} {h : vt_S} (ox0 : O x0) (hs : vw [1504, 1505, 1507, 1508, 1509] [] [] O z0 h) : vfr (vw [1504, 1505, 1507, 1508, 1509] [] [] O) z0 (ab_X14_next_55 x0 x3 h) := by
  unfold ab_X14_next_55
  refine vr_let (fun _ => ?_)
  refine vr_cl (fun _ _ e => (let q := vk_X14_wrong hs.2 ox0 e; ⟨hs.1.trans (q.1.weak (by decide) (by decide) (by decide)), q.2⟩)) (fun _ h hs => ?_)
  exact vk_X14_next_64 ox0 hs
theorem vk_X14_next_0 {O : Nat → Prop} {z0 : vt_S} {x0 : Nat} {x1 : Int32} {x2 : Int32} {h : vt_S} (ox0 : O x0) (hs : vw [1504, 1505, 1507, 1508, 1509] [] [] O z0 h) : vfr (vw [1504, 1505, 1507, 1508, 1509] [] [] O) z0 (ab_X14_next x0 x1 x2 h) := by
  unfold ab_X14_next
  refine vr_let (fun _ => ?_)
  refine vr_if ?_ ?_
  · refine vr_let (fun _ => ?_)
    refine vr_let (fun _ => ?_)
    refine vr_if ?_ ?_
    · refine vr_let (fun _ => ?_)
      refine vr_cl (fun _ _ e => (let q := vk_X14_wrong hs.2 ox0 e; ⟨hs.1.trans (q.1.weak (by decide) (by decide) (by decide)), q.2⟩)) (fun _ h hs => ?_)
      exact vr_rt hs
    · refine vr_let (fun _ => ?_)
      refine vr_bd (fun _ => ?_)
      refine vr_if ?_ ?_
      · exact vk_X14_next_55 ox0 hs
      · refine vr_if ?_ ?_
        · exact vk_X14_next_64 ox0 hs
        · exact vk_X14_next_55 ox0 hs
  · exact vr_rt hs
theorem vk_X14_next {O : Nat → Prop} {x0 : Nat} {x1 : Int32} {x2 : Int32} {h : vt_S} {r : Int32} {s : vt_S} (c : vcl O h) (ox0 : O x0) (e : ab_X14_next x0 x1 x2 h = some (r, s)) : vw [1504, 1505, 1507, 1508, 1509] [] [] O h s := vk_X14_next_0 ox0 ⟨vk.refl h, c⟩ r s e

theorem vk_X14_nextTwo_77 {O : Nat → Prop} {z0 : vt_S} {x4 : Int32} {h : vt_S} (hs : vw [1504, 1505, 1507, 1508, 1509] [] [] O z0 h) : vfr (vw [1504, 1505, 1507, 1508, 1509] [] [] O) z0 (ab_X14_nextTwo_77 x4 h) := by
  unfold ab_X14_nextTwo_77
  exact vr_rt hs
theorem vk_X14_nextTwo_71 {O : Nat → Prop} {z0 : vt_S} {x0 : Nat} {x3 : Int32} {x4 : Int32} {h : vt_S} (ox0 : O x0) (hs : vw [1504, 1505, 1507, 1508, 1509] [] [] O z0 h) : vfr (vw [1504, 1505, 1507, 1508, 1509] [] [] O) z0 (ab_X14_nextTwo_71 x0 x3 x4 h) := by
  unfold ab_X14_nextTwo_71
  refine vr_cl (fun _ _ e => (let q := vk_X14_wrong hs.2 ox0 e; ⟨hs.1.trans (q.1.weak (by decide) (by decide) (by decide)), q.2⟩)) (fun _ h hs => ?_)
  exact vk_X14_nextTwo_77 hs
theorem vk_X14_nextTwo_50 {O : Nat → Prop} {z0 : vt_S} {x0 : Nat} {x1 : Int32} {x2 : Int32} {x3 : Int32} {s0 : Int32} {h : vt_S} (ox0 : O x0) (hs : vw [1504, 1505, 1507, 1508, 1509] [] [] O z0 h) : vfr (vw [1504, 1505, 1507, 1508, 1509] [] [] O) z0 (ab_X14_nextTwo_50 x0 x1 x2 x3 s0 h) := by
  unfold ab_X14_nextTwo_50
  refine vr_let (fun _ => ?_)
  refine vr_if ?_ ?_
  · refine vr_if ?_ ?_
    · exact vk_X14_nextTwo_71 ox0 hs
    · refine vr_if ?_ ?_
      · exact vk_X14_nextTwo_77 hs
      · exact vk_X14_nextTwo_71 ox0 hs
  · exact vk_X14_nextTwo_77 hs
theorem vk_X14_nextTwo_0 {O : Nat → Prop} {z0 : vt_S} {x0 : Nat} {x1 : Int32} {x2 : Int32} {h : vt_S} (ox0 : O x0) (hs : vw [1504, 1505, 1507, 1508, 1509] [] [] O z0 h) : vfr (vw [1504, 1505, 1507, 1508, 1509] [] [] O) z0 (ab_X14_nextTwo x0 x1 x2 h) := by
  unfold ab_X14_nextTwo
  refine vr_let (fun _ => ?_)
  refine vr_cl (fun _ _ e => (let q := vk_X14_next hs.2 ox0 e; ⟨hs.1.trans (q.1.weak (by decide) (by decide) (by decide)), q.2⟩)) (fun _ h hs => ?_)
  refine vr_cl (fun _ _ e => (let q := vk_X14_next hs.2 ox0 e; ⟨hs.1.trans (q.1.weak (by decide) (by decide) (by decide)), q.2⟩)) (fun _ h hs => ?_)
  refine vr_if ?_ ?_
  · exact vk_X14_nextTwo_50 ox0 hs
  · exact vk_X14_nextTwo_50 ox0 hs
theorem vk_X14_nextTwo {O : Nat → Prop} {x0 : Nat} {x1 : Int32} {x2 : Int32} {h : vt_S} {r : Int32} {s : vt_S} (c : vcl O h) (ox0 : O x0) (e : ab_X14_nextTwo x0 x1 x2 h = some (r, s)) : vw [1504, 1505, 1507, 1508, 1509] [] [] O h s := vk_X14_nextTwo_0 ox0 ⟨vk.refl h, c⟩ r s e

theorem ve_X14_pair_37 {z0 : vt_S} {s0 : Int32} {h : vt_S} (hs : veq z0 h) : vfr veq z0 (ab_X14_pair_37 s0 h) := by
  unfold ab_X14_pair_37
  exact vr_rt hs
theorem ve_X14_pair_0 {f0 : Nat} {z0 : vt_S} {x0 : Nat} {x1 : Int32} {h : vt_S} (hs : veq z0 h) : vfr veq z0 (ab_X14_pair f0 x0 x1 h) := by
  unfold ab_X14_pair
  refine vr_bd (fun _ => ?_)
  refine vr_bd (fun _ => ?_)
  refine vr_if ?_ ?_
  · exact ve_X14_pair_37 hs
  · exact ve_X14_pair_37 hs
theorem ve_X14_pair {f0 : Nat} {x0 : Nat} {x1 : Int32} {h : vt_S} {r : Int32} {s : vt_S} (e : ab_X14_pair f0 x0 x1 h = some (r, s)) : s = h := ve_X14_pair_0 rfl r s e

theorem vk_X14_readVertex_93 {O : Nat → Prop} {z0 : vt_S} {h : vt_S} (hs : vw [1504, 1505, 1507, 1508, 1509] [] [] O z0 h) : vfr (vw [1504, 1505, 1507, 1508, 1509] [] [] O) z0 (ab_X14_readVertex_93 h) := by
  unfold ab_X14_readVertex_93
  exact vr_rt hs
theorem vk_X14_readVertex_87 {O : Nat → Prop} {z0 : vt_S} {k31 : Nat → Int32 → Int32 → Int32 → Int32 → Int32 → vt_S → Option (Unit × vt_S)} (hk31 : ∀ {x0 : Nat} {x1 : Int32} {x2 : Int32} {x3 : Int32} {x4 : Int32} {x5 : Int32} {h : vt_S}, O x0 → vw [1504, 1505, 1507, 1508, 1509] [] [] O z0 h → vfr (vw [1504, 1505, 1507, 1508, 1509] [] [] O) z0 (k31 x0 x1 x2 x3 x4 x5 h)) {x0 : Nat} {x1 : Int32} {x2 : Int32} {x3 : Int32} {x4 : Int32} {x5 : Int32} {h : vt_S} (ox0 : O x0) (hs : vw [1504, 1505, 1507, 1508, 1509] [] [] O z0 h) : vfr (vw [1504, 1505, 1507, 1508, 1509] [] [] O) z0 (ab_X14_readVertex_87 k31 x0 x1 x2 x3 x4 x5 h) := by
  unfold ab_X14_readVertex_87
  exact hk31 ox0 hs
theorem vk_X14_readVertex_31b {O : Nat → Prop} {z0 : vt_S} {k31 : Nat → Int32 → Int32 → Int32 → Int32 → Int32 → vt_S → Option (Unit × vt_S)} (hk31 : ∀ {x0 : Nat} {x1 : Int32} {x2 : Int32} {x3 : Int32} {x4 : Int32} {x5 : Int32} {h : vt_S}, O x0 → vw [1504, 1505, 1507, 1508, 1509] [] [] O z0 h → vfr (vw [1504, 1505, 1507, 1508, 1509] [] [] O) z0 (k31 x0 x1 x2 x3 x4 x5 h)) {x0 : Nat} {x1 : Int32} {x2 : Int32} {x3 : Int32} {x4 : Int32} {x5 : Int32} {h : vt_S} (ox0 : O x0) (hs : vw [1504, 1505, 1507, 1508, 1509] [] [] O z0 h) : vfr (vw [1504, 1505, 1507, 1508, 1509] [] [] O) z0 (ab_X14_readVertex_31b k31 x0 x1 x2 x3 x4 x5 h) := by
  unfold ab_X14_readVertex_31b
  refine vr_if ?_ ?_
  · exact vk_X14_readVertex_93 hs
  · refine vr_let (fun _ => ?_)
    refine vr_if ?_ ?_
    · refine vr_cl (fun _ _ e => (by rw [ve_X14_pair e]; exact hs)) (fun _ h hs => ?_)
      refine vr_if ?_ ?_
      · refine vr_cl (fun _ _ e => (by rw [ve_X14_pair e]; exact hs)) (fun _ h hs => ?_)
        refine vr_if ?_ ?_
        · refine vr_cl (fun _ _ e => (let q := vk_X14_wrong hs.2 ox0 e; ⟨hs.1.trans (q.1.weak (by decide) (by decide) (by decide)), q.2⟩)) (fun _ h hs => ?_)
          exact vk_X14_readVertex_87 hk31 ox0 hs
        · exact vk_X14_readVertex_87 hk31 ox0 hs
      · exact vk_X14_readVertex_87 hk31 ox0 hs
    · exact vk_X14_readVertex_93 hs
theorem vk_X14_readVertex_31 {O : Nat → Prop} {z0 : vt_S} : ∀ (n : Nat) {x0 : Nat} {x1 : Int32} {x2 : Int32} {x3 : Int32} {x4 : Int32} {x5 : Int32} {h : vt_S}, O x0 → vw [1504, 1505, 1507, 1508, 1509] [] [] O z0 h → vfr (vw [1504, 1505, 1507, 1508, 1509] [] [] O) z0 (ab_X14_readVertex_31 n x0 x1 x2 x3 x4 x5 h) := by
  intro n
  induction n with
  | zero => intro x0 x1 x2 x3 x4 x5 h ox0 hs; exact vr_no
  | succ n ih => intro x0 x1 x2 x3 x4 x5 h ox0 hs; exact vk_X14_readVertex_31b (fun ox0 hs => ih ox0 hs) ox0 hs
theorem vk_X14_readVertex_0 {O : Nat → Prop} {z0 : vt_S} {x0 : Nat} {x1 : Int32} {h : vt_S} (ox0 : O x0) (hs : vw [1504, 1505, 1507, 1508, 1509] [] [] O z0 h) : vfr (vw [1504, 1505, 1507, 1508, 1509] [] [] O) z0 (ab_X14_readVertex x0 x1 h) := by
  unfold ab_X14_readVertex
  refine vr_cl (fun _ _ e => (let q := vk_X14_nextTwo hs.2 ox0 e; ⟨hs.1.trans (q.1.weak (by decide) (by decide) (by decide)), q.2⟩)) (fun _ h hs => ?_)
  refine vr_let (fun _ => ?_)
  refine vr_cl (fun _ _ e => (let q := vk_X14_nextTwo hs.2 ox0 e; ⟨hs.1.trans (q.1.weak (by decide) (by decide) (by decide)), q.2⟩)) (fun _ h hs => ?_)
  exact vk_X14_readVertex_31 sv_fuel ox0 hs
theorem vk_X14_readVertex {O : Nat → Prop} {x0 : Nat} {x1 : Int32} {h : vt_S} {r : Unit} {s : vt_S} (c : vcl O h) (ox0 : O x0) (e : ab_X14_readVertex x0 x1 h = some (r, s)) : vw [1504, 1505, 1507, 1508, 1509] [] [] O h s := vk_X14_readVertex_0 ox0 ⟨vk.refl h, c⟩ r s e

theorem vk_X14_readTexture_47 {O : Nat → Prop} {z0 : vt_S} {h : vt_S} (hs : vw [1504, 1505, 1507, 1508, 1509] [] [] O z0 h) : vfr (vw [1504, 1505, 1507, 1508, 1509] [] [] O) z0 (ab_X14_readTexture_47 h) := by
  unfold ab_X14_readTexture_47
  exact vr_rt hs
theorem vk_X14_readTexture_16b {O : Nat → Prop} {z0 : vt_S} {k16 : Nat → Int32 → Int32 → Int32 → vt_S → Option (Unit × vt_S)} (hk16 : ∀ {x0 : Nat} {x1 : Int32} {x2 : Int32} {x3 : Int32} {h : vt_S}, O x0 → vw [1504, 1505, 1507, 1508, 1509] [] [] O z0 h → vfr (vw [1504, 1505, 1507, 1508, 1509] [] [] O) z0 (k16 x0 x1 x2 x3 h)) {x0 : Nat} {x1 : Int32} {x2 : Int32} {x3 : Int32} {h : vt_S} (ox0 : O x0) (hs : vw [1504, 1505, 1507, 1508, 1509] [] [] O z0 h) : vfr (vw [1504, 1505, 1507, 1508, 1509] [] [] O) z0 (ab_X14_readTexture_16b k16 x0 x1 x2 x3 h) := by
  unfold ab_X14_readTexture_16b
  refine vr_if ?_ ?_
  · exact vk_X14_readTexture_47 hs
  · refine vr_let (fun _ => ?_)
    refine vr_if ?_ ?_
    · refine vr_cl (fun _ _ e => (let q := vk_X14_next hs.2 ox0 e; ⟨hs.1.trans (q.1.weak (by decide) (by decide) (by decide)), q.2⟩)) (fun _ h hs => ?_)
      exact hk16 ox0 hs
    · exact vk_X14_readTexture_47 hs
theorem vk_X14_readTexture_16 {O : Nat → Prop} {z0 : vt_S} : ∀ (n : Nat) {x0 : Nat} {x1 : Int32} {x2 : Int32} {x3 : Int32} {h : vt_S}, O x0 → vw [1504, 1505, 1507, 1508, 1509] [] [] O z0 h → vfr (vw [1504, 1505, 1507, 1508, 1509] [] [] O) z0 (ab_X14_readTexture_16 n x0 x1 x2 x3 h) := by
  intro n
  induction n with
  | zero => intro x0 x1 x2 x3 h ox0 hs; exact vr_no
  | succ n ih => intro x0 x1 x2 x3 h ox0 hs; exact vk_X14_readTexture_16b (fun ox0 hs => ih ox0 hs) ox0 hs
theorem vk_X14_readTexture_0 {O : Nat → Prop} {z0 : vt_S} {x0 : Nat} {h : vt_S} (ox0 : O x0) (hs : vw [1504, 1505, 1507, 1508, 1509] [] [] O z0 h) : vfr (vw [1504, 1505, 1507, 1508, 1509] [] [] O) z0 (ab_X14_readTexture x0 h) := by
  unfold ab_X14_readTexture
  refine vr_cl (fun _ _ e => (let q := vk_X14_next hs.2 ox0 e; ⟨hs.1.trans (q.1.weak (by decide) (by decide) (by decide)), q.2⟩)) (fun _ h hs => ?_)
  refine vr_cl (fun _ _ e => (let q := vk_X14_next hs.2 ox0 e; ⟨hs.1.trans (q.1.weak (by decide) (by decide) (by decide)), q.2⟩)) (fun _ h hs => ?_)
  exact vk_X14_readTexture_16 sv_fuel ox0 hs
theorem vk_X14_readTexture {O : Nat → Prop} {x0 : Nat} {h : vt_S} {r : Unit} {s : vt_S} (c : vcl O h) (ox0 : O x0) (e : ab_X14_readTexture x0 h = some (r, s)) : vw [1504, 1505, 1507, 1508, 1509] [] [] O h s := vk_X14_readTexture_0 ox0 ⟨vk.refl h, c⟩ r s e

theorem vk_X14_nextOr_39 {O : Nat → Prop} {z0 : vt_S} {x2 : Int32} {h : vt_S} (hs : vw [1504, 1505, 1507, 1508, 1509] [] [] O z0 h) : vfr (vw [1504, 1505, 1507, 1508, 1509] [] [] O) z0 (ab_X14_nextOr_39 x2 h) := by
  unfold ab_X14_nextOr_39
  exact vr_rt hs
theorem vk_X14_nextOr_0 {O : Nat → Prop} {z0 : vt_S} {x0 : Nat} {x1 : Int32} {h : vt_S} (ox0 : O x0) (hs : vw [1504, 1505, 1507, 1508, 1509] [] [] O z0 h) : vfr (vw [1504, 1505, 1507, 1508, 1509] [] [] O) z0 (ab_X14_nextOr x0 x1 h) := by
  unfold ab_X14_nextOr
  refine vr_cl (fun _ _ e => (let q := vk_X14_next hs.2 ox0 e; ⟨hs.1.trans (q.1.weak (by decide) (by decide) (by decide)), q.2⟩)) (fun _ h hs => ?_)
  refine vr_let (fun _ => ?_)
  refine vr_if ?_ ?_
  · refine vr_if ?_ ?_
    · exact vk_X14_nextOr_39 hs
    · refine vr_if ?_ ?_
      · exact vk_X14_nextOr_39 hs
      · refine vr_let (fun _ => ?_)
        refine vr_cl (fun _ _ e => (let q := vk_X14_wrong hs.2 ox0 e; ⟨hs.1.trans (q.1.weak (by decide) (by decide) (by decide)), q.2⟩)) (fun _ h hs => ?_)
        exact vk_X14_nextOr_39 hs
  · exact vk_X14_nextOr_39 hs
theorem vk_X14_nextOr {O : Nat → Prop} {x0 : Nat} {x1 : Int32} {h : vt_S} {r : Int32} {s : vt_S} (c : vcl O h) (ox0 : O x0) (e : ab_X14_nextOr x0 x1 h = some (r, s)) : vw [1504, 1505, 1507, 1508, 1509] [] [] O h s := vk_X14_nextOr_0 ox0 ⟨vk.refl h, c⟩ r s e

theorem vk_X14_readSector_47 {O : Nat → Prop} {z0 : vt_S} {x0 : Nat} {x1 : Int32} {h : vt_S} (ox0 : O x0) (hs : vw [1504, 1505, 1507, 1508, 1509] [] [] O z0 h) : vfr (vw [1504, 1505, 1507, 1508, 1509] [] [] O) z0 (ab_X14_readSector_47 x0 x1 h) := by
  unfold ab_X14_readSector_47
  refine vr_cl (fun _ _ e => (let q := vk_X14_next hs.2 ox0 e; ⟨hs.1.trans (q.1.weak (by decide) (by decide) (by decide)), q.2⟩)) (fun _ h hs => ?_)
  refine vr_cl (fun _ _ e => (let q := vk_X14_nextOr hs.2 ox0 e; ⟨hs.1.trans (q.1.weak (by decide) (by decide) (by decide)), q.2⟩)) (fun _ h hs => ?_)
  refine vr_cl (fun _ _ e => (let q := vk_X14_next hs.2 ox0 e; ⟨hs.1.trans (q.1.weak (by decide) (by decide) (by decide)), q.2⟩)) (fun _ h hs => ?_)
  refine vr_cl (fun _ _ e => (let q := vk_X14_next hs.2 ox0 e; ⟨hs.1.trans (q.1.weak (by decide) (by decide) (by decide)), q.2⟩)) (fun _ h hs => ?_)
  refine vr_cl (fun _ _ e => (let q := vk_X14_next hs.2 ox0 e; ⟨hs.1.trans (q.1.weak (by decide) (by decide) (by decide)), q.2⟩)) (fun _ h hs => ?_)
  exact vr_rt hs
theorem vk_X14_readSector_0 {O : Nat → Prop} {z0 : vt_S} {x0 : Nat} {x1 : Int32} {h : vt_S} (ox0 : O x0) (hs : vw [1504, 1505, 1507, 1508, 1509] [] [] O z0 h) : vfr (vw [1504, 1505, 1507, 1508, 1509] [] [] O) z0 (ab_X14_readSector x0 x1 h) := by
  unfold ab_X14_readSector
  refine vr_cl (fun _ _ e => (let q := vk_X14_nextTwo hs.2 ox0 e; ⟨hs.1.trans (q.1.weak (by decide) (by decide) (by decide)), q.2⟩)) (fun _ h hs => ?_)
  refine vr_let (fun _ => ?_)
  refine vr_cl (fun _ _ e => (let q := vk_X14_nextTwo hs.2 ox0 e; ⟨hs.1.trans (q.1.weak (by decide) (by decide) (by decide)), q.2⟩)) (fun _ h hs => ?_)
  refine vr_let (fun _ => ?_)
  refine vr_if ?_ ?_
  · refine vr_if ?_ ?_
    · exact vk_X14_readSector_47 ox0 hs
    · refine vr_cl (fun _ _ e => (let q := vk_X14_wrong hs.2 ox0 e; ⟨hs.1.trans (q.1.weak (by decide) (by decide) (by decide)), q.2⟩)) (fun _ h hs => ?_)
      exact vk_X14_readSector_47 ox0 hs
  · exact vk_X14_readSector_47 ox0 hs
theorem vk_X14_readSector {O : Nat → Prop} {x0 : Nat} {x1 : Int32} {h : vt_S} {r : Unit} {s : vt_S} (c : vcl O h) (ox0 : O x0) (e : ab_X14_readSector x0 x1 h = some (r, s)) : vw [1504, 1505, 1507, 1508, 1509] [] [] O h s := vk_X14_readSector_0 ox0 ⟨vk.refl h, c⟩ r s e

theorem vk_X14_readWall_119 {O : Nat → Prop} {z0 : vt_S} {k65 : Nat → Int32 → Int32 → Int32 → vt_S → Option (Unit × vt_S)} (hk65 : ∀ {x0 : Nat} {x2 : Int32} {x7 : Int32} {x8 : Int32} {h : vt_S}, O x0 → vw [1504, 1505, 1507, 1508, 1509] [] [] O z0 h → vfr (vw [1504, 1505, 1507, 1508, 1509] [] [] O) z0 (k65 x0 x2 x7 x8 h)) {x0 : Nat} {x2 : Int32} {x7 : Int32} {x8 : Int32} {h : vt_S} (ox0 : O x0) (hs : vw [1504, 1505, 1507, 1508, 1509] [] [] O z0 h) : vfr (vw [1504, 1505, 1507, 1508, 1509] [] [] O) z0 (ab_X14_readWall_119 k65 x0 x2 x7 x8 h) := by
  unfold ab_X14_readWall_119
  exact hk65 ox0 hs
theorem vk_X14_readWall_65b {O : Nat → Prop} {z0 : vt_S} {k65 : Nat → Int32 → Int32 → Int32 → vt_S → Option (Unit × vt_S)} (hk65 : ∀ {x0 : Nat} {x2 : Int32} {x7 : Int32} {x8 : Int32} {h : vt_S}, O x0 → vw [1504, 1505, 1507, 1508, 1509] [] [] O z0 h → vfr (vw [1504, 1505, 1507, 1508, 1509] [] [] O) z0 (k65 x0 x2 x7 x8 h)) {x0 : Nat} {x2 : Int32} {x7 : Int32} {x8 : Int32} {h : vt_S} (ox0 : O x0) (hs : vw [1504, 1505, 1507, 1508, 1509] [] [] O z0 h) : vfr (vw [1504, 1505, 1507, 1508, 1509] [] [] O) z0 (ab_X14_readWall_65b k65 x0 x2 x7 x8 h) := by
  unfold ab_X14_readWall_65b
  refine vr_if ?_ ?_
  · refine vr_cl (fun _ _ e => (let q := vk_X14_next hs.2 ox0 e; ⟨hs.1.trans (q.1.weak (by decide) (by decide) (by decide)), q.2⟩)) (fun _ h hs => ?_)
    refine vr_cl (fun _ _ e => (let q := vk_X14_next hs.2 ox0 e; ⟨hs.1.trans (q.1.weak (by decide) (by decide) (by decide)), q.2⟩)) (fun _ h hs => ?_)
    refine vr_cl (fun _ _ e => (let q := vk_X14_next hs.2 ox0 e; ⟨hs.1.trans (q.1.weak (by decide) (by decide) (by decide)), q.2⟩)) (fun _ h hs => ?_)
    refine vr_cl (fun _ _ e => (let q := vk_X14_next hs.2 ox0 e; ⟨hs.1.trans (q.1.weak (by decide) (by decide) (by decide)), q.2⟩)) (fun _ h hs => ?_)
    exact vr_rt hs
  · refine vr_cl (fun _ _ e => (let q := vk_X14_nextOr hs.2 ox0 e; ⟨hs.1.trans (q.1.weak (by decide) (by decide) (by decide)), q.2⟩)) (fun _ h hs => ?_)
    refine vr_let (fun _ => ?_)
    refine vr_if ?_ ?_
    · refine vr_if ?_ ?_
      · exact vk_X14_readWall_119 hk65 ox0 hs
      · refine vr_if ?_ ?_
        · refine vr_if ?_ ?_
          · exact vk_X14_readWall_119 hk65 ox0 hs
          · refine vr_let (fun _ => ?_)
            refine vr_cl (fun _ _ e => (let q := vk_X14_wrong hs.2 ox0 e; ⟨hs.1.trans (q.1.weak (by decide) (by decide) (by decide)), q.2⟩)) (fun _ h hs => ?_)
            exact vk_X14_readWall_119 hk65 ox0 hs
        · exact vk_X14_readWall_119 hk65 ox0 hs
    · exact vk_X14_readWall_119 hk65 ox0 hs
theorem vk_X14_readWall_65 {O : Nat → Prop} {z0 : vt_S} : ∀ (n : Nat) {x0 : Nat} {x2 : Int32} {x7 : Int32} {x8 : Int32} {h : vt_S}, O x0 → vw [1504, 1505, 1507, 1508, 1509] [] [] O z0 h → vfr (vw [1504, 1505, 1507, 1508, 1509] [] [] O) z0 (ab_X14_readWall_65 n x0 x2 x7 x8 h) := by
  intro n
  induction n with
  | zero => intro x0 x2 x7 x8 h ox0 hs; exact vr_no
  | succ n ih => intro x0 x2 x7 x8 h ox0 hs; exact vk_X14_readWall_65b (fun ox0 hs => ih ox0 hs) ox0 hs
theorem vk_X14_readWall_45 {O : Nat → Prop} {z0 : vt_S} {x0 : Nat} {x2 : Int32} {x3 : Int32} {h : vt_S} (ox0 : O x0) (hs : vw [1504, 1505, 1507, 1508, 1509] [] [] O z0 h) : vfr (vw [1504, 1505, 1507, 1508, 1509] [] [] O) z0 (ab_X14_readWall_45 x0 x2 x3 h) := by
  unfold ab_X14_readWall_45
  refine vr_cl (fun _ _ e => (let q := vk_X14_next hs.2 ox0 e; ⟨hs.1.trans (q.1.weak (by decide) (by decide) (by decide)), q.2⟩)) (fun _ h hs => ?_)
  refine vr_cl (fun _ _ e => (let q := vk_X14_nextOr hs.2 ox0 e; ⟨hs.1.trans (q.1.weak (by decide) (by decide) (by decide)), q.2⟩)) (fun _ h hs => ?_)
  exact vk_X14_readWall_65 sv_fuel ox0 hs
theorem vk_X14_readWall_0 {O : Nat → Prop} {z0 : vt_S} {x0 : Nat} {x1 : Int32} {x2 : Int32} {x3 : Int32} {h : vt_S} (ox0 : O x0) (hs : vw [1504, 1505, 1507, 1508, 1509] [] [] O z0 h) : vfr (vw [1504, 1505, 1507, 1508, 1509] [] [] O) z0 (ab_X14_readWall x0 x1 x2 x3 h) := by
  unfold ab_X14_readWall
  refine vr_cl (fun _ _ e => (let q := vk_X14_next hs.2 ox0 e; ⟨hs.1.trans (q.1.weak (by decide) (by decide) (by decide)), q.2⟩)) (fun _ h hs => ?_)
  refine vr_cl (fun _ _ e => (let q := vk_X14_next hs.2 ox0 e; ⟨hs.1.trans (q.1.weak (by decide) (by decide) (by decide)), q.2⟩)) (fun _ h hs => ?_)
  refine vr_let (fun _ => ?_)
  refine vr_if ?_ ?_
  · refine vr_if ?_ ?_
    · refine vr_let (fun _ => ?_)
      refine vr_cl (fun _ _ e => (let q := vk_X14_wrong hs.2 ox0 e; ⟨hs.1.trans (q.1.weak (by decide) (by decide) (by decide)), q.2⟩)) (fun _ h hs => ?_)
      exact vk_X14_readWall_45 ox0 hs
    · exact vk_X14_readWall_45 ox0 hs
  · exact vk_X14_readWall_45 ox0 hs
theorem vk_X14_readWall {O : Nat → Prop} {x0 : Nat} {x1 : Int32} {x2 : Int32} {x3 : Int32} {h : vt_S} {r : Unit} {s : vt_S} (c : vcl O h) (ox0 : O x0) (e : ab_X14_readWall x0 x1 x2 x3 h = some (r, s)) : vw [1504, 1505, 1507, 1508, 1509] [] [] O h s := vk_X14_readWall_0 ox0 ⟨vk.refl h, c⟩ r s e

theorem vk_X14_readCheck_32 {O : Nat → Prop} {z0 : vt_S} {h : vt_S} (hs : vw [1504, 1505, 1507, 1508, 1509] [] [] O z0 h) : vfr (vw [1504, 1505, 1507, 1508, 1509] [] [] O) z0 (ab_X14_readCheck_32 h) := by
  unfold ab_X14_readCheck_32
  exact vr_rt hs
theorem vk_X14_readCheck_0 {O : Nat → Prop} {z0 : vt_S} {x0 : Nat} {x1 : Int32} {h : vt_S} (ox0 : O x0) (hs : vw [1504, 1505, 1507, 1508, 1509] [] [] O z0 h) : vfr (vw [1504, 1505, 1507, 1508, 1509] [] [] O) z0 (ab_X14_readCheck x0 x1 h) := by
  unfold ab_X14_readCheck
  refine vr_let (fun _ => ?_)
  refine vr_cl (fun _ _ e => (let q := vk_X14_next hs.2 ox0 e; ⟨hs.1.trans (q.1.weak (by decide) (by decide) (by decide)), q.2⟩)) (fun _ h hs => ?_)
  refine vr_let (fun _ => ?_)
  refine vr_if ?_ ?_
  · refine vr_if ?_ ?_
    · exact vk_X14_readCheck_32 hs
    · refine vr_cl (fun _ _ e => (let q := vk_X14_wrong hs.2 ox0 e; ⟨hs.1.trans (q.1.weak (by decide) (by decide) (by decide)), q.2⟩)) (fun _ h hs => ?_)
      exact vk_X14_readCheck_32 hs
  · exact vk_X14_readCheck_32 hs
theorem vk_X14_readCheck {O : Nat → Prop} {x0 : Nat} {x1 : Int32} {h : vt_S} {r : Unit} {s : vt_S} (c : vcl O h) (ox0 : O x0) (e : ab_X14_readCheck x0 x1 h = some (r, s)) : vw [1504, 1505, 1507, 1508, 1509] [] [] O h s := vk_X14_readCheck_0 ox0 ⟨vk.refl h, c⟩ r s e

theorem ve_X14_vertexOf_0 {z0 : vt_S} {x0 : Nat} {x1 : Int32} {x2 : Int32} {h : vt_S} (hs : veq z0 h) : vfr veq z0 (ab_X14_vertexOf x0 x1 x2 h) := by
  unfold ab_X14_vertexOf
  refine vr_bd (fun _ => ?_)
  exact vr_rt hs
theorem ve_X14_vertexOf {x0 : Nat} {x1 : Int32} {x2 : Int32} {h : vt_S} {r : Int32} {s : vt_S} (e : ab_X14_vertexOf x0 x1 x2 h = some (r, s)) : s = h := ve_X14_vertexOf_0 rfl r s e

theorem ve_X14_cross_0 {z0 : vt_S} {x0 : Int64} {x2 : Int64} {x4 : Int64} {x6 : Int64} {h : vt_S} (hs : veq z0 h) : vfr veq z0 (ab_X14_cross x0 x2 x4 x6 h) := by
  unfold ab_X14_cross
  exact vr_rt hs
theorem ve_X14_cross {x0 : Int64} {x2 : Int64} {x4 : Int64} {x6 : Int64} {h : vt_S} {r : Int64} {s : vt_S} (e : ab_X14_cross x0 x2 x4 x6 h = some (r, s)) : s = h := ve_X14_cross_0 rfl r s e

theorem ve_X14_side_153 {z0 : vt_S} {s0 : Int32} {h : vt_S} (hs : veq z0 h) : vfr veq z0 (ab_X14_side_153 s0 h) := by
  unfold ab_X14_side_153
  exact vr_rt hs
theorem ve_X14_side_0 {z0 : vt_S} {x0 : Nat} {x1 : Int32} {x2 : Int32} {h : vt_S} (hs : veq z0 h) : vfr veq z0 (ab_X14_side x0 x1 x2 h) := by
  unfold ab_X14_side
  refine vr_cl (fun _ _ e => ((ve_X14_vertexOf e).trans hs)) (fun _ h hs => ?_)
  refine vr_cl (fun _ _ e => ((ve_X14_pair e).trans hs)) (fun _ h hs => ?_)
  refine vr_cl (fun _ _ e => ((ve_X14_vertexOf e).trans hs)) (fun _ h hs => ?_)
  refine vr_cl (fun _ _ e => ((ve_X14_pair e).trans hs)) (fun _ h hs => ?_)
  refine vr_cl (fun _ _ e => ((ve_X14_vertexOf e).trans hs)) (fun _ h hs => ?_)
  refine vr_cl (fun _ _ e => ((ve_X14_pair e).trans hs)) (fun _ h hs => ?_)
  refine vr_cl (fun _ _ e => ((ve_X14_vertexOf e).trans hs)) (fun _ h hs => ?_)
  refine vr_cl (fun _ _ e => ((ve_X14_pair e).trans hs)) (fun _ h hs => ?_)
  refine vr_cl (fun _ _ e => ((ve_X14_pair e).trans hs)) (fun _ h hs => ?_)
  refine vr_cl (fun _ _ e => ((ve_X14_pair e).trans hs)) (fun _ h hs => ?_)
  refine vr_cl (fun _ _ e => ((ve_X14_cross e).trans hs)) (fun _ h hs => ?_)
  refine vr_if ?_ ?_
  · refine vr_if ?_ ?_
    · exact ve_X14_side_153 hs
    · exact ve_X14_side_153 hs
  · exact ve_X14_side_153 hs
theorem ve_X14_side {x0 : Nat} {x1 : Int32} {x2 : Int32} {h : vt_S} {r : Int32} {s : vt_S} (e : ab_X14_side x0 x1 x2 h = some (r, s)) : s = h := ve_X14_side_0 rfl r s e

theorem ve_X14_lies_35 {z0 : vt_S} {h : vt_S} (hs : veq z0 h) : vfr veq z0 (ab_X14_lies_35 h) := by
  unfold ab_X14_lies_35
  exact vr_rt hs
theorem ve_X14_lies_156 {z0 : vt_S} {s0 : Int32} {h : vt_S} (hs : veq z0 h) : vfr veq z0 (ab_X14_lies_156 s0 h) := by
  unfold ab_X14_lies_156
  exact vr_rz hs
theorem ve_X14_lies_0 {z0 : vt_S} {x0 : Nat} {x1 : Int32} {x2 : Int32} {h : vt_S} (hs : veq z0 h) : vfr veq z0 (ab_X14_lies x0 x1 x2 h) := by
  unfold ab_X14_lies
  refine vr_cl (fun _ _ e => ((ve_X14_vertexOf e).trans hs)) (fun _ h hs => ?_)
  refine vr_cl (fun _ _ e => ((ve_X14_vertexOf e).trans hs)) (fun _ h hs => ?_)
  refine vr_if ?_ ?_
  · exact ve_X14_lies_35 hs
  · refine vr_if ?_ ?_
    · exact ve_X14_lies_35 hs
    · refine vr_cl (fun _ _ e => ((ve_X14_side e).trans hs)) (fun _ h hs => ?_)
      refine vr_if ?_ ?_
      · refine vr_cl (fun _ _ e => ((ve_X14_pair e).trans hs)) (fun _ h hs => ?_)
        refine vr_cl (fun _ _ e => ((ve_X14_pair e).trans hs)) (fun _ h hs => ?_)
        refine vr_cl (fun _ _ e => ((ve_X14_pair e).trans hs)) (fun _ h hs => ?_)
        refine vr_cl (fun _ _ e => ((ve_X14_pair e).trans hs)) (fun _ h hs => ?_)
        refine vr_cl (fun _ _ e => ((ve_X14_pair e).trans hs)) (fun _ h hs => ?_)
        refine vr_cl (fun _ _ e => ((ve_X14_pair e).trans hs)) (fun _ h hs => ?_)
        refine vr_if ?_ ?_
        · exact ve_X14_lies_156 hs
        · exact ve_X14_lies_156 hs
      · exact ve_X14_lies_35 hs
theorem ve_X14_lies {x0 : Nat} {x1 : Int32} {x2 : Int32} {h : vt_S} {r : Int32} {s : vt_S} (e : ab_X14_lies x0 x1 x2 h = some (r, s)) : s = h := ve_X14_lies_0 rfl r s e

theorem ve_X14_touch_160 {z0 : vt_S} {s0 : Int32} {h : vt_S} (hs : veq z0 h) : vfr veq z0 (ab_X14_touch_160 s0 h) := by
  unfold ab_X14_touch_160
  exact vr_rz hs
theorem ve_X14_touch_155 {z0 : vt_S} {h : vt_S} (hs : veq z0 h) : vfr veq z0 (ab_X14_touch_155 h) := by
  unfold ab_X14_touch_155
  exact ve_X14_touch_160 hs
theorem ve_X14_touch_104 {z0 : vt_S} {x0 : Nat} {x1 : Int32} {x2 : Int32} {x3 : Int32} {x4 : Int32} {x5 : Int32} {x6 : Int32} {x7 : Int32} {s0 : Int32} {h : vt_S} (hs : veq z0 h) : vfr veq z0 (ab_X14_touch_104 x0 x1 x2 x3 x4 x5 x6 x7 s0 h) := by
  unfold ab_X14_touch_104
  refine vr_if ?_ ?_
  · refine vr_if ?_ ?_
    · refine vr_cl (fun _ _ e => ((ve_X14_lies e).trans hs)) (fun _ h hs => ?_)
      refine vr_if ?_ ?_
      · refine vr_cl (fun _ _ e => ((ve_X14_lies e).trans hs)) (fun _ h hs => ?_)
        refine vr_if ?_ ?_
        · refine vr_cl (fun _ _ e => ((ve_X14_lies e).trans hs)) (fun _ h hs => ?_)
          refine vr_if ?_ ?_
          · refine vr_cl (fun _ _ e => ((ve_X14_lies e).trans hs)) (fun _ h hs => ?_)
            refine vr_if ?_ ?_
            · exact ve_X14_touch_160 hs
            · exact ve_X14_touch_155 hs
          · exact ve_X14_touch_155 hs
        · exact ve_X14_touch_155 hs
      · exact ve_X14_touch_155 hs
    · exact ve_X14_touch_155 hs
  · exact ve_X14_touch_155 hs
theorem ve_X14_touch_103 {z0 : vt_S} {x0 : Nat} {x1 : Int32} {x2 : Int32} {x3 : Int32} {x4 : Int32} {x5 : Int32} {x6 : Int32} {x7 : Int32} {h : vt_S} (hs : veq z0 h) : vfr veq z0 (ab_X14_touch_103 x0 x1 x2 x3 x4 x5 x6 x7 h) := by
  unfold ab_X14_touch_103
  exact ve_X14_touch_104 hs
theorem ve_X14_touch_62 {z0 : vt_S} {x0 : Nat} {x1 : Int32} {x2 : Int32} {x3 : Int32} {x4 : Int32} {x5 : Int32} {x6 : Int32} {s0 : Int32} {h : vt_S} (hs : veq z0 h) : vfr veq z0 (ab_X14_touch_62 x0 x1 x2 x3 x4 x5 x6 s0 h) := by
  unfold ab_X14_touch_62
  refine vr_cl (fun _ _ e => ((ve_X14_side e).trans hs)) (fun _ h hs => ?_)
  refine vr_cl (fun _ _ e => ((ve_X14_side e).trans hs)) (fun _ h hs => ?_)
  refine vr_if ?_ ?_
  · exact ve_X14_touch_103 hs
  · refine vr_cl (fun _ _ e => ((ve_X14_side e).trans hs)) (fun _ h hs => ?_)
    refine vr_cl (fun _ _ e => ((ve_X14_side e).trans hs)) (fun _ h hs => ?_)
    refine vr_if ?_ ?_
    · exact ve_X14_touch_103 hs
    · exact ve_X14_touch_104 hs
theorem ve_X14_touch_57 {z0 : vt_S} {x0 : Nat} {x1 : Int32} {x2 : Int32} {x3 : Int32} {x4 : Int32} {x5 : Int32} {x6 : Int32} {h : vt_S} (hs : veq z0 h) : vfr veq z0 (ab_X14_touch_57 x0 x1 x2 x3 x4 x5 x6 h) := by
  unfold ab_X14_touch_57
  exact ve_X14_touch_62 hs
theorem ve_X14_touch_61 {z0 : vt_S} {x0 : Nat} {x1 : Int32} {x2 : Int32} {x3 : Int32} {x4 : Int32} {x5 : Int32} {x6 : Int32} {h : vt_S} (hs : veq z0 h) : vfr veq z0 (ab_X14_touch_61 x0 x1 x2 x3 x4 x5 x6 h) := by
  unfold ab_X14_touch_61
  exact ve_X14_touch_62 hs
theorem ve_X14_touch_43 {z0 : vt_S} {x0 : Nat} {x1 : Int32} {x2 : Int32} {x3 : Int32} {x4 : Int32} {x5 : Int32} {x6 : Int32} {h : vt_S} (hs : veq z0 h) : vfr veq z0 (ab_X14_touch_43 x0 x1 x2 x3 x4 x5 x6 h) := by
  unfold ab_X14_touch_43
  refine vr_if ?_ ?_
  · exact ve_X14_touch_57 hs
  · refine vr_if ?_ ?_
    · exact ve_X14_touch_57 hs
    · exact ve_X14_touch_61 hs
theorem ve_X14_touch_0 {z0 : vt_S} {x0 : Nat} {x1 : Int32} {x2 : Int32} {h : vt_S} (hs : veq z0 h) : vfr veq z0 (ab_X14_touch x0 x1 x2 h) := by
  unfold ab_X14_touch
  refine vr_cl (fun _ _ e => ((ve_X14_vertexOf e).trans hs)) (fun _ h hs => ?_)
  refine vr_cl (fun _ _ e => ((ve_X14_vertexOf e).trans hs)) (fun _ h hs => ?_)
  refine vr_cl (fun _ _ e => ((ve_X14_vertexOf e).trans hs)) (fun _ h hs => ?_)
  refine vr_cl (fun _ _ e => ((ve_X14_vertexOf e).trans hs)) (fun _ h hs => ?_)
  refine vr_if ?_ ?_
  · exact ve_X14_touch_43 hs
  · refine vr_if ?_ ?_
    · exact ve_X14_touch_43 hs
    · exact ve_X14_touch_61 hs
theorem ve_X14_touch {x0 : Nat} {x1 : Int32} {x2 : Int32} {h : vt_S} {r : Int32} {s : vt_S} (e : ab_X14_touch x0 x1 x2 h = some (r, s)) : s = h := ve_X14_touch_0 rfl r s e

theorem vk_X14_readAll_403 {O : Nat → Prop} {z0 : vt_S} {h : vt_S} (hs : vw [1504, 1505, 1506, 1507, 1508, 1509] [] [] O z0 h) : vfr (vw [1504, 1505, 1506, 1507, 1508, 1509] [] [] O) z0 (ab_X14_readAll_403 h) := by
  unfold ab_X14_readAll_403
  exact vr_rt hs
theorem vk_X14_readAll_397 {O : Nat → Prop} {z0 : vt_S} {k317 : Nat → Int32 → Int32 → Int32 → vt_S → Option (Unit × vt_S)} (hk317 : ∀ {x0 : Nat} {x4 : Int32} {x5 : Int32} {x12 : Int32} {h : vt_S}, O x0 → vw [1504, 1505, 1506, 1507, 1508, 1509] [] [] O z0 h → vfr (vw [1504, 1505, 1506, 1507, 1508, 1509] [] [] O) z0 (k317 x0 x4 x5 x12 h)) {x0 : Nat} {x4 : Int32} {x5 : Int32} {x12 : Int32} {h : vt_S} (ox0 : O x0) (hs : vw [1504, 1505, 1506, 1507, 1508, 1509] [] [] O z0 h) : vfr (vw [1504, 1505, 1506, 1507, 1508, 1509] [] [] O) z0 (ab_X14_readAll_397 k317 x0 x4 x5 x12 h) := by
  unfold ab_X14_readAll_397
  exact hk317 ox0 hs
theorem vk_X14_readAll_391 {O : Nat → Prop} {z0 : vt_S} {k317 : Nat → Int32 → Int32 → Int32 → vt_S → Option (Unit × vt_S)} (hk317 : ∀ {x0 : Nat} {x4 : Int32} {x5 : Int32} {x12 : Int32} {h : vt_S}, O x0 → vw [1504, 1505, 1506, 1507, 1508, 1509] [] [] O z0 h → vfr (vw [1504, 1505, 1506, 1507, 1508, 1509] [] [] O) z0 (k317 x0 x4 x5 x12 h)) {k334 : Nat → Int32 → Int32 → Int32 → Int32 → vt_S → Option (Unit × vt_S)} (hk334 : ∀ {x0 : Nat} {x4 : Int32} {x5 : Int32} {x12 : Int32} {x13 : Int32} {h : vt_S}, O x0 → vw [1504, 1505, 1506, 1507, 1508, 1509] [] [] O z0 h → vfr (vw [1504, 1505, 1506, 1507, 1508, 1509] [] [] O) z0 (k334 x0 x4 x5 x12 x13 h)) {x0 : Nat} {x4 : Int32} {x5 : Int32} {x12 : Int32} {x13 : Int32} {h : vt_S} (ox0 : O x0) (hs : vw [1504, 1505, 1506, 1507, 1508, 1509] [] [] O z0 h) : vfr (vw [1504, 1505, 1506, 1507, 1508, 1509] [] [] O) z0 (ab_X14_readAll_391 k317 k334 x0 x4 x5 x12 x13 h) := by
  unfold ab_X14_readAll_391
  exact hk334 ox0 hs
theorem vk_X14_readAll_334b {O : Nat → Prop} {z0 : vt_S} {k317 : Nat → Int32 → Int32 → Int32 → vt_S → Option (Unit × vt_S)} (hk317 : ∀ {x0 : Nat} {x4 : Int32} {x5 : Int32} {x12 : Int32} {h : vt_S}, O x0 → vw [1504, 1505, 1506, 1507, 1508, 1509] [] [] O z0 h → vfr (vw [1504, 1505, 1506, 1507, 1508, 1509] [] [] O) z0 (k317 x0 x4 x5 x12 h)) {k334 : Nat → Int32 → Int32 → Int32 → Int32 → vt_S → Option (Unit × vt_S)} (hk334 : ∀ {x0 : Nat} {x4 : Int32} {x5 : Int32} {x12 : Int32} {x13 : Int32} {h : vt_S}, O x0 → vw [1504, 1505, 1506, 1507, 1508, 1509] [] [] O z0 h → vfr (vw [1504, 1505, 1506, 1507, 1508, 1509] [] [] O) z0 (k334 x0 x4 x5 x12 x13 h)) {x0 : Nat} {x4 : Int32} {x5 : Int32} {x12 : Int32} {x13 : Int32} {h : vt_S} (ox0 : O x0) (hs : vw [1504, 1505, 1506, 1507, 1508, 1509] [] [] O z0 h) : vfr (vw [1504, 1505, 1506, 1507, 1508, 1509] [] [] O) z0 (ab_X14_readAll_334b k317 k334 x0 x4 x5 x12 x13 h) := by
  unfold ab_X14_readAll_334b
  refine vr_if ?_ ?_
  · exact vk_X14_readAll_397 hk317 ox0 hs
  · refine vr_let (fun _ => ?_)
    refine vr_if ?_ ?_
    · refine vr_cl (fun _ _ e => (by rw [ve_X14_touch e]; exact hs)) (fun _ h hs => ?_)
      refine vr_if ?_ ?_
      · exact vk_X14_readAll_391 hk317 hk334 ox0 hs
      · refine vr_cl (fun _ _ e => (let q := vk_X14_wrong hs.2 ox0 e; ⟨hs.1.trans (q.1.weak (by decide) (by decide) (by decide)), q.2⟩)) (fun _ h hs => ?_)
        refine vr_I hs (by decide) ox0 (fun h hs => ?_)
        exact vk_X14_readAll_391 hk317 hk334 ox0 hs
    · exact vk_X14_readAll_397 hk317 ox0 hs
theorem vk_X14_readAll_334 {O : Nat → Prop} {z0 : vt_S} {k317 : Nat → Int32 → Int32 → Int32 → vt_S → Option (Unit × vt_S)} (hk317 : ∀ {x0 : Nat} {x4 : Int32} {x5 : Int32} {x12 : Int32} {h : vt_S}, O x0 → vw [1504, 1505, 1506, 1507, 1508, 1509] [] [] O z0 h → vfr (vw [1504, 1505, 1506, 1507, 1508, 1509] [] [] O) z0 (k317 x0 x4 x5 x12 h)) : ∀ (n : Nat) {x0 : Nat} {x4 : Int32} {x5 : Int32} {x12 : Int32} {x13 : Int32} {h : vt_S}, O x0 → vw [1504, 1505, 1506, 1507, 1508, 1509] [] [] O z0 h → vfr (vw [1504, 1505, 1506, 1507, 1508, 1509] [] [] O) z0 (ab_X14_readAll_334 k317 n x0 x4 x5 x12 x13 h) := by
  intro n
  induction n with
  | zero => intro x0 x4 x5 x12 x13 h ox0 hs; exact vr_no
  | succ n ih => intro x0 x4 x5 x12 x13 h ox0 hs; exact vk_X14_readAll_334b hk317 (fun ox0 hs => ih ox0 hs) ox0 hs
theorem vk_X14_readAll_317b {O : Nat → Prop} {z0 : vt_S} {k317 : Nat → Int32 → Int32 → Int32 → vt_S → Option (Unit × vt_S)} (hk317 : ∀ {x0 : Nat} {x4 : Int32} {x5 : Int32} {x12 : Int32} {h : vt_S}, O x0 → vw [1504, 1505, 1506, 1507, 1508, 1509] [] [] O z0 h → vfr (vw [1504, 1505, 1506, 1507, 1508, 1509] [] [] O) z0 (k317 x0 x4 x5 x12 h)) {x0 : Nat} {x4 : Int32} {x5 : Int32} {x12 : Int32} {h : vt_S} (ox0 : O x0) (hs : vw [1504, 1505, 1506, 1507, 1508, 1509] [] [] O z0 h) : vfr (vw [1504, 1505, 1506, 1507, 1508, 1509] [] [] O) z0 (ab_X14_readAll_317b k317 x0 x4 x5 x12 h) := by
  unfold ab_X14_readAll_317b
  refine vr_if ?_ ?_
  · exact vk_X14_readAll_403 hs
  · refine vr_let (fun _ => ?_)
    refine vr_if ?_ ?_
    · exact vk_X14_readAll_334 hk317 sv_fuel ox0 hs
    · exact vk_X14_readAll_403 hs
theorem vk_X14_readAll_317 {O : Nat → Prop} {z0 : vt_S} : ∀ (n : Nat) {x0 : Nat} {x4 : Int32} {x5 : Int32} {x12 : Int32} {h : vt_S}, O x0 → vw [1504, 1505, 1506, 1507, 1508, 1509] [] [] O z0 h → vfr (vw [1504, 1505, 1506, 1507, 1508, 1509] [] [] O) z0 (ab_X14_readAll_317 n x0 x4 x5 x12 h) := by
  intro n
  induction n with
  | zero => intro x0 x4 x5 x12 h ox0 hs; exact vr_no
  | succ n ih => intro x0 x4 x5 x12 h ox0 hs; exact vk_X14_readAll_317b (fun ox0 hs => ih ox0 hs) ox0 hs
theorem vk_X14_readAll_314 {O : Nat → Prop} {z0 : vt_S} {x0 : Nat} {x4 : Int32} {x5 : Int32} {h : vt_S} (ox0 : O x0) (hs : vw [1504, 1505, 1506, 1507, 1508, 1509] [] [] O z0 h) : vfr (vw [1504, 1505, 1506, 1507, 1508, 1509] [] [] O) z0 (ab_X14_readAll_314 x0 x4 x5 h) := by
  unfold ab_X14_readAll_314
  exact vk_X14_readAll_317 sv_fuel ox0 hs
theorem vk_X14_readAll_220 {O : Nat → Prop} {z0 : vt_S} {x0 : Nat} {x3 : Int32} {x4 : Int32} {x5 : Int32} {h : vt_S} (ox0 : O x0) (hs : vw [1504, 1505, 1506, 1507, 1508, 1509] [] [] O z0 h) : vfr (vw [1504, 1505, 1506, 1507, 1508, 1509] [] [] O) z0 (ab_X14_readAll_220 x0 x3 x4 x5 h) := by
  unfold ab_X14_readAll_220
  refine vr_cl (fun _ _ e => (let q := vk_X14_nextTwo hs.2 ox0 e; ⟨hs.1.trans (q.1.weak (by decide) (by decide) (by decide)), q.2⟩)) (fun _ h hs => ?_)
  refine vr_cl (fun _ _ e => (let q := vk_X14_nextTwo hs.2 ox0 e; ⟨hs.1.trans (q.1.weak (by decide) (by decide) (by decide)), q.2⟩)) (fun _ h hs => ?_)
  refine vr_cl (fun _ _ e => (let q := vk_X14_next hs.2 ox0 e; ⟨hs.1.trans (q.1.weak (by decide) (by decide) (by decide)), q.2⟩)) (fun _ h hs => ?_)
  refine vr_cl (fun _ _ e => (let q := vk_X14_next hs.2 ox0 e; ⟨hs.1.trans (q.1.weak (by decide) (by decide) (by decide)), q.2⟩)) (fun _ h hs => ?_)
  refine vr_let (fun _ => ?_)
  refine vr_let (fun _ => ?_)
  refine vr_cl (fun _ _ e => (let q := vk_X14_readCheck hs.2 ox0 e; ⟨hs.1.trans (q.1.weak (by decide) (by decide) (by decide)), q.2⟩)) (fun _ h hs => ?_)
  refine vr_cl (fun _ _ e => (let q := vk_X14_readCheck hs.2 ox0 e; ⟨hs.1.trans (q.1.weak (by decide) (by decide) (by decide)), q.2⟩)) (fun _ h hs => ?_)
  refine vr_let (fun _ => ?_)
  refine vr_if ?_ ?_
  · refine vr_let (fun _ => ?_)
    refine vr_let (fun _ => ?_)
    refine vr_if ?_ ?_
    · exact vk_X14_readAll_314 ox0 hs
    · refine vr_let (fun _ => ?_)
      refine vr_cl (fun _ _ e => (let q := vk_X14_wrong hs.2 ox0 e; ⟨hs.1.trans (q.1.weak (by decide) (by decide) (by decide)), q.2⟩)) (fun _ h hs => ?_)
      exact vk_X14_readAll_314 ox0 hs
  · exact vk_X14_readAll_314 ox0 hs
theorem vk_X14_readAll_193b {O : Nat → Prop} {z0 : vt_S} {k193 : Nat → Int32 → Int32 → Int32 → Int32 → Int32 → Int32 → vt_S → Option (Unit × vt_S)} (hk193 : ∀ {x0 : Nat} {x1 : Int32} {x2 : Int32} {x3 : Int32} {x4 : Int32} {x5 : Int32} {x6 : Int32} {h : vt_S}, O x0 → vw [1504, 1505, 1506, 1507, 1508, 1509] [] [] O z0 h → vfr (vw [1504, 1505, 1506, 1507, 1508, 1509] [] [] O) z0 (k193 x0 x1 x2 x3 x4 x5 x6 h)) {x0 : Nat} {x1 : Int32} {x2 : Int32} {x3 : Int32} {x4 : Int32} {x5 : Int32} {x6 : Int32} {h : vt_S} (ox0 : O x0) (hs : vw [1504, 1505, 1506, 1507, 1508, 1509] [] [] O z0 h) : vfr (vw [1504, 1505, 1506, 1507, 1508, 1509] [] [] O) z0 (ab_X14_readAll_193b k193 x0 x1 x2 x3 x4 x5 x6 h) := by
  unfold ab_X14_readAll_193b
  refine vr_if ?_ ?_
  · exact vk_X14_readAll_220 ox0 hs
  · refine vr_let (fun _ => ?_)
    refine vr_if ?_ ?_
    · refine vr_cl (fun _ _ e => (let q := vk_X14_readWall hs.2 ox0 e; ⟨hs.1.trans (q.1.weak (by decide) (by decide) (by decide)), q.2⟩)) (fun _ h hs => ?_)
      exact hk193 ox0 hs
    · exact vk_X14_readAll_220 ox0 hs
theorem vk_X14_readAll_193 {O : Nat → Prop} {z0 : vt_S} : ∀ (n : Nat) {x0 : Nat} {x1 : Int32} {x2 : Int32} {x3 : Int32} {x4 : Int32} {x5 : Int32} {x6 : Int32} {h : vt_S}, O x0 → vw [1504, 1505, 1506, 1507, 1508, 1509] [] [] O z0 h → vfr (vw [1504, 1505, 1506, 1507, 1508, 1509] [] [] O) z0 (ab_X14_readAll_193 n x0 x1 x2 x3 x4 x5 x6 h) := by
  intro n
  induction n with
  | zero => intro x0 x1 x2 x3 x4 x5 x6 h ox0 hs; exact vr_no
  | succ n ih => intro x0 x1 x2 x3 x4 x5 x6 h ox0 hs; exact vk_X14_readAll_193b (fun ox0 hs => ih ox0 hs) ox0 hs
theorem vk_X14_readAll_184 {O : Nat → Prop} {z0 : vt_S} {x0 : Nat} {x1 : Int32} {x2 : Int32} {x3 : Int32} {x4 : Int32} {h : vt_S} (ox0 : O x0) (hs : vw [1504, 1505, 1506, 1507, 1508, 1509] [] [] O z0 h) : vfr (vw [1504, 1505, 1506, 1507, 1508, 1509] [] [] O) z0 (ab_X14_readAll_184 x0 x1 x2 x3 x4 h) := by
  unfold ab_X14_readAll_184
  refine vr_let (fun _ => ?_)
  exact vk_X14_readAll_193 sv_fuel ox0 hs
theorem vk_X14_readAll_160b {O : Nat → Prop} {z0 : vt_S} {k160 : Nat → Int32 → Int32 → Int32 → Int32 → Int32 → vt_S → Option (Unit × vt_S)} (hk160 : ∀ {x0 : Nat} {x1 : Int32} {x2 : Int32} {x3 : Int32} {x4 : Int32} {x5 : Int32} {h : vt_S}, O x0 → vw [1504, 1505, 1506, 1507, 1508, 1509] [] [] O z0 h → vfr (vw [1504, 1505, 1506, 1507, 1508, 1509] [] [] O) z0 (k160 x0 x1 x2 x3 x4 x5 h)) {x0 : Nat} {x1 : Int32} {x2 : Int32} {x3 : Int32} {x4 : Int32} {x5 : Int32} {h : vt_S} (ox0 : O x0) (hs : vw [1504, 1505, 1506, 1507, 1508, 1509] [] [] O z0 h) : vfr (vw [1504, 1505, 1506, 1507, 1508, 1509] [] [] O) z0 (ab_X14_readAll_160b k160 x0 x1 x2 x3 x4 x5 h) := by
  unfold ab_X14_readAll_160b
  refine vr_if ?_ ?_
  · exact vk_X14_readAll_184 ox0 hs
  · refine vr_let (fun _ => ?_)
    refine vr_if ?_ ?_
    · refine vr_cl (fun _ _ e => (let q := vk_X14_readSector hs.2 ox0 e; ⟨hs.1.trans (q.1.weak (by decide) (by decide) (by decide)), q.2⟩)) (fun _ h hs => ?_)
      exact hk160 ox0 hs
    · exact vk_X14_readAll_184 ox0 hs
theorem vk_X14_readAll_160 {O : Nat → Prop} {z0 : vt_S} : ∀ (n : Nat) {x0 : Nat} {x1 : Int32} {x2 : Int32} {x3 : Int32} {x4 : Int32} {x5 : Int32} {h : vt_S}, O x0 → vw [1504, 1505, 1506, 1507, 1508, 1509] [] [] O z0 h → vfr (vw [1504, 1505, 1506, 1507, 1508, 1509] [] [] O) z0 (ab_X14_readAll_160 n x0 x1 x2 x3 x4 x5 h) := by
  intro n
  induction n with
  | zero => intro x0 x1 x2 x3 x4 x5 h ox0 hs; exact vr_no
  | succ n ih => intro x0 x1 x2 x3 x4 x5 h ox0 hs; exact vk_X14_readAll_160b (fun ox0 hs => ih ox0 hs) ox0 hs
theorem vk_X14_readAll_157 {O : Nat → Prop} {z0 : vt_S} {x0 : Nat} {x1 : Int32} {x2 : Int32} {x3 : Int32} {x4 : Int32} {h : vt_S} (ox0 : O x0) (hs : vw [1504, 1505, 1506, 1507, 1508, 1509] [] [] O z0 h) : vfr (vw [1504, 1505, 1506, 1507, 1508, 1509] [] [] O) z0 (ab_X14_readAll_157 x0 x1 x2 x3 x4 h) := by
  unfold ab_X14_readAll_157
  exact vk_X14_readAll_160 sv_fuel ox0 hs
theorem vk_X14_readAll_134b {O : Nat → Prop} {z0 : vt_S} {k134 : Nat → Int32 → Int32 → Int32 → Int32 → Int32 → vt_S → Option (Unit × vt_S)} (hk134 : ∀ {x0 : Nat} {x1 : Int32} {x2 : Int32} {x3 : Int32} {x4 : Int32} {x5 : Int32} {h : vt_S}, O x0 → vw [1504, 1505, 1506, 1507, 1508, 1509] [] [] O z0 h → vfr (vw [1504, 1505, 1506, 1507, 1508, 1509] [] [] O) z0 (k134 x0 x1 x2 x3 x4 x5 h)) {x0 : Nat} {x1 : Int32} {x2 : Int32} {x3 : Int32} {x4 : Int32} {x5 : Int32} {h : vt_S} (ox0 : O x0) (hs : vw [1504, 1505, 1506, 1507, 1508, 1509] [] [] O z0 h) : vfr (vw [1504, 1505, 1506, 1507, 1508, 1509] [] [] O) z0 (ab_X14_readAll_134b k134 x0 x1 x2 x3 x4 x5 h) := by
  unfold ab_X14_readAll_134b
  refine vr_if ?_ ?_
  · exact vk_X14_readAll_157 ox0 hs
  · refine vr_let (fun _ => ?_)
    refine vr_if ?_ ?_
    · refine vr_cl (fun _ _ e => (let q := vk_X14_readTexture hs.2 ox0 e; ⟨hs.1.trans (q.1.weak (by decide) (by decide) (by decide)), q.2⟩)) (fun _ h hs => ?_)
      exact hk134 ox0 hs
    · exact vk_X14_readAll_157 ox0 hs
theorem vk_X14_readAll_134 {O : Nat → Prop} {z0 : vt_S} : ∀ (n : Nat) {x0 : Nat} {x1 : Int32} {x2 : Int32} {x3 : Int32} {x4 : Int32} {x5 : Int32} {h : vt_S}, O x0 → vw [1504, 1505, 1506, 1507, 1508, 1509] [] [] O z0 h → vfr (vw [1504, 1505, 1506, 1507, 1508, 1509] [] [] O) z0 (ab_X14_readAll_134 n x0 x1 x2 x3 x4 x5 h) := by
  intro n
  induction n with
  | zero => intro x0 x1 x2 x3 x4 x5 h ox0 hs; exact vr_no
  | succ n ih => intro x0 x1 x2 x3 x4 x5 h ox0 hs; exact vk_X14_readAll_134b (fun ox0 hs => ih ox0 hs) ox0 hs
theorem vk_X14_readAll_131 {O : Nat → Prop} {z0 : vt_S} {x0 : Nat} {x1 : Int32} {x2 : Int32} {x3 : Int32} {x4 : Int32} {h : vt_S} (ox0 : O x0) (hs : vw [1504, 1505, 1506, 1507, 1508, 1509] [] [] O z0 h) : vfr (vw [1504, 1505, 1506, 1507, 1508, 1509] [] [] O) z0 (ab_X14_readAll_131 x0 x1 x2 x3 x4 h) := by
  unfold ab_X14_readAll_131
  exact vk_X14_readAll_134 sv_fuel ox0 hs
theorem vk_X14_readAll_106b {O : Nat → Prop} {z0 : vt_S} {k106 : Nat → Int32 → Int32 → Int32 → Int32 → Int32 → vt_S → Option (Unit × vt_S)} (hk106 : ∀ {x0 : Nat} {x1 : Int32} {x2 : Int32} {x3 : Int32} {x4 : Int32} {x5 : Int32} {h : vt_S}, O x0 → vw [1504, 1505, 1506, 1507, 1508, 1509] [] [] O z0 h → vfr (vw [1504, 1505, 1506, 1507, 1508, 1509] [] [] O) z0 (k106 x0 x1 x2 x3 x4 x5 h)) {x0 : Nat} {x1 : Int32} {x2 : Int32} {x3 : Int32} {x4 : Int32} {x5 : Int32} {h : vt_S} (ox0 : O x0) (hs : vw [1504, 1505, 1506, 1507, 1508, 1509] [] [] O z0 h) : vfr (vw [1504, 1505, 1506, 1507, 1508, 1509] [] [] O) z0 (ab_X14_readAll_106b k106 x0 x1 x2 x3 x4 x5 h) := by
  unfold ab_X14_readAll_106b
  refine vr_if ?_ ?_
  · exact vk_X14_readAll_131 ox0 hs
  · refine vr_let (fun _ => ?_)
    refine vr_if ?_ ?_
    · refine vr_cl (fun _ _ e => (let q := vk_X14_readVertex hs.2 ox0 e; ⟨hs.1.trans (q.1.weak (by decide) (by decide) (by decide)), q.2⟩)) (fun _ h hs => ?_)
      exact hk106 ox0 hs
    · exact vk_X14_readAll_131 ox0 hs
theorem vk_X14_readAll_106 {O : Nat → Prop} {z0 : vt_S} : ∀ (n : Nat) {x0 : Nat} {x1 : Int32} {x2 : Int32} {x3 : Int32} {x4 : Int32} {x5 : Int32} {h : vt_S}, O x0 → vw [1504, 1505, 1506, 1507, 1508, 1509] [] [] O z0 h → vfr (vw [1504, 1505, 1506, 1507, 1508, 1509] [] [] O) z0 (ab_X14_readAll_106 n x0 x1 x2 x3 x4 x5 h) := by
  intro n
  induction n with
  | zero => intro x0 x1 x2 x3 x4 x5 h ox0 hs; exact vr_no
  | succ n ih => intro x0 x1 x2 x3 x4 x5 h ox0 hs; exact vk_X14_readAll_106b (fun ox0 hs => ih ox0 hs) ox0 hs
theorem vk_X14_readAll_68 {O : Nat → Prop} {z0 : vt_S} {x0 : Nat} {h : vt_S} (ox0 : O x0) (hs : vw [1504, 1505, 1506, 1507, 1508, 1509] [] [] O z0 h) : vfr (vw [1504, 1505, 1506, 1507, 1508, 1509] [] [] O) z0 (ab_X14_readAll_68 x0 h) := by
  unfold ab_X14_readAll_68
  refine vr_cl (fun _ _ e => (let q := vk_X14_next hs.2 ox0 e; ⟨hs.1.trans (q.1.weak (by decide) (by decide) (by decide)), q.2⟩)) (fun _ h hs => ?_)
  refine vr_cl (fun _ _ e => (let q := vk_X14_next hs.2 ox0 e; ⟨hs.1.trans (q.1.weak (by decide) (by decide) (by decide)), q.2⟩)) (fun _ h hs => ?_)
  refine vr_cl (fun _ _ e => (let q := vk_X14_next hs.2 ox0 e; ⟨hs.1.trans (q.1.weak (by decide) (by decide) (by decide)), q.2⟩)) (fun _ h hs => ?_)
  refine vr_cl (fun _ _ e => (let q := vk_X14_next hs.2 ox0 e; ⟨hs.1.trans (q.1.weak (by decide) (by decide) (by decide)), q.2⟩)) (fun _ h hs => ?_)
  exact vk_X14_readAll_106 sv_fuel ox0 hs
theorem vk_X14_readAll_62 {O : Nat → Prop} {z0 : vt_S} {k2 : Nat → Int32 → vt_S → Option (Unit × vt_S)} (hk2 : ∀ {x0 : Nat} {x1 : Int32} {h : vt_S}, O x0 → vw [1504, 1505, 1506, 1507, 1508, 1509] [] [] O z0 h → vfr (vw [1504, 1505, 1506, 1507, 1508, 1509] [] [] O) z0 (k2 x0 x1 h)) {x0 : Nat} {x1 : Int32} {h : vt_S} (ox0 : O x0) (hs : vw [1504, 1505, 1506, 1507, 1508, 1509] [] [] O z0 h) : vfr (vw [1504, 1505, 1506, 1507, 1508, 1509] [] [] O) z0 (ab_X14_readAll_62 k2 x0 x1 h) := by
  unfold ab_X14_readAll_62
  exact hk2 ox0 hs
theorem vk_X14_readAll_34 {O : Nat → Prop} {z0 : vt_S} {k2 : Nat → Int32 → vt_S → Option (Unit × vt_S)} (hk2 : ∀ {x0 : Nat} {x1 : Int32} {h : vt_S}, O x0 → vw [1504, 1505, 1506, 1507, 1508, 1509] [] [] O z0 h → vfr (vw [1504, 1505, 1506, 1507, 1508, 1509] [] [] O) z0 (k2 x0 x1 h)) {x0 : Nat} {x1 : Int32} {s0 : Int32} {h : vt_S} (ox0 : O x0) (hs : vw [1504, 1505, 1506, 1507, 1508, 1509] [] [] O z0 h) : vfr (vw [1504, 1505, 1506, 1507, 1508, 1509] [] [] O) z0 (ab_X14_readAll_34 k2 x0 x1 s0 h) := by
  unfold ab_X14_readAll_34
  refine vr_cl (fun _ _ e => (let q := vk_X14_next hs.2 ox0 e; ⟨hs.1.trans (q.1.weak (by decide) (by decide) (by decide)), q.2⟩)) (fun _ h hs => ?_)
  refine vr_let (fun _ => ?_)
  refine vr_if ?_ ?_
  · refine vr_if ?_ ?_
    · exact vk_X14_readAll_62 hk2 ox0 hs
    · refine vr_cl (fun _ _ e => (let q := vk_X14_wrong hs.2 ox0 e; ⟨hs.1.trans (q.1.weak (by decide) (by decide) (by decide)), q.2⟩)) (fun _ h hs => ?_)
      exact vk_X14_readAll_62 hk2 ox0 hs
  · exact vk_X14_readAll_62 hk2 ox0 hs
theorem vk_X14_readAll_2b {O : Nat → Prop} {z0 : vt_S} {k2 : Nat → Int32 → vt_S → Option (Unit × vt_S)} (hk2 : ∀ {x0 : Nat} {x1 : Int32} {h : vt_S}, O x0 → vw [1504, 1505, 1506, 1507, 1508, 1509] [] [] O z0 h → vfr (vw [1504, 1505, 1506, 1507, 1508, 1509] [] [] O) z0 (k2 x0 x1 h)) {x0 : Nat} {x1 : Int32} {h : vt_S} (ox0 : O x0) (hs : vw [1504, 1505, 1506, 1507, 1508, 1509] [] [] O z0 h) : vfr (vw [1504, 1505, 1506, 1507, 1508, 1509] [] [] O) z0 (ab_X14_readAll_2b k2 x0 x1 h) := by
  unfold ab_X14_readAll_2b
  refine vr_if ?_ ?_
  · exact vk_X14_readAll_68 ox0 hs
  · refine vr_let (fun _ => ?_)
    refine vr_if ?_ ?_
    · refine vr_if ?_ ?_
      · exact vk_X14_readAll_34 hk2 ox0 hs
      · refine vr_if ?_ ?_
        · exact vk_X14_readAll_34 hk2 ox0 hs
        · exact vk_X14_readAll_34 hk2 ox0 hs
    · exact vk_X14_readAll_68 ox0 hs
theorem vk_X14_readAll_2 {O : Nat → Prop} {z0 : vt_S} : ∀ (n : Nat) {x0 : Nat} {x1 : Int32} {h : vt_S}, O x0 → vw [1504, 1505, 1506, 1507, 1508, 1509] [] [] O z0 h → vfr (vw [1504, 1505, 1506, 1507, 1508, 1509] [] [] O) z0 (ab_X14_readAll_2 n x0 x1 h) := by
  intro n
  induction n with
  | zero => intro x0 x1 h ox0 hs; exact vr_no
  | succ n ih => intro x0 x1 h ox0 hs; exact vk_X14_readAll_2b (fun ox0 hs => ih ox0 hs) ox0 hs
theorem vk_X14_readAll_0 {O : Nat → Prop} {z0 : vt_S} {x0 : Nat} {h : vt_S} (ox0 : O x0) (hs : vw [1504, 1505, 1506, 1507, 1508, 1509] [] [] O z0 h) : vfr (vw [1504, 1505, 1506, 1507, 1508, 1509] [] [] O) z0 (ab_X14_readAll x0 h) := by
  unfold ab_X14_readAll
  exact vk_X14_readAll_2 sv_fuel ox0 hs
theorem vk_X14_readAll {O : Nat → Prop} {x0 : Nat} {h : vt_S} {r : Unit} {s : vt_S} (c : vcl O h) (ox0 : O x0) (e : ab_X14_readAll x0 h = some (r, s)) : vw [1504, 1505, 1506, 1507, 1508, 1509] [] [] O h s := vk_X14_readAll_0 ox0 ⟨vk.refl h, c⟩ r s e

theorem vk_X14_read_77 {O : Nat → Prop} {z0 : vt_S} {x0 : Nat} {h : vt_S} (ox0 : O x0) (hs : vw [1503, 1504, 1505, 1506, 1507, 1508, 1509] [1502] [] O z0 h) : vfr (vw [1503, 1504, 1505, 1506, 1507, 1508, 1509] [1502] [] O) z0 (ab_X14_read_77 x0 h) := by
  unfold ab_X14_read_77
  refine vr_let (fun _ => ?_)
  exact vr_rt hs
theorem vk_X14_read_43b {O : Nat → Prop} {z0 : vt_S} {k43 : Nat → Int32 → vt_S → Option (Int32 × vt_S)} (hk43 : ∀ {x0 : Nat} {x1 : Int32} {h : vt_S}, O x0 → vw [1503, 1504, 1505, 1506, 1507, 1508, 1509] [1502] [] O z0 h → vfr (vw [1503, 1504, 1505, 1506, 1507, 1508, 1509] [1502] [] O) z0 (k43 x0 x1 h)) {x0 : Nat} {x1 : Int32} {h : vt_S} (ox0 : O x0) (hs : vw [1503, 1504, 1505, 1506, 1507, 1508, 1509] [1502] [] O z0 h) : vfr (vw [1503, 1504, 1505, 1506, 1507, 1508, 1509] [1502] [] O) z0 (ab_X14_read_43b k43 x0 x1 h) := by
  unfold ab_X14_read_43b
  refine vr_let (fun _ => ?_)
  refine vr_if ?_ ?_
  · refine vr_let (fun _ => ?_)
    refine vr_I hs (by decide) ox0 (fun h hs => ?_)
    exact vk_X14_read_77 ox0 hs
  · refine vr_bd (fun _ => ?_)
    refine vr_sI hs (by decide) ox0 (fun h hs => ?_)
    exact hk43 ox0 hs
theorem vk_X14_read_43 {O : Nat → Prop} {z0 : vt_S} : ∀ (n : Nat) {x0 : Nat} {x1 : Int32} {h : vt_S}, O x0 → vw [1503, 1504, 1505, 1506, 1507, 1508, 1509] [1502] [] O z0 h → vfr (vw [1503, 1504, 1505, 1506, 1507, 1508, 1509] [1502] [] O) z0 (ab_X14_read_43 n x0 x1 h) := by
  intro n
  induction n with
  | zero => intro x0 x1 h ox0 hs; exact vr_no
  | succ n ih => intro x0 x1 h ox0 hs; exact vk_X14_read_43b (fun ox0 hs => ih ox0 hs) ox0 hs
theorem vk_X14_read_0 {O : Nat → Prop} {z0 : vt_S} {x0 : Nat} {h : vt_S} (ox0 : O x0) (hs : vw [1503, 1504, 1505, 1506, 1507, 1508, 1509] [1502] [] O z0 h) : vfr (vw [1503, 1504, 1505, 1506, 1507, 1508, 1509] [1502] [] O) z0 (ab_X14_read x0 h) := by
  unfold ab_X14_read
  refine vr_I hs (by decide) ox0 (fun h hs => ?_)
  refine vr_I hs (by decide) ox0 (fun h hs => ?_)
  refine vr_I hs (by decide) ox0 (fun h hs => ?_)
  refine vr_I hs (by decide) ox0 (fun h hs => ?_)
  refine vr_I hs (by decide) ox0 (fun h hs => ?_)
  refine vr_I hs (by decide) ox0 (fun h hs => ?_)
  refine vr_cl (fun _ _ e => (let q := vk_X14_readAll hs.2 ox0 e; ⟨hs.1.trans (q.1.weak (by decide) (by decide) (by decide)), q.2⟩)) (fun _ h hs => ?_)
  refine vr_let (fun _ => ?_)
  refine vr_if ?_ ?_
  · exact vk_X14_read_43 sv_fuel ox0 hs
  · exact vk_X14_read_77 ox0 hs
theorem vk_X14_read {O : Nat → Prop} {x0 : Nat} {h : vt_S} {r : Int32} {s : vt_S} (c : vcl O h) (ox0 : O x0) (e : ab_X14_read x0 h = some (r, s)) : vw [1503, 1504, 1505, 1506, 1507, 1508, 1509] [1502] [] O h s := vk_X14_read_0 ox0 ⟨vk.refl h, c⟩ r s e

