theorem vk_X10_use_51 {O : Nat → Prop} {z0 : vt_S} {h : vt_S} (hs : vw [406, 407, 408, 409, 410, 709, 710, 711, 712, 713] [400, 401, 402, 403, 404, 405] [] O z0 h) : vfr (vw [406, 407, 408, 409, 410, 709, 710, 711, 712, 713] [400, 401, 402, 403, 404, 405] [] O) z0 (ab_X10_use_51 h) := by
  unfold ab_X10_use_51
  exact vr_rt hs
theorem vk_X10_use_121 {O : Nat → Prop} {z0 : vt_S} {h : vt_S} (hs : vw [406, 407, 408, 409, 410, 709, 710, 711, 712, 713] [400, 401, 402, 403, 404, 405] [] O z0 h) : vfr (vw [406, 407, 408, 409, 410, 709, 710, 711, 712, 713] [400, 401, 402, 403, 404, 405] [] O) z0 (ab_X10_use_121 h) := by
  unfold ab_X10_use_121
  exact vr_rt hs
theorem vk_X10_use_101 {O : Nat → Prop} {z0 : vt_S} {x0 : Nat} {x3 : Nat} {h : vt_S} (ox0 : O x0) (ox3 : O x3) (hs : vw [406, 407, 408, 409, 410, 709, 710, 711, 712, 713] [400, 401, 402, 403, 404, 405] [] O z0 h) : vfr (vw [406, 407, 408, 409, 410, 709, 710, 711, 712, 713] [400, 401, 402, 403, 404, 405] [] O) z0 (ab_X10_use_101 x0 x3 h) := by
  unfold ab_X10_use_101
  refine vr_let (fun _ => ?_)
  refine vr_if ?_ ?_
  · refine vr_gP hs ox0 (fun v2 ov2 => ?_)
    refine vr_let (fun _ => ?_)
    refine vr_cl (fun _ _ e => (let q := vk_X2_startAll hs.2 ov2 e; ⟨hs.1.trans (q.1.weak (by decide) (by decide) (by decide)), q.2⟩)) (fun _ h hs => ?_)
    exact vk_X10_use_121 hs
  · exact vk_X10_use_121 hs
theorem vk_X10_use_0 {O : Nat → Prop} {z0 : vt_S} {x0 : Nat} {x1 : Int32} {x2 : Int32} {h : vt_S} (ox0 : O x0) (hs : vw [406, 407, 408, 409, 410, 709, 710, 711, 712, 713] [400, 401, 402, 403, 404, 405] [] O z0 h) : vfr (vw [406, 407, 408, 409, 410, 709, 710, 711, 712, 713] [400, 401, 402, 403, 404, 405] [] O) z0 (ab_X10_use x0 x1 x2 h) := by
  unfold ab_X10_use
  refine vr_gP hs ox0 (fun v1 ov1 => ?_)
  refine vr_let (fun _ => ?_)
  refine vr_let (fun _ => ?_)
  refine vr_cl (fun _ _ e => (let q := vk_X3_aim hs.2 ov1 e; ⟨hs.1.trans (q.1.weak (by decide) (by decide) (by decide)), q.2⟩)) (fun _ h hs => ?_)
  refine vr_gP hs ox0 (fun v5 ov5 => ?_)
  refine vr_gP hs ox0 (fun v6 ov6 => ?_)
  refine vr_cl (fun _ _ e => (let q := vk_X3_meetClose hs.2 ov5 ov6 e; ⟨hs.1.trans (q.1.weak (by decide) (by decide) (by decide)), q.2⟩)) (fun _ h hs => ?_)
  refine vr_gP hs ox0 (fun v8 ov8 => ?_)
  refine vr_let (fun _ => ?_)
  refine vr_if ?_ ?_
  · exact vk_X10_use_51 hs
  · refine vr_gP hs ox0 (fun v10 ov10 => ?_)
    refine vr_bd (fun _ => ?_)
    refine vr_if ?_ ?_
    · exact vk_X10_use_51 hs
    · refine vr_gP hs ox0 (fun v13 ov13 => ?_)
      refine vr_gP hs ox0 (fun v15 ov15 => ?_)
      refine vr_bd (fun _ => ?_)
      refine vr_lP hs ov13 (fun v18 ov18 => ?_)
      refine vr_let (fun _ => ?_)
      refine vr_if ?_ ?_
      · refine vr_let (fun _ => ?_)
        refine vr_if ?_ ?_
        · exact vk_X10_use_101 ox0 ov18 hs
        · refine vr_gP hs ox0 (fun v21 ov21 => ?_)
          refine vr_let (fun _ => ?_)
          refine vr_cl (fun _ _ e => (let q := vk_X2_startOne hs.2 ov21 e; ⟨hs.1.trans (q.1.weak (by decide) (by decide) (by decide)), q.2⟩)) (fun _ h hs => ?_)
          exact vk_X10_use_121 hs
      · exact vk_X10_use_101 ox0 ov18 hs
theorem vk_X10_use {O : Nat → Prop} {x0 : Nat} {x1 : Int32} {x2 : Int32} {h : vt_S} {r : Unit} {s : vt_S} (c : vcl O h) (ox0 : O x0) (e : ab_X10_use x0 x1 x2 h = some (r, s)) : vw [406, 407, 408, 409, 410, 709, 710, 711, 712, 713] [400, 401, 402, 403, 404, 405] [] O h s := vk_X10_use_0 ox0 ⟨vk.refl h, c⟩ r s e

theorem vk_X6_waitOn_33 {O : Nat → Prop} {z0 : vt_S} {h : vt_S} (hs : vw [710, 711] [] [] O z0 h) : vfr (vw [710, 711] [] [] O) z0 (ab_X6_waitOn_33 h) := by
  unfold ab_X6_waitOn_33
  exact vr_rt hs
theorem vk_X6_waitOn_30 {O : Nat → Prop} {z0 : vt_S} {s0 : Nat} {s1 : Int32} {h : vt_S} (os0 : O s0) (hs : vw [710, 711] [] [] O z0 h) : vfr (vw [710, 711] [] [] O) z0 (ab_X6_waitOn_30 s0 s1 h) := by
  unfold ab_X6_waitOn_30
  refine vr_I hs (by decide) os0 (fun h hs => ?_)
  exact vk_X6_waitOn_33 hs
theorem vk_X6_waitOn_0 {O : Nat → Prop} {z0 : vt_S} {x0 : Nat} {h : vt_S} (ox0 : O x0) (hs : vw [710, 711] [] [] O z0 h) : vfr (vw [710, 711] [] [] O) z0 (ab_X6_waitOn x0 h) := by
  unfold ab_X6_waitOn
  refine vr_let (fun _ => ?_)
  refine vr_I hs (by decide) ox0 (fun h hs => ?_)
  refine vr_let (fun _ => ?_)
  refine vr_if ?_ ?_
  · exact vk_X6_waitOn_33 hs
  · refine vr_let (fun _ => ?_)
    refine vr_if ?_ ?_
    · exact vk_X6_waitOn_30 ox0 hs
    · exact vk_X6_waitOn_30 ox0 hs
theorem vk_X6_waitOn {O : Nat → Prop} {x0 : Nat} {h : vt_S} {r : Unit} {s : vt_S} (c : vcl O h) (ox0 : O x0) (e : ab_X6_waitOn x0 h = some (r, s)) : vw [710, 711] [] [] O h s := vk_X6_waitOn_0 ox0 ⟨vk.refl h, c⟩ r s e

theorem vk_X6_waitFor_0 {O : Nat → Prop} {z0 : vt_S} {x0 : Nat} {x1 : Int32} {h : vt_S} (ox0 : O x0) (hs : vw [710, 711] [] [] O z0 h) : vfr (vw [710, 711] [] [] O) z0 (ab_X6_waitFor x0 x1 h) := by
  unfold ab_X6_waitFor
  refine vr_I hs (by decide) ox0 (fun h hs => ?_)
  refine vr_I hs (by decide) ox0 (fun h hs => ?_)
  exact vr_rt hs
theorem vk_X6_waitFor {O : Nat → Prop} {x0 : Nat} {x1 : Int32} {h : vt_S} {r : Unit} {s : vt_S} (c : vcl O h) (ox0 : O x0) (e : ab_X6_waitFor x0 x1 h = some (r, s)) : vw [710, 711] [] [] O h s := vk_X6_waitFor_0 ox0 ⟨vk.refl h, c⟩ r s e

theorem vk_X6_openDoor_35 {O : Nat → Prop} {z0 : vt_S} {h : vt_S} (hs : vw [708, 710, 711] [] [] O z0 h) : vfr (vw [708, 710, 711] [] [] O) z0 (ab_X6_openDoor_35 h) := by
  unfold ab_X6_openDoor_35
  exact vr_rt hs
theorem vk_X6_openDoor_0 {O : Nat → Prop} {z0 : vt_S} {x0 : Nat} {h : vt_S} (ox0 : O x0) (hs : vw [708, 710, 711] [] [] O z0 h) : vfr (vw [708, 710, 711] [] [] O) z0 (ab_X6_openDoor x0 h) := by
  unfold ab_X6_openDoor
  refine vr_let (fun _ => ?_)
  refine vr_let (fun _ => ?_)
  refine vr_let (fun _ => ?_)
  refine vr_I hs (by decide) ox0 (fun h hs => ?_)
  refine vr_let (fun _ => ?_)
  refine vr_let (fun _ => ?_)
  refine vr_if ?_ ?_
  · refine vr_cl (fun _ _ e => (let q := vk_X6_waitFor hs.2 ox0 e; ⟨hs.1.trans (q.1.weak (by decide) (by decide) (by decide)), q.2⟩)) (fun _ h hs => ?_)
    exact vk_X6_openDoor_35 hs
  · exact vk_X6_openDoor_35 hs
theorem vk_X6_openDoor {O : Nat → Prop} {x0 : Nat} {h : vt_S} {r : Unit} {s : vt_S} (c : vcl O h) (ox0 : O x0) (e : ab_X6_openDoor x0 h = some (r, s)) : vw [708, 710, 711] [] [] O h s := vk_X6_openDoor_0 ox0 ⟨vk.refl h, c⟩ r s e

theorem vk_X6_closeDoor_56 {O : Nat → Prop} {z0 : vt_S} {h : vt_S} (hs : vw [708, 709, 710, 711] [] [] O z0 h) : vfr (vw [708, 709, 710, 711] [] [] O) z0 (ab_X6_closeDoor_56 h) := by
  unfold ab_X6_closeDoor_56
  exact vr_rt hs
theorem vk_X6_closeDoor_36 {O : Nat → Prop} {z0 : vt_S} {x0 : Nat} {x2 : Int32} {h : vt_S} (ox0 : O x0) (hs : vw [708, 709, 710, 711] [] [] O z0 h) : vfr (vw [708, 709, 710, 711] [] [] O) z0 (ab_X6_closeDoor_36 x0 x2 h) := by
  unfold ab_X6_closeDoor_36
  refine vr_I hs (by decide) ox0 (fun h hs => ?_)
  refine vr_let (fun _ => ?_)
  refine vr_let (fun _ => ?_)
  refine vr_if ?_ ?_
  · refine vr_cl (fun _ _ e => (let q := vk_X6_endMover hs.2 ox0 e; ⟨hs.1.trans (q.1.weak (by decide) (by decide) (by decide)), q.2⟩)) (fun _ h hs => ?_)
    exact vk_X6_closeDoor_56 hs
  · exact vk_X6_closeDoor_56 hs
theorem vk_X6_closeDoor_0 {O : Nat → Prop} {z0 : vt_S} {x0 : Nat} {x1 : Int32} {h : vt_S} (ox0 : O x0) (hs : vw [708, 709, 710, 711] [] [] O z0 h) : vfr (vw [708, 709, 710, 711] [] [] O) z0 (ab_X6_closeDoor x0 x1 h) := by
  unfold ab_X6_closeDoor
  refine vr_let (fun _ => ?_)
  refine vr_let (fun _ => ?_)
  refine vr_let (fun _ => ?_)
  refine vr_if ?_ ?_
  · exact vk_X6_closeDoor_36 ox0 hs
  · refine vr_let (fun _ => ?_)
    refine vr_if ?_ ?_
    · exact vk_X6_closeDoor_36 ox0 hs
    · refine vr_I hs (by decide) ox0 (fun h hs => ?_)
      exact vr_rt hs
theorem vk_X6_closeDoor {O : Nat → Prop} {x0 : Nat} {x1 : Int32} {h : vt_S} {r : Unit} {s : vt_S} (c : vcl O h) (ox0 : O x0) (e : ab_X6_closeDoor x0 x1 h = some (r, s)) : vw [708, 709, 710, 711] [] [] O h s := vk_X6_closeDoor_0 ox0 ⟨vk.refl h, c⟩ r s e

theorem vk_X6_sinkLift_34 {O : Nat → Prop} {z0 : vt_S} {h : vt_S} (hs : vw [707, 710, 711] [] [] O z0 h) : vfr (vw [707, 710, 711] [] [] O) z0 (ab_X6_sinkLift_34 h) := by
  unfold ab_X6_sinkLift_34
  exact vr_rt hs
theorem vk_X6_sinkLift_0 {O : Nat → Prop} {z0 : vt_S} {x0 : Nat} {h : vt_S} (ox0 : O x0) (hs : vw [707, 710, 711] [] [] O z0 h) : vfr (vw [707, 710, 711] [] [] O) z0 (ab_X6_sinkLift x0 h) := by
  unfold ab_X6_sinkLift
  refine vr_let (fun _ => ?_)
  refine vr_let (fun _ => ?_)
  refine vr_let (fun _ => ?_)
  refine vr_I hs (by decide) ox0 (fun h hs => ?_)
  refine vr_let (fun _ => ?_)
  refine vr_let (fun _ => ?_)
  refine vr_if ?_ ?_
  · refine vr_cl (fun _ _ e => (let q := vk_X6_waitFor hs.2 ox0 e; ⟨hs.1.trans (q.1.weak (by decide) (by decide) (by decide)), q.2⟩)) (fun _ h hs => ?_)
    exact vk_X6_sinkLift_34 hs
  · exact vk_X6_sinkLift_34 hs
theorem vk_X6_sinkLift {O : Nat → Prop} {x0 : Nat} {h : vt_S} {r : Unit} {s : vt_S} (c : vcl O h) (ox0 : O x0) (e : ab_X6_sinkLift x0 h = some (r, s)) : vw [707, 710, 711] [] [] O h s := vk_X6_sinkLift_0 ox0 ⟨vk.refl h, c⟩ r s e

theorem vk_X6_raiseFloor_47 {O : Nat → Prop} {z0 : vt_S} {h : vt_S} (hs : vw [707, 709, 710, 711] [] [] O z0 h) : vfr (vw [707, 709, 710, 711] [] [] O) z0 (ab_X6_raiseFloor_47 h) := by
  unfold ab_X6_raiseFloor_47
  exact vr_rt hs
theorem vk_X6_raiseFloor_29 {O : Nat → Prop} {z0 : vt_S} {x0 : Nat} {x2 : Int32} {x4 : Int32} {h : vt_S} (ox0 : O x0) (hs : vw [707, 709, 710, 711] [] [] O z0 h) : vfr (vw [707, 709, 710, 711] [] [] O) z0 (ab_X6_raiseFloor_29 x0 x2 x4 h) := by
  unfold ab_X6_raiseFloor_29
  refine vr_I hs (by decide) ox0 (fun h hs => ?_)
  refine vr_let (fun _ => ?_)
  refine vr_if ?_ ?_
  · refine vr_cl (fun _ _ e => (let q := vk_X6_endMover hs.2 ox0 e; ⟨hs.1.trans (q.1.weak (by decide) (by decide) (by decide)), q.2⟩)) (fun _ h hs => ?_)
    exact vk_X6_raiseFloor_47 hs
  · exact vk_X6_raiseFloor_47 hs
theorem vk_X6_raiseFloor_0 {O : Nat → Prop} {z0 : vt_S} {x0 : Nat} {x1 : Int32} {x2 : Int32} {x3 : Int32} {h : vt_S} (ox0 : O x0) (hs : vw [707, 709, 710, 711] [] [] O z0 h) : vfr (vw [707, 709, 710, 711] [] [] O) z0 (ab_X6_raiseFloor x0 x1 x2 x3 h) := by
  unfold ab_X6_raiseFloor
  refine vr_let (fun _ => ?_)
  refine vr_let (fun _ => ?_)
  refine vr_if ?_ ?_
  · exact vk_X6_raiseFloor_29 ox0 hs
  · refine vr_let (fun _ => ?_)
    refine vr_if ?_ ?_
    · exact vk_X6_raiseFloor_29 ox0 hs
    · exact vr_rt hs
theorem vk_X6_raiseFloor {O : Nat → Prop} {x0 : Nat} {x1 : Int32} {x2 : Int32} {x3 : Int32} {h : vt_S} {r : Unit} {s : vt_S} (c : vcl O h) (ox0 : O x0) (e : ab_X6_raiseFloor x0 x1 x2 x3 h = some (r, s)) : vw [707, 709, 710, 711] [] [] O h s := vk_X6_raiseFloor_0 ox0 ⟨vk.refl h, c⟩ r s e

theorem vk_X6_tick_104 {O : Nat → Prop} {z0 : vt_S} {h : vt_S} (hs : vw [707, 708, 709, 710, 711] [] [] O z0 h) : vfr (vw [707, 708, 709, 710, 711] [] [] O) z0 (ab_X6_tick_104 h) := by
  unfold ab_X6_tick_104
  exact vr_rt hs
theorem vk_X6_tick_44 {O : Nat → Prop} {z0 : vt_S} {x0 : Nat} {x1 : Int32} {h : vt_S} (ox0 : O x0) (hs : vw [707, 708, 709, 710, 711] [] [] O z0 h) : vfr (vw [707, 708, 709, 710, 711] [] [] O) z0 (ab_X6_tick_44 x0 x1 h) := by
  unfold ab_X6_tick_44
  refine vr_let (fun _ => ?_)
  refine vr_if ?_ ?_
  · refine vr_cl (fun _ _ e => (let q := vk_X6_closeDoor hs.2 ox0 e; ⟨hs.1.trans (q.1.weak (by decide) (by decide) (by decide)), q.2⟩)) (fun _ h hs => ?_)
    exact vk_X6_tick_104 hs
  · refine vr_let (fun _ => ?_)
    refine vr_if ?_ ?_
    · refine vr_let (fun _ => ?_)
      refine vr_if ?_ ?_
      · refine vr_let (fun _ => ?_)
        refine vr_cl (fun _ _ e => (let q := vk_X6_raiseFloor hs.2 ox0 e; ⟨hs.1.trans (q.1.weak (by decide) (by decide) (by decide)), q.2⟩)) (fun _ h hs => ?_)
        exact vk_X6_tick_104 hs
      · refine vr_let (fun _ => ?_)
        refine vr_cl (fun _ _ e => (let q := vk_X6_raiseFloor hs.2 ox0 e; ⟨hs.1.trans (q.1.weak (by decide) (by decide) (by decide)), q.2⟩)) (fun _ h hs => ?_)
        exact vk_X6_tick_104 hs
    · refine vr_cl (fun _ _ e => (let q := vk_X6_sinkLift hs.2 ox0 e; ⟨hs.1.trans (q.1.weak (by decide) (by decide) (by decide)), q.2⟩)) (fun _ h hs => ?_)
      exact vk_X6_tick_104 hs
theorem vk_X6_tick_0 {O : Nat → Prop} {z0 : vt_S} {x0 : Nat} {x1 : Int32} {h : vt_S} (ox0 : O x0) (hs : vw [707, 708, 709, 710, 711] [] [] O z0 h) : vfr (vw [707, 708, 709, 710, 711] [] [] O) z0 (ab_X6_tick x0 x1 h) := by
  unfold ab_X6_tick
  refine vr_let (fun _ => ?_)
  refine vr_if ?_ ?_
  · exact vr_rt hs
  · refine vr_let (fun _ => ?_)
    refine vr_if ?_ ?_
    · refine vr_cl (fun _ _ e => (let q := vk_X6_waitOn hs.2 ox0 e; ⟨hs.1.trans (q.1.weak (by decide) (by decide) (by decide)), q.2⟩)) (fun _ h hs => ?_)
      exact vk_X6_tick_104 hs
    · refine vr_let (fun _ => ?_)
      refine vr_if ?_ ?_
      · refine vr_let (fun _ => ?_)
        refine vr_if ?_ ?_
        · exact vk_X6_tick_44 ox0 hs
        · refine vr_cl (fun _ _ e => (let q := vk_X6_openDoor hs.2 ox0 e; ⟨hs.1.trans (q.1.weak (by decide) (by decide) (by decide)), q.2⟩)) (fun _ h hs => ?_)
          exact vk_X6_tick_104 hs
      · exact vk_X6_tick_44 ox0 hs
theorem vk_X6_tick {O : Nat → Prop} {x0 : Nat} {x1 : Int32} {h : vt_S} {r : Unit} {s : vt_S} (c : vcl O h) (ox0 : O x0) (e : ab_X6_tick x0 x1 h = some (r, s)) : vw [707, 708, 709, 710, 711] [] [] O h s := vk_X6_tick_0 ox0 ⟨vk.refl h, c⟩ r s e

theorem vk_X2_tick_26 {O : Nat → Prop} {z0 : vt_S} {k2 : Nat → Int32 → Int32 → vt_S → Option (Unit × vt_S)} (hk2 : ∀ {x0 : Nat} {x1 : Int32} {x2 : Int32} {h : vt_S}, O x0 → vw [707, 708, 709, 710, 711] [] [] O z0 h → vfr (vw [707, 708, 709, 710, 711] [] [] O) z0 (k2 x0 x1 x2 h)) {x0 : Nat} {x1 : Int32} {x2 : Int32} {s0 : Nat} {s1 : Int32} {h : vt_S} (ox0 : O x0) (os0 : O s0) (hs : vw [707, 708, 709, 710, 711] [] [] O z0 h) : vfr (vw [707, 708, 709, 710, 711] [] [] O) z0 (ab_X2_tick_26 k2 x0 x1 x2 s0 s1 h) := by
  unfold ab_X2_tick_26
  refine vr_cl (fun _ _ e => (let q := vk_X6_tick hs.2 os0 e; ⟨hs.1.trans (q.1.weak (by decide) (by decide) (by decide)), q.2⟩)) (fun _ h hs => ?_)
  exact hk2 ox0 hs
theorem vk_X2_tick_2b {O : Nat → Prop} {z0 : vt_S} {k2 : Nat → Int32 → Int32 → vt_S → Option (Unit × vt_S)} (hk2 : ∀ {x0 : Nat} {x1 : Int32} {x2 : Int32} {h : vt_S}, O x0 → vw [707, 708, 709, 710, 711] [] [] O z0 h → vfr (vw [707, 708, 709, 710, 711] [] [] O) z0 (k2 x0 x1 x2 h)) {x0 : Nat} {x1 : Int32} {x2 : Int32} {h : vt_S} (ox0 : O x0) (hs : vw [707, 708, 709, 710, 711] [] [] O z0 h) : vfr (vw [707, 708, 709, 710, 711] [] [] O) z0 (ab_X2_tick_2b k2 x0 x1 x2 h) := by
  unfold ab_X2_tick_2b
  refine vr_let (fun _ => ?_)
  refine vr_if ?_ ?_
  · exact vr_rt hs
  · refine vr_lP hs ox0 (fun v3 ov3 => ?_)
    refine vr_if ?_ ?_
    · exact vk_X2_tick_26 hk2 ox0 ov3 hs
    · exact vk_X2_tick_26 hk2 ox0 ov3 hs
theorem vk_X2_tick_2 {O : Nat → Prop} {z0 : vt_S} : ∀ (n : Nat) {x0 : Nat} {x1 : Int32} {x2 : Int32} {h : vt_S}, O x0 → vw [707, 708, 709, 710, 711] [] [] O z0 h → vfr (vw [707, 708, 709, 710, 711] [] [] O) z0 (ab_X2_tick_2 n x0 x1 x2 h) := by
  intro n
  induction n with
  | zero => intro x0 x1 x2 h ox0 hs; exact vr_no
  | succ n ih => intro x0 x1 x2 h ox0 hs; exact vk_X2_tick_2b (fun ox0 hs => ih ox0 hs) ox0 hs
theorem vk_X2_tick_0 {O : Nat → Prop} {z0 : vt_S} {x0 : Nat} {x1 : Int32} {h : vt_S} (ox0 : O x0) (hs : vw [707, 708, 709, 710, 711] [] [] O z0 h) : vfr (vw [707, 708, 709, 710, 711] [] [] O) z0 (ab_X2_tick x0 x1 h) := by
  unfold ab_X2_tick
  exact vk_X2_tick_2 sv_fuel ox0 hs
theorem vk_X2_tick {O : Nat → Prop} {x0 : Nat} {x1 : Int32} {h : vt_S} {r : Unit} {s : vt_S} (c : vcl O h) (ox0 : O x0) (e : ab_X2_tick x0 x1 h = some (r, s)) : vw [707, 708, 709, 710, 711] [] [] O h s := vk_X2_tick_0 ox0 ⟨vk.refl h, c⟩ r s e

theorem vk_X10_step_124 {O : Nat → Prop} {z0 : vt_S} {x0 : Nat} {x8 : Int32} {h : vt_S} (ox0 : O x0) (hs : vw [406, 407, 408, 409, 410, 707, 708, 709, 710, 711, 712, 713, 1102, 1103, 1104, 1105, 1106] [400, 401, 402, 403, 404, 405] [] O z0 h) : vfr (vw [406, 407, 408, 409, 410, 707, 708, 709, 710, 711, 712, 713, 1102, 1103, 1104, 1105, 1106] [400, 401, 402, 403, 404, 405] [] O) z0 (ab_X10_step_124 x0 x8 h) := by
  unfold ab_X10_step_124
  refine vr_let (fun _ => ?_)
  refine vr_I hs (by decide) ox0 (fun h hs => ?_)
  refine vr_gP hs ox0 (fun v3 ov3 => ?_)
  refine vr_let (fun _ => ?_)
  refine vr_cl (fun _ _ e => (let q := vk_X2_tick hs.2 ov3 e; ⟨hs.1.trans (q.1.weak (by decide) (by decide) (by decide)), q.2⟩)) (fun _ h hs => ?_)
  exact vr_rt hs
theorem vk_X10_step_111 {O : Nat → Prop} {z0 : vt_S} {x0 : Nat} {x1 : Int32} {x2 : Int32} {x3 : Int32} {x8 : Int32} {h : vt_S} (ox0 : O x0) (hs : vw [406, 407, 408, 409, 410, 707, 708, 709, 710, 711, 712, 713, 1102, 1103, 1104, 1105, 1106] [400, 401, 402, 403, 404, 405] [] O z0 h) : vfr (vw [406, 407, 408, 409, 410, 707, 708, 709, 710, 711, 712, 713, 1102, 1103, 1104, 1105, 1106] [400, 401, 402, 403, 404, 405] [] O) z0 (ab_X10_step_111 x0 x1 x2 x3 x8 h) := by
  unfold ab_X10_step_111
  refine vr_cl (fun _ _ e => (by rw [ve_X5_usesOf e]; exact hs)) (fun _ h hs => ?_)
  refine vr_if ?_ ?_
  · exact vk_X10_step_124 ox0 hs
  · refine vr_cl (fun _ _ e => (let q := vk_X10_use hs.2 ox0 e; ⟨hs.1.trans (q.1.weak (by decide) (by decide) (by decide)), q.2⟩)) (fun _ h hs => ?_)
    exact vk_X10_step_124 ox0 hs
theorem vk_X10_step_109 {O : Nat → Prop} {z0 : vt_S} {x0 : Nat} {x1 : Int32} {x2 : Int32} {x3 : Int32} {s0 : Int32} {h : vt_S} (ox0 : O x0) (hs : vw [406, 407, 408, 409, 410, 707, 708, 709, 710, 711, 712, 713, 1102, 1103, 1104, 1105, 1106] [400, 401, 402, 403, 404, 405] [] O z0 h) : vfr (vw [406, 407, 408, 409, 410, 707, 708, 709, 710, 711, 712, 713, 1102, 1103, 1104, 1105, 1106] [400, 401, 402, 403, 404, 405] [] O) z0 (ab_X10_step_109 x0 x1 x2 x3 s0 h) := by
  unfold ab_X10_step_109
  exact vk_X10_step_111 ox0 hs
theorem vk_X10_step_93 {O : Nat → Prop} {z0 : vt_S} {x0 : Nat} {x1 : Int32} {x2 : Int32} {x3 : Int32} {x6 : Int32} {x7 : Int32} {h : vt_S} (ox0 : O x0) (hs : vw [406, 407, 408, 409, 410, 707, 708, 709, 710, 711, 712, 713, 1102, 1103, 1104, 1105, 1106] [400, 401, 402, 403, 404, 405] [] O z0 h) : vfr (vw [406, 407, 408, 409, 410, 707, 708, 709, 710, 711, 712, 713, 1102, 1103, 1104, 1105, 1106] [400, 401, 402, 403, 404, 405] [] O) z0 (ab_X10_step_93 x0 x1 x2 x3 x6 x7 h) := by
  unfold ab_X10_step_93
  refine vr_cl (fun _ _ e => (let q := vk_X10_go hs.2 ox0 e; ⟨hs.1.trans (q.1.weak (by decide) (by decide) (by decide)), q.2⟩)) (fun _ h hs => ?_)
  refine vr_if ?_ ?_
  · exact vk_X10_step_109 ox0 hs
  · exact vk_X10_step_109 ox0 hs
theorem vk_X10_step_0 {O : Nat → Prop} {z0 : vt_S} {x0 : Nat} {x1 : Int32} {h : vt_S} (ox0 : O x0) (hs : vw [406, 407, 408, 409, 410, 707, 708, 709, 710, 711, 712, 713, 1102, 1103, 1104, 1105, 1106] [400, 401, 402, 403, 404, 405] [] O z0 h) : vfr (vw [406, 407, 408, 409, 410, 707, 708, 709, 710, 711, 712, 713, 1102, 1103, 1104, 1105, 1106] [400, 401, 402, 403, 404, 405] [] O) z0 (ab_X10_step x0 x1 h) := by
  unfold ab_X10_step
  refine vr_let (fun _ => ?_)
  refine vr_cl (fun _ _ e => (by rw [ve_X5_turnOf e]; exact hs)) (fun _ h hs => ?_)
  refine vr_cl (fun _ _ e => (by rw [ve_J9_floorMod_7cf53 e]; exact hs)) (fun _ h hs => ?_)
  refine vr_I hs (by decide) ox0 (fun h hs => ?_)
  refine vr_let (fun _ => ?_)
  refine vr_cl (fun _ _ e => (by rw [ve_X12_cosine e]; exact hs)) (fun _ h hs => ?_)
  refine vr_let (fun _ => ?_)
  refine vr_cl (fun _ _ e => (by rw [ve_X12_sine e]; exact hs)) (fun _ h hs => ?_)
  refine vr_cl (fun _ _ e => (by rw [ve_X5_aheadOf e]; exact hs)) (fun _ h hs => ?_)
  refine vr_cl (fun _ _ e => (by rw [ve_X5_asideOf e]; exact hs)) (fun _ h hs => ?_)
  refine vr_cl (fun _ _ e => (by rw [ve_J9_floorDiv_7cf53 e]; exact hs)) (fun _ h hs => ?_)
  refine vr_cl (fun _ _ e => (by rw [ve_J9_floorDiv_7cf53 e]; exact hs)) (fun _ h hs => ?_)
  refine vr_if ?_ ?_
  · refine vr_if ?_ ?_
    · exact vk_X10_step_111 ox0 hs
    · exact vk_X10_step_93 ox0 hs
  · exact vk_X10_step_93 ox0 hs
theorem vk_X10_step {O : Nat → Prop} {x0 : Nat} {x1 : Int32} {h : vt_S} {r : Int32} {s : vt_S} (c : vcl O h) (ox0 : O x0) (e : ab_X10_step x0 x1 h = some (r, s)) : vw [406, 407, 408, 409, 410, 707, 708, 709, 710, 711, 712, 713, 1102, 1103, 1104, 1105, 1106] [400, 401, 402, 403, 404, 405] [] O h s := vk_X10_step_0 ox0 ⟨vk.refl h, c⟩ r s e

theorem vk_X12_playTo_22 {O : Nat → Prop} {z0 : vt_S} {h : vt_S} (hs : vw [406, 407, 408, 409, 410, 707, 708, 709, 710, 711, 712, 713, 1101, 1102, 1103, 1104, 1105, 1106] [400, 401, 402, 403, 404, 405] [] O z0 h) : vfr (vw [406, 407, 408, 409, 410, 707, 708, 709, 710, 711, 712, 713, 1101, 1102, 1103, 1104, 1105, 1106] [400, 401, 402, 403, 404, 405] [] O) z0 (ab_X12_playTo_22 h) := by
  unfold ab_X12_playTo_22
  exact vr_rt hs
theorem vk_X12_playTo_74 {O : Nat → Prop} {z0 : vt_S} {k46 : Nat → Int32 → Int32 → Int32 → vt_S → Option (Int32 × vt_S)} (hk46 : ∀ {x0 : Nat} {x1 : Int32} {x2 : Int32} {x3 : Int32} {h : vt_S}, O x0 → vw [406, 407, 408, 409, 410, 707, 708, 709, 710, 711, 712, 713, 1101, 1102, 1103, 1104, 1105, 1106] [400, 401, 402, 403, 404, 405] [] O z0 h → vfr (vw [406, 407, 408, 409, 410, 707, 708, 709, 710, 711, 712, 713, 1101, 1102, 1103, 1104, 1105, 1106] [400, 401, 402, 403, 404, 405] [] O) z0 (k46 x0 x1 x2 x3 h)) {x0 : Nat} {x1 : Int32} {x2 : Int32} {x3 : Int32} {h : vt_S} (ox0 : O x0) (hs : vw [406, 407, 408, 409, 410, 707, 708, 709, 710, 711, 712, 713, 1101, 1102, 1103, 1104, 1105, 1106] [400, 401, 402, 403, 404, 405] [] O z0 h) : vfr (vw [406, 407, 408, 409, 410, 707, 708, 709, 710, 711, 712, 713, 1101, 1102, 1103, 1104, 1105, 1106] [400, 401, 402, 403, 404, 405] [] O) z0 (ab_X12_playTo_74 k46 x0 x1 x2 x3 h) := by
  unfold ab_X12_playTo_74
  exact hk46 ox0 hs
theorem vk_X12_playTo_46b {O : Nat → Prop} {z0 : vt_S} {k46 : Nat → Int32 → Int32 → Int32 → vt_S → Option (Int32 × vt_S)} (hk46 : ∀ {x0 : Nat} {x1 : Int32} {x2 : Int32} {x3 : Int32} {h : vt_S}, O x0 → vw [406, 407, 408, 409, 410, 707, 708, 709, 710, 711, 712, 713, 1101, 1102, 1103, 1104, 1105, 1106] [400, 401, 402, 403, 404, 405] [] O z0 h → vfr (vw [406, 407, 408, 409, 410, 707, 708, 709, 710, 711, 712, 713, 1101, 1102, 1103, 1104, 1105, 1106] [400, 401, 402, 403, 404, 405] [] O) z0 (k46 x0 x1 x2 x3 h)) {x0 : Nat} {x1 : Int32} {x2 : Int32} {x3 : Int32} {h : vt_S} (ox0 : O x0) (hs : vw [406, 407, 408, 409, 410, 707, 708, 709, 710, 711, 712, 713, 1101, 1102, 1103, 1104, 1105, 1106] [400, 401, 402, 403, 404, 405] [] O z0 h) : vfr (vw [406, 407, 408, 409, 410, 707, 708, 709, 710, 711, 712, 713, 1101, 1102, 1103, 1104, 1105, 1106] [400, 401, 402, 403, 404, 405] [] O) z0 (ab_X12_playTo_46b k46 x0 x1 x2 x3 h) := by
  unfold ab_X12_playTo_46b
  refine vr_if ?_ ?_
  · exact vr_rt hs
  · refine vr_gP hs ox0 (fun v1 ov1 => ?_)
    refine vr_gP hs ox0 (fun v2 ov2 => ?_)
    refine vr_bd (fun _ => ?_)
    refine vr_cl (fun _ _ e => (let q := vk_X10_step hs.2 ov1 e; ⟨hs.1.trans (q.1.weak (by decide) (by decide) (by decide)), q.2⟩)) (fun _ h hs => ?_)
    refine vr_if ?_ ?_
    · exact vk_X12_playTo_74 hk46 ox0 hs
    · exact vk_X12_playTo_74 hk46 ox0 hs
theorem vk_X12_playTo_46 {O : Nat → Prop} {z0 : vt_S} : ∀ (n : Nat) {x0 : Nat} {x1 : Int32} {x2 : Int32} {x3 : Int32} {h : vt_S}, O x0 → vw [406, 407, 408, 409, 410, 707, 708, 709, 710, 711, 712, 713, 1101, 1102, 1103, 1104, 1105, 1106] [400, 401, 402, 403, 404, 405] [] O z0 h → vfr (vw [406, 407, 408, 409, 410, 707, 708, 709, 710, 711, 712, 713, 1101, 1102, 1103, 1104, 1105, 1106] [400, 401, 402, 403, 404, 405] [] O) z0 (ab_X12_playTo_46 n x0 x1 x2 x3 h) := by
  intro n
  induction n with
  | zero => intro x0 x1 x2 x3 h ox0 hs; exact vr_no
  | succ n ih => intro x0 x1 x2 x3 h ox0 hs; exact vk_X12_playTo_46b (fun ox0 hs => ih ox0 hs) ox0 hs
theorem vk_X12_playTo_0 {O : Nat → Prop} {z0 : vt_S} {x0 : Nat} {x1 : Int32} {h : vt_S} (ox0 : O x0) (hs : vw [406, 407, 408, 409, 410, 707, 708, 709, 710, 711, 712, 713, 1101, 1102, 1103, 1104, 1105, 1106] [400, 401, 402, 403, 404, 405] [] O z0 h) : vfr (vw [406, 407, 408, 409, 410, 707, 708, 709, 710, 711, 712, 713, 1101, 1102, 1103, 1104, 1105, 1106] [400, 401, 402, 403, 404, 405] [] O) z0 (ab_X12_playTo x0 x1 h) := by
  unfold ab_X12_playTo
  refine vr_cl (fun _ _ e => (by rw [ve_X12_hasMap e]; exact hs)) (fun _ h hs => ?_)
  refine vr_if ?_ ?_
  · exact vk_X12_playTo_22 hs
  · refine vr_if ?_ ?_
    · exact vk_X12_playTo_22 hs
    · refine vr_gP hs ox0 (fun v3 ov3 => ?_)
      refine vr_let (fun _ => ?_)
      refine vr_if ?_ ?_
      · refine vr_gP hs ox0 (fun v5 ov5 => ?_)
        refine vr_gP hs ox0 (fun v6 ov6 => ?_)
        refine vr_gP hs ox0 (fun v7 ov7 => ?_)
        refine vr_gP hs ov7 (fun v8 ov8 => ?_)
        refine vr_cl (fun _ _ e => (let q := vk_X10_begin hs.2 ov5 ov6 ov8 e; ⟨hs.1.trans (q.1.weak (by decide) (by decide) (by decide)), q.2⟩)) (fun _ h hs => ?_)
        exact vk_X12_playTo_46 sv_fuel ox0 hs
      · exact vk_X12_playTo_22 hs
theorem vk_X12_playTo {O : Nat → Prop} {x0 : Nat} {x1 : Int32} {h : vt_S} {r : Int32} {s : vt_S} (c : vcl O h) (ox0 : O x0) (e : ab_X12_playTo x0 x1 h = some (r, s)) : vw [406, 407, 408, 409, 410, 707, 708, 709, 710, 711, 712, 713, 1101, 1102, 1103, 1104, 1105, 1106] [400, 401, 402, 403, 404, 405] [] O h s := vk_X12_playTo_0 ox0 ⟨vk.refl h, c⟩ r s e

theorem ve_X17_quarter_0 {z0 : vt_S} {x0 : Int32} {h : vt_S} (hs : veq z0 h) : vfr veq z0 (ab_X17_quarter x0 h) := by
  unfold ab_X17_quarter
  refine vr_if ?_ ?_
  · exact vr_rt hs
  refine vr_if ?_ ?_
  · exact vr_rt hs
  refine vr_if ?_ ?_
  · exact vr_rt hs
  refine vr_if ?_ ?_
  · exact vr_rt hs
  refine vr_if ?_ ?_
  · exact vr_rt hs
  refine vr_if ?_ ?_
  · exact vr_rt hs
  refine vr_if ?_ ?_
  · exact vr_rt hs
  refine vr_if ?_ ?_
  · exact vr_rt hs
  refine vr_if ?_ ?_
  · exact vr_rt hs
  refine vr_if ?_ ?_
  · exact vr_rt hs
  refine vr_if ?_ ?_
  · exact vr_rt hs
  refine vr_if ?_ ?_
  · exact vr_rt hs
  refine vr_if ?_ ?_
  · exact vr_rt hs
  refine vr_if ?_ ?_
  · exact vr_rt hs
  refine vr_if ?_ ?_
  · exact vr_rt hs
  refine vr_if ?_ ?_
  · exact vr_rt hs
  exact vr_rt hs
theorem ve_X17_quarter {x0 : Int32} {h : vt_S} {r : Int32} {s : vt_S} (e : ab_X17_quarter x0 h = some (r, s)) : s = h := ve_X17_quarter_0 rfl r s e

theorem ve_X17_cosine_65 {z0 : vt_S} {s0 : Int32} {h : vt_S} (hs : veq z0 h) : vfr veq z0 (ab_X17_cosine_65 s0 h) := by
  unfold ab_X17_cosine_65
  exact vr_rt hs
theorem ve_X17_cosine_0 {z0 : vt_S} {x0 : Int32} {h : vt_S} (hs : veq z0 h) : vfr veq z0 (ab_X17_cosine x0 h) := by
  unfold ab_X17_cosine
  refine vr_if ?_ ?_
  · refine vr_if ?_ ?_
    · refine vr_if ?_ ?_
      · refine vr_cl (fun _ _ e => ((ve_X17_quarter e).trans hs)) (fun _ h hs => ?_)
        exact ve_X17_cosine_65 hs
      · refine vr_cl (fun _ _ e => ((ve_X17_quarter e).trans hs)) (fun _ h hs => ?_)
        exact ve_X17_cosine_65 hs
    · refine vr_cl (fun _ _ e => ((ve_X17_quarter e).trans hs)) (fun _ h hs => ?_)
      exact ve_X17_cosine_65 hs
  · refine vr_cl (fun _ _ e => ((ve_X17_quarter e).trans hs)) (fun _ h hs => ?_)
    exact ve_X17_cosine_65 hs
theorem ve_X17_cosine {x0 : Int32} {h : vt_S} {r : Int32} {s : vt_S} (e : ab_X17_cosine x0 h = some (r, s)) : s = h := ve_X17_cosine_0 rfl r s e

theorem ve_X17_sine_0 {z0 : vt_S} {x0 : Int32} {h : vt_S} (hs : veq z0 h) : vfr veq z0 (ab_X17_sine x0 h) := by
  unfold ab_X17_sine
  refine vr_cl (fun _ _ e => ((ve_X17_cosine e).trans hs)) (fun _ h hs => ?_)
  exact vr_rt hs
theorem ve_X17_sine {x0 : Int32} {h : vt_S} {r : Int32} {s : vt_S} (e : ab_X17_sine x0 h = some (r, s)) : s = h := ve_X17_sine_0 rfl r s e

theorem ve_X17_down_47 {z0 : vt_S} {s0 : Int64} {h : vt_S} (hs : veq z0 h) : vfr veq z0 (ab_X17_down_47 s0 h) := by
  unfold ab_X17_down_47
  exact vr_rt hs
theorem ve_X17_down_45 {z0 : vt_S} {x4 : Int64} {h : vt_S} (hs : veq z0 h) : vfr veq z0 (ab_X17_down_45 x4 h) := by
  unfold ab_X17_down_45
  exact ve_X17_down_47 hs
theorem ve_X17_down_35 {z0 : vt_S} {x4 : Int64} {s0 : Int32} {s1 : Int32} {h : vt_S} (hs : veq z0 h) : vfr veq z0 (ab_X17_down_35 x4 s0 s1 h) := by
  unfold ab_X17_down_35
  refine vr_if ?_ ?_
  · exact ve_X17_down_45 hs
  · exact ve_X17_down_47 hs
theorem ve_X17_down_24 {z0 : vt_S} {x2 : Int64} {x4 : Int64} {s0 : Int32} {h : vt_S} (hs : veq z0 h) : vfr veq z0 (ab_X17_down_24 x2 x4 s0 h) := by
  unfold ab_X17_down_24
  refine vr_if ?_ ?_
  · exact ve_X17_down_35 hs
  · exact ve_X17_down_35 hs
theorem ve_X17_down_0 {z0 : vt_S} {x0 : Int64} {x2 : Int64} {h : vt_S} (hs : veq z0 h) : vfr veq z0 (ab_X17_down x0 x2 h) := by
  unfold ab_X17_down
  refine vr_if vr_no ?_
  refine vr_if vr_no ?_
  refine vr_if ?_ ?_
  · exact ve_X17_down_45 hs
  · refine vr_if ?_ ?_
    · exact ve_X17_down_24 hs
    · exact ve_X17_down_24 hs
theorem ve_X17_down {x0 : Int64} {x2 : Int64} {h : vt_S} {r : Int64} {s : vt_S} (e : ab_X17_down x0 x2 h = some (r, s)) : s = h := ve_X17_down_0 rfl r s e

theorem ve_X17_cross_0 {z0 : vt_S} {x0 : Int64} {x2 : Int64} {x4 : Int64} {x6 : Int64} {h : vt_S} (hs : veq z0 h) : vfr veq z0 (ab_X17_cross x0 x2 x4 x6 h) := by
  unfold ab_X17_cross
  exact vr_rt hs
theorem ve_X17_cross {x0 : Int64} {x2 : Int64} {x4 : Int64} {x6 : Int64} {h : vt_S} {r : Int64} {s : vt_S} (e : ab_X17_cross x0 x2 x4 x6 h = some (r, s)) : s = h := ve_X17_cross_0 rfl r s e

theorem vk_X17_meets_242 {O : Nat → Prop} {z0 : vt_S} {s0 : Int32} {h : vt_S} (hs : vw [1815, 1816, 1817, 1818, 1819] [] [] O z0 h) : vfr (vw [1815, 1816, 1817, 1818, 1819] [] [] O) z0 (ab_X17_meets_242 s0 h) := by
  unfold ab_X17_meets_242
  exact vr_rz hs
theorem vk_X17_meets_241 {O : Nat → Prop} {z0 : vt_S} {h : vt_S} (hs : vw [1815, 1816, 1817, 1818, 1819] [] [] O z0 h) : vfr (vw [1815, 1816, 1817, 1818, 1819] [] [] O) z0 (ab_X17_meets_241 h) := by
  unfold ab_X17_meets_241
  exact vk_X17_meets_242 hs
theorem vk_X17_meets_225 {O : Nat → Prop} {z0 : vt_S} {x0 : Nat} {s0 : Int32} {s1 : Int32} {h : vt_S} (ox0 : O x0) (hs : vw [1815, 1816, 1817, 1818, 1819] [] [] O z0 h) : vfr (vw [1815, 1816, 1817, 1818, 1819] [] [] O) z0 (ab_X17_meets_225 x0 s0 s1 h) := by
  unfold ab_X17_meets_225
  refine vr_if ?_ ?_
  · exact vk_X17_meets_241 hs
  · refine vr_let (fun _ => ?_)
    refine vr_if ?_ ?_
    · exact vk_X17_meets_241 hs
    · exact vk_X17_meets_242 hs
theorem vk_X17_meets_211 {O : Nat → Prop} {z0 : vt_S} {x0 : Nat} {s0 : Int32} {h : vt_S} (ox0 : O x0) (hs : vw [1815, 1816, 1817, 1818, 1819] [] [] O z0 h) : vfr (vw [1815, 1816, 1817, 1818, 1819] [] [] O) z0 (ab_X17_meets_211 x0 s0 h) := by
  unfold ab_X17_meets_211
  refine vr_let (fun _ => ?_)
  refine vr_if ?_ ?_
  · exact vk_X17_meets_225 ox0 hs
  · exact vk_X17_meets_225 ox0 hs
theorem vk_X17_meets_197 {O : Nat → Prop} {z0 : vt_S} {x0 : Nat} {h : vt_S} (ox0 : O x0) (hs : vw [1815, 1816, 1817, 1818, 1819] [] [] O z0 h) : vfr (vw [1815, 1816, 1817, 1818, 1819] [] [] O) z0 (ab_X17_meets_197 x0 h) := by
  unfold ab_X17_meets_197
  refine vr_let (fun _ => ?_)
  refine vr_if ?_ ?_
  · exact vk_X17_meets_211 ox0 hs
  · exact vk_X17_meets_211 ox0 hs
theorem vk_X17_meets_167 {O : Nat → Prop} {z0 : vt_S} {x0 : Nat} {s0 : Nat} {s1 : Int32} {h : vt_S} (ox0 : O x0) (os0 : O s0) (hs : vw [1815, 1816, 1817, 1818, 1819] [] [] O z0 h) : vfr (vw [1815, 1816, 1817, 1818, 1819] [] [] O) z0 (ab_X17_meets_167 x0 s0 s1 h) := by
  unfold ab_X17_meets_167
  refine vr_Z hs (by decide) os0 (fun h hs => ?_)
  refine vr_let (fun _ => ?_)
  refine vr_if ?_ ?_
  · exact vk_X17_meets_197 ox0 hs
  · refine vr_let (fun _ => ?_)
    refine vr_J hs (by decide) ox0 (fun h hs => ?_)
    refine vr_let (fun _ => ?_)
    refine vr_J hs (by decide) ox0 (fun h hs => ?_)
    exact vk_X17_meets_197 ox0 hs
theorem vk_X17_meets_0 {O : Nat → Prop} {z0 : vt_S} {x0 : Nat} {x1 : Int32} {h : vt_S} (ox0 : O x0) (hs : vw [1815, 1816, 1817, 1818, 1819] [] [] O z0 h) : vfr (vw [1815, 1816, 1817, 1818, 1819] [] [] O) z0 (ab_X17_meets x0 x1 h) := by
  unfold ab_X17_meets
  refine vr_gP hs ox0 (fun v1 ov1 => ?_)
  refine vr_bd (fun _ => ?_)
  refine vr_gP hs ox0 (fun v4 ov4 => ?_)
  refine vr_bd (fun _ => ?_)
  refine vr_gP hs ox0 (fun v7 ov7 => ?_)
  refine vr_bd (fun _ => ?_)
  refine vr_gP hs ox0 (fun v10 ov10 => ?_)
  refine vr_bd (fun _ => ?_)
  refine vr_let (fun _ => ?_)
  refine vr_let (fun _ => ?_)
  refine vr_let (fun _ => ?_)
  refine vr_let (fun _ => ?_)
  refine vr_cl (fun _ _ e => (by rw [ve_X17_cross e]; exact hs)) (fun _ h hs => ?_)
  refine vr_J hs (by decide) ox0 (fun h hs => ?_)
  refine vr_let (fun _ => ?_)
  refine vr_let (fun _ => ?_)
  refine vr_let (fun _ => ?_)
  refine vr_let (fun _ => ?_)
  refine vr_cl (fun _ _ e => (by rw [ve_X17_cross e]; exact hs)) (fun _ h hs => ?_)
  refine vr_J hs (by decide) ox0 (fun h hs => ?_)
  refine vr_let (fun _ => ?_)
  refine vr_let (fun _ => ?_)
  refine vr_cl (fun _ _ e => (by rw [ve_X17_cross e]; exact hs)) (fun _ h hs => ?_)
  refine vr_J hs (by decide) ox0 (fun h hs => ?_)
  refine vr_let (fun _ => ?_)
  refine vr_let (fun _ => ?_)
  refine vr_J hs (by decide) ox0 (fun h hs => ?_)
  refine vr_let (fun _ => ?_)
  refine vr_if ?_ ?_
  · exact vk_X17_meets_167 ox0 ox0 hs
  · exact vk_X17_meets_167 ox0 ox0 hs
theorem vk_X17_meets {O : Nat → Prop} {x0 : Nat} {x1 : Int32} {h : vt_S} {r : Int32} {s : vt_S} (c : vcl O h) (ox0 : O x0) (e : ab_X17_meets x0 x1 h = some (r, s)) : vw [1815, 1816, 1817, 1818, 1819] [] [] O h s := vk_X17_meets_0 ox0 ⟨vk.refl h, c⟩ r s e

theorem ve_X16_order_83 {z0 : vt_S} {s0 : Int32} {h : vt_S} (hs : veq z0 h) : vfr veq z0 (ab_X16_order_83 s0 h) := by
  unfold ab_X16_order_83
  exact vr_rt hs
theorem ve_X16_order_37 {z0 : vt_S} {s0 : Int32} {h : vt_S} (hs : veq z0 h) : vfr veq z0 (ab_X16_order_37 s0 h) := by
  unfold ab_X16_order_37
  exact vr_rt hs
theorem ve_X16_order_0 {z0 : vt_S} {x0 : Int64} {x2 : Int64} {x4 : Int64} {x6 : Int64} {h : vt_S} (hs : veq z0 h) : vfr veq z0 (ab_X16_order x0 x2 x4 x6 h) := by
  unfold ab_X16_order
  refine vr_cl (fun _ _ e => ((ve_J9_multiplyHigh_f86c9 e).trans hs)) (fun _ h hs => ?_)
  refine vr_cl (fun _ _ e => ((ve_J9_multiplyHigh_f86c9 e).trans hs)) (fun _ h hs => ?_)
  refine vr_if ?_ ?_
  · refine vr_if ?_ ?_
    · refine vr_if ?_ ?_
      · exact ve_X16_order_83 hs
      · exact ve_X16_order_83 hs
    · exact ve_X16_order_83 hs
  · refine vr_if ?_ ?_
    · exact ve_X16_order_37 hs
    · exact ve_X16_order_37 hs
theorem ve_X16_order {x0 : Int64} {x2 : Int64} {x4 : Int64} {x6 : Int64} {h : vt_S} {r : Int32} {s : vt_S} (e : ab_X16_order x0 x2 x4 x6 h = some (r, s)) : s = h := ve_X16_order_0 rfl r s e

theorem vk_X17_gather_134 {O : Nat → Prop} {z0 : vt_S} {k18 : Nat → Int32 → vt_S → Option (Unit × vt_S)} (hk18 : ∀ {x0 : Nat} {x5 : Int32} {h : vt_S}, O x0 → vw [1815, 1816, 1817, 1818, 1819, 1821, 1827, 1828] [1820] [] O z0 h → vfr (vw [1815, 1816, 1817, 1818, 1819, 1821, 1827, 1828] [1820] [] O) z0 (k18 x0 x5 h)) {x0 : Nat} {x5 : Int32} {h : vt_S} (ox0 : O x0) (hs : vw [1815, 1816, 1817, 1818, 1819, 1821, 1827, 1828] [1820] [] O z0 h) : vfr (vw [1815, 1816, 1817, 1818, 1819, 1821, 1827, 1828] [1820] [] O) z0 (ab_X17_gather_134 k18 x0 x5 h) := by
  unfold ab_X17_gather_134
  exact hk18 ox0 hs
theorem vk_X17_gather_115 {O : Nat → Prop} {z0 : vt_S} {k18 : Nat → Int32 → vt_S → Option (Unit × vt_S)} (hk18 : ∀ {x0 : Nat} {x5 : Int32} {h : vt_S}, O x0 → vw [1815, 1816, 1817, 1818, 1819, 1821, 1827, 1828] [1820] [] O z0 h → vfr (vw [1815, 1816, 1817, 1818, 1819, 1821, 1827, 1828] [1820] [] O) z0 (k18 x0 x5 h)) {x0 : Nat} {x5 : Int32} {x10 : Int32} {h : vt_S} (ox0 : O x0) (hs : vw [1815, 1816, 1817, 1818, 1819, 1821, 1827, 1828] [1820] [] O z0 h) : vfr (vw [1815, 1816, 1817, 1818, 1819, 1821, 1827, 1828] [1820] [] O) z0 (ab_X17_gather_115 k18 x0 x5 x10 h) := by
  unfold ab_X17_gather_115
  refine vr_sI hs (by decide) ox0 (fun h hs => ?_)
  refine vr_let (fun _ => ?_)
  refine vr_I hs (by decide) ox0 (fun h hs => ?_)
  exact vk_X17_gather_134 hk18 ox0 hs
theorem vk_X17_gather_54b {O : Nat → Prop} {z0 : vt_S} {k18 : Nat → Int32 → vt_S → Option (Unit × vt_S)} (hk18 : ∀ {x0 : Nat} {x5 : Int32} {h : vt_S}, O x0 → vw [1815, 1816, 1817, 1818, 1819, 1821, 1827, 1828] [1820] [] O z0 h → vfr (vw [1815, 1816, 1817, 1818, 1819, 1821, 1827, 1828] [1820] [] O) z0 (k18 x0 x5 h)) {k54 : Nat → Int32 → Int64 → Int64 → Int32 → vt_S → Option (Unit × vt_S)} (hk54 : ∀ {x0 : Nat} {x5 : Int32} {x6 : Int64} {x8 : Int64} {x10 : Int32} {h : vt_S}, O x0 → vw [1815, 1816, 1817, 1818, 1819, 1821, 1827, 1828] [1820] [] O z0 h → vfr (vw [1815, 1816, 1817, 1818, 1819, 1821, 1827, 1828] [1820] [] O) z0 (k54 x0 x5 x6 x8 x10 h)) {x0 : Nat} {x5 : Int32} {x6 : Int64} {x8 : Int64} {x10 : Int32} {h : vt_S} (ox0 : O x0) (hs : vw [1815, 1816, 1817, 1818, 1819, 1821, 1827, 1828] [1820] [] O z0 h) : vfr (vw [1815, 1816, 1817, 1818, 1819, 1821, 1827, 1828] [1820] [] O) z0 (ab_X17_gather_54b k18 k54 x0 x5 x6 x8 x10 h) := by
  unfold ab_X17_gather_54b
  refine vr_if ?_ ?_
  · exact vk_X17_gather_115 hk18 ox0 hs
  · refine vr_bd (fun _ => ?_)
    refine vr_cl (fun _ _ e => (let q := vk_X17_meets hs.2 ox0 e; ⟨hs.1.trans (q.1.weak (by decide) (by decide) (by decide)), q.2⟩)) (fun _ h hs => ?_)
    refine vr_if ?_ ?_
    · exact vk_X17_gather_115 hk18 ox0 hs
    · refine vr_let (fun _ => ?_)
      refine vr_let (fun _ => ?_)
      refine vr_cl (fun _ _ e => (by rw [ve_X16_order e]; exact hs)) (fun _ h hs => ?_)
      refine vr_if ?_ ?_
      · exact vk_X17_gather_115 hk18 ox0 hs
      · refine vr_bd (fun _ => ?_)
        refine vr_sI hs (by decide) ox0 (fun h hs => ?_)
        exact hk54 ox0 hs
theorem vk_X17_gather_54 {O : Nat → Prop} {z0 : vt_S} {k18 : Nat → Int32 → vt_S → Option (Unit × vt_S)} (hk18 : ∀ {x0 : Nat} {x5 : Int32} {h : vt_S}, O x0 → vw [1815, 1816, 1817, 1818, 1819, 1821, 1827, 1828] [1820] [] O z0 h → vfr (vw [1815, 1816, 1817, 1818, 1819, 1821, 1827, 1828] [1820] [] O) z0 (k18 x0 x5 h)) : ∀ (n : Nat) {x0 : Nat} {x5 : Int32} {x6 : Int64} {x8 : Int64} {x10 : Int32} {h : vt_S}, O x0 → vw [1815, 1816, 1817, 1818, 1819, 1821, 1827, 1828] [1820] [] O z0 h → vfr (vw [1815, 1816, 1817, 1818, 1819, 1821, 1827, 1828] [1820] [] O) z0 (ab_X17_gather_54 k18 n x0 x5 x6 x8 x10 h) := by
  intro n
  induction n with
  | zero => intro x0 x5 x6 x8 x10 h ox0 hs; exact vr_no
  | succ n ih => intro x0 x5 x6 x8 x10 h ox0 hs; exact vk_X17_gather_54b hk18 (fun ox0 hs => ih ox0 hs) ox0 hs
theorem vk_X17_gather_18b {O : Nat → Prop} {z0 : vt_S} {k18 : Nat → Int32 → vt_S → Option (Unit × vt_S)} (hk18 : ∀ {x0 : Nat} {x5 : Int32} {h : vt_S}, O x0 → vw [1815, 1816, 1817, 1818, 1819, 1821, 1827, 1828] [1820] [] O z0 h → vfr (vw [1815, 1816, 1817, 1818, 1819, 1821, 1827, 1828] [1820] [] O) z0 (k18 x0 x5 h)) {x0 : Nat} {x5 : Int32} {h : vt_S} (ox0 : O x0) (hs : vw [1815, 1816, 1817, 1818, 1819, 1821, 1827, 1828] [1820] [] O z0 h) : vfr (vw [1815, 1816, 1817, 1818, 1819, 1821, 1827, 1828] [1820] [] O) z0 (ab_X17_gather_18b k18 x0 x5 h) := by
  unfold ab_X17_gather_18b
  refine vr_cl (fun _ _ e => (by rw [ve_X17_walls e]; exact hs)) (fun _ h hs => ?_)
  refine vr_if ?_ ?_
  · exact vr_rt hs
  · refine vr_cl (fun _ _ e => (let q := vk_X17_meets hs.2 ox0 e; ⟨hs.1.trans (q.1.weak (by decide) (by decide) (by decide)), q.2⟩)) (fun _ h hs => ?_)
    refine vr_if ?_ ?_
    · exact vk_X17_gather_134 hk18 ox0 hs
    · refine vr_let (fun _ => ?_)
      refine vr_let (fun _ => ?_)
      refine vr_let (fun _ => ?_)
      exact vk_X17_gather_54 hk18 sv_fuel ox0 hs
theorem vk_X17_gather_18 {O : Nat → Prop} {z0 : vt_S} : ∀ (n : Nat) {x0 : Nat} {x5 : Int32} {h : vt_S}, O x0 → vw [1815, 1816, 1817, 1818, 1819, 1821, 1827, 1828] [1820] [] O z0 h → vfr (vw [1815, 1816, 1817, 1818, 1819, 1821, 1827, 1828] [1820] [] O) z0 (ab_X17_gather_18 n x0 x5 h) := by
  intro n
  induction n with
  | zero => intro x0 x5 h ox0 hs; exact vr_no
  | succ n ih => intro x0 x5 h ox0 hs; exact vk_X17_gather_18b (fun ox0 hs => ih ox0 hs) ox0 hs
theorem vk_X17_gather_0 {O : Nat → Prop} {z0 : vt_S} {x0 : Nat} {x1 : Int64} {x3 : Int64} {h : vt_S} (ox0 : O x0) (hs : vw [1815, 1816, 1817, 1818, 1819, 1821, 1827, 1828] [1820] [] O z0 h) : vfr (vw [1815, 1816, 1817, 1818, 1819, 1821, 1827, 1828] [1820] [] O) z0 (ab_X17_gather x0 x1 x3 h) := by
  unfold ab_X17_gather
  refine vr_J hs (by decide) ox0 (fun h hs => ?_)
  refine vr_J hs (by decide) ox0 (fun h hs => ?_)
  refine vr_I hs (by decide) ox0 (fun h hs => ?_)
  exact vk_X17_gather_18 sv_fuel ox0 hs
theorem vk_X17_gather {O : Nat → Prop} {x0 : Nat} {x1 : Int64} {x3 : Int64} {h : vt_S} {r : Unit} {s : vt_S} (c : vcl O h) (ox0 : O x0) (e : ab_X17_gather x0 x1 x3 h = some (r, s)) : vw [1815, 1816, 1817, 1818, 1819, 1821, 1827, 1828] [1820] [] O h s := vk_X17_gather_0 ox0 ⟨vk.refl h, c⟩ r s e

theorem ve_X17_wallPart_0 {z0 : vt_S} {x0 : Nat} {x1 : Int32} {x2 : Int32} {h : vt_S} (hs : veq z0 h) : vfr veq z0 (ab_X17_wallPart x0 x1 x2 h) := by
  unfold ab_X17_wallPart
  refine vr_let (fun _ => ?_)
  refine vr_cl (fun _ _ e => ((ve_X14_wall e).trans hs)) (fun _ h hs => ?_)
  exact vr_rt hs
theorem ve_X17_wallPart {x0 : Nat} {x1 : Int32} {x2 : Int32} {h : vt_S} {r : Int32} {s : vt_S} (e : ab_X17_wallPart x0 x1 x2 h = some (r, s)) : s = h := ve_X17_wallPart_0 rfl r s e

theorem ve_X17_sideOf_31 {z0 : vt_S} {s0 : Int32} {h : vt_S} (hs : veq z0 h) : vfr veq z0 (ab_X17_sideOf_31 s0 h) := by
  unfold ab_X17_sideOf_31
  exact vr_rt hs
theorem ve_X17_sideOf_15 {z0 : vt_S} {s0 : Nat} {s1 : Int32} {s2 : Int32} {h : vt_S} (hs : veq z0 h) : vfr veq z0 (ab_X17_sideOf_15 s0 s1 s2 h) := by
  unfold ab_X17_sideOf_15
  refine vr_cl (fun _ _ e => ((ve_X17_wallPart e).trans hs)) (fun _ h hs => ?_)
  refine vr_if ?_ ?_
  · exact ve_X17_sideOf_31 hs
  · exact ve_X17_sideOf_31 hs
theorem ve_X17_sideOf_0 {z0 : vt_S} {x0 : Nat} {x1 : Int32} {x2 : Int32} {h : vt_S} (hs : veq z0 h) : vfr veq z0 (ab_X17_sideOf x0 x1 x2 h) := by
  unfold ab_X17_sideOf
  refine vr_let (fun _ => ?_)
  refine vr_if ?_ ?_
  · exact ve_X17_sideOf_15 hs
  · exact ve_X17_sideOf_15 hs
theorem ve_X17_sideOf {x0 : Nat} {x1 : Int32} {x2 : Int32} {h : vt_S} {r : Int32} {s : vt_S} (e : ab_X17_sideOf x0 x1 x2 h = some (r, s)) : s = h := ve_X17_sideOf_0 rfl r s e

theorem ve_X17_stops_22 {z0 : vt_S} {h : vt_S} (hs : veq z0 h) : vfr veq z0 (ab_X17_stops_22 h) := by
  unfold ab_X17_stops_22
  exact vr_rt hs
theorem ve_X17_stops_151 {z0 : vt_S} {s0 : Int32} {h : vt_S} (hs : veq z0 h) : vfr veq z0 (ab_X17_stops_151 s0 h) := by
  unfold ab_X17_stops_151
  exact vr_rz hs
theorem ve_X17_stops_146 {z0 : vt_S} {h : vt_S} (hs : veq z0 h) : vfr veq z0 (ab_X17_stops_146 h) := by
  unfold ab_X17_stops_146
  exact ve_X17_stops_151 hs
theorem ve_X17_stops_110 {z0 : vt_S} {x0 : Nat} {x2 : Int32} {x3 : Int32} {x4 : Int32} {s0 : Int32} {h : vt_S} (hs : veq z0 h) : vfr veq z0 (ab_X17_stops_110 x0 x2 x3 x4 s0 h) := by
  unfold ab_X17_stops_110
  refine vr_let (fun _ => ?_)
  refine vr_bd (fun _ => ?_)
  refine vr_let (fun _ => ?_)
  refine vr_bd (fun _ => ?_)
  refine vr_if ?_ ?_
  · exact ve_X17_stops_146 hs
  · refine vr_if ?_ ?_
    · exact ve_X17_stops_151 hs
    · exact ve_X17_stops_146 hs
theorem ve_X17_stops_66 {z0 : vt_S} {x0 : Nat} {x2 : Int32} {x3 : Int32} {s0 : Int32} {h : vt_S} (hs : veq z0 h) : vfr veq z0 (ab_X17_stops_66 x0 x2 x3 s0 h) := by
  unfold ab_X17_stops_66
  refine vr_let (fun _ => ?_)
  refine vr_bd (fun _ => ?_)
  refine vr_let (fun _ => ?_)
  refine vr_bd (fun _ => ?_)
  refine vr_if ?_ ?_
  · refine vr_let (fun _ => ?_)
    refine vr_bd (fun _ => ?_)
    exact ve_X17_stops_110 hs
  · refine vr_let (fun _ => ?_)
    refine vr_bd (fun _ => ?_)
    exact ve_X17_stops_110 hs
theorem ve_X17_stops_0 {z0 : vt_S} {x0 : Nat} {x1 : Int32} {h : vt_S} (hs : veq z0 h) : vfr veq z0 (ab_X17_stops x0 x1 h) := by
  unfold ab_X17_stops
  refine vr_cl (fun _ _ e => ((ve_X17_sideOf e).trans hs)) (fun _ h hs => ?_)
  refine vr_cl (fun _ _ e => ((ve_X17_sideOf e).trans hs)) (fun _ h hs => ?_)
  refine vr_if ?_ ?_
  · exact ve_X17_stops_22 hs
  · refine vr_if ?_ ?_
    · refine vr_let (fun _ => ?_)
      refine vr_bd (fun _ => ?_)
      refine vr_let (fun _ => ?_)
      refine vr_bd (fun _ => ?_)
      refine vr_if ?_ ?_
      · refine vr_let (fun _ => ?_)
        refine vr_bd (fun _ => ?_)
        exact ve_X17_stops_66 hs
      · refine vr_let (fun _ => ?_)
        refine vr_bd (fun _ => ?_)
        exact ve_X17_stops_66 hs
    · exact ve_X17_stops_22 hs
theorem ve_X17_stops {x0 : Nat} {x1 : Int32} {h : vt_S} {r : Int32} {s : vt_S} (e : ab_X17_stops x0 x1 h = some (r, s)) : s = h := ve_X17_stops_0 rfl r s e

theorem ve_X13_lowCeiling_70 {z0 : vt_S} {s0 : Int32} {h : vt_S} (hs : veq z0 h) : vfr veq z0 (ab_X13_lowCeiling_70 s0 h) := by
  unfold ab_X13_lowCeiling_70
  exact vr_rt hs
theorem ve_X13_lowCeiling_47 {z0 : vt_S} {k5 : Nat → Int32 → Int32 → Int32 → vt_S → Option (Int32 × vt_S)} (hk5 : ∀ {x0 : Nat} {x1 : Int32} {x2 : Int32} {x3 : Int32} {h : vt_S}, veq z0 h → vfr veq z0 (k5 x0 x1 x2 x3 h)) {x0 : Nat} {x1 : Int32} {x3 : Int32} {s0 : Int32} {h : vt_S} (hs : veq z0 h) : vfr veq z0 (ab_X13_lowCeiling_47 k5 x0 x1 x3 s0 h) := by
  unfold ab_X13_lowCeiling_47
  exact hk5 hs
theorem ve_X13_lowCeiling_46 {z0 : vt_S} {k5 : Nat → Int32 → Int32 → Int32 → vt_S → Option (Int32 × vt_S)} (hk5 : ∀ {x0 : Nat} {x1 : Int32} {x2 : Int32} {x3 : Int32} {h : vt_S}, veq z0 h → vfr veq z0 (k5 x0 x1 x2 x3 h)) {x0 : Nat} {x1 : Int32} {x2 : Int32} {x3 : Int32} {h : vt_S} (hs : veq z0 h) : vfr veq z0 (ab_X13_lowCeiling_46 k5 x0 x1 x2 x3 h) := by
  unfold ab_X13_lowCeiling_46
  exact ve_X13_lowCeiling_47 hk5 hs
theorem ve_X13_lowCeiling_5b {z0 : vt_S} {k5 : Nat → Int32 → Int32 → Int32 → vt_S → Option (Int32 × vt_S)} (hk5 : ∀ {x0 : Nat} {x1 : Int32} {x2 : Int32} {x3 : Int32} {h : vt_S}, veq z0 h → vfr veq z0 (k5 x0 x1 x2 x3 h)) {x0 : Nat} {x1 : Int32} {x2 : Int32} {x3 : Int32} {h : vt_S} (hs : veq z0 h) : vfr veq z0 (ab_X13_lowCeiling_5b k5 x0 x1 x2 x3 h) := by
  unfold ab_X13_lowCeiling_5b
  refine vr_let (fun _ => ?_)
  refine vr_if ?_ ?_
  · refine vr_if ?_ ?_
    · refine vr_bd (fun _ => ?_)
      exact ve_X13_lowCeiling_70 hs
    · exact ve_X13_lowCeiling_70 hs
  · refine vr_bd (fun _ => ?_)
    refine vr_if ?_ ?_
    · exact ve_X13_lowCeiling_46 hk5 hs
    · refine vr_bd (fun _ => ?_)
      refine vr_if ?_ ?_
      · exact ve_X13_lowCeiling_46 hk5 hs
      · refine vr_bd (fun _ => ?_)
        exact ve_X13_lowCeiling_47 hk5 hs
theorem ve_X13_lowCeiling_5 {z0 : vt_S} : ∀ (n : Nat) {x0 : Nat} {x1 : Int32} {x2 : Int32} {x3 : Int32} {h : vt_S}, veq z0 h → vfr veq z0 (ab_X13_lowCeiling_5 n x0 x1 x2 x3 h) := by
  intro n
  induction n with
  | zero => intro x0 x1 x2 x3 h hs; exact vr_no
  | succ n ih => intro x0 x1 x2 x3 h hs; exact ve_X13_lowCeiling_5b (fun hs => ih hs) hs
theorem ve_X13_lowCeiling_0 {z0 : vt_S} {x0 : Nat} {x1 : Int32} {h : vt_S} (hs : veq z0 h) : vfr veq z0 (ab_X13_lowCeiling x0 x1 h) := by
  unfold ab_X13_lowCeiling
  exact ve_X13_lowCeiling_5 sv_fuel hs
theorem ve_X13_lowCeiling {x0 : Nat} {x1 : Int32} {h : vt_S} {r : Int32} {s : vt_S} (e : ab_X13_lowCeiling x0 x1 h = some (r, s)) : s = h := ve_X13_lowCeiling_0 rfl r s e

theorem ve_X13_highFloor_51 {z0 : vt_S} {k9 : Nat → Int32 → Int32 → Int32 → vt_S → Option (Int32 × vt_S)} (hk9 : ∀ {x0 : Nat} {x1 : Int32} {x2 : Int32} {x3 : Int32} {h : vt_S}, veq z0 h → vfr veq z0 (k9 x0 x1 x2 x3 h)) {x0 : Nat} {x1 : Int32} {x3 : Int32} {s0 : Int32} {h : vt_S} (hs : veq z0 h) : vfr veq z0 (ab_X13_highFloor_51 k9 x0 x1 x3 s0 h) := by
  unfold ab_X13_highFloor_51
  exact hk9 hs
theorem ve_X13_highFloor_50 {z0 : vt_S} {k9 : Nat → Int32 → Int32 → Int32 → vt_S → Option (Int32 × vt_S)} (hk9 : ∀ {x0 : Nat} {x1 : Int32} {x2 : Int32} {x3 : Int32} {h : vt_S}, veq z0 h → vfr veq z0 (k9 x0 x1 x2 x3 h)) {x0 : Nat} {x1 : Int32} {x2 : Int32} {x3 : Int32} {h : vt_S} (hs : veq z0 h) : vfr veq z0 (ab_X13_highFloor_50 k9 x0 x1 x2 x3 h) := by
  unfold ab_X13_highFloor_50
  exact ve_X13_highFloor_51 hk9 hs
theorem ve_X13_highFloor_9b {z0 : vt_S} {k9 : Nat → Int32 → Int32 → Int32 → vt_S → Option (Int32 × vt_S)} (hk9 : ∀ {x0 : Nat} {x1 : Int32} {x2 : Int32} {x3 : Int32} {h : vt_S}, veq z0 h → vfr veq z0 (k9 x0 x1 x2 x3 h)) {x0 : Nat} {x1 : Int32} {x2 : Int32} {x3 : Int32} {h : vt_S} (hs : veq z0 h) : vfr veq z0 (ab_X13_highFloor_9b k9 x0 x1 x2 x3 h) := by
  unfold ab_X13_highFloor_9b
  refine vr_let (fun _ => ?_)
  refine vr_if ?_ ?_
  · exact vr_rt hs
  · refine vr_bd (fun _ => ?_)
    refine vr_if ?_ ?_
    · exact ve_X13_highFloor_50 hk9 hs
    · refine vr_bd (fun _ => ?_)
      refine vr_if ?_ ?_
      · exact ve_X13_highFloor_50 hk9 hs
      · refine vr_bd (fun _ => ?_)
        exact ve_X13_highFloor_51 hk9 hs
theorem ve_X13_highFloor_9 {z0 : vt_S} : ∀ (n : Nat) {x0 : Nat} {x1 : Int32} {x2 : Int32} {x3 : Int32} {h : vt_S}, veq z0 h → vfr veq z0 (ab_X13_highFloor_9 n x0 x1 x2 x3 h) := by
  intro n
  induction n with
  | zero => intro x0 x1 x2 x3 h hs; exact vr_no
  | succ n ih => intro x0 x1 x2 x3 h hs; exact ve_X13_highFloor_9b (fun hs => ih hs) hs
theorem ve_X13_highFloor_0 {z0 : vt_S} {x0 : Nat} {x1 : Int32} {h : vt_S} (hs : veq z0 h) : vfr veq z0 (ab_X13_highFloor x0 x1 h) := by
  unfold ab_X13_highFloor
  refine vr_bd (fun _ => ?_)
  exact ve_X13_highFloor_9 sv_fuel hs
theorem ve_X13_highFloor {x0 : Nat} {x1 : Int32} {h : vt_S} {r : Int32} {s : vt_S} (e : ab_X13_highFloor x0 x1 h = some (r, s)) : s = h := ve_X13_highFloor_0 rfl r s e

theorem ve_X13_lowFloor_51 {z0 : vt_S} {k9 : Nat → Int32 → Int32 → Int32 → vt_S → Option (Int32 × vt_S)} (hk9 : ∀ {x0 : Nat} {x1 : Int32} {x2 : Int32} {x3 : Int32} {h : vt_S}, veq z0 h → vfr veq z0 (k9 x0 x1 x2 x3 h)) {x0 : Nat} {x1 : Int32} {x3 : Int32} {s0 : Int32} {h : vt_S} (hs : veq z0 h) : vfr veq z0 (ab_X13_lowFloor_51 k9 x0 x1 x3 s0 h) := by
  unfold ab_X13_lowFloor_51
  exact hk9 hs
theorem ve_X13_lowFloor_50 {z0 : vt_S} {k9 : Nat → Int32 → Int32 → Int32 → vt_S → Option (Int32 × vt_S)} (hk9 : ∀ {x0 : Nat} {x1 : Int32} {x2 : Int32} {x3 : Int32} {h : vt_S}, veq z0 h → vfr veq z0 (k9 x0 x1 x2 x3 h)) {x0 : Nat} {x1 : Int32} {x2 : Int32} {x3 : Int32} {h : vt_S} (hs : veq z0 h) : vfr veq z0 (ab_X13_lowFloor_50 k9 x0 x1 x2 x3 h) := by
  unfold ab_X13_lowFloor_50
  exact ve_X13_lowFloor_51 hk9 hs
theorem ve_X13_lowFloor_9b {z0 : vt_S} {k9 : Nat → Int32 → Int32 → Int32 → vt_S → Option (Int32 × vt_S)} (hk9 : ∀ {x0 : Nat} {x1 : Int32} {x2 : Int32} {x3 : Int32} {h : vt_S}, veq z0 h → vfr veq z0 (k9 x0 x1 x2 x3 h)) {x0 : Nat} {x1 : Int32} {x2 : Int32} {x3 : Int32} {h : vt_S} (hs : veq z0 h) : vfr veq z0 (ab_X13_lowFloor_9b k9 x0 x1 x2 x3 h) := by
  unfold ab_X13_lowFloor_9b
  refine vr_let (fun _ => ?_)
  refine vr_if ?_ ?_
  · exact vr_rt hs
  · refine vr_bd (fun _ => ?_)
    refine vr_if ?_ ?_
    · exact ve_X13_lowFloor_50 hk9 hs
    · refine vr_bd (fun _ => ?_)
      refine vr_if ?_ ?_
      · exact ve_X13_lowFloor_50 hk9 hs
      · refine vr_bd (fun _ => ?_)
        exact ve_X13_lowFloor_51 hk9 hs
theorem ve_X13_lowFloor_9 {z0 : vt_S} : ∀ (n : Nat) {x0 : Nat} {x1 : Int32} {x2 : Int32} {x3 : Int32} {h : vt_S}, veq z0 h → vfr veq z0 (ab_X13_lowFloor_9 n x0 x1 x2 x3 h) := by
  intro n
  induction n with
  | zero => intro x0 x1 x2 x3 h hs; exact vr_no
  | succ n ih => intro x0 x1 x2 x3 h hs; exact ve_X13_lowFloor_9b (fun hs => ih hs) hs
theorem ve_X13_lowFloor_0 {z0 : vt_S} {x0 : Nat} {x1 : Int32} {h : vt_S} (hs : veq z0 h) : vfr veq z0 (ab_X13_lowFloor x0 x1 h) := by
  unfold ab_X13_lowFloor
  refine vr_bd (fun _ => ?_)
  exact ve_X13_lowFloor_9 sv_fuel hs
theorem ve_X13_lowFloor {x0 : Nat} {x1 : Int32} {h : vt_S} {r : Int32} {s : vt_S} (e : ab_X13_lowFloor x0 x1 h = some (r, s)) : s = h := ve_X13_lowFloor_0 rfl r s e

theorem vk_X13_begin_17 {O : Nat → Prop} {z0 : vt_S} {h : vt_S} (hs : vw [] [1410, 1411, 1412, 1413, 1414] [] O z0 h) : vfr (vw [] [1410, 1411, 1412, 1413, 1414] [] O) z0 (ab_X13_begin_17 h) := by
  unfold ab_X13_begin_17
  exact vr_rt hs
theorem vk_X13_begin_223 {O : Nat → Prop} {z0 : vt_S} {s0 : Nat} {s1 : Int32} {s2 : Int32} {h : vt_S} (os0 : O s0) (hs : vw [] [1410, 1411, 1412, 1413, 1414] [] O z0 h) : vfr (vw [] [1410, 1411, 1412, 1413, 1414] [] O) z0 (ab_X13_begin_223 s0 s1 s2 h) := by
  unfold ab_X13_begin_223
  refine vr_sI hs (by decide) os0 (fun h hs => ?_)
  exact vr_rt hs
theorem vk_X13_begin_128 {O : Nat → Prop} {z0 : vt_S} {x0 : Nat} {x1 : Int32} {x2 : Int32} {s0 : Nat} {s1 : Int32} {s2 : Int32} {h : vt_S} (ox0 : O x0) (os0 : O s0) (hs : vw [] [1410, 1411, 1412, 1413, 1414] [] O z0 h) : vfr (vw [] [1410, 1411, 1412, 1413, 1414] [] O) z0 (ab_X13_begin_128 x0 x1 x2 s0 s1 s2 h) := by
  unfold ab_X13_begin_128
  refine vr_sI hs (by decide) os0 (fun h hs => ?_)
  refine vr_bd (fun _ => ?_)
  refine vr_sI hs (by decide) ox0 (fun h hs => ?_)
  refine vr_cl (fun _ _ e => (by rw [ve_X13_lowCeiling e]; exact hs)) (fun _ h hs => ?_)
  refine vr_cl (fun _ _ e => (by rw [ve_X13_highFloor e]; exact hs)) (fun _ h hs => ?_)
  refine vr_if ?_ ?_
  · refine vr_bd (fun _ => ?_)
    refine vr_if ?_ ?_
    · refine vr_bd (fun _ => ?_)
      exact vk_X13_begin_223 ox0 hs
    · exact vk_X13_begin_223 ox0 hs
  · refine vr_if ?_ ?_
    · refine vr_cl (fun _ _ e => (by rw [ve_X13_lowFloor e]; exact hs)) (fun _ h hs => ?_)
      exact vk_X13_begin_223 ox0 hs
    · refine vr_bd (fun _ => ?_)
      refine vr_if ?_ ?_
      · refine vr_bd (fun _ => ?_)
        exact vk_X13_begin_223 ox0 hs
      · exact vk_X13_begin_223 ox0 hs
theorem vk_X13_begin_96 {O : Nat → Prop} {z0 : vt_S} {x3 : Int32} {s0 : Nat} {s1 : Int32} {s2 : Int32} {h : vt_S} (os0 : O s0) (hs : vw [] [1410, 1411, 1412, 1413, 1414] [] O z0 h) : vfr (vw [] [1410, 1411, 1412, 1413, 1414] [] O) z0 (ab_X13_begin_96 x3 s0 s1 s2 h) := by
  unfold ab_X13_begin_96
  refine vr_sI hs (by decide) os0 (fun h hs => ?_)
  exact vr_rz hs
theorem vk_X13_begin_76 {O : Nat → Prop} {z0 : vt_S} {x0 : Nat} {x1 : Int32} {x3 : Int32} {s0 : Nat} {s1 : Int32} {s2 : Int32} {h : vt_S} (ox0 : O x0) (os0 : O s0) (hs : vw [] [1410, 1411, 1412, 1413, 1414] [] O z0 h) : vfr (vw [] [1410, 1411, 1412, 1413, 1414] [] O) z0 (ab_X13_begin_76 x0 x1 x3 s0 s1 s2 h) := by
  unfold ab_X13_begin_76
  refine vr_sI hs (by decide) os0 (fun h hs => ?_)
  refine vr_if ?_ ?_
  · refine vr_bd (fun _ => ?_)
    exact vk_X13_begin_96 ox0 hs
  · exact vk_X13_begin_96 ox0 hs
theorem vk_X13_begin_56 {O : Nat → Prop} {z0 : vt_S} {x0 : Nat} {x1 : Int32} {s0 : Int32} {h : vt_S} (ox0 : O x0) (hs : vw [] [1410, 1411, 1412, 1413, 1414] [] O z0 h) : vfr (vw [] [1410, 1411, 1412, 1413, 1414] [] O) z0 (ab_X13_begin_56 x0 x1 s0 h) := by
  unfold ab_X13_begin_56
  refine vr_if ?_ ?_
  · refine vr_bd (fun _ => ?_)
    exact vk_X13_begin_76 ox0 ox0 hs
  · exact vk_X13_begin_76 ox0 ox0 hs
theorem vk_X13_begin_55 {O : Nat → Prop} {z0 : vt_S} {x0 : Nat} {x1 : Int32} {h : vt_S} (ox0 : O x0) (hs : vw [] [1410, 1411, 1412, 1413, 1414] [] O z0 h) : vfr (vw [] [1410, 1411, 1412, 1413, 1414] [] O) z0 (ab_X13_begin_55 x0 x1 h) := by
  unfold ab_X13_begin_55
  exact vk_X13_begin_56 ox0 hs
theorem vk_X13_begin_0 {O : Nat → Prop} {z0 : vt_S} {x0 : Nat} {x1 : Int32} {x2 : Int32} {h : vt_S} (ox0 : O x0) (hs : vw [] [1410, 1411, 1412, 1413, 1414] [] O z0 h) : vfr (vw [] [1410, 1411, 1412, 1413, 1414] [] O) z0 (ab_X13_begin x0 x1 x2 h) := by
  unfold ab_X13_begin
  refine vr_cl (fun _ _ e => (by rw [ve_X13_isSector e]; exact hs)) (fun _ h hs => ?_)
  refine vr_if ?_ ?_
  · exact vk_X13_begin_17 hs
  · refine vr_if ?_ ?_
    · exact vk_X13_begin_17 hs
    · refine vr_if ?_ ?_
      · refine vr_bd (fun _ => ?_)
        refine vr_if ?_ ?_
        · refine vr_sI hs (by decide) ox0 (fun h hs => ?_)
          refine vr_sI hs (by decide) ox0 (fun h hs => ?_)
          refine vr_if ?_ ?_
          · exact vk_X13_begin_128 ox0 ox0 hs
          · exact vk_X13_begin_128 ox0 ox0 hs
        · refine vr_if ?_ ?_
          · refine vr_bd (fun _ => ?_)
            refine vr_if ?_ ?_
            · refine vr_bd (fun _ => ?_)
              refine vr_if ?_ ?_
              · exact vk_X13_begin_55 ox0 hs
              · exact vk_X13_begin_56 ox0 hs
            · exact vk_X13_begin_55 ox0 hs
          · exact vk_X13_begin_55 ox0 hs
      · exact vk_X13_begin_17 hs
theorem vk_X13_begin {O : Nat → Prop} {x0 : Nat} {x1 : Int32} {x2 : Int32} {h : vt_S} {r : Int32} {s : vt_S} (c : vcl O h) (ox0 : O x0) (e : ab_X13_begin x0 x1 x2 h = some (r, s)) : vw [] [1410, 1411, 1412, 1413, 1414] [] O h s := vk_X13_begin_0 ox0 ⟨vk.refl h, c⟩ r s e

theorem vk_X17_startAll_40 {O : Nat → Prop} {z0 : vt_S} {k2 : Nat → Int32 → Int32 → Int32 → vt_S → Option (Unit × vt_S)} (hk2 : ∀ {x0 : Nat} {x1 : Int32} {x2 : Int32} {x3 : Int32} {h : vt_S}, O x0 → vw [] [1410, 1411, 1412, 1413, 1414] [] O z0 h → vfr (vw [] [1410, 1411, 1412, 1413, 1414] [] O) z0 (k2 x0 x1 x2 x3 h)) {x0 : Nat} {x1 : Int32} {x2 : Int32} {x3 : Int32} {s0 : Int32} {h : vt_S} (ox0 : O x0) (hs : vw [] [1410, 1411, 1412, 1413, 1414] [] O z0 h) : vfr (vw [] [1410, 1411, 1412, 1413, 1414] [] O) z0 (ab_X17_startAll_40 k2 x0 x1 x2 x3 s0 h) := by
  unfold ab_X17_startAll_40
  exact hk2 ox0 hs
theorem vk_X17_startAll_39 {O : Nat → Prop} {z0 : vt_S} {k2 : Nat → Int32 → Int32 → Int32 → vt_S → Option (Unit × vt_S)} (hk2 : ∀ {x0 : Nat} {x1 : Int32} {x2 : Int32} {x3 : Int32} {h : vt_S}, O x0 → vw [] [1410, 1411, 1412, 1413, 1414] [] O z0 h → vfr (vw [] [1410, 1411, 1412, 1413, 1414] [] O) z0 (k2 x0 x1 x2 x3 h)) {x0 : Nat} {x1 : Int32} {x2 : Int32} {x3 : Int32} {h : vt_S} (ox0 : O x0) (hs : vw [] [1410, 1411, 1412, 1413, 1414] [] O z0 h) : vfr (vw [] [1410, 1411, 1412, 1413, 1414] [] O) z0 (ab_X17_startAll_39 k2 x0 x1 x2 x3 h) := by
  unfold ab_X17_startAll_39
  exact vk_X17_startAll_40 hk2 ox0 hs
theorem vk_X17_startAll_2b {O : Nat → Prop} {z0 : vt_S} {k2 : Nat → Int32 → Int32 → Int32 → vt_S → Option (Unit × vt_S)} (hk2 : ∀ {x0 : Nat} {x1 : Int32} {x2 : Int32} {x3 : Int32} {h : vt_S}, O x0 → vw [] [1410, 1411, 1412, 1413, 1414] [] O z0 h → vfr (vw [] [1410, 1411, 1412, 1413, 1414] [] O) z0 (k2 x0 x1 x2 x3 h)) {x0 : Nat} {x1 : Int32} {x2 : Int32} {x3 : Int32} {h : vt_S} (ox0 : O x0) (hs : vw [] [1410, 1411, 1412, 1413, 1414] [] O z0 h) : vfr (vw [] [1410, 1411, 1412, 1413, 1414] [] O) z0 (ab_X17_startAll_2b k2 x0 x1 x2 x3 h) := by
  unfold ab_X17_startAll_2b
  refine vr_cl (fun _ _ e => (by rw [ve_X17_sectors e]; exact hs)) (fun _ h hs => ?_)
  refine vr_if ?_ ?_
  · exact vr_rt hs
  · refine vr_gP hs ox0 (fun v3 ov3 => ?_)
    refine vr_bd (fun _ => ?_)
    refine vr_if ?_ ?_
    · refine vr_gP hs ox0 (fun v6 ov6 => ?_)
      refine vr_cl (fun _ _ e => (let q := vk_X13_begin hs.2 ov6 e; ⟨hs.1.trans (q.1.weak (by decide) (by decide) (by decide)), q.2⟩)) (fun _ h hs => ?_)
      refine vr_if ?_ ?_
      · exact vk_X17_startAll_39 hk2 ox0 hs
      · exact vk_X17_startAll_40 hk2 ox0 hs
    · exact vk_X17_startAll_39 hk2 ox0 hs
theorem vk_X17_startAll_2 {O : Nat → Prop} {z0 : vt_S} : ∀ (n : Nat) {x0 : Nat} {x1 : Int32} {x2 : Int32} {x3 : Int32} {h : vt_S}, O x0 → vw [] [1410, 1411, 1412, 1413, 1414] [] O z0 h → vfr (vw [] [1410, 1411, 1412, 1413, 1414] [] O) z0 (ab_X17_startAll_2 n x0 x1 x2 x3 h) := by
  intro n
  induction n with
  | zero => intro x0 x1 x2 x3 h ox0 hs; exact vr_no
  | succ n ih => intro x0 x1 x2 x3 h ox0 hs; exact vk_X17_startAll_2b (fun ox0 hs => ih ox0 hs) ox0 hs
theorem vk_X17_startAll_0 {O : Nat → Prop} {z0 : vt_S} {x0 : Nat} {x1 : Int32} {x2 : Int32} {h : vt_S} (ox0 : O x0) (hs : vw [] [1410, 1411, 1412, 1413, 1414] [] O z0 h) : vfr (vw [] [1410, 1411, 1412, 1413, 1414] [] O) z0 (ab_X17_startAll x0 x1 x2 h) := by
  unfold ab_X17_startAll
  exact vk_X17_startAll_2 sv_fuel ox0 hs
theorem vk_X17_startAll {O : Nat → Prop} {x0 : Nat} {x1 : Int32} {x2 : Int32} {h : vt_S} {r : Unit} {s : vt_S} (c : vcl O h) (ox0 : O x0) (e : ab_X17_startAll x0 x1 x2 h = some (r, s)) : vw [] [1410, 1411, 1412, 1413, 1414] [] O h s := vk_X17_startAll_0 ox0 ⟨vk.refl h, c⟩ r s e

theorem vk_X17_walks_139 {O : Nat → Prop} {z0 : vt_S} {h : vt_S} (hs : vw [1811, 1812, 1814, 1815, 1816, 1817, 1818, 1819, 1821, 1827, 1828] [1410, 1411, 1412, 1413, 1414, 1820] [] O z0 h) : vfr (vw [1811, 1812, 1814, 1815, 1816, 1817, 1818, 1819, 1821, 1827, 1828] [1410, 1411, 1412, 1413, 1414, 1820] [] O) z0 (ab_X17_walks_139 h) := by
  unfold ab_X17_walks_139
  exact vr_rt hs
theorem vk_X17_walks_247 {O : Nat → Prop} {z0 : vt_S} {k169 : Nat → Int32 → Int32 → vt_S → Option (Int32 × vt_S)} (hk169 : ∀ {x0 : Nat} {x4 : Int32} {x5 : Int32} {h : vt_S}, O x0 → vw [1811, 1812, 1814, 1815, 1816, 1817, 1818, 1819, 1821, 1827, 1828] [1410, 1411, 1412, 1413, 1414, 1820] [] O z0 h → vfr (vw [1811, 1812, 1814, 1815, 1816, 1817, 1818, 1819, 1821, 1827, 1828] [1410, 1411, 1412, 1413, 1414, 1820] [] O) z0 (k169 x0 x4 x5 h)) {x0 : Nat} {x4 : Int32} {x5 : Int32} {h : vt_S} (ox0 : O x0) (hs : vw [1811, 1812, 1814, 1815, 1816, 1817, 1818, 1819, 1821, 1827, 1828] [1410, 1411, 1412, 1413, 1414, 1820] [] O z0 h) : vfr (vw [1811, 1812, 1814, 1815, 1816, 1817, 1818, 1819, 1821, 1827, 1828] [1410, 1411, 1412, 1413, 1414, 1820] [] O) z0 (ab_X17_walks_247 k169 x0 x4 x5 h) := by
  unfold ab_X17_walks_247
  exact hk169 ox0 hs
theorem vk_X17_walks_244 {O : Nat → Prop} {z0 : vt_S} {k169 : Nat → Int32 → Int32 → vt_S → Option (Int32 × vt_S)} (hk169 : ∀ {x0 : Nat} {x4 : Int32} {x5 : Int32} {h : vt_S}, O x0 → vw [1811, 1812, 1814, 1815, 1816, 1817, 1818, 1819, 1821, 1827, 1828] [1410, 1411, 1412, 1413, 1414, 1820] [] O z0 h → vfr (vw [1811, 1812, 1814, 1815, 1816, 1817, 1818, 1819, 1821, 1827, 1828] [1410, 1411, 1412, 1413, 1414, 1820] [] O) z0 (k169 x0 x4 x5 h)) {x0 : Nat} {x4 : Int32} {x5 : Int32} {s0 : Nat} {s1 : Int32} {s2 : Int32} {h : vt_S} (ox0 : O x0) (os0 : O s0) (hs : vw [1811, 1812, 1814, 1815, 1816, 1817, 1818, 1819, 1821, 1827, 1828] [1410, 1411, 1412, 1413, 1414, 1820] [] O z0 h) : vfr (vw [1811, 1812, 1814, 1815, 1816, 1817, 1818, 1819, 1821, 1827, 1828] [1410, 1411, 1412, 1413, 1414, 1820] [] O) z0 (ab_X17_walks_244 k169 x0 x4 x5 s0 s1 s2 h) := by
  unfold ab_X17_walks_244
  refine vr_cl (fun _ _ e => (let q := vk_X17_startAll hs.2 os0 e; ⟨hs.1.trans (q.1.weak (by decide) (by decide) (by decide)), q.2⟩)) (fun _ h hs => ?_)
  exact vk_X17_walks_247 hk169 ox0 hs
theorem vk_X17_walks_209 {O : Nat → Prop} {z0 : vt_S} {k169 : Nat → Int32 → Int32 → vt_S → Option (Int32 × vt_S)} (hk169 : ∀ {x0 : Nat} {x4 : Int32} {x5 : Int32} {h : vt_S}, O x0 → vw [1811, 1812, 1814, 1815, 1816, 1817, 1818, 1819, 1821, 1827, 1828] [1410, 1411, 1412, 1413, 1414, 1820] [] O z0 h → vfr (vw [1811, 1812, 1814, 1815, 1816, 1817, 1818, 1819, 1821, 1827, 1828] [1410, 1411, 1412, 1413, 1414, 1820] [] O) z0 (k169 x0 x4 x5 h)) {x0 : Nat} {x4 : Int32} {x5 : Int32} {x6 : Int32} {h : vt_S} (ox0 : O x0) (hs : vw [1811, 1812, 1814, 1815, 1816, 1817, 1818, 1819, 1821, 1827, 1828] [1410, 1411, 1412, 1413, 1414, 1820] [] O z0 h) : vfr (vw [1811, 1812, 1814, 1815, 1816, 1817, 1818, 1819, 1821, 1827, 1828] [1410, 1411, 1412, 1413, 1414, 1820] [] O) z0 (ab_X17_walks_209 k169 x0 x4 x5 x6 h) := by
  unfold ab_X17_walks_209
  refine vr_bd (fun _ => ?_)
  refine vr_cl (fun _ _ e => (by rw [ve_X17_wallPart e]; exact hs)) (fun _ h hs => ?_)
  refine vr_if ?_ ?_
  · exact vk_X17_walks_244 hk169 ox0 ox0 hs
  · refine vr_if ?_ ?_
    · exact vk_X17_walks_244 hk169 ox0 ox0 hs
    · exact vk_X17_walks_244 hk169 ox0 ox0 hs
theorem vk_X17_walks_169b {O : Nat → Prop} {z0 : vt_S} {k169 : Nat → Int32 → Int32 → vt_S → Option (Int32 × vt_S)} (hk169 : ∀ {x0 : Nat} {x4 : Int32} {x5 : Int32} {h : vt_S}, O x0 → vw [1811, 1812, 1814, 1815, 1816, 1817, 1818, 1819, 1821, 1827, 1828] [1410, 1411, 1412, 1413, 1414, 1820] [] O z0 h → vfr (vw [1811, 1812, 1814, 1815, 1816, 1817, 1818, 1819, 1821, 1827, 1828] [1410, 1411, 1412, 1413, 1414, 1820] [] O) z0 (k169 x0 x4 x5 h)) {x0 : Nat} {x4 : Int32} {x5 : Int32} {h : vt_S} (ox0 : O x0) (hs : vw [1811, 1812, 1814, 1815, 1816, 1817, 1818, 1819, 1821, 1827, 1828] [1410, 1411, 1412, 1413, 1414, 1820] [] O z0 h) : vfr (vw [1811, 1812, 1814, 1815, 1816, 1817, 1818, 1819, 1821, 1827, 1828] [1410, 1411, 1412, 1413, 1414, 1820] [] O) z0 (ab_X17_walks_169b k169 x0 x4 x5 h) := by
  unfold ab_X17_walks_169b
  refine vr_if ?_ ?_
  · exact vr_rt hs
  · refine vr_bd (fun _ => ?_)
    refine vr_cl (fun _ _ e => (by rw [ve_X17_wallPart e]; exact hs)) (fun _ h hs => ?_)
    refine vr_if ?_ ?_
    · exact vk_X17_walks_209 hk169 ox0 hs
    · refine vr_if ?_ ?_
      · exact vk_X17_walks_209 hk169 ox0 hs
      · refine vr_if ?_ ?_
        · exact vk_X17_walks_209 hk169 ox0 hs
        · exact vk_X17_walks_247 hk169 ox0 hs
theorem vk_X17_walks_169 {O : Nat → Prop} {z0 : vt_S} : ∀ (n : Nat) {x0 : Nat} {x4 : Int32} {x5 : Int32} {h : vt_S}, O x0 → vw [1811, 1812, 1814, 1815, 1816, 1817, 1818, 1819, 1821, 1827, 1828] [1410, 1411, 1412, 1413, 1414, 1820] [] O z0 h → vfr (vw [1811, 1812, 1814, 1815, 1816, 1817, 1818, 1819, 1821, 1827, 1828] [1410, 1411, 1412, 1413, 1414, 1820] [] O) z0 (ab_X17_walks_169 n x0 x4 x5 h) := by
  intro n
  induction n with
  | zero => intro x0 x4 x5 h ox0 hs; exact vr_no
  | succ n ih => intro x0 x4 x5 h ox0 hs; exact vk_X17_walks_169b (fun ox0 hs => ih ox0 hs) ox0 hs
theorem vk_X17_walks_85 {O : Nat → Prop} {z0 : vt_S} {k19 : Nat → Int32 → Int32 → Int32 → Int32 → Int32 → vt_S → Option (Int32 × vt_S)} (hk19 : ∀ {x0 : Nat} {x1 : Int32} {x2 : Int32} {x3 : Int32} {x4 : Int32} {x5 : Int32} {h : vt_S}, O x0 → vw [1811, 1812, 1814, 1815, 1816, 1817, 1818, 1819, 1821, 1827, 1828] [1410, 1411, 1412, 1413, 1414, 1820] [] O z0 h → vfr (vw [1811, 1812, 1814, 1815, 1816, 1817, 1818, 1819, 1821, 1827, 1828] [1410, 1411, 1412, 1413, 1414, 1820] [] O) z0 (k19 x0 x1 x2 x3 x4 x5 h)) {x0 : Nat} {x1 : Int32} {x2 : Int32} {x3 : Int32} {x4 : Int32} {x5 : Int32} {h : vt_S} (ox0 : O x0) (hs : vw [1811, 1812, 1814, 1815, 1816, 1817, 1818, 1819, 1821, 1827, 1828] [1410, 1411, 1412, 1413, 1414, 1820] [] O z0 h) : vfr (vw [1811, 1812, 1814, 1815, 1816, 1817, 1818, 1819, 1821, 1827, 1828] [1410, 1411, 1412, 1413, 1414, 1820] [] O) z0 (ab_X17_walks_85 k19 x0 x1 x2 x3 x4 x5 h) := by
  unfold ab_X17_walks_85
  exact hk19 ox0 hs
theorem vk_X17_walks_19b {O : Nat → Prop} {z0 : vt_S} {k19 : Nat → Int32 → Int32 → Int32 → Int32 → Int32 → vt_S → Option (Int32 × vt_S)} (hk19 : ∀ {x0 : Nat} {x1 : Int32} {x2 : Int32} {x3 : Int32} {x4 : Int32} {x5 : Int32} {h : vt_S}, O x0 → vw [1811, 1812, 1814, 1815, 1816, 1817, 1818, 1819, 1821, 1827, 1828] [1410, 1411, 1412, 1413, 1414, 1820] [] O z0 h → vfr (vw [1811, 1812, 1814, 1815, 1816, 1817, 1818, 1819, 1821, 1827, 1828] [1410, 1411, 1412, 1413, 1414, 1820] [] O) z0 (k19 x0 x1 x2 x3 x4 x5 h)) {x0 : Nat} {x1 : Int32} {x2 : Int32} {x3 : Int32} {x4 : Int32} {x5 : Int32} {h : vt_S} (ox0 : O x0) (hs : vw [1811, 1812, 1814, 1815, 1816, 1817, 1818, 1819, 1821, 1827, 1828] [1410, 1411, 1412, 1413, 1414, 1820] [] O z0 h) : vfr (vw [1811, 1812, 1814, 1815, 1816, 1817, 1818, 1819, 1821, 1827, 1828] [1410, 1411, 1412, 1413, 1414, 1820] [] O) z0 (ab_X17_walks_19b k19 x0 x1 x2 x3 x4 x5 h) := by
  unfold ab_X17_walks_19b
  refine vr_let (fun _ => ?_)
  refine vr_if ?_ ?_
  · refine vr_let (fun _ => ?_)
    refine vr_if ?_ ?_
    · exact vk_X17_walks_139 hs
    · refine vr_let (fun _ => ?_)
      refine vr_if ?_ ?_
      · exact vk_X17_walks_139 hs
      · refine vr_let (fun _ => ?_)
        refine vr_if ?_ ?_
        · exact vk_X17_walks_139 hs
        · refine vr_let (fun _ => ?_)
          refine vr_if ?_ ?_
          · refine vr_let (fun _ => ?_)
            refine vr_I hs (by decide) ox0 (fun h hs => ?_)
            refine vr_let (fun _ => ?_)
            refine vr_I hs (by decide) ox0 (fun h hs => ?_)
            refine vr_I hs (by decide) ox0 (fun h hs => ?_)
            exact vk_X17_walks_169 sv_fuel ox0 hs
          · exact vk_X17_walks_139 hs
  · refine vr_bd (fun _ => ?_)
    refine vr_cl (fun _ _ e => (let q := vk_X17_meets hs.2 ox0 e; ⟨hs.1.trans (q.1.weak (by decide) (by decide) (by decide)), q.2⟩)) (fun _ h hs => ?_)
    refine vr_let (fun _ => ?_)
    refine vr_let (fun _ => ?_)
    refine vr_if ?_ ?_
    · exact vk_X17_walks_85 hk19 ox0 hs
    · refine vr_bd (fun _ => ?_)
      refine vr_cl (fun _ _ e => (by rw [ve_X17_stops e]; exact hs)) (fun _ h hs => ?_)
      refine vr_if ?_ ?_
      · refine vr_bd (fun _ => ?_)
        refine vr_cl (fun _ _ e => (by rw [ve_X17_sideOf e]; exact hs)) (fun _ h hs => ?_)
        exact vk_X17_walks_85 hk19 ox0 hs
      · exact vr_rt hs
theorem vk_X17_walks_19 {O : Nat → Prop} {z0 : vt_S} : ∀ (n : Nat) {x0 : Nat} {x1 : Int32} {x2 : Int32} {x3 : Int32} {x4 : Int32} {x5 : Int32} {h : vt_S}, O x0 → vw [1811, 1812, 1814, 1815, 1816, 1817, 1818, 1819, 1821, 1827, 1828] [1410, 1411, 1412, 1413, 1414, 1820] [] O z0 h → vfr (vw [1811, 1812, 1814, 1815, 1816, 1817, 1818, 1819, 1821, 1827, 1828] [1410, 1411, 1412, 1413, 1414, 1820] [] O) z0 (ab_X17_walks_19 n x0 x1 x2 x3 x4 x5 h) := by
  intro n
  induction n with
  | zero => intro x0 x1 x2 x3 x4 x5 h ox0 hs; exact vr_no
  | succ n ih => intro x0 x1 x2 x3 x4 x5 h ox0 hs; exact vk_X17_walks_19b (fun ox0 hs => ih ox0 hs) ox0 hs
theorem vk_X17_walks_0 {O : Nat → Prop} {z0 : vt_S} {x0 : Nat} {x1 : Int32} {x2 : Int32} {h : vt_S} (ox0 : O x0) (hs : vw [1811, 1812, 1814, 1815, 1816, 1817, 1818, 1819, 1821, 1827, 1828] [1410, 1411, 1412, 1413, 1414, 1820] [] O z0 h) : vfr (vw [1811, 1812, 1814, 1815, 1816, 1817, 1818, 1819, 1821, 1827, 1828] [1410, 1411, 1412, 1413, 1414, 1820] [] O) z0 (ab_X17_walks x0 x1 x2 h) := by
  unfold ab_X17_walks
  refine vr_cl (fun _ _ e => (let q := vk_X17_gather hs.2 ox0 e; ⟨hs.1.trans (q.1.weak (by decide) (by decide) (by decide)), q.2⟩)) (fun _ h hs => ?_)
  refine vr_let (fun _ => ?_)
  exact vk_X17_walks_19 sv_fuel ox0 hs
theorem vk_X17_walks {O : Nat → Prop} {x0 : Nat} {x1 : Int32} {x2 : Int32} {h : vt_S} {r : Int32} {s : vt_S} (c : vcl O h) (ox0 : O x0) (e : ab_X17_walks x0 x1 x2 h = some (r, s)) : vw [1811, 1812, 1814, 1815, 1816, 1817, 1818, 1819, 1821, 1827, 1828] [1410, 1411, 1412, 1413, 1414, 1820] [] O h s := vk_X17_walks_0 ox0 ⟨vk.refl h, c⟩ r s e

theorem vk_X17_use_63 {O : Nat → Prop} {z0 : vt_S} {h : vt_S} (hs : vw [1815, 1816, 1817, 1818, 1819, 1821, 1827, 1828] [1410, 1411, 1412, 1413, 1414, 1820] [] O z0 h) : vfr (vw [1815, 1816, 1817, 1818, 1819, 1821, 1827, 1828] [1410, 1411, 1412, 1413, 1414, 1820] [] O) z0 (ab_X17_use_63 h) := by
  unfold ab_X17_use_63
  exact vr_rt hs
theorem vk_X17_use_132 {O : Nat → Prop} {z0 : vt_S} {h : vt_S} (hs : vw [1815, 1816, 1817, 1818, 1819, 1821, 1827, 1828] [1410, 1411, 1412, 1413, 1414, 1820] [] O z0 h) : vfr (vw [1815, 1816, 1817, 1818, 1819, 1821, 1827, 1828] [1410, 1411, 1412, 1413, 1414, 1820] [] O) z0 (ab_X17_use_132 h) := by
  unfold ab_X17_use_132
  exact vr_rt hs
theorem vk_X17_use_109 {O : Nat → Prop} {z0 : vt_S} {x0 : Nat} {x1 : Int32} {h : vt_S} (ox0 : O x0) (hs : vw [1815, 1816, 1817, 1818, 1819, 1821, 1827, 1828] [1410, 1411, 1412, 1413, 1414, 1820] [] O z0 h) : vfr (vw [1815, 1816, 1817, 1818, 1819, 1821, 1827, 1828] [1410, 1411, 1412, 1413, 1414, 1820] [] O) z0 (ab_X17_use_109 x0 x1 h) := by
  unfold ab_X17_use_109
  refine vr_cl (fun _ _ e => (by rw [ve_X17_wallPart e]; exact hs)) (fun _ h hs => ?_)
  refine vr_if ?_ ?_
  · refine vr_cl (fun _ _ e => (by rw [ve_X17_wallPart e]; exact hs)) (fun _ h hs => ?_)
    refine vr_cl (fun _ _ e => (let q := vk_X17_startAll hs.2 ox0 e; ⟨hs.1.trans (q.1.weak (by decide) (by decide) (by decide)), q.2⟩)) (fun _ h hs => ?_)
    exact vk_X17_use_132 hs
  · exact vk_X17_use_132 hs
theorem vk_X17_use_0 {O : Nat → Prop} {z0 : vt_S} {x0 : Nat} {h : vt_S} (ox0 : O x0) (hs : vw [1815, 1816, 1817, 1818, 1819, 1821, 1827, 1828] [1410, 1411, 1412, 1413, 1414, 1820] [] O z0 h) : vfr (vw [1815, 1816, 1817, 1818, 1819, 1821, 1827, 1828] [1410, 1411, 1412, 1413, 1414, 1820] [] O) z0 (ab_X17_use x0 h) := by
  unfold ab_X17_use
  refine vr_let (fun _ => ?_)
  refine vr_cl (fun _ _ e => (by rw [ve_X17_cosine e]; exact hs)) (fun _ h hs => ?_)
  refine vr_let (fun _ => ?_)
  refine vr_cl (fun _ _ e => (by rw [ve_X17_sine e]; exact hs)) (fun _ h hs => ?_)
  refine vr_cl (fun _ _ e => (let q := vk_X17_gather hs.2 ox0 e; ⟨hs.1.trans (q.1.weak (by decide) (by decide) (by decide)), q.2⟩)) (fun _ h hs => ?_)
  refine vr_let (fun _ => ?_)
  refine vr_if ?_ ?_
  · exact vk_X17_use_63 hs
  · refine vr_bd (fun _ => ?_)
    refine vr_cl (fun _ _ e => (let q := vk_X17_meets hs.2 ox0 e; ⟨hs.1.trans (q.1.weak (by decide) (by decide) (by decide)), q.2⟩)) (fun _ h hs => ?_)
    refine vr_if ?_ ?_
    · exact vk_X17_use_63 hs
    · refine vr_let (fun _ => ?_)
      refine vr_let (fun _ => ?_)
      refine vr_if ?_ ?_
      · exact vk_X17_use_63 hs
      · refine vr_let (fun _ => ?_)
        refine vr_if ?_ ?_
        · exact vk_X17_use_63 hs
        · refine vr_bd (fun _ => ?_)
          refine vr_cl (fun _ _ e => (by rw [ve_X17_wallPart e]; exact hs)) (fun _ h hs => ?_)
          refine vr_cl (fun _ _ e => (by rw [ve_X17_wallPart e]; exact hs)) (fun _ h hs => ?_)
          refine vr_if ?_ ?_
          · refine vr_if ?_ ?_
            · exact vk_X17_use_109 ox0 hs
            · refine vr_gP hs ox0 (fun v22 ov22 => ?_)
              refine vr_cl (fun _ _ e => (let q := vk_X13_begin hs.2 ov22 e; ⟨hs.1.trans (q.1.weak (by decide) (by decide) (by decide)), q.2⟩)) (fun _ h hs => ?_)
              exact vk_X17_use_132 hs
          · exact vk_X17_use_109 ox0 hs
theorem vk_X17_use {O : Nat → Prop} {x0 : Nat} {h : vt_S} {r : Unit} {s : vt_S} (c : vcl O h) (ox0 : O x0) (e : ab_X17_use x0 h = some (r, s)) : vw [1815, 1816, 1817, 1818, 1819, 1821, 1827, 1828] [1410, 1411, 1412, 1413, 1414, 1820] [] O h s := vk_X17_use_0 ox0 ⟨vk.refl h, c⟩ r s e

theorem vk_X13_await_0 {O : Nat → Prop} {z0 : vt_S} {x0 : Nat} {x1 : Int32} {x2 : Int32} {h : vt_S} (ox0 : O x0) (hs : vw [] [1411, 1412] [] O z0 h) : vfr (vw [] [1411, 1412] [] O) z0 (ab_X13_await x0 x1 x2 h) := by
  unfold ab_X13_await
  refine vr_sI hs (by decide) ox0 (fun h hs => ?_)
  refine vr_sI hs (by decide) ox0 (fun h hs => ?_)
  exact vr_rt hs
theorem vk_X13_await {O : Nat → Prop} {x0 : Nat} {x1 : Int32} {x2 : Int32} {h : vt_S} {r : Unit} {s : vt_S} (c : vcl O h) (ox0 : O x0) (e : ab_X13_await x0 x1 x2 h = some (r, s)) : vw [] [1411, 1412] [] O h s := vk_X13_await_0 ox0 ⟨vk.refl h, c⟩ r s e

theorem vk_X13_end_0 {O : Nat → Prop} {z0 : vt_S} {x0 : Nat} {x1 : Int32} {h : vt_S} (ox0 : O x0) (hs : vw [] [1410, 1411, 1413] [] O z0 h) : vfr (vw [] [1410, 1411, 1413] [] O) z0 (ab_X13_end x0 x1 h) := by
  unfold ab_X13_end
  refine vr_sI hs (by decide) ox0 (fun h hs => ?_)
  refine vr_sI hs (by decide) ox0 (fun h hs => ?_)
  refine vr_sI hs (by decide) ox0 (fun h hs => ?_)
  exact vr_rt hs
theorem vk_X13_end {O : Nat → Prop} {x0 : Nat} {x1 : Int32} {h : vt_S} {r : Unit} {s : vt_S} (c : vcl O h) (ox0 : O x0) (e : ab_X13_end x0 x1 h = some (r, s)) : vw [] [1410, 1411, 1413] [] O h s := vk_X13_end_0 ox0 ⟨vk.refl h, c⟩ r s e

theorem vk_X13_stepDoor_157 {O : Nat → Prop} {z0 : vt_S} {h : vt_S} (hs : vw [1417] [1409, 1410, 1411, 1412, 1413] [] O z0 h) : vfr (vw [1417] [1409, 1410, 1411, 1412, 1413] [] O) z0 (ab_X13_stepDoor_157 h) := by
  unfold ab_X13_stepDoor_157
  exact vr_rt hs
theorem vk_X13_stepDoor_135 {O : Nat → Prop} {z0 : vt_S} {x0 : Nat} {x1 : Int32} {x2 : Int32} {h : vt_S} (ox0 : O x0) (hs : vw [1417] [1409, 1410, 1411, 1412, 1413] [] O z0 h) : vfr (vw [1417] [1409, 1410, 1411, 1412, 1413] [] O) z0 (ab_X13_stepDoor_135 x0 x1 x2 h) := by
  unfold ab_X13_stepDoor_135
  refine vr_sI hs (by decide) ox0 (fun h hs => ?_)
  refine vr_bd (fun _ => ?_)
  refine vr_if ?_ ?_
  · refine vr_cl (fun _ _ e => (let q := vk_X13_end hs.2 ox0 e; ⟨hs.1.trans (q.1.weak (by decide) (by decide) (by decide)), q.2⟩)) (fun _ h hs => ?_)
    exact vk_X13_stepDoor_157 hs
  · exact vk_X13_stepDoor_157 hs
theorem vk_X13_stepDoor_95 {O : Nat → Prop} {z0 : vt_S} {x0 : Nat} {x1 : Int32} {s0 : Int32} {h : vt_S} (ox0 : O x0) (hs : vw [1417] [1409, 1410, 1411, 1412, 1413] [] O z0 h) : vfr (vw [1417] [1409, 1410, 1411, 1412, 1413] [] O) z0 (ab_X13_stepDoor_95 x0 x1 s0 h) := by
  unfold ab_X13_stepDoor_95
  refine vr_let (fun _ => ?_)
  refine vr_if ?_ ?_
  · refine vr_bd (fun _ => ?_)
    refine vr_if ?_ ?_
    · exact vk_X13_stepDoor_135 ox0 hs
    · refine vr_let (fun _ => ?_)
      refine vr_I hs (by decide) ox0 (fun h hs => ?_)
      refine vr_sI hs (by decide) ox0 (fun h hs => ?_)
      exact vr_rt hs
  · exact vk_X13_stepDoor_135 ox0 hs
theorem vk_X13_stepDoor_74 {O : Nat → Prop} {z0 : vt_S} {h : vt_S} (hs : vw [1417] [1409, 1410, 1411, 1412, 1413] [] O z0 h) : vfr (vw [1417] [1409, 1410, 1411, 1412, 1413] [] O) z0 (ab_X13_stepDoor_74 h) := by
  unfold ab_X13_stepDoor_74
  exact vr_rt hs
theorem vk_X13_stepDoor_51 {O : Nat → Prop} {z0 : vt_S} {x0 : Nat} {x1 : Int32} {s0 : Nat} {s1 : Int32} {s2 : Int32} {h : vt_S} (ox0 : O x0) (os0 : O s0) (hs : vw [1417] [1409, 1410, 1411, 1412, 1413] [] O z0 h) : vfr (vw [1417] [1409, 1410, 1411, 1412, 1413] [] O) z0 (ab_X13_stepDoor_51 x0 x1 s0 s1 s2 h) := by
  unfold ab_X13_stepDoor_51
  refine vr_sI hs (by decide) os0 (fun h hs => ?_)
  refine vr_bd (fun _ => ?_)
  refine vr_bd (fun _ => ?_)
  refine vr_if ?_ ?_
  · refine vr_cl (fun _ _ e => (let q := vk_X13_await hs.2 ox0 e; ⟨hs.1.trans (q.1.weak (by decide) (by decide) (by decide)), q.2⟩)) (fun _ h hs => ?_)
    exact vk_X13_stepDoor_74 hs
  · exact vk_X13_stepDoor_74 hs
theorem vk_X13_stepDoor_0 {O : Nat → Prop} {z0 : vt_S} {x0 : Nat} {x1 : Int32} {h : vt_S} (ox0 : O x0) (hs : vw [1417] [1409, 1410, 1411, 1412, 1413] [] O z0 h) : vfr (vw [1417] [1409, 1410, 1411, 1412, 1413] [] O) z0 (ab_X13_stepDoor x0 x1 h) := by
  unfold ab_X13_stepDoor
  refine vr_bd (fun _ => ?_)
  refine vr_bd (fun _ => ?_)
  refine vr_bd (fun _ => ?_)
  refine vr_if ?_ ?_
  · refine vr_bd (fun _ => ?_)
    refine vr_if ?_ ?_
    · exact vk_X13_stepDoor_95 ox0 hs
    · refine vr_bd (fun _ => ?_)
      exact vk_X13_stepDoor_95 ox0 hs
  · refine vr_bd (fun _ => ?_)
    refine vr_if ?_ ?_
    · exact vk_X13_stepDoor_51 ox0 ox0 hs
    · refine vr_bd (fun _ => ?_)
      exact vk_X13_stepDoor_51 ox0 ox0 hs
theorem vk_X13_stepDoor {O : Nat → Prop} {x0 : Nat} {x1 : Int32} {h : vt_S} {r : Unit} {s : vt_S} (c : vcl O h) (ox0 : O x0) (e : ab_X13_stepDoor x0 x1 h = some (r, s)) : vw [1417] [1409, 1410, 1411, 1412, 1413] [] O h s := vk_X13_stepDoor_0 ox0 ⟨vk.refl h, c⟩ r s e

theorem vk_X13_rise_78 {O : Nat → Prop} {z0 : vt_S} {h : vt_S} (hs : vw [1417] [1408, 1410, 1411, 1413] [] O z0 h) : vfr (vw [1417] [1408, 1410, 1411, 1413] [] O) z0 (ab_X13_rise_78 h) := by
  unfold ab_X13_rise_78
  exact vr_rt hs
theorem vk_X13_rise_59 {O : Nat → Prop} {z0 : vt_S} {x0 : Nat} {x1 : Int32} {x3 : Int32} {x4 : Int32} {h : vt_S} (ox0 : O x0) (hs : vw [1417] [1408, 1410, 1411, 1413] [] O z0 h) : vfr (vw [1417] [1408, 1410, 1411, 1413] [] O) z0 (ab_X13_rise_59 x0 x1 x3 x4 h) := by
  unfold ab_X13_rise_59
  refine vr_sI hs (by decide) ox0 (fun h hs => ?_)
  refine vr_if ?_ ?_
  · refine vr_cl (fun _ _ e => (let q := vk_X13_end hs.2 ox0 e; ⟨hs.1.trans (q.1.weak (by decide) (by decide) (by decide)), q.2⟩)) (fun _ h hs => ?_)
    exact vk_X13_rise_78 hs
  · exact vk_X13_rise_78 hs
theorem vk_X13_rise_24 {O : Nat → Prop} {z0 : vt_S} {x0 : Nat} {x1 : Int32} {x3 : Int32} {s0 : Int32} {h : vt_S} (ox0 : O x0) (hs : vw [1417] [1408, 1410, 1411, 1413] [] O z0 h) : vfr (vw [1417] [1408, 1410, 1411, 1413] [] O) z0 (ab_X13_rise_24 x0 x1 x3 s0 h) := by
  unfold ab_X13_rise_24
  refine vr_let (fun _ => ?_)
  refine vr_if ?_ ?_
  · refine vr_bd (fun _ => ?_)
    refine vr_if ?_ ?_
    · exact vk_X13_rise_59 ox0 hs
    · refine vr_let (fun _ => ?_)
      refine vr_I hs (by decide) ox0 (fun h hs => ?_)
      exact vr_rt hs
  · exact vk_X13_rise_59 ox0 hs
theorem vk_X13_rise_0 {O : Nat → Prop} {z0 : vt_S} {x0 : Nat} {x1 : Int32} {x2 : Int32} {x3 : Int32} {h : vt_S} (ox0 : O x0) (hs : vw [1417] [1408, 1410, 1411, 1413] [] O z0 h) : vfr (vw [1417] [1408, 1410, 1411, 1413] [] O) z0 (ab_X13_rise x0 x1 x2 x3 h) := by
  unfold ab_X13_rise
  refine vr_bd (fun _ => ?_)
  refine vr_if ?_ ?_
  · refine vr_bd (fun _ => ?_)
    exact vk_X13_rise_24 ox0 hs
  · exact vk_X13_rise_24 ox0 hs
theorem vk_X13_rise {O : Nat → Prop} {x0 : Nat} {x1 : Int32} {x2 : Int32} {x3 : Int32} {h : vt_S} {r : Unit} {s : vt_S} (c : vcl O h) (ox0 : O x0) (e : ab_X13_rise x0 x1 x2 x3 h = some (r, s)) : vw [1417] [1408, 1410, 1411, 1413] [] O h s := vk_X13_rise_0 ox0 ⟨vk.refl h, c⟩ r s e

theorem vk_X13_step_128 {O : Nat → Prop} {z0 : vt_S} {h : vt_S} (hs : vw [1417] [1408, 1409, 1410, 1411, 1412, 1413] [] O z0 h) : vfr (vw [1417] [1408, 1409, 1410, 1411, 1412, 1413] [] O) z0 (ab_X13_step_128 h) := by
  unfold ab_X13_step_128
  exact vr_rt hs
theorem vk_X13_step_105 {O : Nat → Prop} {z0 : vt_S} {x0 : Nat} {x1 : Int32} {s0 : Nat} {s1 : Int32} {s2 : Int32} {h : vt_S} (ox0 : O x0) (os0 : O s0) (hs : vw [1417] [1408, 1409, 1410, 1411, 1412, 1413] [] O z0 h) : vfr (vw [1417] [1408, 1409, 1410, 1411, 1412, 1413] [] O) z0 (ab_X13_step_105 x0 x1 s0 s1 s2 h) := by
  unfold ab_X13_step_105
  refine vr_sI hs (by decide) os0 (fun h hs => ?_)
  refine vr_bd (fun _ => ?_)
  refine vr_bd (fun _ => ?_)
  refine vr_if ?_ ?_
  · refine vr_cl (fun _ _ e => (let q := vk_X13_await hs.2 ox0 e; ⟨hs.1.trans (q.1.weak (by decide) (by decide) (by decide)), q.2⟩)) (fun _ h hs => ?_)
    exact vk_X13_step_128 hs
  · exact vk_X13_step_128 hs
theorem vk_X13_step_0 {O : Nat → Prop} {z0 : vt_S} {x0 : Nat} {x1 : Int32} {h : vt_S} (ox0 : O x0) (hs : vw [1417] [1408, 1409, 1410, 1411, 1412, 1413] [] O z0 h) : vfr (vw [1417] [1408, 1409, 1410, 1411, 1412, 1413] [] O) z0 (ab_X13_step x0 x1 h) := by
  unfold ab_X13_step
  refine vr_bd (fun _ => ?_)
  refine vr_if ?_ ?_
  · refine vr_cl (fun _ _ e => (let q := vk_X13_stepDoor hs.2 ox0 e; ⟨hs.1.trans (q.1.weak (by decide) (by decide) (by decide)), q.2⟩)) (fun _ h hs => ?_)
    exact vk_X13_step_128 hs
  · refine vr_bd (fun _ => ?_)
    refine vr_if ?_ ?_
    · refine vr_bd (fun _ => ?_)
      refine vr_cl (fun _ _ e => (let q := vk_X13_rise hs.2 ox0 e; ⟨hs.1.trans (q.1.weak (by decide) (by decide) (by decide)), q.2⟩)) (fun _ h hs => ?_)
      exact vk_X13_step_128 hs
    · refine vr_bd (fun _ => ?_)
      refine vr_if ?_ ?_
      · refine vr_bd (fun _ => ?_)
        refine vr_bd (fun _ => ?_)
        refine vr_if ?_ ?_
        · refine vr_bd (fun _ => ?_)
          exact vk_X13_step_105 ox0 ox0 hs
        · refine vr_bd (fun _ => ?_)
          exact vk_X13_step_105 ox0 ox0 hs
      · refine vr_bd (fun _ => ?_)
        refine vr_cl (fun _ _ e => (let q := vk_X13_rise hs.2 ox0 e; ⟨hs.1.trans (q.1.weak (by decide) (by decide) (by decide)), q.2⟩)) (fun _ h hs => ?_)
        exact vk_X13_step_128 hs
theorem vk_X13_step {O : Nat → Prop} {x0 : Nat} {x1 : Int32} {h : vt_S} {r : Unit} {s : vt_S} (c : vcl O h) (ox0 : O x0) (e : ab_X13_step x0 x1 h = some (r, s)) : vw [1417] [1408, 1409, 1410, 1411, 1412, 1413] [] O h s := vk_X13_step_0 ox0 ⟨vk.refl h, c⟩ r s e

theorem vk_X13_ticks_11 {O : Nat → Prop} {z0 : vt_S} {h : vt_S} (hs : vw [1415, 1417] [1408, 1409, 1410, 1411, 1412, 1413] [] O z0 h) : vfr (vw [1415, 1417] [1408, 1409, 1410, 1411, 1412, 1413] [] O) z0 (ab_X13_ticks_11 h) := by
  unfold ab_X13_ticks_11
  exact vr_rt hs
theorem vk_X13_ticks_118 {O : Nat → Prop} {z0 : vt_S} {k15 : Nat → Int32 → Int32 → vt_S → Option (Int32 × vt_S)} (hk15 : ∀ {x0 : Nat} {x1 : Int32} {x2 : Int32} {h : vt_S}, O x0 → vw [1415, 1417] [1408, 1409, 1410, 1411, 1412, 1413] [] O z0 h → vfr (vw [1415, 1417] [1408, 1409, 1410, 1411, 1412, 1413] [] O) z0 (k15 x0 x1 x2 h)) {k32 : Nat → Int32 → Int32 → Int32 → vt_S → Option (Int32 × vt_S)} (hk32 : ∀ {x0 : Nat} {x1 : Int32} {x2 : Int32} {x3 : Int32} {h : vt_S}, O x0 → vw [1415, 1417] [1408, 1409, 1410, 1411, 1412, 1413] [] O z0 h → vfr (vw [1415, 1417] [1408, 1409, 1410, 1411, 1412, 1413] [] O) z0 (k32 x0 x1 x2 x3 h)) {x0 : Nat} {x1 : Int32} {x2 : Int32} {x3 : Int32} {h : vt_S} (ox0 : O x0) (hs : vw [1415, 1417] [1408, 1409, 1410, 1411, 1412, 1413] [] O z0 h) : vfr (vw [1415, 1417] [1408, 1409, 1410, 1411, 1412, 1413] [] O) z0 (ab_X13_ticks_118 k15 k32 x0 x1 x2 x3 h) := by
  unfold ab_X13_ticks_118
  exact hk32 ox0 hs
theorem vk_X13_ticks_104 {O : Nat → Prop} {z0 : vt_S} {k15 : Nat → Int32 → Int32 → vt_S → Option (Int32 × vt_S)} (hk15 : ∀ {x0 : Nat} {x1 : Int32} {x2 : Int32} {h : vt_S}, O x0 → vw [1415, 1417] [1408, 1409, 1410, 1411, 1412, 1413] [] O z0 h → vfr (vw [1415, 1417] [1408, 1409, 1410, 1411, 1412, 1413] [] O) z0 (k15 x0 x1 x2 h)) {k32 : Nat → Int32 → Int32 → Int32 → vt_S → Option (Int32 × vt_S)} (hk32 : ∀ {x0 : Nat} {x1 : Int32} {x2 : Int32} {x3 : Int32} {h : vt_S}, O x0 → vw [1415, 1417] [1408, 1409, 1410, 1411, 1412, 1413] [] O z0 h → vfr (vw [1415, 1417] [1408, 1409, 1410, 1411, 1412, 1413] [] O) z0 (k32 x0 x1 x2 x3 h)) {x0 : Nat} {x1 : Int32} {x2 : Int32} {x3 : Int32} {h : vt_S} (ox0 : O x0) (hs : vw [1415, 1417] [1408, 1409, 1410, 1411, 1412, 1413] [] O z0 h) : vfr (vw [1415, 1417] [1408, 1409, 1410, 1411, 1412, 1413] [] O) z0 (ab_X13_ticks_104 k15 k32 x0 x1 x2 x3 h) := by
  unfold ab_X13_ticks_104
  refine vr_bd (fun _ => ?_)
  refine vr_if ?_ ?_
  · exact vk_X13_ticks_118 hk15 hk32 ox0 hs
  · refine vr_cl (fun _ _ e => (let q := vk_X13_step hs.2 ox0 e; ⟨hs.1.trans (q.1.weak (by decide) (by decide) (by decide)), q.2⟩)) (fun _ h hs => ?_)
    exact vk_X13_ticks_118 hk15 hk32 ox0 hs
theorem vk_X13_ticks_100 {O : Nat → Prop} {z0 : vt_S} {k15 : Nat → Int32 → Int32 → vt_S → Option (Int32 × vt_S)} (hk15 : ∀ {x0 : Nat} {x1 : Int32} {x2 : Int32} {h : vt_S}, O x0 → vw [1415, 1417] [1408, 1409, 1410, 1411, 1412, 1413] [] O z0 h → vfr (vw [1415, 1417] [1408, 1409, 1410, 1411, 1412, 1413] [] O) z0 (k15 x0 x1 x2 h)) {k32 : Nat → Int32 → Int32 → Int32 → vt_S → Option (Int32 × vt_S)} (hk32 : ∀ {x0 : Nat} {x1 : Int32} {x2 : Int32} {x3 : Int32} {h : vt_S}, O x0 → vw [1415, 1417] [1408, 1409, 1410, 1411, 1412, 1413] [] O z0 h → vfr (vw [1415, 1417] [1408, 1409, 1410, 1411, 1412, 1413] [] O) z0 (k32 x0 x1 x2 x3 h)) {x0 : Nat} {x1 : Int32} {x2 : Int32} {x3 : Int32} {s0 : Nat} {s1 : Int32} {s2 : Int32} {h : vt_S} (ox0 : O x0) (os0 : O s0) (hs : vw [1415, 1417] [1408, 1409, 1410, 1411, 1412, 1413] [] O z0 h) : vfr (vw [1415, 1417] [1408, 1409, 1410, 1411, 1412, 1413] [] O) z0 (ab_X13_ticks_100 k15 k32 x0 x1 x2 x3 s0 s1 s2 h) := by
  unfold ab_X13_ticks_100
  refine vr_sI hs (by decide) os0 (fun h hs => ?_)
  exact vk_X13_ticks_118 hk15 hk32 ox0 hs
theorem vk_X13_ticks_32b {O : Nat → Prop} {z0 : vt_S} {k15 : Nat → Int32 → Int32 → vt_S → Option (Int32 × vt_S)} (hk15 : ∀ {x0 : Nat} {x1 : Int32} {x2 : Int32} {h : vt_S}, O x0 → vw [1415, 1417] [1408, 1409, 1410, 1411, 1412, 1413] [] O z0 h → vfr (vw [1415, 1417] [1408, 1409, 1410, 1411, 1412, 1413] [] O) z0 (k15 x0 x1 x2 h)) {k32 : Nat → Int32 → Int32 → Int32 → vt_S → Option (Int32 × vt_S)} (hk32 : ∀ {x0 : Nat} {x1 : Int32} {x2 : Int32} {x3 : Int32} {h : vt_S}, O x0 → vw [1415, 1417] [1408, 1409, 1410, 1411, 1412, 1413] [] O z0 h → vfr (vw [1415, 1417] [1408, 1409, 1410, 1411, 1412, 1413] [] O) z0 (k32 x0 x1 x2 x3 h)) {x0 : Nat} {x1 : Int32} {x2 : Int32} {x3 : Int32} {h : vt_S} (ox0 : O x0) (hs : vw [1415, 1417] [1408, 1409, 1410, 1411, 1412, 1413] [] O z0 h) : vfr (vw [1415, 1417] [1408, 1409, 1410, 1411, 1412, 1413] [] O) z0 (ab_X13_ticks_32b k15 k32 x0 x1 x2 x3 h) := by
  unfold ab_X13_ticks_32b
  refine vr_let (fun _ => ?_)
  refine vr_if ?_ ?_
  · exact hk15 ox0 hs
  · refine vr_bd (fun _ => ?_)
    refine vr_if ?_ ?_
    · exact vk_X13_ticks_104 hk15 hk32 ox0 hs
    · refine vr_bd (fun _ => ?_)
      refine vr_if ?_ ?_
      · exact vk_X13_ticks_104 hk15 hk32 ox0 hs
      · refine vr_bd (fun _ => ?_)
        refine vr_sI hs (by decide) ox0 (fun h hs => ?_)
        refine vr_bd (fun _ => ?_)
        refine vr_if ?_ ?_
        · refine vr_bd (fun _ => ?_)
          refine vr_if ?_ ?_
          · exact vk_X13_ticks_100 hk15 hk32 ox0 ox0 hs
          · exact vk_X13_ticks_100 hk15 hk32 ox0 ox0 hs
        · exact vk_X13_ticks_100 hk15 hk32 ox0 ox0 hs
theorem vk_X13_ticks_32 {O : Nat → Prop} {z0 : vt_S} {k15 : Nat → Int32 → Int32 → vt_S → Option (Int32 × vt_S)} (hk15 : ∀ {x0 : Nat} {x1 : Int32} {x2 : Int32} {h : vt_S}, O x0 → vw [1415, 1417] [1408, 1409, 1410, 1411, 1412, 1413] [] O z0 h → vfr (vw [1415, 1417] [1408, 1409, 1410, 1411, 1412, 1413] [] O) z0 (k15 x0 x1 x2 h)) : ∀ (n : Nat) {x0 : Nat} {x1 : Int32} {x2 : Int32} {x3 : Int32} {h : vt_S}, O x0 → vw [1415, 1417] [1408, 1409, 1410, 1411, 1412, 1413] [] O z0 h → vfr (vw [1415, 1417] [1408, 1409, 1410, 1411, 1412, 1413] [] O) z0 (ab_X13_ticks_32 k15 n x0 x1 x2 x3 h) := by
  intro n
  induction n with
  | zero => intro x0 x1 x2 x3 h ox0 hs; exact vr_no
  | succ n ih => intro x0 x1 x2 x3 h ox0 hs; exact vk_X13_ticks_32b hk15 (fun ox0 hs => ih ox0 hs) ox0 hs
theorem vk_X13_ticks_15b {O : Nat → Prop} {z0 : vt_S} {k15 : Nat → Int32 → Int32 → vt_S → Option (Int32 × vt_S)} (hk15 : ∀ {x0 : Nat} {x1 : Int32} {x2 : Int32} {h : vt_S}, O x0 → vw [1415, 1417] [1408, 1409, 1410, 1411, 1412, 1413] [] O z0 h → vfr (vw [1415, 1417] [1408, 1409, 1410, 1411, 1412, 1413] [] O) z0 (k15 x0 x1 x2 h)) {x0 : Nat} {x1 : Int32} {x2 : Int32} {h : vt_S} (ox0 : O x0) (hs : vw [1415, 1417] [1408, 1409, 1410, 1411, 1412, 1413] [] O z0 h) : vfr (vw [1415, 1417] [1408, 1409, 1410, 1411, 1412, 1413] [] O) z0 (ab_X13_ticks_15b k15 x0 x1 x2 h) := by
  unfold ab_X13_ticks_15b
  refine vr_if ?_ ?_
  · refine vr_let (fun _ => ?_)
    exact vr_rt hs
  · refine vr_let (fun _ => ?_)
    refine vr_I hs (by decide) ox0 (fun h hs => ?_)
    exact vk_X13_ticks_32 hk15 sv_fuel ox0 hs
theorem vk_X13_ticks_15 {O : Nat → Prop} {z0 : vt_S} : ∀ (n : Nat) {x0 : Nat} {x1 : Int32} {x2 : Int32} {h : vt_S}, O x0 → vw [1415, 1417] [1408, 1409, 1410, 1411, 1412, 1413] [] O z0 h → vfr (vw [1415, 1417] [1408, 1409, 1410, 1411, 1412, 1413] [] O) z0 (ab_X13_ticks_15 n x0 x1 x2 h) := by
  intro n
  induction n with
  | zero => intro x0 x1 x2 h ox0 hs; exact vr_no
  | succ n ih => intro x0 x1 x2 h ox0 hs; exact vk_X13_ticks_15b (fun ox0 hs => ih ox0 hs) ox0 hs
theorem vk_X13_ticks_0 {O : Nat → Prop} {z0 : vt_S} {x0 : Nat} {x1 : Int32} {h : vt_S} (ox0 : O x0) (hs : vw [1415, 1417] [1408, 1409, 1410, 1411, 1412, 1413] [] O z0 h) : vfr (vw [1415, 1417] [1408, 1409, 1410, 1411, 1412, 1413] [] O) z0 (ab_X13_ticks x0 x1 h) := by
  unfold ab_X13_ticks
  refine vr_if ?_ ?_
  · exact vk_X13_ticks_11 hs
  · refine vr_if ?_ ?_
    · exact vk_X13_ticks_15 sv_fuel ox0 hs
    · exact vk_X13_ticks_11 hs
theorem vk_X13_ticks {O : Nat → Prop} {x0 : Nat} {x1 : Int32} {h : vt_S} {r : Int32} {s : vt_S} (c : vcl O h) (ox0 : O x0) (e : ab_X13_ticks x0 x1 h = some (r, s)) : vw [1415, 1417] [1408, 1409, 1410, 1411, 1412, 1413] [] O h s := vk_X13_ticks_0 ox0 ⟨vk.refl h, c⟩ r s e

theorem vk_X17_go_121 {O : Nat → Prop} {z0 : vt_S} {x0 : Nat} {x7 : Int32} {h : vt_S} (ox0 : O x0) (hs : vw [1415, 1416, 1417, 1811, 1812, 1813, 1814, 1815, 1816, 1817, 1818, 1819, 1821, 1827, 1828] [1408, 1409, 1410, 1411, 1412, 1413, 1414, 1820] [] O z0 h) : vfr (vw [1415, 1416, 1417, 1811, 1812, 1813, 1814, 1815, 1816, 1817, 1818, 1819, 1821, 1827, 1828] [1408, 1409, 1410, 1411, 1412, 1413, 1414, 1820] [] O) z0 (ab_X17_go_121 x0 x7 h) := by
  unfold ab_X17_go_121
  refine vr_gP hs ox0 (fun v1 ov1 => ?_)
  refine vr_let (fun _ => ?_)
  refine vr_I hs (by decide) ov1 (fun h hs => ?_)
  refine vr_gP hs ox0 (fun v4 ov4 => ?_)
  refine vr_cl (fun _ _ e => (let q := vk_X13_ticks hs.2 ov4 e; ⟨hs.1.trans (q.1.weak (by decide) (by decide) (by decide)), q.2⟩)) (fun _ h hs => ?_)
  exact vr_rt hs
theorem vk_X17_go_110 {O : Nat → Prop} {z0 : vt_S} {x0 : Nat} {x4 : Int32} {s0 : Int32} {h : vt_S} (ox0 : O x0) (hs : vw [1415, 1416, 1417, 1811, 1812, 1813, 1814, 1815, 1816, 1817, 1818, 1819, 1821, 1827, 1828] [1408, 1409, 1410, 1411, 1412, 1413, 1414, 1820] [] O z0 h) : vfr (vw [1415, 1416, 1417, 1811, 1812, 1813, 1814, 1815, 1816, 1817, 1818, 1819, 1821, 1827, 1828] [1408, 1409, 1410, 1411, 1412, 1413, 1414, 1820] [] O) z0 (ab_X17_go_110 x0 x4 s0 h) := by
  unfold ab_X17_go_110
  refine vr_if ?_ ?_
  · exact vk_X17_go_121 ox0 hs
  · refine vr_cl (fun _ _ e => (let q := vk_X17_use hs.2 ox0 e; ⟨hs.1.trans (q.1.weak (by decide) (by decide) (by decide)), q.2⟩)) (fun _ h hs => ?_)
    exact vk_X17_go_121 ox0 hs
theorem vk_X17_go_94 {O : Nat → Prop} {z0 : vt_S} {x0 : Nat} {x4 : Int32} {x5 : Int32} {x6 : Int32} {h : vt_S} (ox0 : O x0) (hs : vw [1415, 1416, 1417, 1811, 1812, 1813, 1814, 1815, 1816, 1817, 1818, 1819, 1821, 1827, 1828] [1408, 1409, 1410, 1411, 1412, 1413, 1414, 1820] [] O z0 h) : vfr (vw [1415, 1416, 1417, 1811, 1812, 1813, 1814, 1815, 1816, 1817, 1818, 1819, 1821, 1827, 1828] [1408, 1409, 1410, 1411, 1412, 1413, 1414, 1820] [] O) z0 (ab_X17_go_94 x0 x4 x5 x6 h) := by
  unfold ab_X17_go_94
  refine vr_cl (fun _ _ e => (let q := vk_X17_walks hs.2 ox0 e; ⟨hs.1.trans (q.1.weak (by decide) (by decide) (by decide)), q.2⟩)) (fun _ h hs => ?_)
  refine vr_if ?_ ?_
  · exact vk_X17_go_110 ox0 hs
  · exact vk_X17_go_110 ox0 hs
theorem vk_X17_go_0 {O : Nat → Prop} {z0 : vt_S} {x0 : Nat} {x1 : Int32} {x2 : Int32} {x3 : Int32} {x4 : Int32} {h : vt_S} (ox0 : O x0) (hs : vw [1415, 1416, 1417, 1811, 1812, 1813, 1814, 1815, 1816, 1817, 1818, 1819, 1821, 1827, 1828] [1408, 1409, 1410, 1411, 1412, 1413, 1414, 1820] [] O z0 h) : vfr (vw [1415, 1416, 1417, 1811, 1812, 1813, 1814, 1815, 1816, 1817, 1818, 1819, 1821, 1827, 1828] [1408, 1409, 1410, 1411, 1412, 1413, 1414, 1820] [] O) z0 (ab_X17_go x0 x1 x2 x3 x4 h) := by
  unfold ab_X17_go
  refine vr_let (fun _ => ?_)
  refine vr_I hs (by decide) ox0 (fun h hs => ?_)
  refine vr_let (fun _ => ?_)
  refine vr_cl (fun _ _ e => (by rw [ve_X17_cosine e]; exact hs)) (fun _ h hs => ?_)
  refine vr_let (fun _ => ?_)
  refine vr_cl (fun _ _ e => (by rw [ve_X17_sine e]; exact hs)) (fun _ h hs => ?_)
  refine vr_cl (fun _ _ e => (by rw [ve_X17_down e]; exact hs)) (fun _ h hs => ?_)
  refine vr_let (fun _ => ?_)
  refine vr_cl (fun _ _ e => (by rw [ve_X17_sine e]; exact hs)) (fun _ h hs => ?_)
  refine vr_let (fun _ => ?_)
  refine vr_cl (fun _ _ e => (by rw [ve_X17_cosine e]; exact hs)) (fun _ h hs => ?_)
  refine vr_cl (fun _ _ e => (by rw [ve_X17_down e]; exact hs)) (fun _ h hs => ?_)
  refine vr_if ?_ ?_
  · refine vr_if ?_ ?_
    · exact vk_X17_go_110 ox0 hs
    · exact vk_X17_go_94 ox0 hs
  · exact vk_X17_go_94 ox0 hs
theorem vk_X17_go {O : Nat → Prop} {x0 : Nat} {x1 : Int32} {x2 : Int32} {x3 : Int32} {x4 : Int32} {h : vt_S} {r : Int32} {s : vt_S} (c : vcl O h) (ox0 : O x0) (e : ab_X17_go x0 x1 x2 x3 x4 h = some (r, s)) : vw [1415, 1416, 1417, 1811, 1812, 1813, 1814, 1815, 1816, 1817, 1818, 1819, 1821, 1827, 1828] [1408, 1409, 1410, 1411, 1412, 1413, 1414, 1820] [] O h s := vk_X17_go_0 ox0 ⟨vk.refl h, c⟩ r s e

theorem vk_X17_playTo_27 {O : Nat → Prop} {z0 : vt_S} {h : vt_S} (hs : vw [1415, 1416, 1417, 1800, 1811, 1812, 1813, 1814, 1815, 1816, 1817, 1818, 1819, 1821, 1827, 1828] [1408, 1409, 1410, 1411, 1412, 1413, 1414, 1820] [] O z0 h) : vfr (vw [1415, 1416, 1417, 1800, 1811, 1812, 1813, 1814, 1815, 1816, 1817, 1818, 1819, 1821, 1827, 1828] [1408, 1409, 1410, 1411, 1412, 1413, 1414, 1820] [] O) z0 (ab_X17_playTo_27 h) := by
  unfold ab_X17_playTo_27
  exact vr_rt hs
theorem vk_X17_playTo_92 {O : Nat → Prop} {z0 : vt_S} {k37 : Nat → Int32 → Int32 → Int32 → vt_S → Option (Int32 × vt_S)} (hk37 : ∀ {x0 : Nat} {x1 : Int32} {x2 : Int32} {x3 : Int32} {h : vt_S}, O x0 → vw [1415, 1416, 1417, 1800, 1811, 1812, 1813, 1814, 1815, 1816, 1817, 1818, 1819, 1821, 1827, 1828] [1408, 1409, 1410, 1411, 1412, 1413, 1414, 1820] [] O z0 h → vfr (vw [1415, 1416, 1417, 1800, 1811, 1812, 1813, 1814, 1815, 1816, 1817, 1818, 1819, 1821, 1827, 1828] [1408, 1409, 1410, 1411, 1412, 1413, 1414, 1820] [] O) z0 (k37 x0 x1 x2 x3 h)) {x0 : Nat} {x1 : Int32} {x3 : Int32} {s0 : Int32} {s1 : Int32} {h : vt_S} (ox0 : O x0) (hs : vw [1415, 1416, 1417, 1800, 1811, 1812, 1813, 1814, 1815, 1816, 1817, 1818, 1819, 1821, 1827, 1828] [1408, 1409, 1410, 1411, 1412, 1413, 1414, 1820] [] O z0 h) : vfr (vw [1415, 1416, 1417, 1800, 1811, 1812, 1813, 1814, 1815, 1816, 1817, 1818, 1819, 1821, 1827, 1828] [1408, 1409, 1410, 1411, 1412, 1413, 1414, 1820] [] O) z0 (ab_X17_playTo_92 k37 x0 x1 x3 s0 s1 h) := by
  unfold ab_X17_playTo_92
  exact hk37 ox0 hs
theorem vk_X17_playTo_37b {O : Nat → Prop} {z0 : vt_S} {k37 : Nat → Int32 → Int32 → Int32 → vt_S → Option (Int32 × vt_S)} (hk37 : ∀ {x0 : Nat} {x1 : Int32} {x2 : Int32} {x3 : Int32} {h : vt_S}, O x0 → vw [1415, 1416, 1417, 1800, 1811, 1812, 1813, 1814, 1815, 1816, 1817, 1818, 1819, 1821, 1827, 1828] [1408, 1409, 1410, 1411, 1412, 1413, 1414, 1820] [] O z0 h → vfr (vw [1415, 1416, 1417, 1800, 1811, 1812, 1813, 1814, 1815, 1816, 1817, 1818, 1819, 1821, 1827, 1828] [1408, 1409, 1410, 1411, 1412, 1413, 1414, 1820] [] O) z0 (k37 x0 x1 x2 x3 h)) {x0 : Nat} {x1 : Int32} {x2 : Int32} {x3 : Int32} {h : vt_S} (ox0 : O x0) (hs : vw [1415, 1416, 1417, 1800, 1811, 1812, 1813, 1814, 1815, 1816, 1817, 1818, 1819, 1821, 1827, 1828] [1408, 1409, 1410, 1411, 1412, 1413, 1414, 1820] [] O z0 h) : vfr (vw [1415, 1416, 1417, 1800, 1811, 1812, 1813, 1814, 1815, 1816, 1817, 1818, 1819, 1821, 1827, 1828] [1408, 1409, 1410, 1411, 1412, 1413, 1414, 1820] [] O) z0 (ab_X17_playTo_37b k37 x0 x1 x2 x3 h) := by
  unfold ab_X17_playTo_37b
  refine vr_if ?_ ?_
  · exact vr_rt hs
  · refine vr_gP hs ox0 (fun v1 ov1 => ?_)
    refine vr_bd (fun _ => ?_)
    refine vr_gP hs ox0 (fun v4 ov4 => ?_)
    refine vr_bd (fun _ => ?_)
    refine vr_gP hs ox0 (fun v7 ov7 => ?_)
    refine vr_bd (fun _ => ?_)
    refine vr_gP hs ox0 (fun v10 ov10 => ?_)
    refine vr_bd (fun _ => ?_)
    refine vr_cl (fun _ _ e => (let q := vk_X17_go hs.2 ox0 e; ⟨hs.1.trans (q.1.weak (by decide) (by decide) (by decide)), q.2⟩)) (fun _ h hs => ?_)
    refine vr_if ?_ ?_
    · exact vk_X17_playTo_92 hk37 ox0 hs
    · exact vk_X17_playTo_92 hk37 ox0 hs
theorem vk_X17_playTo_37 {O : Nat → Prop} {z0 : vt_S} : ∀ (n : Nat) {x0 : Nat} {x1 : Int32} {x2 : Int32} {x3 : Int32} {h : vt_S}, O x0 → vw [1415, 1416, 1417, 1800, 1811, 1812, 1813, 1814, 1815, 1816, 1817, 1818, 1819, 1821, 1827, 1828] [1408, 1409, 1410, 1411, 1412, 1413, 1414, 1820] [] O z0 h → vfr (vw [1415, 1416, 1417, 1800, 1811, 1812, 1813, 1814, 1815, 1816, 1817, 1818, 1819, 1821, 1827, 1828] [1408, 1409, 1410, 1411, 1412, 1413, 1414, 1820] [] O) z0 (ab_X17_playTo_37 n x0 x1 x2 x3 h) := by
  intro n
  induction n with
  | zero => intro x0 x1 x2 x3 h ox0 hs; exact vr_no
  | succ n ih => intro x0 x1 x2 x3 h ox0 hs; exact vk_X17_playTo_37b (fun ox0 hs => ih ox0 hs) ox0 hs
theorem vk_X17_playTo_0 {O : Nat → Prop} {z0 : vt_S} {x0 : Nat} {x1 : Int32} {h : vt_S} (ox0 : O x0) (hs : vw [1415, 1416, 1417, 1800, 1811, 1812, 1813, 1814, 1815, 1816, 1817, 1818, 1819, 1821, 1827, 1828] [1408, 1409, 1410, 1411, 1412, 1413, 1414, 1820] [] O z0 h) : vfr (vw [1415, 1416, 1417, 1800, 1811, 1812, 1813, 1814, 1815, 1816, 1817, 1818, 1819, 1821, 1827, 1828] [1408, 1409, 1410, 1411, 1412, 1413, 1414, 1820] [] O) z0 (ab_X17_playTo x0 x1 h) := by
  unfold ab_X17_playTo
  refine vr_I hs (by decide) ox0 (fun h hs => ?_)
  refine vr_let (fun _ => ?_)
  refine vr_if ?_ ?_
  · exact vk_X17_playTo_27 hs
  · refine vr_if ?_ ?_
    · exact vk_X17_playTo_27 hs
    · refine vr_gP hs ox0 (fun v3 ov3 => ?_)
      refine vr_let (fun _ => ?_)
      refine vr_if ?_ ?_
      · refine vr_cl (fun _ _ e => (let q := vk_X17_begin hs.2 ox0 e; ⟨hs.1.trans (q.1.weak (by decide) (by decide) (by decide)), q.2⟩)) (fun _ h hs => ?_)
        exact vk_X17_playTo_37 sv_fuel ox0 hs
      · exact vk_X17_playTo_27 hs
theorem vk_X17_playTo {O : Nat → Prop} {x0 : Nat} {x1 : Int32} {h : vt_S} {r : Int32} {s : vt_S} (c : vcl O h) (ox0 : O x0) (e : ab_X17_playTo x0 x1 h = some (r, s)) : vw [1415, 1416, 1417, 1800, 1811, 1812, 1813, 1814, 1815, 1816, 1817, 1818, 1819, 1821, 1827, 1828] [1408, 1409, 1410, 1411, 1412, 1413, 1414, 1820] [] O h s := vk_X17_playTo_0 ox0 ⟨vk.refl h, c⟩ r s e

theorem vk_X12_stepBy_16 {O : Nat → Prop} {z0 : vt_S} {h : vt_S} (hs : vw [406, 407, 408, 409, 410, 707, 708, 709, 710, 711, 712, 713, 1102, 1103, 1104, 1105, 1106] [400, 401, 402, 403, 404, 405] [] O z0 h) : vfr (vw [406, 407, 408, 409, 410, 707, 708, 709, 710, 711, 712, 713, 1102, 1103, 1104, 1105, 1106] [400, 401, 402, 403, 404, 405] [] O) z0 (ab_X12_stepBy_16 h) := by
  unfold ab_X12_stepBy_16
  exact vr_rt hs
theorem vk_X12_stepBy_0 {O : Nat → Prop} {z0 : vt_S} {x0 : Nat} {x1 : Int32} {x2 : Int32} {x3 : Int32} {x4 : Int32} {h : vt_S} (ox0 : O x0) (hs : vw [406, 407, 408, 409, 410, 707, 708, 709, 710, 711, 712, 713, 1102, 1103, 1104, 1105, 1106] [400, 401, 402, 403, 404, 405] [] O z0 h) : vfr (vw [406, 407, 408, 409, 410, 707, 708, 709, 710, 711, 712, 713, 1102, 1103, 1104, 1105, 1106] [400, 401, 402, 403, 404, 405] [] O) z0 (ab_X12_stepBy x0 x1 x2 x3 x4 h) := by
  unfold ab_X12_stepBy
  refine vr_cl (fun _ _ e => (by rw [ve_X12_hasMap e]; exact hs)) (fun _ h hs => ?_)
  refine vr_if ?_ ?_
  · exact vk_X12_stepBy_16 hs
  · refine vr_cl (fun _ _ e => (by rw [ve_X5_isInput e]; exact hs)) (fun _ h hs => ?_)
    refine vr_if ?_ ?_
    · exact vk_X12_stepBy_16 hs
    · refine vr_gP hs ox0 (fun v5 ov5 => ?_)
      refine vr_cl (fun _ _ e => (by rw [ve_X5_inputOf e]; exact hs)) (fun _ h hs => ?_)
      refine vr_cl (fun _ _ e => (let q := vk_X10_step hs.2 ov5 e; ⟨hs.1.trans (q.1.weak (by decide) (by decide) (by decide)), q.2⟩)) (fun _ h hs => ?_)
      exact vr_rt hs
theorem vk_X12_stepBy {O : Nat → Prop} {x0 : Nat} {x1 : Int32} {x2 : Int32} {x3 : Int32} {x4 : Int32} {h : vt_S} {r : Int32} {s : vt_S} (c : vcl O h) (ox0 : O x0) (e : ab_X12_stepBy x0 x1 x2 x3 x4 h = some (r, s)) : vw [406, 407, 408, 409, 410, 707, 708, 709, 710, 711, 712, 713, 1102, 1103, 1104, 1105, 1106] [400, 401, 402, 403, 404, 405] [] O h s := vk_X12_stepBy_0 ox0 ⟨vk.refl h, c⟩ r s e

theorem vk_X17_stepBy_64 {O : Nat → Prop} {z0 : vt_S} {s0 : Int32} {h : vt_S} (hs : vw [1415, 1416, 1417, 1800, 1811, 1812, 1813, 1814, 1815, 1816, 1817, 1818, 1819, 1821, 1827, 1828] [1408, 1409, 1410, 1411, 1412, 1413, 1414, 1820] [] O z0 h) : vfr (vw [1415, 1416, 1417, 1800, 1811, 1812, 1813, 1814, 1815, 1816, 1817, 1818, 1819, 1821, 1827, 1828] [1408, 1409, 1410, 1411, 1412, 1413, 1414, 1820] [] O) z0 (ab_X17_stepBy_64 s0 h) := by
  unfold ab_X17_stepBy_64
  exact vr_rt hs
theorem vk_X17_stepBy_44 {O : Nat → Prop} {z0 : vt_S} {x0 : Nat} {x1 : Int32} {x2 : Int32} {x3 : Int32} {x4 : Int32} {s0 : Int32} {h : vt_S} (ox0 : O x0) (hs : vw [1415, 1416, 1417, 1800, 1811, 1812, 1813, 1814, 1815, 1816, 1817, 1818, 1819, 1821, 1827, 1828] [1408, 1409, 1410, 1411, 1412, 1413, 1414, 1820] [] O z0 h) : vfr (vw [1415, 1416, 1417, 1800, 1811, 1812, 1813, 1814, 1815, 1816, 1817, 1818, 1819, 1821, 1827, 1828] [1408, 1409, 1410, 1411, 1412, 1413, 1414, 1820] [] O) z0 (ab_X17_stepBy_44 x0 x1 x2 x3 x4 s0 h) := by
  unfold ab_X17_stepBy_44
  refine vr_if ?_ ?_
  · exact vk_X17_stepBy_64 hs
  · refine vr_cl (fun _ _ e => (let q := vk_X17_go hs.2 ox0 e; ⟨hs.1.trans (q.1.weak (by decide) (by decide) (by decide)), q.2⟩)) (fun _ h hs => ?_)
    exact vk_X17_stepBy_64 hs
theorem vk_X17_stepBy_43 {O : Nat → Prop} {z0 : vt_S} {x0 : Nat} {x1 : Int32} {x2 : Int32} {x3 : Int32} {x4 : Int32} {h : vt_S} (ox0 : O x0) (hs : vw [1415, 1416, 1417, 1800, 1811, 1812, 1813, 1814, 1815, 1816, 1817, 1818, 1819, 1821, 1827, 1828] [1408, 1409, 1410, 1411, 1412, 1413, 1414, 1820] [] O z0 h) : vfr (vw [1415, 1416, 1417, 1800, 1811, 1812, 1813, 1814, 1815, 1816, 1817, 1818, 1819, 1821, 1827, 1828] [1408, 1409, 1410, 1411, 1412, 1413, 1414, 1820] [] O) z0 (ab_X17_stepBy_43 x0 x1 x2 x3 x4 h) := by
  unfold ab_X17_stepBy_43
  exact vk_X17_stepBy_44 ox0 hs
theorem vk_X17_stepBy_0 {O : Nat → Prop} {z0 : vt_S} {x0 : Nat} {x1 : Int32} {x2 : Int32} {x3 : Int32} {x4 : Int32} {h : vt_S} (ox0 : O x0) (hs : vw [1415, 1416, 1417, 1800, 1811, 1812, 1813, 1814, 1815, 1816, 1817, 1818, 1819, 1821, 1827, 1828] [1408, 1409, 1410, 1411, 1412, 1413, 1414, 1820] [] O z0 h) : vfr (vw [1415, 1416, 1417, 1800, 1811, 1812, 1813, 1814, 1815, 1816, 1817, 1818, 1819, 1821, 1827, 1828] [1408, 1409, 1410, 1411, 1412, 1413, 1414, 1820] [] O) z0 (ab_X17_stepBy x0 x1 x2 x3 x4 h) := by
  unfold ab_X17_stepBy
  refine vr_I hs (by decide) ox0 (fun h hs => ?_)
  refine vr_let (fun _ => ?_)
  refine vr_if ?_ ?_
  · exact vk_X17_stepBy_43 ox0 hs
  · refine vr_cl (fun _ _ e => (by rw [ve_X15_isIn e]; exact hs)) (fun _ h hs => ?_)
    refine vr_if ?_ ?_
    · exact vk_X17_stepBy_43 ox0 hs
    · refine vr_cl (fun _ _ e => (by rw [ve_X15_isIn e]; exact hs)) (fun _ h hs => ?_)
      refine vr_if ?_ ?_
      · exact vk_X17_stepBy_43 ox0 hs
      · refine vr_cl (fun _ _ e => (by rw [ve_X15_isIn e]; exact hs)) (fun _ h hs => ?_)
        refine vr_if ?_ ?_
        · exact vk_X17_stepBy_43 ox0 hs
        · exact vk_X17_stepBy_44 ox0 hs
theorem vk_X17_stepBy {O : Nat → Prop} {x0 : Nat} {x1 : Int32} {x2 : Int32} {x3 : Int32} {x4 : Int32} {h : vt_S} {r : Int32} {s : vt_S} (c : vcl O h) (ox0 : O x0) (e : ab_X17_stepBy x0 x1 x2 x3 x4 h = some (r, s)) : vw [1415, 1416, 1417, 1800, 1811, 1812, 1813, 1814, 1815, 1816, 1817, 1818, 1819, 1821, 1827, 1828] [1408, 1409, 1410, 1411, 1412, 1413, 1414, 1820] [] O h s := vk_X17_stepBy_0 ox0 ⟨vk.refl h, c⟩ r s e

theorem ve_X10_eye_0 {z0 : vt_S} {x0 : Nat} {h : vt_S} (hs : veq z0 h) : vfr veq z0 (ab_X10_eye x0 h) := by
  unfold ab_X10_eye
  refine vr_let (fun _ => ?_)
  refine vr_let (fun _ => ?_)
  refine vr_bd (fun _ => ?_)
  refine vr_let (fun _ => ?_)
  exact vr_rt hs
theorem ve_X10_eye {x0 : Nat} {h : vt_S} {r : Int32} {s : vt_S} (e : ab_X10_eye x0 h = some (r, s)) : s = h := ve_X10_eye_0 rfl r s e

theorem ve_X12_walkerOf_0 {z0 : vt_S} {x0 : Nat} {x1 : Int32} {h : vt_S} (hs : veq z0 h) : vfr veq z0 (ab_X12_walkerOf x0 x1 h) := by
  unfold ab_X12_walkerOf
  refine vr_cl (fun _ _ e => ((ve_X12_hasMap e).trans hs)) (fun _ h hs => ?_)
  refine vr_if ?_ ?_
  · exact vr_rt hs
  · refine vr_if ?_ ?_
    · refine vr_let (fun _ => ?_)
      refine vr_let (fun _ => ?_)
      exact vr_rt hs
    refine vr_if ?_ ?_
    · refine vr_let (fun _ => ?_)
      refine vr_let (fun _ => ?_)
      exact vr_rt hs
    refine vr_if ?_ ?_
    · refine vr_let (fun _ => ?_)
      refine vr_let (fun _ => ?_)
      exact vr_rt hs
    refine vr_if ?_ ?_
    · refine vr_let (fun _ => ?_)
      refine vr_let (fun _ => ?_)
      exact vr_rt hs
    refine vr_if ?_ ?_
    · refine vr_let (fun _ => ?_)
      refine vr_cl (fun _ _ e => ((ve_X10_eye e).trans hs)) (fun _ h hs => ?_)
      exact vr_rt hs
    refine vr_if ?_ ?_
    · refine vr_let (fun _ => ?_)
      refine vr_let (fun _ => ?_)
      exact vr_rt hs
    exact vr_rt hs
theorem ve_X12_walkerOf {x0 : Nat} {x1 : Int32} {h : vt_S} {r : Int32} {s : vt_S} (e : ab_X12_walkerOf x0 x1 h = some (r, s)) : s = h := ve_X12_walkerOf_0 rfl r s e

theorem ve_X17_eye_0 {z0 : vt_S} {x0 : Nat} {h : vt_S} (hs : veq z0 h) : vfr veq z0 (ab_X17_eye x0 h) := by
  unfold ab_X17_eye
  refine vr_let (fun _ => ?_)
  refine vr_let (fun _ => ?_)
  refine vr_bd (fun _ => ?_)
  exact vr_rt hs
theorem ve_X17_eye {x0 : Nat} {h : vt_S} {r : Int32} {s : vt_S} (e : ab_X17_eye x0 h = some (r, s)) : s = h := ve_X17_eye_0 rfl r s e

theorem vk_X17_walkerOf_0 {O : Nat → Prop} {z0 : vt_S} {x0 : Nat} {x1 : Int32} {h : vt_S} (ox0 : O x0) (hs : vw [1800] [] [] O z0 h) : vfr (vw [1800] [] [] O) z0 (ab_X17_walkerOf x0 x1 h) := by
  unfold ab_X17_walkerOf
  refine vr_I hs (by decide) ox0 (fun h hs => ?_)
  refine vr_let (fun _ => ?_)
  refine vr_if ?_ ?_
  · exact vr_rt hs
  · refine vr_if ?_ ?_
    · refine vr_let (fun _ => ?_)
      exact vr_rt hs
    refine vr_if ?_ ?_
    · refine vr_let (fun _ => ?_)
      exact vr_rt hs
    refine vr_if ?_ ?_
    · refine vr_let (fun _ => ?_)
      exact vr_rt hs
    refine vr_if ?_ ?_
    · refine vr_let (fun _ => ?_)
      exact vr_rt hs
    refine vr_if ?_ ?_
    · refine vr_cl (fun _ _ e => (by rw [ve_X17_eye e]; exact hs)) (fun _ h hs => ?_)
      exact vr_rt hs
    refine vr_if ?_ ?_
    · refine vr_gP hs ox0 (fun v9 ov9 => ?_)
      refine vr_let (fun _ => ?_)
      exact vr_rt hs
    exact vr_rt hs
theorem vk_X17_walkerOf {O : Nat → Prop} {x0 : Nat} {x1 : Int32} {h : vt_S} {r : Int32} {s : vt_S} (c : vcl O h) (ox0 : O x0) (e : ab_X17_walkerOf x0 x1 h = some (r, s)) : vw [1800] [] [] O h s := vk_X17_walkerOf_0 ox0 ⟨vk.refl h, c⟩ r s e

theorem ve_X2_moverCount_28 {z0 : vt_S} {k4 : Nat → Int32 → Int32 → vt_S → Option (Int32 × vt_S)} (hk4 : ∀ {x0 : Nat} {x1 : Int32} {x2 : Int32} {h : vt_S}, veq z0 h → vfr veq z0 (k4 x0 x1 x2 h)) {x0 : Nat} {x1 : Int32} {x2 : Int32} {h : vt_S} (hs : veq z0 h) : vfr veq z0 (ab_X2_moverCount_28 k4 x0 x1 x2 h) := by
  unfold ab_X2_moverCount_28
  exact hk4 hs
theorem ve_X2_moverCount_4b {z0 : vt_S} {k4 : Nat → Int32 → Int32 → vt_S → Option (Int32 × vt_S)} (hk4 : ∀ {x0 : Nat} {x1 : Int32} {x2 : Int32} {h : vt_S}, veq z0 h → vfr veq z0 (k4 x0 x1 x2 h)) {x0 : Nat} {x1 : Int32} {x2 : Int32} {h : vt_S} (hs : veq z0 h) : vfr veq z0 (ab_X2_moverCount_4b k4 x0 x1 x2 h) := by
  unfold ab_X2_moverCount_4b
  refine vr_let (fun _ => ?_)
  refine vr_if ?_ ?_
  · exact vr_rt hs
  · refine vr_bd (fun _ => ?_)
    refine vr_let (fun _ => ?_)
    refine vr_if ?_ ?_
    · exact ve_X2_moverCount_28 hk4 hs
    · exact ve_X2_moverCount_28 hk4 hs
theorem ve_X2_moverCount_4 {z0 : vt_S} : ∀ (n : Nat) {x0 : Nat} {x1 : Int32} {x2 : Int32} {h : vt_S}, veq z0 h → vfr veq z0 (ab_X2_moverCount_4 n x0 x1 x2 h) := by
  intro n
  induction n with
  | zero => intro x0 x1 x2 h hs; exact vr_no
  | succ n ih => intro x0 x1 x2 h hs; exact ve_X2_moverCount_4b (fun hs => ih hs) hs
theorem ve_X2_moverCount_0 {z0 : vt_S} {x0 : Nat} {h : vt_S} (hs : veq z0 h) : vfr veq z0 (ab_X2_moverCount x0 h) := by
  unfold ab_X2_moverCount
  exact ve_X2_moverCount_4 sv_fuel hs
theorem ve_X2_moverCount {x0 : Nat} {h : vt_S} {r : Int32} {s : vt_S} (e : ab_X2_moverCount x0 h = some (r, s)) : s = h := ve_X2_moverCount_0 rfl r s e

theorem ve_X2_lightIn_53 {z0 : vt_S} {s0 : Int32} {h : vt_S} (hs : veq z0 h) : vfr veq z0 (ab_X2_lightIn_53 s0 h) := by
  unfold ab_X2_lightIn_53
  exact vr_rt hs
theorem ve_X2_lightIn_71 {z0 : vt_S} {s0 : Int32} {h : vt_S} (hs : veq z0 h) : vfr veq z0 (ab_X2_lightIn_71 s0 h) := by
  unfold ab_X2_lightIn_71
  exact vr_rt hs
theorem ve_X2_lightIn_0 {z0 : vt_S} {x0 : Nat} {x1 : Nat} {x2 : Int32} {h : vt_S} (hs : veq z0 h) : vfr veq z0 (ab_X2_lightIn x0 x1 x2 h) := by
  unfold ab_X2_lightIn
  refine vr_let (fun _ => ?_)
  refine vr_if ?_ ?_
  · refine vr_if ?_ ?_
    · refine vr_let (fun _ => ?_)
      exact ve_X2_lightIn_53 hs
    · refine vr_let (fun _ => ?_)
      exact ve_X2_lightIn_53 hs
  refine vr_if ?_ ?_
  · refine vr_if ?_ ?_
    · refine vr_let (fun _ => ?_)
      exact ve_X2_lightIn_71 hs
    · exact ve_X2_lightIn_71 hs
  refine vr_if ?_ ?_
  · refine vr_let (fun _ => ?_)
    refine vr_cl (fun _ _ e => ((ve_X2_moverCount e).trans hs)) (fun _ h hs => ?_)
    refine vr_let (fun _ => ?_)
    exact vr_rt hs
  refine vr_let (fun _ => ?_)
  exact vr_rt hs
theorem ve_X2_lightIn {x0 : Nat} {x1 : Nat} {x2 : Int32} {h : vt_S} {r : Int32} {s : vt_S} (e : ab_X2_lightIn x0 x1 x2 h = some (r, s)) : s = h := ve_X2_lightIn_0 rfl r s e

theorem ve_X12_sectorOf_15 {z0 : vt_S} {h : vt_S} (hs : veq z0 h) : vfr veq z0 (ab_X12_sectorOf_15 h) := by
  unfold ab_X12_sectorOf_15
  exact vr_rt hs
theorem ve_X12_sectorOf_0 {z0 : vt_S} {x0 : Nat} {x1 : Int32} {x2 : Int32} {h : vt_S} (hs : veq z0 h) : vfr veq z0 (ab_X12_sectorOf x0 x1 x2 h) := by
  unfold ab_X12_sectorOf
  refine vr_cl (fun _ _ e => ((ve_X12_hasMap e).trans hs)) (fun _ h hs => ?_)
  refine vr_if ?_ ?_
  · exact ve_X12_sectorOf_15 hs
  · refine vr_cl (fun _ _ e => ((ve_X12_isSector e).trans hs)) (fun _ h hs => ?_)
    refine vr_if ?_ ?_
    · exact ve_X12_sectorOf_15 hs
    · refine vr_let (fun _ => ?_)
      refine vr_bd (fun _ => ?_)
      refine vr_if ?_ ?_
      · refine vr_let (fun _ => ?_)
        exact vr_rt hs
      refine vr_if ?_ ?_
      · refine vr_let (fun _ => ?_)
        exact vr_rt hs
      refine vr_if ?_ ?_
      · refine vr_let (fun _ => ?_)
        refine vr_let (fun _ => ?_)
        refine vr_let (fun _ => ?_)
        refine vr_cl (fun _ _ e => ((ve_X2_lightIn e).trans hs)) (fun _ h hs => ?_)
        exact vr_rt hs
      refine vr_if ?_ ?_
      · refine vr_let (fun _ => ?_)
        exact vr_rt hs
      refine vr_if ?_ ?_
      · refine vr_let (fun _ => ?_)
        exact vr_rt hs
      exact vr_rt hs
theorem ve_X12_sectorOf {x0 : Nat} {x1 : Int32} {x2 : Int32} {h : vt_S} {r : Int32} {s : vt_S} (e : ab_X12_sectorOf x0 x1 x2 h = some (r, s)) : s = h := ve_X12_sectorOf_0 rfl r s e

theorem ve_X13_many_27 {z0 : vt_S} {k4 : Nat → Int32 → Int32 → vt_S → Option (Int32 × vt_S)} (hk4 : ∀ {x0 : Nat} {x1 : Int32} {x2 : Int32} {h : vt_S}, veq z0 h → vfr veq z0 (k4 x0 x1 x2 h)) {x0 : Nat} {x2 : Int32} {s0 : Int32} {s1 : Int32} {h : vt_S} (hs : veq z0 h) : vfr veq z0 (ab_X13_many_27 k4 x0 x2 s0 s1 h) := by
  unfold ab_X13_many_27
  exact hk4 hs
theorem ve_X13_many_4b {z0 : vt_S} {k4 : Nat → Int32 → Int32 → vt_S → Option (Int32 × vt_S)} (hk4 : ∀ {x0 : Nat} {x1 : Int32} {x2 : Int32} {h : vt_S}, veq z0 h → vfr veq z0 (k4 x0 x1 x2 h)) {x0 : Nat} {x1 : Int32} {x2 : Int32} {h : vt_S} (hs : veq z0 h) : vfr veq z0 (ab_X13_many_4b k4 x0 x1 x2 h) := by
  unfold ab_X13_many_4b
  refine vr_let (fun _ => ?_)
  refine vr_if ?_ ?_
  · exact vr_rt hs
  · refine vr_bd (fun _ => ?_)
    refine vr_if ?_ ?_
    · exact ve_X13_many_27 hk4 hs
    · exact ve_X13_many_27 hk4 hs
theorem ve_X13_many_4 {z0 : vt_S} : ∀ (n : Nat) {x0 : Nat} {x1 : Int32} {x2 : Int32} {h : vt_S}, veq z0 h → vfr veq z0 (ab_X13_many_4 n x0 x1 x2 h) := by
  intro n
  induction n with
  | zero => intro x0 x1 x2 h hs; exact vr_no
  | succ n ih => intro x0 x1 x2 h hs; exact ve_X13_many_4b (fun hs => ih hs) hs
theorem ve_X13_many_0 {z0 : vt_S} {x0 : Nat} {h : vt_S} (hs : veq z0 h) : vfr veq z0 (ab_X13_many x0 h) := by
  unfold ab_X13_many
  exact ve_X13_many_4 sv_fuel hs
theorem ve_X13_many {x0 : Nat} {h : vt_S} {r : Int32} {s : vt_S} (e : ab_X13_many x0 h = some (r, s)) : s = h := ve_X13_many_0 rfl r s e

theorem ve_X13_lightOf_66 {z0 : vt_S} {s0 : Int32} {h : vt_S} (hs : veq z0 h) : vfr veq z0 (ab_X13_lightOf_66 s0 h) := by
  unfold ab_X13_lightOf_66
  exact vr_rt hs
theorem ve_X13_lightOf_84 {z0 : vt_S} {s0 : Int32} {h : vt_S} (hs : veq z0 h) : vfr veq z0 (ab_X13_lightOf_84 s0 h) := by
  unfold ab_X13_lightOf_84
  exact vr_rt hs
theorem ve_X13_lightOf_94 {z0 : vt_S} {s0 : Int32} {h : vt_S} (hs : veq z0 h) : vfr veq z0 (ab_X13_lightOf_94 s0 h) := by
  unfold ab_X13_lightOf_94
  exact vr_rt hs
theorem ve_X13_lightOf_0 {z0 : vt_S} {x0 : Nat} {x1 : Int32} {h : vt_S} (hs : veq z0 h) : vfr veq z0 (ab_X13_lightOf x0 x1 h) := by
  unfold ab_X13_lightOf
  refine vr_bd (fun _ => ?_)
  refine vr_cl (fun _ _ e => ((ve_X13_many e).trans hs)) (fun _ h hs => ?_)
  refine vr_bd (fun _ => ?_)
  refine vr_if ?_ ?_
  · refine vr_let (fun _ => ?_)
    refine vr_if ?_ ?_
    · exact ve_X13_lightOf_66 hs
    · exact ve_X13_lightOf_66 hs
  refine vr_if ?_ ?_
  · refine vr_let (fun _ => ?_)
    refine vr_if ?_ ?_
    · exact ve_X13_lightOf_84 hs
    · exact ve_X13_lightOf_84 hs
  refine vr_if ?_ ?_
  · refine vr_if ?_ ?_
    · exact ve_X13_lightOf_94 hs
    · exact ve_X13_lightOf_94 hs
  exact vr_rt hs
theorem ve_X13_lightOf {x0 : Nat} {x1 : Int32} {h : vt_S} {r : Int32} {s : vt_S} (e : ab_X13_lightOf x0 x1 h = some (r, s)) : s = h := ve_X13_lightOf_0 rfl r s e

theorem ve_X13_of_0 {z0 : vt_S} {x0 : Nat} {x1 : Int32} {x2 : Int32} {h : vt_S} (hs : veq z0 h) : vfr veq z0 (ab_X13_of x0 x1 x2 h) := by
  unfold ab_X13_of
  refine vr_cl (fun _ _ e => ((ve_X13_isSector e).trans hs)) (fun _ h hs => ?_)
  refine vr_if ?_ ?_
  · exact vr_rt hs
  · refine vr_if ?_ ?_
    · refine vr_bd (fun _ => ?_)
      exact vr_rt hs
    refine vr_if ?_ ?_
    · refine vr_bd (fun _ => ?_)
      exact vr_rt hs
    refine vr_if ?_ ?_
    · refine vr_cl (fun _ _ e => ((ve_X13_lightOf e).trans hs)) (fun _ h hs => ?_)
      exact vr_rt hs
    refine vr_if ?_ ?_
    · refine vr_bd (fun _ => ?_)
      exact vr_rt hs
    refine vr_if ?_ ?_
    · refine vr_bd (fun _ => ?_)
      exact vr_rt hs
    refine vr_if ?_ ?_
    · refine vr_bd (fun _ => ?_)
      exact vr_rt hs
    refine vr_if ?_ ?_
    · refine vr_cl (fun _ _ e => ((ve_X13_lowFloor e).trans hs)) (fun _ h hs => ?_)
      exact vr_rt hs
    refine vr_if ?_ ?_
    · refine vr_cl (fun _ _ e => ((ve_X13_highFloor e).trans hs)) (fun _ h hs => ?_)
      exact vr_rt hs
    refine vr_if ?_ ?_
    · refine vr_cl (fun _ _ e => ((ve_X13_lowCeiling e).trans hs)) (fun _ h hs => ?_)
      exact vr_rt hs
    refine vr_if ?_ ?_
    · refine vr_bd (fun _ => ?_)
      exact vr_rt hs
    exact vr_rt hs
theorem ve_X13_of {x0 : Nat} {x1 : Int32} {x2 : Int32} {h : vt_S} {r : Int32} {s : vt_S} (e : ab_X13_of x0 x1 x2 h = some (r, s)) : s = h := ve_X13_of_0 rfl r s e

theorem vk_X17_sectorOf_41 {O : Nat → Prop} {z0 : vt_S} {s0 : Int32} {h : vt_S} (hs : vw [1800] [] [] O z0 h) : vfr (vw [1800] [] [] O) z0 (ab_X17_sectorOf_41 s0 h) := by
  unfold ab_X17_sectorOf_41
  exact vr_rt hs
theorem vk_X17_sectorOf_26 {O : Nat → Prop} {z0 : vt_S} {h : vt_S} (hs : vw [1800] [] [] O z0 h) : vfr (vw [1800] [] [] O) z0 (ab_X17_sectorOf_26 h) := by
  unfold ab_X17_sectorOf_26
  exact vk_X17_sectorOf_41 hs
theorem vk_X17_sectorOf_0 {O : Nat → Prop} {z0 : vt_S} {x0 : Nat} {x1 : Int32} {x2 : Int32} {h : vt_S} (ox0 : O x0) (hs : vw [1800] [] [] O z0 h) : vfr (vw [1800] [] [] O) z0 (ab_X17_sectorOf x0 x1 x2 h) := by
  unfold ab_X17_sectorOf
  refine vr_I hs (by decide) ox0 (fun h hs => ?_)
  refine vr_if ?_ ?_
  · exact vk_X17_sectorOf_26 hs
  · refine vr_cl (fun _ _ e => (by rw [ve_X17_sectors e]; exact hs)) (fun _ h hs => ?_)
    refine vr_if ?_ ?_
    · exact vk_X17_sectorOf_26 hs
    · refine vr_if ?_ ?_
      · exact vk_X17_sectorOf_26 hs
      · refine vr_if ?_ ?_
        · refine vr_gP hs ox0 (fun v4 ov4 => ?_)
          refine vr_cl (fun _ _ e => (by rw [ve_X13_of e]; exact hs)) (fun _ h hs => ?_)
          exact vk_X17_sectorOf_41 hs
        · exact vk_X17_sectorOf_26 hs
theorem vk_X17_sectorOf {O : Nat → Prop} {x0 : Nat} {x1 : Int32} {x2 : Int32} {h : vt_S} {r : Int32} {s : vt_S} (c : vcl O h) (ox0 : O x0) (e : ab_X17_sectorOf x0 x1 x2 h = some (r, s)) : vw [1800] [] [] O h s := vk_X17_sectorOf_0 ox0 ⟨vk.refl h, c⟩ r s e

theorem ve_X12_isSeen_22 {z0 : vt_S} {s0 : Int32} {h : vt_S} (hs : veq z0 h) : vfr veq z0 (ab_X12_isSeen_22 s0 h) := by
  unfold ab_X12_isSeen_22
  exact vr_rz hs
theorem ve_X12_isSeen_21 {z0 : vt_S} {h : vt_S} (hs : veq z0 h) : vfr veq z0 (ab_X12_isSeen_21 h) := by
  unfold ab_X12_isSeen_21
  exact ve_X12_isSeen_22 hs
theorem ve_X12_isSeen_0 {z0 : vt_S} {x0 : Nat} {x1 : Int32} {h : vt_S} (hs : veq z0 h) : vfr veq z0 (ab_X12_isSeen x0 x1 h) := by
  unfold ab_X12_isSeen
  refine vr_cl (fun _ _ e => ((ve_X12_hasMap e).trans hs)) (fun _ h hs => ?_)
  refine vr_if ?_ ?_
  · exact ve_X12_isSeen_21 hs
  · refine vr_if ?_ ?_
    · exact ve_X12_isSeen_21 hs
    · refine vr_if ?_ ?_
      · exact ve_X12_isSeen_21 hs
      · exact ve_X12_isSeen_22 hs
theorem ve_X12_isSeen {x0 : Nat} {x1 : Int32} {h : vt_S} {r : Int32} {s : vt_S} (e : ab_X12_isSeen x0 x1 h = some (r, s)) : s = h := ve_X12_isSeen_0 rfl r s e

theorem vk_X3_meetAll_7b {O : Nat → Prop} {z0 : vt_S} {k7 : Nat → Nat → Int32 → vt_S → Option (Unit × vt_S)} (hk7 : ∀ {x0 : Nat} {x1 : Nat} {x2 : Int32} {h : vt_S}, O x0 → O x1 → vw [406] [400, 401, 402, 403, 404, 405] [] O z0 h → vfr (vw [406] [400, 401, 402, 403, 404, 405] [] O) z0 (k7 x0 x1 x2 h)) {x0 : Nat} {x1 : Nat} {x2 : Int32} {h : vt_S} (ox0 : O x0) (ox1 : O x1) (hs : vw [406] [400, 401, 402, 403, 404, 405] [] O z0 h) : vfr (vw [406] [400, 401, 402, 403, 404, 405] [] O) z0 (ab_X3_meetAll_7b k7 x0 x1 x2 h) := by
  unfold ab_X3_meetAll_7b
  refine vr_let (fun _ => ?_)
  refine vr_if ?_ ?_
  · exact vr_rt hs
  · refine vr_lP hs ox1 (fun v3 ov3 => ?_)
    refine vr_cl (fun _ _ e => (let q := vk_X3_meet hs.2 ox0 ov3 e; ⟨hs.1.trans (q.1.weak (by decide) (by decide) (by decide)), q.2⟩)) (fun _ h hs => ?_)
    exact hk7 ox0 ox1 hs
theorem vk_X3_meetAll_7 {O : Nat → Prop} {z0 : vt_S} : ∀ (n : Nat) {x0 : Nat} {x1 : Nat} {x2 : Int32} {h : vt_S}, O x0 → O x1 → vw [406] [400, 401, 402, 403, 404, 405] [] O z0 h → vfr (vw [406] [400, 401, 402, 403, 404, 405] [] O) z0 (ab_X3_meetAll_7 n x0 x1 x2 h) := by
  intro n
  induction n with
  | zero => intro x0 x1 x2 h ox0 ox1 hs; exact vr_no
  | succ n ih => intro x0 x1 x2 h ox0 ox1 hs; exact vk_X3_meetAll_7b (fun ox0 ox1 hs => ih ox0 ox1 hs) ox0 ox1 hs
theorem vk_X3_meetAll_0 {O : Nat → Prop} {z0 : vt_S} {x0 : Nat} {x1 : Nat} {h : vt_S} (ox0 : O x0) (ox1 : O x1) (hs : vw [406] [400, 401, 402, 403, 404, 405] [] O z0 h) : vfr (vw [406] [400, 401, 402, 403, 404, 405] [] O) z0 (ab_X3_meetAll x0 x1 h) := by
  unfold ab_X3_meetAll
  refine vr_I hs (by decide) ox0 (fun h hs => ?_)
  exact vk_X3_meetAll_7 sv_fuel ox0 ox1 hs
theorem vk_X3_meetAll {O : Nat → Prop} {x0 : Nat} {x1 : Nat} {h : vt_S} {r : Unit} {s : vt_S} (c : vcl O h) (ox0 : O x0) (ox1 : O x1) (e : ab_X3_meetAll x0 x1 h = some (r, s)) : vw [406] [400, 401, 402, 403, 404, 405] [] O h s := vk_X3_meetAll_0 ox0 ox1 ⟨vk.refl h, c⟩ r s e

theorem ve_X9_rowOf_0 {z0 : vt_S} {x0 : Nat} {x1 : Int32} {x2 : Int32} {h : vt_S} (hs : veq z0 h) : vfr veq z0 (ab_X9_rowOf x0 x1 x2 h) := by
  unfold ab_X9_rowOf
  refine vr_let (fun _ => ?_)
  refine vr_let (fun _ => ?_)
  refine vr_bd (fun _ => ?_)
  refine vr_let (fun _ => ?_)
  refine vr_bd (fun _ => ?_)
  refine vr_cl (fun _ _ e => ((ve_J9_floorDiv_f86c9 e).trans hs)) (fun _ h hs => ?_)
  exact vr_rt hs
theorem ve_X9_rowOf {x0 : Nat} {x1 : Int32} {x2 : Int32} {h : vt_S} {r : Int64} {s : vt_S} (e : ab_X9_rowOf x0 x1 x2 h = some (r, s)) : s = h := ve_X9_rowOf_0 rfl r s e

theorem ve_X9_between_0 {z0 : vt_S} {x0 : Int64} {x2 : Int32} {x3 : Int32} {h : vt_S} (hs : veq z0 h) : vfr veq z0 (ab_X9_between x0 x2 x3 h) := by
  unfold ab_X9_between
  refine vr_let (fun _ => ?_)
  refine vr_let (fun _ => ?_)
  exact vr_rt hs
theorem ve_X9_between {x0 : Int64} {x2 : Int32} {x3 : Int32} {h : vt_S} {r : Int32} {s : vt_S} (e : ab_X9_between x0 x2 x3 h = some (r, s)) : s = h := ve_X9_between_0 rfl r s e

theorem ve_X2_texel_0 {z0 : vt_S} {x0 : Nat} {x1 : Int32} {x2 : Int64} {x4 : Int64} {h : vt_S} (hs : veq z0 h) : vfr veq z0 (ab_X2_texel x0 x1 x2 x4 h) := by
  unfold ab_X2_texel
  refine vr_if ?_ ?_
  · exact vr_rt hs
  · refine vr_bd (fun _ => ?_)
    refine vr_bd (fun _ => ?_)
    refine vr_let (fun _ => ?_)
    refine vr_bd (fun _ => ?_)
    refine vr_bd (fun _ => ?_)
    refine vr_bd (fun _ => ?_)
    exact vr_rt hs
theorem ve_X2_texel {x0 : Nat} {x1 : Int32} {x2 : Int64} {x4 : Int64} {h : vt_S} {r : Int32} {s : vt_S} (e : ab_X2_texel x0 x1 x2 x4 h = some (r, s)) : s = h := ve_X2_texel_0 rfl r s e

theorem vk_X9_paintPlane_46 {O : Nat → Prop} {z0 : vt_S} {k3 : Nat → Nat → Int32 → Int32 → Int32 → Int32 → Int32 → vt_S → Option (Unit × vt_S)} (hk3 : ∀ {x0 : Nat} {x1 : Nat} {x3 : Int32} {x4 : Int32} {x5 : Int32} {x6 : Int32} {x7 : Int32} {h : vt_S}, O x0 → O x1 → vw [] [1002] [] O z0 h → vfr (vw [] [1002] [] O) z0 (k3 x0 x1 x3 x4 x5 x6 x7 h)) {x0 : Nat} {x1 : Nat} {x3 : Int32} {x4 : Int32} {x5 : Int32} {x6 : Int32} {x7 : Int32} {x8 : Int64} {x10 : Int64} {h : vt_S} (ox0 : O x0) (ox1 : O x1) (hs : vw [] [1002] [] O z0 h) : vfr (vw [] [1002] [] O) z0 (ab_X9_paintPlane_46 k3 x0 x1 x3 x4 x5 x6 x7 x8 x10 h) := by
  unfold ab_X9_paintPlane_46
  refine vr_gP hs ox0 (fun v1 ov1 => ?_)
  refine vr_let (fun _ => ?_)
  refine vr_gP hs ox0 (fun v3 ov3 => ?_)
  refine vr_let (fun _ => ?_)
  refine vr_cl (fun _ _ e => (by rw [ve_J9_floorDiv_f86c9 e]; exact hs)) (fun _ h hs => ?_)
  refine vr_gP hs ox0 (fun v7 ov7 => ?_)
  refine vr_let (fun _ => ?_)
  refine vr_gP hs ox0 (fun v9 ov9 => ?_)
  refine vr_let (fun _ => ?_)
  refine vr_cl (fun _ _ e => (by rw [ve_J9_floorDiv_f86c9 e]; exact hs)) (fun _ h hs => ?_)
  refine vr_cl (fun _ _ e => (by rw [ve_J9_floorDiv_f86c9 e]; exact hs)) (fun _ h hs => ?_)
  refine vr_let (fun _ => ?_)
  refine vr_cl (fun _ _ e => (by rw [ve_X2_texel e]; exact hs)) (fun _ h hs => ?_)
  refine vr_sI hs (by decide) ox0 (fun h hs => ?_)
  exact hk3 ox0 ox1 hs
theorem vk_X9_paintPlane_3b {O : Nat → Prop} {z0 : vt_S} {k3 : Nat → Nat → Int32 → Int32 → Int32 → Int32 → Int32 → vt_S → Option (Unit × vt_S)} (hk3 : ∀ {x0 : Nat} {x1 : Nat} {x3 : Int32} {x4 : Int32} {x5 : Int32} {x6 : Int32} {x7 : Int32} {h : vt_S}, O x0 → O x1 → vw [] [1002] [] O z0 h → vfr (vw [] [1002] [] O) z0 (k3 x0 x1 x3 x4 x5 x6 x7 h)) {x0 : Nat} {x1 : Nat} {x3 : Int32} {x4 : Int32} {x5 : Int32} {x6 : Int32} {x7 : Int32} {h : vt_S} (ox0 : O x0) (ox1 : O x1) (hs : vw [] [1002] [] O z0 h) : vfr (vw [] [1002] [] O) z0 (ab_X9_paintPlane_3b k3 x0 x1 x3 x4 x5 x6 x7 h) := by
  unfold ab_X9_paintPlane_3b
  refine vr_if ?_ ?_
  · exact vr_rt hs
  · refine vr_let (fun _ => ?_)
    refine vr_if ?_ ?_
    · exact vk_X9_paintPlane_46 hk3 ox0 ox1 hs
    · exact vk_X9_paintPlane_46 hk3 ox0 ox1 hs
theorem vk_X9_paintPlane_3 {O : Nat → Prop} {z0 : vt_S} : ∀ (n : Nat) {x0 : Nat} {x1 : Nat} {x3 : Int32} {x4 : Int32} {x5 : Int32} {x6 : Int32} {x7 : Int32} {h : vt_S}, O x0 → O x1 → vw [] [1002] [] O z0 h → vfr (vw [] [1002] [] O) z0 (ab_X9_paintPlane_3 n x0 x1 x3 x4 x5 x6 x7 h) := by
  intro n
  induction n with
  | zero => intro x0 x1 x3 x4 x5 x6 x7 h ox0 ox1 hs; exact vr_no
  | succ n ih => intro x0 x1 x3 x4 x5 x6 x7 h ox0 ox1 hs; exact vk_X9_paintPlane_3b (fun ox0 ox1 hs => ih ox0 ox1 hs) ox0 ox1 hs
theorem vk_X9_paintPlane_0 {O : Nat → Prop} {z0 : vt_S} {x0 : Nat} {x1 : Nat} {x2 : Int32} {x3 : Int32} {x4 : Int32} {x5 : Int32} {x6 : Int32} {h : vt_S} (ox0 : O x0) (ox1 : O x1) (hs : vw [] [1002] [] O z0 h) : vfr (vw [] [1002] [] O) z0 (ab_X9_paintPlane x0 x1 x2 x3 x4 x5 x6 h) := by
  unfold ab_X9_paintPlane
  exact vk_X9_paintPlane_3 sv_fuel ox0 ox1 hs
theorem vk_X9_paintPlane {O : Nat → Prop} {x0 : Nat} {x1 : Nat} {x2 : Int32} {x3 : Int32} {x4 : Int32} {x5 : Int32} {x6 : Int32} {h : vt_S} {r : Unit} {s : vt_S} (c : vcl O h) (ox0 : O x0) (ox1 : O x1) (e : ab_X9_paintPlane x0 x1 x2 x3 x4 x5 x6 h = some (r, s)) : vw [] [1002] [] O h s := vk_X9_paintPlane_0 ox0 ox1 ⟨vk.refl h, c⟩ r s e

theorem vk_X9_markRows_3b {O : Nat → Prop} {z0 : vt_S} {k3 : Nat → Int32 → Int32 → Int32 → vt_S → Option (Unit × vt_S)} (hk3 : ∀ {x0 : Nat} {x2 : Int32} {x3 : Int32} {x4 : Int32} {h : vt_S}, O x0 → vw [] [1001] [] O z0 h → vfr (vw [] [1001] [] O) z0 (k3 x0 x2 x3 x4 h)) {x0 : Nat} {x2 : Int32} {x3 : Int32} {x4 : Int32} {h : vt_S} (ox0 : O x0) (hs : vw [] [1001] [] O z0 h) : vfr (vw [] [1001] [] O) z0 (ab_X9_markRows_3b k3 x0 x2 x3 x4 h) := by
  unfold ab_X9_markRows_3b
  refine vr_if ?_ ?_
  · exact vr_rt hs
  · refine vr_sI hs (by decide) ox0 (fun h hs => ?_)
    exact hk3 ox0 hs
theorem vk_X9_markRows_3 {O : Nat → Prop} {z0 : vt_S} : ∀ (n : Nat) {x0 : Nat} {x2 : Int32} {x3 : Int32} {x4 : Int32} {h : vt_S}, O x0 → vw [] [1001] [] O z0 h → vfr (vw [] [1001] [] O) z0 (ab_X9_markRows_3 n x0 x2 x3 x4 h) := by
  intro n
  induction n with
  | zero => intro x0 x2 x3 x4 h ox0 hs; exact vr_no
  | succ n ih => intro x0 x2 x3 x4 h ox0 hs; exact vk_X9_markRows_3b (fun ox0 hs => ih ox0 hs) ox0 hs
theorem vk_X9_markRows_0 {O : Nat → Prop} {z0 : vt_S} {x0 : Nat} {x1 : Int32} {x2 : Int32} {x3 : Int32} {h : vt_S} (ox0 : O x0) (hs : vw [] [1001] [] O z0 h) : vfr (vw [] [1001] [] O) z0 (ab_X9_markRows x0 x1 x2 x3 h) := by
  unfold ab_X9_markRows
  exact vk_X9_markRows_3 sv_fuel ox0 hs
theorem vk_X9_markRows {O : Nat → Prop} {x0 : Nat} {x1 : Int32} {x2 : Int32} {x3 : Int32} {h : vt_S} {r : Unit} {s : vt_S} (c : vcl O h) (ox0 : O x0) (e : ab_X9_markRows x0 x1 x2 x3 h = some (r, s)) : vw [] [1001] [] O h s := vk_X9_markRows_0 ox0 ⟨vk.refl h, c⟩ r s e

theorem vk_X9_paintCeiling_60b {O : Nat → Prop} {z0 : vt_S} {k60 : Nat → Int32 → Int32 → Int32 → vt_S → Option (Unit × vt_S)} (hk60 : ∀ {x0 : Nat} {x2 : Int32} {x3 : Int32} {x6 : Int32} {h : vt_S}, O x0 → vw [] [1001, 1002] [] O z0 h → vfr (vw [] [1001, 1002] [] O) z0 (k60 x0 x2 x3 x6 h)) {x0 : Nat} {x2 : Int32} {x3 : Int32} {x6 : Int32} {h : vt_S} (ox0 : O x0) (hs : vw [] [1001, 1002] [] O z0 h) : vfr (vw [] [1001, 1002] [] O) z0 (ab_X9_paintCeiling_60b k60 x0 x2 x3 x6 h) := by
  unfold ab_X9_paintCeiling_60b
  refine vr_if ?_ ?_
  · refine vr_let (fun _ => ?_)
    refine vr_cl (fun _ _ e => (let q := vk_X9_markRows hs.2 ox0 e; ⟨hs.1.trans (q.1.weak (by decide) (by decide) (by decide)), q.2⟩)) (fun _ h hs => ?_)
    exact vr_rt hs
  · refine vr_sI hs (by decide) ox0 (fun h hs => ?_)
    exact hk60 ox0 hs
theorem vk_X9_paintCeiling_60 {O : Nat → Prop} {z0 : vt_S} : ∀ (n : Nat) {x0 : Nat} {x2 : Int32} {x3 : Int32} {x6 : Int32} {h : vt_S}, O x0 → vw [] [1001, 1002] [] O z0 h → vfr (vw [] [1001, 1002] [] O) z0 (ab_X9_paintCeiling_60 n x0 x2 x3 x6 h) := by
  intro n
  induction n with
  | zero => intro x0 x2 x3 x6 h ox0 hs; exact vr_no
  | succ n ih => intro x0 x2 x3 x6 h ox0 hs; exact vk_X9_paintCeiling_60b (fun ox0 hs => ih ox0 hs) ox0 hs
theorem vk_X9_paintCeiling_0 {O : Nat → Prop} {z0 : vt_S} {x0 : Nat} {x1 : Nat} {x2 : Int32} {x3 : Int32} {x4 : Int32} {h : vt_S} (ox0 : O x0) (ox1 : O x1) (hs : vw [] [1001, 1002] [] O z0 h) : vfr (vw [] [1001, 1002] [] O) z0 (ab_X9_paintCeiling x0 x1 x2 x3 x4 h) := by
  unfold ab_X9_paintCeiling
  refine vr_lP hs ox1 (fun v2 ov2 => ?_)
  refine vr_let (fun _ => ?_)
  refine vr_if ?_ ?_
  · refine vr_let (fun _ => ?_)
    exact vk_X9_paintCeiling_60 sv_fuel ox0 hs
  · refine vr_let (fun _ => ?_)
    refine vr_let (fun _ => ?_)
    refine vr_let (fun _ => ?_)
    refine vr_cl (fun _ _ e => (let q := vk_X9_paintPlane hs.2 ox0 ox1 e; ⟨hs.1.trans (q.1.weak (by decide) (by decide) (by decide)), q.2⟩)) (fun _ h hs => ?_)
    refine vr_let (fun _ => ?_)
    refine vr_cl (fun _ _ e => (let q := vk_X9_markRows hs.2 ox0 e; ⟨hs.1.trans (q.1.weak (by decide) (by decide) (by decide)), q.2⟩)) (fun _ h hs => ?_)
    exact vr_rt hs
theorem vk_X9_paintCeiling {O : Nat → Prop} {x0 : Nat} {x1 : Nat} {x2 : Int32} {x3 : Int32} {x4 : Int32} {h : vt_S} {r : Unit} {s : vt_S} (c : vcl O h) (ox0 : O x0) (ox1 : O x1) (e : ab_X9_paintCeiling x0 x1 x2 x3 x4 h = some (r, s)) : vw [] [1001, 1002] [] O h s := vk_X9_paintCeiling_0 ox0 ox1 ⟨vk.refl h, c⟩ r s e

theorem ve_X11_length_0 {z0 : vt_S} {x0 : Nat} {h : vt_S} (hs : veq z0 h) : vfr veq z0 (ab_X11_length x0 h) := by
  unfold ab_X11_length
  refine vr_let (fun _ => ?_)
  refine vr_let (fun _ => ?_)
  refine vr_let (fun _ => ?_)
  refine vr_let (fun _ => ?_)
  refine vr_let (fun _ => ?_)
  refine vr_let (fun _ => ?_)
  refine vr_let (fun _ => ?_)
  exact vr_rt hs
theorem ve_X11_length {x0 : Nat} {h : vt_S} {r : Int32} {s : vt_S} (e : ab_X11_length x0 h = some (r, s)) : s = h := ve_X11_length_0 rfl r s e

theorem ve_X9_acrossAt_33 {z0 : vt_S} {x0 : Nat} {x1 : Nat} {x2 : Int32} {s0 : Int64} {h : vt_S} (hs : veq z0 h) : vfr veq z0 (ab_X9_acrossAt_33 x0 x1 x2 s0 h) := by
  unfold ab_X9_acrossAt_33
  refine vr_cl (fun _ _ e => ((ve_X11_length e).trans hs)) (fun _ h hs => ?_)
  refine vr_let (fun _ => ?_)
  refine vr_let (fun _ => ?_)
  refine vr_bd (fun _ => ?_)
  refine vr_if vr_no ?_
  exact vr_rt hs
theorem ve_X9_acrossAt_0 {z0 : vt_S} {x0 : Nat} {x1 : Nat} {x2 : Int32} {h : vt_S} (hs : veq z0 h) : vfr veq z0 (ab_X9_acrossAt x0 x1 x2 h) := by
  unfold ab_X9_acrossAt
  refine vr_let (fun _ => ?_)
  refine vr_bd (fun _ => ?_)
  refine vr_if ?_ ?_
  · refine vr_let (fun _ => ?_)
    refine vr_bd (fun _ => ?_)
    exact ve_X9_acrossAt_33 hs
  · refine vr_let (fun _ => ?_)
    refine vr_bd (fun _ => ?_)
    exact ve_X9_acrossAt_33 hs
theorem ve_X9_acrossAt {x0 : Nat} {x1 : Nat} {x2 : Int32} {h : vt_S} {r : Int64} {s : vt_S} (e : ab_X9_acrossAt x0 x1 x2 h = some (r, s)) : s = h := ve_X9_acrossAt_0 rfl r s e

theorem ve_X2_heightOf_15 {z0 : vt_S} {s0 : Int32} {h : vt_S} (hs : veq z0 h) : vfr veq z0 (ab_X2_heightOf_15 s0 h) := by
  unfold ab_X2_heightOf_15
  exact vr_rt hs
theorem ve_X2_heightOf_0 {z0 : vt_S} {x0 : Nat} {x1 : Int32} {h : vt_S} (hs : veq z0 h) : vfr veq z0 (ab_X2_heightOf x0 x1 h) := by
  unfold ab_X2_heightOf
  refine vr_if ?_ ?_
  · exact ve_X2_heightOf_15 hs
  · refine vr_bd (fun _ => ?_)
    exact ve_X2_heightOf_15 hs
theorem ve_X2_heightOf {x0 : Nat} {x1 : Int32} {h : vt_S} {r : Int32} {s : vt_S} (e : ab_X2_heightOf x0 x1 h = some (r, s)) : s = h := ve_X2_heightOf_0 rfl r s e

theorem ve_X9_anchorOf_142 {z0 : vt_S} {s0 : Int32} {h : vt_S} (hs : veq z0 h) : vfr veq z0 (ab_X9_anchorOf_142 s0 h) := by
  unfold ab_X9_anchorOf_142
  exact vr_rt hs
theorem ve_X9_anchorOf_123 {z0 : vt_S} {s0 : Int32} {h : vt_S} (hs : veq z0 h) : vfr veq z0 (ab_X9_anchorOf_123 s0 h) := by
  unfold ab_X9_anchorOf_123
  exact vr_rt hs
theorem ve_X9_anchorOf_87 {z0 : vt_S} {x2 : Nat} {x3 : Int32} {x5 : Int32} {x6 : Nat} {x7 : Int32} {s0 : Nat} {s1 : Nat} {s2 : Int32} {h : vt_S} (hs : veq z0 h) : vfr veq z0 (ab_X9_anchorOf_87 x2 x3 x5 x6 x7 s0 s1 s2 h) := by
  unfold ab_X9_anchorOf_87
  refine vr_cl (fun _ _ e => ((ve_X11_sectorOn e).trans hs)) (fun _ h hs => ?_)
  refine vr_bd (fun _ => ?_)
  refine vr_if ?_ ?_
  · refine vr_let (fun _ => ?_)
    refine vr_if ?_ ?_
    · refine vr_let (fun _ => ?_)
      exact ve_X9_anchorOf_123 hs
    · refine vr_let (fun _ => ?_)
      exact ve_X9_anchorOf_123 hs
  · refine vr_if ?_ ?_
    · refine vr_let (fun _ => ?_)
      exact ve_X9_anchorOf_142 hs
    · refine vr_let (fun _ => ?_)
      exact ve_X9_anchorOf_142 hs
theorem ve_X9_anchorOf_63 {z0 : vt_S} {s0 : Int32} {h : vt_S} (hs : veq z0 h) : vfr veq z0 (ab_X9_anchorOf_63 s0 h) := by
  unfold ab_X9_anchorOf_63
  exact vr_rt hs
theorem ve_X9_anchorOf_35 {z0 : vt_S} {x0 : Nat} {x1 : Nat} {x2 : Nat} {x3 : Int32} {x4 : Int32} {x5 : Int32} {x6 : Nat} {s0 : Int32} {h : vt_S} (hs : veq z0 h) : vfr veq z0 (ab_X9_anchorOf_35 x0 x1 x2 x3 x4 x5 x6 s0 h) := by
  unfold ab_X9_anchorOf_35
  refine vr_if ?_ ?_
  · refine vr_if ?_ ?_
    · refine vr_let (fun _ => ?_)
      exact ve_X9_anchorOf_63 hs
    · refine vr_let (fun _ => ?_)
      exact ve_X9_anchorOf_63 hs
  · refine vr_let (fun _ => ?_)
    refine vr_bd (fun _ => ?_)
    refine vr_if ?_ ?_
    · exact ve_X9_anchorOf_87 hs
    · exact ve_X9_anchorOf_87 hs
theorem ve_X9_anchorOf_0 {z0 : vt_S} {x0 : Nat} {x1 : Nat} {x2 : Nat} {x3 : Int32} {x4 : Int32} {x5 : Int32} {h : vt_S} (hs : veq z0 h) : vfr veq z0 (ab_X9_anchorOf x0 x1 x2 x3 x4 x5 h) := by
  unfold ab_X9_anchorOf
  refine vr_let (fun _ => ?_)
  refine vr_bd (fun _ => ?_)
  refine vr_cl (fun _ _ e => ((ve_X11_sectorOn e).trans hs)) (fun _ h hs => ?_)
  refine vr_bd (fun _ => ?_)
  refine vr_let (fun _ => ?_)
  refine vr_if ?_ ?_
  · exact ve_X9_anchorOf_35 hs
  · exact ve_X9_anchorOf_35 hs
theorem ve_X9_anchorOf {x0 : Nat} {x1 : Nat} {x2 : Nat} {x3 : Int32} {x4 : Int32} {x5 : Int32} {h : vt_S} {r : Int32} {s : vt_S} (e : ab_X9_anchorOf x0 x1 x2 x3 x4 x5 h = some (r, s)) : s = h := ve_X9_anchorOf_0 rfl r s e

theorem vk_X9_paintWall_159b {O : Nat → Prop} {z0 : vt_S} {k159 : Nat → Nat → Int32 → Int32 → Int32 → Int32 → Int32 → Int64 → Int64 → Int64 → Int32 → vt_S → Option (Unit × vt_S)} (hk159 : ∀ {x0 : Nat} {x1 : Nat} {x2 : Int32} {x3 : Int32} {x4 : Int32} {x5 : Int32} {x9 : Int32} {x10 : Int64} {x12 : Int64} {x14 : Int64} {x16 : Int32} {h : vt_S}, O x0 → O x1 → vw [] [1001, 1002] [] O z0 h → vfr (vw [] [1001, 1002] [] O) z0 (k159 x0 x1 x2 x3 x4 x5 x9 x10 x12 x14 x16 h)) {x0 : Nat} {x1 : Nat} {x2 : Int32} {x3 : Int32} {x4 : Int32} {x5 : Int32} {x9 : Int32} {x10 : Int64} {x12 : Int64} {x14 : Int64} {x16 : Int32} {h : vt_S} (ox0 : O x0) (ox1 : O x1) (hs : vw [] [1001, 1002] [] O z0 h) : vfr (vw [] [1001, 1002] [] O) z0 (ab_X9_paintWall_159b k159 x0 x1 x2 x3 x4 x5 x9 x10 x12 x14 x16 h) := by
  unfold ab_X9_paintWall_159b
  refine vr_if ?_ ?_
  · refine vr_gP hs ox0 (fun v1 ov1 => ?_)
    refine vr_bd (fun _ => ?_)
    refine vr_cl (fun _ _ e => (let q := vk_X9_markRows hs.2 ox0 e; ⟨hs.1.trans (q.1.weak (by decide) (by decide) (by decide)), q.2⟩)) (fun _ h hs => ?_)
    exact vr_rt hs
  · refine vr_let (fun _ => ?_)
    refine vr_gP hs ox0 (fun v6 ov6 => ?_)
    refine vr_bd (fun _ => ?_)
    refine vr_gP hs ox0 (fun v9 ov9 => ?_)
    refine vr_bd (fun _ => ?_)
    refine vr_cl (fun _ _ e => (by rw [ve_J9_floorDiv_f86c9 e]; exact hs)) (fun _ h hs => ?_)
    refine vr_cl (fun _ _ e => (by rw [ve_X2_texel e]; exact hs)) (fun _ h hs => ?_)
    refine vr_sI hs (by decide) ox0 (fun h hs => ?_)
    exact hk159 ox0 ox1 hs
theorem vk_X9_paintWall_159 {O : Nat → Prop} {z0 : vt_S} : ∀ (n : Nat) {x0 : Nat} {x1 : Nat} {x2 : Int32} {x3 : Int32} {x4 : Int32} {x5 : Int32} {x9 : Int32} {x10 : Int64} {x12 : Int64} {x14 : Int64} {x16 : Int32} {h : vt_S}, O x0 → O x1 → vw [] [1001, 1002] [] O z0 h → vfr (vw [] [1001, 1002] [] O) z0 (ab_X9_paintWall_159 n x0 x1 x2 x3 x4 x5 x9 x10 x12 x14 x16 h) := by
  intro n
  induction n with
  | zero => intro x0 x1 x2 x3 x4 x5 x9 x10 x12 x14 x16 h ox0 ox1 hs; exact vr_no
  | succ n ih => intro x0 x1 x2 x3 x4 x5 x9 x10 x12 x14 x16 h ox0 ox1 hs; exact vk_X9_paintWall_159b (fun ox0 ox1 hs => ih ox0 ox1 hs) ox0 ox1 hs
theorem vk_X9_paintWall_73 {O : Nat → Prop} {z0 : vt_S} {x0 : Nat} {x1 : Nat} {x2 : Int32} {x3 : Int32} {x4 : Int32} {x5 : Int32} {x6 : Int32} {x7 : Nat} {s0 : Nat} {s1 : Int32} {h : vt_S} (ox0 : O x0) (ox1 : O x1) (ox7 : O x7) (os0 : O s0) (hs : vw [] [1001, 1002] [] O z0 h) : vfr (vw [] [1001, 1002] [] O) z0 (ab_X9_paintWall_73 x0 x1 x2 x3 x4 x5 x6 x7 s0 s1 h) := by
  unfold ab_X9_paintWall_73
  refine vr_bd (fun _ => ?_)
  refine vr_cl (fun _ _ e => (by rw [ve_X9_acrossAt e]; exact hs)) (fun _ h hs => ?_)
  refine vr_let (fun _ => ?_)
  refine vr_cl (fun _ _ e => (by rw [ve_X2_heightOf e]; exact hs)) (fun _ h hs => ?_)
  refine vr_cl (fun _ _ e => (by rw [ve_X9_anchorOf e]; exact hs)) (fun _ h hs => ?_)
  refine vr_let (fun _ => ?_)
  refine vr_gP hs ox0 (fun v10 ov10 => ?_)
  refine vr_bd (fun _ => ?_)
  refine vr_gP hs ox0 (fun v13 ov13 => ?_)
  refine vr_bd (fun _ => ?_)
  refine vr_if vr_no ?_
  refine vr_let (fun _ => ?_)
  exact vk_X9_paintWall_159 sv_fuel ox0 ox1 hs
theorem vk_X9_paintWall_44 {O : Nat → Prop} {z0 : vt_S} {x0 : Nat} {x1 : Nat} {x2 : Int32} {x3 : Int32} {x4 : Int32} {x5 : Int32} {x6 : Int32} {x7 : Nat} {s0 : Int32} {h : vt_S} (ox0 : O x0) (ox1 : O x1) (ox7 : O x7) (hs : vw [] [1001, 1002] [] O z0 h) : vfr (vw [] [1001, 1002] [] O) z0 (ab_X9_paintWall_44 x0 x1 x2 x3 x4 x5 x6 x7 s0 h) := by
  unfold ab_X9_paintWall_44
  refine vr_gP hs ox0 (fun v2 ov2 => ?_)
  refine vr_bd (fun _ => ?_)
  refine vr_if ?_ ?_
  · exact vk_X9_paintWall_73 ox0 ox1 ox7 ox7 hs
  · exact vk_X9_paintWall_73 ox0 ox1 ox7 ox7 hs
theorem vk_X9_paintWall_0 {O : Nat → Prop} {z0 : vt_S} {x0 : Nat} {x1 : Nat} {x2 : Int32} {x3 : Int32} {x4 : Int32} {x5 : Int32} {x6 : Int32} {h : vt_S} (ox0 : O x0) (ox1 : O x1) (hs : vw [] [1001, 1002] [] O z0 h) : vfr (vw [] [1001, 1002] [] O) z0 (ab_X9_paintWall x0 x1 x2 x3 x4 x5 x6 h) := by
  unfold ab_X9_paintWall
  refine vr_if ?_ ?_
  · refine vr_gP hs ox0 (fun v2 ov2 => ?_)
    refine vr_bd (fun _ => ?_)
    refine vr_lP hs ox1 (fun v5 ov5 => ?_)
    refine vr_if ?_ ?_
    · exact vk_X9_paintWall_44 ox0 ox1 ov5 hs
    · refine vr_if ?_ ?_
      · exact vk_X9_paintWall_44 ox0 ox1 ov5 hs
      · exact vk_X9_paintWall_44 ox0 ox1 ov5 hs
  · exact vr_rt hs
theorem vk_X9_paintWall {O : Nat → Prop} {x0 : Nat} {x1 : Nat} {x2 : Int32} {x3 : Int32} {x4 : Int32} {x5 : Int32} {x6 : Int32} {h : vt_S} {r : Unit} {s : vt_S} (c : vcl O h) (ox0 : O x0) (ox1 : O x1) (e : ab_X9_paintWall x0 x1 x2 x3 x4 x5 x6 h = some (r, s)) : vw [] [1001, 1002] [] O h s := vk_X9_paintWall_0 ox0 ox1 ⟨vk.refl h, c⟩ r s e

theorem vk_X9_paintUpTo_258 {O : Nat → Prop} {z0 : vt_S} {x0 : Nat} {x1 : Nat} {x2 : Int32} {x4 : Int32} {x7 : Int32} {x10 : Int32} {s0 : Int32} {h : vt_S} (ox0 : O x0) (ox1 : O x1) (hs : vw [1006, 1007] [1001, 1002] [] O z0 h) : vfr (vw [1006, 1007] [1001, 1002] [] O) z0 (ab_X9_paintUpTo_258 x0 x1 x2 x4 x7 x10 s0 h) := by
  unfold ab_X9_paintUpTo_258
  refine vr_cl (fun _ _ e => (let q := vk_X9_paintWall hs.2 ox0 ox1 e; ⟨hs.1.trans (q.1.weak (by decide) (by decide) (by decide)), q.2⟩)) (fun _ h hs => ?_)
  refine vr_I hs (by decide) ox0 (fun h hs => ?_)
  refine vr_I hs (by decide) ox0 (fun h hs => ?_)
  exact vr_rt hs
theorem vk_X9_paintUpTo_208 {O : Nat → Prop} {z0 : vt_S} {x0 : Nat} {x1 : Nat} {x2 : Int32} {x4 : Int32} {x5 : Nat} {x6 : Int32} {x7 : Int32} {x9 : Nat} {s0 : Int32} {h : vt_S} (ox0 : O x0) (ox1 : O x1) (ox5 : O x5) (ox9 : O x9) (hs : vw [1006, 1007] [1001, 1002] [] O z0 h) : vfr (vw [1006, 1007] [1001, 1002] [] O) z0 (ab_X9_paintUpTo_208 x0 x1 x2 x4 x5 x6 x7 x9 s0 h) := by
  unfold ab_X9_paintUpTo_208
  refine vr_cl (fun _ _ e => (let q := vk_X9_paintWall hs.2 ox0 ox1 e; ⟨hs.1.trans (q.1.weak (by decide) (by decide) (by decide)), q.2⟩)) (fun _ h hs => ?_)
  refine vr_let (fun _ => ?_)
  refine vr_let (fun _ => ?_)
  refine vr_if ?_ ?_
  · exact vk_X9_paintUpTo_258 ox0 ox1 hs
  · refine vr_let (fun _ => ?_)
    refine vr_cl (fun _ _ e => (by rw [ve_X9_rowOf e]; exact hs)) (fun _ h hs => ?_)
    refine vr_cl (fun _ _ e => (by rw [ve_X9_between e]; exact hs)) (fun _ h hs => ?_)
    exact vk_X9_paintUpTo_258 ox0 ox1 hs
theorem vk_X9_paintUpTo_131 {O : Nat → Prop} {z0 : vt_S} {x0 : Nat} {x1 : Nat} {x2 : Int32} {x4 : Int32} {x5 : Nat} {x6 : Int32} {x7 : Int32} {s0 : Nat} {s1 : Int32} {h : vt_S} (ox0 : O x0) (ox1 : O x1) (ox5 : O x5) (os0 : O s0) (hs : vw [1006, 1007] [1001, 1002] [] O z0 h) : vfr (vw [1006, 1007] [1001, 1002] [] O) z0 (ab_X9_paintUpTo_131 x0 x1 x2 x4 x5 x6 x7 s0 s1 h) := by
  unfold ab_X9_paintUpTo_131
  refine vr_cl (fun _ _ e => (by rw [ve_X11_sectorOn e]; exact hs)) (fun _ h hs => ?_)
  refine vr_if ?_ ?_
  · refine vr_cl (fun _ _ e => (let q := vk_X9_paintWall hs.2 ox0 ox1 e; ⟨hs.1.trans (q.1.weak (by decide) (by decide) (by decide)), q.2⟩)) (fun _ h hs => ?_)
    refine vr_let (fun _ => ?_)
    refine vr_I hs (by decide) ox0 (fun h hs => ?_)
    exact vr_rt hs
  · refine vr_lP hs ox1 (fun v4 ov4 => ?_)
    refine vr_let (fun _ => ?_)
    refine vr_let (fun _ => ?_)
    refine vr_if ?_ ?_
    · exact vk_X9_paintUpTo_208 ox0 ox1 ox5 ov4 hs
    · refine vr_let (fun _ => ?_)
      refine vr_cl (fun _ _ e => (by rw [ve_X9_rowOf e]; exact hs)) (fun _ h hs => ?_)
      refine vr_cl (fun _ _ e => (by rw [ve_X9_between e]; exact hs)) (fun _ h hs => ?_)
      exact vk_X9_paintUpTo_208 ox0 ox1 ox5 ov4 hs
theorem vk_X9_paintUpTo_0 {O : Nat → Prop} {z0 : vt_S} {x0 : Nat} {x1 : Nat} {x2 : Int32} {x3 : Int32} {x4 : Int32} {h : vt_S} (ox0 : O x0) (ox1 : O x1) (hs : vw [1006, 1007] [1001, 1002] [] O z0 h) : vfr (vw [1006, 1007] [1001, 1002] [] O) z0 (ab_X9_paintUpTo x0 x1 x2 x3 x4 h) := by
  unfold ab_X9_paintUpTo
  refine vr_lP hs ox1 (fun v2 ov2 => ?_)
  refine vr_let (fun _ => ?_)
  refine vr_cl (fun _ _ e => (by rw [ve_X9_rowOf e]; exact hs)) (fun _ h hs => ?_)
  refine vr_let (fun _ => ?_)
  refine vr_let (fun _ => ?_)
  refine vr_cl (fun _ _ e => (by rw [ve_X9_between e]; exact hs)) (fun _ h hs => ?_)
  refine vr_let (fun _ => ?_)
  refine vr_cl (fun _ _ e => (by rw [ve_X9_rowOf e]; exact hs)) (fun _ h hs => ?_)
  refine vr_let (fun _ => ?_)
  refine vr_cl (fun _ _ e => (by rw [ve_X9_between e]; exact hs)) (fun _ h hs => ?_)
  refine vr_cl (fun _ _ e => (let q := vk_X9_paintCeiling hs.2 ox0 ox1 e; ⟨hs.1.trans (q.1.weak (by decide) (by decide) (by decide)), q.2⟩)) (fun _ h hs => ?_)
  refine vr_let (fun _ => ?_)
  refine vr_let (fun _ => ?_)
  refine vr_let (fun _ => ?_)
  refine vr_cl (fun _ _ e => (let q := vk_X9_paintPlane hs.2 ox0 ox1 e; ⟨hs.1.trans (q.1.weak (by decide) (by decide) (by decide)), q.2⟩)) (fun _ h hs => ?_)
  refine vr_let (fun _ => ?_)
  refine vr_cl (fun _ _ e => (let q := vk_X9_markRows hs.2 ox0 e; ⟨hs.1.trans (q.1.weak (by decide) (by decide) (by decide)), q.2⟩)) (fun _ h hs => ?_)
  refine vr_gP hs ox0 (fun v24 ov24 => ?_)
  refine vr_bd (fun _ => ?_)
  refine vr_lP hs ox1 (fun v27 ov27 => ?_)
  refine vr_gP hs ox0 (fun v28 ov28 => ?_)
  refine vr_bd (fun _ => ?_)
  refine vr_if ?_ ?_
  · exact vk_X9_paintUpTo_131 ox0 ox1 ov2 ov27 hs
  · exact vk_X9_paintUpTo_131 ox0 ox1 ov2 ov27 hs
theorem vk_X9_paintUpTo {O : Nat → Prop} {x0 : Nat} {x1 : Nat} {x2 : Int32} {x3 : Int32} {x4 : Int32} {h : vt_S} {r : Unit} {s : vt_S} (c : vcl O h) (ox0 : O x0) (ox1 : O x1) (e : ab_X9_paintUpTo x0 x1 x2 x3 x4 h = some (r, s)) : vw [1006, 1007] [1001, 1002] [] O h s := vk_X9_paintUpTo_0 ox0 ox1 ⟨vk.refl h, c⟩ r s e

theorem vk_X9_look_244 {O : Nat → Prop} {z0 : vt_S} {h : vt_S} (hs : vw [406, 407, 408, 409, 410, 1004, 1005, 1006, 1007] [400, 401, 402, 403, 404, 405, 1001, 1002, 1003] [] O z0 h) : vfr (vw [406, 407, 408, 409, 410, 1004, 1005, 1006, 1007] [400, 401, 402, 403, 404, 405, 1001, 1002, 1003] [] O) z0 (ab_X9_look_244 h) := by
  unfold ab_X9_look_244
  exact vr_rt hs
theorem vk_X9_look_238 {O : Nat → Prop} {z0 : vt_S} {k114 : Nat → Nat → Int32 → vt_S → Option (Unit × vt_S)} (hk114 : ∀ {x0 : Nat} {x1 : Nat} {x6 : Int32} {h : vt_S}, O x0 → O x1 → vw [406, 407, 408, 409, 410, 1004, 1005, 1006, 1007] [400, 401, 402, 403, 404, 405, 1001, 1002, 1003] [] O z0 h → vfr (vw [406, 407, 408, 409, 410, 1004, 1005, 1006, 1007] [400, 401, 402, 403, 404, 405, 1001, 1002, 1003] [] O) z0 (k114 x0 x1 x6 h)) {x0 : Nat} {x1 : Nat} {x6 : Int32} {h : vt_S} (ox0 : O x0) (ox1 : O x1) (hs : vw [406, 407, 408, 409, 410, 1004, 1005, 1006, 1007] [400, 401, 402, 403, 404, 405, 1001, 1002, 1003] [] O z0 h) : vfr (vw [406, 407, 408, 409, 410, 1004, 1005, 1006, 1007] [400, 401, 402, 403, 404, 405, 1001, 1002, 1003] [] O) z0 (ab_X9_look_238 k114 x0 x1 x6 h) := by
  unfold ab_X9_look_238
  exact hk114 ox0 ox1 hs
theorem vk_X9_look_114b {O : Nat → Prop} {z0 : vt_S} {k114 : Nat → Nat → Int32 → vt_S → Option (Unit × vt_S)} (hk114 : ∀ {x0 : Nat} {x1 : Nat} {x6 : Int32} {h : vt_S}, O x0 → O x1 → vw [406, 407, 408, 409, 410, 1004, 1005, 1006, 1007] [400, 401, 402, 403, 404, 405, 1001, 1002, 1003] [] O z0 h → vfr (vw [406, 407, 408, 409, 410, 1004, 1005, 1006, 1007] [400, 401, 402, 403, 404, 405, 1001, 1002, 1003] [] O) z0 (k114 x0 x1 x6 h)) {x0 : Nat} {x1 : Nat} {x6 : Int32} {h : vt_S} (ox0 : O x0) (ox1 : O x1) (hs : vw [406, 407, 408, 409, 410, 1004, 1005, 1006, 1007] [400, 401, 402, 403, 404, 405, 1001, 1002, 1003] [] O z0 h) : vfr (vw [406, 407, 408, 409, 410, 1004, 1005, 1006, 1007] [400, 401, 402, 403, 404, 405, 1001, 1002, 1003] [] O) z0 (ab_X9_look_114b k114 x0 x1 x6 h) := by
  unfold ab_X9_look_114b
  refine vr_gP hs ox0 (fun v1 ov1 => ?_)
  refine vr_let (fun _ => ?_)
  refine vr_if ?_ ?_
  · exact vk_X9_look_244 hs
  · refine vr_let (fun _ => ?_)
    refine vr_let (fun _ => ?_)
    refine vr_if ?_ ?_
    · exact vk_X9_look_244 hs
    · refine vr_gP hs ox1 (fun v5 ov5 => ?_)
      refine vr_gP hs ox0 (fun v7 ov7 => ?_)
      refine vr_bd (fun _ => ?_)
      refine vr_lP hs ov5 (fun v10 ov10 => ?_)
      refine vr_gP hs ox0 (fun v11 ov11 => ?_)
      refine vr_bd (fun _ => ?_)
      refine vr_cl (fun _ _ e => (by rw [ve_X11_sectorOn e]; exact hs)) (fun _ h hs => ?_)
      refine vr_if ?_ ?_
      · exact vk_X9_look_238 hk114 ox0 ox1 hs
      · refine vr_let (fun _ => ?_)
        refine vr_gP hs ox0 (fun v18 ov18 => ?_)
        refine vr_bd (fun _ => ?_)
        refine vr_sI hs (by decide) ox0 (fun h hs => ?_)
        refine vr_let (fun _ => ?_)
        refine vr_I hs (by decide) ox0 (fun h hs => ?_)
        refine vr_gP hs ox1 (fun v24 ov24 => ?_)
        refine vr_gP hs ox1 (fun v25 ov25 => ?_)
        refine vr_gP hs ox1 (fun v26 ov26 => ?_)
        refine vr_lP hs ov26 (fun v28 ov28 => ?_)
        refine vr_let (fun _ => ?_)
        refine vr_cl (fun _ _ e => (by rw [ve_X2_lightIn e]; exact hs)) (fun _ h hs => ?_)
        refine vr_cl (fun _ _ e => (let q := vk_X9_paintUpTo hs.2 ox0 ov24 e; ⟨hs.1.trans (q.1.weak (by decide) (by decide) (by decide)), q.2⟩)) (fun _ h hs => ?_)
        exact vk_X9_look_238 hk114 ox0 ox1 hs
theorem vk_X9_look_114 {O : Nat → Prop} {z0 : vt_S} : ∀ (n : Nat) {x0 : Nat} {x1 : Nat} {x6 : Int32} {h : vt_S}, O x0 → O x1 → vw [406, 407, 408, 409, 410, 1004, 1005, 1006, 1007] [400, 401, 402, 403, 404, 405, 1001, 1002, 1003] [] O z0 h → vfr (vw [406, 407, 408, 409, 410, 1004, 1005, 1006, 1007] [400, 401, 402, 403, 404, 405, 1001, 1002, 1003] [] O) z0 (ab_X9_look_114 n x0 x1 x6 h) := by
  intro n
  induction n with
  | zero => intro x0 x1 x6 h ox0 ox1 hs; exact vr_no
  | succ n ih => intro x0 x1 x6 h ox0 ox1 hs; exact vk_X9_look_114b (fun ox0 ox1 hs => ih ox0 ox1 hs) ox0 ox1 hs
theorem vk_X9_look_0 {O : Nat → Prop} {z0 : vt_S} {x0 : Nat} {x1 : Nat} {x2 : Int32} {h : vt_S} (ox0 : O x0) (ox1 : O x1) (hs : vw [406, 407, 408, 409, 410, 1004, 1005, 1006, 1007] [400, 401, 402, 403, 404, 405, 1001, 1002, 1003] [] O z0 h) : vfr (vw [406, 407, 408, 409, 410, 1004, 1005, 1006, 1007] [400, 401, 402, 403, 404, 405, 1001, 1002, 1003] [] O) z0 (ab_X9_look x0 x1 x2 h) := by
  unfold ab_X9_look
  refine vr_let (fun _ => ?_)
  refine vr_cl (fun _ _ e => (by rw [ve_X12_cosine e]; exact hs)) (fun _ h hs => ?_)
  refine vr_let (fun _ => ?_)
  refine vr_cl (fun _ _ e => (by rw [ve_X12_sine e]; exact hs)) (fun _ h hs => ?_)
  refine vr_gP hs ox0 (fun v7 ov7 => ?_)
  refine vr_let (fun _ => ?_)
  refine vr_let (fun _ => ?_)
  refine vr_cl (fun _ _ e => (let q := vk_X3_aim hs.2 ov7 e; ⟨hs.1.trans (q.1.weak (by decide) (by decide) (by decide)), q.2⟩)) (fun _ h hs => ?_)
  refine vr_gP hs ox0 (fun v11 ov11 => ?_)
  refine vr_gP hs ox1 (fun v12 ov12 => ?_)
  refine vr_cl (fun _ _ e => (let q := vk_X3_meetAll hs.2 ov11 ov12 e; ⟨hs.1.trans (q.1.weak (by decide) (by decide) (by decide)), q.2⟩)) (fun _ h hs => ?_)
  refine vr_fl hs (by decide) ox0 (fun h hs => ?_)
  refine vr_fl hs (by decide) ox0 (fun h hs => ?_)
  refine vr_cl (fun _ _ e => (by rw [ve_X10_eye e]; exact hs)) (fun _ h hs => ?_)
  refine vr_I hs (by decide) ox0 (fun h hs => ?_)
  refine vr_I hs (by decide) ox0 (fun h hs => ?_)
  refine vr_I hs (by decide) ox0 (fun h hs => ?_)
  refine vr_I hs (by decide) ox0 (fun h hs => ?_)
  exact vk_X9_look_114 sv_fuel ox0 ox1 hs
theorem vk_X9_look {O : Nat → Prop} {x0 : Nat} {x1 : Nat} {x2 : Int32} {h : vt_S} {r : Unit} {s : vt_S} (c : vcl O h) (ox0 : O x0) (ox1 : O x1) (e : ab_X9_look x0 x1 x2 h = some (r, s)) : vw [406, 407, 408, 409, 410, 1004, 1005, 1006, 1007] [400, 401, 402, 403, 404, 405, 1001, 1002, 1003] [] O h s := vk_X9_look_0 ox0 ox1 ⟨vk.refl h, c⟩ r s e

theorem vk_X12_pixelAt_18 {O : Nat → Prop} {z0 : vt_S} {h : vt_S} (hs : vw [406, 407, 408, 409, 410, 1004, 1005, 1006, 1007] [400, 401, 402, 403, 404, 405, 1001, 1002, 1003] [] O z0 h) : vfr (vw [406, 407, 408, 409, 410, 1004, 1005, 1006, 1007] [400, 401, 402, 403, 404, 405, 1001, 1002, 1003] [] O) z0 (ab_X12_pixelAt_18 h) := by
  unfold ab_X12_pixelAt_18
  exact vr_rt hs
theorem vk_X12_pixelAt_0 {O : Nat → Prop} {z0 : vt_S} {x0 : Nat} {x1 : Int32} {x2 : Int32} {h : vt_S} (ox0 : O x0) (hs : vw [406, 407, 408, 409, 410, 1004, 1005, 1006, 1007] [400, 401, 402, 403, 404, 405, 1001, 1002, 1003] [] O z0 h) : vfr (vw [406, 407, 408, 409, 410, 1004, 1005, 1006, 1007] [400, 401, 402, 403, 404, 405, 1001, 1002, 1003] [] O) z0 (ab_X12_pixelAt x0 x1 x2 h) := by
  unfold ab_X12_pixelAt
  refine vr_cl (fun _ _ e => (by rw [ve_X12_isSeen e]; exact hs)) (fun _ h hs => ?_)
  refine vr_if ?_ ?_
  · exact vk_X12_pixelAt_18 hs
  · refine vr_if ?_ ?_
    · exact vk_X12_pixelAt_18 hs
    · refine vr_if ?_ ?_
      · refine vr_gP hs ox0 (fun v3 ov3 => ?_)
        refine vr_gP hs ox0 (fun v4 ov4 => ?_)
        refine vr_cl (fun _ _ e => (let q := vk_X9_look hs.2 ov3 ov4 e; ⟨hs.1.trans (q.1.weak (by decide) (by decide) (by decide)), q.2⟩)) (fun _ h hs => ?_)
        refine vr_gP hs ox0 (fun v6 ov6 => ?_)
        refine vr_bd (fun _ => ?_)
        exact vr_rt hs
      · exact vk_X12_pixelAt_18 hs
theorem vk_X12_pixelAt {O : Nat → Prop} {x0 : Nat} {x1 : Int32} {x2 : Int32} {h : vt_S} {r : Int32} {s : vt_S} (c : vcl O h) (ox0 : O x0) (e : ab_X12_pixelAt x0 x1 x2 h = some (r, s)) : vw [406, 407, 408, 409, 410, 1004, 1005, 1006, 1007] [400, 401, 402, 403, 404, 405, 1001, 1002, 1003] [] O h s := vk_X12_pixelAt_0 ox0 ⟨vk.refl h, c⟩ r s e

theorem ve_X17_isPixel_32 {z0 : vt_S} {s0 : Int32} {h : vt_S} (hs : veq z0 h) : vfr veq z0 (ab_X17_isPixel_32 s0 h) := by
  unfold ab_X17_isPixel_32
  exact vr_rz hs
theorem ve_X17_isPixel_31 {z0 : vt_S} {h : vt_S} (hs : veq z0 h) : vfr veq z0 (ab_X17_isPixel_31 h) := by
  unfold ab_X17_isPixel_31
  exact ve_X17_isPixel_32 hs
theorem ve_X17_isPixel_0 {z0 : vt_S} {x0 : Nat} {x1 : Int32} {x2 : Int32} {h : vt_S} (hs : veq z0 h) : vfr veq z0 (ab_X17_isPixel x0 x1 x2 h) := by
  unfold ab_X17_isPixel
  refine vr_let (fun _ => ?_)
  refine vr_if ?_ ?_
  · exact ve_X17_isPixel_31 hs
  · refine vr_if ?_ ?_
    · exact ve_X17_isPixel_31 hs
    · refine vr_if ?_ ?_
      · exact ve_X17_isPixel_31 hs
      · refine vr_if ?_ ?_
        · exact ve_X17_isPixel_31 hs
        · refine vr_if ?_ ?_
          · exact ve_X17_isPixel_31 hs
          · exact ve_X17_isPixel_32 hs
theorem ve_X17_isPixel {x0 : Nat} {x1 : Int32} {x2 : Int32} {h : vt_S} {r : Int32} {s : vt_S} (e : ab_X17_isPixel x0 x1 x2 h = some (r, s)) : s = h := ve_X17_isPixel_0 rfl r s e

theorem ve_X17_rowOf_56 {z0 : vt_S} {s0 : Int32} {h : vt_S} (hs : veq z0 h) : vfr veq z0 (ab_X17_rowOf_56 s0 h) := by
  unfold ab_X17_rowOf_56
  exact vr_rt hs
theorem ve_X17_rowOf_0 {z0 : vt_S} {x0 : Nat} {x1 : Int32} {x2 : Int32} {x3 : Int32} {h : vt_S} (hs : veq z0 h) : vfr veq z0 (ab_X17_rowOf x0 x1 x2 x3 h) := by
  unfold ab_X17_rowOf
  refine vr_cl (fun _ _ e => ((ve_X17_eye e).trans hs)) (fun _ h hs => ?_)
  refine vr_let (fun _ => ?_)
  refine vr_let (fun _ => ?_)
  refine vr_cl (fun _ _ e => ((ve_X17_down e).trans hs)) (fun _ h hs => ?_)
  refine vr_if ?_ ?_
  · refine vr_if ?_ ?_
    · exact ve_X17_rowOf_56 hs
    · exact ve_X17_rowOf_56 hs
  · exact ve_X17_rowOf_56 hs
theorem ve_X17_rowOf {x0 : Nat} {x1 : Int32} {x2 : Int32} {x3 : Int32} {h : vt_S} {r : Int32} {s : vt_S} (e : ab_X17_rowOf x0 x1 x2 x3 h = some (r, s)) : s = h := ve_X17_rowOf_0 rfl r s e

theorem ve_X14_texture_13 {z0 : vt_S} {h : vt_S} (hs : veq z0 h) : vfr veq z0 (ab_X14_texture_13 h) := by
  unfold ab_X14_texture_13
  exact vr_rt hs
theorem ve_X14_texture_111 {z0 : vt_S} {s0 : Int32} {h : vt_S} (hs : veq z0 h) : vfr veq z0 (ab_X14_texture_111 s0 h) := by
  unfold ab_X14_texture_111
  exact vr_rt hs
theorem ve_X14_texture_110 {z0 : vt_S} {h : vt_S} (hs : veq z0 h) : vfr veq z0 (ab_X14_texture_110 h) := by
  unfold ab_X14_texture_110
  exact ve_X14_texture_111 hs
theorem ve_X14_texture_59 {z0 : vt_S} {s0 : Int32} {h : vt_S} (hs : veq z0 h) : vfr veq z0 (ab_X14_texture_59 s0 h) := by
  unfold ab_X14_texture_59
  exact vr_rt hs
theorem ve_X14_texture_0 {z0 : vt_S} {x0 : Nat} {x1 : Int32} {x2 : Int32} {h : vt_S} (hs : veq z0 h) : vfr veq z0 (ab_X14_texture x0 x1 x2 h) := by
  unfold ab_X14_texture
  refine vr_cl (fun _ _ e => ((ve_X14_has e).trans hs)) (fun _ h hs => ?_)
  refine vr_if ?_ ?_
  · exact ve_X14_texture_13 hs
  · refine vr_if ?_ ?_
    · refine vr_cl (fun _ _ e => ((ve_X14_textureAt e).trans hs)) (fun _ h hs => ?_)
      refine vr_bd (fun _ => ?_)
      refine vr_bd (fun _ => ?_)
      refine vr_if ?_ ?_
      · refine vr_if ?_ ?_
        · exact ve_X14_texture_110 hs
        · refine vr_if ?_ ?_
          · exact ve_X14_texture_110 hs
          · refine vr_bd (fun _ => ?_)
            exact ve_X14_texture_111 hs
      · refine vr_if ?_ ?_
        · exact ve_X14_texture_59 hs
        · exact ve_X14_texture_59 hs
    · exact ve_X14_texture_13 hs
theorem ve_X14_texture {x0 : Nat} {x1 : Int32} {x2 : Int32} {h : vt_S} {r : Int32} {s : vt_S} (e : ab_X14_texture x0 x1 x2 h = some (r, s)) : s = h := ve_X14_texture_0 rfl r s e

theorem ve_X17_modulo_0 {z0 : vt_S} {x0 : Int64} {x2 : Int32} {h : vt_S} (hs : veq z0 h) : vfr veq z0 (ab_X17_modulo x0 x2 h) := by
  unfold ab_X17_modulo
  refine vr_if vr_no ?_
  refine vr_if vr_no ?_
  exact vr_rt hs
theorem ve_X17_modulo {x0 : Int64} {x2 : Int32} {h : vt_S} {r : Int32} {s : vt_S} (e : ab_X17_modulo x0 x2 h = some (r, s)) : s = h := ve_X17_modulo_0 rfl r s e

theorem ve_X17_texel_0 {z0 : vt_S} {x0 : Nat} {x1 : Int32} {x2 : Int64} {x4 : Int64} {h : vt_S} (hs : veq z0 h) : vfr veq z0 (ab_X17_texel x0 x1 x2 x4 h) := by
  unfold ab_X17_texel
  refine vr_if ?_ ?_
  · exact vr_rt hs
  · refine vr_let (fun _ => ?_)
    refine vr_cl (fun _ _ e => ((ve_X14_texture e).trans hs)) (fun _ h hs => ?_)
    refine vr_let (fun _ => ?_)
    refine vr_cl (fun _ _ e => ((ve_X14_texture e).trans hs)) (fun _ h hs => ?_)
    refine vr_let (fun _ => ?_)
    refine vr_cl (fun _ _ e => ((ve_X17_modulo e).trans hs)) (fun _ h hs => ?_)
    refine vr_cl (fun _ _ e => ((ve_X17_modulo e).trans hs)) (fun _ h hs => ?_)
    refine vr_cl (fun _ _ e => ((ve_X14_texture e).trans hs)) (fun _ h hs => ?_)
    exact vr_rt hs
theorem ve_X17_texel {x0 : Nat} {x1 : Int32} {x2 : Int64} {x4 : Int64} {h : vt_S} {r : Int32} {s : vt_S} (e : ab_X17_texel x0 x1 x2 x4 h = some (r, s)) : s = h := ve_X17_texel_0 rfl r s e

theorem ve_X17_shade_28 {z0 : vt_S} {s0 : Int32} {h : vt_S} (hs : veq z0 h) : vfr veq z0 (ab_X17_shade_28 s0 h) := by
  unfold ab_X17_shade_28
  exact vr_rt hs
theorem ve_X17_shade_0 {z0 : vt_S} {x0 : Nat} {x1 : Int32} {x2 : Int64} {h : vt_S} (hs : veq z0 h) : vfr veq z0 (ab_X17_shade x0 x1 x2 h) := by
  unfold ab_X17_shade
  refine vr_let (fun _ => ?_)
  refine vr_cl (fun _ _ e => ((ve_X13_of e).trans hs)) (fun _ h hs => ?_)
  refine vr_if ?_ ?_
  · exact ve_X17_shade_28 hs
  · exact ve_X17_shade_28 hs
theorem ve_X17_shade {x0 : Nat} {x1 : Int32} {x2 : Int64} {h : vt_S} {r : Int32} {s : vt_S} (e : ab_X17_shade x0 x1 x2 h = some (r, s)) : s = h := ve_X17_shade_0 rfl r s e

theorem vk_X17_flat_293 {O : Nat → Prop} {z0 : vt_S} {k80 : Nat → Int32 → Int32 → Int32 → Int32 → Int32 → Int64 → Int32 → vt_S → Option (Unit × vt_S)} (hk80 : ∀ {x0 : Nat} {x2 : Int32} {x3 : Int32} {x4 : Int32} {x5 : Int32} {x6 : Int32} {x7 : Int64} {x9 : Int32} {h : vt_S}, O x0 → vw [] [1824, 1825] [] O z0 h → vfr (vw [] [1824, 1825] [] O) z0 (k80 x0 x2 x3 x4 x5 x6 x7 x9 h)) {x0 : Nat} {x2 : Int32} {x3 : Int32} {x4 : Int32} {x5 : Int32} {x6 : Int32} {x7 : Int64} {x9 : Int32} {s0 : Nat} {s1 : Int32} {s2 : Int32} {h : vt_S} (ox0 : O x0) (os0 : O s0) (hs : vw [] [1824, 1825] [] O z0 h) : vfr (vw [] [1824, 1825] [] O) z0 (ab_X17_flat_293 k80 x0 x2 x3 x4 x5 x6 x7 x9 s0 s1 s2 h) := by
  unfold ab_X17_flat_293
  refine vr_sI hs (by decide) os0 (fun h hs => ?_)
  exact hk80 ox0 hs
theorem vk_X17_flat_289 {O : Nat → Prop} {z0 : vt_S} {k80 : Nat → Int32 → Int32 → Int32 → Int32 → Int32 → Int64 → Int32 → vt_S → Option (Unit × vt_S)} (hk80 : ∀ {x0 : Nat} {x2 : Int32} {x3 : Int32} {x4 : Int32} {x5 : Int32} {x6 : Int32} {x7 : Int64} {x9 : Int32} {h : vt_S}, O x0 → vw [] [1824, 1825] [] O z0 h → vfr (vw [] [1824, 1825] [] O) z0 (k80 x0 x2 x3 x4 x5 x6 x7 x9 h)) {x0 : Nat} {x2 : Int32} {x3 : Int32} {x4 : Int32} {x5 : Int32} {x6 : Int32} {x7 : Int64} {x9 : Int32} {s0 : Nat} {s1 : Int32} {s2 : Int32} {s3 : Nat} {s4 : Int32} {s5 : Int64} {h : vt_S} (ox0 : O x0) (os0 : O s0) (os3 : O s3) (hs : vw [] [1824, 1825] [] O z0 h) : vfr (vw [] [1824, 1825] [] O) z0 (ab_X17_flat_289 k80 x0 x2 x3 x4 x5 x6 x7 x9 s0 s1 s2 s3 s4 s5 h) := by
  unfold ab_X17_flat_289
  refine vr_cl (fun _ _ e => (by rw [ve_X17_shade e]; exact hs)) (fun _ h hs => ?_)
  exact vk_X17_flat_293 hk80 ox0 os0 hs
theorem vk_X17_flat_221 {O : Nat → Prop} {z0 : vt_S} {k80 : Nat → Int32 → Int32 → Int32 → Int32 → Int32 → Int64 → Int32 → vt_S → Option (Unit × vt_S)} (hk80 : ∀ {x0 : Nat} {x2 : Int32} {x3 : Int32} {x4 : Int32} {x5 : Int32} {x6 : Int32} {x7 : Int64} {x9 : Int32} {h : vt_S}, O x0 → vw [] [1824, 1825] [] O z0 h → vfr (vw [] [1824, 1825] [] O) z0 (k80 x0 x2 x3 x4 x5 x6 x7 x9 h)) {x0 : Nat} {x2 : Int32} {x3 : Int32} {x4 : Int32} {x5 : Int32} {x6 : Int32} {x7 : Int64} {x9 : Int32} {x10 : Int64} {x12 : Int32} {x13 : Int64} {x15 : Int64} {s0 : Nat} {s1 : Int32} {s2 : Int32} {s3 : Int32} {h : vt_S} (ox0 : O x0) (os0 : O s0) (hs : vw [] [1824, 1825] [] O z0 h) : vfr (vw [] [1824, 1825] [] O) z0 (ab_X17_flat_221 k80 x0 x2 x3 x4 x5 x6 x7 x9 x10 x12 x13 x15 s0 s1 s2 s3 h) := by
  unfold ab_X17_flat_221
  refine vr_sI hs (by decide) os0 (fun h hs => ?_)
  refine vr_if ?_ ?_
  · refine vr_cl (fun _ _ e => (by rw [ve_X17_texel e]; exact hs)) (fun _ h hs => ?_)
    refine vr_if ?_ ?_
    · exact vk_X17_flat_289 hk80 ox0 ox0 ox0 hs
    · refine vr_cl (fun _ _ e => (by rw [ve_X17_down e]; exact hs)) (fun _ h hs => ?_)
      exact vk_X17_flat_289 hk80 ox0 ox0 ox0 hs
  · exact vk_X17_flat_293 hk80 ox0 ox0 hs
theorem vk_X17_flat_199 {O : Nat → Prop} {z0 : vt_S} {k80 : Nat → Int32 → Int32 → Int32 → Int32 → Int32 → Int64 → Int32 → vt_S → Option (Unit × vt_S)} (hk80 : ∀ {x0 : Nat} {x2 : Int32} {x3 : Int32} {x4 : Int32} {x5 : Int32} {x6 : Int32} {x7 : Int64} {x9 : Int32} {h : vt_S}, O x0 → vw [] [1824, 1825] [] O z0 h → vfr (vw [] [1824, 1825] [] O) z0 (k80 x0 x2 x3 x4 x5 x6 x7 x9 h)) {x0 : Nat} {x2 : Int32} {x3 : Int32} {x4 : Int32} {x5 : Int32} {x6 : Int32} {x7 : Int64} {x9 : Int32} {x10 : Int64} {x12 : Int32} {x13 : Int64} {s0 : Int64} {h : vt_S} (ox0 : O x0) (hs : vw [] [1824, 1825] [] O z0 h) : vfr (vw [] [1824, 1825] [] O) z0 (ab_X17_flat_199 k80 x0 x2 x3 x4 x5 x6 x7 x9 x10 x12 x13 s0 h) := by
  unfold ab_X17_flat_199
  refine vr_if ?_ ?_
  · exact vk_X17_flat_221 hk80 ox0 ox0 hs
  · exact vk_X17_flat_221 hk80 ox0 ox0 hs
theorem vk_X17_flat_166 {O : Nat → Prop} {z0 : vt_S} {k80 : Nat → Int32 → Int32 → Int32 → Int32 → Int32 → Int64 → Int32 → vt_S → Option (Unit × vt_S)} (hk80 : ∀ {x0 : Nat} {x2 : Int32} {x3 : Int32} {x4 : Int32} {x5 : Int32} {x6 : Int32} {x7 : Int64} {x9 : Int32} {h : vt_S}, O x0 → vw [] [1824, 1825] [] O z0 h → vfr (vw [] [1824, 1825] [] O) z0 (k80 x0 x2 x3 x4 x5 x6 x7 x9 h)) {x0 : Nat} {x2 : Int32} {x3 : Int32} {x4 : Int32} {x5 : Int32} {x6 : Int32} {x7 : Int64} {x9 : Int32} {x10 : Int64} {x12 : Int32} {s0 : Int64} {h : vt_S} (ox0 : O x0) (hs : vw [] [1824, 1825] [] O z0 h) : vfr (vw [] [1824, 1825] [] O) z0 (ab_X17_flat_166 k80 x0 x2 x3 x4 x5 x6 x7 x9 x10 x12 s0 h) := by
  unfold ab_X17_flat_166
  refine vr_if ?_ ?_
  · refine vr_let (fun _ => ?_)
    exact vk_X17_flat_199 hk80 ox0 hs
  · refine vr_let (fun _ => ?_)
    refine vr_let (fun _ => ?_)
    refine vr_cl (fun _ _ e => (by rw [ve_X17_down e]; exact hs)) (fun _ h hs => ?_)
    exact vk_X17_flat_199 hk80 ox0 hs
theorem vk_X17_flat_133 {O : Nat → Prop} {z0 : vt_S} {k80 : Nat → Int32 → Int32 → Int32 → Int32 → Int32 → Int64 → Int32 → vt_S → Option (Unit × vt_S)} (hk80 : ∀ {x0 : Nat} {x2 : Int32} {x3 : Int32} {x4 : Int32} {x5 : Int32} {x6 : Int32} {x7 : Int64} {x9 : Int32} {h : vt_S}, O x0 → vw [] [1824, 1825] [] O z0 h → vfr (vw [] [1824, 1825] [] O) z0 (k80 x0 x2 x3 x4 x5 x6 x7 x9 h)) {x0 : Nat} {x2 : Int32} {x3 : Int32} {x4 : Int32} {x5 : Int32} {x6 : Int32} {x7 : Int64} {x9 : Int32} {x10 : Int64} {s0 : Int32} {h : vt_S} (ox0 : O x0) (hs : vw [] [1824, 1825] [] O z0 h) : vfr (vw [] [1824, 1825] [] O) z0 (ab_X17_flat_133 k80 x0 x2 x3 x4 x5 x6 x7 x9 x10 s0 h) := by
  unfold ab_X17_flat_133
  refine vr_if ?_ ?_
  · refine vr_let (fun _ => ?_)
    exact vk_X17_flat_166 hk80 ox0 hs
  · refine vr_let (fun _ => ?_)
    refine vr_let (fun _ => ?_)
    refine vr_cl (fun _ _ e => (by rw [ve_X17_down e]; exact hs)) (fun _ h hs => ?_)
    exact vk_X17_flat_166 hk80 ox0 hs
theorem vk_X17_flat_132 {O : Nat → Prop} {z0 : vt_S} {k80 : Nat → Int32 → Int32 → Int32 → Int32 → Int32 → Int64 → Int32 → vt_S → Option (Unit × vt_S)} (hk80 : ∀ {x0 : Nat} {x2 : Int32} {x3 : Int32} {x4 : Int32} {x5 : Int32} {x6 : Int32} {x7 : Int64} {x9 : Int32} {h : vt_S}, O x0 → vw [] [1824, 1825] [] O z0 h → vfr (vw [] [1824, 1825] [] O) z0 (k80 x0 x2 x3 x4 x5 x6 x7 x9 h)) {x0 : Nat} {x2 : Int32} {x3 : Int32} {x4 : Int32} {x5 : Int32} {x6 : Int32} {x7 : Int64} {x9 : Int32} {x10 : Int64} {h : vt_S} (ox0 : O x0) (hs : vw [] [1824, 1825] [] O z0 h) : vfr (vw [] [1824, 1825] [] O) z0 (ab_X17_flat_132 k80 x0 x2 x3 x4 x5 x6 x7 x9 x10 h) := by
  unfold ab_X17_flat_132
  exact vk_X17_flat_133 hk80 ox0 hs
theorem vk_X17_flat_128 {O : Nat → Prop} {z0 : vt_S} {k80 : Nat → Int32 → Int32 → Int32 → Int32 → Int32 → Int64 → Int32 → vt_S → Option (Unit × vt_S)} (hk80 : ∀ {x0 : Nat} {x2 : Int32} {x3 : Int32} {x4 : Int32} {x5 : Int32} {x6 : Int32} {x7 : Int64} {x9 : Int32} {h : vt_S}, O x0 → vw [] [1824, 1825] [] O z0 h → vfr (vw [] [1824, 1825] [] O) z0 (k80 x0 x2 x3 x4 x5 x6 x7 x9 h)) {x0 : Nat} {x2 : Int32} {x3 : Int32} {x4 : Int32} {x5 : Int32} {x6 : Int32} {x7 : Int64} {x9 : Int32} {x10 : Int64} {h : vt_S} (ox0 : O x0) (hs : vw [] [1824, 1825] [] O z0 h) : vfr (vw [] [1824, 1825] [] O) z0 (ab_X17_flat_128 k80 x0 x2 x3 x4 x5 x6 x7 x9 x10 h) := by
  unfold ab_X17_flat_128
  exact vk_X17_flat_133 hk80 ox0 hs
theorem vk_X17_flat_114 {O : Nat → Prop} {z0 : vt_S} {k80 : Nat → Int32 → Int32 → Int32 → Int32 → Int32 → Int64 → Int32 → vt_S → Option (Unit × vt_S)} (hk80 : ∀ {x0 : Nat} {x2 : Int32} {x3 : Int32} {x4 : Int32} {x5 : Int32} {x6 : Int32} {x7 : Int64} {x9 : Int32} {h : vt_S}, O x0 → vw [] [1824, 1825] [] O z0 h → vfr (vw [] [1824, 1825] [] O) z0 (k80 x0 x2 x3 x4 x5 x6 x7 x9 h)) {x0 : Nat} {x2 : Int32} {x3 : Int32} {x4 : Int32} {x5 : Int32} {x6 : Int32} {x7 : Int64} {x9 : Int32} {x10 : Int64} {h : vt_S} (ox0 : O x0) (hs : vw [] [1824, 1825] [] O z0 h) : vfr (vw [] [1824, 1825] [] O) z0 (ab_X17_flat_114 k80 x0 x2 x3 x4 x5 x6 x7 x9 x10 h) := by
  unfold ab_X17_flat_114
  refine vr_if ?_ ?_
  · exact vk_X17_flat_132 hk80 ox0 hs
  · refine vr_if ?_ ?_
    · exact vk_X17_flat_132 hk80 ox0 hs
    · exact vk_X17_flat_128 hk80 ox0 hs
theorem vk_X17_flat_80b {O : Nat → Prop} {z0 : vt_S} {k80 : Nat → Int32 → Int32 → Int32 → Int32 → Int32 → Int64 → Int32 → vt_S → Option (Unit × vt_S)} (hk80 : ∀ {x0 : Nat} {x2 : Int32} {x3 : Int32} {x4 : Int32} {x5 : Int32} {x6 : Int32} {x7 : Int64} {x9 : Int32} {h : vt_S}, O x0 → vw [] [1824, 1825] [] O z0 h → vfr (vw [] [1824, 1825] [] O) z0 (k80 x0 x2 x3 x4 x5 x6 x7 x9 h)) {x0 : Nat} {x2 : Int32} {x3 : Int32} {x4 : Int32} {x5 : Int32} {x6 : Int32} {x7 : Int64} {x9 : Int32} {h : vt_S} (ox0 : O x0) (hs : vw [] [1824, 1825] [] O z0 h) : vfr (vw [] [1824, 1825] [] O) z0 (ab_X17_flat_80b k80 x0 x2 x3 x4 x5 x6 x7 x9 h) := by
  unfold ab_X17_flat_80b
  refine vr_if ?_ ?_
  · exact vr_rt hs
  · refine vr_if ?_ ?_
    · exact vk_X17_flat_114 hk80 ox0 hs
    · refine vr_if ?_ ?_
      · exact vk_X17_flat_128 hk80 ox0 hs
      · exact vk_X17_flat_114 hk80 ox0 hs
theorem vk_X17_flat_80 {O : Nat → Prop} {z0 : vt_S} : ∀ (n : Nat) {x0 : Nat} {x2 : Int32} {x3 : Int32} {x4 : Int32} {x5 : Int32} {x6 : Int32} {x7 : Int64} {x9 : Int32} {h : vt_S}, O x0 → vw [] [1824, 1825] [] O z0 h → vfr (vw [] [1824, 1825] [] O) z0 (ab_X17_flat_80 n x0 x2 x3 x4 x5 x6 x7 x9 h) := by
  intro n
  induction n with
  | zero => intro x0 x2 x3 x4 x5 x6 x7 x9 h ox0 hs; exact vr_no
  | succ n ih => intro x0 x2 x3 x4 x5 x6 x7 x9 h ox0 hs; exact vk_X17_flat_80b (fun ox0 hs => ih ox0 hs) ox0 hs
theorem vk_X17_flat_69 {O : Nat → Prop} {z0 : vt_S} {x0 : Nat} {x1 : Int32} {x2 : Int32} {x3 : Int32} {x4 : Int32} {x5 : Int32} {x6 : Int32} {s0 : Int32} {h : vt_S} (ox0 : O x0) (hs : vw [] [1824, 1825] [] O z0 h) : vfr (vw [] [1824, 1825] [] O) z0 (ab_X17_flat_69 x0 x1 x2 x3 x4 x5 x6 s0 h) := by
  unfold ab_X17_flat_69
  refine vr_cl (fun _ _ e => (by rw [ve_X17_eye e]; exact hs)) (fun _ h hs => ?_)
  exact vk_X17_flat_80 sv_fuel ox0 hs
theorem vk_X17_flat_39 {O : Nat → Prop} {z0 : vt_S} {x0 : Nat} {x1 : Int32} {x2 : Int32} {x3 : Int32} {x4 : Int32} {x5 : Int32} {s0 : Int32} {h : vt_S} (ox0 : O x0) (hs : vw [] [1824, 1825] [] O z0 h) : vfr (vw [] [1824, 1825] [] O) z0 (ab_X17_flat_39 x0 x1 x2 x3 x4 x5 s0 h) := by
  unfold ab_X17_flat_39
  refine vr_if ?_ ?_
  · refine vr_gP hs ox0 (fun v4 ov4 => ?_)
    refine vr_bd (fun _ => ?_)
    exact vk_X17_flat_69 ox0 hs
  · refine vr_gP hs ox0 (fun v1 ov1 => ?_)
    refine vr_bd (fun _ => ?_)
    exact vk_X17_flat_69 ox0 hs
theorem vk_X17_flat_38 {O : Nat → Prop} {z0 : vt_S} {x0 : Nat} {x1 : Int32} {x2 : Int32} {x3 : Int32} {x4 : Int32} {x5 : Int32} {h : vt_S} (ox0 : O x0) (hs : vw [] [1824, 1825] [] O z0 h) : vfr (vw [] [1824, 1825] [] O) z0 (ab_X17_flat_38 x0 x1 x2 x3 x4 x5 h) := by
  unfold ab_X17_flat_38
  exact vk_X17_flat_39 ox0 hs
theorem vk_X17_flat_16 {O : Nat → Prop} {z0 : vt_S} {x0 : Nat} {x1 : Int32} {x2 : Int32} {x3 : Int32} {x4 : Int32} {s0 : Nat} {s1 : Int32} {s2 : Int32} {h : vt_S} (ox0 : O x0) (os0 : O s0) (hs : vw [] [1824, 1825] [] O z0 h) : vfr (vw [] [1824, 1825] [] O) z0 (ab_X17_flat_16 x0 x1 x2 x3 x4 s0 s1 s2 h) := by
  unfold ab_X17_flat_16
  refine vr_cl (fun _ _ e => (by rw [ve_X14_sector e]; exact hs)) (fun _ h hs => ?_)
  refine vr_if ?_ ?_
  · refine vr_if ?_ ?_
    · exact vk_X17_flat_39 ox0 hs
    · exact vk_X17_flat_38 ox0 hs
  · exact vk_X17_flat_38 ox0 hs
theorem vk_X17_flat_0 {O : Nat → Prop} {z0 : vt_S} {x0 : Nat} {x1 : Int32} {x2 : Int32} {x3 : Int32} {x4 : Int32} {h : vt_S} (ox0 : O x0) (hs : vw [] [1824, 1825] [] O z0 h) : vfr (vw [] [1824, 1825] [] O) z0 (ab_X17_flat x0 x1 x2 x3 x4 h) := by
  unfold ab_X17_flat
  refine vr_gP hs ox0 (fun v1 ov1 => ?_)
  refine vr_if ?_ ?_
  · exact vk_X17_flat_16 ox0 ov1 hs
  · exact vk_X17_flat_16 ox0 ov1 hs
theorem vk_X17_flat {O : Nat → Prop} {x0 : Nat} {x1 : Int32} {x2 : Int32} {x3 : Int32} {x4 : Int32} {h : vt_S} {r : Unit} {s : vt_S} (c : vcl O h) (ox0 : O x0) (e : ab_X17_flat x0 x1 x2 x3 x4 h = some (r, s)) : vw [] [1824, 1825] [] O h s := vk_X17_flat_0 ox0 ⟨vk.refl h, c⟩ r s e

theorem vk_X17_part_393b {O : Nat → Prop} {z0 : vt_S} {k393 : Nat → Int32 → Int32 → Int32 → Int32 → Int32 → Int64 → Int32 → Int32 → vt_S → Option (Unit × vt_S)} (hk393 : ∀ {x0 : Nat} {x2 : Int32} {x3 : Int32} {x4 : Int32} {x7 : Int32} {x11 : Int32} {x18 : Int64} {x20 : Int32} {x21 : Int32} {h : vt_S}, O x0 → vw [] [1824, 1825] [] O z0 h → vfr (vw [] [1824, 1825] [] O) z0 (k393 x0 x2 x3 x4 x7 x11 x18 x20 x21 h)) {x0 : Nat} {x2 : Int32} {x3 : Int32} {x4 : Int32} {x7 : Int32} {x11 : Int32} {x18 : Int64} {x20 : Int32} {x21 : Int32} {h : vt_S} (ox0 : O x0) (hs : vw [] [1824, 1825] [] O z0 h) : vfr (vw [] [1824, 1825] [] O) z0 (ab_X17_part_393b k393 x0 x2 x3 x4 x7 x11 x18 x20 x21 h) := by
  unfold ab_X17_part_393b
  refine vr_if ?_ ?_
  · exact vr_rt hs
  · refine vr_cl (fun _ _ e => (by rw [ve_X17_eye e]; exact hs)) (fun _ h hs => ?_)
    refine vr_let (fun _ => ?_)
    refine vr_let (fun _ => ?_)
    refine vr_cl (fun _ _ e => (by rw [ve_X17_down e]; exact hs)) (fun _ h hs => ?_)
    refine vr_sI hs (by decide) ox0 (fun h hs => ?_)
    refine vr_cl (fun _ _ e => (by rw [ve_X17_wallPart e]; exact hs)) (fun _ h hs => ?_)
    refine vr_cl (fun _ _ e => (by rw [ve_X17_texel e]; exact hs)) (fun _ h hs => ?_)
    refine vr_sI hs (by decide) ox0 (fun h hs => ?_)
    exact hk393 ox0 hs
theorem vk_X17_part_393 {O : Nat → Prop} {z0 : vt_S} : ∀ (n : Nat) {x0 : Nat} {x2 : Int32} {x3 : Int32} {x4 : Int32} {x7 : Int32} {x11 : Int32} {x18 : Int64} {x20 : Int32} {x21 : Int32} {h : vt_S}, O x0 → vw [] [1824, 1825] [] O z0 h → vfr (vw [] [1824, 1825] [] O) z0 (ab_X17_part_393 n x0 x2 x3 x4 x7 x11 x18 x20 x21 h) := by
  intro n
  induction n with
  | zero => intro x0 x2 x3 x4 x7 x11 x18 x20 x21 h ox0 hs; exact vr_no
  | succ n ih => intro x0 x2 x3 x4 x7 x11 x18 x20 x21 h ox0 hs; exact vk_X17_part_393b (fun ox0 hs => ih ox0 hs) ox0 hs
theorem vk_X17_part_355 {O : Nat → Prop} {z0 : vt_S} {x0 : Nat} {x1 : Int32} {x2 : Int32} {x3 : Int32} {x4 : Int32} {x5 : Int32} {x7 : Int32} {x11 : Int32} {s0 : Int64} {h : vt_S} (ox0 : O x0) (hs : vw [] [1824, 1825] [] O z0 h) : vfr (vw [] [1824, 1825] [] O) z0 (ab_X17_part_355 x0 x1 x2 x3 x4 x5 x7 x11 s0 h) := by
  unfold ab_X17_part_355
  refine vr_cl (fun _ _ e => (by rw [ve_X17_wallPart e]; exact hs)) (fun _ h hs => ?_)
  refine vr_let (fun _ => ?_)
  refine vr_let (fun _ => ?_)
  refine vr_cl (fun _ _ e => (by rw [ve_X17_down e]; exact hs)) (fun _ h hs => ?_)
  refine vr_cl (fun _ _ e => (by rw [ve_X17_shade e]; exact hs)) (fun _ h hs => ?_)
  exact vk_X17_part_393 sv_fuel ox0 hs
theorem vk_X17_part_305 {O : Nat → Prop} {z0 : vt_S} {x0 : Nat} {x1 : Int32} {x2 : Int32} {x3 : Int32} {x4 : Int32} {x5 : Int32} {x7 : Int32} {x11 : Int32} {s0 : Int64} {h : vt_S} (ox0 : O x0) (hs : vw [] [1824, 1825] [] O z0 h) : vfr (vw [] [1824, 1825] [] O) z0 (ab_X17_part_305 x0 x1 x2 x3 x4 x5 x7 x11 s0 h) := by
  unfold ab_X17_part_305
  refine vr_let (fun _ => ?_)
  refine vr_if ?_ ?_
  · refine vr_let (fun _ => ?_)
    refine vr_let (fun _ => ?_)
    refine vr_let (fun _ => ?_)
    refine vr_cl (fun _ _ e => (by rw [ve_X17_down e]; exact hs)) (fun _ h hs => ?_)
    exact vk_X17_part_355 ox0 hs
  · refine vr_let (fun _ => ?_)
    refine vr_let (fun _ => ?_)
    refine vr_let (fun _ => ?_)
    refine vr_cl (fun _ _ e => (by rw [ve_X17_down e]; exact hs)) (fun _ h hs => ?_)
    exact vk_X17_part_355 ox0 hs
theorem vk_X17_part_288 {O : Nat → Prop} {z0 : vt_S} {x0 : Nat} {x1 : Int32} {x2 : Int32} {x3 : Int32} {x4 : Int32} {x5 : Int32} {x7 : Int32} {x11 : Int32} {x12 : Int64} {s0 : Int64} {h : vt_S} (ox0 : O x0) (hs : vw [] [1824, 1825] [] O z0 h) : vfr (vw [] [1824, 1825] [] O) z0 (ab_X17_part_288 x0 x1 x2 x3 x4 x5 x7 x11 x12 s0 h) := by
  unfold ab_X17_part_288
  refine vr_if ?_ ?_
  · exact vk_X17_part_305 ox0 hs
  · exact vk_X17_part_305 ox0 hs
theorem vk_X17_part_271 {O : Nat → Prop} {z0 : vt_S} {x0 : Nat} {x1 : Int32} {x2 : Int32} {x3 : Int32} {x4 : Int32} {x5 : Int32} {x7 : Int32} {x11 : Int32} {x14 : Int64} {s0 : Int64} {h : vt_S} (ox0 : O x0) (hs : vw [] [1824, 1825] [] O z0 h) : vfr (vw [] [1824, 1825] [] O) z0 (ab_X17_part_271 x0 x1 x2 x3 x4 x5 x7 x11 x14 s0 h) := by
  unfold ab_X17_part_271
  refine vr_if ?_ ?_
  · exact vk_X17_part_288 ox0 hs
  · exact vk_X17_part_288 ox0 hs
theorem vk_X17_part_206 {O : Nat → Prop} {z0 : vt_S} {x0 : Nat} {x1 : Int32} {x2 : Int32} {x3 : Int32} {x4 : Int32} {x5 : Int32} {x7 : Int32} {s0 : Int32} {h : vt_S} (ox0 : O x0) (hs : vw [] [1824, 1825] [] O z0 h) : vfr (vw [] [1824, 1825] [] O) z0 (ab_X17_part_206 x0 x1 x2 x3 x4 x5 x7 s0 h) := by
  unfold ab_X17_part_206
  refine vr_gP hs ox0 (fun v1 ov1 => ?_)
  refine vr_bd (fun _ => ?_)
  refine vr_gP hs ox0 (fun v4 ov4 => ?_)
  refine vr_bd (fun _ => ?_)
  refine vr_gP hs ox0 (fun v7 ov7 => ?_)
  refine vr_bd (fun _ => ?_)
  refine vr_gP hs ox0 (fun v10 ov10 => ?_)
  refine vr_bd (fun _ => ?_)
  refine vr_if ?_ ?_
  · exact vk_X17_part_271 ox0 hs
  · exact vk_X17_part_271 ox0 hs
theorem vk_X17_part_110 {O : Nat → Prop} {z0 : vt_S} {x0 : Nat} {x1 : Int32} {x2 : Int32} {x3 : Int32} {x4 : Int32} {x5 : Int32} {x6 : Int32} {x7 : Int32} {x8 : Int32} {s0 : Int32} {h : vt_S} (ox0 : O x0) (hs : vw [] [1824, 1825] [] O z0 h) : vfr (vw [] [1824, 1825] [] O) z0 (ab_X17_part_110 x0 x1 x2 x3 x4 x5 x6 x7 x8 s0 h) := by
  unfold ab_X17_part_110
  refine vr_gP hs ox0 (fun v1 ov1 => ?_)
  refine vr_bd (fun _ => ?_)
  refine vr_if ?_ ?_
  · refine vr_if ?_ ?_
    · refine vr_gP hs ox0 (fun v10 ov10 => ?_)
      refine vr_bd (fun _ => ?_)
      exact vk_X17_part_206 ox0 hs
    · exact vk_X17_part_206 ox0 hs
  · refine vr_if ?_ ?_
    · refine vr_if ?_ ?_
      · exact vk_X17_part_206 ox0 hs
      · refine vr_gP hs ox0 (fun v7 ov7 => ?_)
        refine vr_bd (fun _ => ?_)
        exact vk_X17_part_206 ox0 hs
    · refine vr_if ?_ ?_
      · refine vr_gP hs ox0 (fun v4 ov4 => ?_)
        refine vr_bd (fun _ => ?_)
        exact vk_X17_part_206 ox0 hs
      · exact vk_X17_part_206 ox0 hs
theorem vk_X17_part_101 {O : Nat → Prop} {z0 : vt_S} {x0 : Nat} {x1 : Int32} {x2 : Int32} {x3 : Int32} {x4 : Int32} {x5 : Int32} {x6 : Int32} {x7 : Int32} {x8 : Int32} {s0 : Int32} {s1 : Int32} {h : vt_S} (ox0 : O x0) (hs : vw [] [1824, 1825] [] O z0 h) : vfr (vw [] [1824, 1825] [] O) z0 (ab_X17_part_101 x0 x1 x2 x3 x4 x5 x6 x7 x8 s0 s1 h) := by
  unfold ab_X17_part_101
  refine vr_if ?_ ?_
  · exact vk_X17_part_110 ox0 hs
  · exact vk_X17_part_110 ox0 hs
theorem vk_X17_part_81 {O : Nat → Prop} {z0 : vt_S} {x0 : Nat} {x1 : Int32} {x2 : Int32} {x3 : Int32} {x4 : Int32} {x5 : Int32} {x6 : Int32} {x7 : Int32} {s0 : Int32} {h : vt_S} (ox0 : O x0) (hs : vw [] [1824, 1825] [] O z0 h) : vfr (vw [] [1824, 1825] [] O) z0 (ab_X17_part_81 x0 x1 x2 x3 x4 x5 x6 x7 s0 h) := by
  unfold ab_X17_part_81
  refine vr_cl (fun _ _ e => (by rw [ve_X17_wallPart e]; exact hs)) (fun _ h hs => ?_)
  refine vr_if ?_ ?_
  · exact vk_X17_part_101 ox0 hs
  · exact vk_X17_part_101 ox0 hs
theorem vk_X17_part_53 {O : Nat → Prop} {z0 : vt_S} {x0 : Nat} {x1 : Int32} {x2 : Int32} {x3 : Int32} {x4 : Int32} {x5 : Int32} {x6 : Int32} {s0 : Nat} {s1 : Int32} {s2 : Int32} {s3 : Int32} {h : vt_S} (ox0 : O x0) (os0 : O s0) (hs : vw [] [1824, 1825] [] O z0 h) : vfr (vw [] [1824, 1825] [] O) z0 (ab_X17_part_53 x0 x1 x2 x3 x4 x5 x6 s0 s1 s2 s3 h) := by
  unfold ab_X17_part_53
  refine vr_cl (fun _ _ e => (by rw [ve_X17_wallPart e]; exact hs)) (fun _ h hs => ?_)
  refine vr_if ?_ ?_
  · exact vk_X17_part_81 ox0 hs
  · refine vr_gP hs ox0 (fun v3 ov3 => ?_)
    refine vr_cl (fun _ _ e => (by rw [ve_X14_texture e]; exact hs)) (fun _ h hs => ?_)
    exact vk_X17_part_81 ox0 hs
theorem vk_X17_part_34 {O : Nat → Prop} {z0 : vt_S} {x0 : Nat} {x1 : Int32} {x2 : Int32} {x3 : Int32} {x4 : Int32} {x5 : Int32} {x6 : Int32} {s0 : Nat} {s1 : Int32} {s2 : Int32} {h : vt_S} (ox0 : O x0) (os0 : O s0) (hs : vw [] [1824, 1825] [] O z0 h) : vfr (vw [] [1824, 1825] [] O) z0 (ab_X17_part_34 x0 x1 x2 x3 x4 x5 x6 s0 s1 s2 h) := by
  unfold ab_X17_part_34
  refine vr_if ?_ ?_
  · exact vk_X17_part_53 ox0 os0 hs
  · refine vr_if ?_ ?_
    · exact vk_X17_part_53 ox0 os0 hs
    · exact vk_X17_part_53 ox0 os0 hs
theorem vk_X17_part_0 {O : Nat → Prop} {z0 : vt_S} {x0 : Nat} {x1 : Int32} {x2 : Int32} {x3 : Int32} {x4 : Int32} {h : vt_S} (ox0 : O x0) (hs : vw [] [1824, 1825] [] O z0 h) : vfr (vw [] [1824, 1825] [] O) z0 (ab_X17_part x0 x1 x2 x3 x4 h) := by
  unfold ab_X17_part
  refine vr_cl (fun _ _ e => (by rw [ve_X17_sideOf e]; exact hs)) (fun _ h hs => ?_)
  refine vr_cl (fun _ _ e => (by rw [ve_X17_sideOf e]; exact hs)) (fun _ h hs => ?_)
  refine vr_let (fun _ => ?_)
  refine vr_if ?_ ?_
  · exact vk_X17_part_34 ox0 ox0 hs
  · exact vk_X17_part_34 ox0 ox0 hs
theorem vk_X17_part {O : Nat → Prop} {x0 : Nat} {x1 : Int32} {x2 : Int32} {x3 : Int32} {x4 : Int32} {h : vt_S} {r : Unit} {s : vt_S} (c : vcl O h) (ox0 : O x0) (e : ab_X17_part x0 x1 x2 x3 x4 h = some (r, s)) : vw [] [1824, 1825] [] O h s := vk_X17_part_0 ox0 ⟨vk.refl h, c⟩ r s e

theorem vk_X17_column_399 {O : Nat → Prop} {z0 : vt_S} {h : vt_S} (hs : vw [1815, 1816, 1817, 1818, 1819, 1821, 1823, 1827, 1828] [1820, 1822, 1824, 1825] [] O z0 h) : vfr (vw [1815, 1816, 1817, 1818, 1819, 1821, 1823, 1827, 1828] [1820, 1822, 1824, 1825] [] O) z0 (ab_X17_column_399 h) := by
  unfold ab_X17_column_399
  exact vr_rt hs
theorem vk_X17_column_393 {O : Nat → Prop} {z0 : vt_S} {k113 : Nat → Int32 → Int32 → Int32 → vt_S → Option (Unit × vt_S)} (hk113 : ∀ {x0 : Nat} {x2 : Int32} {x3 : Int32} {x4 : Int32} {h : vt_S}, O x0 → vw [1815, 1816, 1817, 1818, 1819, 1821, 1823, 1827, 1828] [1820, 1822, 1824, 1825] [] O z0 h → vfr (vw [1815, 1816, 1817, 1818, 1819, 1821, 1823, 1827, 1828] [1820, 1822, 1824, 1825] [] O) z0 (k113 x0 x2 x3 x4 h)) {x0 : Nat} {x2 : Int32} {x3 : Int32} {x4 : Int32} {h : vt_S} (ox0 : O x0) (hs : vw [1815, 1816, 1817, 1818, 1819, 1821, 1823, 1827, 1828] [1820, 1822, 1824, 1825] [] O z0 h) : vfr (vw [1815, 1816, 1817, 1818, 1819, 1821, 1823, 1827, 1828] [1820, 1822, 1824, 1825] [] O) z0 (ab_X17_column_393 k113 x0 x2 x3 x4 h) := by
  unfold ab_X17_column_393
  exact hk113 ox0 hs
theorem vk_X17_column_363 {O : Nat → Prop} {z0 : vt_S} {k113 : Nat → Int32 → Int32 → Int32 → vt_S → Option (Unit × vt_S)} (hk113 : ∀ {x0 : Nat} {x2 : Int32} {x3 : Int32} {x4 : Int32} {h : vt_S}, O x0 → vw [1815, 1816, 1817, 1818, 1819, 1821, 1823, 1827, 1828] [1820, 1822, 1824, 1825] [] O z0 h → vfr (vw [1815, 1816, 1817, 1818, 1819, 1821, 1823, 1827, 1828] [1820, 1822, 1824, 1825] [] O) z0 (k113 x0 x2 x3 x4 h)) {x0 : Nat} {x4 : Int32} {x5 : Int32} {x9 : Int32} {x10 : Int32} {x11 : Int32} {s0 : Int32} {h : vt_S} (ox0 : O x0) (hs : vw [1815, 1816, 1817, 1818, 1819, 1821, 1823, 1827, 1828] [1820, 1822, 1824, 1825] [] O z0 h) : vfr (vw [1815, 1816, 1817, 1818, 1819, 1821, 1823, 1827, 1828] [1820, 1822, 1824, 1825] [] O) z0 (ab_X17_column_363 k113 x0 x4 x5 x9 x10 x11 s0 h) := by
  unfold ab_X17_column_363
  refine vr_cl (fun _ _ e => (let q := vk_X17_part hs.2 ox0 e; ⟨hs.1.trans (q.1.weak (by decide) (by decide) (by decide)), q.2⟩)) (fun _ h hs => ?_)
  refine vr_cl (fun _ _ e => (let q := vk_X17_part hs.2 ox0 e; ⟨hs.1.trans (q.1.weak (by decide) (by decide) (by decide)), q.2⟩)) (fun _ h hs => ?_)
  exact vk_X17_column_393 hk113 ox0 hs
theorem vk_X17_column_315 {O : Nat → Prop} {z0 : vt_S} {k113 : Nat → Int32 → Int32 → Int32 → vt_S → Option (Unit × vt_S)} (hk113 : ∀ {x0 : Nat} {x2 : Int32} {x3 : Int32} {x4 : Int32} {h : vt_S}, O x0 → vw [1815, 1816, 1817, 1818, 1819, 1821, 1823, 1827, 1828] [1820, 1822, 1824, 1825] [] O z0 h → vfr (vw [1815, 1816, 1817, 1818, 1819, 1821, 1823, 1827, 1828] [1820, 1822, 1824, 1825] [] O) z0 (k113 x0 x2 x3 x4 h)) {x0 : Nat} {x4 : Int32} {x5 : Int32} {x7 : Int32} {x8 : Int32} {x9 : Int32} {x10 : Int32} {s0 : Int32} {h : vt_S} (ox0 : O x0) (hs : vw [1815, 1816, 1817, 1818, 1819, 1821, 1823, 1827, 1828] [1820, 1822, 1824, 1825] [] O z0 h) : vfr (vw [1815, 1816, 1817, 1818, 1819, 1821, 1823, 1827, 1828] [1820, 1822, 1824, 1825] [] O) z0 (ab_X17_column_315 k113 x0 x4 x5 x7 x8 x9 x10 s0 h) := by
  unfold ab_X17_column_315
  refine vr_gP hs ox0 (fun v1 ov1 => ?_)
  refine vr_bd (fun _ => ?_)
  refine vr_gP hs ox0 (fun v4 ov4 => ?_)
  refine vr_bd (fun _ => ?_)
  refine vr_if ?_ ?_
  · exact vk_X17_column_363 hk113 ox0 hs
  · refine vr_gP hs ox0 (fun v7 ov7 => ?_)
    refine vr_bd (fun _ => ?_)
    refine vr_cl (fun _ _ e => (by rw [ve_X17_rowOf e]; exact hs)) (fun _ h hs => ?_)
    exact vk_X17_column_363 hk113 ox0 hs
theorem vk_X17_column_113b {O : Nat → Prop} {z0 : vt_S} {k113 : Nat → Int32 → Int32 → Int32 → vt_S → Option (Unit × vt_S)} (hk113 : ∀ {x0 : Nat} {x2 : Int32} {x3 : Int32} {x4 : Int32} {h : vt_S}, O x0 → vw [1815, 1816, 1817, 1818, 1819, 1821, 1823, 1827, 1828] [1820, 1822, 1824, 1825] [] O z0 h → vfr (vw [1815, 1816, 1817, 1818, 1819, 1821, 1823, 1827, 1828] [1820, 1822, 1824, 1825] [] O) z0 (k113 x0 x2 x3 x4 h)) {x0 : Nat} {x2 : Int32} {x3 : Int32} {x4 : Int32} {h : vt_S} (ox0 : O x0) (hs : vw [1815, 1816, 1817, 1818, 1819, 1821, 1823, 1827, 1828] [1820, 1822, 1824, 1825] [] O z0 h) : vfr (vw [1815, 1816, 1817, 1818, 1819, 1821, 1823, 1827, 1828] [1820, 1822, 1824, 1825] [] O) z0 (ab_X17_column_113b k113 x0 x2 x3 x4 h) := by
  unfold ab_X17_column_113b
  refine vr_let (fun _ => ?_)
  refine vr_if ?_ ?_
  · exact vk_X17_column_399 hs
  · refine vr_if ?_ ?_
    · exact vk_X17_column_399 hs
    · refine vr_bd (fun _ => ?_)
      refine vr_cl (fun _ _ e => (let q := vk_X17_meets hs.2 ox0 e; ⟨hs.1.trans (q.1.weak (by decide) (by decide) (by decide)), q.2⟩)) (fun _ h hs => ?_)
      refine vr_cl (fun _ _ e => (by rw [ve_X17_sideOf e]; exact hs)) (fun _ h hs => ?_)
      refine vr_cl (fun _ _ e => (by rw [ve_X17_sideOf e]; exact hs)) (fun _ h hs => ?_)
      refine vr_if ?_ ?_
      · refine vr_let (fun _ => ?_)
        refine vr_sI hs (by decide) ox0 (fun h hs => ?_)
        refine vr_let (fun _ => ?_)
        refine vr_I hs (by decide) ox0 (fun h hs => ?_)
        refine vr_gP hs ox0 (fun v15 ov15 => ?_)
        refine vr_bd (fun _ => ?_)
        refine vr_cl (fun _ _ e => (by rw [ve_X17_rowOf e]; exact hs)) (fun _ h hs => ?_)
        refine vr_gP hs ox0 (fun v20 ov20 => ?_)
        refine vr_bd (fun _ => ?_)
        refine vr_cl (fun _ _ e => (by rw [ve_X17_rowOf e]; exact hs)) (fun _ h hs => ?_)
        refine vr_cl (fun _ _ e => (let q := vk_X17_flat hs.2 ox0 e; ⟨hs.1.trans (q.1.weak (by decide) (by decide) (by decide)), q.2⟩)) (fun _ h hs => ?_)
        refine vr_cl (fun _ _ e => (let q := vk_X17_flat hs.2 ox0 e; ⟨hs.1.trans (q.1.weak (by decide) (by decide) (by decide)), q.2⟩)) (fun _ h hs => ?_)
        refine vr_if ?_ ?_
        · refine vr_gP hs ox0 (fun v27 ov27 => ?_)
          refine vr_bd (fun _ => ?_)
          refine vr_gP hs ox0 (fun v30 ov30 => ?_)
          refine vr_bd (fun _ => ?_)
          refine vr_if ?_ ?_
          · exact vk_X17_column_315 hk113 ox0 hs
          · refine vr_gP hs ox0 (fun v33 ov33 => ?_)
            refine vr_bd (fun _ => ?_)
            refine vr_cl (fun _ _ e => (by rw [ve_X17_rowOf e]; exact hs)) (fun _ h hs => ?_)
            exact vk_X17_column_315 hk113 ox0 hs
        · refine vr_cl (fun _ _ e => (let q := vk_X17_part hs.2 ox0 e; ⟨hs.1.trans (q.1.weak (by decide) (by decide) (by decide)), q.2⟩)) (fun _ h hs => ?_)
          exact vk_X17_column_393 hk113 ox0 hs
      · exact vk_X17_column_393 hk113 ox0 hs
theorem vk_X17_column_113 {O : Nat → Prop} {z0 : vt_S} : ∀ (n : Nat) {x0 : Nat} {x2 : Int32} {x3 : Int32} {x4 : Int32} {h : vt_S}, O x0 → vw [1815, 1816, 1817, 1818, 1819, 1821, 1823, 1827, 1828] [1820, 1822, 1824, 1825] [] O z0 h → vfr (vw [1815, 1816, 1817, 1818, 1819, 1821, 1823, 1827, 1828] [1820, 1822, 1824, 1825] [] O) z0 (ab_X17_column_113 n x0 x2 x3 x4 h) := by
  intro n
  induction n with
  | zero => intro x0 x2 x3 x4 h ox0 hs; exact vr_no
  | succ n ih => intro x0 x2 x3 x4 h ox0 hs; exact vk_X17_column_113b (fun ox0 hs => ih ox0 hs) ox0 hs
theorem vk_X17_column_81b {O : Nat → Prop} {z0 : vt_S} {k81 : Nat → Int32 → Int32 → Int32 → vt_S → Option (Unit × vt_S)} (hk81 : ∀ {x0 : Nat} {x2 : Int32} {x3 : Int32} {x4 : Int32} {h : vt_S}, O x0 → vw [1815, 1816, 1817, 1818, 1819, 1821, 1823, 1827, 1828] [1820, 1822, 1824, 1825] [] O z0 h → vfr (vw [1815, 1816, 1817, 1818, 1819, 1821, 1823, 1827, 1828] [1820, 1822, 1824, 1825] [] O) z0 (k81 x0 x2 x3 x4 h)) {x0 : Nat} {x2 : Int32} {x3 : Int32} {x4 : Int32} {h : vt_S} (ox0 : O x0) (hs : vw [1815, 1816, 1817, 1818, 1819, 1821, 1823, 1827, 1828] [1820, 1822, 1824, 1825] [] O z0 h) : vfr (vw [1815, 1816, 1817, 1818, 1819, 1821, 1823, 1827, 1828] [1820, 1822, 1824, 1825] [] O) z0 (ab_X17_column_81b k81 x0 x2 x3 x4 h) := by
  unfold ab_X17_column_81b
  refine vr_if ?_ ?_
  · exact vk_X17_column_113 sv_fuel ox0 hs
  · refine vr_sI hs (by decide) ox0 (fun h hs => ?_)
    refine vr_sI hs (by decide) ox0 (fun h hs => ?_)
    exact hk81 ox0 hs
theorem vk_X17_column_81 {O : Nat → Prop} {z0 : vt_S} : ∀ (n : Nat) {x0 : Nat} {x2 : Int32} {x3 : Int32} {x4 : Int32} {h : vt_S}, O x0 → vw [1815, 1816, 1817, 1818, 1819, 1821, 1823, 1827, 1828] [1820, 1822, 1824, 1825] [] O z0 h → vfr (vw [1815, 1816, 1817, 1818, 1819, 1821, 1823, 1827, 1828] [1820, 1822, 1824, 1825] [] O) z0 (ab_X17_column_81 n x0 x2 x3 x4 h) := by
  intro n
  induction n with
  | zero => intro x0 x2 x3 x4 h ox0 hs; exact vr_no
  | succ n ih => intro x0 x2 x3 x4 h ox0 hs; exact vk_X17_column_81b (fun ox0 hs => ih ox0 hs) ox0 hs
theorem vk_X17_column_0 {O : Nat → Prop} {z0 : vt_S} {x0 : Nat} {x1 : Int32} {h : vt_S} (ox0 : O x0) (hs : vw [1815, 1816, 1817, 1818, 1819, 1821, 1823, 1827, 1828] [1820, 1822, 1824, 1825] [] O z0 h) : vfr (vw [1815, 1816, 1817, 1818, 1819, 1821, 1823, 1827, 1828] [1820, 1822, 1824, 1825] [] O) z0 (ab_X17_column x0 x1 h) := by
  unfold ab_X17_column
  refine vr_let (fun _ => ?_)
  refine vr_cl (fun _ _ e => (by rw [ve_X17_cosine e]; exact hs)) (fun _ h hs => ?_)
  refine vr_let (fun _ => ?_)
  refine vr_cl (fun _ _ e => (by rw [ve_X17_sine e]; exact hs)) (fun _ h hs => ?_)
  refine vr_let (fun _ => ?_)
  refine vr_cl (fun _ _ e => (by rw [ve_X17_sine e]; exact hs)) (fun _ h hs => ?_)
  refine vr_let (fun _ => ?_)
  refine vr_cl (fun _ _ e => (by rw [ve_X17_cosine e]; exact hs)) (fun _ h hs => ?_)
  refine vr_cl (fun _ _ e => (let q := vk_X17_gather hs.2 ox0 e; ⟨hs.1.trans (q.1.weak (by decide) (by decide) (by decide)), q.2⟩)) (fun _ h hs => ?_)
  refine vr_I hs (by decide) ox0 (fun h hs => ?_)
  exact vk_X17_column_81 sv_fuel ox0 hs
theorem vk_X17_column {O : Nat → Prop} {x0 : Nat} {x1 : Int32} {h : vt_S} {r : Unit} {s : vt_S} (c : vcl O h) (ox0 : O x0) (e : ab_X17_column x0 x1 h = some (r, s)) : vw [1815, 1816, 1817, 1818, 1819, 1821, 1823, 1827, 1828] [1820, 1822, 1824, 1825] [] O h s := vk_X17_column_0 ox0 ⟨vk.refl h, c⟩ r s e

