theorem vk_X17_pixelAt_0 {O : Nat → Prop} {z0 : vt_S} {x0 : Nat} {x1 : Int32} {x2 : Int32} {h : vt_S} (ox0 : O x0) (hs : vw [1800, 1815, 1816, 1817, 1818, 1819, 1821, 1823, 1827, 1828] [1820, 1822, 1824, 1825] [] O z0 h) : vfr (vw [1800, 1815, 1816, 1817, 1818, 1819, 1821, 1823, 1827, 1828] [1820, 1822, 1824, 1825] [] O) z0 (ab_X17_pixelAt x0 x1 x2 h) := by
  unfold ab_X17_pixelAt
  refine vr_I hs (by decide) ox0 (fun h hs => ?_)
  refine vr_cl (fun _ _ e => (by rw [ve_X17_isPixel e]; exact hs)) (fun _ h hs => ?_)
  refine vr_if ?_ ?_
  · exact vr_rt hs
  · refine vr_cl (fun _ _ e => (let q := vk_X17_column hs.2 ox0 e; ⟨hs.1.trans (q.1.weak (by decide) (by decide) (by decide)), q.2⟩)) (fun _ h hs => ?_)
    refine vr_bd (fun _ => ?_)
    exact vr_rt hs
theorem vk_X17_pixelAt {O : Nat → Prop} {x0 : Nat} {x1 : Int32} {x2 : Int32} {h : vt_S} {r : Int32} {s : vt_S} (c : vcl O h) (ox0 : O x0) (e : ab_X17_pixelAt x0 x1 x2 h = some (r, s)) : vw [1800, 1815, 1816, 1817, 1818, 1819, 1821, 1823, 1827, 1828] [1820, 1822, 1824, 1825] [] O h s := vk_X17_pixelAt_0 ox0 ⟨vk.refl h, c⟩ r s e

theorem vk_X12_surfaceAt_18 {O : Nat → Prop} {z0 : vt_S} {h : vt_S} (hs : vw [406, 407, 408, 409, 410, 1004, 1005, 1006, 1007] [400, 401, 402, 403, 404, 405, 1001, 1002, 1003] [] O z0 h) : vfr (vw [406, 407, 408, 409, 410, 1004, 1005, 1006, 1007] [400, 401, 402, 403, 404, 405, 1001, 1002, 1003] [] O) z0 (ab_X12_surfaceAt_18 h) := by
  unfold ab_X12_surfaceAt_18
  exact vr_rt hs
theorem vk_X12_surfaceAt_0 {O : Nat → Prop} {z0 : vt_S} {x0 : Nat} {x1 : Int32} {x2 : Int32} {h : vt_S} (ox0 : O x0) (hs : vw [406, 407, 408, 409, 410, 1004, 1005, 1006, 1007] [400, 401, 402, 403, 404, 405, 1001, 1002, 1003] [] O z0 h) : vfr (vw [406, 407, 408, 409, 410, 1004, 1005, 1006, 1007] [400, 401, 402, 403, 404, 405, 1001, 1002, 1003] [] O) z0 (ab_X12_surfaceAt x0 x1 x2 h) := by
  unfold ab_X12_surfaceAt
  refine vr_cl (fun _ _ e => (by rw [ve_X12_isSeen e]; exact hs)) (fun _ h hs => ?_)
  refine vr_if ?_ ?_
  · exact vk_X12_surfaceAt_18 hs
  · refine vr_if ?_ ?_
    · exact vk_X12_surfaceAt_18 hs
    · refine vr_if ?_ ?_
      · refine vr_gP hs ox0 (fun v3 ov3 => ?_)
        refine vr_gP hs ox0 (fun v4 ov4 => ?_)
        refine vr_cl (fun _ _ e => (let q := vk_X9_look hs.2 ov3 ov4 e; ⟨hs.1.trans (q.1.weak (by decide) (by decide) (by decide)), q.2⟩)) (fun _ h hs => ?_)
        refine vr_gP hs ox0 (fun v6 ov6 => ?_)
        refine vr_bd (fun _ => ?_)
        exact vr_rt hs
      · exact vk_X12_surfaceAt_18 hs
theorem vk_X12_surfaceAt {O : Nat → Prop} {x0 : Nat} {x1 : Int32} {x2 : Int32} {h : vt_S} {r : Int32} {s : vt_S} (c : vcl O h) (ox0 : O x0) (e : ab_X12_surfaceAt x0 x1 x2 h = some (r, s)) : vw [406, 407, 408, 409, 410, 1004, 1005, 1006, 1007] [400, 401, 402, 403, 404, 405, 1001, 1002, 1003] [] O h s := vk_X12_surfaceAt_0 ox0 ⟨vk.refl h, c⟩ r s e

theorem vk_X17_surfaceAt_0 {O : Nat → Prop} {z0 : vt_S} {x0 : Nat} {x1 : Int32} {x2 : Int32} {h : vt_S} (ox0 : O x0) (hs : vw [1800, 1815, 1816, 1817, 1818, 1819, 1821, 1823, 1827, 1828] [1820, 1822, 1824, 1825] [] O z0 h) : vfr (vw [1800, 1815, 1816, 1817, 1818, 1819, 1821, 1823, 1827, 1828] [1820, 1822, 1824, 1825] [] O) z0 (ab_X17_surfaceAt x0 x1 x2 h) := by
  unfold ab_X17_surfaceAt
  refine vr_I hs (by decide) ox0 (fun h hs => ?_)
  refine vr_cl (fun _ _ e => (by rw [ve_X17_isPixel e]; exact hs)) (fun _ h hs => ?_)
  refine vr_if ?_ ?_
  · exact vr_rt hs
  · refine vr_cl (fun _ _ e => (let q := vk_X17_column hs.2 ox0 e; ⟨hs.1.trans (q.1.weak (by decide) (by decide) (by decide)), q.2⟩)) (fun _ h hs => ?_)
    refine vr_bd (fun _ => ?_)
    exact vr_rt hs
theorem vk_X17_surfaceAt {O : Nat → Prop} {x0 : Nat} {x1 : Int32} {x2 : Int32} {h : vt_S} {r : Int32} {s : vt_S} (c : vcl O h) (ox0 : O x0) (e : ab_X17_surfaceAt x0 x1 x2 h = some (r, s)) : vw [1800, 1815, 1816, 1817, 1818, 1819, 1821, 1823, 1827, 1828] [1820, 1822, 1824, 1825] [] O h s := vk_X17_surfaceAt_0 ox0 ⟨vk.refl h, c⟩ r s e

theorem vk_X12_metAt_12 {O : Nat → Prop} {z0 : vt_S} {h : vt_S} (hs : vw [406, 407, 408, 409, 410, 1004, 1005, 1006, 1007] [400, 401, 402, 403, 404, 405, 1001, 1002, 1003] [] O z0 h) : vfr (vw [406, 407, 408, 409, 410, 1004, 1005, 1006, 1007] [400, 401, 402, 403, 404, 405, 1001, 1002, 1003] [] O) z0 (ab_X12_metAt_12 h) := by
  unfold ab_X12_metAt_12
  exact vr_rt hs
theorem vk_X12_metAt_50 {O : Nat → Prop} {z0 : vt_S} {s0 : Int32} {h : vt_S} (hs : vw [406, 407, 408, 409, 410, 1004, 1005, 1006, 1007] [400, 401, 402, 403, 404, 405, 1001, 1002, 1003] [] O z0 h) : vfr (vw [406, 407, 408, 409, 410, 1004, 1005, 1006, 1007] [400, 401, 402, 403, 404, 405, 1001, 1002, 1003] [] O) z0 (ab_X12_metAt_50 s0 h) := by
  unfold ab_X12_metAt_50
  exact vr_rt hs
theorem vk_X12_metAt_0 {O : Nat → Prop} {z0 : vt_S} {x0 : Nat} {x1 : Int32} {x2 : Int32} {h : vt_S} (ox0 : O x0) (hs : vw [406, 407, 408, 409, 410, 1004, 1005, 1006, 1007] [400, 401, 402, 403, 404, 405, 1001, 1002, 1003] [] O z0 h) : vfr (vw [406, 407, 408, 409, 410, 1004, 1005, 1006, 1007] [400, 401, 402, 403, 404, 405, 1001, 1002, 1003] [] O) z0 (ab_X12_metAt x0 x1 x2 h) := by
  unfold ab_X12_metAt
  refine vr_cl (fun _ _ e => (by rw [ve_X12_isSeen e]; exact hs)) (fun _ h hs => ?_)
  refine vr_if ?_ ?_
  · exact vk_X12_metAt_12 hs
  · refine vr_if ?_ ?_
    · refine vr_gP hs ox0 (fun v3 ov3 => ?_)
      refine vr_gP hs ox0 (fun v4 ov4 => ?_)
      refine vr_cl (fun _ _ e => (let q := vk_X9_look hs.2 ov3 ov4 e; ⟨hs.1.trans (q.1.weak (by decide) (by decide) (by decide)), q.2⟩)) (fun _ h hs => ?_)
      refine vr_gP hs ox0 (fun v6 ov6 => ?_)
      refine vr_let (fun _ => ?_)
      refine vr_if ?_ ?_
      · exact vk_X12_metAt_50 hs
      · refine vr_gP hs ox0 (fun v8 ov8 => ?_)
        refine vr_bd (fun _ => ?_)
        exact vk_X12_metAt_50 hs
    · exact vk_X12_metAt_12 hs
theorem vk_X12_metAt {O : Nat → Prop} {x0 : Nat} {x1 : Int32} {x2 : Int32} {h : vt_S} {r : Int32} {s : vt_S} (c : vcl O h) (ox0 : O x0) (e : ab_X12_metAt x0 x1 x2 h = some (r, s)) : vw [406, 407, 408, 409, 410, 1004, 1005, 1006, 1007] [400, 401, 402, 403, 404, 405, 1001, 1002, 1003] [] O h s := vk_X12_metAt_0 ox0 ⟨vk.refl h, c⟩ r s e

theorem vk_X17_metAt_43 {O : Nat → Prop} {z0 : vt_S} {s0 : Int32} {h : vt_S} (hs : vw [1800, 1815, 1816, 1817, 1818, 1819, 1821, 1823, 1827, 1828] [1820, 1822, 1824, 1825] [] O z0 h) : vfr (vw [1800, 1815, 1816, 1817, 1818, 1819, 1821, 1823, 1827, 1828] [1820, 1822, 1824, 1825] [] O) z0 (ab_X17_metAt_43 s0 h) := by
  unfold ab_X17_metAt_43
  exact vr_rt hs
theorem vk_X17_metAt_42 {O : Nat → Prop} {z0 : vt_S} {h : vt_S} (hs : vw [1800, 1815, 1816, 1817, 1818, 1819, 1821, 1823, 1827, 1828] [1820, 1822, 1824, 1825] [] O z0 h) : vfr (vw [1800, 1815, 1816, 1817, 1818, 1819, 1821, 1823, 1827, 1828] [1820, 1822, 1824, 1825] [] O) z0 (ab_X17_metAt_42 h) := by
  unfold ab_X17_metAt_42
  exact vk_X17_metAt_43 hs
theorem vk_X17_metAt_0 {O : Nat → Prop} {z0 : vt_S} {x0 : Nat} {x1 : Int32} {x2 : Int32} {h : vt_S} (ox0 : O x0) (hs : vw [1800, 1815, 1816, 1817, 1818, 1819, 1821, 1823, 1827, 1828] [1820, 1822, 1824, 1825] [] O z0 h) : vfr (vw [1800, 1815, 1816, 1817, 1818, 1819, 1821, 1823, 1827, 1828] [1820, 1822, 1824, 1825] [] O) z0 (ab_X17_metAt x0 x1 x2 h) := by
  unfold ab_X17_metAt
  refine vr_I hs (by decide) ox0 (fun h hs => ?_)
  refine vr_cl (fun _ _ e => (by rw [ve_X17_isPixel e]; exact hs)) (fun _ h hs => ?_)
  refine vr_if ?_ ?_
  · exact vr_rt hs
  · refine vr_cl (fun _ _ e => (let q := vk_X17_column hs.2 ox0 e; ⟨hs.1.trans (q.1.weak (by decide) (by decide) (by decide)), q.2⟩)) (fun _ h hs => ?_)
    refine vr_if ?_ ?_
    · exact vk_X17_metAt_42 hs
    · refine vr_let (fun _ => ?_)
      refine vr_if ?_ ?_
      · exact vk_X17_metAt_42 hs
      · refine vr_bd (fun _ => ?_)
        exact vk_X17_metAt_43 hs
theorem vk_X17_metAt {O : Nat → Prop} {x0 : Nat} {x1 : Int32} {x2 : Int32} {h : vt_S} {r : Int32} {s : vt_S} (c : vcl O h) (ox0 : O x0) (e : ab_X17_metAt x0 x1 x2 h = some (r, s)) : vw [1800, 1815, 1816, 1817, 1818, 1819, 1821, 1823, 1827, 1828] [1820, 1822, 1824, 1825] [] O h s := vk_X17_metAt_0 ox0 ⟨vk.refl h, c⟩ r s e

theorem vk_X12_frameOf_62b {O : Nat → Prop} {z0 : vt_S} {k36 : Nat → Int64 → Int64 → Int32 → vt_S → Option (Int64 × vt_S)} (hk36 : ∀ {x0 : Nat} {x1 : Int64} {x3 : Int64} {x5 : Int32} {h : vt_S}, O x0 → vw [406, 407, 408, 409, 410, 1004, 1005, 1006, 1007] [400, 401, 402, 403, 404, 405, 1001, 1002, 1003] [] O z0 h → vfr (vw [406, 407, 408, 409, 410, 1004, 1005, 1006, 1007] [400, 401, 402, 403, 404, 405, 1001, 1002, 1003] [] O) z0 (k36 x0 x1 x3 x5 h)) {k62 : Nat → Int64 → Int64 → Int32 → Int64 → Int32 → vt_S → Option (Int64 × vt_S)} (hk62 : ∀ {x0 : Nat} {x1 : Int64} {x3 : Int64} {x5 : Int32} {x6 : Int64} {x8 : Int32} {h : vt_S}, O x0 → vw [406, 407, 408, 409, 410, 1004, 1005, 1006, 1007] [400, 401, 402, 403, 404, 405, 1001, 1002, 1003] [] O z0 h → vfr (vw [406, 407, 408, 409, 410, 1004, 1005, 1006, 1007] [400, 401, 402, 403, 404, 405, 1001, 1002, 1003] [] O) z0 (k62 x0 x1 x3 x5 x6 x8 h)) {x0 : Nat} {x1 : Int64} {x3 : Int64} {x5 : Int32} {x6 : Int64} {x8 : Int32} {h : vt_S} (ox0 : O x0) (hs : vw [406, 407, 408, 409, 410, 1004, 1005, 1006, 1007] [400, 401, 402, 403, 404, 405, 1001, 1002, 1003] [] O z0 h) : vfr (vw [406, 407, 408, 409, 410, 1004, 1005, 1006, 1007] [400, 401, 402, 403, 404, 405, 1001, 1002, 1003] [] O) z0 (ab_X12_frameOf_62b k36 k62 x0 x1 x3 x5 x6 x8 h) := by
  unfold ab_X12_frameOf_62b
  refine vr_if ?_ ?_
  · exact hk36 ox0 hs
  · refine vr_gP hs ox0 (fun v1 ov1 => ?_)
    refine vr_bd (fun _ => ?_)
    exact hk62 ox0 hs
theorem vk_X12_frameOf_62 {O : Nat → Prop} {z0 : vt_S} {k36 : Nat → Int64 → Int64 → Int32 → vt_S → Option (Int64 × vt_S)} (hk36 : ∀ {x0 : Nat} {x1 : Int64} {x3 : Int64} {x5 : Int32} {h : vt_S}, O x0 → vw [406, 407, 408, 409, 410, 1004, 1005, 1006, 1007] [400, 401, 402, 403, 404, 405, 1001, 1002, 1003] [] O z0 h → vfr (vw [406, 407, 408, 409, 410, 1004, 1005, 1006, 1007] [400, 401, 402, 403, 404, 405, 1001, 1002, 1003] [] O) z0 (k36 x0 x1 x3 x5 h)) : ∀ (n : Nat) {x0 : Nat} {x1 : Int64} {x3 : Int64} {x5 : Int32} {x6 : Int64} {x8 : Int32} {h : vt_S}, O x0 → vw [406, 407, 408, 409, 410, 1004, 1005, 1006, 1007] [400, 401, 402, 403, 404, 405, 1001, 1002, 1003] [] O z0 h → vfr (vw [406, 407, 408, 409, 410, 1004, 1005, 1006, 1007] [400, 401, 402, 403, 404, 405, 1001, 1002, 1003] [] O) z0 (ab_X12_frameOf_62 k36 n x0 x1 x3 x5 x6 x8 h) := by
  intro n
  induction n with
  | zero => intro x0 x1 x3 x5 x6 x8 h ox0 hs; exact vr_no
  | succ n ih => intro x0 x1 x3 x5 x6 x8 h ox0 hs; exact vk_X12_frameOf_62b hk36 (fun ox0 hs => ih ox0 hs) ox0 hs
theorem vk_X12_frameOf_36b {O : Nat → Prop} {z0 : vt_S} {k36 : Nat → Int64 → Int64 → Int32 → vt_S → Option (Int64 × vt_S)} (hk36 : ∀ {x0 : Nat} {x1 : Int64} {x3 : Int64} {x5 : Int32} {h : vt_S}, O x0 → vw [406, 407, 408, 409, 410, 1004, 1005, 1006, 1007] [400, 401, 402, 403, 404, 405, 1001, 1002, 1003] [] O z0 h → vfr (vw [406, 407, 408, 409, 410, 1004, 1005, 1006, 1007] [400, 401, 402, 403, 404, 405, 1001, 1002, 1003] [] O) z0 (k36 x0 x1 x3 x5 h)) {x0 : Nat} {x1 : Int64} {x3 : Int64} {x5 : Int32} {h : vt_S} (ox0 : O x0) (hs : vw [406, 407, 408, 409, 410, 1004, 1005, 1006, 1007] [400, 401, 402, 403, 404, 405, 1001, 1002, 1003] [] O z0 h) : vfr (vw [406, 407, 408, 409, 410, 1004, 1005, 1006, 1007] [400, 401, 402, 403, 404, 405, 1001, 1002, 1003] [] O) z0 (ab_X12_frameOf_36b k36 x0 x1 x3 x5 h) := by
  unfold ab_X12_frameOf_36b
  refine vr_if ?_ ?_
  · exact vr_rt hs
  · refine vr_gP hs ox0 (fun v1 ov1 => ?_)
    refine vr_gP hs ox0 (fun v2 ov2 => ?_)
    refine vr_cl (fun _ _ e => (let q := vk_X9_look hs.2 ov1 ov2 e; ⟨hs.1.trans (q.1.weak (by decide) (by decide) (by decide)), q.2⟩)) (fun _ h hs => ?_)
    exact vk_X12_frameOf_62 hk36 sv_fuel ox0 hs
theorem vk_X12_frameOf_36 {O : Nat → Prop} {z0 : vt_S} : ∀ (n : Nat) {x0 : Nat} {x1 : Int64} {x3 : Int64} {x5 : Int32} {h : vt_S}, O x0 → vw [406, 407, 408, 409, 410, 1004, 1005, 1006, 1007] [400, 401, 402, 403, 404, 405, 1001, 1002, 1003] [] O z0 h → vfr (vw [406, 407, 408, 409, 410, 1004, 1005, 1006, 1007] [400, 401, 402, 403, 404, 405, 1001, 1002, 1003] [] O) z0 (ab_X12_frameOf_36 n x0 x1 x3 x5 h) := by
  intro n
  induction n with
  | zero => intro x0 x1 x3 x5 h ox0 hs; exact vr_no
  | succ n ih => intro x0 x1 x3 x5 h ox0 hs; exact vk_X12_frameOf_36b (fun ox0 hs => ih ox0 hs) ox0 hs
theorem vk_X12_frameOf_13b {O : Nat → Prop} {z0 : vt_S} {k13 : Nat → Int64 → Int32 → vt_S → Option (Int64 × vt_S)} (hk13 : ∀ {x0 : Nat} {x1 : Int64} {x3 : Int32} {h : vt_S}, O x0 → vw [406, 407, 408, 409, 410, 1004, 1005, 1006, 1007] [400, 401, 402, 403, 404, 405, 1001, 1002, 1003] [] O z0 h → vfr (vw [406, 407, 408, 409, 410, 1004, 1005, 1006, 1007] [400, 401, 402, 403, 404, 405, 1001, 1002, 1003] [] O) z0 (k13 x0 x1 x3 h)) {x0 : Nat} {x1 : Int64} {x3 : Int32} {h : vt_S} (ox0 : O x0) (hs : vw [406, 407, 408, 409, 410, 1004, 1005, 1006, 1007] [400, 401, 402, 403, 404, 405, 1001, 1002, 1003] [] O z0 h) : vfr (vw [406, 407, 408, 409, 410, 1004, 1005, 1006, 1007] [400, 401, 402, 403, 404, 405, 1001, 1002, 1003] [] O) z0 (ab_X12_frameOf_13b k13 x0 x1 x3 h) := by
  unfold ab_X12_frameOf_13b
  refine vr_if ?_ ?_
  · exact vk_X12_frameOf_36 sv_fuel ox0 hs
  · exact hk13 ox0 hs
theorem vk_X12_frameOf_13 {O : Nat → Prop} {z0 : vt_S} : ∀ (n : Nat) {x0 : Nat} {x1 : Int64} {x3 : Int32} {h : vt_S}, O x0 → vw [406, 407, 408, 409, 410, 1004, 1005, 1006, 1007] [400, 401, 402, 403, 404, 405, 1001, 1002, 1003] [] O z0 h → vfr (vw [406, 407, 408, 409, 410, 1004, 1005, 1006, 1007] [400, 401, 402, 403, 404, 405, 1001, 1002, 1003] [] O) z0 (ab_X12_frameOf_13 n x0 x1 x3 h) := by
  intro n
  induction n with
  | zero => intro x0 x1 x3 h ox0 hs; exact vr_no
  | succ n ih => intro x0 x1 x3 h ox0 hs; exact vk_X12_frameOf_13b (fun ox0 hs => ih ox0 hs) ox0 hs
theorem vk_X12_frameOf_0 {O : Nat → Prop} {z0 : vt_S} {x0 : Nat} {h : vt_S} (ox0 : O x0) (hs : vw [406, 407, 408, 409, 410, 1004, 1005, 1006, 1007] [400, 401, 402, 403, 404, 405, 1001, 1002, 1003] [] O z0 h) : vfr (vw [406, 407, 408, 409, 410, 1004, 1005, 1006, 1007] [400, 401, 402, 403, 404, 405, 1001, 1002, 1003] [] O) z0 (ab_X12_frameOf x0 h) := by
  unfold ab_X12_frameOf
  refine vr_cl (fun _ _ e => (by rw [ve_X12_hasMap e]; exact hs)) (fun _ h hs => ?_)
  refine vr_if ?_ ?_
  · exact vr_rt hs
  · exact vk_X12_frameOf_13 sv_fuel ox0 hs
theorem vk_X12_frameOf {O : Nat → Prop} {x0 : Nat} {h : vt_S} {r : Int64} {s : vt_S} (c : vcl O h) (ox0 : O x0) (e : ab_X12_frameOf x0 h = some (r, s)) : vw [406, 407, 408, 409, 410, 1004, 1005, 1006, 1007] [400, 401, 402, 403, 404, 405, 1001, 1002, 1003] [] O h s := vk_X12_frameOf_0 ox0 ⟨vk.refl h, c⟩ r s e

theorem vk_X17_frameOf_68b {O : Nat → Prop} {z0 : vt_S} {k68 : Nat → Int64 → Int32 → vt_S → Option (Int64 × vt_S)} (hk68 : ∀ {x0 : Nat} {x1 : Int64} {x3 : Int32} {h : vt_S}, O x0 → vw [1800, 1815, 1816, 1817, 1818, 1819, 1821, 1823, 1827, 1828] [1820, 1822, 1824, 1825, 1826] [] O z0 h → vfr (vw [1800, 1815, 1816, 1817, 1818, 1819, 1821, 1823, 1827, 1828] [1820, 1822, 1824, 1825, 1826] [] O) z0 (k68 x0 x1 x3 h)) {x0 : Nat} {x1 : Int64} {x3 : Int32} {h : vt_S} (ox0 : O x0) (hs : vw [1800, 1815, 1816, 1817, 1818, 1819, 1821, 1823, 1827, 1828] [1820, 1822, 1824, 1825, 1826] [] O z0 h) : vfr (vw [1800, 1815, 1816, 1817, 1818, 1819, 1821, 1823, 1827, 1828] [1820, 1822, 1824, 1825, 1826] [] O) z0 (ab_X17_frameOf_68b k68 x0 x1 x3 h) := by
  unfold ab_X17_frameOf_68b
  refine vr_if ?_ ?_
  · exact vr_rt hs
  · refine vr_bd (fun _ => ?_)
    exact hk68 ox0 hs
theorem vk_X17_frameOf_68 {O : Nat → Prop} {z0 : vt_S} : ∀ (n : Nat) {x0 : Nat} {x1 : Int64} {x3 : Int32} {h : vt_S}, O x0 → vw [1800, 1815, 1816, 1817, 1818, 1819, 1821, 1823, 1827, 1828] [1820, 1822, 1824, 1825, 1826] [] O z0 h → vfr (vw [1800, 1815, 1816, 1817, 1818, 1819, 1821, 1823, 1827, 1828] [1820, 1822, 1824, 1825, 1826] [] O) z0 (ab_X17_frameOf_68 n x0 x1 x3 h) := by
  intro n
  induction n with
  | zero => intro x0 x1 x3 h ox0 hs; exact vr_no
  | succ n ih => intro x0 x1 x3 h ox0 hs; exact vk_X17_frameOf_68b (fun ox0 hs => ih ox0 hs) ox0 hs
theorem vk_X17_frameOf_29b {O : Nat → Prop} {z0 : vt_S} {k16 : Nat → Int32 → vt_S → Option (Int64 × vt_S)} (hk16 : ∀ {x0 : Nat} {x1 : Int32} {h : vt_S}, O x0 → vw [1800, 1815, 1816, 1817, 1818, 1819, 1821, 1823, 1827, 1828] [1820, 1822, 1824, 1825, 1826] [] O z0 h → vfr (vw [1800, 1815, 1816, 1817, 1818, 1819, 1821, 1823, 1827, 1828] [1820, 1822, 1824, 1825, 1826] [] O) z0 (k16 x0 x1 h)) {k29 : Nat → Int32 → Int32 → vt_S → Option (Int64 × vt_S)} (hk29 : ∀ {x0 : Nat} {x1 : Int32} {x2 : Int32} {h : vt_S}, O x0 → vw [1800, 1815, 1816, 1817, 1818, 1819, 1821, 1823, 1827, 1828] [1820, 1822, 1824, 1825, 1826] [] O z0 h → vfr (vw [1800, 1815, 1816, 1817, 1818, 1819, 1821, 1823, 1827, 1828] [1820, 1822, 1824, 1825, 1826] [] O) z0 (k29 x0 x1 x2 h)) {x0 : Nat} {x1 : Int32} {x2 : Int32} {h : vt_S} (ox0 : O x0) (hs : vw [1800, 1815, 1816, 1817, 1818, 1819, 1821, 1823, 1827, 1828] [1820, 1822, 1824, 1825, 1826] [] O z0 h) : vfr (vw [1800, 1815, 1816, 1817, 1818, 1819, 1821, 1823, 1827, 1828] [1820, 1822, 1824, 1825, 1826] [] O) z0 (ab_X17_frameOf_29b k16 k29 x0 x1 x2 h) := by
  unfold ab_X17_frameOf_29b
  refine vr_if ?_ ?_
  · exact hk16 ox0 hs
  · refine vr_bd (fun _ => ?_)
    refine vr_sI hs (by decide) ox0 (fun h hs => ?_)
    exact hk29 ox0 hs
theorem vk_X17_frameOf_29 {O : Nat → Prop} {z0 : vt_S} {k16 : Nat → Int32 → vt_S → Option (Int64 × vt_S)} (hk16 : ∀ {x0 : Nat} {x1 : Int32} {h : vt_S}, O x0 → vw [1800, 1815, 1816, 1817, 1818, 1819, 1821, 1823, 1827, 1828] [1820, 1822, 1824, 1825, 1826] [] O z0 h → vfr (vw [1800, 1815, 1816, 1817, 1818, 1819, 1821, 1823, 1827, 1828] [1820, 1822, 1824, 1825, 1826] [] O) z0 (k16 x0 x1 h)) : ∀ (n : Nat) {x0 : Nat} {x1 : Int32} {x2 : Int32} {h : vt_S}, O x0 → vw [1800, 1815, 1816, 1817, 1818, 1819, 1821, 1823, 1827, 1828] [1820, 1822, 1824, 1825, 1826] [] O z0 h → vfr (vw [1800, 1815, 1816, 1817, 1818, 1819, 1821, 1823, 1827, 1828] [1820, 1822, 1824, 1825, 1826] [] O) z0 (ab_X17_frameOf_29 k16 n x0 x1 x2 h) := by
  intro n
  induction n with
  | zero => intro x0 x1 x2 h ox0 hs; exact vr_no
  | succ n ih => intro x0 x1 x2 h ox0 hs; exact vk_X17_frameOf_29b hk16 (fun ox0 hs => ih ox0 hs) ox0 hs
theorem vk_X17_frameOf_16b {O : Nat → Prop} {z0 : vt_S} {k16 : Nat → Int32 → vt_S → Option (Int64 × vt_S)} (hk16 : ∀ {x0 : Nat} {x1 : Int32} {h : vt_S}, O x0 → vw [1800, 1815, 1816, 1817, 1818, 1819, 1821, 1823, 1827, 1828] [1820, 1822, 1824, 1825, 1826] [] O z0 h → vfr (vw [1800, 1815, 1816, 1817, 1818, 1819, 1821, 1823, 1827, 1828] [1820, 1822, 1824, 1825, 1826] [] O) z0 (k16 x0 x1 h)) {x0 : Nat} {x1 : Int32} {h : vt_S} (ox0 : O x0) (hs : vw [1800, 1815, 1816, 1817, 1818, 1819, 1821, 1823, 1827, 1828] [1820, 1822, 1824, 1825, 1826] [] O z0 h) : vfr (vw [1800, 1815, 1816, 1817, 1818, 1819, 1821, 1823, 1827, 1828] [1820, 1822, 1824, 1825, 1826] [] O) z0 (ab_X17_frameOf_16b k16 x0 x1 h) := by
  unfold ab_X17_frameOf_16b
  refine vr_if ?_ ?_
  · exact vk_X17_frameOf_68 sv_fuel ox0 hs
  · refine vr_cl (fun _ _ e => (let q := vk_X17_column hs.2 ox0 e; ⟨hs.1.trans (q.1.weak (by decide) (by decide) (by decide)), q.2⟩)) (fun _ h hs => ?_)
    exact vk_X17_frameOf_29 hk16 sv_fuel ox0 hs
theorem vk_X17_frameOf_16 {O : Nat → Prop} {z0 : vt_S} : ∀ (n : Nat) {x0 : Nat} {x1 : Int32} {h : vt_S}, O x0 → vw [1800, 1815, 1816, 1817, 1818, 1819, 1821, 1823, 1827, 1828] [1820, 1822, 1824, 1825, 1826] [] O z0 h → vfr (vw [1800, 1815, 1816, 1817, 1818, 1819, 1821, 1823, 1827, 1828] [1820, 1822, 1824, 1825, 1826] [] O) z0 (ab_X17_frameOf_16 n x0 x1 h) := by
  intro n
  induction n with
  | zero => intro x0 x1 h ox0 hs; exact vr_no
  | succ n ih => intro x0 x1 h ox0 hs; exact vk_X17_frameOf_16b (fun ox0 hs => ih ox0 hs) ox0 hs
theorem vk_X17_frameOf_0 {O : Nat → Prop} {z0 : vt_S} {x0 : Nat} {h : vt_S} (ox0 : O x0) (hs : vw [1800, 1815, 1816, 1817, 1818, 1819, 1821, 1823, 1827, 1828] [1820, 1822, 1824, 1825, 1826] [] O z0 h) : vfr (vw [1800, 1815, 1816, 1817, 1818, 1819, 1821, 1823, 1827, 1828] [1820, 1822, 1824, 1825, 1826] [] O) z0 (ab_X17_frameOf x0 h) := by
  unfold ab_X17_frameOf
  refine vr_I hs (by decide) ox0 (fun h hs => ?_)
  refine vr_let (fun _ => ?_)
  refine vr_if ?_ ?_
  · exact vr_rt hs
  · exact vk_X17_frameOf_16 sv_fuel ox0 hs
theorem vk_X17_frameOf {O : Nat → Prop} {x0 : Nat} {h : vt_S} {r : Int64} {s : vt_S} (c : vcl O h) (ox0 : O x0) (e : ab_X17_frameOf x0 h = some (r, s)) : vw [1800, 1815, 1816, 1817, 1818, 1819, 1821, 1823, 1827, 1828] [1820, 1822, 1824, 1825, 1826] [] O h s := vk_X17_frameOf_0 ox0 ⟨vk.refl h, c⟩ r s e

theorem ve_X12_nodeOf_22 {z0 : vt_S} {h : vt_S} (hs : veq z0 h) : vfr veq z0 (ab_X12_nodeOf_22 h) := by
  unfold ab_X12_nodeOf_22
  exact vr_rt hs
theorem ve_X12_nodeOf_0 {z0 : vt_S} {x0 : Nat} {x1 : Int32} {x2 : Int32} {h : vt_S} (hs : veq z0 h) : vfr veq z0 (ab_X12_nodeOf x0 x1 x2 h) := by
  unfold ab_X12_nodeOf
  refine vr_cl (fun _ _ e => ((ve_X12_hasMap e).trans hs)) (fun _ h hs => ?_)
  refine vr_if ?_ ?_
  · exact ve_X12_nodeOf_22 hs
  · refine vr_if ?_ ?_
    · exact ve_X12_nodeOf_22 hs
    · refine vr_let (fun _ => ?_)
      refine vr_let (fun _ => ?_)
      refine vr_if ?_ ?_
      · refine vr_if ?_ ?_
        · refine vr_let (fun _ => ?_)
          refine vr_bd (fun _ => ?_)
          exact vr_rt hs
        refine vr_if ?_ ?_
        · refine vr_let (fun _ => ?_)
          refine vr_bd (fun _ => ?_)
          refine vr_let (fun _ => ?_)
          exact vr_rt hs
        refine vr_if ?_ ?_
        · refine vr_let (fun _ => ?_)
          refine vr_bd (fun _ => ?_)
          refine vr_let (fun _ => ?_)
          exact vr_rt hs
        refine vr_if ?_ ?_
        · refine vr_let (fun _ => ?_)
          refine vr_bd (fun _ => ?_)
          exact vr_rt hs
        refine vr_if ?_ ?_
        · refine vr_let (fun _ => ?_)
          refine vr_bd (fun _ => ?_)
          exact vr_rt hs
        refine vr_if ?_ ?_
        · refine vr_let (fun _ => ?_)
          refine vr_bd (fun _ => ?_)
          exact vr_rt hs
        exact vr_rt hs
      · exact ve_X12_nodeOf_22 hs
theorem ve_X12_nodeOf {x0 : Nat} {x1 : Int32} {x2 : Int32} {h : vt_S} {r : Int32} {s : vt_S} (e : ab_X12_nodeOf x0 x1 x2 h = some (r, s)) : s = h := ve_X12_nodeOf_0 rfl r s e

theorem vk_X16_piece_0 {O : Nat → Prop} {z0 : vt_S} {x0 : Nat} {x1 : Int32} {x2 : Int64} {x4 : Int64} {x6 : Int64} {x8 : Int64} {h : vt_S} (ox0 : O x0) (hs : vw [1711] [1706, 1707, 1708, 1709, 1710] [] O z0 h) : vfr (vw [1711] [1706, 1707, 1708, 1709, 1710] [] O) z0 (ab_X16_piece x0 x1 x2 x4 x6 x8 h) := by
  unfold ab_X16_piece
  refine vr_let (fun _ => ?_)
  refine vr_sI hs (by decide) ox0 (fun h hs => ?_)
  refine vr_let (fun _ => ?_)
  refine vr_sJ hs (by decide) ox0 (fun h hs => ?_)
  refine vr_let (fun _ => ?_)
  refine vr_sJ hs (by decide) ox0 (fun h hs => ?_)
  refine vr_let (fun _ => ?_)
  refine vr_sJ hs (by decide) ox0 (fun h hs => ?_)
  refine vr_let (fun _ => ?_)
  refine vr_sJ hs (by decide) ox0 (fun h hs => ?_)
  refine vr_let (fun _ => ?_)
  refine vr_I hs (by decide) ox0 (fun h hs => ?_)
  refine vr_let (fun _ => ?_)
  exact vr_rt hs
theorem vk_X16_piece {O : Nat → Prop} {x0 : Nat} {x1 : Int32} {x2 : Int64} {x4 : Int64} {x6 : Int64} {x8 : Int64} {h : vt_S} {r : Int32} {s : vt_S} (c : vcl O h) (ox0 : O x0) (e : ab_X16_piece x0 x1 x2 x4 x6 x8 h = some (r, s)) : vw [1711] [1706, 1707, 1708, 1709, 1710] [] O h s := vk_X16_piece_0 ox0 ⟨vk.refl h, c⟩ r s e

theorem vk_X16_push_0 {O : Nat → Prop} {z0 : vt_S} {x0 : Nat} {x1 : Int32} {x2 : Int32} {x3 : Int32} {x4 : Int32} {h : vt_S} (ox0 : O x0) (hs : vw [1717] [1713, 1714, 1715, 1716] [] O z0 h) : vfr (vw [1717] [1713, 1714, 1715, 1716] [] O) z0 (ab_X16_push x0 x1 x2 x3 x4 h) := by
  unfold ab_X16_push
  refine vr_let (fun _ => ?_)
  refine vr_sI hs (by decide) ox0 (fun h hs => ?_)
  refine vr_let (fun _ => ?_)
  refine vr_sI hs (by decide) ox0 (fun h hs => ?_)
  refine vr_let (fun _ => ?_)
  refine vr_sI hs (by decide) ox0 (fun h hs => ?_)
  refine vr_let (fun _ => ?_)
  refine vr_sI hs (by decide) ox0 (fun h hs => ?_)
  refine vr_let (fun _ => ?_)
  refine vr_I hs (by decide) ox0 (fun h hs => ?_)
  exact vr_rt hs
theorem vk_X16_push {O : Nat → Prop} {x0 : Nat} {x1 : Int32} {x2 : Int32} {x3 : Int32} {x4 : Int32} {h : vt_S} {r : Unit} {s : vt_S} (c : vcl O h) (ox0 : O x0) (e : ab_X16_push x0 x1 x2 x3 x4 h = some (r, s)) : vw [1717] [1713, 1714, 1715, 1716] [] O h s := vk_X16_push_0 ox0 ⟨vk.refl h, c⟩ r s e

theorem ve_X16_cross_0 {z0 : vt_S} {x0 : Int64} {x2 : Int64} {x4 : Int64} {x6 : Int64} {h : vt_S} (hs : veq z0 h) : vfr veq z0 (ab_X16_cross x0 x2 x4 x6 h) := by
  unfold ab_X16_cross
  exact vr_rt hs
theorem ve_X16_cross {x0 : Int64} {x2 : Int64} {x4 : Int64} {x6 : Int64} {h : vt_S} {r : Int64} {s : vt_S} (e : ab_X16_cross x0 x2 x4 x6 h = some (r, s)) : s = h := ve_X16_cross_0 rfl r s e

theorem ve_X16_sideOf_0 {z0 : vt_S} {x0 : Nat} {x1 : Int32} {x2 : Int64} {x4 : Int64} {h : vt_S} (hs : veq z0 h) : vfr veq z0 (ab_X16_sideOf x0 x1 x2 x4 h) := by
  unfold ab_X16_sideOf
  refine vr_bd (fun _ => ?_)
  refine vr_bd (fun _ => ?_)
  refine vr_bd (fun _ => ?_)
  refine vr_bd (fun _ => ?_)
  refine vr_bd (fun _ => ?_)
  refine vr_bd (fun _ => ?_)
  refine vr_cl (fun _ _ e => ((ve_X16_cross e).trans hs)) (fun _ h hs => ?_)
  exact vr_rt hs
theorem ve_X16_sideOf {x0 : Nat} {x1 : Int32} {x2 : Int64} {x4 : Int64} {h : vt_S} {r : Int64} {s : vt_S} (e : ab_X16_sideOf x0 x1 x2 x4 h = some (r, s)) : s = h := ve_X16_sideOf_0 rfl r s e

theorem ve_X16_sideAt_0 {z0 : vt_S} {x0 : Nat} {x1 : Int32} {x2 : Int32} {x3 : Int64} {x5 : Int64} {h : vt_S} (hs : veq z0 h) : vfr veq z0 (ab_X16_sideAt x0 x1 x2 x3 x5 h) := by
  unfold ab_X16_sideAt
  refine vr_bd (fun _ => ?_)
  refine vr_bd (fun _ => ?_)
  refine vr_cl (fun _ _ e => ((ve_X16_sideOf e).trans hs)) (fun _ h hs => ?_)
  refine vr_bd (fun _ => ?_)
  refine vr_bd (fun _ => ?_)
  refine vr_cl (fun _ _ e => ((ve_X16_sideOf e).trans hs)) (fun _ h hs => ?_)
  refine vr_cl (fun _ _ e => ((ve_X16_order e).trans hs)) (fun _ h hs => ?_)
  exact vr_rt hs
theorem ve_X16_sideAt {x0 : Nat} {x1 : Int32} {x2 : Int32} {x3 : Int64} {x5 : Int64} {h : vt_S} {r : Int32} {s : vt_S} (e : ab_X16_sideAt x0 x1 x2 x3 x5 h = some (r, s)) : s = h := ve_X16_sideAt_0 rfl r s e

theorem ve_X16_lieOf_71 {z0 : vt_S} {s0 : Int32} {h : vt_S} (hs : veq z0 h) : vfr veq z0 (ab_X16_lieOf_71 s0 h) := by
  unfold ab_X16_lieOf_71
  exact vr_rt hs
theorem ve_X16_lieOf_0 {z0 : vt_S} {x0 : Nat} {x1 : Int32} {x2 : Int32} {h : vt_S} (hs : veq z0 h) : vfr veq z0 (ab_X16_lieOf x0 x1 x2 h) := by
  unfold ab_X16_lieOf
  refine vr_bd (fun _ => ?_)
  refine vr_bd (fun _ => ?_)
  refine vr_bd (fun _ => ?_)
  refine vr_cl (fun _ _ e => ((ve_X16_sideAt e).trans hs)) (fun _ h hs => ?_)
  refine vr_bd (fun _ => ?_)
  refine vr_bd (fun _ => ?_)
  refine vr_cl (fun _ _ e => ((ve_X16_sideAt e).trans hs)) (fun _ h hs => ?_)
  refine vr_if ?_ ?_
  · refine vr_if ?_ ?_
    · exact ve_X16_lieOf_71 hs
    · exact ve_X16_lieOf_71 hs
  · exact ve_X16_lieOf_71 hs
theorem ve_X16_lieOf {x0 : Nat} {x1 : Int32} {x2 : Int32} {h : vt_S} {r : Int32} {s : vt_S} (e : ab_X16_lieOf x0 x1 x2 h = some (r, s)) : s = h := ve_X16_lieOf_0 rfl r s e

theorem ve_X16_bestOf_149 {z0 : vt_S} {x3 : Int32} {h : vt_S} (hs : veq z0 h) : vfr veq z0 (ab_X16_bestOf_149 x3 h) := by
  unfold ab_X16_bestOf_149
  exact vr_rt hs
theorem ve_X16_bestOf_143 {z0 : vt_S} {k9 : Nat → Int32 → Int32 → Int32 → Int32 → Int32 → vt_S → Option (Int32 × vt_S)} (hk9 : ∀ {x0 : Nat} {x1 : Int32} {x2 : Int32} {x3 : Int32} {x4 : Int32} {x5 : Int32} {h : vt_S}, veq z0 h → vfr veq z0 (k9 x0 x1 x2 x3 x4 x5 h)) {x0 : Nat} {x1 : Int32} {x2 : Int32} {x3 : Int32} {x4 : Int32} {x5 : Int32} {h : vt_S} (hs : veq z0 h) : vfr veq z0 (ab_X16_bestOf_143 k9 x0 x1 x2 x3 x4 x5 h) := by
  unfold ab_X16_bestOf_143
  exact hk9 hs
theorem ve_X16_bestOf_126 {z0 : vt_S} {k9 : Nat → Int32 → Int32 → Int32 → Int32 → Int32 → vt_S → Option (Int32 × vt_S)} (hk9 : ∀ {x0 : Nat} {x1 : Int32} {x2 : Int32} {x3 : Int32} {x4 : Int32} {x5 : Int32} {h : vt_S}, veq z0 h → vfr veq z0 (k9 x0 x1 x2 x3 x4 x5 h)) {x0 : Nat} {x1 : Int32} {x2 : Int32} {x3 : Int32} {x4 : Int32} {x5 : Int32} {x6 : Int32} {s0 : Int32} {s1 : Int32} {h : vt_S} (hs : veq z0 h) : vfr veq z0 (ab_X16_bestOf_126 k9 x0 x1 x2 x3 x4 x5 x6 s0 s1 h) := by
  unfold ab_X16_bestOf_126
  refine vr_if ?_ ?_
  · exact ve_X16_bestOf_143 hk9 hs
  · exact ve_X16_bestOf_143 hk9 hs
theorem ve_X16_bestOf_100 {z0 : vt_S} {k9 : Nat → Int32 → Int32 → Int32 → Int32 → Int32 → vt_S → Option (Int32 × vt_S)} (hk9 : ∀ {x0 : Nat} {x1 : Int32} {x2 : Int32} {x3 : Int32} {x4 : Int32} {x5 : Int32} {h : vt_S}, veq z0 h → vfr veq z0 (k9 x0 x1 x2 x3 x4 x5 h)) {k47 : Nat → Int32 → Int32 → Int32 → Int32 → Int32 → Int32 → Int32 → Int32 → Int32 → vt_S → Option (Int32 × vt_S)} (hk47 : ∀ {x0 : Nat} {x1 : Int32} {x2 : Int32} {x3 : Int32} {x4 : Int32} {x5 : Int32} {x6 : Int32} {x7 : Int32} {x8 : Int32} {x9 : Int32} {h : vt_S}, veq z0 h → vfr veq z0 (k47 x0 x1 x2 x3 x4 x5 x6 x7 x8 x9 h)) {x0 : Nat} {x1 : Int32} {x2 : Int32} {x3 : Int32} {x4 : Int32} {x5 : Int32} {x6 : Int32} {x7 : Int32} {x9 : Int32} {s0 : Int32} {s1 : Int32} {h : vt_S} (hs : veq z0 h) : vfr veq z0 (ab_X16_bestOf_100 k9 k47 x0 x1 x2 x3 x4 x5 x6 x7 x9 s0 s1 h) := by
  unfold ab_X16_bestOf_100
  exact hk47 hs
theorem ve_X16_bestOf_83 {z0 : vt_S} {k9 : Nat → Int32 → Int32 → Int32 → Int32 → Int32 → vt_S → Option (Int32 × vt_S)} (hk9 : ∀ {x0 : Nat} {x1 : Int32} {x2 : Int32} {x3 : Int32} {x4 : Int32} {x5 : Int32} {h : vt_S}, veq z0 h → vfr veq z0 (k9 x0 x1 x2 x3 x4 x5 h)) {k47 : Nat → Int32 → Int32 → Int32 → Int32 → Int32 → Int32 → Int32 → Int32 → Int32 → vt_S → Option (Int32 × vt_S)} (hk47 : ∀ {x0 : Nat} {x1 : Int32} {x2 : Int32} {x3 : Int32} {x4 : Int32} {x5 : Int32} {x6 : Int32} {x7 : Int32} {x8 : Int32} {x9 : Int32} {h : vt_S}, veq z0 h → vfr veq z0 (k47 x0 x1 x2 x3 x4 x5 x6 x7 x8 x9 h)) {x0 : Nat} {x1 : Int32} {x2 : Int32} {x3 : Int32} {x4 : Int32} {x5 : Int32} {x6 : Int32} {x8 : Int32} {x9 : Int32} {x10 : Int32} {s0 : Int32} {s1 : Int32} {h : vt_S} (hs : veq z0 h) : vfr veq z0 (ab_X16_bestOf_83 k9 k47 x0 x1 x2 x3 x4 x5 x6 x8 x9 x10 s0 s1 h) := by
  unfold ab_X16_bestOf_83
  refine vr_if ?_ ?_
  · exact ve_X16_bestOf_100 hk9 hk47 hs
  · exact ve_X16_bestOf_100 hk9 hk47 hs
theorem ve_X16_bestOf_47b {z0 : vt_S} {k9 : Nat → Int32 → Int32 → Int32 → Int32 → Int32 → vt_S → Option (Int32 × vt_S)} (hk9 : ∀ {x0 : Nat} {x1 : Int32} {x2 : Int32} {x3 : Int32} {x4 : Int32} {x5 : Int32} {h : vt_S}, veq z0 h → vfr veq z0 (k9 x0 x1 x2 x3 x4 x5 h)) {k47 : Nat → Int32 → Int32 → Int32 → Int32 → Int32 → Int32 → Int32 → Int32 → Int32 → vt_S → Option (Int32 × vt_S)} (hk47 : ∀ {x0 : Nat} {x1 : Int32} {x2 : Int32} {x3 : Int32} {x4 : Int32} {x5 : Int32} {x6 : Int32} {x7 : Int32} {x8 : Int32} {x9 : Int32} {h : vt_S}, veq z0 h → vfr veq z0 (k47 x0 x1 x2 x3 x4 x5 x6 x7 x8 x9 h)) {x0 : Nat} {x1 : Int32} {x2 : Int32} {x3 : Int32} {x4 : Int32} {x5 : Int32} {x6 : Int32} {x7 : Int32} {x8 : Int32} {x9 : Int32} {h : vt_S} (hs : veq z0 h) : vfr veq z0 (ab_X16_bestOf_47b k9 k47 x0 x1 x2 x3 x4 x5 x6 x7 x8 x9 h) := by
  unfold ab_X16_bestOf_47b
  refine vr_if ?_ ?_
  · refine vr_if ?_ ?_
    · exact ve_X16_bestOf_126 hk9 hs
    · exact ve_X16_bestOf_126 hk9 hs
  · refine vr_bd (fun _ => ?_)
    refine vr_cl (fun _ _ e => ((ve_X16_lieOf e).trans hs)) (fun _ h hs => ?_)
    refine vr_if ?_ ?_
    · exact ve_X16_bestOf_83 hk9 hk47 hs
    · exact ve_X16_bestOf_83 hk9 hk47 hs
theorem ve_X16_bestOf_47 {z0 : vt_S} {k9 : Nat → Int32 → Int32 → Int32 → Int32 → Int32 → vt_S → Option (Int32 × vt_S)} (hk9 : ∀ {x0 : Nat} {x1 : Int32} {x2 : Int32} {x3 : Int32} {x4 : Int32} {x5 : Int32} {h : vt_S}, veq z0 h → vfr veq z0 (k9 x0 x1 x2 x3 x4 x5 h)) : ∀ (n : Nat) {x0 : Nat} {x1 : Int32} {x2 : Int32} {x3 : Int32} {x4 : Int32} {x5 : Int32} {x6 : Int32} {x7 : Int32} {x8 : Int32} {x9 : Int32} {h : vt_S}, veq z0 h → vfr veq z0 (ab_X16_bestOf_47 k9 n x0 x1 x2 x3 x4 x5 x6 x7 x8 x9 h) := by
  intro n
  induction n with
  | zero => intro x0 x1 x2 x3 x4 x5 x6 x7 x8 x9 h hs; exact vr_no
  | succ n ih => intro x0 x1 x2 x3 x4 x5 x6 x7 x8 x9 h hs; exact ve_X16_bestOf_47b hk9 (fun hs => ih hs) hs
theorem ve_X16_bestOf_9b {z0 : vt_S} {k9 : Nat → Int32 → Int32 → Int32 → Int32 → Int32 → vt_S → Option (Int32 × vt_S)} (hk9 : ∀ {x0 : Nat} {x1 : Int32} {x2 : Int32} {x3 : Int32} {x4 : Int32} {x5 : Int32} {h : vt_S}, veq z0 h → vfr veq z0 (k9 x0 x1 x2 x3 x4 x5 h)) {x0 : Nat} {x1 : Int32} {x2 : Int32} {x3 : Int32} {x4 : Int32} {x5 : Int32} {h : vt_S} (hs : veq z0 h) : vfr veq z0 (ab_X16_bestOf_9b k9 x0 x1 x2 x3 x4 x5 h) := by
  unfold ab_X16_bestOf_9b
  refine vr_if ?_ ?_
  · exact ve_X16_bestOf_149 hs
  · refine vr_if ?_ ?_
    · exact ve_X16_bestOf_149 hs
    · refine vr_bd (fun _ => ?_)
      refine vr_bd (fun _ => ?_)
      exact ve_X16_bestOf_47 hk9 sv_fuel hs
theorem ve_X16_bestOf_9 {z0 : vt_S} : ∀ (n : Nat) {x0 : Nat} {x1 : Int32} {x2 : Int32} {x3 : Int32} {x4 : Int32} {x5 : Int32} {h : vt_S}, veq z0 h → vfr veq z0 (ab_X16_bestOf_9 n x0 x1 x2 x3 x4 x5 h) := by
  intro n
  induction n with
  | zero => intro x0 x1 x2 x3 x4 x5 h hs; exact vr_no
  | succ n ih => intro x0 x1 x2 x3 x4 x5 h hs; exact ve_X16_bestOf_9b (fun hs => ih hs) hs
theorem ve_X16_bestOf_0 {z0 : vt_S} {x0 : Nat} {x1 : Int32} {x2 : Int32} {h : vt_S} (hs : veq z0 h) : vfr veq z0 (ab_X16_bestOf x0 x1 x2 h) := by
  unfold ab_X16_bestOf
  exact ve_X16_bestOf_9 sv_fuel hs
theorem ve_X16_bestOf {x0 : Nat} {x1 : Int32} {x2 : Int32} {h : vt_S} {r : Int32} {s : vt_S} (e : ab_X16_bestOf x0 x1 x2 h = some (r, s)) : s = h := ve_X16_bestOf_0 rfl r s e

theorem vk_X16_part_156 {O : Nat → Prop} {z0 : vt_S} {s0 : Int32} {h : vt_S} (hs : vw [1711] [1706, 1707, 1708, 1709, 1710] [] O z0 h) : vfr (vw [1711] [1706, 1707, 1708, 1709, 1710] [] O) z0 (ab_X16_part_156 s0 h) := by
  unfold ab_X16_part_156
  exact vr_rt hs
theorem vk_X16_part_102 {O : Nat → Prop} {z0 : vt_S} {x0 : Nat} {x1 : Int32} {x4 : Int32} {x5 : Int64} {x7 : Int64} {s0 : Int32} {h : vt_S} (ox0 : O x0) (hs : vw [1711] [1706, 1707, 1708, 1709, 1710] [] O z0 h) : vfr (vw [1711] [1706, 1707, 1708, 1709, 1710] [] O) z0 (ab_X16_part_102 x0 x1 x4 x5 x7 s0 h) := by
  unfold ab_X16_part_102
  refine vr_if ?_ ?_
  · refine vr_bd (fun _ => ?_)
    refine vr_bd (fun _ => ?_)
    refine vr_cl (fun _ _ e => (let q := vk_X16_piece hs.2 ox0 e; ⟨hs.1.trans (q.1.weak (by decide) (by decide) (by decide)), q.2⟩)) (fun _ h hs => ?_)
    exact vk_X16_part_156 hs
  · refine vr_bd (fun _ => ?_)
    refine vr_bd (fun _ => ?_)
    refine vr_cl (fun _ _ e => (let q := vk_X16_piece hs.2 ox0 e; ⟨hs.1.trans (q.1.weak (by decide) (by decide) (by decide)), q.2⟩)) (fun _ h hs => ?_)
    exact vk_X16_part_156 hs
theorem vk_X16_part_74 {O : Nat → Prop} {z0 : vt_S} {x0 : Nat} {x1 : Int32} {x2 : Int32} {x3 : Int32} {x4 : Int32} {x5 : Int64} {x7 : Int64} {h : vt_S} (ox0 : O x0) (hs : vw [1711] [1706, 1707, 1708, 1709, 1710] [] O z0 h) : vfr (vw [1711] [1706, 1707, 1708, 1709, 1710] [] O) z0 (ab_X16_part_74 x0 x1 x2 x3 x4 x5 x7 h) := by
  unfold ab_X16_part_74
  refine vr_bd (fun _ => ?_)
  refine vr_bd (fun _ => ?_)
  refine vr_cl (fun _ _ e => (by rw [ve_X16_sideAt e]; exact hs)) (fun _ h hs => ?_)
  refine vr_if ?_ ?_
  · exact vk_X16_part_102 ox0 hs
  · exact vk_X16_part_102 ox0 hs
theorem vk_X16_part_0 {O : Nat → Prop} {z0 : vt_S} {x0 : Nat} {x1 : Int32} {x2 : Int32} {x3 : Int32} {h : vt_S} (ox0 : O x0) (hs : vw [1711] [1706, 1707, 1708, 1709, 1710] [] O z0 h) : vfr (vw [1711] [1706, 1707, 1708, 1709, 1710] [] O) z0 (ab_X16_part x0 x1 x2 x3 h) := by
  unfold ab_X16_part
  refine vr_bd (fun _ => ?_)
  refine vr_bd (fun _ => ?_)
  refine vr_bd (fun _ => ?_)
  refine vr_cl (fun _ _ e => (by rw [ve_X16_sideOf e]; exact hs)) (fun _ h hs => ?_)
  refine vr_bd (fun _ => ?_)
  refine vr_bd (fun _ => ?_)
  refine vr_cl (fun _ _ e => (by rw [ve_X16_sideOf e]; exact hs)) (fun _ h hs => ?_)
  refine vr_if ?_ ?_
  · exact vk_X16_part_74 ox0 hs
  · exact vk_X16_part_74 ox0 hs
theorem vk_X16_part {O : Nat → Prop} {x0 : Nat} {x1 : Int32} {x2 : Int32} {x3 : Int32} {h : vt_S} {r : Int32} {s : vt_S} (c : vcl O h) (ox0 : O x0) (e : ab_X16_part x0 x1 x2 x3 h = some (r, s)) : vw [1711] [1706, 1707, 1708, 1709, 1710] [] O h s := vk_X16_part_0 ox0 ⟨vk.refl h, c⟩ r s e

theorem vk_X16_collect_78 {O : Nat → Prop} {z0 : vt_S} {k6 : Nat → Int32 → Int32 → Int32 → Int32 → Int32 → Int32 → Int32 → vt_S → Option (Int32 × vt_S)} (hk6 : ∀ {x0 : Nat} {x1 : Int32} {x2 : Int32} {x3 : Int32} {x4 : Int32} {x5 : Int32} {x6 : Int32} {x7 : Int32} {h : vt_S}, O x0 → vw [1711] [1706, 1707, 1708, 1709, 1710, 1712] [] O z0 h → vfr (vw [1711] [1706, 1707, 1708, 1709, 1710, 1712] [] O) z0 (k6 x0 x1 x2 x3 x4 x5 x6 x7 h)) {x0 : Nat} {x1 : Int32} {x2 : Int32} {x3 : Int32} {x4 : Int32} {x5 : Int32} {x6 : Int32} {x7 : Int32} {h : vt_S} (ox0 : O x0) (hs : vw [1711] [1706, 1707, 1708, 1709, 1710, 1712] [] O z0 h) : vfr (vw [1711] [1706, 1707, 1708, 1709, 1710, 1712] [] O) z0 (ab_X16_collect_78 k6 x0 x1 x2 x3 x4 x5 x6 x7 h) := by
  unfold ab_X16_collect_78
  exact hk6 ox0 hs
theorem vk_X16_collect_74 {O : Nat → Prop} {z0 : vt_S} {k6 : Nat → Int32 → Int32 → Int32 → Int32 → Int32 → Int32 → Int32 → vt_S → Option (Int32 × vt_S)} (hk6 : ∀ {x0 : Nat} {x1 : Int32} {x2 : Int32} {x3 : Int32} {x4 : Int32} {x5 : Int32} {x6 : Int32} {x7 : Int32} {h : vt_S}, O x0 → vw [1711] [1706, 1707, 1708, 1709, 1710, 1712] [] O z0 h → vfr (vw [1711] [1706, 1707, 1708, 1709, 1710, 1712] [] O) z0 (k6 x0 x1 x2 x3 x4 x5 x6 x7 h)) {x0 : Nat} {x1 : Int32} {x2 : Int32} {x3 : Int32} {x4 : Int32} {x5 : Int32} {x6 : Int32} {x7 : Int32} {s0 : Nat} {s1 : Int32} {s2 : Int32} {h : vt_S} (ox0 : O x0) (os0 : O s0) (hs : vw [1711] [1706, 1707, 1708, 1709, 1710, 1712] [] O z0 h) : vfr (vw [1711] [1706, 1707, 1708, 1709, 1710, 1712] [] O) z0 (ab_X16_collect_74 k6 x0 x1 x2 x3 x4 x5 x6 x7 s0 s1 s2 h) := by
  unfold ab_X16_collect_74
  refine vr_sI hs (by decide) os0 (fun h hs => ?_)
  exact vk_X16_collect_78 hk6 ox0 hs
theorem vk_X16_collect_45 {O : Nat → Prop} {z0 : vt_S} {k6 : Nat → Int32 → Int32 → Int32 → Int32 → Int32 → Int32 → Int32 → vt_S → Option (Int32 × vt_S)} (hk6 : ∀ {x0 : Nat} {x1 : Int32} {x2 : Int32} {x3 : Int32} {x4 : Int32} {x5 : Int32} {x6 : Int32} {x7 : Int32} {h : vt_S}, O x0 → vw [1711] [1706, 1707, 1708, 1709, 1710, 1712] [] O z0 h → vfr (vw [1711] [1706, 1707, 1708, 1709, 1710, 1712] [] O) z0 (k6 x0 x1 x2 x3 x4 x5 x6 x7 h)) {x0 : Nat} {x1 : Int32} {x2 : Int32} {x3 : Int32} {x4 : Int32} {x5 : Int32} {x6 : Int32} {x7 : Int32} {x8 : Int32} {x9 : Int32} {h : vt_S} (ox0 : O x0) (hs : vw [1711] [1706, 1707, 1708, 1709, 1710, 1712] [] O z0 h) : vfr (vw [1711] [1706, 1707, 1708, 1709, 1710, 1712] [] O) z0 (ab_X16_collect_45 k6 x0 x1 x2 x3 x4 x5 x6 x7 x8 x9 h) := by
  unfold ab_X16_collect_45
  refine vr_if ?_ ?_
  · refine vr_cl (fun _ _ e => (let q := vk_X16_part hs.2 ox0 e; ⟨hs.1.trans (q.1.weak (by decide) (by decide) (by decide)), q.2⟩)) (fun _ h hs => ?_)
    exact vk_X16_collect_74 hk6 ox0 ox0 hs
  · exact vk_X16_collect_74 hk6 ox0 ox0 hs
theorem vk_X16_collect_6b {O : Nat → Prop} {z0 : vt_S} {k6 : Nat → Int32 → Int32 → Int32 → Int32 → Int32 → Int32 → Int32 → vt_S → Option (Int32 × vt_S)} (hk6 : ∀ {x0 : Nat} {x1 : Int32} {x2 : Int32} {x3 : Int32} {x4 : Int32} {x5 : Int32} {x6 : Int32} {x7 : Int32} {h : vt_S}, O x0 → vw [1711] [1706, 1707, 1708, 1709, 1710, 1712] [] O z0 h → vfr (vw [1711] [1706, 1707, 1708, 1709, 1710, 1712] [] O) z0 (k6 x0 x1 x2 x3 x4 x5 x6 x7 h)) {x0 : Nat} {x1 : Int32} {x2 : Int32} {x3 : Int32} {x4 : Int32} {x5 : Int32} {x6 : Int32} {x7 : Int32} {h : vt_S} (ox0 : O x0) (hs : vw [1711] [1706, 1707, 1708, 1709, 1710, 1712] [] O z0 h) : vfr (vw [1711] [1706, 1707, 1708, 1709, 1710, 1712] [] O) z0 (ab_X16_collect_6b k6 x0 x1 x2 x3 x4 x5 x6 x7 h) := by
  unfold ab_X16_collect_6b
  refine vr_if ?_ ?_
  · exact vr_rt hs
  · refine vr_bd (fun _ => ?_)
    refine vr_cl (fun _ _ e => (by rw [ve_X16_lieOf e]; exact hs)) (fun _ h hs => ?_)
    refine vr_if ?_ ?_
    · exact vk_X16_collect_45 hk6 ox0 hs
    · refine vr_if ?_ ?_
      · exact vk_X16_collect_45 hk6 ox0 hs
      · exact vk_X16_collect_78 hk6 ox0 hs
theorem vk_X16_collect_6 {O : Nat → Prop} {z0 : vt_S} : ∀ (n : Nat) {x0 : Nat} {x1 : Int32} {x2 : Int32} {x3 : Int32} {x4 : Int32} {x5 : Int32} {x6 : Int32} {x7 : Int32} {h : vt_S}, O x0 → vw [1711] [1706, 1707, 1708, 1709, 1710, 1712] [] O z0 h → vfr (vw [1711] [1706, 1707, 1708, 1709, 1710, 1712] [] O) z0 (ab_X16_collect_6 n x0 x1 x2 x3 x4 x5 x6 x7 h) := by
  intro n
  induction n with
  | zero => intro x0 x1 x2 x3 x4 x5 x6 x7 h ox0 hs; exact vr_no
  | succ n ih => intro x0 x1 x2 x3 x4 x5 x6 x7 h ox0 hs; exact vk_X16_collect_6b (fun ox0 hs => ih ox0 hs) ox0 hs
theorem vk_X16_collect_0 {O : Nat → Prop} {z0 : vt_S} {x0 : Nat} {x1 : Int32} {x2 : Int32} {x3 : Int32} {x4 : Int32} {x5 : Int32} {h : vt_S} (ox0 : O x0) (hs : vw [1711] [1706, 1707, 1708, 1709, 1710, 1712] [] O z0 h) : vfr (vw [1711] [1706, 1707, 1708, 1709, 1710, 1712] [] O) z0 (ab_X16_collect x0 x1 x2 x3 x4 x5 h) := by
  unfold ab_X16_collect
  exact vk_X16_collect_6 sv_fuel ox0 hs
theorem vk_X16_collect {O : Nat → Prop} {x0 : Nat} {x1 : Int32} {x2 : Int32} {x3 : Int32} {x4 : Int32} {x5 : Int32} {h : vt_S} {r : Int32} {s : vt_S} (c : vcl O h) (ox0 : O x0) (e : ab_X16_collect x0 x1 x2 x3 x4 x5 h = some (r, s)) : vw [1711] [1706, 1707, 1708, 1709, 1710, 1712] [] O h s := vk_X16_collect_0 ox0 ⟨vk.refl h, c⟩ r s e

theorem vk_X16_divide_188 {O : Nat → Prop} {z0 : vt_S} {k136 : Nat → Int32 → Int32 → Int32 → Int32 → Int32 → vt_S → Option (Unit × vt_S)} (hk136 : ∀ {x0 : Nat} {x1 : Int32} {x2 : Int32} {x6 : Int32} {x7 : Int32} {x8 : Int32} {h : vt_S}, O x0 → vw [1711, 1717, 1725, 1726, 1727] [1706, 1707, 1708, 1709, 1710, 1712, 1713, 1714, 1715, 1716, 1718, 1719, 1720, 1721, 1722, 1723, 1724] [] O z0 h → vfr (vw [1711, 1717, 1725, 1726, 1727] [1706, 1707, 1708, 1709, 1710, 1712, 1713, 1714, 1715, 1716, 1718, 1719, 1720, 1721, 1722, 1723, 1724] [] O) z0 (k136 x0 x1 x2 x6 x7 x8 h)) {x0 : Nat} {x1 : Int32} {x2 : Int32} {x6 : Int32} {x7 : Int32} {x8 : Int32} {h : vt_S} (ox0 : O x0) (hs : vw [1711, 1717, 1725, 1726, 1727] [1706, 1707, 1708, 1709, 1710, 1712, 1713, 1714, 1715, 1716, 1718, 1719, 1720, 1721, 1722, 1723, 1724] [] O z0 h) : vfr (vw [1711, 1717, 1725, 1726, 1727] [1706, 1707, 1708, 1709, 1710, 1712, 1713, 1714, 1715, 1716, 1718, 1719, 1720, 1721, 1722, 1723, 1724] [] O) z0 (ab_X16_divide_188 k136 x0 x1 x2 x6 x7 x8 h) := by
  unfold ab_X16_divide_188
  exact hk136 ox0 hs
theorem vk_X16_divide_136b {O : Nat → Prop} {z0 : vt_S} {k136 : Nat → Int32 → Int32 → Int32 → Int32 → Int32 → vt_S → Option (Unit × vt_S)} (hk136 : ∀ {x0 : Nat} {x1 : Int32} {x2 : Int32} {x6 : Int32} {x7 : Int32} {x8 : Int32} {h : vt_S}, O x0 → vw [1711, 1717, 1725, 1726, 1727] [1706, 1707, 1708, 1709, 1710, 1712, 1713, 1714, 1715, 1716, 1718, 1719, 1720, 1721, 1722, 1723, 1724] [] O z0 h → vfr (vw [1711, 1717, 1725, 1726, 1727] [1706, 1707, 1708, 1709, 1710, 1712, 1713, 1714, 1715, 1716, 1718, 1719, 1720, 1721, 1722, 1723, 1724] [] O) z0 (k136 x0 x1 x2 x6 x7 x8 h)) {x0 : Nat} {x1 : Int32} {x2 : Int32} {x6 : Int32} {x7 : Int32} {x8 : Int32} {h : vt_S} (ox0 : O x0) (hs : vw [1711, 1717, 1725, 1726, 1727] [1706, 1707, 1708, 1709, 1710, 1712, 1713, 1714, 1715, 1716, 1718, 1719, 1720, 1721, 1722, 1723, 1724] [] O z0 h) : vfr (vw [1711, 1717, 1725, 1726, 1727] [1706, 1707, 1708, 1709, 1710, 1712, 1713, 1714, 1715, 1716, 1718, 1719, 1720, 1721, 1722, 1723, 1724] [] O) z0 (ab_X16_divide_136b k136 x0 x1 x2 x6 x7 x8 h) := by
  unfold ab_X16_divide_136b
  refine vr_if ?_ ?_
  · refine vr_let (fun _ => ?_)
    refine vr_bd (fun _ => ?_)
    refine vr_sI hs (by decide) ox0 (fun h hs => ?_)
    refine vr_cl (fun _ _ e => (let q := vk_X16_collect hs.2 ox0 e; ⟨hs.1.trans (q.1.weak (by decide) (by decide) (by decide)), q.2⟩)) (fun _ h hs => ?_)
    refine vr_cl (fun _ _ e => (let q := vk_X16_collect hs.2 ox0 e; ⟨hs.1.trans (q.1.weak (by decide) (by decide) (by decide)), q.2⟩)) (fun _ h hs => ?_)
    refine vr_cl (fun _ _ e => (let q := vk_X16_push hs.2 ox0 e; ⟨hs.1.trans (q.1.weak (by decide) (by decide) (by decide)), q.2⟩)) (fun _ h hs => ?_)
    refine vr_cl (fun _ _ e => (let q := vk_X16_push hs.2 ox0 e; ⟨hs.1.trans (q.1.weak (by decide) (by decide) (by decide)), q.2⟩)) (fun _ h hs => ?_)
    exact vr_rt hs
  · refine vr_bd (fun _ => ?_)
    refine vr_cl (fun _ _ e => (by rw [ve_X16_lieOf e]; exact hs)) (fun _ h hs => ?_)
    refine vr_if ?_ ?_
    · refine vr_let (fun _ => ?_)
      refine vr_bd (fun _ => ?_)
      refine vr_sI hs (by decide) ox0 (fun h hs => ?_)
      refine vr_let (fun _ => ?_)
      refine vr_I hs (by decide) ox0 (fun h hs => ?_)
      exact vk_X16_divide_188 hk136 ox0 hs
    · exact vk_X16_divide_188 hk136 ox0 hs
theorem vk_X16_divide_136 {O : Nat → Prop} {z0 : vt_S} : ∀ (n : Nat) {x0 : Nat} {x1 : Int32} {x2 : Int32} {x6 : Int32} {x7 : Int32} {x8 : Int32} {h : vt_S}, O x0 → vw [1711, 1717, 1725, 1726, 1727] [1706, 1707, 1708, 1709, 1710, 1712, 1713, 1714, 1715, 1716, 1718, 1719, 1720, 1721, 1722, 1723, 1724] [] O z0 h → vfr (vw [1711, 1717, 1725, 1726, 1727] [1706, 1707, 1708, 1709, 1710, 1712, 1713, 1714, 1715, 1716, 1718, 1719, 1720, 1721, 1722, 1723, 1724] [] O) z0 (ab_X16_divide_136 n x0 x1 x2 x6 x7 x8 h) := by
  intro n
  induction n with
  | zero => intro x0 x1 x2 x6 x7 x8 h ox0 hs; exact vr_no
  | succ n ih => intro x0 x1 x2 x6 x7 x8 h ox0 hs; exact vk_X16_divide_136b (fun ox0 hs => ih ox0 hs) ox0 hs
theorem vk_X16_divide_121 {O : Nat → Prop} {z0 : vt_S} {x0 : Nat} {x1 : Int32} {x2 : Int32} {x6 : Int32} {x7 : Int32} {s0 : Nat} {s1 : Int32} {s2 : Int32} {h : vt_S} (ox0 : O x0) (os0 : O s0) (hs : vw [1711, 1717, 1725, 1726, 1727] [1706, 1707, 1708, 1709, 1710, 1712, 1713, 1714, 1715, 1716, 1718, 1719, 1720, 1721, 1722, 1723, 1724] [] O z0 h) : vfr (vw [1711, 1717, 1725, 1726, 1727] [1706, 1707, 1708, 1709, 1710, 1712, 1713, 1714, 1715, 1716, 1718, 1719, 1720, 1721, 1722, 1723, 1724] [] O) z0 (ab_X16_divide_121 x0 x1 x2 x6 x7 s0 s1 s2 h) := by
  unfold ab_X16_divide_121
  refine vr_sI hs (by decide) os0 (fun h hs => ?_)
  refine vr_let (fun _ => ?_)
  refine vr_sI hs (by decide) ox0 (fun h hs => ?_)
  exact vk_X16_divide_136 sv_fuel ox0 hs
theorem vk_X16_divide_51 {O : Nat → Prop} {z0 : vt_S} {x0 : Nat} {x1 : Int32} {x2 : Int32} {x3 : Int32} {h : vt_S} (ox0 : O x0) (hs : vw [1711, 1717, 1725, 1726, 1727] [1706, 1707, 1708, 1709, 1710, 1712, 1713, 1714, 1715, 1716, 1718, 1719, 1720, 1721, 1722, 1723, 1724] [] O z0 h) : vfr (vw [1711, 1717, 1725, 1726, 1727] [1706, 1707, 1708, 1709, 1710, 1712, 1713, 1714, 1715, 1716, 1718, 1719, 1720, 1721, 1722, 1723, 1724] [] O) z0 (ab_X16_divide_51 x0 x1 x2 x3 h) := by
  unfold ab_X16_divide_51
  refine vr_if ?_ ?_
  · refine vr_let (fun _ => ?_)
    refine vr_I hs (by decide) ox0 (fun h hs => ?_)
    exact vr_rt hs
  · refine vr_let (fun _ => ?_)
    refine vr_let (fun _ => ?_)
    refine vr_I hs (by decide) ox0 (fun h hs => ?_)
    refine vr_cl (fun _ _ e => (by rw [ve_X16_bestOf e]; exact hs)) (fun _ h hs => ?_)
    refine vr_sI hs (by decide) ox0 (fun h hs => ?_)
    refine vr_if ?_ ?_
    · refine vr_bd (fun _ => ?_)
      exact vk_X16_divide_121 ox0 ox0 hs
    · exact vk_X16_divide_121 ox0 ox0 hs
theorem vk_X16_divide_39 {O : Nat → Prop} {z0 : vt_S} {x0 : Nat} {x1 : Int32} {x2 : Int32} {x3 : Int32} {x5 : Int32} {h : vt_S} (ox0 : O x0) (hs : vw [1711, 1717, 1725, 1726, 1727] [1706, 1707, 1708, 1709, 1710, 1712, 1713, 1714, 1715, 1716, 1718, 1719, 1720, 1721, 1722, 1723, 1724] [] O z0 h) : vfr (vw [1711, 1717, 1725, 1726, 1727] [1706, 1707, 1708, 1709, 1710, 1712, 1713, 1714, 1715, 1716, 1718, 1719, 1720, 1721, 1722, 1723, 1724] [] O) z0 (ab_X16_divide_39 x0 x1 x2 x3 x5 h) := by
  unfold ab_X16_divide_39
  refine vr_if ?_ ?_
  · exact vk_X16_divide_51 ox0 hs
  · refine vr_sI hs (by decide) ox0 (fun h hs => ?_)
    exact vk_X16_divide_51 ox0 hs
theorem vk_X16_divide_17 {O : Nat → Prop} {z0 : vt_S} {x0 : Nat} {x1 : Int32} {x2 : Int32} {x3 : Int32} {x4 : Int32} {s0 : Int32} {h : vt_S} (ox0 : O x0) (hs : vw [1711, 1717, 1725, 1726, 1727] [1706, 1707, 1708, 1709, 1710, 1712, 1713, 1714, 1715, 1716, 1718, 1719, 1720, 1721, 1722, 1723, 1724] [] O z0 h) : vfr (vw [1711, 1717, 1725, 1726, 1727] [1706, 1707, 1708, 1709, 1710, 1712, 1713, 1714, 1715, 1716, 1718, 1719, 1720, 1721, 1722, 1723, 1724] [] O) z0 (ab_X16_divide_17 x0 x1 x2 x3 x4 s0 h) := by
  unfold ab_X16_divide_17
  refine vr_if ?_ ?_
  · exact vk_X16_divide_39 ox0 hs
  · refine vr_if ?_ ?_
    · refine vr_sI hs (by decide) ox0 (fun h hs => ?_)
      exact vk_X16_divide_51 ox0 hs
    · exact vk_X16_divide_39 ox0 hs
theorem vk_X16_divide_0 {O : Nat → Prop} {z0 : vt_S} {x0 : Nat} {x1 : Int32} {x2 : Int32} {x3 : Int32} {x4 : Int32} {h : vt_S} (ox0 : O x0) (hs : vw [1711, 1717, 1725, 1726, 1727] [1706, 1707, 1708, 1709, 1710, 1712, 1713, 1714, 1715, 1716, 1718, 1719, 1720, 1721, 1722, 1723, 1724] [] O z0 h) : vfr (vw [1711, 1717, 1725, 1726, 1727] [1706, 1707, 1708, 1709, 1710, 1712, 1713, 1714, 1715, 1716, 1718, 1719, 1720, 1721, 1722, 1723, 1724] [] O) z0 (ab_X16_divide x0 x1 x2 x3 x4 h) := by
  unfold ab_X16_divide
  refine vr_if ?_ ?_
  · refine vr_let (fun _ => ?_)
    exact vk_X16_divide_17 ox0 hs
  · refine vr_let (fun _ => ?_)
    exact vk_X16_divide_17 ox0 hs
theorem vk_X16_divide {O : Nat → Prop} {x0 : Nat} {x1 : Int32} {x2 : Int32} {x3 : Int32} {x4 : Int32} {h : vt_S} {r : Unit} {s : vt_S} (c : vcl O h) (ox0 : O x0) (e : ab_X16_divide x0 x1 x2 x3 x4 h = some (r, s)) : vw [1711, 1717, 1725, 1726, 1727] [1706, 1707, 1708, 1709, 1710, 1712, 1713, 1714, 1715, 1716, 1718, 1719, 1720, 1721, 1722, 1723, 1724] [] O h s := vk_X16_divide_0 ox0 ⟨vk.refl h, c⟩ r s e

theorem vk_X16_make_77b {O : Nat → Prop} {z0 : vt_S} {k77 : Nat → vt_S → Option (Unit × vt_S)} (hk77 : ∀ {x0 : Nat} {h : vt_S}, O x0 → vw [1711, 1717, 1725, 1726, 1727] [1706, 1707, 1708, 1709, 1710, 1712, 1713, 1714, 1715, 1716, 1718, 1719, 1720, 1721, 1722, 1723, 1724] [] O z0 h → vfr (vw [1711, 1717, 1725, 1726, 1727] [1706, 1707, 1708, 1709, 1710, 1712, 1713, 1714, 1715, 1716, 1718, 1719, 1720, 1721, 1722, 1723, 1724] [] O) z0 (k77 x0 h)) {x0 : Nat} {h : vt_S} (ox0 : O x0) (hs : vw [1711, 1717, 1725, 1726, 1727] [1706, 1707, 1708, 1709, 1710, 1712, 1713, 1714, 1715, 1716, 1718, 1719, 1720, 1721, 1722, 1723, 1724] [] O z0 h) : vfr (vw [1711, 1717, 1725, 1726, 1727] [1706, 1707, 1708, 1709, 1710, 1712, 1713, 1714, 1715, 1716, 1718, 1719, 1720, 1721, 1722, 1723, 1724] [] O) z0 (ab_X16_make_77b k77 x0 h) := by
  unfold ab_X16_make_77b
  refine vr_let (fun _ => ?_)
  refine vr_if ?_ ?_
  · exact vr_rt hs
  · refine vr_let (fun _ => ?_)
    refine vr_I hs (by decide) ox0 (fun h hs => ?_)
    refine vr_let (fun _ => ?_)
    refine vr_bd (fun _ => ?_)
    refine vr_let (fun _ => ?_)
    refine vr_bd (fun _ => ?_)
    refine vr_let (fun _ => ?_)
    refine vr_bd (fun _ => ?_)
    refine vr_let (fun _ => ?_)
    refine vr_bd (fun _ => ?_)
    refine vr_cl (fun _ _ e => (let q := vk_X16_divide hs.2 ox0 e; ⟨hs.1.trans (q.1.weak (by decide) (by decide) (by decide)), q.2⟩)) (fun _ h hs => ?_)
    exact hk77 ox0 hs
theorem vk_X16_make_77 {O : Nat → Prop} {z0 : vt_S} : ∀ (n : Nat) {x0 : Nat} {h : vt_S}, O x0 → vw [1711, 1717, 1725, 1726, 1727] [1706, 1707, 1708, 1709, 1710, 1712, 1713, 1714, 1715, 1716, 1718, 1719, 1720, 1721, 1722, 1723, 1724] [] O z0 h → vfr (vw [1711, 1717, 1725, 1726, 1727] [1706, 1707, 1708, 1709, 1710, 1712, 1713, 1714, 1715, 1716, 1718, 1719, 1720, 1721, 1722, 1723, 1724] [] O) z0 (ab_X16_make_77 n x0 h) := by
  intro n
  induction n with
  | zero => intro x0 h ox0 hs; exact vr_no
  | succ n ih => intro x0 h ox0 hs; exact vk_X16_make_77b (fun ox0 hs => ih ox0 hs) ox0 hs
theorem vk_X16_make_63 {O : Nat → Prop} {z0 : vt_S} {k29 : Nat → Int32 → Int32 → vt_S → Option (Unit × vt_S)} (hk29 : ∀ {x0 : Nat} {x1 : Int32} {x2 : Int32} {h : vt_S}, O x0 → vw [1711, 1717, 1725, 1726, 1727] [1706, 1707, 1708, 1709, 1710, 1712, 1713, 1714, 1715, 1716, 1718, 1719, 1720, 1721, 1722, 1723, 1724] [] O z0 h → vfr (vw [1711, 1717, 1725, 1726, 1727] [1706, 1707, 1708, 1709, 1710, 1712, 1713, 1714, 1715, 1716, 1718, 1719, 1720, 1721, 1722, 1723, 1724] [] O) z0 (k29 x0 x1 x2 h)) {x0 : Nat} {x1 : Int32} {x2 : Int32} {h : vt_S} (ox0 : O x0) (hs : vw [1711, 1717, 1725, 1726, 1727] [1706, 1707, 1708, 1709, 1710, 1712, 1713, 1714, 1715, 1716, 1718, 1719, 1720, 1721, 1722, 1723, 1724] [] O z0 h) : vfr (vw [1711, 1717, 1725, 1726, 1727] [1706, 1707, 1708, 1709, 1710, 1712, 1713, 1714, 1715, 1716, 1718, 1719, 1720, 1721, 1722, 1723, 1724] [] O) z0 (ab_X16_make_63 k29 x0 x1 x2 h) := by
  unfold ab_X16_make_63
  exact hk29 ox0 hs
theorem vk_X16_make_29b {O : Nat → Prop} {z0 : vt_S} {k29 : Nat → Int32 → Int32 → vt_S → Option (Unit × vt_S)} (hk29 : ∀ {x0 : Nat} {x1 : Int32} {x2 : Int32} {h : vt_S}, O x0 → vw [1711, 1717, 1725, 1726, 1727] [1706, 1707, 1708, 1709, 1710, 1712, 1713, 1714, 1715, 1716, 1718, 1719, 1720, 1721, 1722, 1723, 1724] [] O z0 h → vfr (vw [1711, 1717, 1725, 1726, 1727] [1706, 1707, 1708, 1709, 1710, 1712, 1713, 1714, 1715, 1716, 1718, 1719, 1720, 1721, 1722, 1723, 1724] [] O) z0 (k29 x0 x1 x2 h)) {x0 : Nat} {x1 : Int32} {x2 : Int32} {h : vt_S} (ox0 : O x0) (hs : vw [1711, 1717, 1725, 1726, 1727] [1706, 1707, 1708, 1709, 1710, 1712, 1713, 1714, 1715, 1716, 1718, 1719, 1720, 1721, 1722, 1723, 1724] [] O z0 h) : vfr (vw [1711, 1717, 1725, 1726, 1727] [1706, 1707, 1708, 1709, 1710, 1712, 1713, 1714, 1715, 1716, 1718, 1719, 1720, 1721, 1722, 1723, 1724] [] O) z0 (ab_X16_make_29b k29 x0 x1 x2 h) := by
  unfold ab_X16_make_29b
  refine vr_if ?_ ?_
  · refine vr_cl (fun _ _ e => (let q := vk_X16_push hs.2 ox0 e; ⟨hs.1.trans (q.1.weak (by decide) (by decide) (by decide)), q.2⟩)) (fun _ h hs => ?_)
    exact vk_X16_make_77 sv_fuel ox0 hs
  · refine vr_bd (fun _ => ?_)
    refine vr_if ?_ ?_
    · exact vk_X16_make_63 hk29 ox0 hs
    · refine vr_cl (fun _ _ e => (let q := vk_X16_piece hs.2 ox0 e; ⟨hs.1.trans (q.1.weak (by decide) (by decide) (by decide)), q.2⟩)) (fun _ h hs => ?_)
      refine vr_sI hs (by decide) ox0 (fun h hs => ?_)
      exact vk_X16_make_63 hk29 ox0 hs
theorem vk_X16_make_29 {O : Nat → Prop} {z0 : vt_S} : ∀ (n : Nat) {x0 : Nat} {x1 : Int32} {x2 : Int32} {h : vt_S}, O x0 → vw [1711, 1717, 1725, 1726, 1727] [1706, 1707, 1708, 1709, 1710, 1712, 1713, 1714, 1715, 1716, 1718, 1719, 1720, 1721, 1722, 1723, 1724] [] O z0 h → vfr (vw [1711, 1717, 1725, 1726, 1727] [1706, 1707, 1708, 1709, 1710, 1712, 1713, 1714, 1715, 1716, 1718, 1719, 1720, 1721, 1722, 1723, 1724] [] O) z0 (ab_X16_make_29 n x0 x1 x2 h) := by
  intro n
  induction n with
  | zero => intro x0 x1 x2 h ox0 hs; exact vr_no
  | succ n ih => intro x0 x1 x2 h ox0 hs; exact vk_X16_make_29b (fun ox0 hs => ih ox0 hs) ox0 hs
theorem vk_X16_make_0 {O : Nat → Prop} {z0 : vt_S} {x0 : Nat} {h : vt_S} (ox0 : O x0) (hs : vw [1711, 1717, 1725, 1726, 1727] [1706, 1707, 1708, 1709, 1710, 1712, 1713, 1714, 1715, 1716, 1718, 1719, 1720, 1721, 1722, 1723, 1724] [] O z0 h) : vfr (vw [1711, 1717, 1725, 1726, 1727] [1706, 1707, 1708, 1709, 1710, 1712, 1713, 1714, 1715, 1716, 1718, 1719, 1720, 1721, 1722, 1723, 1724] [] O) z0 (ab_X16_make x0 h) := by
  unfold ab_X16_make
  refine vr_I hs (by decide) ox0 (fun h hs => ?_)
  refine vr_I hs (by decide) ox0 (fun h hs => ?_)
  refine vr_I hs (by decide) ox0 (fun h hs => ?_)
  refine vr_I hs (by decide) ox0 (fun h hs => ?_)
  refine vr_I hs (by decide) ox0 (fun h hs => ?_)
  exact vk_X16_make_29 sv_fuel ox0 hs
theorem vk_X16_make {O : Nat → Prop} {x0 : Nat} {h : vt_S} {r : Unit} {s : vt_S} (c : vcl O h) (ox0 : O x0) (e : ab_X16_make x0 h = some (r, s)) : vw [1711, 1717, 1725, 1726, 1727] [1706, 1707, 1708, 1709, 1710, 1712, 1713, 1714, 1715, 1716, 1718, 1719, 1720, 1721, 1722, 1723, 1724] [] O h s := vk_X16_make_0 ox0 ⟨vk.refl h, c⟩ r s e

theorem vk_X16_know_16 {O : Nat → Prop} {z0 : vt_S} {h : vt_S} (hs : vw [1705, 1711, 1717, 1725, 1726, 1727] [1706, 1707, 1708, 1709, 1710, 1712, 1713, 1714, 1715, 1716, 1718, 1719, 1720, 1721, 1722, 1723, 1724] [] O z0 h) : vfr (vw [1705, 1711, 1717, 1725, 1726, 1727] [1706, 1707, 1708, 1709, 1710, 1712, 1713, 1714, 1715, 1716, 1718, 1719, 1720, 1721, 1722, 1723, 1724] [] O) z0 (ab_X16_know_16 h) := by
  unfold ab_X16_know_16
  exact vr_rt hs
theorem vk_X16_know_0 {O : Nat → Prop} {z0 : vt_S} {x0 : Nat} {h : vt_S} (ox0 : O x0) (hs : vw [1705, 1711, 1717, 1725, 1726, 1727] [1706, 1707, 1708, 1709, 1710, 1712, 1713, 1714, 1715, 1716, 1718, 1719, 1720, 1721, 1722, 1723, 1724] [] O z0 h) : vfr (vw [1705, 1711, 1717, 1725, 1726, 1727] [1706, 1707, 1708, 1709, 1710, 1712, 1713, 1714, 1715, 1716, 1718, 1719, 1720, 1721, 1722, 1723, 1724] [] O) z0 (ab_X16_know x0 h) := by
  unfold ab_X16_know
  refine vr_let (fun _ => ?_)
  refine vr_if ?_ ?_
  · refine vr_cl (fun _ _ e => (let q := vk_X16_make hs.2 ox0 e; ⟨hs.1.trans (q.1.weak (by decide) (by decide) (by decide)), q.2⟩)) (fun _ h hs => ?_)
    refine vr_Z hs (by decide) ox0 (fun h hs => ?_)
    exact vk_X16_know_16 hs
  · exact vk_X16_know_16 hs
theorem vk_X16_know {O : Nat → Prop} {x0 : Nat} {h : vt_S} {r : Unit} {s : vt_S} (c : vcl O h) (ox0 : O x0) (e : ab_X16_know x0 h = some (r, s)) : vw [1705, 1711, 1717, 1725, 1726, 1727] [1706, 1707, 1708, 1709, 1710, 1712, 1713, 1714, 1715, 1716, 1718, 1719, 1720, 1721, 1722, 1723, 1724] [] O h s := vk_X16_know_0 ox0 ⟨vk.refl h, c⟩ r s e

theorem vk_X16_isNode_21 {O : Nat → Prop} {z0 : vt_S} {s0 : Int32} {h : vt_S} (hs : vw [1705, 1711, 1717, 1725, 1726, 1727] [1706, 1707, 1708, 1709, 1710, 1712, 1713, 1714, 1715, 1716, 1718, 1719, 1720, 1721, 1722, 1723, 1724] [] O z0 h) : vfr (vw [1705, 1711, 1717, 1725, 1726, 1727] [1706, 1707, 1708, 1709, 1710, 1712, 1713, 1714, 1715, 1716, 1718, 1719, 1720, 1721, 1722, 1723, 1724] [] O) z0 (ab_X16_isNode_21 s0 h) := by
  unfold ab_X16_isNode_21
  exact vr_rz hs
theorem vk_X16_isNode_20 {O : Nat → Prop} {z0 : vt_S} {h : vt_S} (hs : vw [1705, 1711, 1717, 1725, 1726, 1727] [1706, 1707, 1708, 1709, 1710, 1712, 1713, 1714, 1715, 1716, 1718, 1719, 1720, 1721, 1722, 1723, 1724] [] O z0 h) : vfr (vw [1705, 1711, 1717, 1725, 1726, 1727] [1706, 1707, 1708, 1709, 1710, 1712, 1713, 1714, 1715, 1716, 1718, 1719, 1720, 1721, 1722, 1723, 1724] [] O) z0 (ab_X16_isNode_20 h) := by
  unfold ab_X16_isNode_20
  exact vk_X16_isNode_21 hs
theorem vk_X16_isNode_0 {O : Nat → Prop} {z0 : vt_S} {x0 : Nat} {x1 : Int32} {h : vt_S} (ox0 : O x0) (hs : vw [1705, 1711, 1717, 1725, 1726, 1727] [1706, 1707, 1708, 1709, 1710, 1712, 1713, 1714, 1715, 1716, 1718, 1719, 1720, 1721, 1722, 1723, 1724] [] O z0 h) : vfr (vw [1705, 1711, 1717, 1725, 1726, 1727] [1706, 1707, 1708, 1709, 1710, 1712, 1713, 1714, 1715, 1716, 1718, 1719, 1720, 1721, 1722, 1723, 1724] [] O) z0 (ab_X16_isNode x0 x1 h) := by
  unfold ab_X16_isNode
  refine vr_cl (fun _ _ e => (let q := vk_X16_know hs.2 ox0 e; ⟨hs.1.trans (q.1.weak (by decide) (by decide) (by decide)), q.2⟩)) (fun _ h hs => ?_)
  refine vr_if ?_ ?_
  · exact vk_X16_isNode_20 hs
  · refine vr_let (fun _ => ?_)
    refine vr_if ?_ ?_
    · exact vk_X16_isNode_20 hs
    · exact vk_X16_isNode_21 hs
theorem vk_X16_isNode {O : Nat → Prop} {x0 : Nat} {x1 : Int32} {h : vt_S} {r : Int32} {s : vt_S} (c : vcl O h) (ox0 : O x0) (e : ab_X16_isNode x0 x1 h = some (r, s)) : vw [1705, 1711, 1717, 1725, 1726, 1727] [1706, 1707, 1708, 1709, 1710, 1712, 1713, 1714, 1715, 1716, 1718, 1719, 1720, 1721, 1722, 1723, 1724] [] O h s := vk_X16_isNode_0 ox0 ⟨vk.refl h, c⟩ r s e

theorem ve_X16_within_33 {z0 : vt_S} {x1 : Int32} {x2 : Int32} {h : vt_S} (hs : veq z0 h) : vfr veq z0 (ab_X16_within_33 x1 x2 h) := by
  unfold ab_X16_within_33
  exact vr_rt hs
theorem ve_X16_within_4b {z0 : vt_S} {k4 : Nat → Int32 → Int32 → vt_S → Option (Int32 × vt_S)} (hk4 : ∀ {x0 : Nat} {x1 : Int32} {x2 : Int32} {h : vt_S}, veq z0 h → vfr veq z0 (k4 x0 x1 x2 h)) {x0 : Nat} {x1 : Int32} {x2 : Int32} {h : vt_S} (hs : veq z0 h) : vfr veq z0 (ab_X16_within_4b k4 x0 x1 x2 h) := by
  unfold ab_X16_within_4b
  refine vr_let (fun _ => ?_)
  refine vr_if ?_ ?_
  · exact ve_X16_within_33 hs
  · refine vr_bd (fun _ => ?_)
    refine vr_bd (fun _ => ?_)
    refine vr_if ?_ ?_
    · exact ve_X16_within_33 hs
    · exact hk4 hs
theorem ve_X16_within_4 {z0 : vt_S} : ∀ (n : Nat) {x0 : Nat} {x1 : Int32} {x2 : Int32} {h : vt_S}, veq z0 h → vfr veq z0 (ab_X16_within_4 n x0 x1 x2 h) := by
  intro n
  induction n with
  | zero => intro x0 x1 x2 h hs; exact vr_no
  | succ n ih => intro x0 x1 x2 h hs; exact ve_X16_within_4b (fun hs => ih hs) hs
theorem ve_X16_within_0 {z0 : vt_S} {x0 : Nat} {x1 : Int32} {h : vt_S} (hs : veq z0 h) : vfr veq z0 (ab_X16_within x0 x1 h) := by
  unfold ab_X16_within
  exact ve_X16_within_4 sv_fuel hs
theorem ve_X16_within {x0 : Nat} {x1 : Int32} {h : vt_S} {r : Int32} {s : vt_S} (e : ab_X16_within x0 x1 h = some (r, s)) : s = h := ve_X16_within_0 rfl r s e

theorem vk_X16_node_74 {O : Nat → Prop} {z0 : vt_S} {s0 : Int32} {h : vt_S} (hs : vw [1705, 1711, 1717, 1725, 1726, 1727] [1706, 1707, 1708, 1709, 1710, 1712, 1713, 1714, 1715, 1716, 1718, 1719, 1720, 1721, 1722, 1723, 1724] [] O z0 h) : vfr (vw [1705, 1711, 1717, 1725, 1726, 1727] [1706, 1707, 1708, 1709, 1710, 1712, 1713, 1714, 1715, 1716, 1718, 1719, 1720, 1721, 1722, 1723, 1724] [] O) z0 (ab_X16_node_74 s0 h) := by
  unfold ab_X16_node_74
  exact vr_rt hs
theorem vk_X16_node_94 {O : Nat → Prop} {z0 : vt_S} {s0 : Int32} {h : vt_S} (hs : vw [1705, 1711, 1717, 1725, 1726, 1727] [1706, 1707, 1708, 1709, 1710, 1712, 1713, 1714, 1715, 1716, 1718, 1719, 1720, 1721, 1722, 1723, 1724] [] O z0 h) : vfr (vw [1705, 1711, 1717, 1725, 1726, 1727] [1706, 1707, 1708, 1709, 1710, 1712, 1713, 1714, 1715, 1716, 1718, 1719, 1720, 1721, 1722, 1723, 1724] [] O) z0 (ab_X16_node_94 s0 h) := by
  unfold ab_X16_node_94
  exact vr_rt hs
theorem vk_X16_node_0 {O : Nat → Prop} {z0 : vt_S} {x0 : Nat} {x1 : Int32} {x2 : Int32} {h : vt_S} (ox0 : O x0) (hs : vw [1705, 1711, 1717, 1725, 1726, 1727] [1706, 1707, 1708, 1709, 1710, 1712, 1713, 1714, 1715, 1716, 1718, 1719, 1720, 1721, 1722, 1723, 1724] [] O z0 h) : vfr (vw [1705, 1711, 1717, 1725, 1726, 1727] [1706, 1707, 1708, 1709, 1710, 1712, 1713, 1714, 1715, 1716, 1718, 1719, 1720, 1721, 1722, 1723, 1724] [] O) z0 (ab_X16_node x0 x1 x2 h) := by
  unfold ab_X16_node
  refine vr_cl (fun _ _ e => (let q := vk_X16_isNode hs.2 ox0 e; ⟨hs.1.trans (q.1.weak (by decide) (by decide) (by decide)), q.2⟩)) (fun _ h hs => ?_)
  refine vr_if ?_ ?_
  · exact vr_rt hs
  · refine vr_if ?_ ?_
    · refine vr_bd (fun _ => ?_)
      exact vr_rt hs
    refine vr_if ?_ ?_
    · refine vr_bd (fun _ => ?_)
      refine vr_if ?_ ?_
      · refine vr_bd (fun _ => ?_)
        exact vk_X16_node_74 hs
      · exact vk_X16_node_74 hs
    refine vr_if ?_ ?_
    · refine vr_bd (fun _ => ?_)
      refine vr_if ?_ ?_
      · refine vr_bd (fun _ => ?_)
        exact vk_X16_node_94 hs
      · exact vk_X16_node_94 hs
    refine vr_if ?_ ?_
    · refine vr_bd (fun _ => ?_)
      exact vr_rt hs
    refine vr_if ?_ ?_
    · refine vr_cl (fun _ _ e => (by rw [ve_X16_within e]; exact hs)) (fun _ h hs => ?_)
      exact vr_rt hs
    refine vr_if ?_ ?_
    · refine vr_bd (fun _ => ?_)
      exact vr_rt hs
    exact vr_rt hs
theorem vk_X16_node {O : Nat → Prop} {x0 : Nat} {x1 : Int32} {x2 : Int32} {h : vt_S} {r : Int32} {s : vt_S} (c : vcl O h) (ox0 : O x0) (e : ab_X16_node x0 x1 x2 h = some (r, s)) : vw [1705, 1711, 1717, 1725, 1726, 1727] [1706, 1707, 1708, 1709, 1710, 1712, 1713, 1714, 1715, 1716, 1718, 1719, 1720, 1721, 1722, 1723, 1724] [] O h s := vk_X16_node_0 ox0 ⟨vk.refl h, c⟩ r s e

theorem vk_X17_nodeOf_25 {O : Nat → Prop} {z0 : vt_S} {s0 : Int32} {h : vt_S} (hs : vw [1705, 1711, 1717, 1725, 1726, 1727, 1800] [1706, 1707, 1708, 1709, 1710, 1712, 1713, 1714, 1715, 1716, 1718, 1719, 1720, 1721, 1722, 1723, 1724] [] O z0 h) : vfr (vw [1705, 1711, 1717, 1725, 1726, 1727, 1800] [1706, 1707, 1708, 1709, 1710, 1712, 1713, 1714, 1715, 1716, 1718, 1719, 1720, 1721, 1722, 1723, 1724] [] O) z0 (ab_X17_nodeOf_25 s0 h) := by
  unfold ab_X17_nodeOf_25
  exact vr_rt hs
theorem vk_X17_nodeOf_0 {O : Nat → Prop} {z0 : vt_S} {x0 : Nat} {x1 : Int32} {x2 : Int32} {h : vt_S} (ox0 : O x0) (hs : vw [1705, 1711, 1717, 1725, 1726, 1727, 1800] [1706, 1707, 1708, 1709, 1710, 1712, 1713, 1714, 1715, 1716, 1718, 1719, 1720, 1721, 1722, 1723, 1724] [] O z0 h) : vfr (vw [1705, 1711, 1717, 1725, 1726, 1727, 1800] [1706, 1707, 1708, 1709, 1710, 1712, 1713, 1714, 1715, 1716, 1718, 1719, 1720, 1721, 1722, 1723, 1724] [] O) z0 (ab_X17_nodeOf x0 x1 x2 h) := by
  unfold ab_X17_nodeOf
  refine vr_I hs (by decide) ox0 (fun h hs => ?_)
  refine vr_let (fun _ => ?_)
  refine vr_if ?_ ?_
  · exact vk_X17_nodeOf_25 hs
  · refine vr_gP hs ox0 (fun v3 ov3 => ?_)
    refine vr_cl (fun _ _ e => (let q := vk_X16_node hs.2 ov3 e; ⟨hs.1.trans (q.1.weak (by decide) (by decide) (by decide)), q.2⟩)) (fun _ h hs => ?_)
    exact vk_X17_nodeOf_25 hs
theorem vk_X17_nodeOf {O : Nat → Prop} {x0 : Nat} {x1 : Int32} {x2 : Int32} {h : vt_S} {r : Int32} {s : vt_S} (c : vcl O h) (ox0 : O x0) (e : ab_X17_nodeOf x0 x1 x2 h = some (r, s)) : vw [1705, 1711, 1717, 1725, 1726, 1727, 1800] [1706, 1707, 1708, 1709, 1710, 1712, 1713, 1714, 1715, 1716, 1718, 1719, 1720, 1721, 1722, 1723, 1724] [] O h s := vk_X17_nodeOf_0 ox0 ⟨vk.refl h, c⟩ r s e

theorem ve_X8_leafAround_90 {z0 : vt_S} {x4 : Int32} {h : vt_S} (hs : veq z0 h) : vfr veq z0 (ab_X8_leafAround_90 x4 h) := by
  unfold ab_X8_leafAround_90
  exact vr_rt hs
theorem ve_X8_leafAround_82 {z0 : vt_S} {k17 : Nat → Nat → Int32 → Int32 → Int32 → Int32 → vt_S → Option (Int32 × vt_S)} (hk17 : ∀ {x0 : Nat} {x1 : Nat} {x2 : Int32} {x3 : Int32} {x4 : Int32} {x5 : Int32} {h : vt_S}, veq z0 h → vfr veq z0 (k17 x0 x1 x2 x3 x4 x5 h)) {x0 : Nat} {x1 : Nat} {x2 : Int32} {x3 : Int32} {x5 : Int32} {s0 : Int32} {h : vt_S} (hs : veq z0 h) : vfr veq z0 (ab_X8_leafAround_82 k17 x0 x1 x2 x3 x5 s0 h) := by
  unfold ab_X8_leafAround_82
  exact hk17 hs
theorem ve_X8_leafAround_58 {z0 : vt_S} {k17 : Nat → Nat → Int32 → Int32 → Int32 → Int32 → vt_S → Option (Int32 × vt_S)} (hk17 : ∀ {x0 : Nat} {x1 : Nat} {x2 : Int32} {x3 : Int32} {x4 : Int32} {x5 : Int32} {h : vt_S}, veq z0 h → vfr veq z0 (k17 x0 x1 x2 x3 x4 x5 h)) {x0 : Nat} {x1 : Nat} {x2 : Int32} {x3 : Int32} {x4 : Int32} {x5 : Int32} {s0 : Int32} {h : vt_S} (hs : veq z0 h) : vfr veq z0 (ab_X8_leafAround_58 k17 x0 x1 x2 x3 x4 x5 s0 h) := by
  unfold ab_X8_leafAround_58
  refine vr_if ?_ ?_
  · refine vr_bd (fun _ => ?_)
    exact ve_X8_leafAround_82 hk17 hs
  · refine vr_bd (fun _ => ?_)
    exact ve_X8_leafAround_82 hk17 hs
theorem ve_X8_leafAround_17b {z0 : vt_S} {k17 : Nat → Nat → Int32 → Int32 → Int32 → Int32 → vt_S → Option (Int32 × vt_S)} (hk17 : ∀ {x0 : Nat} {x1 : Nat} {x2 : Int32} {x3 : Int32} {x4 : Int32} {x5 : Int32} {h : vt_S}, veq z0 h → vfr veq z0 (k17 x0 x1 x2 x3 x4 x5 h)) {x0 : Nat} {x1 : Nat} {x2 : Int32} {x3 : Int32} {x4 : Int32} {x5 : Int32} {h : vt_S} (hs : veq z0 h) : vfr veq z0 (ab_X8_leafAround_17b k17 x0 x1 x2 x3 x4 x5 h) := by
  unfold ab_X8_leafAround_17b
  refine vr_let (fun _ => ?_)
  refine vr_if ?_ ?_
  · exact ve_X8_leafAround_90 hs
  · refine vr_if ?_ ?_
    · exact ve_X8_leafAround_90 hs
    · refine vr_bd (fun _ => ?_)
      refine vr_bd (fun _ => ?_)
      refine vr_cl (fun _ _ e => ((ve_X11_sideOf e).trans hs)) (fun _ h hs => ?_)
      refine vr_if ?_ ?_
      · exact ve_X8_leafAround_58 hk17 hs
      · exact ve_X8_leafAround_58 hk17 hs
theorem ve_X8_leafAround_17 {z0 : vt_S} : ∀ (n : Nat) {x0 : Nat} {x1 : Nat} {x2 : Int32} {x3 : Int32} {x4 : Int32} {x5 : Int32} {h : vt_S}, veq z0 h → vfr veq z0 (ab_X8_leafAround_17 n x0 x1 x2 x3 x4 x5 h) := by
  intro n
  induction n with
  | zero => intro x0 x1 x2 x3 x4 x5 h hs; exact vr_no
  | succ n ih => intro x0 x1 x2 x3 x4 x5 h hs; exact ve_X8_leafAround_17b (fun hs => ih hs) hs
theorem ve_X8_leafAround_12 {z0 : vt_S} {x0 : Nat} {x1 : Nat} {x2 : Int32} {x3 : Int32} {s0 : Int32} {h : vt_S} (hs : veq z0 h) : vfr veq z0 (ab_X8_leafAround_12 x0 x1 x2 x3 s0 h) := by
  unfold ab_X8_leafAround_12
  exact ve_X8_leafAround_17 sv_fuel hs
theorem ve_X8_leafAround_0 {z0 : vt_S} {x0 : Nat} {x1 : Nat} {x2 : Int32} {x3 : Int32} {h : vt_S} (hs : veq z0 h) : vfr veq z0 (ab_X8_leafAround x0 x1 x2 x3 h) := by
  unfold ab_X8_leafAround
  refine vr_let (fun _ => ?_)
  refine vr_if ?_ ?_
  · exact ve_X8_leafAround_12 hs
  · exact ve_X8_leafAround_12 hs
theorem ve_X8_leafAround {x0 : Nat} {x1 : Nat} {x2 : Int32} {x3 : Int32} {h : vt_S} {r : Int32} {s : vt_S} (e : ab_X8_leafAround x0 x1 x2 x3 h = some (r, s)) : s = h := ve_X8_leafAround_0 rfl r s e

theorem ve_X12_leafOf_15 {z0 : vt_S} {h : vt_S} (hs : veq z0 h) : vfr veq z0 (ab_X12_leafOf_15 h) := by
  unfold ab_X12_leafOf_15
  exact vr_rt hs
theorem ve_X12_leafOf_0 {z0 : vt_S} {x0 : Nat} {x1 : Int32} {x2 : Int32} {h : vt_S} (hs : veq z0 h) : vfr veq z0 (ab_X12_leafOf x0 x1 x2 h) := by
  unfold ab_X12_leafOf
  refine vr_cl (fun _ _ e => ((ve_X12_hasMap e).trans hs)) (fun _ h hs => ?_)
  refine vr_if ?_ ?_
  · exact ve_X12_leafOf_15 hs
  · refine vr_cl (fun _ _ e => ((ve_X12_isPlace e).trans hs)) (fun _ h hs => ?_)
    refine vr_if ?_ ?_
    · exact ve_X12_leafOf_15 hs
    · refine vr_let (fun _ => ?_)
      refine vr_let (fun _ => ?_)
      refine vr_cl (fun _ _ e => ((ve_X8_leafAround e).trans hs)) (fun _ h hs => ?_)
      exact vr_rt hs
theorem ve_X12_leafOf {x0 : Nat} {x1 : Int32} {x2 : Int32} {h : vt_S} {r : Int32} {s : vt_S} (e : ab_X12_leafOf x0 x1 x2 h = some (r, s)) : s = h := ve_X12_leafOf_0 rfl r s e

theorem ve_X16_isPlace_19 {z0 : vt_S} {s0 : Int32} {h : vt_S} (hs : veq z0 h) : vfr veq z0 (ab_X16_isPlace_19 s0 h) := by
  unfold ab_X16_isPlace_19
  exact vr_rz hs
theorem ve_X16_isPlace_18 {z0 : vt_S} {h : vt_S} (hs : veq z0 h) : vfr veq z0 (ab_X16_isPlace_18 h) := by
  unfold ab_X16_isPlace_18
  exact ve_X16_isPlace_19 hs
theorem ve_X16_isPlace_0 {z0 : vt_S} {x0 : Int32} {h : vt_S} (hs : veq z0 h) : vfr veq z0 (ab_X16_isPlace x0 h) := by
  unfold ab_X16_isPlace
  refine vr_if ?_ ?_
  · exact ve_X16_isPlace_18 hs
  · refine vr_if ?_ ?_
    · exact ve_X16_isPlace_18 hs
    · exact ve_X16_isPlace_19 hs
theorem ve_X16_isPlace {x0 : Int32} {h : vt_S} {r : Int32} {s : vt_S} (e : ab_X16_isPlace x0 h = some (r, s)) : s = h := ve_X16_isPlace_0 rfl r s e

theorem ve_X16_isLeft_24 {z0 : vt_S} {s0 : Int32} {h : vt_S} (hs : veq z0 h) : vfr veq z0 (ab_X16_isLeft_24 s0 h) := by
  unfold ab_X16_isLeft_24
  exact vr_rz hs
theorem ve_X16_isLeft_0 {z0 : vt_S} {x0 : Nat} {x1 : Int32} {x2 : Int32} {x3 : Int32} {h : vt_S} (hs : veq z0 h) : vfr veq z0 (ab_X16_isLeft x0 x1 x2 x3 h) := by
  unfold ab_X16_isLeft
  refine vr_bd (fun _ => ?_)
  refine vr_cl (fun _ _ e => ((ve_X16_sideOf e).trans hs)) (fun _ h hs => ?_)
  refine vr_if ?_ ?_
  · exact ve_X16_isLeft_24 hs
  · exact ve_X16_isLeft_24 hs
theorem ve_X16_isLeft {x0 : Nat} {x1 : Int32} {x2 : Int32} {x3 : Int32} {h : vt_S} {r : Int32} {s : vt_S} (e : ab_X16_isLeft x0 x1 x2 x3 h = some (r, s)) : s = h := ve_X16_isLeft_0 rfl r s e

theorem vk_X16_leaf_14 {O : Nat → Prop} {z0 : vt_S} {h : vt_S} (hs : vw [1705, 1711, 1717, 1725, 1726, 1727] [1706, 1707, 1708, 1709, 1710, 1712, 1713, 1714, 1715, 1716, 1718, 1719, 1720, 1721, 1722, 1723, 1724] [] O z0 h) : vfr (vw [1705, 1711, 1717, 1725, 1726, 1727] [1706, 1707, 1708, 1709, 1710, 1712, 1713, 1714, 1715, 1716, 1718, 1719, 1720, 1721, 1722, 1723, 1724] [] O) z0 (ab_X16_leaf_14 h) := by
  unfold ab_X16_leaf_14
  exact vr_rt hs
theorem vk_X16_leaf_62 {O : Nat → Prop} {z0 : vt_S} {k33 : Nat → Int32 → Int32 → Int32 → vt_S → Option (Int32 × vt_S)} (hk33 : ∀ {x0 : Nat} {x1 : Int32} {x2 : Int32} {x3 : Int32} {h : vt_S}, O x0 → vw [1705, 1711, 1717, 1725, 1726, 1727] [1706, 1707, 1708, 1709, 1710, 1712, 1713, 1714, 1715, 1716, 1718, 1719, 1720, 1721, 1722, 1723, 1724] [] O z0 h → vfr (vw [1705, 1711, 1717, 1725, 1726, 1727] [1706, 1707, 1708, 1709, 1710, 1712, 1713, 1714, 1715, 1716, 1718, 1719, 1720, 1721, 1722, 1723, 1724] [] O) z0 (k33 x0 x1 x2 x3 h)) {x0 : Nat} {x1 : Int32} {x2 : Int32} {s0 : Int32} {h : vt_S} (ox0 : O x0) (hs : vw [1705, 1711, 1717, 1725, 1726, 1727] [1706, 1707, 1708, 1709, 1710, 1712, 1713, 1714, 1715, 1716, 1718, 1719, 1720, 1721, 1722, 1723, 1724] [] O z0 h) : vfr (vw [1705, 1711, 1717, 1725, 1726, 1727] [1706, 1707, 1708, 1709, 1710, 1712, 1713, 1714, 1715, 1716, 1718, 1719, 1720, 1721, 1722, 1723, 1724] [] O) z0 (ab_X16_leaf_62 k33 x0 x1 x2 s0 h) := by
  unfold ab_X16_leaf_62
  exact hk33 ox0 hs
theorem vk_X16_leaf_33b {O : Nat → Prop} {z0 : vt_S} {k33 : Nat → Int32 → Int32 → Int32 → vt_S → Option (Int32 × vt_S)} (hk33 : ∀ {x0 : Nat} {x1 : Int32} {x2 : Int32} {x3 : Int32} {h : vt_S}, O x0 → vw [1705, 1711, 1717, 1725, 1726, 1727] [1706, 1707, 1708, 1709, 1710, 1712, 1713, 1714, 1715, 1716, 1718, 1719, 1720, 1721, 1722, 1723, 1724] [] O z0 h → vfr (vw [1705, 1711, 1717, 1725, 1726, 1727] [1706, 1707, 1708, 1709, 1710, 1712, 1713, 1714, 1715, 1716, 1718, 1719, 1720, 1721, 1722, 1723, 1724] [] O) z0 (k33 x0 x1 x2 x3 h)) {x0 : Nat} {x1 : Int32} {x2 : Int32} {x3 : Int32} {h : vt_S} (ox0 : O x0) (hs : vw [1705, 1711, 1717, 1725, 1726, 1727] [1706, 1707, 1708, 1709, 1710, 1712, 1713, 1714, 1715, 1716, 1718, 1719, 1720, 1721, 1722, 1723, 1724] [] O z0 h) : vfr (vw [1705, 1711, 1717, 1725, 1726, 1727] [1706, 1707, 1708, 1709, 1710, 1712, 1713, 1714, 1715, 1716, 1718, 1719, 1720, 1721, 1722, 1723, 1724] [] O) z0 (ab_X16_leaf_33b k33 x0 x1 x2 x3 h) := by
  unfold ab_X16_leaf_33b
  refine vr_if ?_ ?_
  · exact vr_rt hs
  · refine vr_cl (fun _ _ e => (by rw [ve_X16_isLeft e]; exact hs)) (fun _ h hs => ?_)
    refine vr_if ?_ ?_
    · refine vr_bd (fun _ => ?_)
      exact vk_X16_leaf_62 hk33 ox0 hs
    · refine vr_bd (fun _ => ?_)
      exact vk_X16_leaf_62 hk33 ox0 hs
theorem vk_X16_leaf_33 {O : Nat → Prop} {z0 : vt_S} : ∀ (n : Nat) {x0 : Nat} {x1 : Int32} {x2 : Int32} {x3 : Int32} {h : vt_S}, O x0 → vw [1705, 1711, 1717, 1725, 1726, 1727] [1706, 1707, 1708, 1709, 1710, 1712, 1713, 1714, 1715, 1716, 1718, 1719, 1720, 1721, 1722, 1723, 1724] [] O z0 h → vfr (vw [1705, 1711, 1717, 1725, 1726, 1727] [1706, 1707, 1708, 1709, 1710, 1712, 1713, 1714, 1715, 1716, 1718, 1719, 1720, 1721, 1722, 1723, 1724] [] O) z0 (ab_X16_leaf_33 n x0 x1 x2 x3 h) := by
  intro n
  induction n with
  | zero => intro x0 x1 x2 x3 h ox0 hs; exact vr_no
  | succ n ih => intro x0 x1 x2 x3 h ox0 hs; exact vk_X16_leaf_33b (fun ox0 hs => ih ox0 hs) ox0 hs
theorem vk_X16_leaf_32 {O : Nat → Prop} {z0 : vt_S} {x0 : Nat} {x1 : Int32} {x2 : Int32} {s0 : Int32} {h : vt_S} (ox0 : O x0) (hs : vw [1705, 1711, 1717, 1725, 1726, 1727] [1706, 1707, 1708, 1709, 1710, 1712, 1713, 1714, 1715, 1716, 1718, 1719, 1720, 1721, 1722, 1723, 1724] [] O z0 h) : vfr (vw [1705, 1711, 1717, 1725, 1726, 1727] [1706, 1707, 1708, 1709, 1710, 1712, 1713, 1714, 1715, 1716, 1718, 1719, 1720, 1721, 1722, 1723, 1724] [] O) z0 (ab_X16_leaf_32 x0 x1 x2 s0 h) := by
  unfold ab_X16_leaf_32
  exact vk_X16_leaf_33 sv_fuel ox0 hs
theorem vk_X16_leaf_0 {O : Nat → Prop} {z0 : vt_S} {x0 : Nat} {x1 : Int32} {x2 : Int32} {h : vt_S} (ox0 : O x0) (hs : vw [1705, 1711, 1717, 1725, 1726, 1727] [1706, 1707, 1708, 1709, 1710, 1712, 1713, 1714, 1715, 1716, 1718, 1719, 1720, 1721, 1722, 1723, 1724] [] O z0 h) : vfr (vw [1705, 1711, 1717, 1725, 1726, 1727] [1706, 1707, 1708, 1709, 1710, 1712, 1713, 1714, 1715, 1716, 1718, 1719, 1720, 1721, 1722, 1723, 1724] [] O) z0 (ab_X16_leaf x0 x1 x2 h) := by
  unfold ab_X16_leaf
  refine vr_cl (fun _ _ e => (by rw [ve_X16_isPlace e]; exact hs)) (fun _ h hs => ?_)
  refine vr_if ?_ ?_
  · exact vk_X16_leaf_14 hs
  · refine vr_cl (fun _ _ e => (by rw [ve_X16_isPlace e]; exact hs)) (fun _ h hs => ?_)
    refine vr_if ?_ ?_
    · exact vk_X16_leaf_14 hs
    · refine vr_cl (fun _ _ e => (let q := vk_X16_know hs.2 ox0 e; ⟨hs.1.trans (q.1.weak (by decide) (by decide) (by decide)), q.2⟩)) (fun _ h hs => ?_)
      refine vr_let (fun _ => ?_)
      refine vr_if ?_ ?_
      · exact vk_X16_leaf_32 ox0 hs
      · exact vk_X16_leaf_32 ox0 hs
theorem vk_X16_leaf {O : Nat → Prop} {x0 : Nat} {x1 : Int32} {x2 : Int32} {h : vt_S} {r : Int32} {s : vt_S} (c : vcl O h) (ox0 : O x0) (e : ab_X16_leaf x0 x1 x2 h = some (r, s)) : vw [1705, 1711, 1717, 1725, 1726, 1727] [1706, 1707, 1708, 1709, 1710, 1712, 1713, 1714, 1715, 1716, 1718, 1719, 1720, 1721, 1722, 1723, 1724] [] O h s := vk_X16_leaf_0 ox0 ⟨vk.refl h, c⟩ r s e

theorem vk_X17_leafOf_25 {O : Nat → Prop} {z0 : vt_S} {s0 : Int32} {h : vt_S} (hs : vw [1705, 1711, 1717, 1725, 1726, 1727, 1800] [1706, 1707, 1708, 1709, 1710, 1712, 1713, 1714, 1715, 1716, 1718, 1719, 1720, 1721, 1722, 1723, 1724] [] O z0 h) : vfr (vw [1705, 1711, 1717, 1725, 1726, 1727, 1800] [1706, 1707, 1708, 1709, 1710, 1712, 1713, 1714, 1715, 1716, 1718, 1719, 1720, 1721, 1722, 1723, 1724] [] O) z0 (ab_X17_leafOf_25 s0 h) := by
  unfold ab_X17_leafOf_25
  exact vr_rt hs
theorem vk_X17_leafOf_0 {O : Nat → Prop} {z0 : vt_S} {x0 : Nat} {x1 : Int32} {x2 : Int32} {h : vt_S} (ox0 : O x0) (hs : vw [1705, 1711, 1717, 1725, 1726, 1727, 1800] [1706, 1707, 1708, 1709, 1710, 1712, 1713, 1714, 1715, 1716, 1718, 1719, 1720, 1721, 1722, 1723, 1724] [] O z0 h) : vfr (vw [1705, 1711, 1717, 1725, 1726, 1727, 1800] [1706, 1707, 1708, 1709, 1710, 1712, 1713, 1714, 1715, 1716, 1718, 1719, 1720, 1721, 1722, 1723, 1724] [] O) z0 (ab_X17_leafOf x0 x1 x2 h) := by
  unfold ab_X17_leafOf
  refine vr_I hs (by decide) ox0 (fun h hs => ?_)
  refine vr_let (fun _ => ?_)
  refine vr_if ?_ ?_
  · exact vk_X17_leafOf_25 hs
  · refine vr_gP hs ox0 (fun v3 ov3 => ?_)
    refine vr_cl (fun _ _ e => (let q := vk_X16_leaf hs.2 ov3 e; ⟨hs.1.trans (q.1.weak (by decide) (by decide) (by decide)), q.2⟩)) (fun _ h hs => ?_)
    exact vk_X17_leafOf_25 hs
theorem vk_X17_leafOf {O : Nat → Prop} {x0 : Nat} {x1 : Int32} {x2 : Int32} {h : vt_S} {r : Int32} {s : vt_S} (c : vcl O h) (ox0 : O x0) (e : ab_X17_leafOf x0 x1 x2 h = some (r, s)) : vw [1705, 1711, 1717, 1725, 1726, 1727, 1800] [1706, 1707, 1708, 1709, 1710, 1712, 1713, 1714, 1715, 1716, 1718, 1719, 1720, 1721, 1722, 1723, 1724] [] O h s := vk_X17_leafOf_0 ox0 ⟨vk.refl h, c⟩ r s e

theorem ve_X12_byteOf_38 {z0 : vt_S} {s0 : Int32} {h : vt_S} (hs : veq z0 h) : vfr veq z0 (ab_X12_byteOf_38 s0 h) := by
  unfold ab_X12_byteOf_38
  exact vr_rt hs
theorem ve_X12_byteOf_37 {z0 : vt_S} {h : vt_S} (hs : veq z0 h) : vfr veq z0 (ab_X12_byteOf_37 h) := by
  unfold ab_X12_byteOf_37
  exact ve_X12_byteOf_38 hs
theorem ve_X12_byteOf_15 {z0 : vt_S} {x1 : Int32} {s0 : Nat} {h : vt_S} (hs : veq z0 h) : vfr veq z0 (ab_X12_byteOf_15 x1 s0 h) := by
  unfold ab_X12_byteOf_15
  refine vr_if ?_ ?_
  · exact ve_X12_byteOf_37 hs
  · refine vr_let (fun _ => ?_)
    refine vr_if ?_ ?_
    · exact ve_X12_byteOf_37 hs
    · refine vr_bd (fun _ => ?_)
      exact ve_X12_byteOf_38 hs
theorem ve_X12_byteOf_0 {z0 : vt_S} {x0 : Nat} {x1 : Int32} {x2 : Int32} {h : vt_S} (hs : veq z0 h) : vfr veq z0 (ab_X12_byteOf x0 x1 x2 h) := by
  unfold ab_X12_byteOf
  refine vr_if ?_ ?_
  · refine vr_let (fun _ => ?_)
    exact ve_X12_byteOf_15 hs
  · refine vr_let (fun _ => ?_)
    exact ve_X12_byteOf_15 hs
theorem ve_X12_byteOf {x0 : Nat} {x1 : Int32} {x2 : Int32} {h : vt_S} {r : Int32} {s : vt_S} (e : ab_X12_byteOf x0 x1 x2 h = some (r, s)) : s = h := ve_X12_byteOf_0 rfl r s e

theorem vk_X17_byteOf_31 {O : Nat → Prop} {z0 : vt_S} {h : vt_S} (hs : vw [1800] [] [] O z0 h) : vfr (vw [1800] [] [] O) z0 (ab_X17_byteOf_31 h) := by
  unfold ab_X17_byteOf_31
  exact vr_rt hs
theorem vk_X17_byteOf_59 {O : Nat → Prop} {z0 : vt_S} {s0 : Int32} {h : vt_S} (hs : vw [1800] [] [] O z0 h) : vfr (vw [1800] [] [] O) z0 (ab_X17_byteOf_59 s0 h) := by
  unfold ab_X17_byteOf_59
  exact vr_rt hs
theorem vk_X17_byteOf_28 {O : Nat → Prop} {z0 : vt_S} {x0 : Nat} {x1 : Int32} {x2 : Int32} {s0 : Int32} {s1 : Int32} {h : vt_S} (ox0 : O x0) (hs : vw [1800] [] [] O z0 h) : vfr (vw [1800] [] [] O) z0 (ab_X17_byteOf_28 x0 x1 x2 s0 s1 h) := by
  unfold ab_X17_byteOf_28
  refine vr_if ?_ ?_
  · refine vr_if ?_ ?_
    · refine vr_bd (fun _ => ?_)
      exact vk_X17_byteOf_59 hs
    · refine vr_gP hs ox0 (fun v3 ov3 => ?_)
      refine vr_bd (fun _ => ?_)
      exact vk_X17_byteOf_59 hs
  · exact vk_X17_byteOf_31 hs
theorem vk_X17_byteOf_0 {O : Nat → Prop} {z0 : vt_S} {x0 : Nat} {x1 : Int32} {x2 : Int32} {h : vt_S} (ox0 : O x0) (hs : vw [1800] [] [] O z0 h) : vfr (vw [1800] [] [] O) z0 (ab_X17_byteOf x0 x1 x2 h) := by
  unfold ab_X17_byteOf
  refine vr_I hs (by decide) ox0 (fun h hs => ?_)
  refine vr_if ?_ ?_
  · exact vk_X17_byteOf_31 hs
  · refine vr_if ?_ ?_
    · refine vr_let (fun _ => ?_)
      exact vk_X17_byteOf_28 ox0 hs
    · refine vr_gP hs ox0 (fun v3 ov3 => ?_)
      refine vr_let (fun _ => ?_)
      exact vk_X17_byteOf_28 ox0 hs
theorem vk_X17_byteOf {O : Nat → Prop} {x0 : Nat} {x1 : Int32} {x2 : Int32} {h : vt_S} {r : Int32} {s : vt_S} (c : vcl O h) (ox0 : O x0) (e : ab_X17_byteOf x0 x1 x2 h = some (r, s)) : vw [1800] [] [] O h s := vk_X17_byteOf_0 ox0 ⟨vk.refl h, c⟩ r s e

theorem ve_X12_lookAt_86 {z0 : vt_S} {s0 : Int32} {h : vt_S} (hs : veq z0 h) : vfr veq z0 (ab_X12_lookAt_86 s0 h) := by
  unfold ab_X12_lookAt_86
  exact vr_rt hs
theorem ve_X12_lookAt_105 {z0 : vt_S} {s0 : Int32} {h : vt_S} (hs : veq z0 h) : vfr veq z0 (ab_X12_lookAt_105 s0 h) := by
  unfold ab_X12_lookAt_105
  exact vr_rt hs
theorem ve_X12_lookAt_124 {z0 : vt_S} {s0 : Int32} {h : vt_S} (hs : veq z0 h) : vfr veq z0 (ab_X12_lookAt_124 s0 h) := by
  unfold ab_X12_lookAt_124
  exact vr_rt hs
theorem ve_X12_lookAt_143 {z0 : vt_S} {s0 : Int32} {h : vt_S} (hs : veq z0 h) : vfr veq z0 (ab_X12_lookAt_143 s0 h) := by
  unfold ab_X12_lookAt_143
  exact vr_rt hs
theorem ve_X12_lookAt_202 {z0 : vt_S} {s0 : Int32} {h : vt_S} (hs : veq z0 h) : vfr veq z0 (ab_X12_lookAt_202 s0 h) := by
  unfold ab_X12_lookAt_202
  exact vr_rt hs
theorem ve_X12_lookAt_221 {z0 : vt_S} {s0 : Int32} {h : vt_S} (hs : veq z0 h) : vfr veq z0 (ab_X12_lookAt_221 s0 h) := by
  unfold ab_X12_lookAt_221
  exact vr_rt hs
theorem ve_X12_lookAt_240 {z0 : vt_S} {s0 : Int32} {h : vt_S} (hs : veq z0 h) : vfr veq z0 (ab_X12_lookAt_240 s0 h) := by
  unfold ab_X12_lookAt_240
  exact vr_rt hs
theorem ve_X12_lookAt_0 {z0 : vt_S} {x0 : Nat} {x1 : Int32} {h : vt_S} (hs : veq z0 h) : vfr veq z0 (ab_X12_lookAt x0 x1 h) := by
  unfold ab_X12_lookAt
  refine vr_if ?_ ?_
  · refine vr_cl (fun _ _ e => ((ve_X12_hasMap e).trans hs)) (fun _ h hs => ?_)
    refine vr_if ?_ ?_
    · exact ve_X12_lookAt_86 hs
    · refine vr_let (fun _ => ?_)
      refine vr_let (fun _ => ?_)
      exact ve_X12_lookAt_86 hs
  refine vr_if ?_ ?_
  · refine vr_cl (fun _ _ e => ((ve_X12_hasMap e).trans hs)) (fun _ h hs => ?_)
    refine vr_if ?_ ?_
    · exact ve_X12_lookAt_105 hs
    · refine vr_let (fun _ => ?_)
      refine vr_let (fun _ => ?_)
      exact ve_X12_lookAt_105 hs
  refine vr_if ?_ ?_
  · refine vr_cl (fun _ _ e => ((ve_X12_hasMap e).trans hs)) (fun _ h hs => ?_)
    refine vr_if ?_ ?_
    · exact ve_X12_lookAt_124 hs
    · refine vr_let (fun _ => ?_)
      refine vr_let (fun _ => ?_)
      exact ve_X12_lookAt_124 hs
  refine vr_if ?_ ?_
  · refine vr_cl (fun _ _ e => ((ve_X12_hasMap e).trans hs)) (fun _ h hs => ?_)
    refine vr_if ?_ ?_
    · exact ve_X12_lookAt_143 hs
    · refine vr_let (fun _ => ?_)
      refine vr_let (fun _ => ?_)
      exact ve_X12_lookAt_143 hs
  refine vr_if ?_ ?_
  · refine vr_let (fun _ => ?_)
    refine vr_let (fun _ => ?_)
    exact vr_rt hs
  refine vr_if ?_ ?_
  · refine vr_let (fun _ => ?_)
    refine vr_let (fun _ => ?_)
    exact vr_rt hs
  refine vr_if ?_ ?_
  · refine vr_let (fun _ => ?_)
    refine vr_let (fun _ => ?_)
    exact vr_rt hs
  refine vr_if ?_ ?_
  · refine vr_let (fun _ => ?_)
    refine vr_let (fun _ => ?_)
    exact vr_rt hs
  refine vr_if ?_ ?_
  · refine vr_let (fun _ => ?_)
    refine vr_let (fun _ => ?_)
    exact vr_rt hs
  refine vr_if ?_ ?_
  · refine vr_cl (fun _ _ e => ((ve_X12_hasMap e).trans hs)) (fun _ h hs => ?_)
    refine vr_if ?_ ?_
    · exact ve_X12_lookAt_202 hs
    · refine vr_let (fun _ => ?_)
      refine vr_let (fun _ => ?_)
      exact ve_X12_lookAt_202 hs
  refine vr_if ?_ ?_
  · refine vr_cl (fun _ _ e => ((ve_X12_hasMap e).trans hs)) (fun _ h hs => ?_)
    refine vr_if ?_ ?_
    · exact ve_X12_lookAt_221 hs
    · refine vr_let (fun _ => ?_)
      refine vr_let (fun _ => ?_)
      exact ve_X12_lookAt_221 hs
  refine vr_if ?_ ?_
  · refine vr_cl (fun _ _ e => ((ve_X12_hasMap e).trans hs)) (fun _ h hs => ?_)
    refine vr_if ?_ ?_
    · exact ve_X12_lookAt_240 hs
    · refine vr_let (fun _ => ?_)
      refine vr_cl (fun _ _ e => ((ve_X2_moverCount e).trans hs)) (fun _ h hs => ?_)
      exact ve_X12_lookAt_240 hs
  refine vr_if ?_ ?_
  · refine vr_let (fun _ => ?_)
    exact vr_rt hs
  exact vr_rt hs
theorem ve_X12_lookAt {x0 : Nat} {x1 : Int32} {h : vt_S} {r : Int32} {s : vt_S} (e : ab_X12_lookAt x0 x1 h = some (r, s)) : s = h := ve_X12_lookAt_0 rfl r s e

theorem vk_X17_lookAt_93 {O : Nat → Prop} {z0 : vt_S} {s0 : Int32} {h : vt_S} (hs : vw [1705, 1711, 1717, 1725, 1726, 1727, 1800] [1706, 1707, 1708, 1709, 1710, 1712, 1713, 1714, 1715, 1716, 1718, 1719, 1720, 1721, 1722, 1723, 1724] [] O z0 h) : vfr (vw [1705, 1711, 1717, 1725, 1726, 1727, 1800] [1706, 1707, 1708, 1709, 1710, 1712, 1713, 1714, 1715, 1716, 1718, 1719, 1720, 1721, 1722, 1723, 1724] [] O) z0 (ab_X17_lookAt_93 s0 h) := by
  unfold ab_X17_lookAt_93
  exact vr_rt hs
theorem vk_X17_lookAt_72 {O : Nat → Prop} {z0 : vt_S} {x0 : Nat} {x1 : Int32} {h : vt_S} (ox0 : O x0) (hs : vw [1705, 1711, 1717, 1725, 1726, 1727, 1800] [1706, 1707, 1708, 1709, 1710, 1712, 1713, 1714, 1715, 1716, 1718, 1719, 1720, 1721, 1722, 1723, 1724] [] O z0 h) : vfr (vw [1705, 1711, 1717, 1725, 1726, 1727, 1800] [1706, 1707, 1708, 1709, 1710, 1712, 1713, 1714, 1715, 1716, 1718, 1719, 1720, 1721, 1722, 1723, 1724] [] O) z0 (ab_X17_lookAt_72 x0 x1 h) := by
  unfold ab_X17_lookAt_72
  refine vr_let (fun _ => ?_)
  refine vr_if ?_ ?_
  · exact vk_X17_lookAt_93 hs
  · refine vr_gP hs ox0 (fun v2 ov2 => ?_)
    refine vr_cl (fun _ _ e => (by rw [ve_X14_many e]; exact hs)) (fun _ h hs => ?_)
    exact vk_X17_lookAt_93 hs
theorem vk_X17_lookAt_150 {O : Nat → Prop} {z0 : vt_S} {s0 : Int32} {h : vt_S} (hs : vw [1705, 1711, 1717, 1725, 1726, 1727, 1800] [1706, 1707, 1708, 1709, 1710, 1712, 1713, 1714, 1715, 1716, 1718, 1719, 1720, 1721, 1722, 1723, 1724] [] O z0 h) : vfr (vw [1705, 1711, 1717, 1725, 1726, 1727, 1800] [1706, 1707, 1708, 1709, 1710, 1712, 1713, 1714, 1715, 1716, 1718, 1719, 1720, 1721, 1722, 1723, 1724] [] O) z0 (ab_X17_lookAt_150 s0 h) := by
  unfold ab_X17_lookAt_150
  exact vr_rt hs
theorem vk_X17_lookAt_176 {O : Nat → Prop} {z0 : vt_S} {s0 : Int32} {h : vt_S} (hs : vw [1705, 1711, 1717, 1725, 1726, 1727, 1800] [1706, 1707, 1708, 1709, 1710, 1712, 1713, 1714, 1715, 1716, 1718, 1719, 1720, 1721, 1722, 1723, 1724] [] O z0 h) : vfr (vw [1705, 1711, 1717, 1725, 1726, 1727, 1800] [1706, 1707, 1708, 1709, 1710, 1712, 1713, 1714, 1715, 1716, 1718, 1719, 1720, 1721, 1722, 1723, 1724] [] O) z0 (ab_X17_lookAt_176 s0 h) := by
  unfold ab_X17_lookAt_176
  exact vr_rt hs
theorem vk_X17_lookAt_0 {O : Nat → Prop} {z0 : vt_S} {x0 : Nat} {x1 : Int32} {h : vt_S} (ox0 : O x0) (hs : vw [1705, 1711, 1717, 1725, 1726, 1727, 1800] [1706, 1707, 1708, 1709, 1710, 1712, 1713, 1714, 1715, 1716, 1718, 1719, 1720, 1721, 1722, 1723, 1724] [] O z0 h) : vfr (vw [1705, 1711, 1717, 1725, 1726, 1727, 1800] [1706, 1707, 1708, 1709, 1710, 1712, 1713, 1714, 1715, 1716, 1718, 1719, 1720, 1721, 1722, 1723, 1724] [] O) z0 (ab_X17_lookAt x0 x1 h) := by
  unfold ab_X17_lookAt
  refine vr_I hs (by decide) ox0 (fun h hs => ?_)
  refine vr_if ?_ ?_
  · exact vk_X17_lookAt_72 ox0 hs
  refine vr_if ?_ ?_
  · exact vk_X17_lookAt_72 ox0 hs
  refine vr_if ?_ ?_
  · exact vk_X17_lookAt_72 ox0 hs
  refine vr_if ?_ ?_
  · exact vk_X17_lookAt_72 ox0 hs
  refine vr_if ?_ ?_
  · refine vr_gP hs ox0 (fun v2 ov2 => ?_)
    refine vr_let (fun _ => ?_)
    exact vr_rt hs
  refine vr_if ?_ ?_
  · refine vr_gP hs ox0 (fun v4 ov4 => ?_)
    refine vr_let (fun _ => ?_)
    exact vr_rt hs
  refine vr_if ?_ ?_
  · refine vr_let (fun _ => ?_)
    exact vr_rt hs
  refine vr_if ?_ ?_
  · refine vr_let (fun _ => ?_)
    exact vr_rt hs
  refine vr_if ?_ ?_
  · refine vr_let (fun _ => ?_)
    exact vr_rt hs
  refine vr_if ?_ ?_
  · refine vr_gP hs ox0 (fun v9 ov9 => ?_)
    refine vr_cl (fun _ _ e => (let q := vk_X16_know hs.2 ov9 e; ⟨hs.1.trans (q.1.weak (by decide) (by decide) (by decide)), q.2⟩)) (fun _ h hs => ?_)
    refine vr_let (fun _ => ?_)
    refine vr_if ?_ ?_
    · exact vk_X17_lookAt_150 hs
    · refine vr_gP hs ox0 (fun v12 ov12 => ?_)
      refine vr_let (fun _ => ?_)
      exact vk_X17_lookAt_150 hs
  refine vr_if ?_ ?_
  · refine vr_gP hs ox0 (fun v14 ov14 => ?_)
    refine vr_cl (fun _ _ e => (let q := vk_X16_know hs.2 ov14 e; ⟨hs.1.trans (q.1.weak (by decide) (by decide) (by decide)), q.2⟩)) (fun _ h hs => ?_)
    refine vr_let (fun _ => ?_)
    refine vr_if ?_ ?_
    · exact vk_X17_lookAt_176 hs
    · refine vr_gP hs ox0 (fun v17 ov17 => ?_)
      refine vr_let (fun _ => ?_)
      exact vk_X17_lookAt_176 hs
  refine vr_if ?_ ?_
  · refine vr_gP hs ox0 (fun v19 ov19 => ?_)
    refine vr_cl (fun _ _ e => (by rw [ve_X13_many e]; exact hs)) (fun _ h hs => ?_)
    exact vr_rt hs
  refine vr_if ?_ ?_
  · refine vr_let (fun _ => ?_)
    exact vr_rt hs
  exact vr_rt hs
theorem vk_X17_lookAt {O : Nat → Prop} {x0 : Nat} {x1 : Int32} {h : vt_S} {r : Int32} {s : vt_S} (c : vcl O h) (ox0 : O x0) (e : ab_X17_lookAt x0 x1 h = some (r, s)) : vw [1705, 1711, 1717, 1725, 1726, 1727, 1800] [1706, 1707, 1708, 1709, 1710, 1712, 1713, 1714, 1715, 1716, 1718, 1719, 1720, 1721, 1722, 1723, 1724] [] O h s := vk_X17_lookAt_0 ox0 ⟨vk.refl h, c⟩ r s e

