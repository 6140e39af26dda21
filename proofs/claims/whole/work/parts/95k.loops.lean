-- PLACES of a map's parts
def txp (g : Nat → Nat) : Nat → Nat
  | 0 => 7 + 4 * g 3
  | j + 1 => txp g j + 2 + 2 ^ (g (txp g j) + g (txp g j + 1))
def scp (g : Nat → Nat) (j : Nat) : Nat := txp g (g 4) + 9 * j
def wlp (g : Nat → Nat) (j : Nat) : Nat := scp g (g 5) + 14 * j
def stp (g : Nat → Nat) : Nat := wlp g (g 6)
def vtxF (s : vt_S) (p : Nat) (g : Nat → Nat) (j : Nat) : Prop := vt_A s 302 p j = zI (pr g (7 + 4 * j)) ∧ vt_A s 303 p j = zI (pr g (9 + 4 * j))
def texF (s : vt_S) (p : Nat) (g : Nat → Nat) (j : Nat) : Prop := vt_A s 304 p j = nI (2 ^ g (txp g j)) ∧ vt_A s 305 p j = nI (2 ^ g (txp g j + 1)) ∧ vt_A s 306 p j = nI (txp g j + 2)
section LP
variable {B : Nat} {g : Nat → Nat} {n p : Nat}
theorem c_vtxs (hp6 : B + 6 ≤ p) {V V' : Nat} (hV : V ≤ 128) (hV' : V' ≤ 128) : ∀ (d i fu : Nat) (s : vt_S) (st : PE), i + d = V → d < fu → pS p s → vt_I s 309 p = nI V' → RdS B g n st s → (∀ q, st = .ok q → V' = V ∧ q = 7 + 4 * i ∧ ∀ j, j < i → vtxF s p g j) →
    ∃ s1, ab_X2_read_68 fu p (B + 5) (nI i) s = ab_X2_read_95 p (B + 5) s1 ∧ RdS B g n (pL (pVtx g n) d i st) s1 ∧ onl (fun a => a = B + 5 ∨ a = p) s s1 ∧ (∀ f, vt_I s1 f p = vt_I s f p) ∧ (∀ q, pL (pVtx g n) d i st = .ok q → q = 7 + 4 * V ∧ ∀ j, j < V → vtxF s1 p g j) := by
  intro d
  induction d with
  | zero =>
    intro i fu s st hi hf hp hc r hd
    obtain ⟨fu, rfl⟩ : ∃ q, fu = q + 1 := ⟨fu - 1, by omega⟩
    refine ⟨s, ?_, r, onl.refl, fun _ => rfl, fun q hq => ?_⟩
    · show ab_X2_read_68b _ p (B + 5) (nI i) s = _
      unfold ab_X2_read_68b
      rw [slet, hc]
      cases st with
      | ok q => rw [if_pos (nI_le (by have := (hd q rfl).1; omega) (by omega))]
      | error e =>
        by_cases c : V' ≤ i
        · rw [if_pos (nI_le c (by omega))]
        · rw [if_neg (nI_ge (by omega) (by omega)), rd_well r, vbs, if_pos pWell_err]
    · have := hd q hq
      exact ⟨by omega, fun j hj => this.2.2 j (by omega)⟩
  | succ d ih =>
    intro i fu s st hi hf hp hc r hd
    obtain ⟨fu, rfl⟩ : ∃ q, fu = q + 1 := ⟨fu - 1, by omega⟩
    show ∃ s1, ab_X2_read_68b _ p (B + 5) (nI i) s = _ ∧ _
    unfold ab_X2_read_68b
    rw [slet, hc]
    cases st with
    | error e =>
      refine ⟨s, ?_, by rw [pL_err]; exact r, onl.refl, fun _ => rfl, fun q hq => by rw [pL_err] at hq; cases hq⟩
      by_cases c : V' ≤ i
      · rw [if_pos (nI_le c (by omega))]
      · rw [if_neg (nI_ge (by omega) (by omega)), rd_well r, vbs, if_pos pWell_err]
    | ok q =>
      obtain ⟨d1, d2, d3⟩ := hd q rfl
      rw [if_neg (nI_ge (by omega) (by omega)), rd_well r, vbs, if_neg pWell_ok]
      obtain ⟨s2, a1, a2, a3, a4, a5, a6⟩ := c_vtx (B := B) (g := g) (n := n) (p := p) (i := i) (by omega) (by omega) (by omega) hp r (fun q0 h0 j hj => d3 j hj)
      rw [a1, vbs, nI_1]
      obtain ⟨s1, e1, e2, e3, e4, e6⟩ := ih (i + 1) fu s2 _ (by omega) (by omega) (hp.of a3.P a3.L a3.E) (by rw [a4]; exact hc) a2 (fun q1 hq1 => by
        obtain ⟨q0, y0, z0⟩ := pbd_ok hq1
        cases y0
        obtain ⟨u1, u2, -⟩ := pVtx_ok z0
        refine ⟨d1, by omega, fun j hj => ?_⟩
        have := a6 q1 hq1 j (by omega)
        by_cases c : j = i
        · have := this.2 c
          unfold vtxF
          rw [this.1, this.2, show q1 - 4 = 7 + 4 * j by omega, show q1 - 2 = 9 + 4 * j by omega]
          exact ⟨rfl, rfl⟩
        · have t := this.1 (by omega)
          unfold vtxF
          rw [t.1, t.2]; exact d3 j (by omega))
      exact ⟨s1, e1, e2, a3.trans e3, fun f => (e4 f).trans (a4 f), e6⟩
theorem c_texs (hp6 : B + 6 ≤ p) {T T' : Nat} (hT : T ≤ 16) (hT' : T' ≤ 16) : ∀ (d i fu : Nat) (s : vt_S) (st : PE), i + d = T → d < fu → pS p s → vt_I s 310 p = nI T' → RdS B g n st s → (∀ q, st = .ok q → T' = T ∧ q = txp g i ∧ ∀ j, j < i → texF s p g j) →
    ∃ s1, ab_X2_read_97 fu p (B + 5) (nI i) s = ab_X2_read_124 p (B + 5) s1 ∧ RdS B g n (pL (fun _ => pTex g n) d i st) s1 ∧ onl (fun a => a = B + 5 ∨ a = p) s s1 ∧ (∀ f, vt_I s1 f p = vt_I s f p) ∧ (∀ f, f < 304 → vt_A s1 f p = vt_A s f p) ∧ (∀ q, pL (fun _ => pTex g n) d i st = .ok q → q = txp g T ∧ ∀ j, j < T → texF s1 p g j) := by
  intro d
  induction d with
  | zero =>
    intro i fu s st hi hf hp hc r hd
    obtain ⟨fu, rfl⟩ : ∃ q, fu = q + 1 := ⟨fu - 1, by omega⟩
    refine ⟨s, ?_, r, onl.refl, fun _ => rfl, fun _ _ => rfl, fun q hq => ?_⟩
    · show ab_X2_read_97b _ p (B + 5) (nI i) s = _
      unfold ab_X2_read_97b
      rw [slet, hc]
      cases st with
      | ok q => rw [if_pos (nI_le (by have := (hd q rfl).1; omega) (by omega))]
      | error e =>
        by_cases c : T' ≤ i
        · rw [if_pos (nI_le c (by omega))]
        · rw [if_neg (nI_ge (by omega) (by omega)), rd_well r, vbs, if_pos pWell_err]
    · have := hd q hq
      obtain rfl : i = T := by omega
      exact ⟨this.2.1, fun j hj => this.2.2 j (by omega)⟩
  | succ d ih =>
    intro i fu s st hi hf hp hc r hd
    obtain ⟨fu, rfl⟩ : ∃ q, fu = q + 1 := ⟨fu - 1, by omega⟩
    show ∃ s1, ab_X2_read_97b _ p (B + 5) (nI i) s = _ ∧ _
    unfold ab_X2_read_97b
    rw [slet, hc]
    cases st with
    | error e =>
      refine ⟨s, ?_, by rw [pL_err]; exact r, onl.refl, fun _ => rfl, fun _ _ => rfl, fun q hq => by rw [pL_err] at hq; cases hq⟩
      by_cases c : T' ≤ i
      · rw [if_pos (nI_le c (by omega))]
      · rw [if_neg (nI_ge (by omega) (by omega)), rd_well r, vbs, if_pos pWell_err]
    | ok q =>
      obtain ⟨d1, d2, d3⟩ := hd q rfl
      rw [if_neg (nI_ge (by omega) (by omega)), rd_well r, vbs, if_neg pWell_ok]
      obtain ⟨s2, a1, a2, a3, a4, a5, a6⟩ := c_tex (B := B) (g := g) (n := n) (p := p) (i := i) (by omega) (by omega) (by omega) hp r
      rw [a1, vbs, nI_1]
      obtain ⟨s1, e1, e2, e3, e4, e5, e6⟩ := ih (i + 1) fu s2 _ (by omega) (by omega) (hp.of a3.P a3.L a3.E) (by rw [a4]; exact hc) a2 (fun q1 hq1 => by
        obtain ⟨q0, y0, z0⟩ := pbd_ok hq1
        cases y0
        obtain ⟨u1, u2, -⟩ := pTex_ok z0
        refine ⟨d1, by rw [u1, d2]; rfl, fun j hj => ?_⟩
        by_cases c : j = i
        · have := a6 q q1 rfl hq1
          rw [d2] at this
          rw [c]; exact this
        · unfold texF
          rw [a5 _ _ (Or.inr c), a5 _ _ (Or.inr c), a5 _ _ (Or.inr c)]
          exact d3 j (by omega))
      refine ⟨s1, e1, e2, a3.trans e3, fun f => (e4 f).trans (a4 f), fun f hf => ?_, e6⟩
      rw [e5 f hf]
      funext j
      exact a5 f j (Or.inl (by omega))
/-- the plan's own addresses, from its sectors on -/
theorem c_secs (hp6 : B + 6 ≤ p) {T S S' : Nat} (hT : T ≤ 255) (hS : S ≤ 32) (hS' : S' ≤ 32) {P0 : Nat} : ∀ (d i fu : Nat) (s : vt_S) (st : PE), i + d = S → d < fu → pS p s → vt_I s 311 p = nI S' → (∀ q, st = .ok q → vt_I s 310 p = nI T) → RdS B g n st s → (∀ q, st = .ok q → S' = S ∧ q = P0 + 9 * i ∧ ∀ j, j < i → secF s (p + 11 + j) g (P0 + 9 * j)) →
    ∃ s1, ab_X2_read_126 fu p (B + 5) (nI i) s = ab_X2_read_158 p (B + 5) s1 ∧ RdS B g n (pL (fun _ => pSec g n T) d i st) s1 ∧ onl (fun a => a = B + 5 ∨ (p + 11 ≤ a ∧ a < p + 43)) s s1 ∧ (∀ q, pL (fun _ => pSec g n T) d i st = .ok q → q = P0 + 9 * S ∧ ∀ j, j < S → secF s1 (p + 11 + j) g (P0 + 9 * j)) := by
  intro d
  induction d with
  | zero =>
    intro i fu s st hi hf hp hc ht r hd
    obtain ⟨fu, rfl⟩ : ∃ q, fu = q + 1 := ⟨fu - 1, by omega⟩
    refine ⟨s, ?_, r, onl.refl, fun q hq => ?_⟩
    · show ab_X2_read_126b _ p (B + 5) (nI i) s = _
      unfold ab_X2_read_126b
      rw [slet, hc]
      cases st with
      | ok q => rw [if_pos (nI_le (by have := (hd q rfl).1; omega) (by omega))]
      | error e =>
        by_cases c : S' ≤ i
        · rw [if_pos (nI_le c (by omega))]
        · rw [if_neg (nI_ge (by omega) (by omega)), rd_well r, vbs, if_pos pWell_err]
    · have := hd q hq
      obtain rfl : i = S := by omega
      exact ⟨this.2.1, fun j hj => this.2.2 j (by omega)⟩
  | succ d ih =>
    intro i fu s st hi hf hp hc ht r hd
    obtain ⟨fu, rfl⟩ : ∃ q, fu = q + 1 := ⟨fu - 1, by omega⟩
    show ∃ s1, ab_X2_read_126b _ p (B + 5) (nI i) s = _ ∧ _
    unfold ab_X2_read_126b
    rw [slet, hc]
    cases st with
    | error e =>
      refine ⟨s, ?_, by rw [pL_err]; exact r, onl.refl, fun q hq => by rw [pL_err] at hq; cases hq⟩
      by_cases c : S' ≤ i
      · rw [if_pos (nI_le c (by omega))]
      · rw [if_neg (nI_ge (by omega) (by omega)), rd_well r, vbs, if_pos pWell_err]
    | ok q =>
      obtain ⟨d1, d2, d3⟩ := hd q rfl
      have L := hp.L307
      rw [if_neg (nI_ge (by omega) (by omega)), rd_well r, vbs, if_neg pWell_ok, vl_P_ok (by omega) (by omega), obs, hp.E307 i (by omega)]
      obtain ⟨s2, a1, a2, a3, a6⟩ := c_sec (B := B) (g := g) (n := n) (p := p) (x := p + 11 + i) (T := T) (by omega) (by omega) (by omega) (by omega) hT (ht q rfl) r
      rw [a1, vbs, nI_1]
      have o : onl (fun a => a = B + 5 ∨ (p + 11 ≤ a ∧ a < p + 43)) s s2 := a3.mono fun a ha => by omega
      obtain ⟨s1, e1, e2, e3, e6⟩ := ih (i + 1) fu s2 _ (by omega) (by omega) (hp.of a3.P a3.L a3.E) (by rw [a3.I (by omega)]; exact hc) (fun q1 _ => by rw [a3.I (by omega)]; exact ht q rfl) a2 (fun q1 hq1 => by
        obtain ⟨q0, y0, z0⟩ := pbd_ok hq1
        cases y0
        obtain ⟨u1, u2, -⟩ := pSec_ok z0
        refine ⟨d1, by omega, fun j hj => ?_⟩
        by_cases c : j = i
        · have := a6 q q1 rfl hq1
          rw [d2] at this
          rw [c]; exact this
        · exact (d3 j (by omega)).onl a3 (by omega))
      exact ⟨s1, e1, e2, o.trans e3, e6⟩
theorem c_walls (hp6 : B + 6 ≤ p) {V T S W W' : Nat} (hV : V ≤ 128) (hT : T ≤ 255) (hS : S ≤ 255) (hW : W ≤ 128) (hW' : W' ≤ 128) {P0 : Nat} {fi : Int32} (hb : ∀ i, i < n → g i < 256) (hP : 7 ≤ P0) : ∀ (d i fu : Nat) (s : vt_S) (st : PE), i + d = W → d < fu → pS p s → vt_I s 312 p = nI W' → (∀ q, st = .ok q → vt_I s 309 p = nI V ∧ vt_I s 310 p = nI T ∧ vt_I s 311 p = nI S ∧ ∀ j, j < V → vtxF s p g j) → RdS B g n st s → (∀ q, st = .ok q → W' = W ∧ q = P0 + 14 * i ∧ ∀ j, j < i → wallF s (p + 43 + 2 * j) g (P0 + 14 * j)) →
    ∃ s1, ab_X2_read_165 fu p (B + 5) fi (nI i) s = ab_X2_read_197 p (B + 5) fi s1 ∧ RdS B g n (pL (fun _ => pWall g n V T S) d i st) s1 ∧ onl (fun a => a = B + 5 ∨ (p + 43 ≤ a ∧ a < p + 299)) s s1 ∧ (∀ q, pL (fun _ => pWall g n V T S) d i st = .ok q → q = P0 + 14 * W ∧ ∀ j, j < W → wallF s1 (p + 43 + 2 * j) g (P0 + 14 * j)) := by
  intro d
  induction d with
  | zero =>
    intro i fu s st hi hf hp hc ht r hd
    obtain ⟨fu, rfl⟩ : ∃ q, fu = q + 1 := ⟨fu - 1, by omega⟩
    refine ⟨s, ?_, r, onl.refl, fun q hq => ?_⟩
    · show ab_X2_read_165b _ p (B + 5) fi (nI i) s = _
      unfold ab_X2_read_165b
      rw [slet, hc]
      cases st with
      | ok q => rw [if_pos (nI_le (by have := (hd q rfl).1; omega) (by omega))]
      | error e =>
        by_cases c : W' ≤ i
        · rw [if_pos (nI_le c (by omega))]
        · rw [if_neg (nI_ge (by omega) (by omega)), rd_well r, vbs, if_pos pWell_err]
    · have := hd q hq
      obtain rfl : i = W := by omega
      exact ⟨this.2.1, fun j hj => this.2.2 j (by omega)⟩
  | succ d ih =>
    intro i fu s st hi hf hp hc ht r hd
    obtain ⟨fu, rfl⟩ : ∃ q, fu = q + 1 := ⟨fu - 1, by omega⟩
    show ∃ s1, ab_X2_read_165b _ p (B + 5) fi (nI i) s = _ ∧ _
    unfold ab_X2_read_165b
    rw [slet, hc]
    cases st with
    | error e =>
      refine ⟨s, ?_, by rw [pL_err]; exact r, onl.refl, fun q hq => by rw [pL_err] at hq; cases hq⟩
      by_cases c : W' ≤ i
      · rw [if_pos (nI_le c (by omega))]
      · rw [if_neg (nI_ge (by omega) (by omega)), rd_well r, vbs, if_pos pWell_err]
    | ok q =>
      obtain ⟨d1, d2, d3⟩ := hd q rfl
      obtain ⟨t1, t2, t3, t4⟩ := ht q rfl
      have L := hp.L308
      rw [if_neg (nI_ge (by omega) (by omega)), rd_well r, vbs, if_neg pWell_ok, vl_P_ok (by omega) (by omega), obs, hp.E308 i (by omega)]
      obtain ⟨s2, a1, a2, a3, a6⟩ := c_wall (B := B) (g := g) (n := n) (p := p) (x := p + 43 + 2 * i) (V := V) (T := T) (S := S) (by omega) (by omega) (by omega) (by omega) hT hV hS hp (hp.L1211 i (by omega)) t1 t2 t3 r hb (fun q0 h0 => by cases h0; exact ⟨by omega, fun j hj => t4 j hj⟩)
      rw [a1, vbs, nI_1]
      have o : onl (fun a => a = B + 5 ∨ (p + 43 ≤ a ∧ a < p + 299)) s s2 := a3.mono fun a ha => by omega
      have np : ¬ (p = B + 5 ∨ p = p + 43 + 2 * i) := by omega
      obtain ⟨s1, e1, e2, e3, e6⟩ := ih (i + 1) fu s2 _ (by omega) (by omega) (hp.of a3.P a3.L a3.E) (by rw [a3.I np]; exact hc) (fun q1 _ => by
        refine ⟨by rw [a3.I np]; exact t1, by rw [a3.I np]; exact t2, by rw [a3.I np]; exact t3, fun j hj => ?_⟩
        unfold vtxF
        rw [a3.A np, a3.A np]; exact t4 j hj) a2 (fun q1 hq1 => by
        obtain ⟨q0, y0, z0⟩ := pbd_ok hq1
        cases y0
        obtain ⟨u1, u2, -⟩ := pWall_ok z0
        refine ⟨d1, by omega, fun j hj => ?_⟩
        by_cases c : j = i
        · have := a6 q q1 rfl hq1
          rw [d2] at this
          rw [c]; exact this
        · exact (d3 j (by omega)).onl a3 (by omega))
      exact ⟨s1, e1, e2, o.trans e3, e6⟩
end LP
