/-! cut -/
/-- layer d of x layers below the end (place 0), s nodes each -/
def LB (b1 : Bd) (g : Gr) (x d i : Int) : Prop := ∀ v, 0 ≤ v → v < i → BG b1 (1 + d * g.1 + v) 0 = GP g v 0 ∧ ∀ j, 1 ≤ j → j < 3 → BG b1 (1 + d * g.1 + v) j = if d + 1 = x then 0 else 1 + (d + 1) * g.1 + GP g v j
theorem cutB_in {P : PL} {b : Bd} {h x d : Int} (p0 : 0 ≤ h) (p1 : h < (P.length : Int)) (g : GOK (gP P h)) (d0 : 0 ≤ d) (d1 : d < x) (x1 : x ≤ 9) (o0 : 0 ≤ d * (gP P h).1) (o1 : d * (gP P h).1 ≤ 320) (e1 : (d + 1) * (gP P h).1 = d * (gP P h).1 + (gP P h).1) : ∀ (f : Nat) (i : Int) (b1 : Bd), (gP P h).1 - i < f → 0 ≤ i → i ≤ (gP P h).1 → (∀ s : Nat, 4 ≤ s → b1 s = b s) → b1 3 0 = 1 + d * (gP P h).1 + i → LB b1 (gP P h) x d i → (∀ v j, v < 1 + d * (gP P h).1 → BG b1 v j = BG b v j) → ∃ b', (∀ s : Nat, 4 ≤ s → b' s = b s) ∧ b' 3 0 = 1 + (d + 1) * (gP P h).1 ∧ LB b' (gP P h) x d (gP P h).1 ∧ (∀ v j, v < 1 + d * (gP P h).1 → BG b' v j = BG b v j) ∧ ∀ k, f_X0_cutOff_L35 P h x 0 d (1 + d * (gP P h).1 + (gP P h).1) k f i b1 = k b' := by
  have g1 := g.1.1
  have g2 := g.2
  intro f
  induction f with
  | zero => intro i b1 h0 _ h2; omega
  | succ f ih =>
    intro i b1 h0 i0 i1 hf h3 hC hO
    by_cases hx : (gP P h).1 ≤ i
    · have e : i = (gP P h).1 := by omega
      refine ⟨b1, hf, by omega, by rw [e] at hC; exact hC, hO, fun k => ?_⟩
      simp (disch := omega) only [f_X0_cutOff_L35, ↓ck1_of, ↓ckG_of, ↓if_pos]
    · have r := g.node i0 (v := i) (by omega)
      have q1 := headAt_of g2 i0 (by omega : i < (gP P h).1)
      have q2 := partAt_of g2 i0 (by omega : i < (gP P h).1) (i := 0) (by omega) (by omega)
      have q3 := partAt_of g2 i0 (by omega : i < (gP P h).1) (i := 1) (by omega) (by omega)
      rw [show (1 : Int) + 0 = 1 from rfl] at q2
      rw [show (1 : Int) + 1 = 2 from rfl] at q3
      by_cases c : d + 1 = x
      · obtain ⟨b2, a1, a2, a3, a4, a5, a6, a7⟩ := put_of (b := b1) (h := GP (gP P h) i 0) (x := 0) (y := 0) h3 (by omega) (by omega) (by omega) (by omega) (by omega) (by omega) (by omega) (by omega)
        obtain ⟨b', k1, k2, k3, k4, k5⟩ := ih (i + 1) b2 (by omega) (by omega) (by omega) (fun s hs => by rw [a2 s hs]; exact hf s hs) (by omega) (fun v v0 v1 => by
          by_cases e : v = i
          · subst e
            refine ⟨a4, fun j j0 j1 => ?_⟩
            rw [if_pos c]
            have hj : j = 1 ∨ j = 2 := by omega
            rcases hj with rfl | rfl
            · exact a5
            · exact a6
          · rw [a7 _ _ (by omega)]
            refine ⟨(hC v v0 (by omega)).1, fun j j0 j1 => ?_⟩
            rw [a7 _ _ (by omega)]
            exact (hC v v0 (by omega)).2 j j0 j1) (fun v j hv => by rw [a7 _ _ (by omega)]; exact hO v j hv)
        refine ⟨b', k1, k2, k3, k4, fun k => ?_⟩
        simp (disch := omega) only [f_X0_cutOff_L35, ↓ck1_of, ↓ckG_of, ↓if_neg, ↓jn_eq, q1, ↓bn_some, a1]
        exact k5 k
      · obtain ⟨b2, a1, a2, a3, a4, a5, a6, a7⟩ := put_of (b := b1) (h := GP (gP P h) i 0) (x := 1 + d * (gP P h).1 + (gP P h).1 + GP (gP P h) i 1) (y := 1 + d * (gP P h).1 + (gP P h).1 + GP (gP P h) i 2) h3 (by omega) (by omega) (by omega) (by omega) (by omega) (by omega) (by omega) (by omega)
        obtain ⟨b', k1, k2, k3, k4, k5⟩ := ih (i + 1) b2 (by omega) (by omega) (by omega) (fun s hs => by rw [a2 s hs]; exact hf s hs) (by omega) (fun v v0 v1 => by
          by_cases e : v = i
          · subst e
            refine ⟨a4, fun j j0 j1 => ?_⟩
            rw [if_neg c]
            have hj : j = 1 ∨ j = 2 := by omega
            rcases hj with rfl | rfl
            · rw [a5]; omega
            · rw [a6]; omega
          · rw [a7 _ _ (by omega)]
            refine ⟨(hC v v0 (by omega)).1, fun j j0 j1 => ?_⟩
            rw [a7 _ _ (by omega)]
            exact (hC v v0 (by omega)).2 j j0 j1) (fun v j hv => by rw [a7 _ _ (by omega)]; exact hO v j hv)
        refine ⟨b', k1, k2, k3, k4, fun k => ?_⟩
        simp (disch := omega) only [f_X0_cutOff_L35, ↓ck1_of, ↓ckG_of, ↓if_neg, ↓if_pos, ↓jn_eq, q1, q2, q3, ↓bn_some, a1]
        exact k5 k
theorem cutB_out {N : Nat} (hN : 4000 ≤ N) {P : PL} {b : Bd} {h x : Int} (p0 : 0 ≤ h) (p1 : h < (P.length : Int)) (g : GOK (gP P h)) (x1 : x ≤ 9) : ∀ (f : Nat) (d : Int) (b1 : Bd), x - d < f → 0 ≤ d → d ≤ x → (∀ s : Nat, 4 ≤ s → b1 s = b s) → b1 3 0 = 1 + d * (gP P h).1 → (∀ d', 0 ≤ d' → d' < d → LB b1 (gP P h) x d' (gP P h).1) → (∀ j, BG b1 0 j = BG b 0 j) → ∃ b', (∀ s : Nat, 4 ≤ s → b' s = b s) ∧ b' 3 0 = 1 + x * (gP P h).1 ∧ (∀ d', 0 ≤ d' → d' < x → LB b' (gP P h) x d' (gP P h).1) ∧ (∀ j, BG b' 0 j = BG b 0 j) ∧ ∀ k, f_X0_cutOff_L15 N P h x 0 k f d b1 = k b' := by
  have g1 := g.1.1
  have g2 := g.2
  intro f
  induction f with
  | zero => intro i b1 h0 _ h2; omega
  | succ f ih =>
    intro d b1 h0 d0 d1 hf h3 hC hO
    by_cases hx : x ≤ d
    · have e : d = x := by omega
      refine ⟨b1, hf, by rw [h3, e], by rw [e] at hC; exact hC, hO, fun k => ?_⟩
      simp (disch := omega) only [f_X0_cutOff_L15, ↓ck1_of, ↓if_pos]
    · have o0 : 0 ≤ d * (gP P h).1 := Int.mul_nonneg d0 (by omega)
      have o1 : d * (gP P h).1 ≤ 8 * 40 := Int.mul_le_mul (by omega) g2 (by omega) (by omega)
      have e1 : (d + 1) * (gP P h).1 = d * (gP P h).1 + (gP P h).1 := by rw [Int.add_mul, Int.one_mul]
      obtain ⟨b2, a1, a2, a3, a4, a5⟩ := cutB_in (b := b1) (x := x) (d := d) p0 p1 g d0 (by omega) x1 o0 (by omega) e1 N 0 b1 (by omega) (by omega) (by omega) (fun _ _ => rfl) (by omega) (fun v v0 v1 => by omega) (fun _ _ _ => rfl)
      obtain ⟨b', k1, k2, k3, k4, k5⟩ := ih (d + 1) b2 (by omega) (by omega) (by omega) (fun s hs => by rw [a1 s hs]; exact hf s hs) a2 (fun d' q0 q1 => by
        by_cases e : d' = d
        · subst e; exact a3
        · intro v v0 v1
          have le : (d' + 1) * (gP P h).1 ≤ d * (gP P h).1 := Int.mul_le_mul_of_nonneg_right (by omega) (by omega)
          have e2 : (d' + 1) * (gP P h).1 = d' * (gP P h).1 + (gP P h).1 := by rw [Int.add_mul, Int.one_mul]
          have q := hC d' q0 (by omega) v v0 v1
          rw [a4 _ _ (by omega)]
          refine ⟨q.1, fun j j0 j1 => ?_⟩
          rw [a4 _ _ (by omega)]
          exact q.2 j j0 j1) (fun j => by rw [a4 _ _ (by omega)]; exact hO j)
      refine ⟨b', k1, k2, k3, k4, fun k => ?_⟩
      simp (disch := omega) only [f_X0_cutOff_L15, ↓ck1_of, ↓ckG_of, ↓if_neg, h3, a5]
      exact k5 k
/-- layer t from the bottom, on the other bench -/
def LM (w : Int → Int) (g : Gr) (t i : Int) : Prop := ∀ v, 0 ≤ v → v < i → PW (w (t * g.1 + v)) ∧ MG w (t * g.1 + v) 0 = (if t = 0 then 3 else GP g v 0) ∧ ∀ j, 1 ≤ j → j < 3 → MG w (t * g.1 + v) j = if t = 0 then 0 else (t - 1) * g.1 + GP g v j
theorem cutM_in {P : PL} {m : Bd} {a h x t : Int} (n : Nm P m a h) (t0 : 0 ≤ t) (t1 : t ≤ x) (x0 : 0 ≤ x) (x1 : x ≤ 9) (z : Int) (o0 : 0 ≤ t * (gP P h).1) (o1 : t * (gP P h).1 ≤ 360) (e1 : (t + 1) * (gP P h).1 = t * (gP P h).1 + (gP P h).1) (e2 : (t - 1) * (gP P h).1 = t * (gP P h).1 - (gP P h).1) (e3 : 1 ≤ t → (gP P h).1 ≤ t * (gP P h).1) : ∀ (f : Nat) (i : Int) (m1 : Bd), (gP P h).1 - i < f → 0 ≤ i → i ≤ (gP P h).1 → (∀ s : Nat, s ≠ 9 → s ≠ 10 → m1 s = m s) → m1 10 0 = t * (gP P h).1 + i → LM (m1 9) (gP P h) t i → (∀ v, v < t * (gP P h).1 → m1 9 v = m 9 v) → ∃ m', (∀ s : Nat, s ≠ 9 → s ≠ 10 → m' s = m s) ∧ m' 10 0 = (t + 1) * (gP P h).1 ∧ LM (m' 9) (gP P h) t (gP P h).1 ∧ (∀ v, v < t * (gP P h).1 → m' 9 v = m 9 v) ∧ ∀ k, f_X6_cut_L56 a x z (gP P h).1 (x - t) k f i m1 = k m' := by
  have sz := n.sz
  obtain ⟨a0, a1, p0, p1, g, e, w⟩ := id n
  intro f
  induction f with
  | zero => intro i m1 h0 _ h2; omega
  | succ f ih =>
    intro i m1 h0 i0 i1 hf h3 hC hO
    by_cases hx : (gP P h).1 ≤ i
    · have ei : i = (gP P h).1 := by omega
      refine ⟨m1, hf, by omega, by rw [ei] at hC; exact hC, hO, fun k => ?_⟩
      simp (disch := omega) only [f_X6_cut_L56, ↓ck1_of, ↓if_pos]
    · have n1 : Nm P m1 a h := n.frame (hf 0 (by decide) (by decide)) (hf 1 (by decide) (by decide))
      have r := n.rng (v := i) i0 (by omega)
      have q0 := n1.node i0 (by omega : i < (gP P h).1)
      have q1 := n.head i0 (by omega : i < (gP P h).1)
      have q2 := n.part i0 (by omega : i < (gP P h).1) (i := 0) (by omega) (by omega)
      have q3 := n.part i0 (by omega : i < (gP P h).1) (i := 1) (by omega) (by omega)
      rw [show (1 : Int) + 0 = 1 from rfl] at q2
      rw [show (1 : Int) + 1 = 2 from rfl] at q3
      by_cases c : t = 0
      · obtain ⟨m2, b1, b2, b3, b4, b5, b6, b7, b8⟩ := adds_of (m := m1) (h := 3) (x := 0) (y := 0) h3 (by omega) (by omega) (by omega) (by omega) (by omega) (by omega) (by omega) (by omega)
        obtain ⟨m', k1, k2, k3, k4, k5⟩ := ih (i + 1) m2 (by omega) (by omega) (by omega) (fun s s1 s2 => by rw [b2 s s1 s2]; exact hf s s1 s2) (by omega) (fun v v0 v1 => by
          by_cases ev : v = i
          · subst ev
            refine ⟨b4, by rw [if_pos c]; exact b5, fun j j0 j1 => ?_⟩
            rw [if_pos c]
            have hj : j = 1 ∨ j = 2 := by omega
            rcases hj with rfl | rfl
            · exact b6
            · exact b7
          · have e8 := b8 (t * (gP P h).1 + v) (by omega)
            rw [MG_same e8, e8]
            refine ⟨(hC v v0 (by omega)).1, (hC v v0 (by omega)).2.1, fun j j0 j1 => by rw [MG_same e8]; exact (hC v v0 (by omega)).2.2 j j0 j1⟩) (fun v hv => by rw [b8 _ (by omega)]; exact hO v hv)
        refine ⟨m', k1, k2, k3, k4, fun k => ?_⟩
        simp (disch := omega) only [f_X6_cut_L56, ↓ck1_of, ↓if_neg, q0, ↓bn_some, b1]
        exact k5 k
      · have e3 := e3 (by omega)
        obtain ⟨m2, b1, b2, b3, b4, b5, b6, b7, b8⟩ := adds_of (m := m1) (h := GP (gP P h) i 0) (x := t * (gP P h).1 + i - i - (gP P h).1 + GP (gP P h) i 1) (y := t * (gP P h).1 + i - i - (gP P h).1 + GP (gP P h) i 2) h3 (by omega) (by omega) (by omega) (by omega) (by omega) (by omega) (by omega) (by omega)
        obtain ⟨m', k1, k2, k3, k4, k5⟩ := ih (i + 1) m2 (by omega) (by omega) (by omega) (fun s s1 s2 => by rw [b2 s s1 s2]; exact hf s s1 s2) (by omega) (fun v v0 v1 => by
          by_cases ev : v = i
          · subst ev
            refine ⟨b4, by rw [if_neg c]; exact b5, fun j j0 j1 => ?_⟩
            rw [if_neg c]
            have hj : j = 1 ∨ j = 2 := by omega
            rcases hj with rfl | rfl
            · rw [b6]; omega
            · rw [b7]; omega
          · have e8 := b8 (t * (gP P h).1 + v) (by omega)
            rw [MG_same e8, e8]
            refine ⟨(hC v v0 (by omega)).1, (hC v v0 (by omega)).2.1, fun j j0 j1 => by rw [MG_same e8]; exact (hC v v0 (by omega)).2.2 j j0 j1⟩) (fun v hv => by rw [b8 _ (by omega)]; exact hO v hv)
        refine ⟨m', k1, k2, k3, k4, fun k => ?_⟩
        rw [f_X6_cut_L56, ck1_of (by omega) (by omega), ck1_of (by omega) (by omega), if_neg hx, q0, bn_some, ck1_of (by omega) (by omega), ck1_of (by omega) (by omega), if_pos (show x - t ≠ x by omega), q1, bn_some, q2, bn_some, q3, bn_some, h3, b1, bn_some]
        exact k5 k
theorem cutM_out {N : Nat} (hN : 4000 ≤ N) {P : PL} {m : Bd} {a h x : Int} (n : Nm P m a h) (x0 : 0 ≤ x) (x1 : x ≤ 9) (z : Int) : ∀ (f : Nat) (t : Int) (m1 : Bd), x + 1 - t < f → 0 ≤ t → t ≤ x + 1 → (∀ s : Nat, s ≠ 9 → s ≠ 10 → m1 s = m s) → m1 10 0 = t * (gP P h).1 → (∀ t', 0 ≤ t' → t' < t → LM (m1 9) (gP P h) t' (gP P h).1) → ∃ m', (∀ s : Nat, s ≠ 9 → s ≠ 10 → m' s = m s) ∧ m' 10 0 = (x + 1) * (gP P h).1 ∧ (∀ t', 0 ≤ t' → t' < x + 1 → LM (m' 9) (gP P h) t' (gP P h).1) ∧ ∀ k, f_X6_cut_L48 N a x z (gP P h).1 k f (x - t) m1 = k m' := by
  have sz := n.sz
  intro f
  induction f with
  | zero => intro i m1 h0 _ h2; omega
  | succ f ih =>
    intro t m1 h0 t0 t1 hf h3 hC
    by_cases hx : x - t < 0
    · have et : t = x + 1 := by omega
      refine ⟨m1, hf, by rw [h3, et], by rw [et] at hC; exact hC, fun k => ?_⟩
      simp (disch := omega) only [f_X6_cut_L48, ↓ck1_of, ↓if_pos]
    · have o0 : 0 ≤ t * (gP P h).1 := Int.mul_nonneg t0 (by omega)
      have o1 : t * (gP P h).1 ≤ 9 * 40 := Int.mul_le_mul (by omega) sz.2 (by omega) (by omega)
      have e1 : (t + 1) * (gP P h).1 = t * (gP P h).1 + (gP P h).1 := by rw [Int.add_mul, Int.one_mul]
      have e2 : (t - 1) * (gP P h).1 = t * (gP P h).1 - (gP P h).1 := by rw [Int.sub_mul, Int.one_mul]
      have e3 : 1 ≤ t → (gP P h).1 ≤ t * (gP P h).1 := fun ht => by
        have := Int.mul_le_mul_of_nonneg_right (c := (gP P h).1) ht (by omega)
        omega
      obtain ⟨m2, a1, a2, a3, a4, a5⟩ := cutM_in (n.frame (hf 0 (by decide) (by decide)) (hf 1 (by decide) (by decide))) t0 (by omega : t ≤ x) x0 x1 z o0 (by omega) e1 e2 e3 N 0 m1 (by omega) (by omega) (by omega) (fun _ _ _ => rfl) (by omega) (fun v v0 v1 => by omega) (fun _ _ => rfl)
      obtain ⟨m', k1, k2, k3, k4⟩ := ih (t + 1) m2 (by omega) (by omega) (by omega) (fun s s1 s2 => by rw [a1 s s1 s2]; exact hf s s1 s2) a2 (fun t' q0 q1 => by
        by_cases e : t' = t
        · subst e; exact a3
        · intro v v0 v1
          have le : (t' + 1) * (gP P h).1 ≤ t * (gP P h).1 := Int.mul_le_mul_of_nonneg_right (by omega) (by omega)
          have e2 : (t' + 1) * (gP P h).1 = t' * (gP P h).1 + (gP P h).1 := by rw [Int.add_mul, Int.one_mul]
          have q := hC t' q0 (by omega) v v0 v1
          have e4 := a4 (t' * (gP P h).1 + v) (by omega)
          rw [e4, MG_same e4]
          exact ⟨q.1, q.2.1, fun j j0 j1 => by rw [MG_same e4]; exact q.2.2 j j0 j1⟩)
      refine ⟨m', k1, k2, k3, fun k => ?_⟩
      simp (disch := omega) only [f_X6_cut_L48, ↓ck1_of, ↓if_neg, a5]
      have := k4 k
      rw [show x - (t + 1) = x - t + -1 by omega] at this
      exact this
theorem layer {n s u : Int} (s0 : 1 ≤ s) (u0 : 0 ≤ u) (u1 : u < n * s) : ∃ d v, 0 ≤ d ∧ d < n ∧ 0 ≤ v ∧ v < s ∧ u = d * s + v := by
  refine ⟨u / s, u % s, Int.ediv_nonneg u0 (by omega), Int.ediv_lt_of_lt_mul (by omega) u1, Int.emod_nonneg _ (by omega), Int.emod_lt_of_pos _ (by omega), ?_⟩
  have := Int.emod_add_ediv_mul u s
  omega
theorem cutx_step {N : Nat} (hN : 4000 ≤ N) {T : Int} {lt b m : Bd} {P : PL} (h : RR T lt b m P) {x y t : Int} (hx : inR x) (hy : inR y) (ht : inR t) : Step2 T (f_X5_cut N lt b P x y t) (f_X6_cut N m x y t) := by
  unfold f_X5_cut f_X6_cut
  have iy := in_of (v := y) (l := 0) (h := 9) hy (by decide) (by decide)
  obtain ⟨y0, y1⟩ := hy
  rcases nm_of h.2.2.2.1 h.2.2.2.2.2.1 hx with ⟨e1, e2⟩ | ⟨g, e1, e2, n⟩
  · simp (disch := omega) only [e1, e2, ↓bn_some, ↓jn_eq, ↓ck1_of, ↓if_pos, ↓if_neg]
    exact bad2 h
  · obtain ⟨a0, a1, p0, p1, gg, sx, -⟩ := id n
    by_cases cy : 0 ≤ y ∧ y ≤ 9
    · rw [if_pos cy] at iy
      rcases names_of ht with ⟨t0, t1, e5, e6⟩ | ⟨_, e5, e6⟩
      · have s := n.sz
        obtain ⟨b0, u1, u2, u3, u4, u5, u6, u7⟩ := put_of (b := bs0 b 3 0) (h := 3) (x := 0) (y := 0) (bs0_eq _ _ _ _) (by omega) (by omega) (by omega) (by omega) (by omega) (by omega) (by omega) (by omega)
        obtain ⟨b1, k1, k2, k3, k4, k5⟩ := cutB_out hN p0 p1 gg cy.2 (b := b0) N 0 b0 (by omega) (by omega) (by omega) (fun _ _ => rfl) (by rw [u3, Int.zero_mul]; rfl) (fun d' d0 d1 => by omega) (fun _ => rfl)
        obtain ⟨m1, l1, l2, l3, l4⟩ := cutM_out hN (m := bs0 m 10 0) (n.frame (bs0_ne _ _ (by decide)) (bs0_ne _ _ (by decide))) cy.1 cy.2 t N 0 (bs0 m 10 0) (by omega) (by omega) (by omega) (fun _ _ _ => rfl) (by rw [bs0_eq, Int.zero_mul]) (fun d' d0 d1 => by omega)
        rw [show y - 0 = y by omega] at l4
        have ys0 : 0 ≤ y * (gP P g).1 := Int.mul_nonneg cy.1 (by omega)
        have ys1 : y * (gP P g).1 ≤ 9 * 40 := Int.mul_le_mul cy.2 s.2 (by omega) (by omega)
        have ys2 : (y + 1) * (gP P g).1 = y * (gP P g).1 + (gP P g).1 := by rw [Int.add_mul, Int.one_mul]
        have hW : WG (BG b1) (1 + y * (gP P g).1) := by
          intro v v0 v1
          by_cases cv : v = 0
          · subst cv
            rw [k4 0, u4]
            exact ⟨by omega, by omega, fun i i0 i1 => absurd i1 (by unfold ar; rw [if_neg (by omega), if_neg (by omega)]; omega)⟩
          · obtain ⟨d, w, d0, d1, w0, w1, e⟩ := layer (n := y) (s := (gP P g).1) (u := v - 1) (by omega) (by omega) (by omega)
            have ev : v = 1 + d * (gP P g).1 + w := by omega
            have q := k3 d d0 d1 w w0 w1
            have r := n.rng w0 w1
            rw [← ev] at q
            have har := ar_le (BG b1 v 0)
            refine ⟨by omega, by omega, fun i i0 i1 => ?_⟩
            rw [q.2 (1 + i) (by omega) (by omega)]
            by_cases c : d + 1 = y
            · rw [if_pos c]; omega
            · rw [if_neg c]
              have p := n.prt w0 w1 i0 (by omega)
              have le : (d + 1 + 1) * (gP P g).1 ≤ y * (gP P g).1 := Int.mul_le_mul_of_nonneg_right (by omega) (by omega)
              have e2 : (d + 1 + 1) * (gP P g).1 = (d + 1) * (gP P g).1 + (gP P g).1 := by rw [Int.add_mul, Int.one_mul]
              have e3 : 0 ≤ (d + 1) * (gP P g).1 := Int.mul_nonneg (by omega) (by omega)
              omega
        have hS : MS m1 (fun v => 0 ≤ v ∧ v < (y + 1) * (gP P g).1) ((y + 1) * (gP P g).1) := by
          refine ⟨l2, by omega, by omega, fun v vv => ?_⟩
          have v0 := vv.1
          have v1 := vv.2
          obtain ⟨d, w, d0, d1, w0, w1, e⟩ := layer (n := y + 1) (s := (gP P g).1) (by omega) v0 v1
          have q := l3 d d0 d1 w w0 w1
          have r := n.rng w0 w1
          rw [← e] at q
          have har := ar_le (MG (m1 9) v 0)
          by_cases c : d = 0
          · have q1 := q.2.1
            rw [if_pos c] at q1
            refine ⟨v0, v1, q.1, by omega, fun i i0 i1 => ?_⟩
            rw [q1] at i1
            exact absurd i1 (by unfold ar; rw [if_neg (by omega), if_neg (by omega)]; omega)
          · have q1 := q.2.1
            rw [if_neg c] at q1
            refine ⟨v0, v1, q.1, by omega, fun i i0 i1 => ?_⟩
            show 0 ≤ MG (m1 9) v (1 + i) ∧ MG (m1 9) v (1 + i) < (y + 1) * (gP P g).1
            rw [q.2.2 (1 + i) (by omega) (by omega), if_neg c]
            have p := n.prt w0 w1 i0 (by omega)
            have e3 : 0 ≤ (d - 1) * (gP P g).1 := Int.mul_nonneg (by omega) (by omega)
            have le : (d - 1 + 1) * (gP P g).1 ≤ y * (gP P g).1 := Int.mul_le_mul_of_nonneg_right (by omega) (by omega)
            have e2 : (d - 1 + 1) * (gP P g).1 = (d - 1) * (gP P g).1 + (gP P g).1 := by rw [Int.add_mul, Int.one_mul]
            omega
        have key : ∀ u w, (u = 0 ∧ 0 ≤ w ∧ w < (gP P g).1) ∨ (∃ d v, 0 ≤ d ∧ d < y ∧ 0 ≤ v ∧ v < (gP P g).1 ∧ u = 1 + d * (gP P g).1 + v ∧ w = (y - d) * (gP P g).1 + v) → Eqv (BG b1) u (MG (m1 9)) w := by
          intro u w huw
          refine Eqv.bisim (fun u w => (u = 0 ∧ 0 ≤ w ∧ w < (gP P g).1) ∨ (∃ d v, 0 ≤ d ∧ d < y ∧ 0 ≤ v ∧ v < (gP P g).1 ∧ u = 1 + d * (gP P g).1 + v ∧ w = (y - d) * (gP P g).1 + v)) ?_ huw
          rintro u w (⟨rfl, w0, w1⟩ | ⟨d, v, d0, d1, v0, v1, rfl, rfl⟩)
          · have q := (l3 0 (by omega) (by omega) w w0 w1).2.1
            rw [if_pos rfl, show 0 * (gP P g).1 + w = w by omega] at q
            rw [k4 0, u4, q]
            exact ⟨rfl, fun i i0 i1 => absurd i1 (by unfold ar; rw [if_neg (by omega), if_neg (by omega)]; omega)⟩
          · have q := k3 d d0 d1 v v0 v1
            have r := l3 (y - d) (by omega) (by omega) v v0 v1
            have r1 := r.2.1
            rw [if_neg (by omega)] at r1
            have har := ar_le (BG b1 (1 + d * (gP P g).1 + v) 0)
            refine ⟨by rw [q.1, r1], fun i i0 i1 => ?_⟩
            have p := n.prt v0 v1 i0 (by omega)
            rw [q.2 (1 + i) (by omega) (by omega), r.2.2 (1 + i) (by omega) (by omega), if_neg (by omega : ¬ y - d = 0)]
            by_cases c : d + 1 = y
            · left
              rw [if_pos c, show y - d - 1 = 0 by omega]
              omega
            · right
              rw [if_neg c]
              exact ⟨d + 1, GP (gP P g) v (1 + i), by omega, by omega, p.1, p.2, rfl, by rw [show y - (d + 1) = y - d - 1 by omega]⟩
        by_cases c : y = 0
        · subst c
          have hE := key 0 0 (Or.inl ⟨rfl, by omega, by omega⟩)
          obtain ⟨v, lt', b', P', m', res, w1, w2, w3, w4, w5⟩ := mk_of hN h ⟨k2, by omega, by omega, hW⟩ (root := 0) (by omega) (by omega) (by rw [k1 8 (by decide), u2 8 (by decide), bs0_ne _ _ (by decide)]) (fun s hs => by rw [l1 s (by omega) (by omega), bs0_ne _ _ (by omega)]) hS (root2 := 0) ⟨by omega, by omega⟩ hE t0 t1
          have er : m1 10 0 - (gP P g).1 = 0 := by rw [l2]; omega
          simp (disch := omega) only [iy, e1, e2, e5, e6, sx, ↓bn_some, ↓jn_eq, ↓ck1_of, ↓ckA_of, ↓if_pos, ↓if_neg, f_X0_cutOff, f_X0_start, u1, k5, l4, er, w1, w2, w3]
          exact ⟨v, lt', b', P', m', rfl, rfl, w4, w5⟩
        · have le : 1 * (gP P g).1 ≤ y * (gP P g).1 := Int.mul_le_mul_of_nonneg_right (by omega) (by omega)
          have hE := key 1 (y * (gP P g).1) (Or.inr ⟨0, 0, by omega, by omega, by omega, by omega, by rw [Int.zero_mul]; rfl, by rw [show y - 0 = y by omega]; omega⟩)
          obtain ⟨v, lt', b', P', m', res, w1, w2, w3, w4, w5⟩ := mk_of hN h ⟨k2, by omega, by omega, hW⟩ (root := 1) (by omega) (by omega) (by rw [k1 8 (by decide), u2 8 (by decide), bs0_ne _ _ (by decide)]) (fun s hs => by rw [l1 s (by omega) (by omega), bs0_ne _ _ (by omega)]) hS (root2 := y * (gP P g).1) ⟨by omega, by omega⟩ hE t0 t1
          have er : m1 10 0 - (gP P g).1 = y * (gP P g).1 := by rw [l2]; omega
          simp (disch := omega) only [iy, e1, e2, e5, e6, sx, ↓bn_some, ↓jn_eq, ↓ck1_of, ↓ckA_of, ↓if_pos, ↓if_neg, f_X0_cutOff, f_X0_start, u1, k5, l4, er, Int.zero_add, w1, w2, w3]
          exact ⟨v, lt', b', P', m', rfl, rfl, w4, w5⟩
      · simp (disch := omega) only [iy, e1, e2, e5, e6, ↓bn_some, ↓jn_eq, ↓ck1_of, ↓if_pos, ↓if_neg]
        exact bad2 h
    · rw [if_neg cy] at iy
      by_cases c : y < 0
      · simp (disch := omega) only [iy, e1, e2, ↓bn_some, ↓jn_eq, ↓ck1_of, ↓if_pos, ↓if_neg]
        exact bad2 h
      · simp (disch := omega) only [iy, e1, e2, ↓bn_some, ↓jn_eq, ↓ck1_of, ↓if_pos, ↓if_neg]
        exact bad2 h
