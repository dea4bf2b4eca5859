/-- a graph's name alone on both benches -/
theorem one_bench {N : Nat} (hN : 4000 ≤ N) {b m : Bd} {P : PL} {a g : Int} (n : Nm P m a g) : ∃ b1 m1, f_X0_putAll N (bs0 b 3 0) P g = some (0, b1) ∧ f_X6_loads N (bs0 m 10 0) a = some (0, m1) ∧ b1 8 = b 8 ∧ (∀ s : Nat, s < 9 → m1 s = m s) ∧ b1 3 0 = (gP P g).1 ∧ m1 10 0 = (gP P g).1 ∧ CB b1 0 (gP P g) (gP P g).1 ∧ CM (m1 9) 0 (gP P g) (gP P g).1 := by
  have s := n.sz
  obtain ⟨a0, a1, p0, p1, gg, -, -⟩ := id n
  obtain ⟨b1, k1, k2, k3, k4, k5⟩ := putAll_of hN (b := bs0 b 3 0) p0 p1 gg (bs0_eq _ _ _ _) (by omega) (by omega)
  obtain ⟨m1, q1, q2, q3, q4, q5⟩ := loads_of hN (m := bs0 m 10 0) (n.frame (bs0_ne _ _ (by decide)) (bs0_ne _ _ (by decide))) (bs0_eq _ _ _ _) (by omega) (by omega)
  exact ⟨b1, m1, k1, q1, by rw [k2 8 (by decide), bs0_ne _ _ (by decide)], fun s hs => by rw [q2 s (by omega) (by omega), bs0_ne _ _ (by omega)], by omega, by omega, k4, q4⟩
theorem CB.bw {b : Bd} {g : Gr} (h : CB b 0 g g.1) (hg : GOK g) (h3 : b 3 0 = g.1) : BW b g.1 := by
  have g1 := hg.1.1
  have g2 := hg.2
  refine ⟨h3, g1, by omega, fun v v0 v1 => ?_⟩
  have har := ar_le (BG b v 0)
  have r := h.rng hg (v := v) (by omega) (by omega)
  exact ⟨r.1, r.2.1, fun i i0 i1 => two (Q := fun j => 0 ≤ BG b v j ∧ BG b v j < g.1) (by omega) (by omega) i0 (by omega)⟩
theorem CM.ms {m : Bd} {g : Gr} (h : CM (m 9) 0 g g.1) (hg : GOK g) (h3 : m 10 0 = g.1) : MS m (fun v => 0 ≤ v ∧ v < g.1) g.1 := by
  have g1 := hg.1.1
  have g2 := hg.2
  refine ⟨h3, g1, by omega, fun v vv => ?_⟩
  have v0 := vv.1
  have v1 := vv.2
  have har := ar_le (MG (m 9) v 0)
  have r := h.rng hg (v := v) (by omega) (by omega)
  exact ⟨v0, v1, r.1, by omega, fun i i0 i1 => two (Q := fun j => 0 ≤ MG (m 9) v j ∧ MG (m 9) v j < g.1) (by omega) (by omega) i0 (by omega)⟩
theorem part_step {N : Nat} (hN : 4000 ≤ N) {T : Int} {lt b m : Bd} {P : PL} (h : RR T lt b m P) {x y t : Int} (hx : inR x) (hy : inR y) (ht : inR t) : Step2 T (f_X5_part N lt b P x y t) (f_X6_part N m x y t) := by
  unfold f_X5_part f_X6_part
  have iy := in_of (v := y) (l := 0) (h := 1) hy (by decide) (by decide)
  obtain ⟨y0, y1⟩ := hy
  rcases nm_of h.2.2.2.1 h.2.2.2.2.2.1 hx with ⟨e1, e2⟩ | ⟨g, e1, e2, n⟩
  · simp (disch := omega) only [e1, e2, ↓bn_some, ↓jn_eq, ↓ck1_of, ↓if_pos, ↓if_neg]
    exact bad2 h
  · obtain ⟨a0, a1, p0, p1, gg, -, -⟩ := id n
    by_cases cy : 0 ≤ y ∧ y ≤ 1
    · rw [if_pos cy] at iy
      rcases names_of ht with ⟨t0, t1, e5, e6⟩ | ⟨_, e5, e6⟩
      · have s := n.sz
        have r := n.rng (v := 0) (by omega) (by omega)
        have q1 := n.node (v := 0) (by omega) (by omega)
        have q2 := n.head (v := 0) (by omega) (by omega)
        have q3 := parts_ar (h := GP (gP P g) 0 0) (by omega) (by omega)
        have q4 := partCount_of gg (v := 0) (by omega) (by omega)
        have q5 := partAt_of gg.2 (v := 0) (by omega) (by omega) (i := y) (by omega) (by omega)
        have q6 := n.prt (v := 0) (by omega) (by omega) (i := y) (by omega) (by omega)
        have har := ar_le (GP (gP P g) 0 0)
        by_cases ca : y < ar (GP (gP P g) 0 0)
        · obtain ⟨b1, m1, k1, k2, k3, k4, k5, k6, C, D⟩ := one_bench hN (b := b) n
          have d := D 0 (by omega) (by omega)
          have q7 := partOf_of (w := m1 9) (v := 0) d.1 (i := y) (by omega) (by omega)
          have q8 : MG (m1 9) 0 (1 + y) = GP (gP P g) 0 (1 + y) := by
            refine two (Q := fun j => MG (m1 9) 0 j = GP (gP P g) 0 j) ?_ ?_ (by omega) (by omega)
            · have := d.2.2.1
              rw [show (0 : Int) + 0 = 0 by omega] at this
              omega
            · have := d.2.2.2
              rw [show (0 : Int) + 0 = 0 by omega] at this
              omega
          rw [q8] at q7
          have hE : Eqv (BG b1) (GP (gP P g) 0 (1 + y)) (MG (m1 9)) (GP (gP P g) 0 (1 + y)) := by
            have a := C.eqv gg (v := GP (gP P g) 0 (1 + y)) (by omega) (by omega)
            have c := D.eqv gg (v := GP (gP P g) 0 (1 + y)) (by omega) (by omega)
            rw [show 0 + GP (gP P g) 0 (1 + y) = GP (gP P g) 0 (1 + y) by omega] at a c
            exact a.trans c.symm
          obtain ⟨v, lt', b', P', m', res, w1, w2, w3, w4, w5⟩ := mk_of hN h (C.bw gg k5) (by omega) (by omega) k3 k4 (D.ms gg k6) ⟨q6.1, q6.2⟩ hE t0 t1
          simp (disch := omega) only [iy, e1, e2, e5, e6, ↓bn_some, ↓jn_eq, ↓ck1_of, ↓ckG_of, ↓ckA_of, ↓if_pos, ↓if_neg, q1, q2, q3, q4, q5, f_X0_start, k1, k2, q7, w1, w2, w3]
          exact ⟨v, lt', b', P', m', rfl, rfl, w4, w5⟩
        · simp (disch := omega) only [iy, e1, e2, e5, e6, ↓bn_some, ↓jn_eq, ↓ck1_of, ↓ckG_of, ↓ckA_of, ↓if_pos, ↓if_neg, q1, q2, q3, q4]
          obtain ⟨lt', m', e1, e2, r⟩ := refNo h
          rw [e1, e2, bn_some, bn_some]
          exact ⟨-3, lt', b, P, m', rfl, rfl, by decide, r⟩
      · simp (disch := omega) only [iy, e1, e2, e5, e6, ↓bn_some, ↓jn_eq, ↓ck1_of, ↓if_pos, ↓if_neg]
        exact bad2 h
    · rw [if_neg cy] at iy
      by_cases c : y < 0
      · simp (disch := omega) only [iy, e1, e2, ↓bn_some, ↓jn_eq, ↓ck1_of, ↓if_pos, ↓if_neg]
        exact bad2 h
      · simp (disch := omega) only [iy, e1, e2, ↓bn_some, ↓jn_eq, ↓ck1_of, ↓if_pos, ↓if_neg]
        exact bad2 h
/-! turn -/
def TG (g : Gr) (x : Int) : GG := fun v j => if j = 0 then GP g v 0 else if GP g v 0 = x then GP g v (3 - j) else GP g v j
theorem TG_0 (g : Gr) (x v : Int) : TG g x v 0 = GP g v 0 := by unfold TG; rw [if_pos rfl]
theorem turned_loop {P : PL} {b : Bd} {h x : Int} (p0 : 0 ≤ h) (p1 : h < (P.length : Int)) (g : GOK (gP P h)) (x0 : 5 ≤ x) (x1 : x ≤ 6) : ∀ (f : Nat) (i : Int) (b1 : Bd), (gP P h).1 - i < f → 0 ≤ i → i ≤ (gP P h).1 → (∀ s : Nat, 4 ≤ s → b1 s = b s) → b1 3 0 = i → (∀ v j, 0 ≤ v → v < i → 0 ≤ j → j < 3 → BG b1 v j = TG (gP P h) x v j) → ∃ b', (∀ s : Nat, 4 ≤ s → b' s = b s) ∧ b' 3 0 = (gP P h).1 ∧ (∀ v j, 0 ≤ v → v < (gP P h).1 → 0 ≤ j → j < 3 → BG b' v j = TG (gP P h) x v j) ∧ ∀ k, f_X0_turned_L6 P h x k f i b1 = k b' := by
  have g2 := g.2
  intro f
  induction f with
  | zero => intro i b1 h0 _ h2; omega
  | succ f ih =>
    intro i b1 h0 i0 i1 hf h3 hC
    by_cases hx : (gP P h).1 ≤ i
    · have e : i = (gP P h).1 := by omega
      refine ⟨b1, hf, by omega, by rw [e] at hC; exact hC, fun k => ?_⟩
      simp (disch := omega) only [f_X0_turned_L6, ↓ck1_of, ↓ckG_of, ↓if_pos]
    · have r := g.node i0 (v := i) (by omega)
      have q1 := headAt_of g2 i0 (by omega : i < (gP P h).1)
      have q2 := partAt_of g2 i0 (by omega : i < (gP P h).1) (i := 0) (by omega) (by omega)
      have q3 := partAt_of g2 i0 (by omega : i < (gP P h).1) (i := 1) (by omega) (by omega)
      rw [show (1 : Int) + 0 = 1 from rfl] at q2
      rw [show (1 : Int) + 1 = 2 from rfl] at q3
      have t0 := TG_0 (gP P h) x i
      by_cases c : GP (gP P h) i 0 = x
      · obtain ⟨b2, a1, a2, a3, a4, a5, a6, a7⟩ := put_of (b := b1) (h := x) (x := GP (gP P h) i 2) (y := GP (gP P h) i 1) h3 (by omega) (by omega) (by omega) (by omega) (by omega) (by omega) (by omega) (by omega)
        obtain ⟨b', k1, k2, k3, k4⟩ := ih (i + 1) b2 (by omega) (by omega) (by omega) (fun s hs => by rw [a2 s hs]; exact hf s hs) (by omega) (fun v j v0 v1 j0 j1 => by
          by_cases e : v = i
          · subst e
            have hj : j = 0 ∨ j = 1 ∨ j = 2 := by omega
            rcases hj with rfl | rfl | rfl
            · rw [a4, t0, c]
            · rw [a5]; unfold TG; rw [if_neg (by omega), if_pos c]; rfl
            · rw [a6]; unfold TG; rw [if_neg (by omega), if_pos c]; rfl
          · rw [a7 _ _ (by omega)]
            exact hC v j v0 (by omega) j0 j1)
        refine ⟨b', k1, k2, k3, fun k => ?_⟩
        simp (disch := omega) only [f_X0_turned_L6, ↓ck1_of, ↓ckG_of, ↓if_neg, q1, q2, q3, ↓bn_some, a1]
        exact k4 k
      · obtain ⟨b2, a1, a2, a3, a4, a5, a6, a7⟩ := put_of (b := b1) (h := GP (gP P h) i 0) (x := GP (gP P h) i 1) (y := GP (gP P h) i 2) h3 (by omega) (by omega) (by omega) (by omega) (by omega) (by omega) (by omega) (by omega)
        obtain ⟨b', k1, k2, k3, k4⟩ := ih (i + 1) b2 (by omega) (by omega) (by omega) (fun s hs => by rw [a2 s hs]; exact hf s hs) (by omega) (fun v j v0 v1 j0 j1 => by
          by_cases e : v = i
          · subst e
            have hj : j = 0 ∨ j = 1 ∨ j = 2 := by omega
            rcases hj with rfl | rfl | rfl
            · rw [a4, t0]
            · rw [a5]; unfold TG; rw [if_neg (by omega), if_neg c]
            · rw [a6]; unfold TG; rw [if_neg (by omega), if_neg c]
          · rw [a7 _ _ (by omega)]
            exact hC v j v0 (by omega) j0 j1)
        refine ⟨b', k1, k2, k3, fun k => ?_⟩
        simp (disch := omega) only [f_X0_turned_L6, ↓ck1_of, ↓ckG_of, ↓if_neg, ↓if_pos, q1, q2, q3, ↓bn_some, a1]
        exact k4 k
theorem turn_loop {m : Bd} {g : Gr} (hg : GOK g) {x : Int} (x0 : 5 ≤ x) (x1 : x ≤ 6) (h10 : m 10 0 = g.1) (x3 x4 : Int) : ∀ (f : Nat) (i : Int) (m1 : Bd), g.1 - i < f → 0 ≤ i → i ≤ g.1 → (∀ s : Nat, s ≠ 9 → m1 s = m s) → (∀ v, 0 ≤ v → v < i → PW (m1 9 v) ∧ ∀ j, 0 ≤ j → j < 3 → MG (m1 9) v j = TG g x v j) → (∀ v, i ≤ v → v < g.1 → PW (m1 9 v) ∧ ∀ j, 0 ≤ j → j < 3 → MG (m1 9) v j = GP g v j) → ∃ m', (∀ s : Nat, s ≠ 9 → m' s = m s) ∧ (∀ v, 0 ≤ v → v < g.1 → PW (m' 9 v) ∧ ∀ j, 0 ≤ j → j < 3 → MG (m' 9) v j = TG g x v j) ∧ ∀ k, f_X6_turn_L47 x x3 x4 k f i m1 = k m' := by
  have g2 := hg.2
  intro f
  induction f with
  | zero => intro i m1 h0 _ h2; omega
  | succ f ih =>
    intro i m1 h0 i0 i1 hf hC hD
    have f10 : m1 10 0 = g.1 := by rw [hf 10 (by decide)]; exact h10
    by_cases hx : g.1 ≤ i
    · have e : i = g.1 := by omega
      refine ⟨m1, hf, by rw [e] at hC; exact hC, fun k => ?_⟩
      simp (disch := omega) only [f_X6_turn_L47, f10, ↓ck1_of, ↓if_pos]
    · have r := hg.node i0 (v := i) (by omega)
      have d := hD i (by omega) (by omega)
      have d0 := d.2 0 (by omega) (by omega)
      have d1 := d.2 1 (by omega) (by omega)
      have d2 := d.2 2 (by omega) (by omega)
      have q1 := headOf_of d.1
      have q2 := partOf_of d.1 (i := 0) (by omega) (by omega)
      have q3 := partOf_of d.1 (i := 1) (by omega) (by omega)
      rw [show (1 : Int) + 0 = 1 from rfl] at q2
      rw [show (1 : Int) + 1 = 2 from rfl] at q3
      rw [d0] at q1
      rw [d1] at q2
      rw [d2] at q3
      have t0 := TG_0 g x i
      by_cases c : GP g i 0 = x
      · have e := pk_node (h := x) (a := GP g i 2) (b := GP g i 1) (by omega) (by omega) (by omega) (by omega) (by omega) (by omega)
        have nw := MG_pk (w := aS (m1 9) i (pk x (GP g i 2) (GP g i 1))) (v := i) (aS_eq _ _ _) (by omega) (by omega) (by omega) (by omega) (by omega) (by omega)
        obtain ⟨m', k1, k2, k3⟩ := ih (i + 1) (bS m1 9 (aS (m1 9) i (pk x (GP g i 2) (GP g i 1)))) (by omega) (by omega) (by omega) (fun s hs => by rw [bS_ne _ _ hs]; exact hf s hs) (fun v v0 v1 => by
          rw [bS_eq]
          by_cases e : v = i
          · subst e
            refine ⟨nw.1, fun j j0 j1 => ?_⟩
            have hj : j = 0 ∨ j = 1 ∨ j = 2 := by omega
            rcases hj with rfl | rfl | rfl
            · rw [nw.2.1, t0, c]
            · rw [nw.2.2.1]; unfold TG; rw [if_neg (by omega), if_pos c]; rfl
            · rw [nw.2.2.2]; unfold TG; rw [if_neg (by omega), if_pos c]; rfl
          · have e9 : aS (m1 9) i (pk x (GP g i 2) (GP g i 1)) v = m1 9 v := aS_ne _ _ e
            refine ⟨by rw [e9]; exact (hC v v0 (by omega)).1, fun j j0 j1 => by rw [MG_same e9]; exact (hC v v0 (by omega)).2 j j0 j1⟩) (fun v v0 v1 => by
          rw [bS_eq]
          have e9 : aS (m1 9) i (pk x (GP g i 2) (GP g i 1)) v = m1 9 v := aS_ne _ _ (by omega)
          refine ⟨by rw [e9]; exact (hD v (by omega) v1).1, fun j j0 j1 => by rw [MG_same e9]; exact (hD v (by omega) v1).2 j j0 j1⟩)
        refine ⟨m', k1, k2, fun k => ?_⟩
        simp (disch := omega) only [f_X6_turn_L47, f10, ↓ck1_of, ↓ckA_of, ↓if_neg, q1, q2, q3, ↓bn_some, e]
        exact k3 k
      · have es : bS m1 9 (aS (m1 9) i (m1 9 i)) = m1 := by
          funext s
          by_cases hs : s = 9
          · subst hs
            rw [bS_eq]
            funext v
            by_cases hv : v = i
            · rw [hv, aS_eq]
            · rw [aS_ne _ _ hv]
          · rw [bS_ne _ _ hs]
        obtain ⟨m', k1, k2, k3⟩ := ih (i + 1) m1 (by omega) (by omega) (by omega) hf (fun v v0 v1 => by
          by_cases e : v = i
          · subst e
            refine ⟨d.1, fun j j0 j1 => ?_⟩
            rw [d.2 j j0 j1]
            unfold TG
            rw [if_neg c]
            by_cases hj : j = 0
            · rw [if_pos hj, hj]
            · rw [if_neg hj]
          · exact hC v v0 (by omega)) (fun v v0 v1 => hD v (by omega) v1)
        refine ⟨m', k1, k2, fun k => ?_⟩
        simp (disch := omega) only [f_X6_turn_L47, f10, ↓ck1_of, ↓ckA_of, ↓if_neg, ↓if_pos, q1, ↓bn_some, es]
        exact k3 k
/-- two benches with the same nodes -/
theorem same_eqv {G H : GG} {n : Int} (hW : WG G n) (h : ∀ v j, 0 ≤ v → v < n → 0 ≤ j → j < 3 → G v j = H v j) {v : Int} (v0 : 0 ≤ v) (v1 : v < n) : Eqv G v H v := by
  refine Eqv.bisim (fun u w => u = w ∧ 0 ≤ u ∧ u < n) ?_ ⟨rfl, v0, v1⟩
  rintro u w ⟨rfl, u0, u1⟩
  refine ⟨h u 0 u0 u1 (by omega) (by omega), fun i i0 i1 => ?_⟩
  have har := ar_le (G u 0)
  have a := (hW u u0 u1).2.2 i i0 i1
  exact ⟨h u (1 + i) u0 u1 (by omega) (by omega), a.1, a.2⟩
theorem turn_step {N : Nat} (hN : 4000 ≤ N) {T : Int} {lt b m : Bd} {P : PL} (h : RR T lt b m P) {x y t : Int} (hx : inR x) (hy : inR y) (ht : inR t) : Step2 T (f_X5_turn N lt b P x y t) (f_X6_turn N m x y t) := by
  unfold f_X5_turn f_X6_turn
  have iy := in_of (v := y) (l := 5) (h := 6) hy (by decide) (by decide)
  obtain ⟨y0, y1⟩ := hy
  rcases nm_of h.2.2.2.1 h.2.2.2.2.2.1 hx with ⟨e1, e2⟩ | ⟨g, e1, e2, n⟩
  · simp (disch := omega) only [e1, e2, ↓bn_some, ↓jn_eq, ↓ck1_of, ↓if_pos, ↓if_neg]
    exact bad2 h
  · obtain ⟨a0, a1, p0, p1, gg, -, -⟩ := id n
    by_cases cy : 5 ≤ y ∧ y ≤ 6
    · rw [if_pos cy] at iy
      rcases names_of ht with ⟨t0, t1, e5, e6⟩ | ⟨_, e5, e6⟩
      · have s := n.sz
        obtain ⟨b1, k1, k2, k3, k4⟩ := turned_loop (b := bs0 b 3 0) p0 p1 gg cy.1 cy.2 N 0 (bs0 b 3 0) (by omega) (by omega) (by omega) (fun _ _ => rfl) (bs0_eq _ _ _ _) (fun v j v0 v1 => by omega)
        obtain ⟨m1, q1, q2, q3, q4, q5⟩ := loads_of hN (m := bs0 m 10 0) (n.frame (bs0_ne _ _ (by decide)) (bs0_ne _ _ (by decide))) (bs0_eq _ _ _ _) (by omega) (by omega)
        obtain ⟨m2, l1, l2, l3⟩ := turn_loop gg cy.1 cy.2 (m := m1) (by omega) t 0 N 0 m1 (by omega) (by omega) (by omega) (fun _ _ => rfl) (fun v v0 v1 => by omega) (fun v v0 v1 => by
          have d := q4 v v0 v1
          rw [show 0 + v = v by omega] at d
          refine ⟨d.1, fun j j0 j1 => ?_⟩
          have hj : j = 0 ∨ j = 1 ∨ j = 2 := by omega
          rcases hj with rfl | rfl | rfl
          · exact d.2.1
          · rw [d.2.2.1]; omega
          · rw [d.2.2.2]; omega)
        have tg : ∀ v j, 0 ≤ v → v < (gP P g).1 → 1 ≤ j → j < 3 → 0 ≤ TG (gP P g) y v j ∧ TG (gP P g) y v j < (gP P g).1 := by
          intro v j v0 v1 j0 j1
          have r := n.rng v0 v1
          unfold TG
          rw [if_neg (by omega)]
          have hj : j = 1 ∨ j = 2 := by omega
          by_cases c : GP (gP P g) v 0 = y
          · rw [if_pos c]
            rcases hj with rfl | rfl
            · exact ⟨r.2.2.2.2.1, r.2.2.2.2.2⟩
            · exact ⟨r.2.2.1, r.2.2.2.1⟩
          · rw [if_neg c]
            rcases hj with rfl | rfl
            · exact ⟨r.2.2.1, r.2.2.2.1⟩
            · exact ⟨r.2.2.2.2.1, r.2.2.2.2.2⟩
        have hW : WG (BG b1) (gP P g).1 := by
          intro v v0 v1
          have r := n.rng v0 v1
          have har := ar_le (BG b1 v 0)
          have e := k3 v 0 v0 v1 (by omega) (by omega)
          rw [TG_0] at e
          refine ⟨by omega, by omega, fun i i0 i1 => ?_⟩
          rw [k3 v (1 + i) v0 v1 (by omega) (by omega)]
          exact tg v (1 + i) v0 v1 (by omega) (by omega)
        have hS : MS m2 (fun v => 0 ≤ v ∧ v < (gP P g).1) (gP P g).1 := by
          refine ⟨by rw [l1 10 (by decide)]; omega, by omega, by omega, fun v vv => ?_⟩
          have v0 := vv.1
          have v1 := vv.2
          have r := n.rng v0 v1
          have d := l2 v v0 v1
          have e := d.2 0 (by omega) (by omega)
          rw [TG_0] at e
          have har := ar_le (MG (m2 9) v 0)
          refine ⟨v0, v1, d.1, by omega, fun i i0 i1 => ?_⟩
          show 0 ≤ MG (m2 9) v (1 + i) ∧ MG (m2 9) v (1 + i) < (gP P g).1
          rw [d.2 (1 + i) (by omega) (by omega)]
          exact tg v (1 + i) v0 v1 (by omega) (by omega)
        have hE : Eqv (BG b1) 0 (MG (m2 9)) 0 := same_eqv hW (fun v j v0 v1 j0 j1 => by rw [k3 v j v0 v1 j0 j1, (l2 v v0 v1).2 j j0 j1]) (by omega) (by omega)
        obtain ⟨v, lt', b', P', m', res, w1, w2, w3, w4, w5⟩ := mk_of hN h ⟨k2, by omega, by omega, hW⟩ (root := 0) (by omega) (by omega) (by rw [k1 8 (by decide), bs0_ne _ _ (by decide)]) (fun s hs => by rw [l1 s (by omega), q2 s (by omega) (by omega), bs0_ne _ _ (by omega)]) hS (root2 := 0) ⟨by omega, by omega⟩ hE t0 t1
        simp (disch := omega) only [iy, e1, e2, e5, e6, ↓bn_some, ↓jn_eq, ↓ck1_of, ↓if_pos, ↓if_neg, f_X0_turned, f_X0_start, k4, q1, l3, w1, w2, w3]
        exact ⟨v, lt', b', P', m', rfl, rfl, w4, w5⟩
      · simp (disch := omega) only [iy, e1, e2, e5, e6, ↓bn_some, ↓jn_eq, ↓ck1_of, ↓if_pos, ↓if_neg]
        exact bad2 h
    · rw [if_neg cy] at iy
      by_cases c : y < 5
      · simp (disch := omega) only [iy, e1, e2, ↓bn_some, ↓jn_eq, ↓ck1_of, ↓if_pos, ↓if_neg]
        exact bad2 h
      · simp (disch := omega) only [iy, e1, e2, ↓bn_some, ↓jn_eq, ↓ck1_of, ↓if_pos, ↓if_neg]
        exact bad2 h
