/-! Graphs on both benches; make, part, copy, turn, draw, cut -/
theorem Eqv.node {G H : GG} {u v : Int} (h0 : G u 0 = H v 0) (h : ∀ i, 0 ≤ i → i < ar (G u 0) → Eqv G (G u (1 + i)) H (H v (1 + i))) : Eqv G u H v := by
  intro p
  cases p with
  | nil => exact h0
  | cons i p =>
    unfold ob
    rw [← h0]
    by_cases hi : 0 ≤ i ∧ i < ar (G u 0)
    · rw [if_pos hi, if_pos hi]; exact h i hi.1 hi.2 p
    · rw [if_neg hi, if_neg hi]
theorem two {Q : Int → Prop} (h1 : Q 1) (h2 : Q 2) {i : Int} (i0 : 0 ≤ i) (i1 : i < 2) : Q (1 + i) := by
  by_cases hi : i = 0
  · subst hi; exact h1
  · have : i = 1 := by omega
    subst this; exact h2
/-- n nodes of g stand on the bench from o on -/
def CB (b : Bd) (o : Int) (g : Gr) (n : Int) : Prop := ∀ v, 0 ≤ v → v < n → BG b (o + v) 0 = GP g v 0 ∧ BG b (o + v) 1 = o + GP g v 1 ∧ BG b (o + v) 2 = o + GP g v 2
def CM (w : Int → Int) (o : Int) (g : Gr) (n : Int) : Prop := ∀ v, 0 ≤ v → v < n → PW (w (o + v)) ∧ MG w (o + v) 0 = GP g v 0 ∧ MG w (o + v) 1 = o + GP g v 1 ∧ MG w (o + v) 2 = o + GP g v 2
theorem CB.rng {b : Bd} {o : Int} {g : Gr} (h : CB b o g g.1) (hg : GOK g) {v : Int} (v0 : o ≤ v) (v1 : v < o + g.1) : 0 ≤ BG b v 0 ∧ BG b v 0 ≤ 6 ∧ o ≤ BG b v 1 ∧ BG b v 1 < o + g.1 ∧ o ≤ BG b v 2 ∧ BG b v 2 < o + g.1 := by
  have a := h (v - o) (by omega) (by omega)
  have r := hg.node (v := v - o) (by omega) (by omega)
  rw [show o + (v - o) = v by omega] at a
  rw [a.1, a.2.1, a.2.2]
  omega
theorem CM.rng {w : Int → Int} {o : Int} {g : Gr} (h : CM w o g g.1) (hg : GOK g) {v : Int} (v0 : o ≤ v) (v1 : v < o + g.1) : PW (w v) ∧ 0 ≤ MG w v 0 ∧ MG w v 0 ≤ 6 ∧ o ≤ MG w v 1 ∧ MG w v 1 < o + g.1 ∧ o ≤ MG w v 2 ∧ MG w v 2 < o + g.1 := by
  have a := h (v - o) (by omega) (by omega)
  have r := hg.node (v := v - o) (by omega) (by omega)
  rw [show o + (v - o) = v by omega] at a
  rw [a.2.1, a.2.2.1, a.2.2.2]
  exact ⟨a.1, by omega⟩
theorem CB.eqv {b : Bd} {o : Int} {g : Gr} (h : CB b o g g.1) (hg : GOK g) {v : Int} (v0 : 0 ≤ v) (v1 : v < g.1) : Eqv (BG b) (o + v) (GP g) v := by
  refine Eqv.bisim (fun u v => 0 ≤ v ∧ v < g.1 ∧ u = o + v) ?_ ⟨v0, v1, rfl⟩
  rintro u v ⟨v0, v1, rfl⟩
  have a := h v v0 v1
  have r := hg.node v0 v1
  refine ⟨a.1, fun i i0 i1 => ?_⟩
  have := ar_le (BG b (o + v) 0)
  refine two (Q := fun j => 0 ≤ GP g v j ∧ GP g v j < g.1 ∧ BG b (o + v) j = o + GP g v j) ⟨by omega, by omega, a.2.1⟩ ⟨by omega, by omega, a.2.2⟩ i0 (by omega)
theorem CM.eqv {w : Int → Int} {o : Int} {g : Gr} (h : CM w o g g.1) (hg : GOK g) {v : Int} (v0 : 0 ≤ v) (v1 : v < g.1) : Eqv (MG w) (o + v) (GP g) v := by
  refine Eqv.bisim (fun u v => 0 ≤ v ∧ v < g.1 ∧ u = o + v) ?_ ⟨v0, v1, rfl⟩
  rintro u v ⟨v0, v1, rfl⟩
  have a := h v v0 v1
  have r := hg.node v0 v1
  refine ⟨a.2.1, fun i i0 i1 => ?_⟩
  have := ar_le (MG w (o + v) 0)
  refine two (Q := fun j => 0 ≤ GP g v j ∧ GP g v j < g.1 ∧ MG w (o + v) j = o + GP g v j) ⟨by omega, by omega, a.2.2.1⟩ ⟨by omega, by omega, a.2.2.2⟩ i0 (by omega)
theorem CB.cong {b b' : Bd} {o n : Int} {g : Gr} (h : CB b o g n) (e : ∀ v j, o ≤ v → v < o + n → BG b' v j = BG b v j) : CB b' o g n := by
  intro v v0 v1
  rw [e _ _ (by omega) (by omega), e _ _ (by omega) (by omega), e _ _ (by omega) (by omega)]
  exact h v v0 v1
theorem MG_same {w w' : Int → Int} {v : Int} (e : w' v = w v) (j : Int) : MG w' v j = MG w v j := by unfold MG; rw [e]
theorem CM.cong {w w' : Int → Int} {o n : Int} {g : Gr} (h : CM w o g n) (e : ∀ v, o ≤ v → v < o + n → w' v = w v) : CM w' o g n := by
  intro v v0 v1
  have e := e (o + v) (by omega) (by omega)
  rw [MG_same e, MG_same e, MG_same e, e]
  exact h v v0 v1
theorem putAll_loop {P : PL} {b : Bd} {h cnt : Int} (p0 : 0 ≤ h) (p1 : h < (P.length : Int)) (g : GOK (gP P h)) (c0 : 0 ≤ cnt) (c1 : cnt + (gP P h).1 ≤ 3280) : ∀ (f : Nat) (i : Int) (b1 : Bd), (gP P h).1 - i < f → 0 ≤ i → i ≤ (gP P h).1 → (∀ s : Nat, 4 ≤ s → b1 s = b s) → b1 3 0 = cnt + i → CB b1 cnt (gP P h) i → (∀ v j, v < cnt → BG b1 v j = BG b v j) → ∃ b', (∀ s : Nat, 4 ≤ s → b' s = b s) ∧ b' 3 0 = cnt + (gP P h).1 ∧ CB b' cnt (gP P h) (gP P h).1 ∧ (∀ v j, v < cnt → BG b' v j = BG b v j) ∧ ∀ k, f_X0_putAll_L7 P h cnt k f i b1 = k b' := by
  have g2 := g.2
  intro f
  induction f with
  | zero => intro i b1 h0 _ h2; omega
  | succ f ih =>
    intro i b1 h0 i0 i1 hf h3 hC hO
    by_cases hx : (gP P h).1 ≤ i
    · have e : i = (gP P h).1 := by omega
      refine ⟨b1, hf, by omega, by rw [e] at hC; exact hC, hO, fun k => ?_⟩
      simp (disch := omega) only [f_X0_putAll_L7, ↓ck1_of, ↓ckG_of, ↓if_pos]
    · have r := g.node i0 (v := i) (by omega)
      have q1 := headAt_of g2 i0 (by omega : i < (gP P h).1)
      have q2 := partAt_of g2 i0 (by omega : i < (gP P h).1) (i := 0) (by omega) (by omega)
      have q3 := partAt_of g2 i0 (by omega : i < (gP P h).1) (i := 1) (by omega) (by omega)
      rw [show (1 : Int) + 0 = 1 from rfl] at q2
      rw [show (1 : Int) + 1 = 2 from rfl] at q3
      obtain ⟨b2, a1, a2, a3, a4, a5, a6, a7⟩ := put_of (b := b1) (h := GP (gP P h) i 0) (x := cnt + GP (gP P h) i 1) (y := cnt + GP (gP P h) i 2) h3 (by omega) (by omega) (by omega) (by omega) (by omega) (by omega) (by omega) (by omega)
      obtain ⟨b', k1, k2, k3, k4, k5⟩ := ih (i + 1) b2 (by omega) (by omega) (by omega) (fun s hs => by rw [a2 s hs]; exact hf s hs) (by omega) (fun v v0 v1 => by
        by_cases e : v = i
        · subst e; exact ⟨a4, a5, a6⟩
        · rw [a7 _ _ (by omega), a7 _ _ (by omega), a7 _ _ (by omega)]
          exact hC v v0 (by omega)) (fun v j hv => by rw [a7 _ _ (by omega)]; exact hO v j hv)
      refine ⟨b', k1, k2, k3, k4, fun k => ?_⟩
      simp (disch := omega) only [f_X0_putAll_L7, ↓ck1_of, ↓ckG_of, ↓if_neg, q1, q2, q3, ↓bn_some, a1]
      exact k5 k
theorem putAll_of {N : Nat} (hN : 4000 ≤ N) {P : PL} {b : Bd} {h cnt : Int} (p0 : 0 ≤ h) (p1 : h < (P.length : Int)) (g : GOK (gP P h)) (h3 : b 3 0 = cnt) (c0 : 0 ≤ cnt) (c1 : cnt + (gP P h).1 ≤ 3280) : ∃ b', f_X0_putAll N b P h = some (cnt, b') ∧ (∀ s : Nat, 4 ≤ s → b' s = b s) ∧ b' 3 0 = cnt + (gP P h).1 ∧ CB b' cnt (gP P h) (gP P h).1 ∧ ∀ v j, v < cnt → BG b' v j = BG b v j := by
  have g1 := g.1.1
  have g2 := g.2
  obtain ⟨b', k1, k2, k3, k4, k5⟩ := putAll_loop p0 p1 g c0 c1 N 0 b (by omega) (by omega) (by omega) (fun _ _ => rfl) (by omega) (fun v v0 v1 => by omega) (fun _ _ _ => rfl)
  refine ⟨b', ?_, k1, k2, k3, k4⟩
  unfold f_X0_putAll
  rw [h3, k5]
theorem loads_loop {P : PL} {m : Bd} {a h cnt : Int} (n : Nm P m a h) (c0 : 0 ≤ cnt) (c1 : cnt + (gP P h).1 ≤ 3400) : ∀ (f : Nat) (i : Int) (m1 : Bd), (gP P h).1 - i < f → 0 ≤ i → i ≤ (gP P h).1 → (∀ s : Nat, s ≠ 9 → s ≠ 10 → m1 s = m s) → m1 10 0 = cnt + i → CM (m1 9) cnt (gP P h) i → (∀ v, v < cnt → m1 9 v = m 9 v) → ∃ m', (∀ s : Nat, s ≠ 9 → s ≠ 10 → m' s = m s) ∧ m' 10 0 = cnt + (gP P h).1 ∧ CM (m' 9) cnt (gP P h) (gP P h).1 ∧ (∀ v, v < cnt → m' 9 v = m 9 v) ∧ ∀ k, f_X6_loads_L7 a cnt k f i m1 = k m' := by
  have sz := n.sz
  obtain ⟨a0, a1, p0, p1, g, e, w⟩ := id n
  intro f
  induction f with
  | zero => intro i m1 h0 _ h2; omega
  | succ f ih =>
    intro i m1 h0 i0 i1 hf h3 hC hO
    have f0 := hf 0 (by decide) (by decide)
    have f1 := hf 1 (by decide) (by decide)
    by_cases hx : (gP P h).1 ≤ i
    · have ei : i = (gP P h).1 := by omega
      refine ⟨m1, hf, by omega, by rw [ei] at hC; exact hC, hO, fun k => ?_⟩
      simp (disch := omega) only [f_X6_loads_L7, f0, e, ↓ck1_of, ↓ckA_of, ↓if_pos]
    · have r := n.rng (v := i) i0 (by omega)
      have q1 := n.head i0 (by omega : i < (gP P h).1)
      have q2 := n.part i0 (by omega : i < (gP P h).1) (i := 0) (by omega) (by omega)
      have q3 := n.part i0 (by omega : i < (gP P h).1) (i := 1) (by omega) (by omega)
      have w1 := w i i0 (by omega)
      rw [show (1 : Int) + 0 = 1 from rfl] at q2
      rw [show (1 : Int) + 1 = 2 from rfl] at q3
      obtain ⟨m2, b1, b2, b3, b4, b5, b6, b7, b8⟩ := adds_of (m := m1) (h := GP (gP P h) i 0) (x := cnt + GP (gP P h) i 1) (y := cnt + GP (gP P h) i 2) h3 (by omega) (by omega) (by omega) (by omega) (by omega) (by omega) (by omega) (by omega)
      obtain ⟨m', k1, k2, k3, k4, k5⟩ := ih (i + 1) m2 (by omega) (by omega) (by omega) (fun s s1 s2 => by rw [b2 s s1 s2]; exact hf s s1 s2) (by omega) (fun v v0 v1 => by
        by_cases ev : v = i
        · subst ev; exact ⟨b4, b5, b6, b7⟩
        · have e8 := b8 (cnt + v) (by omega)
          rw [MG_same e8, MG_same e8, MG_same e8, e8]
          exact hC v v0 (by omega)) (fun v hv => by rw [b8 _ (by omega)]; exact hO v hv)
      refine ⟨m', k1, k2, k3, k4, fun k => ?_⟩
      simp (disch := omega) only [f_X6_loads_L7, f0, f1, e, w1, ↓ck1_of, ↓ckA_of, ↓if_neg, q1, q2, q3, ↓bn_some, b1]
      exact k5 k
theorem loads_of {N : Nat} (hN : 4000 ≤ N) {P : PL} {m : Bd} {a h cnt : Int} (n : Nm P m a h) (h3 : m 10 0 = cnt) (c0 : 0 ≤ cnt) (c1 : cnt + (gP P h).1 ≤ 3400) : ∃ m', f_X6_loads N m a = some (cnt, m') ∧ (∀ s : Nat, s ≠ 9 → s ≠ 10 → m' s = m s) ∧ m' 10 0 = cnt + (gP P h).1 ∧ CM (m' 9) cnt (gP P h) (gP P h).1 ∧ ∀ v, v < cnt → m' 9 v = m 9 v := by
  have sz := n.sz
  obtain ⟨m', k1, k2, k3, k4, k5⟩ := loads_loop n c0 c1 N 0 m (by omega) (by omega) (by omega) (fun _ _ _ => rfl) (by omega) (fun v v0 v1 => by omega) (fun _ _ => rfl)
  refine ⟨m', ?_, k1, k2, k3, k4⟩
  unfold f_X6_loads
  rw [h3, k5]
theorem Nm.frame {P : PL} {m m' : Bd} {a h : Int} (n : Nm P m a h) (e0 : m' 0 = m 0) (e1 : m' 1 = m 1) : Nm P m' a h := by
  unfold Nm
  rw [e0, e1]
  exact n
theorem both_of {N : Nat} (hN : 4000 ≤ N) {P : PL} {m : Bd} {a h a' h' : Int} (n : Nm P m a h) (n' : Nm P m a' h') : ∃ m', f_X6_both N m a a' = some ((gP P h).1, m') ∧ (∀ s : Nat, s ≠ 9 → s ≠ 10 → m' s = m s) ∧ m' 10 0 = (gP P h).1 + (gP P h').1 ∧ CM (m' 9) 0 (gP P h) (gP P h).1 ∧ CM (m' 9) (gP P h).1 (gP P h') (gP P h').1 := by
  have s := n.sz
  have s' := n'.sz
  unfold f_X6_both
  obtain ⟨m1, e1, f1, c1, k1, o1⟩ := loads_of hN (m := bs0 m 10 0) (n.frame (bs0_ne _ _ (by decide)) (bs0_ne _ _ (by decide))) (bs0_eq _ _ _ _) (by omega) (by omega)
  obtain ⟨m2, e2, f2, c2, k2, o2⟩ := loads_of hN (m := m1) (cnt := (gP P h).1) (n'.frame (by rw [f1 0 (by decide) (by decide), bs0_ne _ _ (by decide)]) (by rw [f1 1 (by decide) (by decide), bs0_ne _ _ (by decide)])) (by omega) (by omega) (by omega)
  rw [e1, bn_some, e2, bn_some]
  exact ⟨m2, rfl, fun s s9 s10 => by rw [f2 s s9 s10, f1 s s9 s10, bs0_ne _ _ s10], c2, k1.cong (fun v v0 v1 => o2 v (by omega)), k2⟩
/-- from both benches to both answers -/
theorem mk_of {N : Nat} (hN : 4000 ≤ N) {T : Int} {lt b m m1 b1 : Bd} {P : PL} {S : Int → Prop} {cnt cnt2 root root2 : Int} (h : RR T lt b m P) (hb : BW b1 cnt) (r0 : 0 ≤ root) (r1 : root < cnt) (h8 : b1 8 = b 8) (hm : ∀ s : Nat, s < 9 → m1 s = m s) (hS : MS m1 S cnt2) (hr : S root2) (hE : Eqv (BG b1) root (MG (m1 9)) root2) {x : Int} (x0 : 0 ≤ x) (x1 : x < 8) : ∃ v lt' b' P' m' res, f_X0_smallest N b1 P root = some (res, b', P') ∧ f_X5_give N lt P' x res = some (v, lt') ∧ f_X6_gives N m1 root2 x = some (v, m') ∧ inR v ∧ RR (T + 1) lt' b' m' P' := by
  obtain ⟨res, b2, P', k1, k2, k3, k4⟩ := small_of hN (P := P) hb r0 r1 (by rw [h8]; exact h.2.2.2.2.2.2)
  obtain ⟨v, lt', m', g1, g2, g3, g4⟩ := give_of hN h k4 k3 hm hS hr hE x0 x1
  exact ⟨v, lt', b2, P', m', res, k1, g1, g2, g3, g4⟩
theorem bad2 {T : Int} {lt b m : Bd} {P : PL} (h : RR T lt b m P) : Step2 T (bn (f_X5_refuseBad lt) fun q => some (q.1, q.2, b, P)) (bn (f_X6_refuses m (-2)) fun q => some (q.1, q.2)) := by
  obtain ⟨lt', m', e1, e2, r⟩ := refBad h
  rw [e1, e2, bn_some, bn_some]
  exact ⟨-2, lt', b, P, m', rfl, rfl, by decide, r⟩
theorem make_step {N : Nat} (hN : 4000 ≤ N) {T : Int} {lt b m : Bd} {P : PL} (h : RR T lt b m P) {x y z t : Int} (hx : inR x) (hy : inR y) (hz : inR z) (ht : inR t) : Step2 T (f_X5_make N lt b P x y z t) (f_X6_make N m x y z t) := by
  unfold f_X5_make f_X6_make
  have ix := in_of (v := x) (l := 4) (h := 6) hx (by decide) (by decide)
  obtain ⟨x0, x1⟩ := hx
  by_cases cx : 4 ≤ x ∧ x ≤ 6
  · rw [if_pos cx] at ix
    rcases nm_of h.2.2.2.1 h.2.2.2.2.2.1 hy with ⟨e1, e2⟩ | ⟨g, e1, e2, n⟩
    · rcases nm_of h.2.2.2.1 h.2.2.2.2.2.1 hz with ⟨e3, e4⟩ | ⟨g', e3, e4, n'⟩
      · simp (disch := omega) only [ix, e1, e2, e3, e4, ↓bn_some, ↓jn_eq, ↓ck1_of, ↓if_pos, ↓if_neg]
        exact bad2 h
      · have p0 := n'.2.2.1
        simp (disch := omega) only [ix, e1, e2, e3, e4, ↓bn_some, ↓jn_eq, ↓ck1_of, ↓if_pos, ↓if_neg]
        exact bad2 h
    · obtain ⟨a0, a1, p0, p1, gg, -, -⟩ := id n
      rcases nm_of h.2.2.2.1 h.2.2.2.2.2.1 hz with ⟨e3, e4⟩ | ⟨g', e3, e4, n'⟩
      · simp (disch := omega) only [ix, e1, e2, e3, e4, ↓bn_some, ↓jn_eq, ↓ck1_of, ↓if_pos, ↓if_neg]
        exact bad2 h
      · obtain ⟨a0', a1', p0', p1', gg', -, -⟩ := id n'
        rcases names_of ht with ⟨t0, t1, e5, e6⟩ | ⟨_, e5, e6⟩
        · have s := n.sz
          have s' := n'.sz
          obtain ⟨b1, k1, k2, k3, k4, k5⟩ := putAll_of hN (b := bs0 b 3 0) p0 p1 gg (bs0_eq _ _ _ _) (by omega) (by omega)
          obtain ⟨b2, l1, l2, l3, l4, l5⟩ := putAll_of hN (b := b1) (cnt := (gP P g).1) p0' p1' gg' (by omega) (by omega) (by omega)
          obtain ⟨b3, u1, u2, u3, u4, u5, u6, u7⟩ := put_of (b := b2) (h := x) (x := 0) (y := (gP P g).1) l3 (by omega) (by omega) (by omega) (by omega) (by omega) (by omega) (by omega) (by omega)
          obtain ⟨m1, q1, q2, q3, q4, q5⟩ := both_of hN n n'
          obtain ⟨m2, v1, v2, v3, v4, v5, v6, v7, v8⟩ := adds_of (m := m1) (h := x) (x := 0) (y := (gP P g).1) q3 (by omega) (by omega) (by omega) (by omega) (by omega) (by omega) (by omega) (by omega)
          have C1 : CB b3 0 (gP P g) (gP P g).1 := (k4.cong (fun v j v0 v1 => l5 v j (by omega))).cong (fun v j v0 v1 => u7 v j (by omega))
          have C2 : CB b3 (gP P g).1 (gP P g') (gP P g').1 := l4.cong (fun v j v0 v1 => u7 v j (by omega))
          have D1 : CM (m2 9) 0 (gP P g) (gP P g).1 := q4.cong (fun v v0 v1 => v8 v (by omega))
          have D2 : CM (m2 9) (gP P g).1 (gP P g') (gP P g').1 := q5.cong (fun v v0 v1 => v8 v (by omega))
          have hBW : BW b3 ((gP P g).1 + (gP P g').1 + 1) := by
            refine ⟨u3, by omega, by omega, fun v v0 v1 => ?_⟩
            have har := ar_le (BG b3 v 0)
            by_cases c1 : v < (gP P g).1
            · have r := C1.rng gg (v := v) (by omega) (by omega)
              exact ⟨r.1, r.2.1, fun i i0 i1 => two (Q := fun j => 0 ≤ BG b3 v j ∧ BG b3 v j < (gP P g).1 + (gP P g').1 + 1) (by omega) (by omega) i0 (by omega)⟩
            · by_cases c2 : v < (gP P g).1 + (gP P g').1
              · have r := C2.rng gg' (v := v) (by omega) (by omega)
                exact ⟨r.1, r.2.1, fun i i0 i1 => two (Q := fun j => 0 ≤ BG b3 v j ∧ BG b3 v j < (gP P g).1 + (gP P g').1 + 1) (by omega) (by omega) i0 (by omega)⟩
              · have : v = (gP P g).1 + (gP P g').1 := by omega
                subst this
                rw [u4] at har ⊢
                exact ⟨by omega, by omega, fun i i0 i1 => two (Q := fun j => 0 ≤ BG b3 ((gP P g).1 + (gP P g').1) j ∧ BG b3 ((gP P g).1 + (gP P g').1) j < (gP P g).1 + (gP P g').1 + 1) (by omega) (by omega) i0 (by omega)⟩
          have hMS : MS m2 (fun v => 0 ≤ v ∧ v < (gP P g).1 + (gP P g').1 + 1) ((gP P g).1 + (gP P g').1 + 1) := by
            refine ⟨v3, by omega, by omega, fun v vv => ?_⟩
            have v0 := vv.1
            have v1 := vv.2
            have har := ar_le (MG (m2 9) v 0)
            by_cases c1 : v < (gP P g).1
            · have r := D1.rng gg (v := v) (by omega) (by omega)
              exact ⟨v0, v1, r.1, by omega, fun i i0 i1 => two (Q := fun j => 0 ≤ MG (m2 9) v j ∧ MG (m2 9) v j < (gP P g).1 + (gP P g').1 + 1) (by omega) (by omega) i0 (by omega)⟩
            · by_cases c2 : v < (gP P g).1 + (gP P g').1
              · have r := D2.rng gg' (v := v) (by omega) (by omega)
                exact ⟨v0, v1, r.1, by omega, fun i i0 i1 => two (Q := fun j => 0 ≤ MG (m2 9) v j ∧ MG (m2 9) v j < (gP P g).1 + (gP P g').1 + 1) (by omega) (by omega) i0 (by omega)⟩
              · have : v = (gP P g).1 + (gP P g').1 := by omega
                subst this
                exact ⟨v0, v1, v4, by omega, fun i i0 i1 => two (Q := fun j => 0 ≤ MG (m2 9) ((gP P g).1 + (gP P g').1) j ∧ MG (m2 9) ((gP P g).1 + (gP P g').1) j < (gP P g).1 + (gP P g').1 + 1) (by omega) (by omega) i0 (by omega)⟩
          have hE : Eqv (BG b3) ((gP P g).1 + (gP P g').1) (MG (m2 9)) ((gP P g).1 + (gP P g').1) := by
            refine Eqv.node (by rw [u4, v5]) (fun i i0 i1 => ?_)
            have har := ar_le (BG b3 ((gP P g).1 + (gP P g').1) 0)
            refine two (Q := fun j => Eqv (BG b3) (BG b3 ((gP P g).1 + (gP P g').1) j) (MG (m2 9)) (MG (m2 9) ((gP P g).1 + (gP P g').1) j)) ?_ ?_ i0 (by omega)
            · rw [u5, v6]
              exact (C1.eqv gg (v := 0) (by omega) (by omega)).trans (D1.eqv gg (v := 0) (by omega) (by omega)).symm
            · rw [u6, v7]
              have a := C2.eqv gg' (v := 0) (by omega) (by omega)
              have c := D2.eqv gg' (v := 0) (by omega) (by omega)
              rw [show (gP P g).1 + 0 = (gP P g).1 by omega] at a c
              exact a.trans c.symm
          obtain ⟨v, lt', b', P', m', res, w1, w2, w3, w4, w5⟩ := mk_of hN h hBW (by omega) (by omega) (by rw [u2 8 (by decide), l2 8 (by decide), k2 8 (by decide), bs0_ne _ _ (by decide)]) (fun s hs => by rw [v2 s (by omega) (by omega), q2 s (by omega) (by omega)]) hMS ⟨by omega, by omega⟩ hE t0 t1
          simp (disch := omega) only [ix, e1, e2, e3, e4, e5, e6, ↓bn_some, ↓jn_eq, ↓ck1_of, ↓if_pos, ↓if_neg, f_X0_start, k1, l1, u1, q1, v1, w1, w2, w3]
          exact ⟨v, lt', b', P', m', rfl, rfl, w4, w5⟩
        · simp (disch := omega) only [ix, e1, e2, e3, e4, e5, e6, ↓bn_some, ↓jn_eq, ↓ck1_of, ↓if_pos, ↓if_neg]
          exact bad2 h
  · rw [if_neg cx] at ix
    obtain ⟨g, e1⟩ : ∃ g, f_X5_graphOf lt y = some g := by
      rcases nm_of h.2.2.2.1 h.2.2.2.2.2.1 hy with ⟨e1, e2⟩ | ⟨g, e1, e2, n⟩ <;> exact ⟨_, e1⟩
    obtain ⟨g', e2⟩ : ∃ g, f_X5_graphOf lt z = some g := by
      rcases nm_of h.2.2.2.1 h.2.2.2.2.2.1 hz with ⟨e1, e2⟩ | ⟨g, e1, e2, n⟩ <;> exact ⟨_, e1⟩
    by_cases c : x < 4
    · simp (disch := omega) only [ix, e1, e2, ↓bn_some, ↓jn_eq, ↓ck1_of, ↓if_pos, ↓if_neg]
      exact bad2 h
    · simp (disch := omega) only [ix, e1, e2, ↓bn_some, ↓jn_eq, ↓ck1_of, ↓if_pos, ↓if_neg]
      exact bad2 h
