/-! Whether a node of one graph is alike one of another; shared's count, the place -/
def AI (X Y : Gr) (xr yr : Int) (M Q : Int → Int) (n a i : Int) : Prop :=
  1 ≤ n ∧ Q 0 = yr ∧ M yr = xr ∧
  (∀ k, 0 ≤ k → k < n → 0 ≤ Q k ∧ Q k < Y.1 ∧ 0 ≤ M (Q k) ∧ M (Q k) < X.1 ∧ (Eqv (GP X) xr (GP Y) yr → Eqv (GP X) (M (Q k)) (GP Y) (Q k))) ∧
  (∀ j k, 0 ≤ j → j < n → 0 ≤ k → k < n → Q j = Q k → j = k) ∧
  (∀ v, 0 ≤ v → v < Y.1 → M v = -1 ∨ ∃ k, 0 ≤ k ∧ k < n ∧ Q k = v) ∧
  (∀ k j, 0 ≤ k → 0 ≤ j → j < ar (GP Y (Q k) 0) → (k < a ∨ (k = a ∧ j < i)) → ∃ p, 0 ≤ p ∧ p < n ∧ Q p = GP Y (Q k) (1 + j) ∧ M (Q p) = GP X (M (Q k)) (1 + j)) ∧
  (∀ k, 0 ≤ k → k < a → GP X (M (Q k)) 0 = GP Y (Q k) 0)
theorem AI.fin {X Y : Gr} {xr yr : Int} {M Q : Int → Int} {n a : Int} (h : AI X Y xr yr M Q n a 0) (ha : n ≤ a) : Eqv (GP X) xr (GP Y) yr := by
  obtain ⟨h1, h2, h3, h4, h5, h6, h7, h8⟩ := h
  refine Eqv.bisim (fun u v => ∃ k, 0 ≤ k ∧ k < n ∧ v = Q k ∧ u = M (Q k)) ?_ ⟨0, by omega, by omega, h2.symm, by rw [h2, h3]⟩
  rintro u v ⟨k, k0, k1, rfl, rfl⟩
  have e := h8 k k0 (by omega)
  refine ⟨e, fun i i0 i1 => ?_⟩
  obtain ⟨p, p0, p1, q1, q2⟩ := h7 k i k0 i0 (by rw [← e]; exact i1) (Or.inl (by omega))
  exact ⟨p, p0, p1, q1.symm, q2.symm⟩
theorem AI.next {X Y : Gr} {xr yr : Int} {M Q : Int → Int} {n a i : Int} (h : AI X Y xr yr M Q n a i) (a0 : 0 ≤ a) (hi : ar (GP Y (Q a) 0) ≤ i) (e : GP X (M (Q a)) 0 = GP Y (Q a) 0) : AI X Y xr yr M Q n (a + 1) 0 := by
  obtain ⟨h1, h2, h3, h4, h5, h6, h7, h8⟩ := h
  refine ⟨h1, h2, h3, h4, h5, h6, fun k j k0 j0 j1 hk => h7 k j k0 j0 j1 ?_, fun k k0 k1 => ?_⟩
  · by_cases c : k = a
    · subst c; exact Or.inr ⟨rfl, by omega⟩
    · exact Or.inl (by omega)
  · by_cases c : k = a
    · subst c; exact e
    · exact h8 k k0 (by omega)
theorem AI.old {X Y : Gr} {xr yr : Int} {M Q : Int → Int} {n a i p : Int} (h : AI X Y xr yr M Q n a i) (p0 : 0 ≤ p) (p1 : p < n) (e1 : Q p = GP Y (Q a) (1 + i)) (e2 : M (Q p) = GP X (M (Q a)) (1 + i)) : AI X Y xr yr M Q n a (i + 1) := by
  obtain ⟨h1, h2, h3, h4, h5, h6, h7, h8⟩ := h
  refine ⟨h1, h2, h3, h4, h5, h6, fun k j k0 j0 j1 hk => ?_, h8⟩
  by_cases c : k = a ∧ j = i
  · obtain ⟨rfl, rfl⟩ := c
    exact ⟨p, p0, p1, e1, e2⟩
  · exact h7 k j k0 j0 j1 (by omega)
theorem AI.new {X Y : Gr} {xr yr : Int} {M Q : Int → Int} {n a i y x : Int} (h : AI X Y xr yr M Q n a i) (a0 : 0 ≤ a) (a1 : a < n) (hy : GP Y (Q a) (1 + i) = y) (hx : GP X (M (Q a)) (1 + i) = x) (y0 : 0 ≤ y) (y1 : y < Y.1) (x0 : 0 ≤ x) (x1 : x < X.1) (hn : M y = -1) (i0 : 0 ≤ i) (i1 : i < ar (GP Y (Q a) 0)) (e : GP X (M (Q a)) 0 = GP Y (Q a) 0) : AI X Y xr yr (aS M y x) (aS Q n y) (n + 1) a (i + 1) := by
  obtain ⟨h1, h2, h3, h4, h5, h6, h7, h8⟩ := h
  have ne : ∀ k, 0 ≤ k → k < n → Q k ≠ y := fun k k0 k1 ek => by
    have := (h4 k k0 k1).2.2.1
    rw [ek, hn] at this
    omega
  have oq : ∀ k, k < n → aS Q n y k = Q k := fun k k1 => aS_ne _ _ (by omega)
  have nq : aS Q n y n = y := aS_eq _ _ _
  have om : ∀ k, 0 ≤ k → k < n → aS M y x (Q k) = M (Q k) := fun k k0 k1 => aS_ne _ _ (ne k k0 k1)
  have nm : aS M y x y = x := aS_eq _ _ _
  refine ⟨by omega, by rw [oq 0 (by omega)]; exact h2, ?_, fun k k0 k1 => ?_, fun j k j0 j1 k0 k1 ejk => ?_, fun v v0 v1 => ?_, fun k j k0 j0 j1 hk => ?_, fun k k0 k1 => ?_⟩
  · have := om 0 (by omega) (by omega)
    rw [h2] at this
    rw [this]; exact h3
  · by_cases c : k = n
    · subst c
      rw [nq, nm]
      refine ⟨y0, y1, x0, x1, fun hE => ?_⟩
      have q := ((h4 a a0 a1).2.2.2.2 hE).part (i := i) ⟨i0, by rw [e]; exact i1⟩
      rw [hy, hx] at q
      exact q
    · rw [oq k (by omega), om k k0 (by omega)]
      exact h4 k k0 (by omega)
  · by_cases c : j = n
    · subst c
      by_cases d : k = j
      · exact d.symm
      · rw [nq, oq k (by omega)] at ejk
        exact absurd ejk.symm (ne k k0 (by omega))
    · by_cases d : k = n
      · subst d
        rw [nq, oq j (by omega)] at ejk
        exact absurd ejk (ne j j0 (by omega))
      · rw [oq j (by omega), oq k (by omega)] at ejk
        exact h5 j k j0 (by omega) k0 (by omega) ejk
  · by_cases c : v = y
    · right; exact ⟨n, by omega, by omega, by rw [nq, c]⟩
    · rw [aS_ne _ _ c]
      rcases h6 v v0 v1 with q | ⟨k, k0, k1, k2⟩
      · exact Or.inl q
      · exact Or.inr ⟨k, k0, by omega, by rw [oq k k1]; exact k2⟩
  · have kn : k < n := by omega
    rw [oq k kn] at j1 ⊢
    rw [om k k0 kn]
    by_cases c : k = a ∧ j = i
    · obtain ⟨rfl, rfl⟩ := c
      exact ⟨n, by omega, by omega, by rw [nq, hy], by rw [nq, nm, hx]⟩
    · obtain ⟨p, p0, p1, q1, q2⟩ := h7 k j k0 j0 j1 (by omega)
      exact ⟨p, p0, by omega, by rw [oq p p1]; exact q1, by rw [oq p p1, om p p0 p1]; exact q2⟩
  · rw [oq k (by omega), om k k0 (by omega)]
    exact h8 k k0 k1
theorem al_in {P : PL} {gx gy xr yr : Int} {ms : Bd} (px0 : 0 ≤ gx) (px1 : gx < (P.length : Int)) (py0 : 0 ≤ gy) (py1 : gy < (P.length : Int)) (gX : GOK (gP P gx)) (gY : GOK (gP P gy)) {a yn xn : Int} (a0 : 0 ≤ a) : ∀ (f : Nat) (n i : Int) (ms1 : Bd), ar (GP (gP P gy) yn 0) - i < f → 0 ≤ i → i ≤ ar (GP (gP P gy) yn 0) → (∀ s : Nat, s ≠ 1 → s ≠ 2 → ms1 s = ms s) → a < n → ms1 2 a = yn → ms1 1 yn = xn → GP (gP P gx) xn 0 = GP (gP P gy) yn 0 → AI (gP P gx) (gP P gy) xr yr (ms1 1) (ms1 2) n a i →
    (∃ n' ms', n ≤ n' ∧ (∀ s : Nat, s ≠ 1 → s ≠ 2 → ms' s = ms s) ∧ AI (gP P gx) (gP P gy) xr yr (ms' 1) (ms' 2) n' (a + 1) 0 ∧ ∀ k, f_X3_alikeAt_L87 P gx gy a yn xn (ar (GP (gP P gy) yn 0)) k f n i ms1 = k n' ms') ∨ (∃ ms', (∀ s : Nat, s ≠ 1 → s ≠ 2 → ms' s = ms s) ∧ ¬ Eqv (GP (gP P gx)) xr (GP (gP P gy)) yr ∧ ∀ k, f_X3_alikeAt_L87 P gx gy a yn xn (ar (GP (gP P gy) yn 0)) k f n i ms1 = some (0, ms')) := by
  have har := ar_le (GP (gP P gy) yn 0)
  have x40 := gX.2
  have y40 := gY.2
  intro f
  induction f with
  | zero => intro n i ms1 h0 _ h2; omega
  | succ f ih =>
    intro n i ms1 h0 i0 i1 hf an hq hm he hA
    obtain ⟨h1, h2, h3, h4, h5, h6, h7, h8⟩ := id hA
    have hn := few (r := ms1 2) (n := n) (cnt := (gP P gy).1) (by have := gY.1.1; omega) (fun j j0 j1 => ⟨(h4 j j0 j1).1, (h4 j j0 j1).2.1⟩) h5
    have ra := h4 a a0 an
    rw [hq, hm] at ra
    by_cases hx : ar (GP (gP P gy) yn 0) ≤ i
    · refine Or.inl ⟨n, ms1, Int.le_refl n, hf, hA.next a0 (by rw [hq]; exact hx) (by rw [hq, hm]; exact he), fun k => ?_⟩
      simp (disch := omega) only [f_X3_alikeAt_L87, ↓ck1_of, ↓if_pos]
    · have q1 := partAt_of (h := gx) x40 ra.2.2.1 ra.2.2.2.1 (i := i) i0 (by omega)
      have q2 := partAt_of (h := gy) y40 ra.1 ra.2.1 (i := i) i0 (by omega)
      have rx := gX.node ra.2.2.1 ra.2.2.2.1
      have ry := gY.node ra.1 ra.2.1
      have px : 0 ≤ GP (gP P gx) xn (1 + i) ∧ GP (gP P gx) xn (1 + i) < (gP P gx).1 := two (Q := fun j => 0 ≤ GP (gP P gx) xn j ∧ GP (gP P gx) xn j < (gP P gx).1) ⟨rx.2.2.1, rx.2.2.2.1⟩ ⟨rx.2.2.2.2.1, rx.2.2.2.2.2⟩ i0 (by omega)
      have py : 0 ≤ GP (gP P gy) yn (1 + i) ∧ GP (gP P gy) yn (1 + i) < (gP P gy).1 := two (Q := fun j => 0 ≤ GP (gP P gy) yn j ∧ GP (gP P gy) yn j < (gP P gy).1) ⟨ry.2.2.1, ry.2.2.2.1⟩ ⟨ry.2.2.2.2.1, ry.2.2.2.2.2⟩ i0 (by omega)
      rcases h6 _ py.1 py.2 with c | ⟨p, p0, p1, p2⟩
      · have hlt : n < 40 := by
          have := few (r := aS (ms1 2) n (GP (gP P gy) yn (1 + i))) (n := n + 1) (cnt := (gP P gy).1) (by omega) (fun j j0 j1 => by
            by_cases e : j = n
            · rw [e, aS_eq]; exact py
            · rw [aS_ne _ _ e]; exact ⟨(h4 j j0 (by omega)).1, (h4 j j0 (by omega)).2.1⟩) (fun j k j0 j1 k0 k1 e => by
            have ne : ∀ k, 0 ≤ k → k < n → ms1 2 k ≠ GP (gP P gy) yn (1 + i) := fun k k0 k1 ek => by
              have := (h4 k k0 k1).2.2.1
              rw [ek, c] at this
              omega
            by_cases e1 : j = n
            · by_cases e2 : k = n
              · omega
              · rw [e1, aS_eq, aS_ne _ _ e2] at e
                exact absurd e.symm (ne k k0 (by omega))
            · by_cases e2 : k = n
              · rw [e2, aS_eq, aS_ne _ _ e1] at e
                exact absurd e (ne j j0 (by omega))
              · rw [aS_ne _ _ e1, aS_ne _ _ e2] at e
                exact h5 j k j0 (by omega) k0 (by omega) e)
          omega
        have hA' := hA.new (y := GP (gP P gy) yn (1 + i)) (x := GP (gP P gx) xn (1 + i)) a0 an (by rw [hq]) (by rw [hq, hm]) py.1 py.2 px.1 px.2 c i0 (by rw [hq]; omega) (by rw [hq, hm]; exact he)
        have yne : yn ≠ GP (gP P gy) yn (1 + i) := fun e => by
          rw [← e, hm] at c
          omega
        rcases ih (n + 1) (i + 1) (bS (bS ms1 1 (aS (ms1 1) (GP (gP P gy) yn (1 + i)) (GP (gP P gx) xn (1 + i)))) 2 (aS (ms1 2) n (GP (gP P gy) yn (1 + i)))) (by omega) (by omega) (by omega) (fun s s1 s2 => by rw [bS_ne _ _ s2, bS_ne _ _ s1]; exact hf s s1 s2) (by omega) (by rw [bS_eq, aS_ne _ _ (by omega)]; exact hq) (by rw [bS_ne _ _ (by decide), bS_eq, aS_ne _ _ yne]; exact hm) he (by rw [bS_eq, bS_ne _ _ (by decide), bS_eq]; exact hA') with ⟨n', ms', k0, k1, k2, k3⟩ | ⟨ms', k1, k2, k3⟩
        · refine Or.inl ⟨n', ms', by omega, k1, k2, fun k => ?_⟩
          simp (disch := omega) only [f_X3_alikeAt_L87, ↓ck1_of, ↓ckG_of, ↓ckA_of, ↓jn_eq, ↓if_neg, q1, q2, c, ↓bn_some]
          exact k3 k
        · refine Or.inr ⟨ms', k1, k2, fun k => ?_⟩
          simp (disch := omega) only [f_X3_alikeAt_L87, ↓ck1_of, ↓ckG_of, ↓ckA_of, ↓jn_eq, ↓if_neg, q1, q2, c, ↓bn_some]
          exact k3 k
      · have rp := h4 p p0 p1
        rw [p2] at rp
        by_cases d : ms1 1 (GP (gP P gy) yn (1 + i)) = GP (gP P gx) xn (1 + i)
        · rcases ih n (i + 1) ms1 (by omega) (by omega) (by omega) hf an hq hm he (hA.old p0 p1 (by rw [hq]; exact p2) (by rw [p2, hq, hm]; exact d)) with ⟨n', ms', k0, k1, k2, k3⟩ | ⟨ms', k1, k2, k3⟩
          · refine Or.inl ⟨n', ms', by omega, k1, k2, fun k => ?_⟩
            simp (disch := omega) only [f_X3_alikeAt_L87, ↓ck1_of, ↓ckG_of, ↓ckA_of, ↓jn_eq, ↓if_neg, ↓if_pos, q1, q2, ↓bn_some]
            exact k3 k
          · refine Or.inr ⟨ms', k1, k2, fun k => ?_⟩
            simp (disch := omega) only [f_X3_alikeAt_L87, ↓ck1_of, ↓ckG_of, ↓ckA_of, ↓jn_eq, ↓if_neg, ↓if_pos, q1, q2, ↓bn_some]
            exact k3 k
        · refine Or.inr ⟨ms1, hf, fun hE => ?_, fun k => ?_⟩
          · have e1 := rp.2.2.2.2 hE
            have e2 := (ra.2.2.2.2 hE).part (i := i) ⟨i0, by rw [he]; omega⟩
            exact d (gX.1.2.2.2.2.1 _ _ rp.2.2.1 rp.2.2.2.1 px.1 px.2 (e1.trans e2.symm))
          · simp (disch := omega) only [f_X3_alikeAt_L87, ↓ck1_of, ↓ckG_of, ↓ckA_of, ↓jn_eq, ↓if_neg, ↓if_pos, q1, q2, ↓bn_some]
theorem al_out {N : Nat} (hN : 4000 ≤ N) {P : PL} {gx gy xr yr : Int} {ms : Bd} (px0 : 0 ≤ gx) (px1 : gx < (P.length : Int)) (py0 : 0 ≤ gy) (py1 : gy < (P.length : Int)) (gX : GOK (gP P gx)) (gY : GOK (gP P gy)) : ∀ (f : Nat) (n a : Int) (ms1 : Bd), 40 - a < f → 0 ≤ a → a ≤ n → (∀ s : Nat, s ≠ 1 → s ≠ 2 → ms1 s = ms s) → AI (gP P gx) (gP P gy) xr yr (ms1 1) (ms1 2) n a 0 →
    (∃ ms', (∀ s : Nat, s ≠ 1 → s ≠ 2 → ms' s = ms s) ∧ Eqv (GP (gP P gx)) xr (GP (gP P gy)) yr ∧ ∀ k, f_X3_alikeAt_L34 N P gx gy k f n a ms1 = k ms') ∨ (∃ ms', (∀ s : Nat, s ≠ 1 → s ≠ 2 → ms' s = ms s) ∧ ¬ Eqv (GP (gP P gx)) xr (GP (gP P gy)) yr ∧ ∀ k, f_X3_alikeAt_L34 N P gx gy k f n a ms1 = some (0, ms')) := by
  have x40 := gX.2
  have y40 := gY.2
  intro f
  induction f with
  | zero =>
    intro n a ms1 h0 a0 an hf hA
    obtain ⟨h1, h2, h3, h4, h5, h6, h7, h8⟩ := id hA
    have hn := few (r := ms1 2) (n := n) (cnt := (gP P gy).1) (by have := gY.1.1; omega) (fun j j0 j1 => ⟨(h4 j j0 j1).1, (h4 j j0 j1).2.1⟩) h5
    omega
  | succ f ih =>
    intro n a ms1 h0 a0 an hf hA
    obtain ⟨h1, h2, h3, h4, h5, h6, h7, h8⟩ := id hA
    have hn := few (r := ms1 2) (n := n) (cnt := (gP P gy).1) (by have := gY.1.1; omega) (fun j j0 j1 => ⟨(h4 j j0 j1).1, (h4 j j0 j1).2.1⟩) h5
    by_cases hx : n ≤ a
    · refine Or.inl ⟨ms1, hf, hA.fin hx, fun k => ?_⟩
      simp (disch := omega) only [f_X3_alikeAt_L34, ↓ck1_of, ↓if_pos]
    · have ra := h4 a a0 (by omega)
      have q1 := headAt_of (h := gx) x40 ra.2.2.1 ra.2.2.2.1
      have q2 := headAt_of (h := gy) y40 ra.1 ra.2.1
      have q3 := partCount_of gY ra.1 ra.2.1
      have rx := gX.node ra.2.2.1 ra.2.2.2.1
      have ry := gY.node ra.1 ra.2.1
      by_cases c : GP (gP P gx) (ms1 1 (ms1 2 a)) 0 = GP (gP P gy) (ms1 2 a) 0
      · have har := ar_le (GP (gP P gy) (ms1 2 a) 0)
        rcases al_in (ms := ms) (xr := xr) (yr := yr) px0 px1 py0 py1 gX gY (a := a) (yn := ms1 2 a) (xn := ms1 1 (ms1 2 a)) a0 N n 0 ms1 (by omega) (by omega) (by omega) hf (by omega) rfl rfl c hA with ⟨n', ms', k0, k1, k2, k3⟩ | ⟨ms', k1, k2, k3⟩
        · have an' : a + 1 ≤ n' := by omega
          rcases ih n' (a + 1) ms' (by omega) (by omega) an' k1 k2 with ⟨ms2, l1, l2, l3⟩ | ⟨ms2, l1, l2, l3⟩
          · refine Or.inl ⟨ms2, l1, l2, fun k => ?_⟩
            simp (disch := omega) only [f_X3_alikeAt_L34, ↓ck1_of, ↓ckG_of, ↓ckA_of, ↓if_neg, ↓if_pos, q1, q2, q3, ↓bn_some, k3]
            exact l3 k
          · refine Or.inr ⟨ms2, l1, l2, fun k => ?_⟩
            simp (disch := omega) only [f_X3_alikeAt_L34, ↓ck1_of, ↓ckG_of, ↓ckA_of, ↓if_neg, ↓if_pos, q1, q2, q3, ↓bn_some, k3]
            exact l3 k
        · refine Or.inr ⟨ms', k1, k2, fun k => ?_⟩
          simp (disch := omega) only [f_X3_alikeAt_L34, ↓ck1_of, ↓ckG_of, ↓ckA_of, ↓if_neg, ↓if_pos, q1, q2, q3, ↓bn_some, k3]
      · refine Or.inr ⟨ms1, hf, fun hE => c (ra.2.2.2.2 hE).head, fun k => ?_⟩
        simp (disch := omega) only [f_X3_alikeAt_L34, ↓ck1_of, ↓ckG_of, ↓ckA_of, ↓if_neg, q1, q2, ↓bn_some]
theorem alikeAt_of {N : Nat} (hN : 4000 ≤ N) {P : PL} {gx gy xr yr : Int} {ms : Bd} (px0 : 0 ≤ gx) (px1 : gx < (P.length : Int)) (py0 : 0 ≤ gy) (py1 : gy < (P.length : Int)) (gX : GOK (gP P gx)) (gY : GOK (gP P gy)) (x0 : 0 ≤ xr) (x1 : xr < (gP P gx).1) (y0 : 0 ≤ yr) (y1 : yr < (gP P gy).1) : ∃ z ms', f_X3_alikeAt N ms P gx xr gy yr = some (z, ms') ∧ (∀ s : Nat, s ≠ 1 → s ≠ 2 → ms' s = ms s) ∧ ((z = 1 ∧ Eqv (GP (gP P gx)) xr (GP (gP P gy)) yr) ∨ (z = 0 ∧ ¬ Eqv (GP (gP P gx)) xr (GP (gP P gy)) yr)) := by
  have x40 := gX.2
  have y40 := gY.2
  obtain ⟨row, e1, e2, e3⟩ := fill_of (N := N) (row := ms 1) (ni := 40) (x1 := (gP P gy).1) (x2 := -1) (by omega) y40 (by omega) (by omega)
  have hA : AI (gP P gx) (gP P gy) xr yr (aS row yr xr) (aS (ms 2) 0 yr) 1 0 0 := by
    refine ⟨by omega, aS_eq _ _ _, aS_eq _ _ _, fun k k0 k1 => ?_, fun j k j0 j1 k0 k1 _ => by omega, fun v v0 v1 => ?_, fun k j k0 j0 j1 hk => by omega, fun k k0 k1 => by omega⟩
    · have : k = 0 := by omega
      subst this
      rw [aS_eq, aS_eq]
      exact ⟨y0, y1, x0, x1, fun h => h⟩
    · by_cases c : v = yr
      · right; exact ⟨0, by omega, by omega, by rw [aS_eq, c]⟩
      · left; rw [aS_ne _ _ c]; exact e2 v v0 v1
  unfold f_X3_alikeAt
  rcases al_out hN (ms := ms) px0 px1 py0 py1 gX gY N 1 0 (bS (bS ms 1 (aS row yr xr)) 2 (aS (ms 2) 0 yr)) (by omega) (by omega) (by omega) (fun s s1 s2 => by rw [bS_ne _ _ s2, bS_ne _ _ s1]) (by rw [bS_eq, bS_ne _ _ (by decide), bS_eq]; exact hA) with ⟨ms', k1, k2, k3⟩ | ⟨ms', k1, k2, k3⟩
  · refine ⟨1, ms', ?_, k1, Or.inl ⟨rfl, k2⟩⟩
    simp (disch := omega) only [e1, ↓bn_some, ↓ckG_of, ↓ckA_of, k3]
  · refine ⟨0, ms', ?_, k1, Or.inr ⟨rfl, k2⟩⟩
    simp (disch := omega) only [e1, ↓bn_some, ↓ckG_of, ↓ckA_of, k3]
theorem among_loop {N : Nat} (hN : 4000 ≤ N) {P : PL} {gx gy xr : Int} {ms : Bd} (px0 : 0 ≤ gx) (px1 : gx < (P.length : Int)) (py0 : 0 ≤ gy) (py1 : gy < (P.length : Int)) (gX : GOK (gP P gx)) (gY : GOK (gP P gy)) (x0 : 0 ≤ xr) (x1 : xr < (gP P gx).1) : ∀ (f : Nat) (i : Int) (ms1 : Bd), (gP P gy).1 - i < f → 0 ≤ i → i ≤ (gP P gy).1 → (∀ s : Nat, s ≠ 1 → s ≠ 2 → ms1 s = ms s) → (∀ j, 0 ≤ j → j < i → ¬ Eqv (GP (gP P gx)) xr (GP (gP P gy)) j) →
    (∃ ms', (∀ s : Nat, s ≠ 1 → s ≠ 2 → ms' s = ms s) ∧ (∀ j, 0 ≤ j → j < (gP P gy).1 → ¬ Eqv (GP (gP P gx)) xr (GP (gP P gy)) j) ∧ ∀ k, f_X3_isAmong_L3 N P gx xr gy k f i ms1 = k ms') ∨ (∃ ms', (∀ s : Nat, s ≠ 1 → s ≠ 2 → ms' s = ms s) ∧ (∃ j, 0 ≤ j ∧ j < (gP P gy).1 ∧ Eqv (GP (gP P gx)) xr (GP (gP P gy)) j) ∧ ∀ k, f_X3_isAmong_L3 N P gx xr gy k f i ms1 = some (1, ms')) := by
  have y40 := gY.2
  intro f
  induction f with
  | zero => intro i ms1 h0 _ h2; omega
  | succ f ih =>
    intro i ms1 h0 i0 i1 hf hn
    by_cases hx : (gP P gy).1 ≤ i
    · refine Or.inl ⟨ms1, hf, fun j j0 j1 => hn j j0 (by omega), fun k => ?_⟩
      simp (disch := omega) only [f_X3_isAmong_L3, ↓ck1_of, ↓ckG_of, ↓if_pos]
    · obtain ⟨z, ms2, e1, e2, e3⟩ := alikeAt_of hN (ms := ms1) px0 px1 py0 py1 gX gY x0 x1 i0 (show i < (gP P gy).1 by omega)
      rcases e3 with ⟨rfl, hE⟩ | ⟨rfl, hE⟩
      · refine Or.inr ⟨ms2, fun s s1 s2 => by rw [e2 s s1 s2]; exact hf s s1 s2, ⟨i, i0, by omega, hE⟩, fun k => ?_⟩
        simp (disch := omega) only [f_X3_isAmong_L3, ↓ck1_of, ↓ckG_of, ↓if_neg, e1, ↓bn_some]
      · rcases ih (i + 1) ms2 (by omega) (by omega) (by omega) (fun s s1 s2 => by rw [e2 s s1 s2]; exact hf s s1 s2) (fun j j0 j1 => by
          by_cases c : j = i
          · rw [c]; exact hE
          · exact hn j j0 (by omega)) with ⟨ms', k1, k2, k3⟩ | ⟨ms', k1, k2, k3⟩
        · refine Or.inl ⟨ms', k1, k2, fun k => ?_⟩
          simp (disch := omega) only [f_X3_isAmong_L3, ↓ck1_of, ↓ckG_of, ↓if_neg, ↓if_pos, e1, ↓bn_some]
          exact k3 k
        · refine Or.inr ⟨ms', k1, k2, fun k => ?_⟩
          simp (disch := omega) only [f_X3_isAmong_L3, ↓ck1_of, ↓ckG_of, ↓if_neg, ↓if_pos, e1, ↓bn_some]
          exact k3 k
/-- the place in the graph of one alike the other's root -/
def Plc (X Y : Gr) (v : Int) : Prop := (0 ≤ v ∧ v < X.1 ∧ Eqv (GP X) v (GP Y) 0) ∨ (v = -1 ∧ ∀ j, 0 ≤ j → j < X.1 → ¬ Eqv (GP X) j (GP Y) 0)
theorem place_loop {N : Nat} (hN : 4000 ≤ N) {P : PL} {gx gy : Int} {ms : Bd} (px0 : 0 ≤ gx) (px1 : gx < (P.length : Int)) (py0 : 0 ≤ gy) (py1 : gy < (P.length : Int)) (gX : GOK (gP P gx)) (gY : GOK (gP P gy)) : ∀ (f : Nat) (i : Int) (ms1 : Bd), (gP P gx).1 - i < f → 0 ≤ i → i ≤ (gP P gx).1 → (∀ s : Nat, s ≠ 1 → s ≠ 2 → ms1 s = ms s) → (∀ j, 0 ≤ j → j < i → ¬ Eqv (GP (gP P gx)) j (GP (gP P gy)) 0) →
    (∃ ms', (∀ s : Nat, s ≠ 1 → s ≠ 2 → ms' s = ms s) ∧ (∀ j, 0 ≤ j → j < (gP P gx).1 → ¬ Eqv (GP (gP P gx)) j (GP (gP P gy)) 0) ∧ ∀ k, f_X3_placeOf_L2 N P gx gy k f i ms1 = k ms') ∨ (∃ v ms', (∀ s : Nat, s ≠ 1 → s ≠ 2 → ms' s = ms s) ∧ (0 ≤ v ∧ v < (gP P gx).1 ∧ Eqv (GP (gP P gx)) v (GP (gP P gy)) 0) ∧ ∀ k, f_X3_placeOf_L2 N P gx gy k f i ms1 = some (v, ms')) := by
  have x40 := gX.2
  have y1 := gY.1.1
  intro f
  induction f with
  | zero => intro i ms1 h0 _ h2; omega
  | succ f ih =>
    intro i ms1 h0 i0 i1 hf hn
    by_cases hx : (gP P gx).1 ≤ i
    · refine Or.inl ⟨ms1, hf, fun j j0 j1 => hn j j0 (by omega), fun k => ?_⟩
      simp (disch := omega) only [f_X3_placeOf_L2, ↓ck1_of, ↓ckG_of, ↓if_pos]
    · obtain ⟨z, ms2, e1, e2, e3⟩ := alikeAt_of hN (ms := ms1) px0 px1 py0 py1 gX gY i0 (show i < (gP P gx).1 by omega) (Int.le_refl 0) (by omega)
      rcases e3 with ⟨rfl, hE⟩ | ⟨rfl, hE⟩
      · refine Or.inr ⟨i, ms2, fun s s1 s2 => by rw [e2 s s1 s2]; exact hf s s1 s2, ⟨i0, by omega, hE⟩, fun k => ?_⟩
        simp (disch := omega) only [f_X3_placeOf_L2, ↓ck1_of, ↓ckG_of, ↓if_neg, e1, ↓bn_some]
      · rcases ih (i + 1) ms2 (by omega) (by omega) (by omega) (fun s s1 s2 => by rw [e2 s s1 s2]; exact hf s s1 s2) (fun j j0 j1 => by
          by_cases c : j = i
          · rw [c]; exact hE
          · exact hn j j0 (by omega)) with ⟨ms', k1, k2, k3⟩ | ⟨v, ms', k1, k2, k3⟩
        · refine Or.inl ⟨ms', k1, k2, fun k => ?_⟩
          simp (disch := omega) only [f_X3_placeOf_L2, ↓ck1_of, ↓ckG_of, ↓if_neg, ↓if_pos, e1, ↓bn_some]
          exact k3 k
        · refine Or.inr ⟨v, ms', k1, k2, fun k => ?_⟩
          simp (disch := omega) only [f_X3_placeOf_L2, ↓ck1_of, ↓ckG_of, ↓if_neg, ↓if_pos, e1, ↓bn_some]
          exact k3 k
theorem placeOf_of {N : Nat} (hN : 4000 ≤ N) {P : PL} {gx gy : Int} {ms : Bd} (px0 : 0 ≤ gx) (px1 : gx < (P.length : Int)) (py0 : 0 ≤ gy) (py1 : gy < (P.length : Int)) (gX : GOK (gP P gx)) (gY : GOK (gP P gy)) : ∃ v ms', f_X3_placeOf N ms P gx gy = some (v, ms') ∧ (∀ s : Nat, s ≠ 1 → s ≠ 2 → ms' s = ms s) ∧ Plc (gP P gx) (gP P gy) v := by
  have x40 := gX.2
  have x1 := gX.1.1
  unfold f_X3_placeOf
  rcases place_loop hN (ms := ms) px0 px1 py0 py1 gX gY N 0 ms (by omega) (by omega) (by omega) (fun _ _ _ => rfl) (fun j j0 j1 => by omega) with ⟨ms', k1, k2, k3⟩ | ⟨v, ms', k1, k2, k3⟩
  · exact ⟨-1, ms', k3 _, k1, Or.inr ⟨rfl, k2⟩⟩
  · exact ⟨v, ms', k3 _, k1, Or.inl k2⟩
