/-! swap -/
theorem link_of {b : Bd} {u i x : Int} (u0 : 0 ≤ u) (u1 : u < 3280) (i0 : 0 ≤ i) (i1 : i < 2) (x0 : 0 ≤ x) (x1 : x < 3280) : ∃ b', f_X0_link b u i x = some b' ∧ (∀ s : Nat, s ≠ 1 → s ≠ 2 → b' s = b s) ∧ BG b' u (1 + i) = x ∧ ∀ v j, 0 ≤ j → j < 3 → (v ≠ u ∨ j ≠ 1 + i) → BG b' v j = BG b v j := by
  unfold f_X0_link
  by_cases c : i = 0
  · refine ⟨bS b 1 (aS (b 1) u x), ?_, fun s s1 s2 => bS_ne _ _ s1, ?_, fun v j j0 j1 h => ?_⟩
    · simp (disch := omega) only [holds0_of, ↓bn_some, ↓ck1_of, ↓ckA_of, ↓if_pos, ↓if_neg]
    · subst c
      unfold BG
      rw [if_neg (by omega), if_pos (by omega), bS_eq, aS_eq]
    · unfold BG
      by_cases e0 : j = 0
      · rw [if_pos e0, if_pos e0, bS_ne _ _ (by decide)]
      · rw [if_neg e0, if_neg e0]
        by_cases e1 : j = 1
        · rw [if_pos e1, if_pos e1, bS_eq, aS_ne _ _ (by omega)]
        · rw [if_neg e1, if_neg e1, bS_ne _ _ (by decide)]
  · refine ⟨bS b 2 (aS (b 2) u x), ?_, fun s s1 s2 => bS_ne _ _ s2, ?_, fun v j j0 j1 h => ?_⟩
    · simp (disch := omega) only [holds0_of, ↓bn_some, ↓ck1_of, ↓ckA_of, ↓if_pos, ↓if_neg]
    · unfold BG
      rw [if_neg (by omega), if_neg (by omega), bS_eq, aS_eq]
    · unfold BG
      by_cases e0 : j = 0
      · rw [if_pos e0, if_pos e0, bS_ne _ _ (by decide)]
      · rw [if_neg e0, if_neg e0]
        by_cases e1 : j = 1
        · rw [if_pos e1, if_pos e1, bS_ne _ _ (by decide)]
        · rw [if_neg e1, if_neg e1, bS_eq, aS_ne _ _ (by omega)]
def RB (X : Gr) (q o k i : Int) (b : Bd) : Prop := ∀ v, 0 ≤ v → v < X.1 → BG b v 0 = GP X v 0 ∧ ∀ j, 0 ≤ j → j < 2 → BG b v (1 + j) = if j < ar (GP X v 0) ∧ (v < k ∨ (v = k ∧ j < i)) ∧ GP X v (1 + j) = q then o else GP X v (1 + j)
theorem rB_in {P : PL} {b : Bd} {g q o : Int} (p0 : 0 ≤ g) (p1 : g < (P.length : Int)) (gg : GOK (gP P g)) (q0 : -1 ≤ q) (q1 : q < 40) (o0 : (gP P g).1 ≤ o) (o1 : o < 3280) {k0 : Int} (k00 : 0 ≤ k0) (k01 : k0 < (gP P g).1) : ∀ (f : Nat) (i : Int) (b1 : Bd), ar (GP (gP P g) k0 0) - i < f → 0 ≤ i → i ≤ ar (GP (gP P g) k0 0) → (∀ s : Nat, s ≠ 1 → s ≠ 2 → b1 s = b s) → RB (gP P g) q o k0 i b1 → (∀ v j, (gP P g).1 ≤ v → 0 ≤ j → j < 3 → BG b1 v j = BG b v j) →
    ∃ b', (∀ s : Nat, s ≠ 1 → s ≠ 2 → b' s = b s) ∧ RB (gP P g) q o (k0 + 1) 0 b' ∧ (∀ v j, (gP P g).1 ≤ v → 0 ≤ j → j < 3 → BG b' v j = BG b v j) ∧ ∀ k, f_X0_replaced_L40 P g q o k0 (ar (GP (gP P g) k0 0)) k f i b1 = k b' := by
  have har := ar_le (GP (gP P g) k0 0)
  have g40 := gg.2
  have r := gg.node k00 k01
  intro f
  induction f with
  | zero => intro i b1 h0 _ h2; omega
  | succ f ih =>
    intro i b1 h0 i0 i1 hf hR hO
    by_cases hx : ar (GP (gP P g) k0 0) ≤ i
    · refine ⟨b1, hf, fun v v0 v1 => ⟨(hR v v0 v1).1, fun j j0 j1 => ?_⟩, hO, fun k => ?_⟩
      · rw [(hR v v0 v1).2 j j0 j1]
        by_cases c : j < ar (GP (gP P g) v 0) ∧ (v < k0 ∨ (v = k0 ∧ j < i)) ∧ GP (gP P g) v (1 + j) = q
        · rw [if_pos c, if_pos ⟨c.1, by omega, c.2.2⟩]
        · rw [if_neg c]
          by_cases d : j < ar (GP (gP P g) v 0) ∧ (v < k0 + 1 ∨ (v = k0 + 1 ∧ j < 0)) ∧ GP (gP P g) v (1 + j) = q
          · exfalso
            refine c ⟨d.1, ?_, d.2.2⟩
            by_cases e : v = k0
            · have d1 := d.1
              rw [e] at d1
              omega
            · omega
          · rw [if_neg d]
      · simp (disch := omega) only [f_X0_replaced_L40, ↓ck1_of, ↓if_pos]
    · have q3 := partAt_of (h := g) g40 k00 k01 (i := i) i0 (by omega)
      have pr : 0 ≤ GP (gP P g) k0 (1 + i) ∧ GP (gP P g) k0 (1 + i) < (gP P g).1 := two (Q := fun j => 0 ≤ GP (gP P g) k0 j ∧ GP (gP P g) k0 j < (gP P g).1) ⟨r.2.2.1, r.2.2.2.1⟩ ⟨r.2.2.2.2.1, r.2.2.2.2.2⟩ i0 (by omega)
      by_cases c : GP (gP P g) k0 (1 + i) = q
      · obtain ⟨b2, a1, a2, a3, a4⟩ := link_of (b := b1) (u := k0) (i := i) (x := o) k00 (by omega) i0 (by omega) (by omega) o1
        obtain ⟨b', l1, l2, l3, l4⟩ := ih (i + 1) b2 (by omega) (by omega) (by omega) (fun s s1 s2 => by rw [a2 s s1 s2]; exact hf s s1 s2) (fun v v0 v1 => by
          refine ⟨by rw [a4 v 0 (by omega) (by omega) (by omega)]; exact (hR v v0 v1).1, fun j j0 j1 => ?_⟩
          by_cases e : v = k0 ∧ j = i
          · obtain ⟨rfl, rfl⟩ := e
            rw [a3, if_pos ⟨by omega, by omega, c⟩]
          · rw [a4 v (1 + j) (by omega) (by omega) (by omega), (hR v v0 v1).2 j j0 j1]
            by_cases d : j < ar (GP (gP P g) v 0) ∧ (v < k0 ∨ (v = k0 ∧ j < i)) ∧ GP (gP P g) v (1 + j) = q
            · rw [if_pos d, if_pos ⟨d.1, by omega, d.2.2⟩]
            · rw [if_neg d, if_neg (fun h => d ⟨h.1, by omega, h.2.2⟩)]) (fun v j hv j0 j1 => by rw [a4 v j j0 j1 (by omega)]; exact hO v j hv j0 j1)
        refine ⟨b', l1, l2, l3, fun k => ?_⟩
        simp (disch := omega) only [f_X0_replaced_L40, ↓ck1_of, ↓ckG_of, ↓if_neg, q3, ↓bn_some, a1]
        exact l4 k
      · obtain ⟨b', l1, l2, l3, l4⟩ := ih (i + 1) b1 (by omega) (by omega) (by omega) hf (fun v v0 v1 => by
          refine ⟨(hR v v0 v1).1, fun j j0 j1 => ?_⟩
          rw [(hR v v0 v1).2 j j0 j1]
          by_cases d : j < ar (GP (gP P g) v 0) ∧ (v < k0 ∨ (v = k0 ∧ j < i)) ∧ GP (gP P g) v (1 + j) = q
          · rw [if_pos d, if_pos ⟨d.1, by omega, d.2.2⟩]
          · rw [if_neg d, if_neg (fun h => ?_)]
            by_cases e : v = k0 ∧ j = i
            · obtain ⟨rfl, rfl⟩ := e
              exact c h.2.2
            · exact d ⟨h.1, by omega, h.2.2⟩) hO
        refine ⟨b', l1, l2, l3, fun k => ?_⟩
        simp (disch := omega) only [f_X0_replaced_L40, ↓ck1_of, ↓ckG_of, ↓if_neg, ↓if_pos, q3, ↓bn_some]
        exact l4 k
theorem rB_out {N : Nat} (hN : 4000 ≤ N) {P : PL} {b : Bd} {g q o : Int} (p0 : 0 ≤ g) (p1 : g < (P.length : Int)) (gg : GOK (gP P g)) (q0 : -1 ≤ q) (q1 : q < 40) (o0 : (gP P g).1 ≤ o) (o1 : o < 3280) : ∀ (f : Nat) (k0 : Int) (b1 : Bd), (gP P g).1 - k0 < f → 0 ≤ k0 → k0 ≤ (gP P g).1 → (∀ s : Nat, s ≠ 1 → s ≠ 2 → b1 s = b s) → RB (gP P g) q o k0 0 b1 → (∀ v j, (gP P g).1 ≤ v → 0 ≤ j → j < 3 → BG b1 v j = BG b v j) →
    ∃ b', (∀ s : Nat, s ≠ 1 → s ≠ 2 → b' s = b s) ∧ RB (gP P g) q o (gP P g).1 0 b' ∧ (∀ v j, (gP P g).1 ≤ v → 0 ≤ j → j < 3 → BG b' v j = BG b v j) ∧ ∀ k, f_X0_replaced_L20 N P g q o k f k0 b1 = k b' := by
  have g40 := gg.2
  intro f
  induction f with
  | zero => intro i b1 h0 _ h2; omega
  | succ f ih =>
    intro k0 b1 h0 k00 k01 hf hR hO
    by_cases hx : (gP P g).1 ≤ k0
    · have e : k0 = (gP P g).1 := by omega
      refine ⟨b1, hf, by rw [← e]; exact hR, hO, fun k => ?_⟩
      simp (disch := omega) only [f_X0_replaced_L20, ↓ckG_of, ↓ck1_of, ↓if_pos]
    · have har := ar_le (GP (gP P g) k0 0)
      have q3 := partCount_of gg k00 (show k0 < (gP P g).1 by omega)
      obtain ⟨b2, a1, a2, a3, a4⟩ := rB_in p0 p1 gg q0 q1 o0 o1 k00 (show k0 < (gP P g).1 by omega) N 0 b1 (by omega) (by omega) (by omega) hf hR hO
      obtain ⟨b', l1, l2, l3, l4⟩ := ih (k0 + 1) b2 (by omega) (by omega) (by omega) a1 a2 a3
      refine ⟨b', l1, l2, l3, fun k => ?_⟩
      simp (disch := omega) only [f_X0_replaced_L20, ↓ckG_of, ↓ck1_of, ↓if_neg, q3, ↓bn_some, a4]
      exact l4 k
/-- parts that are q become o -/
def sp (X : Gr) (q o v j : Int) : Int := if j < ar (GP X v 0) ∧ GP X v (1 + j) = q then o else GP X v (1 + j)
theorem swM_loop {P : PL} {m : Bd} {g g' p o : Int} (gg : GOK (gP P g)) (gg' : GOK (gP P g')) (h13 : ∀ k, 0 ≤ k → k < (gP P g).1 + (gP P g').1 → 0 ≤ m 13 k ∧ m 13 k < 81) (hd : ∀ i, 0 ≤ i → i < (gP P g).1 → (m 13 i = m 13 (gP P g).1 ↔ p = i)) (o0 : 0 ≤ o) (o1 : o < 3400) (x4 : Int) : ∀ (f : Nat) (i : Int) (m1 : Bd), (gP P g).1 - i < f → 0 ≤ i → i ≤ (gP P g).1 → (∀ s : Nat, s ≠ 9 → m1 s = m s) → (∀ v, 0 ≤ v → v < i → PW (m1 9 v) ∧ MG (m1 9) v 0 = GP (gP P g) v 0 ∧ MG (m1 9) v 1 = sp (gP P g) p o v 0 ∧ MG (m1 9) v 2 = sp (gP P g) p o v 1) → (∀ v, i ≤ v → v < (gP P g).1 → PW (m1 9 v) ∧ MG (m1 9) v 0 = GP (gP P g) v 0 ∧ MG (m1 9) v 1 = GP (gP P g) v 1 ∧ MG (m1 9) v 2 = GP (gP P g) v 2) → (∀ v, (gP P g).1 ≤ v → m1 9 v = m 9 v) →
    ∃ m', (∀ s : Nat, s ≠ 9 → m' s = m s) ∧ (∀ v, 0 ≤ v → v < (gP P g).1 → PW (m' 9 v) ∧ MG (m' 9) v 0 = GP (gP P g) v 0 ∧ MG (m' 9) v 1 = sp (gP P g) p o v 0 ∧ MG (m' 9) v 2 = sp (gP P g) p o v 1) ∧ (∀ v, (gP P g).1 ≤ v → m' 9 v = m 9 v) ∧ ∀ k, f_X6_swap_L66 x4 (gP P g).1 (m 13 (gP P g).1) o k f i m1 = k m' := by
  have g40 := gg.2
  have g40' := gg'.2
  have g1' := gg'.1.1
  have due := h13 (gP P g).1 (by have := gg.1.1; omega) (by omega)
  intro f
  induction f with
  | zero => intro i m1 h0 _ h2; omega
  | succ f ih =>
    intro i m1 h0 i0 i1 hf hD hT hO
    by_cases hx : (gP P g).1 ≤ i
    · have e : i = (gP P g).1 := by omega
      refine ⟨m1, hf, by rw [← e]; exact hD, hO, fun k => ?_⟩
      simp (disch := omega) only [f_X6_swap_L66, ↓ck1_of, ↓if_pos]
    · have d := hT i (by omega) (by omega)
      have r := gg.node i0 (v := i) (by omega)
      have har := ar_le (GP (gP P g) i 0)
      have e13 : m1 13 = m 13 := hf 13 (by decide)
      have q1 := headOf_of d.1
      have q2 := partOf_of d.1 (i := 0) (by omega) (by omega)
      have q3 := partOf_of d.1 (i := 1) (by omega) (by omega)
      rw [show (1 : Int) + 0 = 1 from rfl] at q2
      rw [show (1 : Int) + 1 = 2 from rfl] at q3
      rw [d.2.1] at q1
      rw [d.2.2.1] at q2
      rw [d.2.2.2] at q3
      have q4 := parts_ar (h := GP (gP P g) i 0) (by omega) (by omega)
      have c1 := hd (GP (gP P g) i 1) r.2.2.1 r.2.2.2.1
      have c2 := hd (GP (gP P g) i 2) r.2.2.2.2.1 r.2.2.2.2.2
      have r1 := h13 (GP (gP P g) i 1) r.2.2.1 (by omega)
      have r2 := h13 (GP (gP P g) i 2) r.2.2.2.2.1 (by omega)
      have go : ∀ w1 w2, w1 = sp (gP P g) p o i 0 → w2 = sp (gP P g) p o i 1 → 0 ≤ w1 → w1 < 4096 → 0 ≤ w2 → w2 < 4096 → ∃ m', (∀ s : Nat, s ≠ 9 → m' s = m s) ∧ (∀ v, 0 ≤ v → v < (gP P g).1 → PW (m' 9 v) ∧ MG (m' 9) v 0 = GP (gP P g) v 0 ∧ MG (m' 9) v 1 = sp (gP P g) p o v 0 ∧ MG (m' 9) v 2 = sp (gP P g) p o v 1) ∧ (∀ v, (gP P g).1 ≤ v → m' 9 v = m 9 v) ∧ ∀ k, f_X6_swap_L66 x4 (gP P g).1 (m 13 (gP P g).1) o k f (i + 1) (bS m1 9 (aS (m1 9) i (pk (GP (gP P g) i 0) w1 w2))) = k m' := by
        intro w1 w2 e1 e2 a0 a1 b0 b1
        have nw := MG_pk (w := aS (m1 9) i (pk (GP (gP P g) i 0) w1 w2)) (v := i) (aS_eq _ _ _) (by omega) (by omega) a0 a1 b0 b1
        refine ih (i + 1) _ (by omega) (by omega) (by omega) (fun s hs => by rw [bS_ne _ _ hs]; exact hf s hs) (fun v v0 v1 => ?_) (fun v v0 v1 => ?_) (fun v hv => ?_)
        · rw [bS_eq]
          by_cases e : v = i
          · subst e
            rw [← e1, ← e2]; exact nw
          · have e9 : aS (m1 9) i (pk (GP (gP P g) i 0) w1 w2) v = m1 9 v := aS_ne _ _ e
            rw [e9, MG_same e9, MG_same e9, MG_same e9]
            exact hD v v0 (by omega)
        · rw [bS_eq]
          have e9 : aS (m1 9) i (pk (GP (gP P g) i 0) w1 w2) v = m1 9 v := aS_ne _ _ (by omega)
          rw [e9, MG_same e9, MG_same e9, MG_same e9]
          exact hT v (by omega) v1
        · rw [bS_eq, aS_ne _ _ (by omega)]; exact hO v hv
      have s0 : sp (gP P g) p o i 0 = if 0 < ar (GP (gP P g) i 0) ∧ GP (gP P g) i 1 = p then o else GP (gP P g) i 1 := rfl
      have s1 : sp (gP P g) p o i 1 = if 1 < ar (GP (gP P g) i 0) ∧ GP (gP P g) i 2 = p then o else GP (gP P g) i 2 := rfl
      by_cases a0 : ar (GP (gP P g) i 0) ≤ 0
      · rw [if_neg (by omega)] at s0 s1
        obtain ⟨m', k1, k2, k3, k4⟩ := go _ _ s0.symm s1.symm (by omega) (by omega) (by omega) (by omega)
        have e := pk_node (h := GP (gP P g) i 0) (a := GP (gP P g) i 1) (b := GP (gP P g) i 2) (by omega) (by omega) (by omega) (by omega) (by omega) (by omega)
        refine ⟨m', k1, k2, k3, fun k => ?_⟩
        rw [f_X6_swap_L66, ck1_of (by omega) (by omega), ck1_of (by omega) (by omega), if_neg hx, ckA_of i0 (by omega), q2, bn_some, q3, bn_some, q1, bn_some, q4, bn_some, jn_eq, ck1_of (by omega) (by omega), if_pos a0]
        try dsimp only
        rw [bn_some, q4, bn_some, jn_eq, ck1_of (by omega) (by omega), if_pos (show ar (GP (gP P g) i 0) ≤ 1 by omega)]
        try dsimp only
        rw [bn_some, jn_eq, jn_eq, ck1_of (by omega) (by omega), if_pos rfl]
        try dsimp only
        rw [jn_eq, jn_eq, ck1_of (by omega) (by omega), if_pos rfl]
        try dsimp only
        rw [e, bn_some]
        exact k4 k
      · by_cases d1 : GP (gP P g) i 1 = p
        · rw [if_pos ⟨by omega, d1⟩] at s0
          have c1x := c1.mpr d1.symm
          by_cases a1 : ar (GP (gP P g) i 0) ≤ 1
          · rw [if_neg (by omega)] at s1
            obtain ⟨m', k1, k2, k3, k4⟩ := go _ _ s0.symm s1.symm (by omega) (by omega) (by omega) (by omega)
            have e := pk_node (h := GP (gP P g) i 0) (a := o) (b := GP (gP P g) i 2) (by omega) (by omega) (by omega) (by omega) (by omega) (by omega)
            refine ⟨m', k1, k2, k3, fun k => ?_⟩
            rw [f_X6_swap_L66, ck1_of (by omega) (by omega), ck1_of (by omega) (by omega), if_neg hx, ckA_of i0 (by omega), q2, bn_some, q3, bn_some, q1, bn_some, q4, bn_some, jn_eq, ck1_of (by omega) (by omega), if_neg a0]
            try dsimp only
            rw [bn_some, q4, bn_some, jn_eq, ck1_of (by omega) (by omega), if_pos (show ar (GP (gP P g) i 0) ≤ 1 by omega)]
            try dsimp only
            rw [bn_some, jn_eq, jn_eq, ck1_of (by omega) (by omega), if_neg (by decide), ckA_of r.2.2.1 (by omega), e13, ck1_of (by omega) (by omega), ck1_of (by omega) (by omega), if_neg (fun h => h c1x)]
            try dsimp only
            rw [jn_eq, jn_eq, ck1_of (by omega) (by omega), if_pos rfl]
            try dsimp only
            rw [e, bn_some]
            exact k4 k
          · by_cases d2 : GP (gP P g) i 2 = p
            · rw [if_pos ⟨by omega, d2⟩] at s1
              have c2x := c2.mpr d2.symm
              obtain ⟨m', k1, k2, k3, k4⟩ := go _ _ s0.symm s1.symm (by omega) (by omega) (by omega) (by omega)
              have e := pk_node (h := GP (gP P g) i 0) (a := o) (b := o) (by omega) (by omega) (by omega) (by omega) (by omega) (by omega)
              refine ⟨m', k1, k2, k3, fun k => ?_⟩
              rw [f_X6_swap_L66, ck1_of (by omega) (by omega), ck1_of (by omega) (by omega), if_neg hx, ckA_of i0 (by omega), q2, bn_some, q3, bn_some, q1, bn_some, q4, bn_some, jn_eq, ck1_of (by omega) (by omega), if_neg a0]
              try dsimp only
              rw [bn_some, q4, bn_some, jn_eq, ck1_of (by omega) (by omega), if_neg (show ¬ ar (GP (gP P g) i 0) ≤ 1 by omega)]
              try dsimp only
              rw [bn_some, jn_eq, jn_eq, ck1_of (by omega) (by omega), if_neg (by decide), ckA_of r.2.2.1 (by omega), e13, ck1_of (by omega) (by omega), ck1_of (by omega) (by omega), if_neg (fun h => h c1x)]
              try dsimp only
              rw [jn_eq, jn_eq, ck1_of (by omega) (by omega), if_neg (by decide), ckA_of r.2.2.2.2.1 (by omega), ck1_of (by omega) (by omega), ck1_of (by omega) (by omega), if_neg (fun h => h c2x)]
              try dsimp only
              rw [e, bn_some]
              exact k4 k
            · rw [if_neg (by omega)] at s1
              have c2x : m 13 (GP (gP P g) i 2) ≠ m 13 (gP P g).1 := fun h => d2 (c2.mp h).symm
              obtain ⟨m', k1, k2, k3, k4⟩ := go _ _ s0.symm s1.symm (by omega) (by omega) (by omega) (by omega)
              have e := pk_node (h := GP (gP P g) i 0) (a := o) (b := GP (gP P g) i 2) (by omega) (by omega) (by omega) (by omega) (by omega) (by omega)
              refine ⟨m', k1, k2, k3, fun k => ?_⟩
              rw [f_X6_swap_L66, ck1_of (by omega) (by omega), ck1_of (by omega) (by omega), if_neg hx, ckA_of i0 (by omega), q2, bn_some, q3, bn_some, q1, bn_some, q4, bn_some, jn_eq, ck1_of (by omega) (by omega), if_neg a0]
              try dsimp only
              rw [bn_some, q4, bn_some, jn_eq, ck1_of (by omega) (by omega), if_neg (show ¬ ar (GP (gP P g) i 0) ≤ 1 by omega)]
              try dsimp only
              rw [bn_some, jn_eq, jn_eq, ck1_of (by omega) (by omega), if_neg (by decide), ckA_of r.2.2.1 (by omega), e13, ck1_of (by omega) (by omega), ck1_of (by omega) (by omega), if_neg (fun h => h c1x)]
              try dsimp only
              rw [jn_eq, jn_eq, ck1_of (by omega) (by omega), if_neg (by decide), ckA_of r.2.2.2.2.1 (by omega), ck1_of (by omega) (by omega), ck1_of (by omega) (by omega), if_pos c2x]
              try dsimp only
              rw [e, bn_some]
              exact k4 k
        · rw [if_neg (by omega)] at s0
          have c1x : m 13 (GP (gP P g) i 1) ≠ m 13 (gP P g).1 := fun h => d1 (c1.mp h).symm
          by_cases a1 : ar (GP (gP P g) i 0) ≤ 1
          · rw [if_neg (by omega)] at s1
            obtain ⟨m', k1, k2, k3, k4⟩ := go _ _ s0.symm s1.symm (by omega) (by omega) (by omega) (by omega)
            have e := pk_node (h := GP (gP P g) i 0) (a := GP (gP P g) i 1) (b := GP (gP P g) i 2) (by omega) (by omega) (by omega) (by omega) (by omega) (by omega)
            refine ⟨m', k1, k2, k3, fun k => ?_⟩
            rw [f_X6_swap_L66, ck1_of (by omega) (by omega), ck1_of (by omega) (by omega), if_neg hx, ckA_of i0 (by omega), q2, bn_some, q3, bn_some, q1, bn_some, q4, bn_some, jn_eq, ck1_of (by omega) (by omega), if_neg a0]
            try dsimp only
            rw [bn_some, q4, bn_some, jn_eq, ck1_of (by omega) (by omega), if_pos (show ar (GP (gP P g) i 0) ≤ 1 by omega)]
            try dsimp only
            rw [bn_some, jn_eq, jn_eq, ck1_of (by omega) (by omega), if_neg (by decide), ckA_of r.2.2.1 (by omega), e13, ck1_of (by omega) (by omega), ck1_of (by omega) (by omega), if_pos c1x]
            try dsimp only
            rw [jn_eq, jn_eq, ck1_of (by omega) (by omega), if_pos rfl]
            try dsimp only
            rw [e, bn_some]
            exact k4 k
          · by_cases d2 : GP (gP P g) i 2 = p
            · rw [if_pos ⟨by omega, d2⟩] at s1
              have c2x := c2.mpr d2.symm
              obtain ⟨m', k1, k2, k3, k4⟩ := go _ _ s0.symm s1.symm (by omega) (by omega) (by omega) (by omega)
              have e := pk_node (h := GP (gP P g) i 0) (a := GP (gP P g) i 1) (b := o) (by omega) (by omega) (by omega) (by omega) (by omega) (by omega)
              refine ⟨m', k1, k2, k3, fun k => ?_⟩
              rw [f_X6_swap_L66, ck1_of (by omega) (by omega), ck1_of (by omega) (by omega), if_neg hx, ckA_of i0 (by omega), q2, bn_some, q3, bn_some, q1, bn_some, q4, bn_some, jn_eq, ck1_of (by omega) (by omega), if_neg a0]
              try dsimp only
              rw [bn_some, q4, bn_some, jn_eq, ck1_of (by omega) (by omega), if_neg (show ¬ ar (GP (gP P g) i 0) ≤ 1 by omega)]
              try dsimp only
              rw [bn_some, jn_eq, jn_eq, ck1_of (by omega) (by omega), if_neg (by decide), ckA_of r.2.2.1 (by omega), e13, ck1_of (by omega) (by omega), ck1_of (by omega) (by omega), if_pos c1x]
              try dsimp only
              rw [jn_eq, jn_eq, ck1_of (by omega) (by omega), if_neg (by decide), ckA_of r.2.2.2.2.1 (by omega), ck1_of (by omega) (by omega), ck1_of (by omega) (by omega), if_neg (fun h => h c2x)]
              try dsimp only
              rw [e, bn_some]
              exact k4 k
            · rw [if_neg (by omega)] at s1
              have c2x : m 13 (GP (gP P g) i 2) ≠ m 13 (gP P g).1 := fun h => d2 (c2.mp h).symm
              obtain ⟨m', k1, k2, k3, k4⟩ := go _ _ s0.symm s1.symm (by omega) (by omega) (by omega) (by omega)
              have e := pk_node (h := GP (gP P g) i 0) (a := GP (gP P g) i 1) (b := GP (gP P g) i 2) (by omega) (by omega) (by omega) (by omega) (by omega) (by omega)
              refine ⟨m', k1, k2, k3, fun k => ?_⟩
              rw [f_X6_swap_L66, ck1_of (by omega) (by omega), ck1_of (by omega) (by omega), if_neg hx, ckA_of i0 (by omega), q2, bn_some, q3, bn_some, q1, bn_some, q4, bn_some, jn_eq, ck1_of (by omega) (by omega), if_neg a0]
              try dsimp only
              rw [bn_some, q4, bn_some, jn_eq, ck1_of (by omega) (by omega), if_neg (show ¬ ar (GP (gP P g) i 0) ≤ 1 by omega)]
              try dsimp only
              rw [bn_some, jn_eq, jn_eq, ck1_of (by omega) (by omega), if_neg (by decide), ckA_of r.2.2.1 (by omega), e13, ck1_of (by omega) (by omega), ck1_of (by omega) (by omega), if_pos c1x]
              try dsimp only
              rw [jn_eq, jn_eq, ck1_of (by omega) (by omega), if_neg (by decide), ckA_of r.2.2.2.2.1 (by omega), ck1_of (by omega) (by omega), ck1_of (by omega) (by omega), if_pos c2x]
              try dsimp only
              rw [e, bn_some]
              exact k4 k
/-- as Step2, with a bench of its own beside -/
def Step2m (T : Int) (p : Option (Int × Bd × Bd × Bd × PL)) (q : Option (Int × Bd)) : Prop := ∃ v lt' b' x' P' m', p = some (v, lt', b', x', P') ∧ q = some (v, m') ∧ inR v ∧ RR (T + 1) lt' b' m' P'
theorem bad2m {T : Int} {lt b m x : Bd} {P : PL} (h : RR T lt b m P) : Step2m T (bn (f_X5_refuseBad lt) fun q => some (q.1, q.2, b, x, P)) (bn (f_X6_refuses m (-2)) fun q => some (q.1, q.2)) := by
  obtain ⟨lt', m', e1, e2, r⟩ := refBad h
  rw [e1, e2, bn_some, bn_some]
  exact ⟨-2, lt', b, x, P, m', rfl, rfl, by decide, r⟩
theorem swap_step {N : Nat} (hN : 4000 ≤ N) {T : Int} {lt b m ms : Bd} {P : PL} (h : RR T lt b m P) {x y z t : Int} (hx : inR x) (hy : inR y) (hz : inR z) (ht : inR t) : Step2m T (f_X5_swap N lt b ms P x y z t) (f_X6_swap N m x y z t) := by
  unfold f_X5_swap f_X6_swap
  have gany : ∀ w, inR w → ∃ g, f_X5_graphOf lt w = some g := fun w hw => by
    rcases nm_of h.2.2.2.1 h.2.2.2.2.2.1 hw with ⟨e1, e2⟩ | ⟨g, e1, e2, n⟩ <;> exact ⟨_, e1⟩
  obtain ⟨gy, ey⟩ := gany y hy
  obtain ⟨gz, ez⟩ := gany z hz
  rcases nm_of h.2.2.2.1 h.2.2.2.2.2.1 hx with ⟨e1, e2⟩ | ⟨g, e1, e2, n⟩
  · simp (disch := omega) only [e1, e2, ey, ez, ↓bn_some, ↓jn_eq, ↓ck1_of, ↓if_pos]
    exact bad2m h
  · obtain ⟨a0, a1, p0, p1, gg, -, -⟩ := id n
    clear ey gy
    rcases nm_of h.2.2.2.1 h.2.2.2.2.2.1 hy with ⟨e3, e4⟩ | ⟨g', e3, e4, n'⟩
    · simp (disch := omega) only [e1, e2, e3, e4, ez, ↓bn_some, ↓jn_eq, ↓ck1_of, ↓if_pos, ↓if_neg]
      exact bad2m h
    · obtain ⟨a0', a1', p0', p1', gg', -, -⟩ := id n'
      clear ez gz
      rcases nm_of h.2.2.2.1 h.2.2.2.2.2.1 hz with ⟨e5, e6⟩ | ⟨g3, e5, e6, n3⟩
      · simp (disch := omega) only [e1, e2, e3, e4, e5, e6, ↓bn_some, ↓jn_eq, ↓ck1_of, ↓if_pos, ↓if_neg]
        exact bad2m h
      · obtain ⟨a03, a13, p03, p13, gg3, -, -⟩ := id n3
        rcases names_of ht with ⟨t0, t1, e7, e8⟩ | ⟨_, e7, e8⟩
        · have s := n.sz
          have s' := n'.sz
          have s3 := n3.sz
          obtain ⟨m1, k1, k2, k3⟩ := apart_of hN n n'
          obtain ⟨p, ms1, l1, l2, l3⟩ := placeOf_of hN (ms := ms) p0 p1 p0' p1' gg gg'
          have hdue : ∀ i, 0 ≤ i → i < (gP P g).1 → (m1 13 i = m1 13 (gP P g).1 ↔ p = i) := fun i i0 i1 => k3.due gg s'.1 l3 i0 i1
          have pr : -1 ≤ p ∧ p < 40 := by rcases l3 with ⟨q0, q1, q2⟩ | ⟨q0, q1⟩ <;> omega
          obtain ⟨m2, u1, u2, u3, u4, u5⟩ := loads_of hN (m := m1) (n3.frame (k2 0 (by decide)) (k2 1 (by decide))) k3.1 (by omega) (by omega)
          have e13 : m2 13 = m1 13 := u2 13 (by decide) (by decide)
          have hC := k3.2.1
          obtain ⟨m3, v1, v2, v3, v4⟩ := swM_loop (m := m2) (p := p) (o := (gP P g).1 + (gP P g').1) gg gg' (by rw [e13]; exact k3.2.2.2.1) (by rw [e13]; exact hdue) (by omega) (by omega) t N 0 m2 (by omega) (by omega) (by omega) (fun _ _ => rfl) (fun v v0 v1 => by omega) (fun v v0 v1 => by
            have c := hC v v0 v1
            rw [show 0 + v = v by omega, Int.zero_add, Int.zero_add] at c
            have e9 := u5 v (by omega)
            rw [e9, MG_same e9, MG_same e9, MG_same e9]
            exact c) (fun _ _ => rfl)
          obtain ⟨b1, f1, f2, f3, f4, f5⟩ := putAll_of hN (b := bs0 b 3 0) p0 p1 gg (bs0_eq _ _ _ _) (by omega) (by omega)
          obtain ⟨b2, h1, h2, h3, h4, h5⟩ := putAll_of hN (b := b1) (cnt := (gP P g).1) p03 p13 gg3 (by omega) (by omega) (by omega)
          obtain ⟨b3, r1, r2, r3, r4⟩ := rB_out hN (b := b2) (q := p) (o := (gP P g).1) p0 p1 gg pr.1 pr.2 (Int.le_refl _) (by omega) N 0 b2 (by omega) (by omega) (by omega) (fun _ _ _ => rfl) (fun v v0 v1 => by
            have c := f4 v v0 v1
            rw [show 0 + v = v by omega, Int.zero_add, Int.zero_add] at c
            refine ⟨by rw [h5 v 0 (by omega)]; exact c.1, fun j j0 j1 => ?_⟩
            rw [if_neg (by omega), h5 v _ (by omega)]
            exact two (Q := fun j => BG b1 v j = GP (gP P g) v j) c.2.1 c.2.2 j0 j1) (fun _ _ _ _ _ => rfl)
          have C3 : CB b3 (gP P g).1 (gP P g3) (gP P g3).1 := by
            intro v v0 v1
            rw [r3 _ 0 (by omega) (by omega) (by omega), r3 _ 1 (by omega) (by omega) (by omega), r3 _ 2 (by omega) (by omega) (by omega)]
            exact h4 v v0 v1
          have D3 : CM (m3 9) ((gP P g).1 + (gP P g').1) (gP P g3) (gP P g3).1 := u4.cong (fun v v0 v1 => v3 v (by omega))
          have bz : ∀ v, 0 ≤ v → v < (gP P g).1 → BG b3 v 0 = GP (gP P g) v 0 ∧ ∀ j, 0 ≤ j → j < ar (GP (gP P g) v 0) → BG b3 v (1 + j) = if GP (gP P g) v (1 + j) = p then (gP P g).1 else GP (gP P g) v (1 + j) := by
            intro v v0 v1
            have har := ar_le (GP (gP P g) v 0)
            refine ⟨(r2 v v0 v1).1, fun j j0 j1 => ?_⟩
            rw [(r2 v v0 v1).2 j j0 (by omega)]
            by_cases c : GP (gP P g) v (1 + j) = p
            · rw [if_pos ⟨j1, by omega, c⟩, if_pos c]
            · rw [if_neg (fun h => c h.2.2), if_neg c]
          have mz : ∀ v, 0 ≤ v → v < (gP P g).1 → MG (m3 9) v 0 = GP (gP P g) v 0 ∧ ∀ j, 0 ≤ j → j < ar (GP (gP P g) v 0) → MG (m3 9) v (1 + j) = if GP (gP P g) v (1 + j) = p then (gP P g).1 + (gP P g').1 else GP (gP P g) v (1 + j) := by
            intro v v0 v1
            have har := ar_le (GP (gP P g) v 0)
            have q := v2 v v0 v1
            refine ⟨q.2.1, fun j j0 j1 => ?_⟩
            have e : MG (m3 9) v (1 + j) = sp (gP P g) p ((gP P g).1 + (gP P g').1) v j := by
              by_cases c : j = 0
              · subst c; exact q.2.2.1
              · have : j = 1 := by omega
                subst this; exact q.2.2.2
            rw [e]
            unfold sp
            by_cases c : GP (gP P g) v (1 + j) = p
            · rw [if_pos ⟨j1, c⟩, if_pos c]
            · rw [if_neg (fun h => c h.2), if_neg c]
          have hW : WG (BG b3) ((gP P g).1 + (gP P g3).1) := by
            intro v v0 v1
            have har := ar_le (BG b3 v 0)
            by_cases c : v < (gP P g).1
            · have q := bz v v0 c
              have r := n.rng v0 c
              refine ⟨by omega, by omega, fun i i0 i1 => ?_⟩
              rw [q.1] at i1 har
              rw [q.2 i i0 i1]
              have pp := n.prt v0 c i0 (by omega)
              by_cases d : GP (gP P g) v (1 + i) = p
              · rw [if_pos d]; omega
              · rw [if_neg d]; omega
            · have r := C3.rng gg3 (v := v) (by omega) (by omega)
              exact ⟨r.1, r.2.1, fun i i0 i1 => two (Q := fun j => 0 ≤ BG b3 v j ∧ BG b3 v j < (gP P g).1 + (gP P g3).1) (by omega) (by omega) i0 (by omega)⟩
          have hS : MS m3 (fun v => (0 ≤ v ∧ v < (gP P g).1) ∨ ((gP P g).1 + (gP P g').1 ≤ v ∧ v < (gP P g).1 + (gP P g').1 + (gP P g3).1)) ((gP P g).1 + (gP P g').1 + (gP P g3).1) := by
            refine ⟨by rw [v1 10 (by decide)]; exact u3, by omega, by omega, fun v vv => ?_⟩
            have har := ar_le (MG (m3 9) v 0)
            rcases vv with ⟨w0, w1⟩ | ⟨w0, w1⟩
            · have q := mz v w0 w1
              have r := n.rng w0 w1
              refine ⟨w0, by omega, (v2 v w0 w1).1, by omega, fun i i0 i1 => ?_⟩
              rw [q.1] at i1 har
              rw [q.2 i i0 i1]
              have pp := n.prt w0 w1 i0 (by omega)
              by_cases d : GP (gP P g) v (1 + i) = p
              · rw [if_pos d]; right; omega
              · rw [if_neg d]; left; omega
            · have r := D3.rng gg3 w0 w1
              exact ⟨by omega, by omega, r.1, by omega, fun i i0 i1 => Or.inr (two (Q := fun j => (gP P g).1 + (gP P g').1 ≤ MG (m3 9) v j ∧ MG (m3 9) v j < (gP P g).1 + (gP P g').1 + (gP P g3).1) (by omega) (by omega) i0 (by omega))⟩
          have key : ∀ u w, (u = w ∧ 0 ≤ u ∧ u < (gP P g).1) ∨ (u = (gP P g).1 ∧ w = (gP P g).1 + (gP P g').1) → Eqv (BG b3) u (MG (m3 9)) w := by
            have root : Eqv (BG b3) (gP P g).1 (MG (m3 9)) ((gP P g).1 + (gP P g').1) := by
              have a := C3.eqv gg3 (v := 0) (by omega) (by omega)
              have c := D3.eqv gg3 (v := 0) (by omega) (by omega)
              rw [Int.add_zero] at a c
              exact a.trans c.symm
            intro u w huw
            intro path
            induction path generalizing u w with
            | nil =>
              rcases huw with ⟨rfl, u0, u1⟩ | ⟨rfl, rfl⟩
              · show BG b3 u 0 = MG (m3 9) u 0
                rw [(bz u u0 u1).1, (mz u u0 u1).1]
              · exact root []
            | cons i path ih =>
              rcases huw with ⟨rfl, u0, u1⟩ | ⟨rfl, rfl⟩
              · have q1 := bz u u0 u1
                have q2 := mz u u0 u1
                unfold ob
                rw [q1.1, q2.1]
                by_cases hi : 0 ≤ i ∧ i < ar (GP (gP P g) u 0)
                · rw [if_pos hi, if_pos hi]
                  have har := ar_le (GP (gP P g) u 0)
                  have pp := n.prt u0 u1 hi.1 (by omega)
                  refine ih _ _ ?_
                  rw [q1.2 i hi.1 hi.2, q2.2 i hi.1 hi.2]
                  by_cases d : GP (gP P g) u (1 + i) = p
                  · rw [if_pos d, if_pos d]; exact Or.inr ⟨rfl, rfl⟩
                  · rw [if_neg d, if_neg d]; exact Or.inl ⟨rfl, pp.1, pp.2⟩
                · rw [if_neg hi, if_neg hi]
              · exact root (i :: path)
          have e13' : m3 13 = m1 13 := by rw [v1 13 (by decide), e13]
          have d0 := hdue 0 (by omega) (by omega)
          have r0 := k3.2.2.2.1 0 (by omega) (by omega)
          have rd := k3.2.2.2.1 (gP P g).1 (by omega) (by omega)
          have fr : ∀ s : Nat, s < 9 → m3 s = m s := fun s hs => by rw [v1 s (by omega), u2 s (by omega) (by omega), k2 s hs]
          have h8 : b3 8 = b 8 := by rw [r1 8 (by decide) (by decide), h2 8 (by decide), f2 8 (by decide), bs0_ne _ _ (by decide)]
          have h33 : b3 3 0 = (gP P g).1 + (gP P g3).1 := by rw [r1 3 (by decide) (by decide)]; exact h3
          rw [e13] at v4
          by_cases c : p = 0
          · have c' := d0.mpr c
            obtain ⟨v, lt', b', P', m', res, w1, w2, w3, w4, w5⟩ := mk_of hN h ⟨h33, by omega, by omega, hW⟩ (root := (gP P g).1) (by omega) (by omega) h8 fr hS (root2 := (gP P g).1 + (gP P g').1) (Or.inr ⟨by omega, by omega⟩) (key _ _ (Or.inr ⟨rfl, rfl⟩)) t0 t1
            simp (disch := omega) only [e1, e2, e3, e4, e5, e6, e7, e8, ↓bn_some, ↓jn_eq, ↓ck1_of, ↓ckA_of, ↓if_pos, ↓if_neg, k1, l1, u1, v4, e13', f_X0_replaced, f_X0_start, f1, h1, r4, w1, w2, w3]
            exact ⟨v, lt', b', ms1, P', m', rfl, rfl, w4, w5⟩
          · have c' : m1 13 0 ≠ m1 13 (gP P g).1 := fun h => c (d0.mp h)
            obtain ⟨v, lt', b', P', m', res, w1, w2, w3, w4, w5⟩ := mk_of hN h ⟨h33, by omega, by omega, hW⟩ (root := 0) (by omega) (by omega) h8 fr hS (root2 := 0) (Or.inl ⟨by omega, by omega⟩) (key _ _ (Or.inl ⟨rfl, by omega, by omega⟩)) t0 t1
            simp (disch := omega) only [e1, e2, e3, e4, e5, e6, e7, e8, ↓bn_some, ↓jn_eq, ↓ck1_of, ↓ckA_of, ↓if_pos, ↓if_neg, k1, l1, u1, v4, e13', f_X0_replaced, f_X0_start, f1, h1, r4, w1, w2, w3]
            exact ⟨v, lt', b', ms1, P', m', rfl, rfl, w4, w5⟩
        · simp (disch := omega) only [e1, e2, e3, e4, e5, e6, e7, e8, ↓bn_some, ↓jn_eq, ↓ck1_of, ↓if_pos, ↓if_neg]
          exact bad2m h
