/-! way -/
theorem bS_self (m : Bd) (s : Nat) (q : Int) : bS m s (aS (m s) q (m s q)) = m := by
  funext t
  by_cases ht : t = s
  · subst ht
    rw [bS_eq]
    funext v
    by_cases hv : v = q
    · rw [hv, aS_eq]
    · rw [aS_ne _ _ hv]
  · rw [bS_ne _ _ ht]
/-- distances so far: the first c nodes have theirs -/
def WI (X : Gr) (V S : Int → Int) (c k i : Int) : Prop :=
  k < c ∧ c ≤ X.1 ∧ (∀ v, 0 ≤ v → v < c → 0 ≤ V v ∧ V v ≤ v ∧ S v = V v) ∧ (∀ v, c ≤ v → v < X.1 → V v = -1 ∧ S v = 99) ∧
  (∀ u v, 0 ≤ u → u ≤ v → v < c → V u ≤ V v) ∧ V (c - 1) ≤ V k + 1 ∧
  ∀ u j, 0 ≤ u → 0 ≤ j → j < ar (GP X u 0) → 2 * u + j < 2 * k + i → u < X.1 → GP X u (1 + j) < c ∧ V (GP X u (1 + j)) ≤ V u + 1
theorem WI.old {X : Gr} {V S : Int → Int} {c k i : Int} (h : WI X V S c k i) (k0 : 0 ≤ k) (i0 : 0 ≤ i) (i1 : i < 2) (p0 : 0 ≤ GP X k (1 + i)) (hp : GP X k (1 + i) < c) : WI X V S c k (i + 1) := by
  obtain ⟨h1, h2, h3, h4, h5, h6, h7⟩ := h
  refine ⟨h1, h2, h3, h4, h5, h6, fun u j u0 j0 j1 hl hu => ?_⟩
  by_cases e : u = k ∧ j = i
  · obtain ⟨rfl, rfl⟩ := e
    have := h5 _ (c - 1) p0 (by omega) (by omega)
    exact ⟨hp, by omega⟩
  · have := ar_le (GP X u 0)
    exact h7 u j u0 j0 j1 (by omega) hu
theorem WI.new {X : Gr} {V S : Int → Int} {c k i p : Int} (hX : GOK X) (h : WI X V S c k i) (k0 : 0 ≤ k) (i0 : 0 ≤ i) (i1 : i < ar (GP X k 0)) (hp : GP X k (1 + i) = p) (p1 : p < X.1) (pc : c ≤ p) : p = c ∧ WI X (aS V p (V k + 1)) (aS S p (S k + 1)) (c + 1) k (i + 1) := by
  obtain ⟨h1, h2, h3, h4, h5, h6, h7⟩ := h
  have har := ar_le (GP X k 0)
  have e : p = c := by
    rcases Int.lt_or_le c p with q | q
    · exfalso
      rcases hX.1.2.2.1 k i k0 (by omega) i0 i1 c (by omega) (by rw [hp]; exact q) with z | ⟨u, j, u0, j0, j1, hl, he⟩
      · omega
      · have := ar_le (GP X u 0)
        have := (h7 u j u0 j0 j1 hl (by omega)).1
        omega
    · omega
  refine ⟨e, ?_⟩
  subst e
  have hk := h3 k k0 h1
  have ov : ∀ v, v ≠ p → aS V p (V k + 1) v = V v := fun v hv => aS_ne _ _ hv
  have os : ∀ v, v ≠ p → aS S p (S k + 1) v = S v := fun v hv => aS_ne _ _ hv
  have nv : aS V p (V k + 1) p = V k + 1 := aS_eq _ _ _
  have ns : aS S p (S k + 1) p = S k + 1 := aS_eq _ _ _
  refine ⟨by omega, by omega, fun v v0 v1 => ?_, fun v v0 v1 => ?_, fun u v u0 uv v1 => ?_, ?_, fun u j u0 j0 j1 hl hu => ?_⟩
  · by_cases q : v = p
    · rw [q, nv, ns]; omega
    · rw [ov v q, os v q]; exact h3 v v0 (by omega)
  · rw [ov v (by omega), os v (by omega)]; exact h4 v (by omega) v1
  · by_cases q : v = p
    · by_cases q' : u = p
      · rw [q, q']; exact Int.le_refl _
      · rw [q, nv, ov u q']
        have := h5 u (p - 1) u0 (by omega) (by omega)
        omega
    · rw [ov v q, ov u (by omega)]
      exact h5 u v u0 uv (by omega)
  · rw [show p + 1 - 1 = p by omega, nv, ov k (by omega)]
    exact Int.le_refl _
  · have := ar_le (GP X u 0)
    by_cases e : u = k ∧ j = i
    · obtain ⟨rfl, rfl⟩ := e
      rw [hp, nv, ov u (by omega)]
      exact ⟨by omega, Int.le_refl _⟩
    · have q := h7 u j u0 j0 j1 (by omega) hu
      have q0 := (hX.1.2.1 u u0 hu).2.2 j j0 j1
      have uk : u ≤ k := by omega
      rw [ov _ (by omega), ov u (by omega)]
      exact ⟨by omega, q.2⟩
theorem WI.next {X : Gr} {V S : Int → Int} {c k : Int} {i : Int} (hX : GOK X) (h : WI X V S c k i) (k0 : 0 ≤ k) (hi : ar (GP X k 0) ≤ i) (hk : k + 1 < X.1) : WI X V S c (k + 1) 0 := by
  obtain ⟨h1, h2, h3, h4, h5, h6, h7⟩ := h
  have all : ∀ u j, 0 ≤ u → 0 ≤ j → j < ar (GP X u 0) → 2 * u + j < 2 * (k + 1) + 0 → u < X.1 → GP X u (1 + j) < c ∧ V (GP X u (1 + j)) ≤ V u + 1 := by
    intro u j u0 j0 j1 hl hu
    have := ar_le (GP X u 0)
    have := ar_le (GP X k 0)
    refine h7 u j u0 j0 j1 ?_ hu
    by_cases e : u = k
    · subst e; omega
    · omega
  obtain ⟨u, j, u0, u1, j0, j1, he⟩ := hX.1.2.2.2.1 (k + 1) (by omega) hk
  have := ar_le (GP X u 0)
  have q := (all u j u0 j0 j1 (by omega) (by omega)).1
  have mono := h5 k (k + 1) k0 (by omega) (by omega)
  exact ⟨by omega, h2, h3, h4, h5, by omega, all⟩
theorem wB_in {P : PL} {m ms : Bd} {g : Int} (p0 : 0 ≤ g) (p1 : g < (P.length : Int)) (gg : GOK (gP P g)) (hC : CM (m 9) 0 (gP P g) (gP P g).1) {k0 : Int} (k00 : 0 ≤ k0) (k01 : k0 < (gP P g).1) (z x3 x4 x5 : Int) : ∀ (f : Nat) (c i : Int) (ms1 m1 : Bd), ar (GP (gP P g) k0 0) - i < f → 0 ≤ i → i ≤ ar (GP (gP P g) k0 0) → (∀ s : Nat, s ≠ 0 → ms1 s = ms s) → (∀ s : Nat, s ≠ 21 → m1 s = m s) → WI (gP P g) (ms1 0) (m1 21) c k0 i →
    ∃ c' ms' m', (∀ s : Nat, s ≠ 0 → ms' s = ms s) ∧ (∀ s : Nat, s ≠ 21 → m' s = m s) ∧ WI (gP P g) (ms' 0) (m' 21) c' k0 (ar (GP (gP P g) k0 0)) ∧ (∀ k, f_X3_stepsTo_L53 P g z k0 (ar (GP (gP P g) k0 0)) k f i ms1 = k ms') ∧ (∀ k, f_X6_way_L93 x3 x4 x5 k0 k f i m1 = k m') := by
  have har := ar_le (GP (gP P g) k0 0)
  have g40 := gg.2
  have r := gg.node k00 k01
  have d := hC k0 k00 k01
  rw [show 0 + k0 = k0 by omega] at d
  intro f
  induction f with
  | zero => intro c i ms1 m1 h0 _ h2; omega
  | succ f ih =>
    intro c i ms1 m1 h0 i0 i1 hf hg hW
    have e9 : m1 9 = m 9 := hg 9 (by decide)
    have q1 : f_X6_headOf (m1 9 k0) = some (GP (gP P g) k0 0) := by rw [e9, headOf_of d.1, d.2.1]
    have q2 : f_X6_parts (GP (gP P g) k0 0) = some (ar (GP (gP P g) k0 0)) := parts_ar (by omega) (by omega)
    by_cases hx : ar (GP (gP P g) k0 0) ≤ i
    · have ei : i = ar (GP (gP P g) k0 0) := by omega
      refine ⟨c, ms1, m1, hf, hg, by rw [← ei]; exact hW, fun k => ?_, fun k => ?_⟩
      · simp (disch := omega) only [f_X3_stepsTo_L53, ↓ck1_of, ↓if_pos]
      · simp (disch := omega) only [f_X6_way_L93, ↓ckA_of, ↓ck1_of, ↓if_pos, q1, q2, ↓bn_some]
    · have q3 := partAt_of (h := g) g40 k00 k01 (i := i) i0 (by omega)
      have q4 : f_X6_partOf (m1 9 k0) i = some (GP (gP P g) k0 (1 + i)) := by
        rw [e9, partOf_of d.1 i0 (by omega)]
        refine congrArg some (two (Q := fun j => MG (m 9) k0 j = GP (gP P g) k0 j) (by have := d.2.2.1; omega) (by have := d.2.2.2; omega) i0 (by omega))
      have pr : 0 ≤ GP (gP P g) k0 (1 + i) ∧ GP (gP P g) k0 (1 + i) < (gP P g).1 := two (Q := fun j => 0 ≤ GP (gP P g) k0 j ∧ GP (gP P g) k0 j < (gP P g).1) ⟨r.2.2.1, r.2.2.2.1⟩ ⟨r.2.2.2.2.1, r.2.2.2.2.2⟩ i0 (by omega)
      obtain ⟨w1, w2, w3, w4, w5, w6, w7⟩ := id hW
      have vk := w3 k0 k00 w1
      by_cases hp : GP (gP P g) k0 (1 + i) < c
      · have vp := w3 _ pr.1 hp
        have vm := w5 _ (c - 1) pr.1 (by omega) (by omega)
        obtain ⟨c', ms', m', l1, l2, l3, l4, l5⟩ := ih c (i + 1) ms1 m1 (by omega) (by omega) (by omega) hf hg (hW.old k00 i0 (by omega) pr.1 hp)
        refine ⟨c', ms', m', l1, l2, l3, fun k => ?_, fun k => ?_⟩
        · simp (disch := omega) only [f_X3_stepsTo_L53, ↓ck1_of, ↓ckG_of, ↓ckA_of, ↓if_neg, ↓if_pos, q3, ↓bn_some]
          exact l4 k
        · simp (disch := omega) only [f_X6_way_L93, ↓ckA_of, ↓ck1_of, ↓if_neg, ↓if_pos, q1, q2, q4, ↓bn_some, bS_self]
          exact l5 k
      · have vp := w4 _ (by omega) pr.2
        obtain ⟨ep, hW'⟩ := hW.new gg k00 i0 (by omega) rfl pr.2 (by omega)
        obtain ⟨c', ms', m', l1, l2, l3, l4, l5⟩ := ih (c + 1) (i + 1) (bS ms1 0 (aS (ms1 0) (GP (gP P g) k0 (1 + i)) (ms1 0 k0 + 1))) (bS m1 21 (aS (m1 21) (GP (gP P g) k0 (1 + i)) (m1 21 k0 + 1))) (by omega) (by omega) (by omega) (fun s hs => by rw [bS_ne _ _ hs]; exact hf s hs) (fun s hs => by rw [bS_ne _ _ hs]; exact hg s hs) (by rw [bS_eq, bS_eq]; exact hW')
        refine ⟨c', ms', m', l1, l2, l3, fun k => ?_, fun k => ?_⟩
        · simp (disch := omega) only [f_X3_stepsTo_L53, ↓ck1_of, ↓ckG_of, ↓ckA_of, ↓if_neg, ↓if_pos, q3, ↓bn_some]
          exact l4 k
        · simp (disch := omega) only [f_X6_way_L93, ↓ckA_of, ↓ck1_of, ↓if_neg, ↓if_pos, q1, q2, q4, ↓bn_some]
          exact l5 k
/-- all distances stand -/
def WE (X : Gr) (V S : Int → Int) : Prop := (∀ v, 0 ≤ v → v < X.1 → 0 ≤ V v ∧ V v ≤ v ∧ S v = V v) ∧ ∀ u j, 0 ≤ u → 0 ≤ j → j < ar (GP X u 0) → u < X.1 → S (GP X u (1 + j)) ≤ S u + 1
theorem wB_out {N : Nat} (hN : 4000 ≤ N) {P : PL} {m ms : Bd} {g : Int} (p0 : 0 ≤ g) (p1 : g < (P.length : Int)) (gg : GOK (gP P g)) (hC : CM (m 9) 0 (gP P g) (gP P g).1) (z x4 x5 : Int) : ∀ (f : Nat) (c k0 : Int) (ms1 m1 : Bd), (gP P g).1 - k0 < f → 0 ≤ k0 → k0 < (gP P g).1 → (∀ s : Nat, s ≠ 0 → ms1 s = ms s) → (∀ s : Nat, s ≠ 21 → m1 s = m s) → WI (gP P g) (ms1 0) (m1 21) c k0 0 →
    ∃ ms' m', (∀ s : Nat, s ≠ 0 → ms' s = ms s) ∧ (∀ s : Nat, s ≠ 21 → m' s = m s) ∧ WE (gP P g) (ms' 0) (m' 21) ∧ (∀ k, f_X3_stepsTo_L35 N P g z k f k0 ms1 = k ms') ∧ (∀ k, f_X6_way_L84 N (gP P g).1 x4 x5 k f k0 m1 = k m') := by
  have g40 := gg.2
  intro f
  induction f with
  | zero => intro c k0 ms1 m1 h0 _ h2; omega
  | succ f ih =>
    intro c k0 ms1 m1 h0 k00 k01 hf hg hW
    have har := ar_le (GP (gP P g) k0 0)
    obtain ⟨c', ms2, m2, l1, l2, l3, l4, l5⟩ := wB_in p0 p1 gg hC k00 k01 z (gP P g).1 x4 x5 N c 0 ms1 m1 (by omega) (by omega) (by omega) hf hg hW
    have q1 := partCount_of gg k00 k01
    by_cases hx : k0 + 1 < (gP P g).1
    · obtain ⟨ms', m', a1, a2, a3, a4, a5⟩ := ih c' (k0 + 1) ms2 m2 (by omega) (by omega) hx l1 l2 (l3.next gg k00 (Int.le_refl _) hx)
      refine ⟨ms', m', a1, a2, a3, fun k => ?_, fun k => ?_⟩
      · simp (disch := omega) only [f_X3_stepsTo_L35, ↓ck1_of, ↓ckG_of, ↓if_neg, q1, ↓bn_some, l4]
        exact a4 k
      · simp (disch := omega) only [f_X6_way_L84, ↓ck1_of, ↓if_neg, l5]
        exact a5 k
    · obtain ⟨w1, w2, w3, w4, w5, w6, w7⟩ := id l3
      refine ⟨ms2, m2, l1, l2, ⟨fun v v0 v1 => w3 v v0 (by omega), fun u j u0 j0 j1 u1 => ?_⟩, fun k => ?_, fun k => ?_⟩
      · have := ar_le (GP (gP P g) u 0)
        have q := w7 u j u0 j0 j1 (by
          by_cases e : u = k0
          · subst e; omega
          · omega) u1
        have q0 := (gg.1.2.1 u u0 u1).2.2 j j0 j1
        have s1 := (w3 _ q0.1 q.1).2.2
        have s2 := (w3 u u0 (by omega)).2.2
        omega
      · cases f with
        | zero => omega
        | succ f => simp (disch := omega) only [f_X3_stepsTo_L35, ↓ck1_of, ↓ckG_of, ↓if_neg, ↓if_pos, q1, ↓bn_some, l4]
      · cases f with
        | zero => omega
        | succ f => simp (disch := omega) only [f_X6_way_L84, ↓ck1_of, ↓if_neg, ↓if_pos, l5]
theorem idle_in {P : PL} {m : Bd} {g : Int} (gg : GOK (gP P g)) (hC : CM (m 9) 0 (gP P g) (gP P g).1) (hr : ∀ v, 0 ≤ v → v < (gP P g).1 → 0 ≤ m 21 v ∧ m 21 v ≤ v) (hS : ∀ u j, 0 ≤ u → 0 ≤ j → j < ar (GP (gP P g) u 0) → u < (gP P g).1 → m 21 (GP (gP P g) u (1 + j)) ≤ m 21 u + 1) {k0 : Int} (k00 : 0 ≤ k0) (k01 : k0 < (gP P g).1) (x3 x4 x5 : Int) : ∀ (f : Nat) (i : Int), ar (GP (gP P g) k0 0) - i < f → 0 ≤ i → i ≤ ar (GP (gP P g) k0 0) → ∀ k, f_X6_way_L93 x3 x4 x5 k0 k f i m = k m := by
  have har := ar_le (GP (gP P g) k0 0)
  have g40 := gg.2
  have r := gg.node k00 k01
  have d := hC k0 k00 k01
  rw [show 0 + k0 = k0 by omega] at d
  have q1 : f_X6_headOf (m 9 k0) = some (GP (gP P g) k0 0) := by rw [headOf_of d.1, d.2.1]
  have q2 : f_X6_parts (GP (gP P g) k0 0) = some (ar (GP (gP P g) k0 0)) := parts_ar (by omega) (by omega)
  have rk := hr k0 k00 k01
  intro f
  induction f with
  | zero => intro i h0 _ h2; omega
  | succ f ih =>
    intro i h0 i0 i1 k
    by_cases hx : ar (GP (gP P g) k0 0) ≤ i
    · simp (disch := omega) only [f_X6_way_L93, ↓ckA_of, ↓ck1_of, ↓if_pos, q1, q2, ↓bn_some]
    · have q4 : f_X6_partOf (m 9 k0) i = some (GP (gP P g) k0 (1 + i)) := by
        rw [partOf_of d.1 i0 (by omega)]
        refine congrArg some (two (Q := fun j => MG (m 9) k0 j = GP (gP P g) k0 j) (by have := d.2.2.1; omega) (by have := d.2.2.2; omega) i0 (by omega))
      have pr : 0 ≤ GP (gP P g) k0 (1 + i) ∧ GP (gP P g) k0 (1 + i) < (gP P g).1 := two (Q := fun j => 0 ≤ GP (gP P g) k0 j ∧ GP (gP P g) k0 j < (gP P g).1) ⟨r.2.2.1, r.2.2.2.1⟩ ⟨r.2.2.2.2.1, r.2.2.2.2.2⟩ i0 (by omega)
      have rp := hr _ pr.1 pr.2
      have hs := hS k0 i k00 i0 (by omega) k01
      simp (disch := omega) only [f_X6_way_L93, ↓ckA_of, ↓ck1_of, ↓if_neg, ↓if_pos, q1, q2, q4, ↓bn_some, bS_self]
      exact ih (i + 1) (by omega) (by omega) (by omega) k
theorem idle_out {N : Nat} (hN : 4000 ≤ N) {P : PL} {m : Bd} {g : Int} (gg : GOK (gP P g)) (hC : CM (m 9) 0 (gP P g) (gP P g).1) (hr : ∀ v, 0 ≤ v → v < (gP P g).1 → 0 ≤ m 21 v ∧ m 21 v ≤ v) (hS : ∀ u j, 0 ≤ u → 0 ≤ j → j < ar (GP (gP P g) u 0) → u < (gP P g).1 → m 21 (GP (gP P g) u (1 + j)) ≤ m 21 u + 1) (x4 x5 : Int) : ∀ (f : Nat) (k0 : Int), (gP P g).1 - k0 < f → 0 ≤ k0 → k0 ≤ (gP P g).1 → ∀ k, f_X6_way_L84 N (gP P g).1 x4 x5 k f k0 m = k m := by
  have g40 := gg.2
  intro f
  induction f with
  | zero => intro i h0 _ h2; omega
  | succ f ih =>
    intro k0 h0 k00 k01 k
    by_cases hx : (gP P g).1 ≤ k0
    · simp (disch := omega) only [f_X6_way_L84, ↓ck1_of, ↓if_pos]
    · have har := ar_le (GP (gP P g) k0 0)
      have e := idle_in gg hC hr hS k00 (show k0 < (gP P g).1 by omega) (gP P g).1 x4 x5 N 0 (by omega) (by omega) (by omega)
      simp (disch := omega) only [f_X6_way_L84, ↓ck1_of, ↓if_neg, e]
      exact ih (k0 + 1) (by omega) (by omega) (by omega) k
theorem idle_all {N : Nat} (hN : 4000 ≤ N) {P : PL} {m : Bd} {g : Int} (gg : GOK (gP P g)) (hC : CM (m 9) 0 (gP P g) (gP P g).1) (hr : ∀ v, 0 ≤ v → v < (gP P g).1 → 0 ≤ m 21 v ∧ m 21 v ≤ v) (hS : ∀ u j, 0 ≤ u → 0 ≤ j → j < ar (GP (gP P g) u 0) → u < (gP P g).1 → m 21 (GP (gP P g) u (1 + j)) ≤ m 21 u + 1) (x4 : Int) : ∀ (f : Nat) (t : Int), 40 - t < f → 0 ≤ t → t ≤ 40 → ∀ k, f_X6_way_L74 N (gP P g).1 x4 k f t m = k m := by
  have g40 := gg.2
  have g1 := gg.1.1
  intro f
  induction f with
  | zero => intro i h0 _ h2; omega
  | succ f ih =>
    intro t h0 t0 t1 k
    by_cases hx : 40 ≤ t
    · simp (disch := omega) only [f_X6_way_L74, ↓ck1_of, ↓if_pos]
    · have e := idle_out hN gg hC hr hS x4 t N 0 (by omega) (by omega) (by omega)
      simp (disch := omega) only [f_X6_way_L74, ↓ck1_of, ↓if_neg, e]
      exact ih (t + 1) (by omega) (by omega) (by omega) k
theorem way_init {m : Bd} {s : Int} (hs : s ≤ 40) (x4 : Int) : ∀ (f : Nat) (i : Int) (m1 : Bd), s - i < f → 0 ≤ i → i ≤ s → (∀ t : Nat, t ≠ 21 → m1 t = m t) → (∀ v, 0 ≤ v → v < i → m1 21 v = if v = 0 then 0 else 99) → ∃ m', (∀ t : Nat, t ≠ 21 → m' t = m t) ∧ (∀ v, 0 ≤ v → v < s → m' 21 v = if v = 0 then 0 else 99) ∧ ∀ k, f_X6_way_L41 s x4 k f i m1 = k m' := by
  intro f
  induction f with
  | zero => intro i m1 h0 _ h2; omega
  | succ f ih =>
    intro i m1 h0 i0 i1 hf hd
    by_cases hx : s ≤ i
    · refine ⟨m1, hf, fun v v0 v1 => hd v v0 (by omega), fun k => ?_⟩
      simp (disch := omega) only [f_X6_way_L41, ↓ck1_of, ↓if_pos]
    · obtain ⟨m', k1, k2, k3⟩ := ih (i + 1) (bS m1 21 (aS (m1 21) i (if i ≠ 0 then 99 else 0))) (by omega) (by omega) (by omega) (fun t ht => by rw [bS_ne _ _ ht]; exact hf t ht) (fun v v0 v1 => by
        rw [bS_eq]
        by_cases c : v = i
        · rw [c, aS_eq]
          by_cases c0 : i = 0
          · rw [if_pos c0, if_neg (by omega)]
          · rw [if_neg c0, if_pos c0]
        · rw [aS_ne _ _ c]; exact hd v v0 (by omega))
      refine ⟨m', k1, k2, fun k => ?_⟩
      rw [f_X6_way_L41]
      simp (disch := omega) only [↓ck1_of, ↓ckA_of, ↓jn_eq, ↓if_neg]
      by_cases c0 : i = 0
      · have := k3 k
        simp (disch := omega) only [if_pos, if_neg] at this ⊢
        exact this
      · have := k3 k
        simp (disch := omega) only [if_pos, if_neg] at this ⊢
        exact this
theorem way_end {P : PL} {m : Bd} {g g' : Int} (gg : GOK (gP P g)) (hB : BA P g g' m) (g1' : 1 ≤ (gP P g').1) (h40 : (gP P g').1 ≤ 40) {p : Int} (hp : Plc (gP P g) (gP P g') p) : ∀ (f : Nat) (i acc : Int), (gP P g).1 - i < f → 0 ≤ i → i ≤ (gP P g).1 → acc = (if 0 ≤ p ∧ p < i then m 21 p else -1) → ∀ k, f_X6_way_L194 m (gP P g).1 (m 13 (gP P g).1) k f acc i = k (if 0 ≤ p then m 21 p else -1) := by
  have g40 := gg.2
  obtain ⟨h10, C1, C2, hr, hI, hE⟩ := hB
  have due := hr (gP P g).1 (by have := gg.1.1; omega) (by omega)
  intro f
  induction f with
  | zero => intro i acc h0 _ h2; omega
  | succ f ih =>
    intro i acc h0 i0 i1 ha k
    by_cases hx : (gP P g).1 ≤ i
    · simp (disch := omega) only [f_X6_way_L194, ↓ck1_of, ↓if_pos]
      rw [ha]
      rcases hp with ⟨q0, q1, q2⟩ | ⟨q0, q1⟩
      · rw [if_pos (by omega), if_pos (by omega)]
      · rw [if_neg (by omega), if_neg (by omega)]
    · have r := hr i i0 (by omega)
      have e := hE i 0 i0 (by omega) (Int.le_refl 0) (by omega)
      rw [Int.add_zero] at e
      have ep : m 13 i = m 13 (gP P g).1 ↔ p = i := by
        rw [e]
        rcases hp with ⟨q0, q1, q2⟩ | ⟨q0, q1⟩
        · constructor
          · intro h
            exact gg.1.2.2.2.2.1 p i q0 q1 i0 (by omega) (q2.trans h.symm)
          · intro h
            rw [← h]; exact q2
        · constructor
          · intro h
            exact absurd h (q1 i i0 (by omega))
          · intro h
            omega
      by_cases c : m 13 i = m 13 (gP P g).1
      · have := ep.mp c
        simp (disch := omega) only [f_X6_way_L194, ↓ck1_of, ↓ckA_of, ↓if_neg]
        exact ih (i + 1) _ (by omega) (by omega) (by omega) (by rw [if_pos (by omega), this]) k
      · have : p ≠ i := fun h => c (ep.mpr h)
        simp (disch := omega) only [f_X6_way_L194, ↓ck1_of, ↓ckA_of, ↓if_neg, ↓if_pos]
        refine ih (i + 1) _ (by omega) (by omega) (by omega) ?_ k
        rw [ha]
        by_cases q : 0 ≤ p ∧ p < i
        · rw [if_pos q, if_pos (by omega)]
        · rw [if_neg q, if_neg (by omega)]
theorem way_of {N : Nat} (hN : 4000 ≤ N) {P : PL} {m ms : Bd} {g g' : Int} (p0 : 0 ≤ g) (p1 : g < (P.length : Int)) (gg : GOK (gP P g)) (gg' : GOK (gP P g')) (hB : BA P g g' m) {p : Int} (hp : Plc (gP P g) (gP P g') p) : ∃ v ms' m', -1 ≤ v ∧ v ≤ 40 ∧ f_X3_stepsTo N ms P g p = some (v, ms') ∧ (∀ t : Nat, t < 9 → m' t = m t) ∧ ∀ k1 : Int → Bd → Option (Int × Bd), f_X6_way_L41 (gP P g).1 (m 13 (gP P g).1) (fun m41 => f_X6_way_L74 N (gP P g).1 (m 13 (gP P g).1) (fun m74 => f_X6_way_L194 m74 (gP P g).1 (m 13 (gP P g).1) (fun x => k1 x m74) N (-1) 0) N 0 m41) N 0 m = k1 v m' := by
  have g40 := gg.2
  have g1 := gg.1.1
  have g40' := gg'.2
  have g1' := gg'.1.1
  obtain ⟨m1, a1, a2, a3⟩ := way_init (m := m) g40 (m 13 (gP P g).1) N 0 m (by omega) (by omega) (by omega) (fun _ _ => rfl) (fun v v0 v1 => by omega)
  obtain ⟨row, f1, f2, f3⟩ := fill_of (N := N) (row := ms 0) (ni := 40) (x1 := (gP P g).1) (x2 := -1) (by omega) g40 (by omega) (by omega)
  have hC1 : CM (m1 9) 0 (gP P g) (gP P g).1 := by rw [a1 9 (by decide)]; exact hB.2.1
  have hW0 : WI (gP P g) ((bS ms 0 (aS row 0 0)) 0) (m1 21) 1 0 0 := by
    rw [bS_eq]
    refine ⟨by omega, by omega, fun v v0 v1 => ?_, fun v v0 v1 => ?_, fun u v u0 uv v1 => ?_, ?_, fun u j u0 j0 j1 hl hu => by omega⟩
    · have : v = 0 := by omega
      subst this
      rw [aS_eq, a2 0 (by omega) (by omega), if_pos rfl]
      omega
    · rw [aS_ne _ _ (by omega), f2 v (by omega) v1, a2 v (by omega) v1, if_neg (by omega)]
      omega
    · have : u = 0 := by omega
      have : v = 0 := by omega
      subst u v
      exact Int.le_refl _
    · rw [show (1 : Int) - 1 = 0 by omega]; omega
  obtain ⟨ms2, m2, b1, b2, b3, b4, b5⟩ := wB_out hN p0 p1 gg hC1 (ms := bS ms 0 (aS row 0 0)) p (m 13 (gP P g).1) 0 N 1 0 (bS ms 0 (aS row 0 0)) m1 (by omega) (by omega) (by omega) (fun _ _ => rfl) (fun _ _ => rfl) hW0
  have hC2 : CM (m2 9) 0 (gP P g) (gP P g).1 := by rw [b2 9 (by decide)]; exact hC1
  have id1 := idle_all hN gg hC2 (fun v v0 v1 => by have := b3.1 v v0 v1; omega) b3.2 (m 13 (gP P g).1) (N - 1) 1 (by omega) (by omega) (by omega)
  have e13 : m2 13 = m 13 := by rw [b2 13 (by decide), a1 13 (by decide)]
  have hB2 : BA P g g' m2 := hB.frame (by rw [b2 9 (by decide), a1 9 (by decide)]) (by rw [b2 10 (by decide), a1 10 (by decide)]) e13
  have we := way_end gg hB2 g1' g40' hp N 0 (-1) (by omega) (by omega) (by omega) (by rw [if_neg (by omega)])
  rw [e13] at we
  obtain ⟨M, rfl⟩ : ∃ M, N = M + 1 := ⟨N - 1, by omega⟩
  have tail : ∀ k1 : Int → Bd → Option (Int × Bd), f_X6_way_L41 (gP P g).1 (m 13 (gP P g).1) (fun m41 => f_X6_way_L74 (M + 1) (gP P g).1 (m 13 (gP P g).1) (fun m74 => f_X6_way_L194 m74 (gP P g).1 (m 13 (gP P g).1) (fun x => k1 x m74) (M + 1) (-1) 0) (M + 1) 0 m41) (M + 1) 0 m = k1 (if 0 ≤ p then m2 21 p else -1) m2 := by
    intro k1
    rw [a3]
    rw [f_X6_way_L74, ck1_of (by omega) (by omega), if_neg (by omega), b5]
    rw [show (0 : Int) + 1 = 1 by omega, show M + 1 - 1 = M by omega] at *
    rw [id1, we]
  rcases hp with ⟨q0, q1, q2⟩ | ⟨q0, q1⟩
  · have vp := b3.1 p q0 q1
    refine ⟨ms2 0 p, ms2, m2, by omega, by omega, ?_, fun t ht => by rw [b2 t (by omega), a1 t (by omega)], fun k1 => ?_⟩
    · unfold f_X3_stepsTo
      simp (disch := omega) only [↓ck1_of, ↓ckG_of, ↓ckA_of, ↓if_neg, ↓if_pos, f1, ↓bn_some, b4]
    · rw [tail, if_pos q0, vp.2.2]
  · refine ⟨-1, ms, m2, by omega, by omega, ?_, fun t ht => by rw [b2 t (by omega), a1 t (by omega)], fun k1 => ?_⟩
    · unfold f_X3_stepsTo
      simp (disch := omega) only [↓ck1_of, ↓if_pos]
    · rw [tail, if_neg (by omega)]
theorem way_step {N : Nat} (hN : 4000 ≤ N) {T : Int} {lt b m ms : Bd} {P : PL} (h : RR T lt b m P) {x y : Int} (hx : inR x) (hy : inR y) : Step1m T b P (f_X5_way N lt ms P x y) (f_X6_way N m x y) := by
  unfold f_X5_way f_X6_way
  rcases nm_of h.2.2.2.1 h.2.2.2.2.2.1 hx with ⟨e1, e2⟩ | ⟨g, e1, e2, n⟩
  · rcases nm_of h.2.2.2.1 h.2.2.2.2.2.1 hy with ⟨e3, e4⟩ | ⟨g', e3, e4, n'⟩
    · simp (disch := omega) only [e1, e2, e3, ↓bn_some, ↓jn_eq, ↓ck1_of, ↓if_pos]
      exact bad1m h
    · simp (disch := omega) only [e1, e2, e3, ↓bn_some, ↓jn_eq, ↓ck1_of, ↓if_pos]
      exact bad1m h
  · have s := n.sz
    obtain ⟨a0, a1, p0, p1, gg, e, -⟩ := id n
    rcases nm_of h.2.2.2.1 h.2.2.2.2.2.1 hy with ⟨e3, e4⟩ | ⟨g', e3, e4, n'⟩
    · simp (disch := omega) only [e1, e2, e3, e4, ↓bn_some, ↓jn_eq, ↓ck1_of, ↓if_pos, ↓if_neg]
      exact bad1m h
    · have s' := n'.sz
      obtain ⟨a0', a1', p0', p1', gg', e', -⟩ := id n'
      obtain ⟨m1, k1, k2, k3⟩ := apart_of hN n n'
      obtain ⟨p, ms1, l1, l2, l3⟩ := placeOf_of hN (ms := ms) p0 p1 p0' p1' gg gg'
      obtain ⟨v, ms2, m2, v0, v1, w1, w2, w3⟩ := way_of hN (ms := ms1) p0 p1 gg gg' k3 l3
      simp (disch := omega) only [e1, e2, e3, e4, ↓bn_some, ↓jn_eq, ↓ck1_of, ↓ckA_of, ↓if_pos, ↓if_neg, k1, l1, w1]
      refine ⟨v, lt, ms2, m2, rfl, w3 (fun x m => some (x, m)), ⟨by omega, by omega⟩, h.up.frame (fun _ _ _ => rfl) rfl (fun s hs => by rw [w2 s hs, k2 s hs])⟩
