/-! looping -/
/-- the rows of bits say R -/
def RB5 (X : Gr) (F : Int → Int) (R : Int → Int → Prop) : Prop := ∀ u v, 0 ≤ u → u < X.1 → 0 ≤ v → v < X.1 → (bt (F u) v = true ↔ R u v)
theorem lc_in {P : PL} {ms : Bd} {g : Int} (p0 : 0 ≤ g) (p1 : g < (P.length : Int)) (gg : GOK (gP P g)) {u : Int} (u0 : 0 ≤ u) (u1 : u < (gP P g).1) : ∀ (f : Nat) (i : Int) (ms1 : Bd), ar (GP (gP P g) u 0) - i < f → 0 ≤ i → i ≤ ar (GP (gP P g) u 0) → (∀ s : Nat, s ≠ 3 → ms1 s = ms s) → (∀ w, w ≠ u → ms1 3 w = ms 3 w) → (∀ v, 0 ≤ v → v < (gP P g).1 → (bt (ms1 3 u) v = true ↔ ∃ j, 0 ≤ j ∧ j < i ∧ GP (gP P g) u (1 + j) = v)) →
    ∃ ms', (∀ s : Nat, s ≠ 3 → ms' s = ms s) ∧ (∀ w, w ≠ u → ms' 3 w = ms 3 w) ∧ (∀ v, 0 ≤ v → v < (gP P g).1 → (bt (ms' 3 u) v = true ↔ Eg (gP P g) u v)) ∧ ∀ k, f_X3_loopCount_L26 P g u (ar (GP (gP P g) u 0)) k f i ms1 = k ms' := by
  have har := ar_le (GP (gP P g) u 0)
  have g40 := gg.2
  have r := gg.node u0 u1
  intro f
  induction f with
  | zero => intro i ms1 h0 _ h2; omega
  | succ f ih =>
    intro i ms1 h0 i0 i1 hf ho hd
    by_cases hx : ar (GP (gP P g) u 0) ≤ i
    · have e : i = ar (GP (gP P g) u 0) := by omega
      refine ⟨ms1, hf, ho, fun v v0 v1 => ?_, fun k => ?_⟩
      · rw [hd v v0 v1, e]; exact Iff.rfl
      · simp (disch := omega) only [f_X3_loopCount_L26, ↓ck1_of, ↓if_pos]
    · have q := partAt_of (h := g) g40 u0 u1 (i := i) i0 (by omega)
      have pr : 0 ≤ GP (gP P g) u (1 + i) ∧ GP (gP P g) u (1 + i) < (gP P g).1 := two (Q := fun j => 0 ≤ GP (gP P g) u j ∧ GP (gP P g) u j < (gP P g).1) ⟨r.2.2.1, r.2.2.2.1⟩ ⟨r.2.2.2.2.1, r.2.2.2.2.2⟩ i0 (by omega)
      obtain ⟨ms', k1, k2, k3, k4⟩ := ih (i + 1) (bS ms1 3 (aS (ms1 3) u (l_or (ms1 3 u) (l_shl 1 (GP (gP P g) u (1 + i)))))) (by omega) (by omega) (by omega) (fun s hs => by rw [bS_ne _ _ hs]; exact hf s hs) (fun w hw => by rw [bS_eq, aS_ne _ _ hw]; exact ho w hw) (fun v v0 v1 => by
        rw [bS_eq, aS_eq, bt_or, Bool.or_eq_true, hd v v0 v1, bt_shl pr.1 (by omega) v0 (by omega)]
        constructor
        · rintro (⟨j, j0, j1, j2⟩ | e)
          · exact ⟨j, j0, by omega, j2⟩
          · exact ⟨i, i0, by omega, e⟩
        · rintro ⟨j, j0, j1, j2⟩
          by_cases c : j = i
          · rw [c] at j2; exact Or.inr j2
          · exact Or.inl ⟨j, j0, by omega, j2⟩)
      refine ⟨ms', k1, k2, k3, fun k => ?_⟩
      rw [f_X3_loopCount_L26, ck1_of (by omega) (by omega), ck1_of (by omega) (by omega), if_neg hx, ckA_of u0 (by omega), ckG_of p0 p1, q, bn_some]
      exact k4 k
theorem lc_init {N : Nat} (hN : 20000 ≤ N) {P : PL} {ms : Bd} {g : Int} (p0 : 0 ≤ g) (p1 : g < (P.length : Int)) (gg : GOK (gP P g)) : ∀ (f : Nat) (u : Int) (ms1 : Bd), (gP P g).1 - u < f → 0 ≤ u → u ≤ (gP P g).1 → (∀ s : Nat, s ≠ 3 → ms1 s = ms s) → (∀ w v, 0 ≤ w → w < u → 0 ≤ v → v < (gP P g).1 → (bt (ms1 3 w) v = true ↔ Eg (gP P g) w v)) →
    ∃ ms', (∀ s : Nat, s ≠ 3 → ms' s = ms s) ∧ RB5 (gP P g) (ms' 3) (Eg (gP P g)) ∧ ∀ k, f_X3_loopCount_L2 N P g k f u ms1 = k ms' := by
  have g40 := gg.2
  intro f
  induction f with
  | zero => intro i ms1 h0 _ h2; omega
  | succ f ih =>
    intro u ms1 h0 u0 u1 hf hd
    by_cases hx : (gP P g).1 ≤ u
    · refine ⟨ms1, hf, fun w v w0 w1 v0 v1 => hd w v w0 (by omega) v0 v1, fun k => ?_⟩
      simp (disch := omega) only [f_X3_loopCount_L2, ↓ck1_of, ↓ckG_of, ↓if_pos]
    · have har := ar_le (GP (gP P g) u 0)
      obtain ⟨ms2, l1, l2, l3, l4⟩ := lc_in (ms := bS ms1 3 (aS (ms1 3) u 0)) p0 p1 gg u0 (show u < (gP P g).1 by omega) N 0 (bS ms1 3 (aS (ms1 3) u 0)) (by omega) (by omega) (by omega) (fun _ _ => rfl) (fun _ _ => rfl) (fun v v0 v1 => by
        rw [bS_eq, aS_eq, bt_zero]
        exact ⟨fun h => absurd h (by decide), fun ⟨j, j0, j1, _⟩ => by omega⟩)
      obtain ⟨ms', k1, k2, k3⟩ := ih (u + 1) ms2 (by omega) (by omega) (by omega) (fun s hs => by rw [l1 s hs, bS_ne _ _ hs]; exact hf s hs) (fun w v w0 w1 v0 v1 => by
        by_cases e : w = u
        · subst e; exact l3 v v0 v1
        · rw [l2 w e, bS_eq, aS_ne _ _ e]; exact hd w v w0 (by omega) v0 v1)
      refine ⟨ms', k1, k2, fun k => ?_⟩
      rw [f_X3_loopCount_L2, ckG_of p0 p1, ck1_of (by omega) (by omega), ck1_of (by omega) (by omega), if_neg hx, ckA_of u0 (by omega), partCount_of gg u0 (by omega), bn_some, l4]
      exact k3 k
theorem lc_row {P : PL} {ms : Bd} {g : Int} (p0 : 0 ≤ g) (p1 : g < (P.length : Int)) (gg : GOK (gP P g)) {b : Nat} (b1 : (b : Int) < (gP P g).1) : ∀ (f : Nat) (u : Int) (ms1 : Bd), (gP P g).1 - u < f → 0 ≤ u → u ≤ (gP P g).1 → (∀ s : Nat, s ≠ 3 → ms1 s = ms s) → (∀ w v, 0 ≤ w → w < u → 0 ≤ v → v < (gP P g).1 → (bt (ms1 3 w) v = true ↔ Vw (gP P g) (b + 1) w v)) → (∀ w v, u ≤ w → w < (gP P g).1 → 0 ≤ v → v < (gP P g).1 → (bt (ms1 3 w) v = true ↔ Vw (gP P g) b w v)) →
    ∃ ms', (∀ s : Nat, s ≠ 3 → ms' s = ms s) ∧ RB5 (gP P g) (ms' 3) (Vw (gP P g) (b + 1)) ∧ ∀ k, f_X3_loopCount_L74 P g b k f u ms1 = k ms' := by
  have g40 := gg.2
  intro f
  induction f with
  | zero => intro i ms1 h0 _ h2; omega
  | succ f ih =>
    intro u ms1 h0 u0 u1 hf hd ht
    by_cases hx : (gP P g).1 ≤ u
    · refine ⟨ms1, hf, fun w v w0 w1 v0 v1 => hd w v w0 (by omega) v0 v1, fun k => ?_⟩
      simp (disch := omega) only [f_X3_loopCount_L74, ↓ck1_of, ↓ckG_of, ↓if_pos]
    · have hb : ∀ v, 0 ≤ v → v < (gP P g).1 → (bt (ms1 3 b) v = true ↔ Vw (gP P g) b b v) := by
        intro v v0 v1
        by_cases c : (b : Int) < u
        · rw [hd b v (by omega) c v0 v1]
          exact ⟨fun h => Or.elim h (fun h => h) (fun h => h.2), fun h => Or.inl h⟩
        · exact ht b v (by omega) b1 v0 v1
      have hu := ht u b (Int.le_refl u) (by omega) (by omega) b1
      have run : ∀ k, f_X3_loopCount_L74 P g b k (f + 1) u ms1 = if bt (ms1 3 u) b = true then f_X3_loopCount_L74 P g b k f (u + 1) (bS ms1 3 (aS (ms1 3) u (l_or (ms1 3 u) (ms1 3 b)))) else f_X3_loopCount_L74 P g b k f (u + 1) ms1 := by
        intro k
        rw [f_X3_loopCount_L74, ckG_of p0 p1, ck1_of (by omega) (by omega), ck1_of (by omega) (by omega), if_neg hx, ckA_of u0 (by omega), bt_test (by omega) (by omega), ckA_of (by omega) (by omega)]
      by_cases c : bt (ms1 3 u) b = true
      · obtain ⟨ms', k1, k2, k3⟩ := ih (u + 1) (bS ms1 3 (aS (ms1 3) u (l_or (ms1 3 u) (ms1 3 b)))) (by omega) (by omega) (by omega) (fun s hs => by rw [bS_ne _ _ hs]; exact hf s hs) (fun w v w0 w1 v0 v1 => by
          rw [bS_eq]
          by_cases e : w = u
          · subst e
            rw [aS_eq, bt_or, Bool.or_eq_true, ht w v (Int.le_refl w) (by omega) v0 v1, hb v v0 v1]
            have hub := hu.mp c
            exact ⟨fun h => Or.elim h (fun h => Or.inl h) (fun h => Or.inr ⟨hub, h⟩), fun h => Or.elim h (fun h => Or.inl h) (fun h => Or.inr h.2)⟩
          · rw [aS_ne _ _ e]; exact hd w v w0 (by omega) v0 v1) (fun w v w0 w1 v0 v1 => by rw [bS_eq, aS_ne _ _ (by omega)]; exact ht w v (by omega) w1 v0 v1)
        exact ⟨ms', k1, k2, fun k => by rw [run, if_pos c]; exact k3 k⟩
      · obtain ⟨ms', k1, k2, k3⟩ := ih (u + 1) ms1 (by omega) (by omega) (by omega) hf (fun w v w0 w1 v0 v1 => by
          by_cases e : w = u
          · subst e
            rw [ht w v (Int.le_refl w) (by omega) v0 v1]
            exact ⟨fun h => Or.inl h, fun h => Or.elim h (fun h => h) (fun h => absurd (hu.mpr h.1) c)⟩
          · exact hd w v w0 (by omega) v0 v1) (fun w v w0 w1 v0 v1 => ht w v (by omega) w1 v0 v1)
        exact ⟨ms', k1, k2, fun k => by rw [run, if_neg c]; exact k3 k⟩
theorem lc_all {N : Nat} (hN : 20000 ≤ N) {P : PL} {ms : Bd} {g : Int} (p0 : 0 ≤ g) (p1 : g < (P.length : Int)) (gg : GOK (gP P g)) : ∀ (f b : Nat) (ms1 : Bd), (gP P g).1 - b < f → (b : Int) ≤ (gP P g).1 → (∀ s : Nat, s ≠ 3 → ms1 s = ms s) → RB5 (gP P g) (ms1 3) (Vw (gP P g) b) →
    ∃ ms', (∀ s : Nat, s ≠ 3 → ms' s = ms s) ∧ RB5 (gP P g) (ms' 3) (Rc (gP P g)) ∧ ∀ k, f_X3_loopCount_L64 N P g k f b ms1 = k ms' := by
  have g40 := gg.2
  intro f
  induction f with
  | zero => intro i ms1 h0 h2; omega
  | succ f ih =>
    intro b ms1 h0 b1 hf hR
    by_cases hx : (gP P g).1 ≤ b
    · refine ⟨ms1, hf, fun u v u0 u1 v0 v1 => ?_, fun k => ?_⟩
      · rw [hR u v u0 u1 v0 v1, ← Vw.all gg, show (gP P g).1.toNat = b by omega]
      · simp (disch := omega) only [f_X3_loopCount_L64, ↓ck1_of, ↓ckG_of, ↓if_pos]
    · obtain ⟨ms2, l1, l2, l3⟩ := lc_row (ms := ms) p0 p1 gg (show (b : Int) < (gP P g).1 by omega) N 0 ms1 (by omega) (by omega) (by omega) hf (fun w v w0 w1 => by omega) (fun w v w0 w1 v0 v1 => hR w v w0 w1 v0 v1)
      obtain ⟨ms', k1, k2, k3⟩ := ih (b + 1) ms2 (by omega) (by omega) l1 l2
      refine ⟨ms', k1, k2, fun k => ?_⟩
      rw [f_X3_loopCount_L64, ckG_of p0 p1, ck1_of (by omega) (by omega), ck1_of (by omega) (by omega), if_neg hx, l3]
      exact k3 k
noncomputable def lpB (X : Gr) (n : Int) : Int := @ite Int (Rc X n n) (Classical.propDecidable _) 1 0
theorem lpB_t {X : Gr} {n : Int} (h : Rc X n n) : lpB X n = 1 := by unfold lpB; exact if_pos h
theorem lpB_f {X : Gr} {n : Int} (h : ¬ Rc X n n) : lpB X n = 0 := by unfold lpB; exact if_neg h
theorem lpB_r (X : Gr) (n : Int) : 0 ≤ lpB X n ∧ lpB X n ≤ 1 := by
  by_cases h : Rc X n n
  · rw [lpB_t h]; omega
  · rw [lpB_f h]; omega
/-- how many of the first n nodes are reached from themselves -/
noncomputable def nlp (X : Gr) : Nat → Int
  | 0 => 0
  | n + 1 => nlp X n + lpB X n
theorem nlp_rng (X : Gr) : ∀ n : Nat, 0 ≤ nlp X n ∧ nlp X n ≤ n := by
  intro n
  induction n with
  | zero => exact ⟨Int.le_refl 0, Int.le_refl 0⟩
  | succ n ih =>
    have := lpB_r X n
    show 0 ≤ nlp X n + lpB X n ∧ nlp X n + lpB X n ≤ _
    omega
theorem lc_count {P : PL} {ms : Bd} {g : Int} (p0 : 0 ≤ g) (p1 : g < (P.length : Int)) (gg : GOK (gP P g)) (hR : RB5 (gP P g) (ms 3) (Rc (gP P g))) : ∀ (f u : Nat), (gP P g).1 - u < f → (u : Int) ≤ (gP P g).1 → ∀ k, f_X3_loopCount_L128 ms P g k f (nlp (gP P g) u) u = k (nlp (gP P g) (gP P g).1.toNat) := by
  have g40 := gg.2
  intro f
  induction f with
  | zero => intro i h0 h2; omega
  | succ f ih =>
    intro u h0 u1 k
    by_cases hx : (gP P g).1 ≤ u
    · rw [f_X3_loopCount_L128, ckG_of p0 p1, ck1_of (by omega) (by omega), ck1_of (by omega) (by omega), if_pos hx, show (gP P g).1.toNat = u by omega]
    · rw [f_X3_loopCount_L128, ckG_of p0 p1, ck1_of (by omega) (by omega), ck1_of (by omega) (by omega), if_neg hx, ckA_of (by omega) (by omega), bt_get (by omega) (by omega)]
      have e : (nlp (gP P g) u + if bt (ms 3 u) u = true then 1 else 0) = nlp (gP P g) (u + 1) := by
        have := hR u u (by omega) (by omega) (by omega) (by omega)
        show _ = nlp (gP P g) u + lpB (gP P g) u
        by_cases c : bt (ms 3 u) u = true
        · rw [if_pos c, lpB_t (this.mp c)]
        · rw [if_neg c, lpB_f (fun h => c (this.mpr h))]
      rw [e, show ((u : Int) + 1) = ((u + 1 : Nat) : Int) by omega]
      exact ih (u + 1) (by omega) (by omega) k
theorem loopCount_of {N : Nat} (hN : 20000 ≤ N) {P : PL} {ms : Bd} {g : Int} (p0 : 0 ≤ g) (p1 : g < (P.length : Int)) (gg : GOK (gP P g)) : ∃ ms', f_X3_loopCount N ms P g = some (nlp (gP P g) (gP P g).1.toNat, ms') := by
  have g1 := gg.1.1
  have g40 := gg.2
  unfold f_X3_loopCount
  obtain ⟨ms1, a1, a2, a3⟩ := lc_init hN (ms := ms) p0 p1 gg N 0 ms (by omega) (by omega) (by omega) (fun _ _ => rfl) (fun w v w0 w1 => by omega)
  obtain ⟨ms2, b1, b2, b3⟩ := lc_all hN (ms := ms) p0 p1 gg N 0 ms1 (by omega) (by omega) a1 a2
  have c := lc_count p0 p1 gg b2 N 0 (by omega) (by omega)
  refine ⟨ms2, ?_⟩
  have b3 : ∀ k, f_X3_loopCount_L64 N P g k N 0 ms1 = k ms2 := b3
  have c : ∀ k, f_X3_loopCount_L128 ms2 P g k N 0 0 = k (nlp (gP P g) (gP P g).1.toNat) := c
  rw [a3, b3, c]
/-! looping on the other side -/
theorem lm_in {P : PL} {m : Bd} {a g : Int} (n : Nm P m a g) {u : Int} (u0 : 0 ≤ u) (u1 : u < (gP P g).1) (x1 x2 x3 x6 x7 : Int) : ∀ (f : Nat) (i r : Int), ar (GP (gP P g) u 0) - i < f → 0 ≤ i → i ≤ ar (GP (gP P g) u 0) → ∃ r', (∀ v, 0 ≤ v → v < (gP P g).1 → (bt r' v = true ↔ (bt r v = true ∨ ∃ j, i ≤ j ∧ j < ar (GP (gP P g) u 0) ∧ GP (gP P g) u (1 + j) = v))) ∧ ∀ k, f_X6_looping_L97 x1 x2 x3 x6 x7 (pk (GP (gP P g) u 0) (GP (gP P g) u 1) (GP (gP P g) u 2)) 1 k f r i = k r' := by
  have har := ar_le (GP (gP P g) u 0)
  have s := n.sz
  have q1 := n.head u0 u1
  have rg := n.rng u0 u1
  have q2 := parts_ar (h := GP (gP P g) u 0) (by omega) (by omega)
  intro f
  induction f with
  | zero => intro i r h0 _ h2; omega
  | succ f ih =>
    intro i r h0 i0 i1
    by_cases hx : ar (GP (gP P g) u 0) ≤ i
    · refine ⟨r, fun v v0 v1 => ⟨fun h => Or.inl h, fun h => Or.elim h (fun h => h) (fun ⟨j, j0, j1, _⟩ => by omega)⟩, fun k => ?_⟩
      rw [f_X6_looping_L97, q1, bn_some, q2, bn_some, ck1_of (by omega) (by omega), ck1_of (by omega) (by omega), if_pos hx]
    · have pr := n.prt u0 u1 i0 (by omega)
      obtain ⟨r', k1, k2⟩ := ih (i + 1) (l_or r (l_shl 1 (GP (gP P g) u (1 + i)))) (by omega) (by omega) (by omega)
      refine ⟨r', fun v v0 v1 => ?_, fun k => ?_⟩
      · rw [k1 v v0 v1, bt_or, Bool.or_eq_true, bt_shl pr.1 (by omega) v0 (by omega)]
        constructor
        · rintro ((h | h) | ⟨j, j0, j1, j2⟩)
          · exact Or.inl h
          · exact Or.inr ⟨i, Int.le_refl i, by omega, h⟩
          · exact Or.inr ⟨j, by omega, j1, j2⟩
        · rintro (h | ⟨j, j0, j1, j2⟩)
          · exact Or.inl (Or.inl h)
          · by_cases c : j = i
            · rw [c] at j2; exact Or.inl (Or.inr j2)
            · exact Or.inr ⟨j, by omega, j1, j2⟩
      · rw [f_X6_looping_L97, q1, bn_some, q2, bn_some, ck1_of (by omega) (by omega), ck1_of (by omega) (by omega), if_neg hx, ck1_of (by omega) (by omega), if_neg (by decide), n.part u0 u1 i0 (by omega), bn_some]
        exact k2 k
theorem lm_row {N : Nat} (hN : 20000 ≤ N) {P : PL} {m : Bd} {a g : Int} (n : Nm P m a g) {c : Int} (c0 : 0 ≤ c) (c1 : c < (gP P g).1) (x2 t : Int) {d : Nat} : ∀ (f : Nat) (u r : Int), (gP P g).1 - u < f → 0 ≤ u → u ≤ (gP P g).1 → (∀ v, 0 ≤ v → v < (gP P g).1 → bt r v = true → Rc (gP P g) c v) → (∀ e : Nat, e < d → ∀ v, Pr (gP P g) c e v → bt r v = true) → (∀ v, (∃ w, 0 ≤ w ∧ w < u ∧ (w = c ∨ ∃ e : Nat, e < d ∧ Pr (gP P g) c e w) ∧ Eg (gP P g) w v) → bt r v = true) →
    ∃ r', (∀ v, 0 ≤ v → v < (gP P g).1 → bt r' v = true → Rc (gP P g) c v) ∧ (∀ e : Nat, e < d + 1 → ∀ v, Pr (gP P g) c e v → bt r' v = true) ∧ ∀ k, f_X6_looping_L49 N m a x2 c t k f r u = k r' := by
  have s := n.sz
  obtain ⟨a0, a1, p0, p1, gg, e, -⟩ := id n
  intro f
  induction f with
  | zero => intro i r h0 _ h2; omega
  | succ f ih =>
    intro u r h0 u0 u1 hS hC hD
    by_cases hx : (gP P g).1 ≤ u
    · refine ⟨r, hS, fun e he v hv => ?_, fun k => ?_⟩
      · by_cases c2 : e < d
        · exact hC e c2 v hv
        · cases e with
          | zero => exact hD v ⟨c, c0, by omega, Or.inl rfl, hv⟩
          | succ e =>
            obtain ⟨w, w0, w1, h1, h2⟩ := hv
            exact hD v ⟨w, w0, by omega, Or.inr ⟨e, by omega, h1⟩, h2⟩
      · rw [f_X6_looping_L49, ckA_of a0 a1, e, ck1_of (by omega) (by omega), ck1_of (by omega) (by omega), if_pos hx]
    · have q0 := n.node u0 (show u < (gP P g).1 by omega)
      have har := ar_le (GP (gP P g) u 0)
      -- the parts of u are taken
      have take : (u = c ∨ bt r u = true) → ∃ r', (∀ v, 0 ≤ v → v < (gP P g).1 → bt r' v = true → Rc (gP P g) c v) ∧ (∀ e : Nat, e < d + 1 → ∀ v, Pr (gP P g) c e v → bt r' v = true) ∧ ∀ k, (f_X6_looping_L97 a x2 c t u (pk (GP (gP P g) u 0) (GP (gP P g) u 1) (GP (gP P g) u 2)) 1 (fun (x4_97 : Int) => f_X6_looping_L49 N m a x2 c t k f x4_97 (u + 1)) N r 0) = k r' := by
        intro hu
        obtain ⟨r2, k1, k2⟩ := lm_in n u0 (show u < (gP P g).1 by omega) a x2 c t u N 0 r (by omega) (by omega) (by omega)
        have k1' : ∀ v, 0 ≤ v → v < (gP P g).1 → (bt r2 v = true ↔ (bt r v = true ∨ Eg (gP P g) u v)) := fun v v0 v1 => by
          rw [k1 v v0 v1]; exact Iff.rfl
        obtain ⟨r', l1, l2, l3⟩ := ih (u + 1) r2 (by omega) (by omega) (by omega) (fun v v0 v1 hv => by
          rcases (k1' v v0 v1).mp hv with h | h
          · exact hS v v0 v1 h
          · rcases hu with hu | hu
            · rw [hu] at h; exact ⟨0, h⟩
            · exact (hS u u0 (by omega) hu).trans u0 (by omega) ⟨0, h⟩) (fun e he v hv => by
          have rv := Pr.rng gg c0 c1 e hv
          exact (k1' v rv.1 rv.2).mpr (Or.inl (hC e he v hv))) (fun v hv => by
          obtain ⟨w, w0, w1, h1, h2⟩ := hv
          have rv := Eg.rng gg w0 (by omega) h2
          refine (k1' v rv.1 rv.2).mpr ?_
          by_cases ew : w = u
          · rw [ew] at h2; exact Or.inr h2
          · exact Or.inl (hD v ⟨w, w0, by omega, h1, h2⟩))
        exact ⟨r', l1, l2, fun k => by rw [k2]; exact l3 k⟩
      have run : ∀ k, f_X6_looping_L49 N m a x2 c t k (f + 1) r u = if u = c ∨ bt r u = true then (f_X6_looping_L97 a x2 c t u (pk (GP (gP P g) u 0) (GP (gP P g) u 1) (GP (gP P g) u 2)) 1 (fun (x4_97 : Int) => f_X6_looping_L49 N m a x2 c t k f x4_97 (u + 1)) N r 0) else (f_X6_looping_L97 a x2 c t u (pk (GP (gP P g) u 0) (GP (gP P g) u 1) (GP (gP P g) u 2)) 0 (fun (x4_97 : Int) => f_X6_looping_L49 N m a x2 c t k f x4_97 (u + 1)) N r 0) := by
        intro k
        rw [f_X6_looping_L49, ckA_of a0 a1, e, ck1_of (by omega) (by omega), ck1_of (by omega) (by omega), if_neg hx, q0, bn_some, jn_eq, jn_eq, ck1_of (by omega) (by omega)]
        by_cases c2 : u = c
        · rw [if_pos c2, if_pos (Or.inl c2)]
        · rw [if_neg c2, bt_test u0 (by omega)]
          by_cases c3 : bt r u = true
          · rw [if_pos c3, if_pos (Or.inr c3)]
          · rw [if_neg c3, if_neg (fun h => Or.elim h c2 c3)]
      by_cases hu : u = c ∨ bt r u = true
      · obtain ⟨r', l1, l2, l3⟩ := take hu
        exact ⟨r', l1, l2, fun k => by rw [run, if_pos hu]; exact l3 k⟩
      · obtain ⟨r', l1, l2, l3⟩ := ih (u + 1) r (by omega) (by omega) (by omega) hS hC (fun v hv => by
          obtain ⟨w, w0, w1, h1, h2⟩ := hv
          by_cases ew : w = u
          · exfalso
            rcases h1 with h1 | ⟨e2, e3, e4⟩
            · exact hu (Or.inl (by omega))
            · rw [ew] at e4
              exact hu (Or.inr (hC e2 e3 u e4))
          · exact hD v ⟨w, w0, by omega, h1, h2⟩)
        refine ⟨r', l1, l2, fun k => ?_⟩
        obtain ⟨M, rfl⟩ : ∃ M, N = M + 1 := ⟨N - 1, by omega⟩
        have rg := n.rng u0 (show u < (gP P g).1 by omega)
        rw [run, if_neg hu, f_X6_looping_L97, n.head u0 (by omega), bn_some, parts_ar (by omega) (by omega), bn_some, ck1_of (by omega) (by omega), ck1_of (by omega) (by omega)]
        by_cases c4 : ar (GP (gP P g) u 0) ≤ 0
        · rw [if_pos c4]; exact l3 k
        · rw [if_neg c4, ck1_of (by omega) (by omega), if_pos rfl]; exact l3 k
theorem lm_times {N : Nat} (hN : 20000 ≤ N) {P : PL} {m : Bd} {a g : Int} (n : Nm P m a g) {c : Int} (c0 : 0 ≤ c) (c1 : c < (gP P g).1) (x2 : Int) : ∀ (f d : Nat) (r : Int), (gP P g).1 + 1 - d < f → (d : Int) ≤ (gP P g).1 + 1 → (∀ v, 0 ≤ v → v < (gP P g).1 → bt r v = true → Rc (gP P g) c v) → (∀ e : Nat, e < d → ∀ v, Pr (gP P g) c e v → bt r v = true) →
    ∃ r', (∀ v, 0 ≤ v → v < (gP P g).1 → (bt r' v = true ↔ Rc (gP P g) c v)) ∧ ∀ k, f_X6_looping_L35 N m a x2 c k f r d = k r' := by
  have s := n.sz
  obtain ⟨a0, a1, p0, p1, gg, e, -⟩ := id n
  intro f
  induction f with
  | zero => intro i r h0 h2; omega
  | succ f ih =>
    intro d r h0 d1 hS hC
    by_cases hx : (gP P g).1 < d
    · refine ⟨r, fun v v0 v1 => ⟨hS v v0 v1, fun h => ?_⟩, fun k => ?_⟩
      · obtain ⟨e, e0, e1⟩ := Pr.short gg c0 c1 h
        exact hC e (by omega) v e1
      · rw [f_X6_looping_L35, ckA_of a0 a1, e, ck1_of (by omega) (by omega), ck1_of (by omega) (by omega), if_pos hx]
    · obtain ⟨r2, l1, l2, l3⟩ := lm_row hN n c0 c1 x2 d (d := d) N 0 r (by omega) (by omega) (by omega) hS hC (fun v hv => by
        obtain ⟨w, w0, w1, _⟩ := hv
        omega)
      obtain ⟨r', k1, k2⟩ := ih (d + 1) r2 (by omega) (by omega) l1 l2
      refine ⟨r', k1, fun k => ?_⟩
      rw [f_X6_looping_L35, ckA_of a0 a1, e, ck1_of (by omega) (by omega), ck1_of (by omega) (by omega), if_neg hx, l3]
      exact k2 k
theorem lm_count {N : Nat} (hN : 20000 ≤ N) {P : PL} {m : Bd} {a g : Int} (n : Nm P m a g) : ∀ (f u : Nat), (gP P g).1 - u < f → (u : Int) ≤ (gP P g).1 → ∀ k, f_X6_looping_L19 N m a k f (nlp (gP P g) u) u = k (nlp (gP P g) (gP P g).1.toNat) := by
  have s := n.sz
  obtain ⟨a0, a1, p0, p1, gg, e, -⟩ := id n
  intro f
  induction f with
  | zero => intro i h0 h2; omega
  | succ f ih =>
    intro u h0 u1 k
    by_cases hx : (gP P g).1 ≤ u
    · rw [f_X6_looping_L19, ckA_of a0 a1, e, ck1_of (by omega) (by omega), ck1_of (by omega) (by omega), if_pos hx, show (gP P g).1.toNat = u by omega]
    · obtain ⟨r, l1, l2⟩ := lm_times hN n (c := u) (by omega) (by omega) (nlp (gP P g) u) N 0 0 (by omega) (by omega) (fun v _ _ h => by rw [bt_zero] at h; exact absurd h (by decide)) (fun e he => by omega)
      have l2 : ∀ k, f_X6_looping_L35 N m a (nlp (gP P g) u) u k N 0 0 = k r := l2
      have lu := l1 u (by omega) (by omega)
      have nx := ih (u + 1) (by omega) (by omega) k
      have e1 : nlp (gP P g) (u + 1) = nlp (gP P g) u + lpB (gP P g) u := rfl
      rw [e1, show ((u + 1 : Nat) : Int) = (u : Int) + 1 by omega] at nx
      rw [f_X6_looping_L19, ckA_of a0 a1, e, ck1_of (by omega) (by omega), ck1_of (by omega) (by omega), if_neg hx, l2, bt_get (by omega) (by omega)]
      by_cases c : bt r u = true
      · rw [lpB_t (lu.mp c)] at nx
        rw [if_pos c, ckL_of (by omega) (by omega), ck1_of (by decide) (by decide), jn_eq, if_neg (by decide)]
        exact nx
      · rw [lpB_f (fun h => c (lu.mpr h))] at nx
        rw [if_neg c, ckL_of (by omega) (by omega), ck1_of (by decide) (by decide), jn_eq, if_pos (by decide)]
        exact nx
theorem looping_step {N : Nat} (hN : 20000 ≤ N) {T : Int} {lt b m ms : Bd} {P : PL} (h : RR T lt b m P) {x : Int} (hx : inR x) : Step1m T b P (f_X5_looping N lt ms P x) (f_X6_looping N m x) := by
  unfold f_X5_looping f_X6_looping
  rcases nm_of h.2.2.2.1 h.2.2.2.2.2.1 hx with ⟨e1, e2⟩ | ⟨g, e1, e2, n⟩
  · simp (disch := omega) only [e1, e2, ↓bn_some, ↓ck1_of, ↓if_pos, ↓if_neg]
    exact bad1m h
  · have s := n.sz
    obtain ⟨a0, a1, p0, p1, gg, e, -⟩ := id n
    obtain ⟨ms', l1⟩ := loopCount_of hN (ms := ms) p0 p1 gg
    have l2 := lm_count hN n N 0 (by omega) (by omega)
    have l2 : ∀ k, f_X6_looping_L19 N m x k N 0 0 = k (nlp (gP P g) (gP P g).1.toNat) := l2
    have r := nlp_rng (gP P g) (gP P g).1.toNat
    simp (disch := omega) only [e1, e2, ↓bn_some, ↓ck1_of, ↓if_pos, ↓if_neg, l1, l2]
    exact ⟨_, lt, ms', m, rfl, rfl, ⟨by omega, by omega⟩, h.up⟩
