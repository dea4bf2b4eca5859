/-! shared, way, signs, swap -/
theorem among_of {N : Nat} (hN : 4000 ≤ N) {P : PL} {gx gy xr : Int} {ms : Bd} (px0 : 0 ≤ gx) (px1 : gx < (P.length : Int)) (py0 : 0 ≤ gy) (py1 : gy < (P.length : Int)) (gX : GOK (gP P gx)) (gY : GOK (gP P gy)) (x0 : 0 ≤ xr) (x1 : xr < (gP P gx).1) : ∃ z ms', f_X3_isAmong N ms P gx xr gy = some (z, ms') ∧ (∀ s : Nat, s ≠ 1 → s ≠ 2 → ms' s = ms s) ∧ (z = 0 ∨ z = 1) ∧ (z = 1 ↔ ∃ j, 0 ≤ j ∧ j < (gP P gy).1 ∧ Eqv (GP (gP P gx)) xr (GP (gP P gy)) j) := by
  have y40 := gY.2
  have y1 := gY.1.1
  unfold f_X3_isAmong
  rcases among_loop hN (ms := ms) px0 px1 py0 py1 gX gY x0 x1 N 0 ms (by omega) (by omega) (by omega) (fun _ _ _ => rfl) (fun j j0 j1 => by omega) with ⟨ms', k1, k2, k3⟩ | ⟨ms', k1, k2, k3⟩
  · exact ⟨0, ms', k3 _, k1, Or.inl rfl, fun h => absurd h (by decide), fun ⟨j, j0, j1, j2⟩ => absurd j2 (k2 j j0 j1)⟩
  · exact ⟨1, ms', k3 _, k1, Or.inr rfl, fun _ => k2, fun _ => rfl⟩
theorem apart_line {m : Bd} {cnt : Int} (hc : cnt ≤ 3400) (h10 : m 10 0 = cnt) (x3 : Int) : ∀ (f : Nat) (i : Int) (m1 : Bd), cnt - i < f → 0 ≤ i → i ≤ cnt → (∀ s : Nat, s ≠ 11 → s ≠ 12 → m1 s = m s) → (∀ v, 0 ≤ v → v < i → m1 11 v = v ∧ m1 12 v = v) → ∃ m', (∀ s : Nat, s ≠ 11 → s ≠ 12 → m' s = m s) ∧ (∀ v, 0 ≤ v → v < cnt → m' 11 v = v ∧ m' 12 v = v) ∧ ∀ k, f_X6_bothApart_L10 x3 k f i m1 = k m' := by
  intro f
  induction f with
  | zero => intro i m1 h0 _ h2; omega
  | succ f ih =>
    intro i m1 h0 i0 i1 hf hd
    have f10 : m1 10 0 = cnt := by rw [hf 10 (by decide) (by decide)]; exact h10
    by_cases hx : cnt ≤ i
    · refine ⟨m1, hf, fun v v0 v1 => hd v v0 (by omega), fun k => ?_⟩
      simp (disch := omega) only [f_X6_bothApart_L10, f10, ↓ck1_of, ↓if_pos]
    · obtain ⟨m', k1, k2, k3⟩ := ih (i + 1) (bS (bS m1 11 (aS (m1 11) i i)) 12 (aS (m1 12) i i)) (by omega) (by omega) (by omega) (fun s s1 s2 => by rw [bS_ne _ _ s2, bS_ne _ _ s1]; exact hf s s1 s2) (fun v v0 v1 => by
        rw [bS_ne _ _ (by decide), bS_eq, bS_eq]
        by_cases c : v = i
        · rw [c, aS_eq, aS_eq]; exact ⟨rfl, rfl⟩
        · rw [aS_ne _ _ c, aS_ne _ _ c]; exact hd v v0 (by omega))
      refine ⟨m', k1, k2, fun k => ?_⟩
      simp (disch := omega) only [f_X6_bothApart_L10, f10, ↓ck1_of, ↓ckA_of, ↓if_neg]
      exact k3 k
/-- both graphs in line, told apart -/
def BA (P : PL) (g g' : Int) (m : Bd) : Prop := m 10 0 = (gP P g).1 + (gP P g').1 ∧ CM (m 9) 0 (gP P g) (gP P g).1 ∧ CM (m 9) (gP P g).1 (gP P g') (gP P g').1 ∧ (∀ k, 0 ≤ k → k < (gP P g).1 + (gP P g').1 → 0 ≤ m 13 k ∧ m 13 k < 81) ∧
  (∀ i j, 0 ≤ i → i < (gP P g).1 → 0 ≤ j → j < (gP P g).1 → (m 13 i = m 13 j ↔ i = j)) ∧ ∀ i j, 0 ≤ i → i < (gP P g).1 → 0 ≤ j → j < (gP P g').1 → (m 13 i = m 13 ((gP P g).1 + j) ↔ Eqv (GP (gP P g)) i (GP (gP P g')) j)
theorem BA.frame {P : PL} {g g' : Int} {m m' : Bd} (h : BA P g g' m) (e9 : m' 9 = m 9) (e10 : m' 10 = m 10) (e13 : m' 13 = m 13) : BA P g g' m' := by
  unfold BA
  rw [e9, e10, e13]
  exact h
theorem apart_of {N : Nat} (hN : 4000 ≤ N) {P : PL} {m : Bd} {a g a' g' : Int} (n : Nm P m a g) (n' : Nm P m a' g') : ∃ m', f_X6_bothApart N m a a' = some ((gP P g).1, m') ∧ (∀ s : Nat, s < 9 → m' s = m s) ∧ BA P g g' m' := by
  have s := n.sz
  have s' := n'.sz
  have gg := n.2.2.2.2.1
  have gg' := n'.2.2.2.2.1
  obtain ⟨m1, q1, q2, q3, q4, q5⟩ := both_of hN n n'
  obtain ⟨m2, l1, l2, l3⟩ := apart_line (m := m1) (cnt := (gP P g).1 + (gP P g').1) (by omega) q3 (gP P g).1 N 0 m1 (by omega) (by omega) (by omega) (fun _ _ _ => rfl) (fun v v0 v1 => by omega)
  have e9 : m2 9 = m1 9 := l1 9 (by decide) (by decide)
  have C1 : CM (m2 9) 0 (gP P g) (gP P g).1 := by rw [e9]; exact q4
  have C2 : CM (m2 9) (gP P g).1 (gP P g') (gP P g').1 := by rw [e9]; exact q5
  have hL : MLine m2 ((gP P g).1 + (gP P g').1) (MG (m2 9)) := by
    refine ⟨by omega, by omega, fun k k0 k1 => ?_⟩
    have e := l2 k k0 k1
    have har := ar_le (MG (m2 9) k 0)
    rw [e.1]
    have key : PW (m2 9 k) ∧ MG (m2 9) k 0 ≤ 6 ∧ ∀ i, 0 ≤ i → i < 2 → 0 ≤ MG (m2 9) k (1 + i) ∧ MG (m2 9) k (1 + i) < (gP P g).1 + (gP P g').1 := by
      by_cases c : k < (gP P g).1
      · have r := C1.rng gg (v := k) (by omega) (by omega)
        exact ⟨r.1, by omega, fun i i0 i1 => two (Q := fun j => 0 ≤ MG (m2 9) k j ∧ MG (m2 9) k j < (gP P g).1 + (gP P g').1) (by omega) (by omega) i0 i1⟩
      · have r := C2.rng gg' (v := k) (by omega) (by omega)
        exact ⟨r.1, by omega, fun i i0 i1 => two (Q := fun j => 0 ≤ MG (m2 9) k j ∧ MG (m2 9) k j < (gP P g).1 + (gP P g').1) (by omega) (by omega) i0 i1⟩
    refine ⟨k0, by omega, key.1, key.2.1, rfl, fun i i0 i1 => ?_⟩
    have q := key.2.2 i i0 (by omega)
    exact ⟨q.1, by omega, (l2 _ q.1 q.2).2.symm, q.1, q.2⟩
  obtain ⟨c, m3, t1, t2, t3⟩ := tells_of hN hL (most := 80) (by omega) (by omega)
  have e93 : m3 9 = m2 9 := t2 9 (by decide) (by decide) (by decide)
  have D1 : CM (m3 9) 0 (gP P g) (gP P g).1 := by rw [e93]; exact C1
  have D2 : CM (m3 9) (gP P g).1 (gP P g') (gP P g').1 := by rw [e93]; exact C2
  refine ⟨m3, ?_, fun s hs => by rw [t2 s (by omega) (by omega) (by omega), l1 s (by omega) (by omega), q2 s (by omega) (by omega)], ?_⟩
  · unfold f_X6_bothApart
    rw [q1, bn_some]
    dsimp only
    rw [l3]
    have e10 : m2 10 0 = (gP P g).1 + (gP P g').1 := by rw [l1 10 (by decide) (by decide)]; exact q3
    rw [e10, t1, bn_some]
  · rcases t3 with ⟨u1, u2, u3, u4, -⟩ | ⟨-, t, f, f1, f2⟩
    · refine ⟨by rw [t2 10 (by decide) (by decide) (by decide), l1 10 (by decide) (by decide)]; exact q3, D1, D2, fun k k0 k1 => ?_, fun i j i0 i1 j0 j1 => ?_, fun i j i0 i1 j0 j1 => ?_⟩
      · have := u3.1 k k0 k1
        omega
      · have a1 := C1.eqv gg i0 i1
        have a2 := C1.eqv gg j0 j1
        rw [show 0 + i = i by omega] at a1
        rw [show 0 + j = j by omega] at a2
        rw [u4 i j i0 (by omega) j0 (by omega)]
        constructor
        · intro e
          exact gg.1.2.2.2.2.1 i j i0 i1 j0 j1 (a1.symm.trans (e.trans a2))
        · intro e
          rw [e]
          exact Eqv.rfl'
      · have a1 := C1.eqv gg i0 i1
        have a2 := C2.eqv gg' j0 j1
        rw [show 0 + i = i by omega] at a1
        rw [u4 i ((gP P g).1 + j) i0 (by omega) (by omega) (by omega)]
        constructor
        · intro e
          exact a1.symm.trans (e.trans a2)
        · intro e
          exact a1.trans (e.trans a2.symm)
    · exfalso
      have := few (r := fun a => f a.toNat) (n := 81) (cnt := (gP P g).1 + (gP P g').1) (by omega) (fun j j0 j1 => f1 j.toNat (by omega)) (fun j k j0 j1 k0 k1 e => by
        rcases Int.lt_trichotomy j k with c | c | c
        · exfalso
          refine f2 j.toNat k.toNat (by omega) (by omega) ?_
          have e : f j.toNat = f k.toNat := e
          rw [e]
          exact fun p _ => rfl
        · exact c
        · exfalso
          refine f2 k.toNat j.toNat (by omega) (by omega) ?_
          have e : f j.toNat = f k.toNat := e
          rw [e]
          exact fun p _ => rfl)
      omega
/-- as Step1, for a call that uses a bench of its own -/
def Step1m (T : Int) (b : Bd) (P : PL) (p : Option (Int × Bd × Bd)) (q : Option (Int × Bd)) : Prop := ∃ v lt' x' m', p = some (v, lt', x') ∧ q = some (v, m') ∧ inR v ∧ RR (T + 1) lt' b m' P
theorem bad1m {T : Int} {lt b m x : Bd} {P : PL} (h : RR T lt b m P) : Step1m T b P (bn (f_X5_refuseBad lt) fun q => some (q.1, q.2, x)) (bn (f_X6_refuses m (-2)) fun q => some (q.1, q.2)) := by
  obtain ⟨lt', m', e1, e2, r⟩ := refBad h
  rw [e1, e2, bn_some, bn_some]
  exact ⟨-2, lt', x, m', rfl, rfl, by decide, r⟩
theorem shr_in {m : Bd} {cnt k0 : Int} (h10 : m 10 0 = cnt) (hc : cnt ≤ 3400) (k00 : 0 ≤ k0) (k01 : k0 < 3400) (x3 x4 : Int) (hr : ∀ j, 0 ≤ j → j < cnt → 0 ≤ m 13 j ∧ m 13 j < 81) (hk : 0 ≤ m 13 k0 ∧ m 13 k0 < 81) : ∀ (f : Nat) (j z : Int), cnt - j < f → 0 ≤ j → j ≤ cnt → (z = 0 ∨ z = 1) → ∃ z', (z' = 0 ∨ z' = 1) ∧ (z' = 1 ↔ (z = 1 ∨ ∃ i, j ≤ i ∧ i < cnt ∧ m 13 i = m 13 k0)) ∧ ∀ k, f_X6_shared_L48 m x3 x4 k0 k f z j = k z' := by
  intro f
  induction f with
  | zero => intro j z h0 _ h2; omega
  | succ f ih =>
    intro j z h0 j0 j1 hz
    by_cases hx : cnt ≤ j
    · refine ⟨z, hz, ⟨fun h => Or.inl h, fun h => ?_⟩, fun k => ?_⟩
      · rcases h with h | ⟨i, i0, i1, _⟩
        · exact h
        · omega
      · simp (disch := omega) only [f_X6_shared_L48, h10, ↓ck1_of, ↓if_pos]
    · have r := hr j j0 (by omega)
      by_cases hz1 : z = 1
      · subst hz1
        obtain ⟨z', a1, a2, a3⟩ := ih (j + 1) 1 (by omega) (by omega) (by omega) (Or.inr rfl)
        refine ⟨z', a1, ⟨fun _ => Or.inl rfl, fun _ => a2.mpr (Or.inl rfl)⟩, fun k => ?_⟩
        simp (disch := omega) only [f_X6_shared_L48, h10, ↓ck1_of, ↓if_pos, ↓if_neg]
        exact a3 k
      · have hz0 : z = 0 := by omega
        subst hz0
        by_cases c : m 13 j = m 13 k0
        · obtain ⟨z', a1, a2, a3⟩ := ih (j + 1) 1 (by omega) (by omega) (by omega) (Or.inr rfl)
          refine ⟨z', a1, ⟨fun _ => Or.inr ⟨j, by omega, by omega, c⟩, fun _ => a2.mpr (Or.inl rfl)⟩, fun k => ?_⟩
          simp (disch := omega) only [f_X6_shared_L48, h10, ↓ck1_of, ↓ckA_of, ↓if_neg]
          exact a3 k
        · obtain ⟨z', a1, a2, a3⟩ := ih (j + 1) 0 (by omega) (by omega) (by omega) (Or.inl rfl)
          refine ⟨z', a1, ⟨fun h => ?_, fun h => a2.mpr ?_⟩, fun k => ?_⟩
          · rcases a2.mp h with q | ⟨i, i0, i1, i2⟩
            · omega
            · exact Or.inr ⟨i, by omega, i1, i2⟩
          · rcases h with q | ⟨i, i0, i1, i2⟩
            · omega
            · refine Or.inr ⟨i, ?_, i1, i2⟩
              by_cases e : i = j
              · subst e; exact absurd i2 c
              · omega
          · simp (disch := omega) only [f_X6_shared_L48, h10, ↓ck1_of, ↓ckA_of, ↓if_neg, ↓if_pos]
            exact a3 k
theorem shr_out {N : Nat} (hN : 4000 ≤ N) {P : PL} {m ms : Bd} {g g' : Int} (p0 : 0 ≤ g) (p1 : g < (P.length : Int)) (p0' : 0 ≤ g') (p1' : g' < (P.length : Int)) (gg : GOK (gP P g)) (gg' : GOK (gP P g')) (hB : BA P g g' m) : ∀ (f : Nat) (i acc : Int) (ms1 : Bd), (gP P g).1 - i < f → 0 ≤ i → i ≤ (gP P g).1 → 0 ≤ acc → acc ≤ i → ∃ v ms', 0 ≤ v ∧ v ≤ 40 ∧ (∀ k, f_X3_commonCount_L5 N P g g' k f acc i ms1 = k v ms') ∧ (∀ k, f_X6_shared_L36 N m (gP P g).1 k f acc i = k v) := by
  have x40 := gg.2
  have y40 := gg'.2
  have y1 := gg'.1.1
  obtain ⟨h10, C1, C2, hr, hI, hE⟩ := hB
  intro f
  induction f with
  | zero => intro i acc ms1 h0 _ h2; omega
  | succ f ih =>
    intro i acc ms1 h0 i0 i1 c0 c1
    by_cases hx : (gP P g).1 ≤ i
    · refine ⟨acc, ms1, by omega, by omega, fun k => ?_, fun k => ?_⟩
      · simp (disch := omega) only [f_X3_commonCount_L5, ↓ck1_of, ↓ckG_of, ↓if_pos]
      · simp (disch := omega) only [f_X6_shared_L36, ↓ck1_of, ↓if_pos]
    · obtain ⟨z, ms2, e1, e2, e3, e4⟩ := among_of hN (ms := ms1) p0 p1 p0' p1' gg gg' i0 (show i < (gP P g).1 by omega)
      obtain ⟨z', a1, a2, a3⟩ := shr_in (m := m) (cnt := (gP P g).1 + (gP P g').1) (k0 := i) h10 (by omega) i0 (by omega) (gP P g).1 acc hr (hr i i0 (by omega)) N (gP P g).1 0 (by omega) (by omega) (by omega) (Or.inl rfl)
      have ez : z' = 1 ↔ z = 1 := by
        rw [a2, e4]
        constructor
        · rintro (q | ⟨j, j0, j1, j2⟩)
          · omega
          · refine ⟨j - (gP P g).1, by omega, by omega, (hE i (j - (gP P g).1) i0 (by omega) (by omega) (by omega)).mp ?_⟩
            rw [show (gP P g).1 + (j - (gP P g).1) = j by omega]
            exact j2.symm
        · rintro ⟨j, j0, j1, j2⟩
          exact Or.inr ⟨(gP P g).1 + j, by omega, by omega, ((hE i j i0 (by omega) j0 j1).mpr j2).symm⟩
      have ez' : z' = z := by omega
      subst ez'
      rcases e3 with rfl | rfl
      · obtain ⟨v, ms', v0, v1, k1, k2⟩ := ih (i + 1) acc ms2 (by omega) (by omega) (by omega) (by omega) (by omega)
        refine ⟨v, ms', v0, v1, fun k => ?_, fun k => ?_⟩
        · simp (disch := omega) only [f_X3_commonCount_L5, ↓ck1_of, ↓ckG_of, ↓if_neg, ↓if_pos, e1, ↓bn_some]
          exact k1 k
        · simp (disch := omega) only [f_X6_shared_L36, ↓ck1_of, ↓if_neg, ↓if_pos, a3, ↓jn_eq, Int.add_zero]
          exact k2 k
      · obtain ⟨v, ms', v0, v1, k1, k2⟩ := ih (i + 1) (acc + 1) ms2 (by omega) (by omega) (by omega) (by omega) (by omega)
        refine ⟨v, ms', v0, v1, fun k => ?_, fun k => ?_⟩
        · simp (disch := omega) only [f_X3_commonCount_L5, ↓ck1_of, ↓ckG_of, ↓if_neg, ↓if_pos, e1, ↓bn_some]
          exact k1 k
        · simp (disch := omega) only [f_X6_shared_L36, ↓ck1_of, ↓if_neg, ↓if_pos, a3, ↓jn_eq]
          exact k2 k
theorem shared_step {N : Nat} (hN : 4000 ≤ N) {T : Int} {lt b m ms : Bd} {P : PL} (h : RR T lt b m P) {x y : Int} (hx : inR x) (hy : inR y) : Step1m T b P (f_X5_shared N lt ms P x y) (f_X6_shared N m x y) := by
  unfold f_X5_shared f_X6_shared
  rcases nm_of h.2.2.2.1 h.2.2.2.2.2.1 hx with ⟨e1, e2⟩ | ⟨g, e1, e2, n⟩
  · rcases nm_of h.2.2.2.1 h.2.2.2.2.2.1 hy with ⟨e3, e4⟩ | ⟨g', e3, e4, n'⟩
    · simp (disch := omega) only [e1, e2, e3, ↓bn_some, ↓jn_eq, ↓ck1_of, ↓if_pos]
      exact bad1m h
    · simp (disch := omega) only [e1, e2, e3, ↓bn_some, ↓jn_eq, ↓ck1_of, ↓if_pos]
      exact bad1m h
  · have s := n.sz
    obtain ⟨a0, a1, p0, p1, gg, e, -⟩ := id n
    rcases nm_of h.2.2.2.1 h.2.2.2.2.2.1 hy with ⟨e3, e4⟩ | ⟨g', e3, e4, n'⟩
    · simp (disch := omega) only [e1, e2, e3, e4, ↓bn_some, ↓jn_eq, ↓ck1_of, ↓if_pos, ↓if_neg]
      exact bad1m h
    · have s' := n'.sz
      obtain ⟨a0', a1', p0', p1', gg', e', -⟩ := id n'
      obtain ⟨m1, k1, k2, k3⟩ := apart_of hN n n'
      obtain ⟨v, ms', v0, v1, l1, l2⟩ := shr_out hN (ms := ms) p0 p1 p0' p1' gg gg' k3 N 0 0 ms (by omega) (by omega) (by omega) (by omega) (by omega)
      simp (disch := omega) only [e1, e2, e3, e4, ↓bn_some, ↓jn_eq, ↓ck1_of, ↓if_pos, ↓if_neg, f_X3_commonCount, k1, l1, l2]
      exact ⟨v, lt, ms', m1, rfl, rfl, ⟨by omega, by omega⟩, h.up.frame (fun _ _ _ => rfl) rfl k2⟩
