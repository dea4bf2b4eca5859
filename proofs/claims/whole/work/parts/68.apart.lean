/-! apart -/
def CH (F : Int → Int) (a : Int) : Nat → Prop
  | 0 => a = 0
  | d + 1 => 1 ≤ a ∧ CH F (F a) d
theorem LO.chain {O F S : Int → Int} {n : Int} (h : LO O F S n) : ∀ a, 0 ≤ a → a < n → ∃ d : Nat, (d : Int) ≤ a ∧ CH F a d := by
  refine int_rec (fun a => a < n → ∃ d : Nat, (d : Int) ≤ a ∧ CH F a d) (fun a a0 ih an => ?_)
  by_cases e : a = 0
  · exact ⟨0, by omega, e⟩
  · have q := h.2.2 a (by omega) an
    obtain ⟨d, d0, d1⟩ := ih (F a) q.1 q.2.1 (by omega)
    exact ⟨d + 1, by omega, by omega, d1⟩
theorem half {u v : Int} (u0 : 0 ≤ u) (v0 : 0 ≤ v) (v1 : v < 2) : Int.tdiv (2 * u + v) 2 = u ∧ Int.tmod (2 * u + v) 2 = v := by
  rw [Int.tdiv_eq_ediv_of_nonneg (by omega), Int.tmod_eq_emod_of_nonneg (by omega)]
  omega
theorem count_lock {c m : Bd} {n : Int} (h3 : c 3 0 = n) (n1 : n ≤ 3200) (h : LO (c 4) (m 20) (m 21) n) (x3 x5 : Int) : ∀ (d f : Nat) (a acc : Int), d < f → CH (m 20) a d → 0 ≤ a → a < n → 0 ≤ acc → acc + d < 3200 → (∀ k, f_X1_stepCount_L4 c k f acc a = k (acc + d)) ∧ ∀ k, f_X6_apart_L68 m x3 x5 k f acc a = k (acc + d) := by
  intro d
  induction d with
  | zero =>
    intro f a acc hf hc a0 a1 c0 c1
    have e : a = 0 := hc
    subst e
    obtain ⟨f, rfl⟩ : ∃ g, f = g + 1 := ⟨f - 1, by omega⟩
    have h1 := h.1
    have h2 := h.2.1
    rw [show acc + ((0 : Nat) : Int) = acc by omega]
    refine ⟨fun k => ?_, fun k => ?_⟩
    · rw [f_X1_stepCount_L4, ck1_of (by omega) (by omega), if_neg (by omega), h3, ck1_of (by omega) (by omega), if_neg (by omega), ckA_of (by omega) (by omega), ck1_of (by omega) (by omega), if_pos h1]
    · rw [f_X6_apart_L68, ckA_of (by omega) (by omega), ck1_of (by omega) (by omega), if_pos (by omega)]
  | succ d ih =>
    intro f a acc hf hc a0 a1 c0 c1
    have hc1 : 1 ≤ a ∧ CH (m 20) (m 20 a) d := hc
    obtain ⟨f, rfl⟩ : ∃ g, f = g + 1 := ⟨f - 1, by omega⟩
    have q := h.2.2 a hc1.1 a1
    have hf2 := half q.1 q.2.2.1 q.2.2.2.1
    obtain ⟨k1, k2⟩ := ih f (m 20 a) (acc + 1) (by omega) hc1.2 q.1 (by omega) (by omega) (by omega)
    rw [show acc + ((d + 1 : Nat) : Int) = acc + 1 + (d : Int) by omega]
    refine ⟨fun k => ?_, fun k => ?_⟩
    · rw [f_X1_stepCount_L4, ck1_of (by omega) (by omega), if_neg (by omega), h3, ck1_of (by omega) (by omega), if_neg (by omega), ckA_of (by omega) (by omega), ck1_of (by omega) (by omega), if_neg (by omega), ck1_of (by omega) (by omega), if_neg (by omega), q.2.2.2.2, hf2.1]
      exact k1 k
    · rw [f_X6_apart_L68, ckA_of (by omega) (by omega), ck1_of (by omega) (by omega), if_neg (by omega)]
      exact k2 k
theorem last_lock {c m : Bd} {n : Int} (h3 : c 3 0 = n) (n1 : n ≤ 3200) (h : LO (c 4) (m 20) (m 21) n) {x2 x3 : Int} (x20 : 0 ≤ x2) (x21 : x2 ≤ 3200) (x30 : 0 ≤ x3) (x31 : x3 ≤ 3200) : ∀ (r f d : Nat) (a i b : Int), r < f → CH (m 20) a d → r ≤ d → 0 ≤ a → a < n → 0 ≤ i → x2 = i + r → b = x3 + r → ∃ a', 0 ≤ a' ∧ a' < n ∧ CH (m 20) a' (d - r) ∧ (∀ k, f_X1_lastStep_L5 c x2 k f a i = k a') ∧ ∀ k, f_X6_apart_L120 m x3 k f a b = k a' := by
  intro r
  induction r with
  | zero =>
    intro f d a i b hf hc hr a0 a1 i0 hi hb
    obtain ⟨f, rfl⟩ : ∃ g, f = g + 1 := ⟨f - 1, by omega⟩
    refine ⟨a, a0, a1, hc, fun k => ?_, fun k => ?_⟩
    · rw [f_X1_lastStep_L5, ck1_of (by omega) (by omega), ck1_of (by omega) (by omega), if_pos (by omega)]
    · rw [f_X6_apart_L120, ck1_of (by omega) (by omega), ck1_of (by omega) (by omega), if_pos (by omega)]
  | succ r ih =>
    intro f d a i b hf hc hr a0 a1 i0 hi hb
    obtain ⟨f, rfl⟩ : ∃ g, f = g + 1 := ⟨f - 1, by omega⟩
    obtain ⟨d, rfl⟩ : ∃ g, d = g + 1 := ⟨d - 1, by omega⟩
    have hc1 : 1 ≤ a ∧ CH (m 20) (m 20 a) d := hc
    have q := h.2.2 a hc1.1 a1
    have hf2 := half q.1 q.2.2.1 q.2.2.2.1
    obtain ⟨a', l1, l2, l3, l4, l5⟩ := ih f d (m 20 a) (i + 1) (b + -1) (by omega) hc1.2 (by omega) q.1 (by omega) (by omega) (by omega) (by omega)
    refine ⟨a', l1, l2, by rw [show d + 1 - (r + 1) = d - r by omega]; exact l3, fun k => ?_, fun k => ?_⟩
    · rw [f_X1_lastStep_L5, ck1_of (by omega) (by omega), ck1_of (by omega) (by omega), if_neg (by omega), ck1_of (by omega) (by omega), if_neg (by omega), h3, ck1_of (by omega) (by omega), if_neg (by omega), ckA_of (by omega) (by omega), ck1_of (by omega) (by omega), q.2.2.2.2, hf2.1]
      exact l4 k
    · rw [f_X6_apart_L120, ck1_of (by omega) (by omega), ck1_of (by omega) (by omega), if_neg (by omega), ckA_of (by omega) (by omega)]
      exact l5 k
theorem apart_bad {T : Int} {lt b m x : Bd} {P : PL} (h : RR T lt b m P) : Step1m T b P (bn (f_X5_refuseBad lt) fun q => some ((-10), q.2, x)) (bn (f_X6_refuses m (-2)) fun q => some (q.1 - 8, q.2)) := by
  obtain ⟨lt', m', e1, e2, r⟩ := refBad h
  rw [e1, e2, bn_some, bn_some]
  exact ⟨-10, lt', x, m', rfl, rfl, by decide, r⟩
theorem apart_step {N : Nat} (hN : 20000 ≤ N) {T : Int} {lt b m c : Bd} {P : PL} (h : RR T lt b m P) {x y z : Int} (hx : inR x) (hy : inR y) (hz : inR z) : Step1m T b P (f_X5_apart N lt c P x y z) (f_X6_apart N m x y z) := by
  unfold f_X5_apart f_X6_apart
  obtain ⟨z0, z1⟩ := hz
  rcases nm_of h.2.2.2.1 h.2.2.2.2.2.1 hx with ⟨e1, e2⟩ | ⟨g, e1, e2, n⟩
  · rcases nm_of h.2.2.2.1 h.2.2.2.2.2.1 hy with ⟨e3, e4⟩ | ⟨g', e3, e4, n'⟩
    · simp (disch := omega) only [e1, e2, e3, ↓bn_some, ↓jn_eq, ↓ck1_of, ↓if_pos]
      exact apart_bad h
    · simp (disch := omega) only [e1, e2, e3, ↓bn_some, ↓jn_eq, ↓ck1_of, ↓if_pos]
      exact apart_bad h
  · have s := n.sz
    obtain ⟨a0, a1, p0, p1, gg, e, -⟩ := id n
    rcases nm_of h.2.2.2.1 h.2.2.2.2.2.1 hy with ⟨e3, e4⟩ | ⟨g', e3, e4, n'⟩
    · simp (disch := omega) only [e1, e2, e3, e4, ↓bn_some, ↓jn_eq, ↓ck1_of, ↓if_pos, ↓if_neg]
      exact apart_bad h
    · have s' := n'.sz
      obtain ⟨a0', a1', p0', p1', gg', e', -⟩ := id n'
      by_cases cz : -1 ≤ z
      · obtain ⟨m1, q1, q2, q3, q4, q5⟩ := both_of (N := N) (by omega) n n'
        obtain ⟨kk1, kk2, kk3⟩ := h.2.1
        obtain ⟨r, n2, c2, m2, f1, f2, f3, f4, f5, f6, f7⟩ := ff_of hN (m := m1) (c0 := c) p0 p1 p0' p1' gg gg' ⟨q4, q5⟩ q3 (kd := lt 2 0) (by rw [q2 6 (by decide) (by decide), kk1]) (by omega) (by omega)
        have fr : RR (T + 1) lt b m2 P := h.up.frame (fun _ _ _ => rfl) rfl (fun s hs => by rw [f1 s (by omega), q2 s (by omega) (by omega)])
        rw [e1, e2, bn_some, bn_some, e3, bn_some, jn_eq, jn_eq, if_neg (show ¬ g < 0 by omega), if_neg (show ¬ g' < 0 by omega), ck1_of (show -2147483648 ≤ (1 : Int) by omega) (by omega), if_neg (show ¬ (1 : Int) = 0 by decide), e4, bn_some, ck1_of (show -2147483648 ≤ (1 : Int) by omega) (by omega), if_neg (show ¬ (1 : Int) = 0 by decide), ck1_of z0 z1, ck1_of z0 z1, if_pos cz, if_pos cz, q1, bn_some]
        dsimp only
        rw [f6, f7, bn_some, bn_some]
        dsimp only
        rw [ck1_of (show -2147483648 ≤ r by omega) (by omega), ck1_of (show -2147483648 ≤ r by omega) (by omega)]
        by_cases hr : r = -1
        · rw [if_neg (fun h => h hr), if_neg (fun h => h hr)]
          exact ⟨-6, lt, c2, m2, rfl, rfl, by decide, fr⟩
        · have r0 : 0 ≤ r ∧ r < n2 := by omega
          obtain ⟨d, d0, d1⟩ := f2.chain r r0.1 r0.2
          obtain ⟨k1, k2⟩ := count_lock f4 f3 f2 z r d N r 0 (by omega) d1 r0.1 r0.2 (by omega) (by omega)
          rw [show (0 : Int) + d = d by omega] at k1 k2
          rw [if_pos hr, if_pos hr, k2]
          unfold f_X1_stepCount
          rw [k1, bn_some]
          by_cases c1 : z = -1
          · rw [if_neg (fun h => h c1), if_neg (fun h => h c1)]
            exact ⟨d, lt, c2, m2, rfl, rfl, ⟨by omega, by omega⟩, fr⟩
          · rw [if_pos c1, if_pos c1, ck1_of (show -2147483648 ≤ (d : Int) by omega) (by omega), ck1_of (show -2147483648 ≤ (d : Int) by omega) (by omega)]
            by_cases c3 : z < d
            · obtain ⟨w, hw⟩ : ∃ w : Nat, (w : Int) = d - 1 - z := ⟨((d : Int) - 1 - z).toNat, by omega⟩
              obtain ⟨a', l1, l2, l3, l4, l5⟩ := last_lock f4 f3 f2 (x2 := d - 1 - z) (x3 := z) (by omega) (by omega) (by omega) (by omega) w N d r 0 (d - 1) (by omega) d1 (by omega) r0.1 r0.2 (by omega) (by omega) (by omega)
              rw [show d - w = (z.toNat) + 1 by omega] at l3
              have l31 : 1 ≤ a' := l3.1
              have q := f2.2.2 a' l31 l2
              have hf2 := half q.1 q.2.2.1 q.2.2.2.1
              rw [if_pos c3, if_pos c3, l5, ckA_of l1 (by omega)]
              unfold f_X1_lastStep
              rw [l4, ck1_of (by omega) (by omega), if_neg (by omega), f4, ck1_of (by omega) (by omega), if_neg (by omega), ckA_of l1 (by omega), q.2.2.2.2, ck1_of (by omega) (by omega), hf2.2, bn_some]
              exact ⟨m2 21 a', lt, c2, m2, rfl, rfl, ⟨by omega, by omega⟩, fr⟩
            · rw [if_neg c3, if_neg c3]
              exact ⟨-5, lt, c2, m2, rfl, rfl, by decide, fr⟩
      · simp (disch := omega) only [e1, e2, e3, e4, ↓bn_some, ↓jn_eq, ↓ck1_of, ↓if_pos, ↓if_neg]
        exact apart_bad h
