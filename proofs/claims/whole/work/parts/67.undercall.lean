/-! under, apart: the calls -/
theorem wf_head {P : PL} {hx hy : Int} {w : Int → Int} (hw : WX P hx hy w) {a x y : Int} (hi : IN (gP P hx).1 (gP P hy).1 a x y) : f_X6_headOf (wf P hx w a x y) = some (if a = 0 then GP (gP P hx) x 0 else GP (gP P hy) y 0) ∧ f_X6_headOf (ws2 P hx w a x y) = some (if a = 0 then GP (gP P hy) y 0 else GP (gP P hx) x 0) := by
  obtain ⟨ha, w0, w1, w2, w3⟩ := hi
  have l := hw.left w0 w1
  have r := hw.right w2 w3
  unfold wf ws2
  rcases ha with rfl | rfl
  · rw [if_pos rfl, if_pos rfl, if_pos rfl, if_pos rfl]; exact ⟨l.1, r.1⟩
  · rw [if_neg (by decide), if_neg (by decide), if_neg (by decide), if_neg (by decide)]; exact ⟨r.1, l.1⟩
theorem wf_at {P : PL} {hx hy : Int} {w : Int → Int} (gx : GOK (gP P hx)) (gy : GOK (gP P hy)) {a x y : Int} (hi : IN (gP P hx).1 (gP P hy).1 a x y) : (0 ≤ Int.tdiv (en (gP P hx).1 (gP P hy).1 a x y) ((gP P hx).1 + (gP P hy).1) ∧ Int.tdiv (en (gP P hx).1 (gP P hy).1 a x y) ((gP P hx).1 + (gP P hy).1) < 3400 ∧ w (Int.tdiv (en (gP P hx).1 (gP P hy).1 a x y) ((gP P hx).1 + (gP P hy).1)) = wf P hx w a x y) ∧ 0 ≤ Int.tmod (en (gP P hx).1 (gP P hy).1 a x y) ((gP P hx).1 + (gP P hy).1) ∧ Int.tmod (en (gP P hx).1 (gP P hy).1 a x y) ((gP P hx).1 + (gP P hy).1) < 3400 ∧ w (Int.tmod (en (gP P hx).1 (gP P hy).1 a x y) ((gP P hx).1 + (gP P hy).1)) = ws2 P hx w a x y := by
  have q := en_of gx.2 gy.2 hi
  have g1 := gx.2
  have g2 := gy.2
  rw [q.2.2.1, q.2.2.2]
  obtain ⟨ha, w0, w1, w2, w3⟩ := hi
  unfold wf ws2
  rcases ha with rfl | rfl
  · rw [if_pos rfl, if_pos rfl, if_pos rfl, if_pos rfl]; exact ⟨⟨by omega, by omega, rfl⟩, by omega, by omega, rfl⟩
  · rw [if_neg (by decide), if_neg (by decide), if_neg (by decide), if_neg (by decide)]; exact ⟨⟨by omega, by omega, rfl⟩, by omega, by omega, rfl⟩
theorem mp_lock {P : PL} {m : Bd} {hx hy : Int} (gx : GOK (gP P hx)) (gy : GOK (gP P hy)) (hw : WX P hx hy (m 9)) {a x y : Int} (hi : IN (gP P hx).1 (gP P hy).1 a x y) (he : GP (gP P hx) x 0 = GP (gP P hy) y 0) {t kd p g : Int} (hk : m 6 0 = kd) (k0 : 0 ≤ kd) (k1 : kd ≤ 4) (ht : t = if GP (gP P hx) x 0 = 6 ∧ kd ≠ 2 ∧ kd ≠ 4 then 1 else 0) (hg : 0 < ar (GP (gP P hx) x 0) → g = 2) (p0 : 0 ≤ p) : ∀ (f : Nat) (n i : Int) (c1 m1 : Bd), ar (GP (gP P hx) x 0) - i < f → 0 ≤ i → i ≤ ar (GP (gP P hx) x 0) → p < n → (∀ s : Nat, s ≠ 18 → s ≠ 19 → s ≠ 20 → s ≠ 21 → m1 s = m s) → LK P hx hy c1 (m1 19) (m1 18) n → LO (c1 4) (m1 20) (m1 21) n →
    ∃ n' c' m', n ≤ n' ∧ (∀ s : Nat, s ≠ 18 → s ≠ 19 → s ≠ 20 → s ≠ 21 → m' s = m s) ∧ LK P hx hy c' (m' 19) (m' 18) n' ∧ LO (c' 4) (m' 20) (m' 21) n' ∧ (∀ k, f_X1_meetParts_L35 P p t (nu (gP P hx).1 (gP P hy).1 a x y) x y (ar (GP (gP P hx) x 0)) k f i c1 = k c') ∧ (∀ k, f_X6_clash_L132 ((gP P hx).1 + (gP P hy).1) p (wf P hx (m 9) a x y) (ws2 P hx (m 9) a x y) g k f n i m1 = k n' m') := by
  have har := ar_le (GP (gP P hx) x 0)
  have tt : t = 0 ∨ t = 1 := by rw [ht]; split <;> omega
  obtain ⟨ha', w0, w1, w2, w3⟩ := id hi
  have rx := gx.node w0 w1
  have ry := gy.node w2 w3
  intro f
  induction f with
  | zero => intro n i c1 m1 h0 _ h2; omega
  | succ f ih =>
    intro n i c1 m1 h0 i0 i1 pn hf hL hO
    have e9 : m1 9 = m 9 := hf 9 (by decide) (by decide) (by decide) (by decide)
    have e6 : m1 6 0 = kd := by rw [hf 6 (by decide) (by decide) (by decide) (by decide)]; exact hk
    have nle := hL.le
    by_cases hx' : ar (GP (gP P hx) x 0) ≤ i
    · refine ⟨n, c1, m1, Int.le_refl n, hf, hL, hO, fun k => ?_, fun k => ?_⟩
      · rw [f_X1_meetParts_L35, ck1_of (by omega) (by omega), ck1_of (by omega) (by omega), if_pos hx']
      · have hh := (wf_head hw hi).1
        have e : (if a = 0 then GP (gP P hx) x 0 else GP (gP P hy) y 0) = GP (gP P hx) x 0 := by rw [← he]; split <;> rfl
        rw [e] at hh
        rw [f_X6_clash_L132, hh, bn_some, parts_ar (by omega) (by omega), bn_some, ck1_of (by omega) (by omega), ck1_of (by omega) (by omega), if_pos hx']
    · have g2 := hg (by omega)
      subst g2
      have px : 0 ≤ GP (gP P hx) x (1 + i) ∧ GP (gP P hx) x (1 + i) < (gP P hx).1 := two (Q := fun j => 0 ≤ GP (gP P hx) x j ∧ GP (gP P hx) x j < (gP P hx).1) ⟨rx.2.2.1, rx.2.2.2.1⟩ ⟨rx.2.2.2.2.1, rx.2.2.2.2.2⟩ i0 (by omega)
      have py : 0 ≤ GP (gP P hy) y (1 + i) ∧ GP (gP P hy) y (1 + i) < (gP P hy).1 := two (Q := fun j => 0 ≤ GP (gP P hy) y j ∧ GP (gP P hy) y j < (gP P hy).1) ⟨ry.2.2.1, ry.2.2.2.1⟩ ⟨ry.2.2.2.2.1, ry.2.2.2.2.2⟩ i0 (by omega)
      have ta : turnI t i a = 0 ∨ turnI t i a = 1 := by unfold turnI; split <;> omega
      have hi' : IN (gP P hx).1 (gP P hy).1 (turnI t i a) (GP (gP P hx) x (1 + i)) (GP (gP P hy) y (1 + i)) := ⟨ta, px.1, px.2, py.1, py.2⟩
      have nq := nu_of gx.2 gy.2 hi'
      have h6 := hL.2.2.2.2.2 _ _ _ hi'
      have r5 := fun k => mp_run hL.1 hi tt (p := p) ⟨p0, by omega⟩ har.2 k f i0 (show i < ar (GP (gP P hx) x 0) by omega)
      have r6 := fun k hn => cl_run (m1 := m1) gx gy (by rw [e9]; exact hw) hi he e6 k0 k1 ht (p := p) (n := n) ⟨by omega, hn⟩ k f i0 (show i < ar (GP (gP P hx) x 0) by omega) (fun z _ _ ez => by
        rw [ez]
        rcases h6 with ⟨-, h⟩ | ⟨-, h⟩
        · exact Or.inl h
        · exact Or.inr h)
      rw [e9] at r6
      rcases h6 with ⟨h1, h2⟩ | ⟨h1, h2⟩
      · have nlt := hL.lt hi' h1
        obtain ⟨c2, b1, b2, b3, b4, b5, b6, b7⟩ := meet_new (c := c1) (x := 1) (o := 2 * p + i) hL.2.1 (by have := hL.2.2.1; omega) nlt nq.1 nq.2.2.1 h1
        have hL' := hL.new hi' h1 b2 b3 b4 b5 b7
        have hO' := hO.new hL.2.2.1 p0 pn i0 (show i < 2 by omega)
        rw [← b6] at hO'
        obtain ⟨n', c', m', l1, l2, l3, l4, l5, l6⟩ := ih (n + 1) (i + 1) c2 (bS (bS (bS (bS m1 18 (aS (m1 18) (en (gP P hx).1 (gP P hy).1 (turnI t i a) (GP (gP P hx) x (1 + i)) (GP (gP P hy) y (1 + i))) 1)) 19 (aS (m1 19) n (en (gP P hx).1 (gP P hy).1 (turnI t i a) (GP (gP P hx) x (1 + i)) (GP (gP P hy) y (1 + i))))) 20 (aS (m1 20) n p)) 21 (aS (m1 21) n i)) (by omega) (by omega) (by omega) (by omega) (fun s s1 s2 s3 s4 => by rw [bS_ne _ _ s4, bS_ne _ _ s3, bS_ne _ _ s2, bS_ne _ _ s1]; exact hf s s1 s2 s3 s4) (by rw [bS_ne _ _ (by decide), bS_ne _ _ (by decide), bS_eq, bS_ne _ _ (by decide), bS_ne _ _ (by decide), bS_ne _ _ (by decide), bS_eq]; exact hL') (by rw [bS_ne _ _ (by decide), bS_eq, bS_eq]; exact hO')
        refine ⟨n', c', m', by omega, l2, l3, l4, fun k => ?_, fun k => ?_⟩
        · rw [r5, b1, bn_some]; exact l5 k
        · rw [r6 k (by omega), h2, if_neg (by decide)]; exact l6 k
      · have mo := meet_old (c := c1) (x := 1) (o := 2 * p + i) hL.2.1 (by have := hL.2.2.1; omega) nle nq.1 nq.2.2.1 (by rw [h1]; decide) (by rw [h1]; decide)
        obtain ⟨n', c', m', l1, l2, l3, l4, l5, l6⟩ := ih n (i + 1) c1 m1 (by omega) (by omega) (by omega) pn hf hL hO
        refine ⟨n', c', m', by omega, l2, l3, l4, fun k => ?_, fun k => ?_⟩
        · rw [r5, mo, bn_some]; exact l5 k
        · rw [r6 k (by omega), h2, if_pos (by decide)]; exact l6 k
theorem ff_out {N : Nat} (hN : 20000 ≤ N) {P : PL} {m : Bd} {hx hy : Int} (gx : GOK (gP P hx)) (gy : GOK (gP P hy)) (hw : WX P hx hy (m 9)) {kd : Int} (hk : m 6 0 = kd) (k0 : 0 ≤ kd) (k1 : kd ≤ 4) : ∀ (f : Nat) (n p : Int) (c1 m1 : Bd), 3200 - p < f → 0 ≤ p → p ≤ n → (∀ s : Nat, s ≠ 18 → s ≠ 19 → s ≠ 20 → s ≠ 21 → m1 s = m s) → LK P hx hy c1 (m1 19) (m1 18) n → LO (c1 4) (m1 20) (m1 21) n →
    ∃ r n' c' m', (∀ s : Nat, s ≠ 18 → s ≠ 19 → s ≠ 20 → s ≠ 21 → m' s = m s) ∧ LK P hx hy c' (m' 19) (m' 18) n' ∧ LO (c' 4) (m' 20) (m' 21) n' ∧ (r = -1 ∨ (0 ≤ r ∧ r < n')) ∧ f_X1_firstFailing_L22 N P kd (fun (c : Bd) => some ((-1), c)) f p c1 = some (r, c') ∧ f_X6_clash_L66 N ((gP P hx).1 + (gP P hy).1) (fun (m : Bd) => some ((-1), m)) f n p m1 = some (r, m') := by
  have x40 := gx.2
  have y40 := gy.2
  have x1 := gx.1.1
  have y1 := gy.1.1
  intro f
  induction f with
  | zero => intro n p c1 m1 h0 p0 pn _ hL; have := hL.le; omega
  | succ f ih =>
    intro n p c1 m1 h0 p0 pn hf hL hO
    have e9 : m1 9 = m 9 := hf 9 (by decide) (by decide) (by decide) (by decide)
    have e6 : m1 6 0 = kd := by rw [hf 6 (by decide) (by decide) (by decide) (by decide)]; exact hk
    have nle := hL.le
    have h3 := hL.2.1
    rw [f_X1_firstFailing_L22, f_X6_clash_L66, h3, ck1_of (by omega) (by omega), ck1_of (by omega) (by omega), ck1_of (show -2147483648 ≤ p by omega) (by omega), ck1_of (show -2147483648 ≤ n by omega) (by omega)]
    by_cases hp : n ≤ p
    · rw [if_pos hp, if_pos hp]
      exact ⟨-1, n, c1, m1, hf, hL, hO, Or.inl rfl, rfl, rfl⟩
    · obtain ⟨a, x, y, hi, q1, q2, q3⟩ := hL.2.2.2.1 p p0 (by omega)
      obtain ⟨ha', w0, w1, w2, w3⟩ := id hi
      have rx := gx.node w0 w1
      have ry := gy.node w2 w3
      obtain ⟨c00, c10, b0, b1, b2, b3, -, -⟩ := id hL.1
      have wa := wf_at (w := m1 9) gx gy hi
      have wh := wf_head (w := m1 9) (by rw [e9]; exact hw) hi
      have enr := en_of x40 y40 hi
      rw [if_neg hp, if_neg hp, if_neg (by omega), ckA_of p0 (by omega), ckA_of p0 (by omega), q1, q2, ck1_of (by omega) (by omega), ck1_of (by omega) (by omega), ckZ_of (by omega), ckA_of wa.1.1 wa.1.2.1, ckA_of wa.2.1 wa.2.2.1, wa.1.2.2, wa.2.2.2, wh.1, bn_some, wh.2, bn_some, isAbout_of hL.1 hi, bn_some, leftOf_of hL.1 hi, bn_some, c00, ckG_of b0 b1, headAt_of x40 w0 w1, bn_some, rightOf_of hL.1 hi, bn_some, c10, ckG_of b2 b3, headAt_of y40 w2 w3, bn_some]
      -- the heads, first and second
      obtain ⟨z, g, z1, z2, z3, z4, z5, z6, z7⟩ := hg_of (x := if a = 0 then GP (gP P hx) x 0 else GP (gP P hy) y 0) (y := if a = 0 then GP (gP P hy) y 0 else GP (gP P hx) x 0) e6 (by split <;> omega) (by split <;> omega) (by split <;> omega) (by split <;> omega) k0 k1
      rw [z2, bn_some, ck1_of (show -2147483648 ≤ g by omega) (by omega)]
      have heads : ∀ (k : Int → Int → Option (Int × Bd)), (jn (fun (s0 : Int) => jn (fun (s1 : Int) => k s0 s1) fun j110 => ck1 a <| if a = 0 then j110 (GP (gP P hy) y 0) else j110 (GP (gP P hx) x 0)) fun j98 => ck1 a <| if a = 0 then j98 (GP (gP P hx) x 0) else j98 (GP (gP P hy) y 0)) = k (if a = 0 then GP (gP P hx) x 0 else GP (gP P hy) y 0) (if a = 0 then GP (gP P hy) y 0 else GP (gP P hx) x 0) := by
        intro k
        rcases ha' with rfl | rfl
        · simp (disch := omega) only [↓jn_eq, ↓ck1_of, ↓if_pos]
        · simp (disch := omega) only [↓jn_eq, ↓ck1_of, ↓if_neg]
      rw [heads, z1, bn_some, ck1_of (show -2147483648 ≤ z by omega) (by omega)]
      by_cases hz : z = 0
      · rw [if_neg (by omega), if_neg (by have := z4.mp hz; omega)]
        exact ⟨p, n, c1, m1, hf, hL, hO, Or.inr ⟨p0, by omega⟩, rfl, rfl⟩
      · have hg0 : g ≠ 0 := fun h => hz (z4.mpr h)
        have z8 := z7 (by omega)
        rw [if_pos hz, if_pos hg0, ck1_of (by omega) (by omega), ck1_of (by omega) (by omega)]
        by_cases he : GP (gP P hx) x 0 = GP (gP P hy) y 0
        · rw [if_neg (fun h => h he)]
          have hfst : (if a = 0 then GP (gP P hx) x 0 else GP (gP P hy) y 0) = GP (gP P hx) x 0 := by rw [← he]; split <;> rfl
          have hsnd : (if a = 0 then GP (gP P hy) y 0 else GP (gP P hx) x 0) = GP (gP P hx) x 0 := by rw [← he]; split <;> rfl
          rw [hfst, hsnd] at z8
          obtain ⟨t, ht⟩ : ∃ t : Int, t = if GP (gP P hx) x 0 = 6 ∧ kd ≠ 2 ∧ kd ≠ 4 then 1 else 0 := ⟨_, rfl⟩
          obtain ⟨n', c', m', l1, l2, l3, l4, l5, l6⟩ := mp_lock gx gy hw hi he hk k0 k1 ht (g := g) (fun h => z8.mpr ⟨rfl, h⟩) p0 N n 0 c1 m1 (by have := ar_le (GP (gP P hx) x 0); omega) (by omega) (by have := ar_le (GP (gP P hx) x 0); omega) (by omega) hf hL hO
          rw [e9, l6]
          have mp : f_X1_meetParts N c1 P p t = some c' := by
            unfold f_X1_meetParts
            rw [ckA_of p0 (by omega), q1, leftOf_of hL.1 hi, bn_some, rightOf_of hL.1 hi, bn_some, c00, ckG_of b0 b1, partCount_of gx w0 w1, bn_some]
            exact l5 _
          have tail : (jn (fun (s0_149 : Int) => bn (f_X1_meetParts N c1 P p s0_149) fun q156_22 => f_X1_firstFailing_L22 N P kd (fun (c : Bd) => some ((-1), c)) f (p + 1) q156_22) fun j149 => jn (j149 0) fun j148 => if GP (gP P hx) x 0 ≠ 6 then j148 else ck1 kd <| if kd = 2 then j148 else if kd = 4 then j148 else j149 1) = f_X1_firstFailing_L22 N P kd (fun (c : Bd) => some ((-1), c)) f (p + 1) c' := by
            rw [jn_eq, jn_eq]
            by_cases c6 : GP (gP P hx) x 0 = 6
            · rw [if_neg (fun h => h c6), ck1_of (by omega) (by omega)]
              by_cases c2 : kd = 2
              · have t0 : t = 0 := by rw [ht, if_neg (by omega)]
                rw [t0] at mp
                rw [if_pos c2]
                dsimp only
                rw [mp, bn_some]
              · rw [if_neg c2]
                by_cases c4 : kd = 4
                · have t0 : t = 0 := by rw [ht, if_neg (by omega)]
                  rw [t0] at mp
                  rw [if_pos c4]
                  dsimp only
                  rw [mp, bn_some]
                · have t0 : t = 1 := by rw [ht, if_pos ⟨c6, c2, c4⟩]
                  rw [t0] at mp
                  rw [if_neg c4]
                  dsimp only
                  rw [mp, bn_some]
            · have t0 : t = 0 := by rw [ht, if_neg (by omega)]
              rw [t0] at mp
              rw [if_pos c6]
              dsimp only
              rw [mp, bn_some]
          rw [tail]
          exact ih n' (p + 1) c' m' (by omega) (by omega) (by omega) l2 l3 l4
        · rw [if_pos he]
          have hg1 : g ≠ 2 := fun h => by
            have := (z8.mp h).1
            rcases ha' with rfl | rfl
            · rw [if_pos rfl, if_pos rfl] at this; exact he this
            · rw [if_neg (by decide), if_neg (by decide)] at this; exact he this.symm
          have skip : f_X6_clash_L132 ((gP P hx).1 + (gP P hy).1) p (wf P hx (m1 9) a x y) (ws2 P hx (m1 9) a x y) g (fun (x4_132 : Int) (m_132 : Bd) => f_X6_clash_L66 N ((gP P hx).1 + (gP P hy).1) (fun (m : Bd) => some ((-1), m)) f x4_132 (p + 1) m_132) N n 0 m1 = f_X6_clash_L66 N ((gP P hx).1 + (gP P hy).1) (fun (m : Bd) => some ((-1), m)) f n (p + 1) m1 := by
            obtain ⟨M, rfl⟩ : ∃ M, N = M + 1 := ⟨N - 1, by omega⟩
            have har := ar_le (if a = 0 then GP (gP P hx) x 0 else GP (gP P hy) y 0)
            rw [f_X6_clash_L132, wh.1, bn_some, parts_ar (by split <;> omega) (by split <;> omega), bn_some, ck1_of (by omega) (by omega), ck1_of (by omega) (by omega)]
            by_cases c : ar (if a = 0 then GP (gP P hx) x 0 else GP (gP P hy) y 0) ≤ 0
            · rw [if_pos c]
            · rw [if_neg c, ck1_of (by omega) (by omega), if_pos hg1]
          rw [skip]
          exact ih n (p + 1) c1 m1 (by omega) (by omega) (by omega) hf hL hO
theorem clash_init {m : Bd} {W : Int} (w0 : 0 ≤ W) (hW : W * W ≤ 6400) (x1 x2 : Int) : ∀ (f : Nat) (i : Int) (m1 : Bd), W * W - i < f → 0 ≤ i → i ≤ W * W → (∀ s : Nat, s ≠ 18 → m1 s = m s) → (∀ v, 0 ≤ v → v < i → m1 18 v = 0) → ∃ m', (∀ s : Nat, s ≠ 18 → m' s = m s) ∧ (∀ v, 0 ≤ v → v < W * W → m' 18 v = 0) ∧ ∀ k, f_X6_clash_L8 x1 x2 W k f i m1 = k m' := by
  intro f
  induction f with
  | zero => intro i m1 h0 _ h2; omega
  | succ f ih =>
    intro i m1 h0 i0 i1 hf hd
    by_cases hx : W * W ≤ i
    · refine ⟨m1, hf, fun v v0 v1 => hd v v0 (by omega), fun k => ?_⟩
      simp (disch := omega) only [f_X6_clash_L8, ↓ck1_of, ↓if_pos]
    · obtain ⟨m', k1, k2, k3⟩ := ih (i + 1) (bS m1 18 (aS (m1 18) i 0)) (by omega) (by omega) (by omega) (fun s hs => by rw [bS_ne _ _ hs]; exact hf s hs) (fun v v0 v1 => by
        rw [bS_eq]
        by_cases c : v = i
        · rw [c, aS_eq]
        · rw [aS_ne _ _ c]; exact hd v v0 (by omega))
      refine ⟨m', k1, k2, fun k => ?_⟩
      simp (disch := omega) only [f_X6_clash_L8, ↓ck1_of, ↓ckA_of, ↓if_neg]
      exact k3 k
/-- both begin with the roots -/
theorem LK.init {P : PL} {hx hy : Int} {c : Bd} {Q M : Int → Int} (h : CG P c hx hy) (h3 : c 3 0 = 0) (h5 : ∀ a x y, IN (gP P hx).1 (gP P hy).1 a x y → c 5 (nu (gP P hx).1 (gP P hy).1 a x y) = -1) (hM : ∀ v, 0 ≤ v → v < ((gP P hx).1 + (gP P hy).1) * ((gP P hx).1 + (gP P hy).1) → M v = 0) : ∃ c', f_X1_numberOf c P 0 0 0 = some 0 ∧ f_X1_meet c 0 1 (-1) = some c' ∧ LK P hx hy c' (aS Q 0 (gP P hx).1) (aS M (gP P hx).1 1) 1 ∧ c' 4 0 = -1 := by
  have gx := h.2.2.2.2.2.2.1
  have gy := h.2.2.2.2.2.2.2
  have x1 := gx.1.1
  have y1 := gy.1.1
  have x40 := gx.2
  have y40 := gy.2
  have hi : IN (gP P hx).1 (gP P hy).1 0 0 0 := ⟨Or.inl rfl, by omega, by omega, by omega, by omega⟩
  have e0 : nu (gP P hx).1 (gP P hy).1 0 0 0 = 0 := by simp [nu]
  have ee : en (gP P hx).1 (gP P hy).1 0 0 0 = (gP P hx).1 := by unfold en; rw [if_pos rfl, Int.mul_zero]; omega
  have z5 := h5 0 0 0 hi
  rw [e0] at z5
  obtain ⟨c', b1, b2, b3, b4, b5, b6, b7⟩ := meet_new (c := c) (p := 0) (x := 1) (o := -1) h3 (by omega) (by omega) (by omega) (by omega) z5
  refine ⟨c', by rw [numberOf_of h (Or.inl rfl), e0], b1, ⟨h.cong b2 b3, b4, by omega, fun k k0 k1 => ?_, fun j k j0 j1 k0 k1 _ => by omega, fun a x y hj => ?_⟩, by rw [b6, aS_eq]⟩
  · have : k = 0 := by omega
    subst this
    refine ⟨0, 0, 0, hi, by rw [b5, aS_eq, e0], by rw [aS_eq, ee], by rw [b7, e0, aS_eq]⟩
  · rw [b7]
    by_cases e : nu (gP P hx).1 (gP P hy).1 a x y = 0
    · have e' := e
      rw [← e0] at e'
      obtain ⟨rfl, rfl, rfl⟩ := nu_inj x40 y40 hj hi e'
      right
      rw [e, ee, aS_eq, aS_eq]
      exact ⟨rfl, rfl⟩
    · left
      rw [aS_ne _ _ e, aS_ne _ _ (fun h => e (by
        have h' : en (gP P hx).1 (gP P hy).1 a x y = en (gP P hx).1 (gP P hy).1 0 0 0 := by rw [ee]; exact h
        obtain ⟨rfl, rfl, rfl⟩ := en_inj x40 y40 hj hi h'
        exact e0))]
      refine ⟨h5 a x y hj, hM _ (en_of x40 y40 hj).1 ?_⟩
      -- below W * W
      obtain ⟨ha, w0, w1, w2, w3⟩ := hj
      unfold en
      rcases ha with rfl | rfl
      · rw [if_pos rfl]
        have u : ((gP P hx).1 + (gP P hy).1) * (x + 1) ≤ ((gP P hx).1 + (gP P hy).1) * ((gP P hx).1 + (gP P hy).1) := Int.mul_le_mul_of_nonneg_left (by omega) (by omega)
        rw [Int.mul_add, Int.mul_one] at u
        omega
      · rw [if_neg (by decide)]
        have u : ((gP P hx).1 + (gP P hy).1) * ((gP P hx).1 + y + 1) ≤ ((gP P hx).1 + (gP P hy).1) * ((gP P hx).1 + (gP P hy).1) := Int.mul_le_mul_of_nonneg_left (by omega) (by omega)
        rw [Int.mul_add ((gP P hx).1 + (gP P hy).1) ((gP P hx).1 + y), Int.mul_one] at u
        omega
/-- firstFailing against clash -/
theorem ff_of {N : Nat} (hN : 20000 ≤ N) {P : PL} {m c0 : Bd} {hx hy : Int} (x0 : 0 ≤ hx) (x1 : hx < (P.length : Int)) (y0 : 0 ≤ hy) (y1 : hy < (P.length : Int)) (gx : GOK (gP P hx)) (gy : GOK (gP P hy)) (hw : WX P hx hy (m 9)) (h10 : m 10 0 = (gP P hx).1 + (gP P hy).1) {kd : Int} (hk : m 6 0 = kd) (k0 : 0 ≤ kd) (k1 : kd ≤ 4) : ∃ r n c m', (∀ s : Nat, s < 18 → m' s = m s) ∧ LO (c 4) (m' 20) (m' 21) n ∧ n ≤ 3200 ∧ c 3 0 = n ∧ (r = -1 ∨ (0 ≤ r ∧ r < n)) ∧ f_X1_firstFailing N c0 P hx hy kd = some (r, c) ∧ f_X6_clash N m 0 (gP P hx).1 = some (r, m') := by
  have g1 := gx.1.1
  have g2 := gy.1.1
  have g3 := gx.2
  have g4 := gy.2
  have WW : ((gP P hx).1 + (gP P hy).1) * ((gP P hx).1 + (gP P hy).1) ≤ 80 * 80 := Int.mul_le_mul (by omega) (by omega) (by omega) (by omega)
  have WW0 : 0 ≤ ((gP P hx).1 + (gP P hy).1) * ((gP P hx).1 + (gP P hy).1) := Int.mul_nonneg (by omega) (by omega)
  obtain ⟨c1, a1, a2, a3, a4⟩ := cstart_of hN (c0 := c0) x0 x1 y0 y1 gx gy
  obtain ⟨m1, d1, d2, d3⟩ := clash_init (m := m) (W := (gP P hx).1 + (gP P hy).1) (by omega) (by omega) 0 (gP P hx).1 N 0 m (by omega) (by omega) (by omega) (fun _ _ => rfl) (fun v v0 v1 => by omega)
  obtain ⟨c2, i1, i2, i3, i4⟩ := LK.init (Q := m1 19) (M := m1 18) a2 a3 a4 d2
  obtain ⟨r, n, c, m', l1, l2, l3, l4, l5, l6⟩ := ff_out hN gx gy hw hk k0 k1 N 1 0 c2 (bS (bS (bS m1 18 (aS (m1 18) (gP P hx).1 1)) 19 (aS (m1 19) 0 (gP P hx).1)) 20 (aS (m1 20) 0 (-1))) (by omega) (by omega) (by omega) (fun s s1 s2 s3 s4 => by rw [bS_ne _ _ s3, bS_ne _ _ s2, bS_ne _ _ s1]; exact d1 s s1) (by rw [bS_ne _ _ (by decide), bS_eq, bS_ne _ _ (by decide), bS_ne _ _ (by decide), bS_eq]; exact i3) (by
    rw [bS_eq]
    exact ⟨i4, aS_eq _ _ _, fun k k0 k1 => by omega⟩)
  refine ⟨r, n, c, m', fun s hs => l1 s (by omega) (by omega) (by omega) (by omega), l3, l2.le, l2.2.1, l4, ?_, ?_⟩
  · unfold f_X1_firstFailing
    rw [a1, bn_some, i1, bn_some, i2, bn_some]
    exact l5
  · unfold f_X6_clash
    rw [h10, d3, Int.mul_zero, Int.zero_add, aS_eq, ckA_of (by omega) (by omega)]
    exact l6
theorem under_step {N : Nat} (hN : 20000 ≤ N) {T : Int} {lt b m c : Bd} {P : PL} (h : RR T lt b m P) {x y : Int} (hx : inR x) (hy : inR y) : Step1m T b P (f_X5_under N lt c P x y) (f_X6_under N m x y) := by
  unfold f_X5_under f_X6_under
  rcases nm_of h.2.2.2.1 h.2.2.2.2.2.1 hx with ⟨e1, e2⟩ | ⟨g, e1, e2, n⟩
  · rcases nm_of h.2.2.2.1 h.2.2.2.2.2.1 hy with ⟨e3, e4⟩ | ⟨g', e3, e4, n'⟩
    · simp (disch := omega) only [e1, e2, e3, ↓bn_some, ↓jn_eq, ↓ck1_of, ↓if_pos]
      exact bad1m h
    · simp (disch := omega) only [e1, e2, e3, ↓bn_some, ↓jn_eq, ↓ck1_of, ↓if_pos]
      exact bad1m h
  · have s := n.sz
    obtain ⟨a0, a1, p0, p1, gg, e, -⟩ := id n
    rcases nm_of h.2.2.2.1 h.2.2.2.2.2.1 hy with ⟨e3, e4⟩ | ⟨g', e3, e4, n'⟩
    · simp (disch := omega) only [e1, e2, e3, e4, ↓bn_some, ↓jn_eq, ↓ck1_of, ↓if_pos, ↓if_neg]
      exact bad1m h
    · have s' := n'.sz
      obtain ⟨a0', a1', p0', p1', gg', e', -⟩ := id n'
      obtain ⟨m1, q1, q2, q3, q4, q5⟩ := both_of (N := N) (by omega) n n'
      obtain ⟨kk1, kk2, kk3⟩ := h.2.1
      obtain ⟨r, n2, c2, m2, f1, f2, f3, f4, f5, f6, f7⟩ := ff_of hN (m := m1) (c0 := c) p0 p1 p0' p1' gg gg' ⟨q4, q5⟩ q3 (kd := lt 2 0) (by rw [q2 6 (by decide) (by decide), kk1]) (by omega) (by omega)
      have fr : RR (T + 1) lt b m2 P := h.up.frame (fun _ _ _ => rfl) rfl (fun s hs => by rw [f1 s (by omega), q2 s (by omega) (by omega)])
      by_cases hr : r = -1
      · subst hr
        simp (disch := omega) only [e1, e2, e3, e4, ↓bn_some, ↓jn_eq, ↓ck1_of, ↓if_pos, ↓if_neg, q1, f6, f7]
        exact ⟨1, lt, c2, m2, rfl, rfl, by decide, fr⟩
      · simp (disch := omega) only [e1, e2, e3, e4, ↓bn_some, ↓jn_eq, ↓ck1_of, ↓if_pos, ↓if_neg, q1, f6, f7]
        exact ⟨0, lt, c2, m2, rfl, rfl, by decide, fr⟩
