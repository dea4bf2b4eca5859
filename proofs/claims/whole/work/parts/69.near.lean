/-! near -/
theorem nr_run {P : PL} {m1 : Bd} {hx hy : Int} (gx : GOK (gP P hx)) (gy : GOK (gP P hy)) (hw : WX P hx hy (m1 9)) {a x y : Int} (hi : IN (gP P hx).1 (gP P hy).1 a x y) (he : GP (gP P hx) x 0 = GP (gP P hy) y 0) {p n lim : Int} (hp : 0 ≤ p ∧ p < 3300) (hn : 0 ≤ n ∧ n < 3300) (hl : 0 ≤ lim ∧ lim ≤ 60) (hd : 0 ≤ m1 21 p ∧ m1 21 p < lim) (k : Int → Bd → Option (Int × Bd)) (f : Nat) {i : Int} (i0 : 0 ≤ i) (i1 : i < ar (GP (gP P hx) x 0)) (hm : m1 18 (en (gP P hx).1 (gP P hy).1 a (GP (gP P hx) x (1 + i)) (GP (gP P hy) y (1 + i))) = 0 ∨ m1 18 (en (gP P hx).1 (gP P hy).1 a (GP (gP P hx) x (1 + i)) (GP (gP P hy) y (1 + i))) = 1) : f_X6_near_L162 lim ((gP P hx).1 + (gP P hy).1) p (wf P hx (m1 9) a x y) (ws2 P hx (m1 9) a x y) k (f + 1) n i m1 = if m1 18 (en (gP P hx).1 (gP P hy).1 a (GP (gP P hx) x (1 + i)) (GP (gP P hy) y (1 + i))) ≠ 0 then f_X6_near_L162 lim ((gP P hx).1 + (gP P hy).1) p (wf P hx (m1 9) a x y) (ws2 P hx (m1 9) a x y) k f n (i + 1) m1 else f_X6_near_L162 lim ((gP P hx).1 + (gP P hy).1) p (wf P hx (m1 9) a x y) (ws2 P hx (m1 9) a x y) k f (n + 1) (i + 1) (bS (bS (bS m1 18 (aS (m1 18) (en (gP P hx).1 (gP P hy).1 a (GP (gP P hx) x (1 + i)) (GP (gP P hy) y (1 + i))) 1)) 19 (aS (m1 19) n (en (gP P hx).1 (gP P hy).1 a (GP (gP P hx) x (1 + i)) (GP (gP P hy) y (1 + i))))) 21 (aS (m1 21) n (m1 21 p + 1))) := by
  obtain ⟨ha', w0, w1, w2, w3⟩ := id hi
  have har := ar_le (GP (gP P hx) x 0)
  have rx := gx.node w0 w1
  have ry := gy.node w2 w3
  have l := hw.left w0 w1
  have r := hw.right w2 w3
  have l0 := l.2 i i0 (by omega)
  have r0 := r.2 i i0 (by omega)
  have px : 0 ≤ GP (gP P hx) x (1 + i) ∧ GP (gP P hx) x (1 + i) < (gP P hx).1 := two (Q := fun j => 0 ≤ GP (gP P hx) x j ∧ GP (gP P hx) x j < (gP P hx).1) ⟨rx.2.2.1, rx.2.2.2.1⟩ ⟨rx.2.2.2.2.1, rx.2.2.2.2.2⟩ i0 (by omega)
  have py : 0 ≤ GP (gP P hy) y (1 + i) ∧ GP (gP P hy) y (1 + i) < (gP P hy).1 := two (Q := fun j => 0 ≤ GP (gP P hy) y j ∧ GP (gP P hy) y j < (gP P hy).1) ⟨ry.2.2.1, ry.2.2.2.1⟩ ⟨ry.2.2.2.2.1, ry.2.2.2.2.2⟩ i0 (by omega)
  have eq := en_of gx.2 gy.2 (s := (gP P hx).1) (t := (gP P hy).1) (a := a) ⟨ha', px.1, px.2, py.1, py.2⟩
  have hh := (wf_head hw hi).1
  have e : (if a = 0 then GP (gP P hx) x 0 else GP (gP P hy) y 0) = GP (gP P hx) x 0 := by rw [← he]; split <;> rfl
  rw [e] at hh
  have pf : f_X6_partOf (wf P hx (m1 9) a x y) i = some (if a = 0 then GP (gP P hx) x (1 + i) else (gP P hx).1 + GP (gP P hy) y (1 + i)) := by
    unfold wf
    rcases ha' with rfl | rfl
    · rw [if_pos rfl, if_pos rfl]; exact l0
    · rw [if_neg (by decide), if_neg (by decide)]; exact r0
  have ps : f_X6_partOf (ws2 P hx (m1 9) a x y) i = some (if a = 0 then (gP P hx).1 + GP (gP P hy) y (1 + i) else GP (gP P hx) x (1 + i)) := by
    unfold ws2
    rcases ha' with rfl | rfl
    · rw [if_pos rfl, if_pos rfl]; exact r0
    · rw [if_neg (by decide), if_neg (by decide)]; exact l0
  have ez : ((gP P hx).1 + (gP P hy).1) * (if a = 0 then GP (gP P hx) x (1 + i) else (gP P hx).1 + GP (gP P hy) y (1 + i)) + (if a = 0 then (gP P hx).1 + GP (gP P hy) y (1 + i) else GP (gP P hx) x (1 + i)) = en (gP P hx).1 (gP P hy).1 a (GP (gP P hx) x (1 + i)) (GP (gP P hy) y (1 + i)) := by
    unfold en
    rcases ha' with rfl | rfl
    · rw [if_pos rfl, if_pos rfl, if_pos rfl]
    · rw [if_neg (by decide), if_neg (by decide), if_neg (by decide)]
  rw [f_X6_near_L162, hh, bn_some, parts_ar (by omega) (by omega), bn_some, ck1_of (by omega) (by omega), ck1_of (by omega) (by omega), if_neg (by omega), ckA_of hp.1 (by omega), ck1_of (by omega) (by omega), ck1_of (by omega) (by omega), if_neg (by omega), pf, bn_some, ps, bn_some, ez, ckA_of eq.1 eq.2.1, ck1_of (by omega) (by omega), ckA_of hn.1 (by omega)]
theorem nr_lock {P : PL} {m : Bd} {hx hy : Int} (gx : GOK (gP P hx)) (gy : GOK (gP P hy)) (hw : WX P hx hy (m 9)) {a x y : Int} (hi : IN (gP P hx).1 (gP P hy).1 a x y) (he : GP (gP P hx) x 0 = GP (gP P hy) y 0) {p lim step : Int} (hl : 0 ≤ lim ∧ lim ≤ 60) (hs : 0 ≤ step ∧ step < lim) (p0 : 0 ≤ p) : ∀ (f : Nat) (n i : Int) (c1 m1 : Bd), ar (GP (gP P hx) x 0) - i < f → 0 ≤ i → i ≤ ar (GP (gP P hx) x 0) → p < n → (∀ s : Nat, s ≠ 18 → s ≠ 19 → s ≠ 21 → m1 s = m s) → LK P hx hy c1 (m1 19) (m1 18) n → m1 21 p = step →
    ∃ n' c' m', n ≤ n' ∧ (∀ s : Nat, s ≠ 18 → s ≠ 19 → s ≠ 21 → m' s = m s) ∧ LK P hx hy c' (m' 19) (m' 18) n' ∧ (∀ k, k < n → m' 21 k = m1 21 k) ∧ (∀ k, n ≤ k → k < n' → m' 21 k = step + 1) ∧ (∀ k, f_X1_meetParts_L35 P p 0 (nu (gP P hx).1 (gP P hy).1 a x y) x y (ar (GP (gP P hx) x 0)) k f i c1 = k c') ∧ (∀ k, f_X6_near_L162 lim ((gP P hx).1 + (gP P hy).1) p (wf P hx (m 9) a x y) (ws2 P hx (m 9) a x y) k f n i m1 = k n' m') := by
  have har := ar_le (GP (gP P hx) x 0)
  obtain ⟨ha', w0, w1, w2, w3⟩ := id hi
  have rx := gx.node w0 w1
  have ry := gy.node w2 w3
  intro f
  induction f with
  | zero => intro n i c1 m1 h0 _ h2; omega
  | succ f ih =>
    intro n i c1 m1 h0 i0 i1 pn hf hL hd
    have e9 : m1 9 = m 9 := hf 9 (by decide) (by decide) (by decide)
    have nle := hL.le
    by_cases hx' : ar (GP (gP P hx) x 0) ≤ i
    · refine ⟨n, c1, m1, Int.le_refl n, hf, hL, fun _ _ => rfl, fun k k0 k1 => by omega, fun k => ?_, fun k => ?_⟩
      · rw [f_X1_meetParts_L35, ck1_of (by omega) (by omega), ck1_of (by omega) (by omega), if_pos hx']
      · have hh := (wf_head hw hi).1
        have e : (if a = 0 then GP (gP P hx) x 0 else GP (gP P hy) y 0) = GP (gP P hx) x 0 := by rw [← he]; split <;> rfl
        rw [e] at hh
        rw [f_X6_near_L162, hh, bn_some, parts_ar (by omega) (by omega), bn_some, ck1_of (by omega) (by omega), ck1_of (by omega) (by omega), if_pos hx']
    · have px : 0 ≤ GP (gP P hx) x (1 + i) ∧ GP (gP P hx) x (1 + i) < (gP P hx).1 := two (Q := fun j => 0 ≤ GP (gP P hx) x j ∧ GP (gP P hx) x j < (gP P hx).1) ⟨rx.2.2.1, rx.2.2.2.1⟩ ⟨rx.2.2.2.2.1, rx.2.2.2.2.2⟩ i0 (by omega)
      have py : 0 ≤ GP (gP P hy) y (1 + i) ∧ GP (gP P hy) y (1 + i) < (gP P hy).1 := two (Q := fun j => 0 ≤ GP (gP P hy) y j ∧ GP (gP P hy) y j < (gP P hy).1) ⟨ry.2.2.1, ry.2.2.2.1⟩ ⟨ry.2.2.2.2.1, ry.2.2.2.2.2⟩ i0 (by omega)
      have hi' : IN (gP P hx).1 (gP P hy).1 a (GP (gP P hx) x (1 + i)) (GP (gP P hy) y (1 + i)) := ⟨ha', px.1, px.2, py.1, py.2⟩
      have nq := nu_of gx.2 gy.2 hi'
      have h6 := hL.2.2.2.2.2 _ _ _ hi'
      have et : turnI 0 i a = a := by unfold turnI; rw [if_neg (by omega)]
      have r5 := fun k => mp_run hL.1 hi (Or.inl rfl) (p := p) ⟨p0, by omega⟩ har.2 k f i0 (show i < ar (GP (gP P hx) x 0) by omega)
      rw [et] at r5
      have r6 := fun k hn => nr_run (m1 := m1) gx gy (by rw [e9]; exact hw) hi he (p := p) (n := n) ⟨p0, by omega⟩ ⟨by omega, hn⟩ hl (by rw [hd]; exact hs) k f i0 (show i < ar (GP (gP P hx) x 0) by omega) (by
        rcases h6 with ⟨-, h⟩ | ⟨-, h⟩
        · exact Or.inl h
        · exact Or.inr h)
      rw [e9] at r6
      rcases h6 with ⟨h1, h2⟩ | ⟨h1, h2⟩
      · have nlt := hL.lt hi' h1
        obtain ⟨c2, b1, b2, b3, b4, b5, b6, b7⟩ := meet_new (c := c1) (x := 1) (o := 2 * p + i) hL.2.1 (by have := hL.2.2.1; omega) nlt nq.1 nq.2.2.1 h1
        have hL' := hL.new hi' h1 b2 b3 b4 b5 b7
        obtain ⟨n', c', m', l1, l2, l3, l4, l5, l6, l7⟩ := ih (n + 1) (i + 1) c2 (bS (bS (bS m1 18 (aS (m1 18) (en (gP P hx).1 (gP P hy).1 a (GP (gP P hx) x (1 + i)) (GP (gP P hy) y (1 + i))) 1)) 19 (aS (m1 19) n (en (gP P hx).1 (gP P hy).1 a (GP (gP P hx) x (1 + i)) (GP (gP P hy) y (1 + i))))) 21 (aS (m1 21) n (m1 21 p + 1))) (by omega) (by omega) (by omega) (by omega) (fun s s1 s2 s4 => by rw [bS_ne _ _ s4, bS_ne _ _ s2, bS_ne _ _ s1]; exact hf s s1 s2 s4) (by rw [bS_ne _ _ (by decide), bS_eq, bS_ne _ _ (by decide), bS_ne _ _ (by decide), bS_eq]; exact hL') (by rw [bS_eq, aS_ne _ _ (by omega)]; exact hd)
        rw [bS_eq] at l4
        refine ⟨n', c', m', by omega, l2, l3, fun k hk => by rw [l4 k (by omega), aS_ne _ _ (by omega)], fun k k0 k1 => ?_, fun k => ?_, fun k => ?_⟩
        · by_cases ek : k = n
          · rw [ek, l4 n (by omega), aS_eq, hd]
          · exact l5 k (by omega) k1
        · rw [r5, b1, bn_some]; exact l6 k
        · rw [r6 k (by omega), h2, if_neg (by decide)]; exact l7 k
      · have mo := meet_old (c := c1) (x := 1) (o := 2 * p + i) hL.2.1 (by have := hL.2.2.1; omega) nle nq.1 nq.2.2.1 (by rw [h1]; decide) (by rw [h1]; decide)
        obtain ⟨n', c', m', l1, l2, l3, l4, l5, l6, l7⟩ := ih n (i + 1) c1 m1 (by omega) (by omega) (by omega) pn hf hL hd
        refine ⟨n', c', m', by omega, l2, l3, l4, l5, fun k => ?_, fun k => ?_⟩
        · rw [r5, mo, bn_some]; exact l6 k
        · rw [r6 k (by omega), h2, if_pos (by decide)]; exact l7 k
/-- the program's side alone -/
theorem mp_alone {P : PL} {hx hy : Int} (gx : GOK (gP P hx)) (gy : GOK (gP P hy)) {a x y : Int} (hi : IN (gP P hx).1 (gP P hy).1 a x y) {p ari : Int} (ha2 : ari ≤ 2) (p0 : 0 ≤ p) : ∀ (f : Nat) (n i : Int) (c1 : Bd) (Q M : Int → Int), ari - i < f → 0 ≤ i → i ≤ ari → p < n → LK P hx hy c1 Q M n → ∃ n' c' Q' M', n ≤ n' ∧ LK P hx hy c' Q' M' n' ∧ (∀ k, k < n → Q' k = Q k) ∧ (∀ k, f_X1_meetParts_L35 P p 0 (nu (gP P hx).1 (gP P hy).1 a x y) x y ari k f i c1 = k c') := by
  obtain ⟨ha', w0, w1, w2, w3⟩ := id hi
  have rx := gx.node w0 w1
  have ry := gy.node w2 w3
  intro f
  induction f with
  | zero => intro n i c1 Q M h0 i0 a0 pn hL; omega
  | succ f ih =>
    intro n i c1 Q M h0 i0 a0 pn hL
    have nle := hL.le
    by_cases hx' : ari ≤ i
    · refine ⟨n, c1, Q, M, Int.le_refl n, hL, fun _ _ => rfl, fun k => ?_⟩
      rw [f_X1_meetParts_L35, ck1_of (by omega) (by omega), ck1_of (by omega) (by omega), if_pos hx']
    · have px : 0 ≤ GP (gP P hx) x (1 + i) ∧ GP (gP P hx) x (1 + i) < (gP P hx).1 := two (Q := fun j => 0 ≤ GP (gP P hx) x j ∧ GP (gP P hx) x j < (gP P hx).1) ⟨rx.2.2.1, rx.2.2.2.1⟩ ⟨rx.2.2.2.2.1, rx.2.2.2.2.2⟩ i0 (by omega)
      have py : 0 ≤ GP (gP P hy) y (1 + i) ∧ GP (gP P hy) y (1 + i) < (gP P hy).1 := two (Q := fun j => 0 ≤ GP (gP P hy) y j ∧ GP (gP P hy) y j < (gP P hy).1) ⟨ry.2.2.1, ry.2.2.2.1⟩ ⟨ry.2.2.2.2.1, ry.2.2.2.2.2⟩ i0 (by omega)
      have hi' : IN (gP P hx).1 (gP P hy).1 a (GP (gP P hx) x (1 + i)) (GP (gP P hy) y (1 + i)) := ⟨ha', px.1, px.2, py.1, py.2⟩
      have nq := nu_of gx.2 gy.2 hi'
      have h6 := hL.2.2.2.2.2 _ _ _ hi'
      have et : turnI 0 i a = a := by unfold turnI; rw [if_neg (by omega)]
      have r5 := fun k => mp_run hL.1 hi (Or.inl rfl) (p := p) ⟨p0, by omega⟩ ha2 k f i0 (show i < ari by omega)
      rw [et] at r5
      rcases h6 with ⟨h1, h2⟩ | ⟨h1, h2⟩
      · have nlt := hL.lt hi' h1
        obtain ⟨c2, b1, b2, b3, b4, b5, b6, b7⟩ := meet_new (c := c1) (x := 1) (o := 2 * p + i) hL.2.1 (by have := hL.2.2.1; omega) nlt nq.1 nq.2.2.1 h1
        have hL' := hL.new hi' h1 b2 b3 b4 b5 b7
        obtain ⟨n', c', Q', M', l1, l2, l3, l4⟩ := ih (n + 1) (i + 1) c2 _ _ (by omega) (by omega) (by omega) (by omega) hL'
        refine ⟨n', c', Q', M', by omega, l2, fun k hk => by rw [l3 k (by omega), aS_ne _ _ (by omega)], fun k => ?_⟩
        rw [r5, b1, bn_some]; exact l4 k
      · have mo := meet_old (c := c1) (x := 1) (o := 2 * p + i) hL.2.1 (by have := hL.2.2.1; omega) nle nq.1 nq.2.2.1 (by rw [h1]; decide) (by rw [h1]; decide)
        obtain ⟨n', c', Q', M', l1, l2, l3, l4⟩ := ih n (i + 1) c1 Q M (by omega) (by omega) (by omega) pn hL
        refine ⟨n', c', Q', M', l1, l2, l3, fun k => ?_⟩
        rw [r5, mo, bn_some]; exact l4 k
theorem nr_layer {N : Nat} (hN : 20000 ≤ N) {P : PL} {m : Bd} {hx hy : Int} (gx : GOK (gP P hx)) (gy : GOK (gP P hy)) (hw : WX P hx hy (m 9)) {lim step E : Int} (hl : 0 ≤ lim ∧ lim ≤ 60) (hs : 0 ≤ step ∧ step < lim) : ∀ (f5 f6 : Nat) (n p : Int) (c1 m1 : Bd), E - p < f5 → 3200 - p < f6 → 0 ≤ p → p ≤ E → E ≤ n → (∀ s : Nat, s ≠ 18 → s ≠ 19 → s ≠ 21 → m1 s = m s) → LK P hx hy c1 (m1 19) (m1 18) n → (∀ k, p ≤ k → k < E → m1 21 k = step) → (∀ k, E ≤ k → k < n → m1 21 k = step + 1) →
    (∃ (f6' : Nat) (n' : Int) (c' m' : Bd), 3200 - E < f6' ∧ E ≤ n' ∧ (∀ s : Nat, s ≠ 18 → s ≠ 19 → s ≠ 21 → m' s = m s) ∧ LK P hx hy c' (m' 19) (m' 18) n' ∧ (∀ k, E ≤ k → k < n' → m' 21 k = step + 1) ∧ (∀ k, f_X1_sameDownTo_L37 N P lim step E k f5 p c1 = k E c') ∧ ∀ K, f_X6_near_L103 N lim ((gP P hx).1 + (gP P hy).1) K f6 n p m1 = f_X6_near_L103 N lim ((gP P hx).1 + (gP P hy).1) K f6' n' E m') ∨
    (∃ c' m', (∀ s : Nat, s ≠ 18 → s ≠ 19 → s ≠ 21 → m' s = m s) ∧ (∀ k, f_X1_sameDownTo_L37 N P lim step E k f5 p c1 = some (0, c')) ∧ ∀ K, f_X6_near_L103 N lim ((gP P hx).1 + (gP P hy).1) K f6 n p m1 = some (0, m')) := by
  have x40 := gx.2
  have y40 := gy.2
  have x1 := gx.1.1
  have y1 := gy.1.1
  intro f5
  induction f5 with
  | zero => intro f6 n p c1 m1 h0 _ _ h2; omega
  | succ f5 ih =>
    intro f6 n p c1 m1 h0 h6 p0 pE En hf hL hd hd2
    have nle := hL.le
    by_cases hp : E ≤ p
    · have e : p = E := by omega
      subst e
      refine Or.inl ⟨f6, n, c1, m1, h6, En, hf, hL, hd2, fun k => ?_, fun K => rfl⟩
      rw [f_X1_sameDownTo_L37, ck1_of (by omega) (by omega), ck1_of (by omega) (by omega), if_pos (Int.le_refl _)]
    · obtain ⟨f6, rfl⟩ : ∃ g, f6 = g + 1 := ⟨f6 - 1, by omega⟩
      have e9 : m1 9 = m 9 := hf 9 (by decide) (by decide) (by decide)
      obtain ⟨a, x, y, hi, q1, q2, q3⟩ := hL.2.2.2.1 p p0 (by omega)
      obtain ⟨ha', w0, w1, w2, w3⟩ := id hi
      have rx := gx.node w0 w1
      have ry := gy.node w2 w3
      obtain ⟨c00, c10, b0, b1, b2, b3, -, -⟩ := id hL.1
      have wa := wf_at (w := m1 9) gx gy hi
      have wh := wf_head (w := m1 9) (by rw [e9]; exact hw) hi
      have enr := en_of x40 y40 hi
      have s5 : ∀ k, f_X1_sameDownTo_L37 N P lim step E k (f5 + 1) p c1 = if GP (gP P hx) x 0 = GP (gP P hy) y 0 then (bn (f_X1_meetParts N c1 P p 0) fun q88_20 => f_X1_sameDownTo_L37 N P lim step E k f5 (p + 1) q88_20) else some (0, c1) := by
        intro k
        rw [f_X1_sameDownTo_L37, ck1_of (by omega) (by omega), ck1_of (by omega) (by omega), if_neg hp, ckA_of p0 (by omega), q1, leftOf_of hL.1 hi, bn_some, c00, ckG_of b0 b1, headAt_of x40 w0 w1, bn_some, rightOf_of hL.1 hi, bn_some, c10, ckG_of b2 b3, headAt_of y40 w2 w3, bn_some, ck1_of (by omega) (by omega), ck1_of (by omega) (by omega)]
      have s6 : ∀ K, f_X6_near_L103 N lim ((gP P hx).1 + (gP P hy).1) K (f6 + 1) n p m1 = if GP (gP P hx) x 0 = GP (gP P hy) y 0 then (f_X6_near_L162 lim ((gP P hx).1 + (gP P hy).1) p (wf P hx (m1 9) a x y) (ws2 P hx (m1 9) a x y) (fun (x6_162 : Int) (m_162 : Bd) => f_X6_near_L103 N lim ((gP P hx).1 + (gP P hy).1) K f6 x6_162 (p + 1) m_162) N n 0 m1) else some (0, m1) := by
        intro K
        rw [f_X6_near_L103, ck1_of (by omega) (by omega), ck1_of (by omega) (by omega), if_neg (by omega), ckA_of p0 (by omega), q2, ck1_of (by omega) (by omega), ck1_of (by omega) (by omega), ckZ_of (by omega), ckA_of wa.1.1 wa.1.2.1, ckA_of wa.2.1 wa.2.2.1, wa.1.2.2, wa.2.2.2, wh.1, bn_some, wh.2, bn_some]
        rcases ha' with rfl | rfl
        · rw [if_pos rfl, if_pos rfl, ck1_of (by omega) (by omega), ck1_of (by omega) (by omega)]
        · rw [if_neg (by decide), if_neg (by decide), ck1_of (by omega) (by omega), ck1_of (by omega) (by omega)]
          by_cases c : GP (gP P hx) x 0 = GP (gP P hy) y 0
          · rw [if_pos c, if_pos c.symm]
          · rw [if_neg c, if_neg (fun h => c h.symm)]
      by_cases he : GP (gP P hx) x 0 = GP (gP P hy) y 0
      · obtain ⟨n', c', m', l1, l2, l3, l4, l5, l6, l7⟩ := nr_lock gx gy hw hi he hl hs p0 N n 0 c1 m1 (by have := ar_le (GP (gP P hx) x 0); omega) (by omega) (by have := ar_le (GP (gP P hx) x 0); omega) (by omega) hf hL (hd p (Int.le_refl p) (by omega))
        have mp : f_X1_meetParts N c1 P p 0 = some c' := by
          unfold f_X1_meetParts
          rw [ckA_of p0 (by omega), q1, leftOf_of hL.1 hi, bn_some, rightOf_of hL.1 hi, bn_some, c00, ckG_of b0 b1, partCount_of gx w0 w1, bn_some]
          exact l6 _
        rcases ih f6 n' (p + 1) c' m' (by omega) (by omega) (by omega) (by omega) (by omega) l2 l3 (fun k k0 k1 => by rw [l4 k (by omega)]; exact hd k (by omega) k1) (fun k k0 k1 => by
          by_cases ek : k < n
          · rw [l4 k ek]; exact hd2 k k0 ek
          · exact l5 k (by omega) k1) with ⟨f6', n2, c2, m2, t1, t2, t3, t4, t5, t6, t7⟩ | ⟨c2, m2, t1, t2, t3⟩
        · refine Or.inl ⟨f6', n2, c2, m2, t1, t2, t3, t4, t5, fun k => ?_, fun K => ?_⟩
          · rw [s5, if_pos he, mp, bn_some]; exact t6 k
          · rw [s6, if_pos he, e9, l7]; exact t7 K
        · refine Or.inr ⟨c2, m2, t1, fun k => ?_, fun K => ?_⟩
          · rw [s5, if_pos he, mp, bn_some]; exact t2 k
          · rw [s6, if_pos he, e9, l7]; exact t3 K
      · refine Or.inr ⟨c1, m1, hf, fun k => ?_, fun K => ?_⟩
        · rw [s5, if_neg he]
        · rw [s6, if_neg he]
theorem nr_last {N : Nat} (hN : 20000 ≤ N) {P : PL} {m : Bd} {hx hy : Int} (gx : GOK (gP P hx)) (gy : GOK (gP P hy)) (hw : WX P hx hy (m 9)) {lim E : Int} (hl : 0 ≤ lim ∧ lim ≤ 60) : ∀ (f5 f6 : Nat) (n p : Int) (c1 : Bd) (Q M : Int → Int), E - p < f5 → 3200 - p < f6 → 0 ≤ p → p ≤ E → E ≤ n → LK P hx hy c1 Q M n → (∀ k, 0 ≤ k → k < E → Q k = m 19 k) → (∀ k, p ≤ k → k < E → m 21 k = lim) →
    ∃ c', ((∀ k, f_X1_sameDownTo_L37 N P lim lim E k f5 p c1 = k E c') ∧ ∀ K, f_X6_near_L103 N lim ((gP P hx).1 + (gP P hy).1) K f6 E p m = K m) ∨
    ((∀ k, f_X1_sameDownTo_L37 N P lim lim E k f5 p c1 = some (0, c')) ∧ ∀ K, f_X6_near_L103 N lim ((gP P hx).1 + (gP P hy).1) K f6 E p m = some (0, m)) := by
  have x40 := gx.2
  have y40 := gy.2
  have x1 := gx.1.1
  have y1 := gy.1.1
  intro f5
  induction f5 with
  | zero => intro f6 n p c1 Q M h0 _ _ h2; omega
  | succ f5 ih =>
    intro f6 n p c1 Q M h0 h6 p0 pE En hL hQ hd
    have nle := hL.le
    obtain ⟨f6, rfl⟩ : ∃ g, f6 = g + 1 := ⟨f6 - 1, by omega⟩
    by_cases hp : E ≤ p
    · have e : p = E := by omega
      subst e
      refine ⟨c1, Or.inl ⟨fun k => ?_, fun K => ?_⟩⟩
      · rw [f_X1_sameDownTo_L37, ck1_of (by omega) (by omega), ck1_of (by omega) (by omega), if_pos (Int.le_refl _)]
      · rw [f_X6_near_L103, ck1_of (by omega) (by omega), ck1_of (by omega) (by omega), if_pos (Int.le_refl _)]
    · obtain ⟨a, x, y, hi, q1, q2, q3⟩ := hL.2.2.2.1 p p0 (by omega)
      rw [hQ p p0 (by omega)] at q2
      obtain ⟨ha', w0, w1, w2, w3⟩ := id hi
      have rx := gx.node w0 w1
      have ry := gy.node w2 w3
      obtain ⟨c00, c10, b0, b1, b2, b3, -, -⟩ := id hL.1
      have wa := wf_at (w := m 9) gx gy hi
      have wh := wf_head (w := m 9) hw hi
      have enr := en_of x40 y40 hi
      have dp := hd p (Int.le_refl p) (by omega)
      have s5 : ∀ k, f_X1_sameDownTo_L37 N P lim lim E k (f5 + 1) p c1 = if GP (gP P hx) x 0 = GP (gP P hy) y 0 then (bn (f_X1_meetParts N c1 P p 0) fun q88_20 => f_X1_sameDownTo_L37 N P lim lim E k f5 (p + 1) q88_20) else some (0, c1) := by
        intro k
        rw [f_X1_sameDownTo_L37, ck1_of (by omega) (by omega), ck1_of (by omega) (by omega), if_neg hp, ckA_of p0 (by omega), q1, leftOf_of hL.1 hi, bn_some, c00, ckG_of b0 b1, headAt_of x40 w0 w1, bn_some, rightOf_of hL.1 hi, bn_some, c10, ckG_of b2 b3, headAt_of y40 w2 w3, bn_some, ck1_of (by omega) (by omega), ck1_of (by omega) (by omega)]
      have s6 : ∀ K, f_X6_near_L103 N lim ((gP P hx).1 + (gP P hy).1) K (f6 + 1) E p m = if GP (gP P hx) x 0 = GP (gP P hy) y 0 then (f_X6_near_L162 lim ((gP P hx).1 + (gP P hy).1) p (wf P hx (m 9) a x y) (ws2 P hx (m 9) a x y) (fun (x6_162 : Int) (m_162 : Bd) => f_X6_near_L103 N lim ((gP P hx).1 + (gP P hy).1) K f6 x6_162 (p + 1) m_162) N E 0 m) else some (0, m) := by
        intro K
        rw [f_X6_near_L103, ck1_of (by omega) (by omega), ck1_of (by omega) (by omega), if_neg (by omega), ckA_of p0 (by omega), q2, ck1_of (by omega) (by omega), ck1_of (by omega) (by omega), ckZ_of (by omega), ckA_of wa.1.1 wa.1.2.1, ckA_of wa.2.1 wa.2.2.1, wa.1.2.2, wa.2.2.2, wh.1, bn_some, wh.2, bn_some]
        rcases ha' with rfl | rfl
        · rw [if_pos rfl, if_pos rfl, ck1_of (by omega) (by omega), ck1_of (by omega) (by omega)]
        · rw [if_neg (by decide), if_neg (by decide), ck1_of (by omega) (by omega), ck1_of (by omega) (by omega)]
          by_cases c : GP (gP P hx) x 0 = GP (gP P hy) y 0
          · rw [if_pos c, if_pos c.symm]
          · rw [if_neg c, if_neg (fun h => c h.symm)]
      by_cases he : GP (gP P hx) x 0 = GP (gP P hy) y 0
      · have har := ar_le (GP (gP P hx) x 0)
        obtain ⟨n', c', Q', M', l1, l2, l3, l4⟩ := mp_alone gx gy hi har.2 p0 N n 0 c1 Q M (by omega) (by omega) (by omega) (by omega) hL
        have mp : f_X1_meetParts N c1 P p 0 = some c' := by
          unfold f_X1_meetParts
          rw [ckA_of p0 (by omega), q1, leftOf_of hL.1 hi, bn_some, rightOf_of hL.1 hi, bn_some, c00, ckG_of b0 b1, partCount_of gx w0 w1, bn_some]
          exact l4 _
        have skip : ∀ K, f_X6_near_L162 lim ((gP P hx).1 + (gP P hy).1) p (wf P hx (m 9) a x y) (ws2 P hx (m 9) a x y) K N E 0 m = K E m := by
          intro K
          obtain ⟨M, rfl⟩ : ∃ M, N = M + 1 := ⟨N - 1, by omega⟩
          have hh := wh.1
          have e : (if a = 0 then GP (gP P hx) x 0 else GP (gP P hy) y 0) = GP (gP P hx) x 0 := by rw [← he]; split <;> rfl
          rw [e] at hh
          rw [f_X6_near_L162, hh, bn_some, parts_ar (by omega) (by omega), bn_some, ck1_of (by omega) (by omega), ck1_of (by omega) (by omega)]
          by_cases c : ar (GP (gP P hx) x 0) ≤ 0
          · rw [if_pos c]
          · rw [if_neg c, ckA_of p0 (by omega), dp, ck1_of (by omega) (by omega), ck1_of (by omega) (by omega), if_pos (Int.le_refl _)]
        obtain ⟨c2, hc2⟩ := ih f6 n' (p + 1) c' Q' M' (by omega) (by omega) (by omega) (by omega) (by omega) l2 (fun k k0 k1 => by rw [l3 k (by omega)]; exact hQ k k0 k1) (fun k k0 k1 => hd k (by omega) k1)
        refine ⟨c2, ?_⟩
        rcases hc2 with ⟨t1, t2⟩ | ⟨t1, t2⟩
        · refine Or.inl ⟨fun k => ?_, fun K => ?_⟩
          · rw [s5, if_pos he, mp, bn_some]; exact t1 k
          · rw [s6, if_pos he, skip]; exact t2 K
        · refine Or.inr ⟨fun k => ?_, fun K => ?_⟩
          · rw [s5, if_pos he, mp, bn_some]; exact t1 k
          · rw [s6, if_pos he, skip]; exact t2 K
      · refine ⟨c1, Or.inr ⟨fun k => ?_, fun K => ?_⟩⟩
        · rw [s5, if_neg he]
        · rw [s6, if_neg he]
theorem nr_all {N : Nat} (hN : 20000 ≤ N) {P : PL} {m : Bd} {hx hy : Int} (gx : GOK (gP P hx)) (gy : GOK (gP P hy)) (hw : WX P hx hy (m 9)) {lim : Int} (hl : 0 ≤ lim ∧ lim ≤ 60) : ∀ (f5 f6 : Nat) (step n p : Int) (c1 m1 : Bd), lim + 1 - step < f5 → 3200 - p < f6 → 0 ≤ step → step ≤ lim → 0 ≤ p → p ≤ n → (∀ s : Nat, s ≠ 18 → s ≠ 19 → s ≠ 21 → m1 s = m s) → LK P hx hy c1 (m1 19) (m1 18) n → (∀ k, p ≤ k → k < n → m1 21 k = step) →
    ∃ r c' m', (r = 0 ∨ r = 1) ∧ (∀ s : Nat, s ≠ 18 → s ≠ 19 → s ≠ 21 → m' s = m s) ∧ f_X1_sameDownTo_L25 N P lim (fun (c : Bd) => some (1, c)) f5 p step c1 = some (r, c') ∧ f_X6_near_L103 N lim ((gP P hx).1 + (gP P hy).1) (fun (m : Bd) => some (1, m)) f6 n p m1 = some (r, m') := by
  intro f5
  induction f5 with
  | zero => intro f6 step n p c1 m1 h0 _ _ h2; omega
  | succ f5 ih =>
    intro f6 step n p c1 m1 h0 h6 s0 s1 p0 pn hf hL hd
    have h3 := hL.2.1
    have nle := hL.le
    have e9 : m1 9 = m 9 := hf 9 (by decide) (by decide) (by decide)
    rw [f_X1_sameDownTo_L25, ck1_of (by omega) (by omega), ck1_of (by omega) (by omega), if_neg (by omega), h3]
    by_cases hs : step < lim
    · rcases nr_layer hN gx gy hw hl ⟨s0, hs⟩ N f6 n p c1 m1 (by omega) h6 p0 pn (Int.le_refl n) hf hL hd (fun k k0 k1 => by omega) with ⟨f6', n', c', m', t1, t2, t3, t4, t5, t6, t7⟩ | ⟨c', m', t1, t2, t3⟩
      · obtain ⟨r, c2, m2, u1, u2, u3, u4⟩ := ih f6' (step + 1) n' n c' m' (by omega) t1 (by omega) (by omega) (by omega) t2 t3 t4 t5
        exact ⟨r, c2, m2, u1, u2, by rw [t6]; exact u3, by rw [t7]; exact u4⟩
      · exact ⟨0, c', m', Or.inl rfl, t1, t2 _, t3 _⟩
    · have e : step = lim := by omega
      subst e
      obtain ⟨c', hc⟩ := nr_last hN gx gy (by rw [e9]; exact hw) hl N f6 n p c1 _ _ (by omega) h6 p0 pn (Int.le_refl n) hL (fun _ _ _ => rfl) hd
      rcases hc with ⟨t1, t2⟩ | ⟨t1, t2⟩
      · refine ⟨1, c', m1, Or.inr rfl, hf, ?_, t2 _⟩
        rw [t1]
        cases f5 with
        | zero => omega
        | succ f5 => rw [f_X1_sameDownTo_L25, ck1_of (by omega) (by omega), ck1_of (by omega) (by omega), if_pos (by omega)]
      · exact ⟨0, c', m1, Or.inl rfl, hf, t1 _, t2 _⟩
theorem near_init {m : Bd} {W : Int} (w0 : 0 ≤ W) (hW : W * W ≤ 6400) (x1 x2 : Int) : ∀ (f : Nat) (i : Int) (m1 : Bd), W * W - i < f → 0 ≤ i → i ≤ W * W → (∀ s : Nat, s ≠ 18 → m1 s = m s) → (∀ v, 0 ≤ v → v < i → m1 18 v = 0) → ∃ m', (∀ s : Nat, s ≠ 18 → m' s = m s) ∧ (∀ v, 0 ≤ v → v < W * W → m' 18 v = 0) ∧ ∀ k, f_X6_near_L50 x1 x2 W k f i m1 = k m' := by
  intro f
  induction f with
  | zero => intro i m1 h0 _ h2; omega
  | succ f ih =>
    intro i m1 h0 i0 i1 hf hd
    by_cases hx : W * W ≤ i
    · refine ⟨m1, hf, fun v v0 v1 => hd v v0 (by omega), fun k => ?_⟩
      simp (disch := omega) only [f_X6_near_L50, ↓ck1_of, ↓if_pos]
    · obtain ⟨m', k1, k2, k3⟩ := ih (i + 1) (bS m1 18 (aS (m1 18) i 0)) (by omega) (by omega) (by omega) (fun s hs => by rw [bS_ne _ _ hs]; exact hf s hs) (fun v v0 v1 => by
        rw [bS_eq]
        by_cases c : v = i
        · rw [c, aS_eq]
        · rw [aS_ne _ _ c]; exact hd v v0 (by omega))
      refine ⟨m', k1, k2, fun k => ?_⟩
      simp (disch := omega) only [f_X6_near_L50, ↓ck1_of, ↓ckA_of, ↓if_neg]
      exact k3 k
theorem near_step {N : Nat} (hN : 20000 ≤ N) {T : Int} {lt b m c : Bd} {P : PL} (h : RR T lt b m P) {x y z : Int} (hx : inR x) (hy : inR y) (hz : inR z) : Step1m T b P (f_X5_near N lt c P x y z) (f_X6_near N m x y z) := by
  unfold f_X5_near f_X6_near
  have iz := in_of (v := z) (l := 0) (h := 60) hz (by decide) (by decide)
  obtain ⟨z0, z1⟩ := hz
  rcases nm_of h.2.2.2.1 h.2.2.2.2.2.1 hx with ⟨e1, e2⟩ | ⟨g, e1, e2, n⟩
  · rcases nm_of h.2.2.2.1 h.2.2.2.2.2.1 hy with ⟨e3, e4⟩ | ⟨g', e3, e4, n'⟩
    · simp (disch := omega) only [e1, e2, e3, ↓bn_some, ↓jn_eq, ↓ck1_of, ↓if_pos]
      exact bad1m h
    · simp (disch := omega) only [e1, e2, e3, ↓bn_some, ↓jn_eq, ↓ck1_of, ↓if_pos]
      exact bad1m h
  · have s := n.sz
    obtain ⟨a0, a1, p0, p1, gg, e, -⟩ := id n
    rcases nm_of h.2.2.2.1 h.2.2.2.2.2.1 hy with ⟨e3, e4⟩ | ⟨g', e3, e4, n'⟩
    · simp (disch := omega) only [e1, e2, e3, e4, ↓bn_some, ↓jn_eq, ↓ck1_of, ↓if_pos, ↓if_neg]
      exact bad1m h
    · have s' := n'.sz
      obtain ⟨a0', a1', p0', p1', gg', e', -⟩ := id n'
      by_cases cz : 0 ≤ z ∧ z ≤ 60
      · rw [if_pos cz] at iz
        obtain ⟨m1, q1, q2, q3, q4, q5⟩ := both_of (N := N) (by omega) n n'
        have WW : ((gP P g).1 + (gP P g').1) * ((gP P g).1 + (gP P g').1) ≤ 80 * 80 := Int.mul_le_mul (by omega) (by omega) (by omega) (by omega)
        have WW0 : 0 ≤ ((gP P g).1 + (gP P g').1) * ((gP P g).1 + (gP P g').1) := Int.mul_nonneg (by omega) (by omega)
        obtain ⟨c1, u1, u2, u3, u4⟩ := cstart_of hN (c0 := c) p0 p1 p0' p1' gg gg'
        obtain ⟨m2, d1, d2, d3⟩ := near_init (m := m1) (W := (gP P g).1 + (gP P g').1) (by omega) (by omega) z (gP P g).1 N 0 m1 (by omega) (by omega) (by omega) (fun _ _ => rfl) (fun v v0 v1 => by omega)
        obtain ⟨c2, i1, i2, i3, i4⟩ := LK.init (Q := m2 19) (M := m2 18) u2 u3 u4 d2
        obtain ⟨r, c3, m3, l1, l2, l3, l4⟩ := nr_all hN gg gg' (m := m1) ⟨q4, q5⟩ cz N N 0 1 0 c2 (bS (bS (bS m2 18 (aS (m2 18) (gP P g).1 1)) 19 (aS (m2 19) 0 (gP P g).1)) 21 (aS (m2 21) 0 0)) (by omega) (by omega) (by omega) (by omega) (by omega) (by omega) (fun s s1 s2 s3 => by rw [bS_ne _ _ s3, bS_ne _ _ s2, bS_ne _ _ s1]; exact d1 s s1) (by rw [bS_ne _ _ (by decide), bS_eq, bS_ne _ _ (by decide), bS_ne _ _ (by decide), bS_eq]; exact i3) (fun k k0 k1 => by
          have : k = 0 := by omega
          rw [this, bS_eq, aS_eq])
        have fr : RR (T + 1) lt b m3 P := h.up.frame (fun _ _ _ => rfl) rfl (fun s hs => by rw [l2 s (by omega) (by omega) (by omega), q2 s (by omega) (by omega)])
        have sd : f_X1_sameDownTo N c P g g' z = some (r, c3) := by
          unfold f_X1_sameDownTo
          rw [u1, bn_some, i1, bn_some, i2, bn_some]
          exact l3
        rcases l1 with rfl | rfl
        · simp (disch := omega) only [e1, e2, e3, e4, iz, ↓bn_some, ↓jn_eq, ↓ck1_of, ↓ckA_of, ↓if_pos, ↓if_neg, q1, sd, q3, d3, l4]
          exact ⟨0, lt, c3, m3, rfl, rfl, by decide, fr⟩
        · simp (disch := omega) only [e1, e2, e3, e4, iz, ↓bn_some, ↓jn_eq, ↓ck1_of, ↓ckA_of, ↓if_pos, ↓if_neg, q1, sd, q3, d3, l4]
          exact ⟨1, lt, c3, m3, rfl, rfl, by decide, fr⟩
      · rw [if_neg cz] at iz
        by_cases c : z < 0
        · simp (disch := omega) only [e1, e2, e3, e4, iz, ↓bn_some, ↓jn_eq, ↓ck1_of, ↓if_pos, ↓if_neg]
          exact bad1m h
        · simp (disch := omega) only [e1, e2, e3, e4, iz, ↓bn_some, ↓jn_eq, ↓ck1_of, ↓if_pos, ↓if_neg]
          exact bad1m h
