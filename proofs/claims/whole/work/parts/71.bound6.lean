/-! bound: the reference's graph of pairs -/
def wh (a x y : Int) : Int := (x * 40 + y) * 2 + (1 - a)
theorem wh_of {s t a x y : Int} (hs : s ≤ 40) (ht : t ≤ 40) (h : IN s t a x y) : 0 ≤ wh a x y ∧ wh a x y < 3200 ∧ Int.tdiv (wh a x y) 2 = x * 40 + y ∧ Int.tmod (wh a x y) 2 = 1 - a ∧ Int.tdiv (x * 40 + y) 40 = x ∧ Int.tmod (x * 40 + y) 40 = y := by
  obtain ⟨ha, x0, x1, y0, y1⟩ := h
  unfold wh
  have d1 := divmod (q := x * 40 + y) (d := 2) (y := 1 - a) (by omega) (by omega) (by omega)
  have d2 := divmod (q := x) (d := 40) (y := y) (by omega) (by omega) (by omega)
  exact ⟨by omega, by omega, d1.1, d1.2, d2.1, d2.2⟩
theorem wh_inj {s t a x y a' x' y' : Int} (hs : s ≤ 40) (ht : t ≤ 40) (h : IN s t a x y) (h' : IN s t a' x' y') (e : wh a x y = wh a' x' y') : a = a' ∧ x = x' ∧ y = y' := by
  obtain ⟨ha, x0, x1, y0, y1⟩ := h
  obtain ⟨ha', x0', x1', y0', y1'⟩ := h'
  unfold wh at e
  omega
theorem MG_eq {w w' : Int → Int} {u v : Int} (e : w' u = w v) (j : Int) : MG w' u j = MG w v j := by unfold MG; rw [e]
def N6 (m : Bd) (a x y v : Int) : Prop := m 18 (wh a x y) = v + 1 ∧ 0 ≤ v
/-- a word for a bench of n nodes -/
def WD6 (wd n : Int) : Prop := PW wd ∧ MG (fun _ => wd) 0 0 ≤ 6 ∧ ∀ j, 1 ≤ j → j < 3 → 0 ≤ MG (fun _ => wd) 0 j ∧ MG (fun _ => wd) 0 j < n
theorem WD6.of {h a b n : Int} (h0 : 0 ≤ h) (h1 : h ≤ 6) (a0 : 0 ≤ a) (a1 : a < n) (b0 : 0 ≤ b) (b1 : b < n) (hn : n ≤ 4096) : WD6 (pk h a b) n := by
  have q := MG_pk (w := fun _ => pk h a b) (v := 0) rfl h0 (by omega) a0 (by omega) b0 (by omega)
  refine ⟨q.1, by rw [q.2.1]; exact h1, fun j j0 j1 => ?_⟩
  have hj : j = 1 ∨ j = 2 := by omega
  rcases hj with rfl | rfl
  · rw [q.2.2.1]; exact ⟨a0, a1⟩
  · rw [q.2.2.2]; exact ⟨b0, b1⟩
def MC (P : PL) (hx hy : Int) (m : Bd) (q : Int) : Prop := m 10 0 = (gP P hx).1 + (gP P hy).1 + q ∧ m 30 0 = q ∧ 0 ≤ q ∧ WX P hx hy (m 9) ∧
  (∀ k, 0 ≤ k → k < q → ∃ a x y, IN (gP P hx).1 (gP P hy).1 a x y ∧ m 19 k = wh a x y ∧ m 18 (wh a x y) = (gP P hx).1 + (gP P hy).1 + k + 1) ∧
  (∀ j k, 0 ≤ j → j < q → 0 ≤ k → k < q → m 19 j = m 19 k → j = k) ∧
  (∀ a x y, IN (gP P hx).1 (gP P hy).1 a x y → m 18 (wh a x y) = 0 ∨ ∃ k, 0 ≤ k ∧ k < q ∧ m 18 (wh a x y) = (gP P hx).1 + (gP P hy).1 + k + 1 ∧ m 19 k = wh a x y) ∧
  ∀ u, 0 ≤ u → u < (gP P hx).1 + (gP P hy).1 + q → WD6 (m 9 u) ((gP P hx).1 + (gP P hy).1 + q)
theorem MC.le {P : PL} {hx hy : Int} (gx : GOK (gP P hx)) (gy : GOK (gP P hy)) {m : Bd} {q : Int} (h : MC P hx hy m q) : q ≤ 3200 := by
  obtain ⟨h1, h2, h3, h4, h5, h6, h7, h8⟩ := h
  refine few (r := m 19) (by omega) (fun k k0 k1 => ?_) h6
  obtain ⟨a, x, y, hi, e, -⟩ := h5 k k0 k1
  have q := wh_of gx.2 gy.2 hi
  rw [e]
  exact ⟨q.1, q.2.1⟩
theorem MC.lt {P : PL} {hx hy : Int} (gx : GOK (gP P hx)) (gy : GOK (gP P hy)) {m : Bd} {q a x y : Int} (h : MC P hx hy m q) (hi : IN (gP P hx).1 (gP P hy).1 a x y) (h0 : m 18 (wh a x y) = 0) : q < 3200 := by
  obtain ⟨h1, h2, h3, h4, h5, h6, h7, h8⟩ := h
  have g1 := gx.1.1
  have g2 := gy.1.1
  have ne : ∀ k, 0 ≤ k → k < q → m 19 k ≠ wh a x y := fun k k0 k1 e => by
    obtain ⟨a', x', y', -, e', e2⟩ := h5 k k0 k1
    rw [← e', e, h0] at e2
    omega
  have := few (r := aS (m 19) q (wh a x y)) (n := q + 1) (cnt := 3200) (by omega) (fun k k0 k1 => by
    by_cases e : k = q
    · have q := wh_of gx.2 gy.2 hi
      rw [e, aS_eq]; exact ⟨q.1, q.2.1⟩
    · obtain ⟨a', x', y', hi', e', -⟩ := h5 k k0 (by omega)
      have q := wh_of gx.2 gy.2 hi'
      rw [aS_ne _ _ e, e']; exact ⟨q.1, q.2.1⟩) (fun j k j0 j1 k0 k1 e => by
    by_cases e1 : j = q
    · by_cases e2 : k = q
      · omega
      · rw [e1, aS_eq, aS_ne _ _ e2] at e
        exact absurd e.symm (ne k k0 (by omega))
    · by_cases e2 : k = q
      · rw [e2, aS_eq, aS_ne _ _ e1] at e
        exact absurd e (ne j j0 (by omega))
      · rw [aS_ne _ _ e1, aS_ne _ _ e2] at e
        exact h6 j k j0 (by omega) k0 (by omega) e)
  omega
/-- one state goes on from another, but for the node w -/
def EM (P : PL) (hx hy : Int) (m m' : Bd) (q q' w : Int) : Prop := q ≤ q' ∧ (∀ s : Nat, s < 9 → m' s = m s) ∧ (∀ u, u < (gP P hx).1 + (gP P hy).1 + q → u ≠ w → m' 9 u = m 9 u) ∧ (∀ z, m 18 z ≠ 0 → m' 18 z = m 18 z) ∧ ∀ k, k < q → m' 19 k = m 19 k
theorem EM.refl' {P : PL} {hx hy : Int} {m : Bd} {q w : Int} : EM P hx hy m m q q w := ⟨Int.le_refl q, fun _ _ => rfl, fun _ _ _ => rfl, fun _ _ => rfl, fun _ _ => rfl⟩
theorem EM.trans' {P : PL} {hx hy : Int} {m m' m2 : Bd} {q q' q2 w : Int} (h : EM P hx hy m m' q q' w) (k : EM P hx hy m' m2 q' q2 w) : EM P hx hy m m2 q q2 w := by
  obtain ⟨h1, h2, h3, h4, h5⟩ := h
  obtain ⟨k1, k2, k3, k4, k5⟩ := k
  exact ⟨by omega, fun s hs => by rw [k2 s hs, h2 s hs], fun u hu hw => by rw [k3 u (by omega) hw, h3 u hu hw], fun z hz => by rw [k4 z (by rw [h4 z hz]; exact hz), h4 z hz], fun k hk => by rw [k5 k (by omega), h5 k hk]⟩
theorem N6.mono {P : PL} {hx hy : Int} {m m' : Bd} {q q' w a x y v : Int} (h : N6 m a x y v) (k : EM P hx hy m m' q q' w) : N6 m' a x y v := by
  refine ⟨?_, h.2⟩
  rw [k.2.2.2.1 _ (by rw [h.1]; have := h.2; omega)]
  exact h.1
theorem WD6.up {wd n n' : Int} (h : WD6 wd n) (hn : n ≤ n') : WD6 wd n' := ⟨h.1, h.2.1, fun j j0 j1 => by have := h.2.2 j j0 j1; omega⟩
theorem pO_of {P : PL} {hx hy : Int} (gx : GOK (gP P hx)) (gy : GOK (gP P hy)) {m : Bd} {q a x y : Int} (h : MC P hx hy m q) (hi : IN (gP P hx).1 (gP P hy).1 a x y) (w : Int) : ∃ v m' q', f_X6_pairOf m x ((gP P hx).1 + y) (1 - a) (gP P hx).1 = some (v, m') ∧ MC P hx hy m' q' ∧ EM P hx hy m m' q q' w ∧ N6 m' a x y v ∧ v < (gP P hx).1 + (gP P hy).1 + q' := by
  obtain ⟨h1, h2, h3, h4, h5, h6, h7, h8⟩ := id h
  obtain ⟨ha, w0, w1, w2, w3⟩ := id hi
  have g1 := gx.1.1
  have g2 := gy.1.1
  have g3 := gx.2
  have g4 := gy.2
  have nq := wh_of g3 g4 hi
  have ei : 2 * (40 * x + ((gP P hx).1 + y) - (gP P hx).1) + (1 - a) = wh a x y := by unfold wh; omega
  have run : f_X6_pairOf m x ((gP P hx).1 + y) (1 - a) (gP P hx).1 = ck1 (m 18 (wh a x y)) (if (m 18 (wh a x y)) ≠ 0 then some ((m 18 (wh a x y)) - 1, m) else bn (f_X6_adds m 0 0 0) fun q43_4 => ckA (q43_4.2 30 0) 6400 <| some (((aS (q43_4.2 18) (wh a x y) (q43_4.1 + 1)) (wh a x y)) - 1, (bs0 (bS (bS q43_4.2 18 (aS (q43_4.2 18) (wh a x y) (q43_4.1 + 1))) 19 (aS (q43_4.2 19) (q43_4.2 30 0) (wh a x y))) 30 ((q43_4.2 30 0) + 1)))) := by
    unfold f_X6_pairOf
    rw [jn_eq]
    rcases ha with rfl | rfl
    · rw [ck1_of (by omega) (by omega), if_neg (by decide)]
      dsimp only
      rw [show (1 : Int) - 0 = 1 by decide] at ei
      rw [ei, ckA_of nq.1 (by omega)]
    · rw [ck1_of (by omega) (by omega), if_pos (by decide)]
      dsimp only
      rw [show (1 : Int) - 1 = 0 by decide] at ei
      rw [ei, ckA_of nq.1 (by omega)]
  rw [run]
  have nle := h.le gx gy
  rcases h7 a x y hi with e | ⟨k, k0, k1, e, e2⟩
  · have nlt := h.lt gx gy hi e
    obtain ⟨m2, b1, b2, b3, b4, b5, b6, b7, b8⟩ := adds_of (m := m) (h := 0) (x := 0) (y := 0) h1 (by omega) (by omega) (by omega) (by omega) (by omega) (by omega) (by omega) (by omega)
    have f18 : m2 18 = m 18 := b2 18 (by decide) (by decide)
    have f19 : m2 19 = m 19 := b2 19 (by decide) (by decide)
    have f30 : m2 30 0 = q := by rw [b2 30 (by decide) (by decide)]; exact h2
    rw [e, ck1_of (by omega) (by omega), if_neg (by decide), b1, bn_some]
    dsimp only
    rw [f30, ckA_of h3 (by omega), aS_eq, f18, f19]
    generalize hm' : bs0 (bS (bS m2 18 (aS (m 18) (wh a x y) ((gP P hx).1 + (gP P hy).1 + q + 1))) 19 (aS (m 19) q (wh a x y))) 30 (q + 1) = m'
    have c30 : m' 30 0 = q + 1 := by rw [← hm', bs0_eq]
    have c18 : m' 18 = aS (m 18) (wh a x y) ((gP P hx).1 + (gP P hy).1 + q + 1) := by rw [← hm', bs0_ne _ _ (by decide), bS_ne _ _ (by decide), bS_eq]
    have c19 : m' 19 = aS (m 19) q (wh a x y) := by rw [← hm', bs0_ne _ _ (by decide), bS_eq]
    have cf : ∀ s : Nat, s ≠ 18 → s ≠ 19 → s ≠ 30 → m' s = m2 s := fun s s1 s2 s3 => by rw [← hm', bs0_ne _ _ s3, bS_ne _ _ s2, bS_ne _ _ s1]
    have c9 : m' 9 = m2 9 := cf 9 (by decide) (by decide) (by decide)
    have keep : ∀ z, m 18 z ≠ 0 → m' 18 z = m 18 z := fun z hz => by rw [c18, aS_ne _ _ (fun h => hz (by rw [h]; exact e))]
    refine ⟨(gP P hx).1 + (gP P hy).1 + q, m', q + 1, by rw [show (gP P hx).1 + (gP P hy).1 + q + 1 - 1 = (gP P hx).1 + (gP P hy).1 + q by omega], ⟨?_, c30, by omega, ?_, ?_, ?_, ?_, ?_⟩, ⟨by omega, fun s hs => by rw [cf s (by omega) (by omega) (by omega), b2 s (by omega) (by omega)], fun u hu _ => by rw [c9, b8 u (by omega)], keep, fun k hk => by rw [c19, aS_ne _ _ (by omega)]⟩, ⟨by rw [c18, aS_eq], by omega⟩, by omega⟩
    · rw [cf 10 (by decide) (by decide) (by decide), b3]; omega
    · rw [c9]
      exact ⟨h4.1.cong (fun v v0 v1 => b8 v (by omega)), h4.2.cong (fun v v0 v1 => b8 v (by omega))⟩
    · intro k k0 k1
      by_cases ek : k = q
      · subst ek
        exact ⟨a, x, y, hi, by rw [c19, aS_eq], by rw [c18, aS_eq]⟩
      · obtain ⟨a', x', y', hi', t1, t2⟩ := h5 k k0 (by omega)
        exact ⟨a', x', y', hi', by rw [c19, aS_ne _ _ ek]; exact t1, by rw [keep _ (by omega)]; exact t2⟩
    · have ne : ∀ k, 0 ≤ k → k < q → m 19 k ≠ wh a x y := fun k k0 k1 e' => by
        obtain ⟨a', x', y', -, e1, e2⟩ := h5 k k0 k1
        rw [← e1, e', e] at e2
        omega
      intro j k j0 j1 k0 k1 ejk
      rw [c19] at ejk
      by_cases e1 : j = q
      · by_cases e2 : k = q
        · omega
        · rw [e1, aS_eq, aS_ne _ _ e2] at ejk
          exact absurd ejk.symm (ne k k0 (by omega))
      · by_cases e2 : k = q
        · rw [e2, aS_eq, aS_ne _ _ e1] at ejk
          exact absurd ejk (ne j j0 (by omega))
        · rw [aS_ne _ _ e1, aS_ne _ _ e2] at ejk
          exact h6 j k j0 (by omega) k0 (by omega) ejk
    · intro a' x' y' hi'
      by_cases eq : wh a' x' y' = wh a x y
      · right
        exact ⟨q, by omega, by omega, by rw [eq, c18, aS_eq], by rw [c19, aS_eq, eq]⟩
      · rcases h7 a' x' y' hi' with t | ⟨k, k0, k1, t1, t2⟩
        · left; rw [c18, aS_ne _ _ eq]; exact t
        · right
          exact ⟨k, k0, by omega, by rw [c18, aS_ne _ _ eq]; exact t1, by rw [c19, aS_ne _ _ (by omega)]; exact t2⟩
    · intro u u0 u1
      rw [c9]
      by_cases eu : u = (gP P hx).1 + (gP P hy).1 + q
      · rw [eu]
        refine ⟨b4, ?_, fun j j0 j1 => ?_⟩
        · rw [MG_eq (w := m2 9) (u := 0) (v := (gP P hx).1 + (gP P hy).1 + q) rfl, b5]; decide
        · rw [MG_eq (w := m2 9) (u := 0) (v := (gP P hx).1 + (gP P hy).1 + q) rfl]
          have hj : j = 1 ∨ j = 2 := by omega
          rcases hj with rfl | rfl
          · rw [b6]; omega
          · rw [b7]; omega
      · rw [b8 u eu]
        exact (h8 u u0 (by omega)).up (by omega)
  · rw [e, ck1_of (by omega) (by omega), if_pos (by omega)]
    exact ⟨_, m, q, rfl, h, EM.refl', ⟨by rw [e]; omega, by omega⟩, by omega⟩
theorem set9 {P : PL} {hx hy : Int} {m : Bd} {q p wd : Int} (h : MC P hx hy m q) (p0 : 0 ≤ p) (gx : GOK (gP P hx)) (gy : GOK (gP P hy)) (hw : WD6 wd ((gP P hx).1 + (gP P hy).1 + q)) : MC P hx hy (bS m 9 (aS (m 9) ((gP P hx).1 + (gP P hy).1 + p) wd)) q := by
  obtain ⟨h1, h2, h3, h4, h5, h6, h7, h8⟩ := id h
  have g1 := gx.1.1
  have g2 := gy.1.1
  have o : ∀ u, u < (gP P hx).1 + (gP P hy).1 → aS (m 9) ((gP P hx).1 + (gP P hy).1 + p) wd u = m 9 u := fun u hu => aS_ne _ _ (by omega)
  refine ⟨by rw [bS_ne _ _ (by decide)]; exact h1, by rw [bS_ne _ _ (by decide)]; exact h2, h3, ?_, ?_, ?_, ?_, ?_⟩
  · rw [bS_eq]
    exact ⟨h4.1.cong (fun v v0 v1 => o v (by omega)), h4.2.cong (fun v v0 v1 => o v (by omega))⟩
  · rw [bS_ne _ _ (by decide), bS_ne _ _ (by decide)]; exact h5
  · rw [bS_ne _ _ (by decide)]; exact h6
  · rw [bS_ne _ _ (by decide), bS_ne _ _ (by decide)]; exact h7
  · intro u u0 u1
    rw [bS_eq]
    by_cases e : u = (gP P hx).1 + (gP P hy).1 + p
    · rw [e, aS_eq]; exact hw
    · rw [aS_ne _ _ e]; exact h8 u u0 u1
/-- what a told node says -/
def TL (P : PL) (hx hy : Int) (m : Bd) (a x y u : Int) : Prop := (GP (gP P hx) x 0 = gw a ∧ m 9 u = m 9 ((gP P hx).1 + y)) ∨ (GP (gP P hx) x 0 ≠ gw a ∧ GP (gP P hy) y 0 = gw a ∧ m 9 u = m 9 x) ∨ (GP (gP P hx) x 0 ≠ gw a ∧ GP (gP P hy) y 0 ≠ gw a ∧ MG (m 9) u 0 = bh a (GP (gP P hx) x 0) (GP (gP P hy) y 0) ∧ (GP (gP P hx) x 0 = GP (gP P hy) y 0 → ∀ i, 0 ≤ i → i < ar (GP (gP P hx) x 0) → N6 m (turnB (GP (gP P hx) x 0) i a) (GP (gP P hx) x (1 + i)) (GP (gP P hy) y (1 + i)) (MG (m 9) u (1 + i))))
theorem TL.mono {P : PL} {hx hy : Int} (gx : GOK (gP P hx)) (gy : GOK (gP P hy)) {m m' : Bd} {q q' w a x y u : Int} (h : TL P hx hy m a x y u) (hi : IN (gP P hx).1 (gP P hy).1 a x y) (k : EM P hx hy m m' q q' w) (hw : (gP P hx).1 + (gP P hy).1 ≤ w) (u1 : u < (gP P hx).1 + (gP P hy).1 + q) (uw : u ≠ w) (q0 : 0 ≤ q) : TL P hx hy m' a x y u := by
  obtain ⟨ha, w0, w1, w2, w3⟩ := hi
  have g1 := gx.1.1
  have g2 := gy.1.1
  have eu := k.2.2.1 u u1 uw
  rcases h with ⟨h1, h2⟩ | ⟨h1, h2, h3⟩ | ⟨h1, h2, h3, h4⟩
  · exact Or.inl ⟨h1, by rw [eu, k.2.2.1 _ (by omega) (by omega)]; exact h2⟩
  · exact Or.inr (Or.inl ⟨h1, h2, by rw [eu, k.2.2.1 _ (by omega) (by omega)]; exact h3⟩)
  · refine Or.inr (Or.inr ⟨h1, h2, by rw [MG_same eu]; exact h3, fun he i i0 i1 => ?_⟩)
    rw [MG_same eu]
    exact (h4 he i i0 i1).mono k
theorem tellsB_of {P : PL} {hx hy : Int} (gx : GOK (gP P hx)) (gy : GOK (gP P hy)) {m : Bd} {q a x y p : Int} (h : MC P hx hy m q) (hi : IN (gP P hx).1 (gP P hy).1 a x y) (p0 : 0 ≤ p) (p1 : p < q) (hp : m 19 p = wh a x y) (hm : m 18 (wh a x y) = (gP P hx).1 + (gP P hy).1 + p + 1) : ∃ m' q', f_X6_tells m (wh a x y) (gP P hx).1 = some m' ∧ MC P hx hy m' q' ∧ EM P hx hy m m' q q' ((gP P hx).1 + (gP P hy).1 + p) ∧ TL P hx hy m' a x y ((gP P hx).1 + (gP P hy).1 + p) := by
  obtain ⟨ha, w0, w1, w2, w3⟩ := id hi
  have g1 := gx.1.1
  have g2 := gy.1.1
  have g3 := gx.2
  have g4 := gy.2
  have rx := gx.node w0 w1
  have ry := gy.node w2 w3
  have px0 : 0 ≤ GP (gP P hx) x (1 + 0) ∧ GP (gP P hx) x (1 + 0) < (gP P hx).1 := two (Q := fun j => 0 ≤ GP (gP P hx) x j ∧ GP (gP P hx) x j < (gP P hx).1) ⟨rx.2.2.1, rx.2.2.2.1⟩ ⟨rx.2.2.2.2.1, rx.2.2.2.2.2⟩ (by omega) (by omega)
  have px1 : 0 ≤ GP (gP P hx) x (1 + 1) ∧ GP (gP P hx) x (1 + 1) < (gP P hx).1 := two (Q := fun j => 0 ≤ GP (gP P hx) x j ∧ GP (gP P hx) x j < (gP P hx).1) ⟨rx.2.2.1, rx.2.2.2.1⟩ ⟨rx.2.2.2.2.1, rx.2.2.2.2.2⟩ (by omega) (by omega)
  have py0 : 0 ≤ GP (gP P hy) y (1 + 0) ∧ GP (gP P hy) y (1 + 0) < (gP P hy).1 := two (Q := fun j => 0 ≤ GP (gP P hy) y j ∧ GP (gP P hy) y j < (gP P hy).1) ⟨ry.2.2.1, ry.2.2.2.1⟩ ⟨ry.2.2.2.2.1, ry.2.2.2.2.2⟩ (by omega) (by omega)
  have py1 : 0 ≤ GP (gP P hy) y (1 + 1) ∧ GP (gP P hy) y (1 + 1) < (gP P hy).1 := two (Q := fun j => 0 ≤ GP (gP P hy) y j ∧ GP (gP P hy) y j < (gP P hy).1) ⟨ry.2.2.1, ry.2.2.2.1⟩ ⟨ry.2.2.2.2.1, ry.2.2.2.2.2⟩ (by omega) (by omega)
  have nq := wh_of g3 g4 hi
  have qle := h.le gx gy
  obtain ⟨-, -, q0, hW, -, -, -, h8⟩ := id h
  have l := hW.left w0 w1
  have r := hW.right w2 w3
  have l0 := l.2 0 (by omega) (by omega)
  have l1 := l.2 1 (by omega) (by omega)
  have r0 := r.2 0 (by omega) (by omega)
  have r1 := r.2 1 (by omega) (by omega)
  have qa := parts_ar (h := GP (gP P hx) x 0) (by omega) (by omega)
  have har := ar_le (GP (gP P hx) x 0)
  have bb := bh_rng (a := a) (y := GP (gP P hy) y 0) rx.1 rx.2.1
  have it : m 18 (wh a x y) - 1 = (gP P hx).1 + (gP P hy).1 + p := by omega
  have itr : 0 ≤ (gP P hx).1 + (gP P hy).1 + p ∧ (gP P hx).1 + (gP P hy).1 + p < 3400 := by omega
  -- a word set at the node
  have fin : ∀ (m2 : Bd) (q2 wd : Int), MC P hx hy m2 q2 → EM P hx hy m m2 q q2 ((gP P hx).1 + (gP P hy).1 + p) → WD6 wd ((gP P hx).1 + (gP P hy).1 + q2) → MC P hx hy (bS m2 9 (aS (m2 9) ((gP P hx).1 + (gP P hy).1 + p) wd)) q2 ∧ EM P hx hy m (bS m2 9 (aS (m2 9) ((gP P hx).1 + (gP P hy).1 + p) wd)) q q2 ((gP P hx).1 + (gP P hy).1 + p) := by
    intro m2 q2 wd c1 c2 c3
    refine ⟨set9 c1 p0 gx gy c3, c2.1, fun s hs => by rw [bS_ne _ _ (by omega)]; exact c2.2.1 s hs, fun u hu hw => by rw [bS_eq, aS_ne _ _ hw]; exact c2.2.2.1 u hu hw, fun z hz => by rw [bS_ne _ _ (by decide)]; exact c2.2.2.2.1 z hz, fun k hk => by rw [bS_ne _ _ (by decide)]; exact c2.2.2.2.2 k hk⟩
  have leaf : ∀ hd : Int, hd = bh a (GP (gP P hx) x 0) (GP (gP P hy) y 0) → GP (gP P hx) x 0 ≠ gw a → GP (gP P hy) y 0 ≠ gw a → ar (GP (gP P hx) x 0) = 0 ∨ GP (gP P hx) x 0 ≠ GP (gP P hy) y 0 → MC P hx hy (bS m 9 (aS (m 9) ((gP P hx).1 + (gP P hy).1 + p) (pk hd 0 0))) q ∧ EM P hx hy m (bS m 9 (aS (m 9) ((gP P hx).1 + (gP P hy).1 + p) (pk hd 0 0))) q q ((gP P hx).1 + (gP P hy).1 + p) ∧ TL P hx hy (bS m 9 (aS (m 9) ((gP P hx).1 + (gP P hy).1 + p) (pk hd 0 0))) a x y ((gP P hx).1 + (gP P hy).1 + p) := by
    rintro hd rfl c1 c2 c3
    have f := fin m q _ h EM.refl' (WD6.of (a := 0) (b := 0) bb.1 bb.2.1 (by omega) (by omega) (by omega) (by omega) (by omega))
    have mg := MG_pk (w := aS (m 9) ((gP P hx).1 + (gP P hy).1 + p) (pk (bh a (GP (gP P hx) x 0) (GP (gP P hy) y 0)) 0 0)) (v := (gP P hx).1 + (gP P hy).1 + p) (aS_eq _ _ _) bb.1 (by omega) (by omega) (by omega) (by omega) (by omega)
    refine ⟨f.1, f.2, Or.inr (Or.inr ⟨c1, c2, by rw [bS_eq]; exact mg.2.1, fun he i i0 i1 => ?_⟩)⟩
    rcases c3 with c3 | c3
    · omega
    · exact absurd he c3
  rcases ha with rfl | rfl
  · have ha : (0 : Int) = 0 ∨ (0 : Int) = 1 := by decide
    have hmod : Int.tmod (wh 0 x y) 2 = 1 := by rw [nq.2.2.2.1]; decide
    have hgw : gw 0 = 0 := by decide
    unfold f_X6_tells
    rw [ck1_of (show -2147483648 ≤ wh 0 x y by omega) (by omega), jn_eq, hmod, ck1_of (show -2147483648 ≤ (1 : Int) by omega) (by omega), if_neg (by decide)]
    dsimp only
    rw [nq.2.2.1, ck1_of (show -2147483648 ≤ (x * 40 + y) by omega) (by omega), nq.2.2.2.2.1, nq.2.2.2.2.2, ckA_of w0 (by omega), ckA_of (by omega) (by omega), ckA_of nq.1 (by omega), l.1, bn_some, r.1, bn_some, jn_eq, ck1_of (show -2147483648 ≤ (1 : Int) by omega) (by omega), if_neg (by decide)]
    dsimp only
    rw [jn_eq, ck1_of (show -2147483648 ≤ (1 : Int) by omega) (by omega), if_neg (by decide)]
    dsimp only
    rw [ck1_of (show -2147483648 ≤ GP (gP P hx) x 0 by omega) (by omega), ck1_of (show -2147483648 ≤ (0 : Int) by omega) (by omega)]
    by_cases cx : GP (gP P hx) x 0 = 0
    · rw [if_neg (fun h => h cx), it, ckA_of itr.1 itr.2]
      have f := fin m q _ h EM.refl' (h8 ((gP P hx).1 + y) (by omega) (by omega))
      exact ⟨_, q, rfl, f.1, f.2, Or.inl ⟨by rw [hgw]; exact cx, by rw [bS_eq, aS_eq, aS_ne _ _ (by omega)]⟩⟩
    · rw [if_pos cx, ck1_of (show -2147483648 ≤ GP (gP P hy) y 0 by omega) (by omega)]
      by_cases cy : GP (gP P hy) y 0 = 0
      · rw [if_neg (fun h => h cy), it, ckA_of itr.1 itr.2]
        have f := fin m q _ h EM.refl' (h8 x w0 (by omega))
        exact ⟨_, q, rfl, f.1, f.2, Or.inr (Or.inl ⟨by rw [hgw]; exact cx, by rw [hgw]; exact cy, by rw [bS_eq, aS_eq, aS_ne _ _ (by omega)]⟩)⟩
      · rw [if_pos cy, jn_eq]
        have cx' : GP (gP P hx) x 0 ≠ gw 0 := by rw [hgw]; exact cx
        have cy' : GP (gP P hy) y 0 ≠ gw 0 := by rw [hgw]; exact cy
        by_cases he : GP (gP P hx) x 0 = GP (gP P hy) y 0
        · rw [if_neg (fun h => h he)]
          have hbh : bh 0 (GP (gP P hx) x 0) (GP (gP P hy) y 0) = GP (gP P hx) x 0 := by unfold bh; rw [if_pos he]
          by_cases c4 : GP (gP P hx) x 0 = 4
          · rw [if_neg (fun h => h c4)]
            have ta : turnB (GP (gP P hx) x 0) 0 0 = 0 := by unfold turnB; rw [if_neg (by omega)]
            have a1 : ar (GP (gP P hx) x 0) = 1 := by rw [c4]; decide
            obtain ⟨v, m2, q2, t1, t2, t3, t4, t5⟩ := pO_of gx gy h (a := 0) (x := GP (gP P hx) x (1 + 0)) (y := GP (gP P hy) y (1 + 0)) ⟨ha, px0.1, px0.2, py0.1, py0.2⟩ ((gP P hx).1 + (gP P hy).1 + p)
            have t1 : f_X6_pairOf m (GP (gP P hx) x (1 + 0)) ((gP P hx).1 + GP (gP P hy) y (1 + 0)) 1 (gP P hx).1 = some (v, m2) := t1
            have q2le := t2.le gx gy
            have v0 := t4.2
            rw [l0, bn_some, r0, bn_some, t1, bn_some]
            dsimp only
            rw [pk_node (by omega) (by omega) v0 (by omega) (by omega) (by omega), bn_some, it, ckA_of itr.1 itr.2]
            have f := fin m2 q2 _ t2 t3 (WD6.of (h := 4) (a := v) (b := 0) (by omega) (by omega) v0 t5 (by omega) (by omega) (by omega))
            have mg := MG_pk (w := aS (m2 9) ((gP P hx).1 + (gP P hy).1 + p) (pk 4 v 0)) (v := (gP P hx).1 + (gP P hy).1 + p) (aS_eq _ _ _) (by omega) (by omega) v0 (by omega) (by omega) (by omega)
            refine ⟨_, q2, rfl, f.1, f.2, Or.inr (Or.inr ⟨cx', cy', by rw [bS_eq, mg.2.1, hbh, c4], fun _ i i0 i1 => ?_⟩)⟩
            have : i = 0 := by omega
            subst this
            rw [ta, bS_eq, show (1 : Int) + 0 = 1 from rfl, mg.2.2.1]
            unfold N6
            rw [bS_ne _ _ (by decide)]
            exact t4
          · rw [if_pos c4, jn_eq, if_neg (fun h => h he), qa, bn_some, ck1_of (show -2147483648 ≤ ar (GP (gP P hx) x 0) by omega) (by omega)]
            by_cases c2 : ar (GP (gP P hx) x 0) = 2
            · rw [if_neg (fun h => h c2), l0, bn_some, r0, bn_some, jn_eq]
              obtain ⟨v, m2, q2, t1, t2, t3, t4, t5⟩ := pO_of gx gy h (a := turnB (GP (gP P hx) x 0) 0 0) (x := GP (gP P hx) x (1 + 0)) (y := GP (gP P hy) y (1 + 0)) ⟨turnB_in ha, px0.1, px0.2, py0.1, py0.2⟩ ((gP P hx).1 + (gP P hy).1 + p)
              have q2le := t2.le gx gy
              have v0 := t4.2
              have ta : turnB (GP (gP P hx) x 0) 1 0 = 0 := by unfold turnB; rw [if_neg (by omega)]
              obtain ⟨v2, m3, q3, u1, u2, u3, u4, u5⟩ := pO_of gx gy t2 (a := 0) (x := GP (gP P hx) x (1 + 1)) (y := GP (gP P hy) y (1 + 1)) ⟨ha, px1.1, px1.2, py1.1, py1.2⟩ ((gP P hx).1 + (gP P hy).1 + p)
              have u1 : f_X6_pairOf m2 (GP (gP P hx) x (1 + 1)) ((gP P hx).1 + GP (gP P hy) y (1 + 1)) 1 (gP P hx).1 = some (v2, m3) := u1
              have q3le := u2.le gx gy
              have v20 := u4.2
              have q23 := u3.1
              have go : ∀ s3 : Int, s3 = 1 - turnB (GP (gP P hx) x 0) 0 0 → (bn (f_X6_pairOf m (GP (gP P hx) x (1 + 0)) ((gP P hx).1 + GP (gP P hy) y (1 + 0)) s3 (gP P hx).1) fun q221_32 => bn (f_X6_partOf (m 9 x) 1) fun q240_33 => bn (f_X6_partOf (m 9 ((gP P hx).1 + y)) 1) fun q246_34 => bn (f_X6_pairOf q221_32.2 q240_33 q246_34 1 (gP P hx).1) fun q251_35 => bn (f_X6_node (GP (gP P hx) x 0) q221_32.1 q251_35.1) fun q254_36 => ckA ((m 18 (wh 0 x y)) - 1) 3400 <| some ((bS q251_35.2 9 (aS (q251_35.2 9) ((m 18 (wh 0 x y)) - 1) q254_36)))) = some (bS m3 9 (aS (m3 9) ((gP P hx).1 + (gP P hy).1 + p) (pk (GP (gP P hx) x 0) v v2))) := by
                rintro s3 rfl
                rw [t1, bn_some, l1, bn_some, r1, bn_some]
                dsimp only
                rw [u1, bn_some]
                dsimp only
                rw [pk_node (by omega) (by omega) v0 (by omega) v20 (by omega), bn_some, it, ckA_of itr.1 itr.2]
              have res : MC P hx hy (bS m3 9 (aS (m3 9) ((gP P hx).1 + (gP P hy).1 + p) (pk (GP (gP P hx) x 0) v v2))) q3 ∧ EM P hx hy m (bS m3 9 (aS (m3 9) ((gP P hx).1 + (gP P hy).1 + p) (pk (GP (gP P hx) x 0) v v2))) q q3 ((gP P hx).1 + (gP P hy).1 + p) ∧ TL P hx hy (bS m3 9 (aS (m3 9) ((gP P hx).1 + (gP P hy).1 + p) (pk (GP (gP P hx) x 0) v v2))) 0 x y ((gP P hx).1 + (gP P hy).1 + p) := by
                have f := fin m3 q3 _ u2 (t3.trans' u3) (WD6.of (h := GP (gP P hx) x 0) (a := v) (b := v2) (by omega) (by omega) v0 (by omega) v20 u5 (by omega))
                have mg := MG_pk (w := aS (m3 9) ((gP P hx).1 + (gP P hy).1 + p) (pk (GP (gP P hx) x 0) v v2)) (v := (gP P hx).1 + (gP P hy).1 + p) (aS_eq _ _ _) (by omega) (by omega) v0 (by omega) v20 (by omega)
                refine ⟨f.1, f.2, Or.inr (Or.inr ⟨cx', cy', by rw [bS_eq, mg.2.1, hbh], fun _ i i0 i1 => ?_⟩)⟩
                unfold N6
                rw [bS_ne m3 _ (by decide), bS_eq]
                by_cases ci : i = 0
                · subst ci
                  rw [show (1 : Int) + 0 = 1 from rfl, mg.2.2.1]
                  exact t4.mono u3
                · have : i = 1 := by omega
                  subst this
                  rw [ta, show (1 : Int) + 1 = 2 from rfl, mg.2.2.2]
                  exact u4
              by_cases c6 : GP (gP P hx) x 0 = 6
              · have et : turnB (GP (gP P hx) x 0) 0 0 = 1 - 0 := by unfold turnB; rw [if_pos ⟨c6, rfl⟩]
                rw [if_neg (fun h => h c6), ck1_of (show -2147483648 ≤ (1 : Int) by omega) (by omega), if_pos (by decide)]
                dsimp only
                rw [go 0 (by rw [et]; decide)]
                exact ⟨_, q3, rfl, res⟩
              · have et : turnB (GP (gP P hx) x 0) 0 0 = 0 := by unfold turnB; rw [if_neg (fun h => c6 h.1)]
                rw [if_pos c6]
                dsimp only
                rw [go 1 (by rw [et]; decide)]
                exact ⟨_, q3, rfl, res⟩
            · rw [if_pos c2, if_neg (fun h => h he), pk_node (by omega) (by omega) (by omega) (by omega) (by omega) (by omega), bn_some, it, ckA_of itr.1 itr.2]
              have a0 : ar (GP (gP P hx) x 0) = 0 := by
                have e := rx
                unfold ar at c2 har ⊢
                rw [if_neg c4] at c2 ⊢
                by_cases d : GP (gP P hx) x 0 = 5 ∨ GP (gP P hx) x 0 = 6
                · rw [if_pos d] at c2; exact absurd rfl c2
                · rw [if_neg d]
              exact ⟨_, q, rfl, leaf _ hbh.symm cx' cy' (Or.inl a0)⟩
        · rw [if_pos he, jn_eq, if_pos he, if_pos he, jn_eq, ck1_of (show -2147483648 ≤ (GP (gP P hx) x 0 + GP (gP P hy) y 0) by omega) (by omega)]
          have dn : ∀ hd : Int, 0 ≤ hd → hd ≤ 6 → hd = bh 0 (GP (gP P hx) x 0) (GP (gP P hy) y 0) → ∃ m' q', (bn (f_X6_node hd 0 0) fun q338_14 => ckA ((m 18 (wh 0 x y)) - 1) 3400 <| some ((bS m 9 (aS (m 9) ((m 18 (wh 0 x y)) - 1) q338_14)))) = some m' ∧ MC P hx hy m' q' ∧ EM P hx hy m m' q q' ((gP P hx).1 + (gP P hy).1 + p) ∧ TL P hx hy m' 0 x y ((gP P hx).1 + (gP P hy).1 + p) := by
            intro hd d0 d1 d2
            rw [pk_node d0 (by omega) (by omega) (by omega) (by omega) (by omega), bn_some, it, ckA_of itr.1 itr.2]
            exact ⟨_, q, rfl, leaf hd d2 cx' cy' (Or.inr he)⟩
          by_cases c3 : GP (gP P hx) x 0 + GP (gP P hy) y 0 = 3
          · rw [if_neg (fun h => h c3)]
            by_cases c0 : GP (gP P hx) x 0 ≤ 0
            · rw [if_pos c0]
              exact dn 3 (by omega) (by omega) (by unfold bh; rw [if_neg he, if_neg (by omega)]; rfl)
            · rw [if_neg c0]
              by_cases c1 : GP (gP P hy) y 0 ≤ 0
              · rw [if_pos c1]
                exact dn 3 (by omega) (by omega) (by unfold bh; rw [if_neg he, if_neg (by omega)]; rfl)
              · rw [if_neg c1, jn_eq, ck1_of (show -2147483648 ≤ (1 : Int) by omega) (by omega), if_neg (by decide)]
                dsimp only
                exact dn 2 (by omega) (by omega) (by unfold bh; rw [if_neg he, if_pos (by omega)]; rfl)
          · rw [if_pos c3]
            exact dn 3 (by omega) (by omega) (by unfold bh; rw [if_neg he, if_neg (by omega)]; rfl)
  · have ha : (1 : Int) = 0 ∨ (1 : Int) = 1 := by decide
    have hmod : Int.tmod (wh 1 x y) 2 = 0 := by rw [nq.2.2.2.1]; decide
    have hgw : gw 1 = 3 := by decide
    unfold f_X6_tells
    rw [ck1_of (show -2147483648 ≤ wh 1 x y by omega) (by omega), jn_eq, hmod, ck1_of (show -2147483648 ≤ (0 : Int) by omega) (by omega), if_pos (by decide)]
    dsimp only
    rw [nq.2.2.1, ck1_of (show -2147483648 ≤ (x * 40 + y) by omega) (by omega), nq.2.2.2.2.1, nq.2.2.2.2.2, ckA_of w0 (by omega), ckA_of (by omega) (by omega), ckA_of nq.1 (by omega), l.1, bn_some, r.1, bn_some, jn_eq, ck1_of (show -2147483648 ≤ (0 : Int) by omega) (by omega), if_pos rfl]
    dsimp only
    rw [jn_eq, ck1_of (show -2147483648 ≤ (0 : Int) by omega) (by omega), if_pos rfl]
    dsimp only
    rw [ck1_of (show -2147483648 ≤ GP (gP P hx) x 0 by omega) (by omega), ck1_of (show -2147483648 ≤ (3 : Int) by omega) (by omega)]
    by_cases cx : GP (gP P hx) x 0 = 3
    · rw [if_neg (fun h => h cx), it, ckA_of itr.1 itr.2]
      have f := fin m q _ h EM.refl' (h8 ((gP P hx).1 + y) (by omega) (by omega))
      exact ⟨_, q, rfl, f.1, f.2, Or.inl ⟨by rw [hgw]; exact cx, by rw [bS_eq, aS_eq, aS_ne _ _ (by omega)]⟩⟩
    · rw [if_pos cx, ck1_of (show -2147483648 ≤ GP (gP P hy) y 0 by omega) (by omega)]
      by_cases cy : GP (gP P hy) y 0 = 3
      · rw [if_neg (fun h => h cy), it, ckA_of itr.1 itr.2]
        have f := fin m q _ h EM.refl' (h8 x w0 (by omega))
        exact ⟨_, q, rfl, f.1, f.2, Or.inr (Or.inl ⟨by rw [hgw]; exact cx, by rw [hgw]; exact cy, by rw [bS_eq, aS_eq, aS_ne _ _ (by omega)]⟩)⟩
      · rw [if_pos cy, jn_eq]
        have cx' : GP (gP P hx) x 0 ≠ gw 1 := by rw [hgw]; exact cx
        have cy' : GP (gP P hy) y 0 ≠ gw 1 := by rw [hgw]; exact cy
        by_cases he : GP (gP P hx) x 0 = GP (gP P hy) y 0
        · rw [if_neg (fun h => h he)]
          have hbh : bh 1 (GP (gP P hx) x 0) (GP (gP P hy) y 0) = GP (gP P hx) x 0 := by unfold bh; rw [if_pos he]
          by_cases c4 : GP (gP P hx) x 0 = 4
          · rw [if_neg (fun h => h c4)]
            have ta : turnB (GP (gP P hx) x 0) 0 1 = 1 := by unfold turnB; rw [if_neg (by omega)]
            have a1 : ar (GP (gP P hx) x 0) = 1 := by rw [c4]; decide
            obtain ⟨v, m2, q2, t1, t2, t3, t4, t5⟩ := pO_of gx gy h (a := 1) (x := GP (gP P hx) x (1 + 0)) (y := GP (gP P hy) y (1 + 0)) ⟨ha, px0.1, px0.2, py0.1, py0.2⟩ ((gP P hx).1 + (gP P hy).1 + p)
            have t1 : f_X6_pairOf m (GP (gP P hx) x (1 + 0)) ((gP P hx).1 + GP (gP P hy) y (1 + 0)) 0 (gP P hx).1 = some (v, m2) := t1
            have q2le := t2.le gx gy
            have v0 := t4.2
            rw [l0, bn_some, r0, bn_some, t1, bn_some]
            dsimp only
            rw [pk_node (by omega) (by omega) v0 (by omega) (by omega) (by omega), bn_some, it, ckA_of itr.1 itr.2]
            have f := fin m2 q2 _ t2 t3 (WD6.of (h := 4) (a := v) (b := 0) (by omega) (by omega) v0 t5 (by omega) (by omega) (by omega))
            have mg := MG_pk (w := aS (m2 9) ((gP P hx).1 + (gP P hy).1 + p) (pk 4 v 0)) (v := (gP P hx).1 + (gP P hy).1 + p) (aS_eq _ _ _) (by omega) (by omega) v0 (by omega) (by omega) (by omega)
            refine ⟨_, q2, rfl, f.1, f.2, Or.inr (Or.inr ⟨cx', cy', by rw [bS_eq, mg.2.1, hbh, c4], fun _ i i0 i1 => ?_⟩)⟩
            have : i = 0 := by omega
            subst this
            rw [ta, bS_eq, show (1 : Int) + 0 = 1 from rfl, mg.2.2.1]
            unfold N6
            rw [bS_ne _ _ (by decide)]
            exact t4
          · rw [if_pos c4, jn_eq, if_neg (fun h => h he), qa, bn_some, ck1_of (show -2147483648 ≤ ar (GP (gP P hx) x 0) by omega) (by omega)]
            by_cases c2 : ar (GP (gP P hx) x 0) = 2
            · rw [if_neg (fun h => h c2), l0, bn_some, r0, bn_some, jn_eq]
              obtain ⟨v, m2, q2, t1, t2, t3, t4, t5⟩ := pO_of gx gy h (a := turnB (GP (gP P hx) x 0) 0 1) (x := GP (gP P hx) x (1 + 0)) (y := GP (gP P hy) y (1 + 0)) ⟨turnB_in ha, px0.1, px0.2, py0.1, py0.2⟩ ((gP P hx).1 + (gP P hy).1 + p)
              have q2le := t2.le gx gy
              have v0 := t4.2
              have ta : turnB (GP (gP P hx) x 0) 1 1 = 1 := by unfold turnB; rw [if_neg (by omega)]
              obtain ⟨v2, m3, q3, u1, u2, u3, u4, u5⟩ := pO_of gx gy t2 (a := 1) (x := GP (gP P hx) x (1 + 1)) (y := GP (gP P hy) y (1 + 1)) ⟨ha, px1.1, px1.2, py1.1, py1.2⟩ ((gP P hx).1 + (gP P hy).1 + p)
              have u1 : f_X6_pairOf m2 (GP (gP P hx) x (1 + 1)) ((gP P hx).1 + GP (gP P hy) y (1 + 1)) 0 (gP P hx).1 = some (v2, m3) := u1
              have q3le := u2.le gx gy
              have v20 := u4.2
              have q23 := u3.1
              have go : ∀ s3 : Int, s3 = 1 - turnB (GP (gP P hx) x 0) 0 1 → (bn (f_X6_pairOf m (GP (gP P hx) x (1 + 0)) ((gP P hx).1 + GP (gP P hy) y (1 + 0)) s3 (gP P hx).1) fun q221_32 => bn (f_X6_partOf (m 9 x) 1) fun q240_33 => bn (f_X6_partOf (m 9 ((gP P hx).1 + y)) 1) fun q246_34 => bn (f_X6_pairOf q221_32.2 q240_33 q246_34 0 (gP P hx).1) fun q251_35 => bn (f_X6_node (GP (gP P hx) x 0) q221_32.1 q251_35.1) fun q254_36 => ckA ((m 18 (wh 1 x y)) - 1) 3400 <| some ((bS q251_35.2 9 (aS (q251_35.2 9) ((m 18 (wh 1 x y)) - 1) q254_36)))) = some (bS m3 9 (aS (m3 9) ((gP P hx).1 + (gP P hy).1 + p) (pk (GP (gP P hx) x 0) v v2))) := by
                rintro s3 rfl
                rw [t1, bn_some, l1, bn_some, r1, bn_some]
                dsimp only
                rw [u1, bn_some]
                dsimp only
                rw [pk_node (by omega) (by omega) v0 (by omega) v20 (by omega), bn_some, it, ckA_of itr.1 itr.2]
              have res : MC P hx hy (bS m3 9 (aS (m3 9) ((gP P hx).1 + (gP P hy).1 + p) (pk (GP (gP P hx) x 0) v v2))) q3 ∧ EM P hx hy m (bS m3 9 (aS (m3 9) ((gP P hx).1 + (gP P hy).1 + p) (pk (GP (gP P hx) x 0) v v2))) q q3 ((gP P hx).1 + (gP P hy).1 + p) ∧ TL P hx hy (bS m3 9 (aS (m3 9) ((gP P hx).1 + (gP P hy).1 + p) (pk (GP (gP P hx) x 0) v v2))) 1 x y ((gP P hx).1 + (gP P hy).1 + p) := by
                have f := fin m3 q3 _ u2 (t3.trans' u3) (WD6.of (h := GP (gP P hx) x 0) (a := v) (b := v2) (by omega) (by omega) v0 (by omega) v20 u5 (by omega))
                have mg := MG_pk (w := aS (m3 9) ((gP P hx).1 + (gP P hy).1 + p) (pk (GP (gP P hx) x 0) v v2)) (v := (gP P hx).1 + (gP P hy).1 + p) (aS_eq _ _ _) (by omega) (by omega) v0 (by omega) v20 (by omega)
                refine ⟨f.1, f.2, Or.inr (Or.inr ⟨cx', cy', by rw [bS_eq, mg.2.1, hbh], fun _ i i0 i1 => ?_⟩)⟩
                unfold N6
                rw [bS_ne m3 _ (by decide), bS_eq]
                by_cases ci : i = 0
                · subst ci
                  rw [show (1 : Int) + 0 = 1 from rfl, mg.2.2.1]
                  exact t4.mono u3
                · have : i = 1 := by omega
                  subst this
                  rw [ta, show (1 : Int) + 1 = 2 from rfl, mg.2.2.2]
                  exact u4
              by_cases c6 : GP (gP P hx) x 0 = 6
              · have et : turnB (GP (gP P hx) x 0) 0 1 = 1 - 1 := by unfold turnB; rw [if_pos ⟨c6, rfl⟩]
                rw [if_neg (fun h => h c6), ck1_of (show -2147483648 ≤ (0 : Int) by omega) (by omega), if_neg (by decide)]
                dsimp only
                rw [go 1 (by rw [et]; decide)]
                exact ⟨_, q3, rfl, res⟩
              · have et : turnB (GP (gP P hx) x 0) 0 1 = 1 := by unfold turnB; rw [if_neg (fun h => c6 h.1)]
                rw [if_pos c6]
                dsimp only
                rw [go 0 (by rw [et]; decide)]
                exact ⟨_, q3, rfl, res⟩
            · rw [if_pos c2, if_neg (fun h => h he), pk_node (by omega) (by omega) (by omega) (by omega) (by omega) (by omega), bn_some, it, ckA_of itr.1 itr.2]
              have a0 : ar (GP (gP P hx) x 0) = 0 := by
                have e := rx
                unfold ar at c2 har ⊢
                rw [if_neg c4] at c2 ⊢
                by_cases d : GP (gP P hx) x 0 = 5 ∨ GP (gP P hx) x 0 = 6
                · rw [if_pos d] at c2; exact absurd rfl c2
                · rw [if_neg d]
              exact ⟨_, q, rfl, leaf _ hbh.symm cx' cy' (Or.inl a0)⟩
        · rw [if_pos he, jn_eq, if_pos he, if_pos he, jn_eq, ck1_of (show -2147483648 ≤ (GP (gP P hx) x 0 + GP (gP P hy) y 0) by omega) (by omega)]
          have dn : ∀ hd : Int, 0 ≤ hd → hd ≤ 6 → hd = bh 1 (GP (gP P hx) x 0) (GP (gP P hy) y 0) → ∃ m' q', (bn (f_X6_node hd 0 0) fun q338_14 => ckA ((m 18 (wh 1 x y)) - 1) 3400 <| some ((bS m 9 (aS (m 9) ((m 18 (wh 1 x y)) - 1) q338_14)))) = some m' ∧ MC P hx hy m' q' ∧ EM P hx hy m m' q q' ((gP P hx).1 + (gP P hy).1 + p) ∧ TL P hx hy m' 1 x y ((gP P hx).1 + (gP P hy).1 + p) := by
            intro hd d0 d1 d2
            rw [pk_node d0 (by omega) (by omega) (by omega) (by omega) (by omega), bn_some, it, ckA_of itr.1 itr.2]
            exact ⟨_, q, rfl, leaf hd d2 cx' cy' (Or.inr he)⟩
          by_cases c3 : GP (gP P hx) x 0 + GP (gP P hy) y 0 = 3
          · rw [if_neg (fun h => h c3)]
            by_cases c0 : GP (gP P hx) x 0 ≤ 0
            · rw [if_pos c0]
              exact dn 0 (by omega) (by omega) (by unfold bh; rw [if_neg he, if_neg (by omega)]; rfl)
            · rw [if_neg c0]
              by_cases c1 : GP (gP P hy) y 0 ≤ 0
              · rw [if_pos c1]
                exact dn 0 (by omega) (by omega) (by unfold bh; rw [if_neg he, if_neg (by omega)]; rfl)
              · rw [if_neg c1, jn_eq, ck1_of (show -2147483648 ≤ (0 : Int) by omega) (by omega), if_pos rfl]
                dsimp only
                exact dn 1 (by omega) (by omega) (by unfold bh; rw [if_neg he, if_pos (by omega)]; rfl)
          · rw [if_pos c3]
            exact dn 0 (by omega) (by omega) (by unfold bh; rw [if_neg he, if_neg (by omega)]; rfl)
