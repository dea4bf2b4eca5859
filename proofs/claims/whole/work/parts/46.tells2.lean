/-! tellsApart, whole -/
theorem tells_init {m : Bd} {n : Int} {B : GG} (h : MLine m n B) (x2 x3 : Int) (k : Bd → Option (Int × Bd)) : ∀ (f : Nat) (x4 : Int) (m1 : Bd), n - x4 < f → 0 ≤ x4 → x4 ≤ n → (∀ s : Nat, s ≠ 13 → m1 s = m s) → (∀ j, 0 ≤ j → j < x4 → m1 13 j = B j 0) → ∃ m', (∀ s : Nat, s ≠ 13 → m' s = m s) ∧ (∀ j, 0 ≤ j → j < n → m' 13 j = B j 0) ∧ f_X6_tellsApart_L5 n x2 x3 k f x4 m1 = k m' := by
  have hn := h.2.1
  intro f
  induction f with
  | zero => intro x4 m1 h0 _ h2; omega
  | succ f ih =>
    intro x4 m1 h0 h1 h2 hfr hd
    rw [f_X6_tellsApart_L5, ck1_of (by omega) (by omega), ck1_of (by omega) (by omega)]
    by_cases hx : n ≤ x4
    · rw [if_pos hx]
      exact ⟨m1, hfr, fun j j0 j1 => hd j j0 (by omega), rfl⟩
    · have q := h.2.2 x4 h1 (by omega)
      rw [if_neg hx, ckA_of h1 (by omega), hfr 11 (by decide), hfr 9 (by decide), ckA_of q.1 q.2.1, headOf_of q.2.2.1, bn_some]
      refine ih (x4 + 1) _ (by omega) (by omega) (by omega) (fun s hs => by rw [bS_ne _ _ hs]; exact hfr s hs) (fun j j0 j1 => ?_)
      rw [bS_eq]
      by_cases hj : j = x4
      · subst hj; rw [aS_eq, q.2.2.2.2.1]
      · rw [aS_ne _ _ hj]; exact hd j j0 (by omega)
theorem tells_copy (n x2 x3 x4 : Int) (hn : n ≤ 3400) (k : Bd → Option (Int × Bd)) : ∀ (f : Nat) (x5 : Int) (m1 : Bd), n - x5 < f → 0 ≤ x5 → x5 ≤ n → (∀ j, 0 ≤ j → j < x5 → m1 13 j = m1 14 j) → ∃ m', (∀ s : Nat, s ≠ 13 → m' s = m1 s) ∧ (∀ j, 0 ≤ j → j < n → m' 13 j = m1 14 j) ∧ f_X6_tellsApart_L130 n x2 x3 x4 k f x5 m1 = k m' := by
  intro f
  induction f with
  | zero => intro x5 m1 h0 _ h2; omega
  | succ f ih =>
    intro x5 m1 h0 h1 h2 hd
    rw [f_X6_tellsApart_L130, ck1_of (by omega) (by omega), ck1_of (by omega) (by omega)]
    by_cases hx : n ≤ x5
    · rw [if_pos hx]
      exact ⟨m1, fun _ _ => rfl, fun j j0 j1 => hd j j0 (by omega), rfl⟩
    · rw [if_neg hx, ckA_of h1 (by omega)]
      obtain ⟨m', e1, e2, e3⟩ := ih (x5 + 1) (bS m1 13 (aS (m1 13) x5 (m1 14 x5))) (by omega) (by omega) (by omega) (fun j j0 j1 => by
        rw [bS_eq, bS_ne _ _ (by decide)]
        by_cases hj : j = x5
        · subst hj; rw [aS_eq]
        · rw [aS_ne _ _ hj]; exact hd j j0 (by omega))
      exact ⟨m', fun s hs => by rw [e1 s hs, bS_ne _ _ hs], fun j j0 j1 => by rw [e2 j j0 j1, bS_ne _ _ (by decide)], e3⟩
theorem FI.fo {B : GG} {n g : Int} {t : Nat} {m m' : Bd} (h : FI B n t m m' g n) : FO (m' 14) n g ∧ Tell (t + 2) (m' 14) B n := by
  obtain ⟨-, i0, i1, i2, i3, i4, i5⟩ := h
  refine ⟨⟨fun j j0 j1 => ⟨(i2 j j0 j1).1, (i2 j j0 j1).2.1⟩, fun w w0 w1 => ⟨m' 15 w, (i3 w w0 w1).1, (i3 w w0 w1).2.1, (i3 w w0 w1).2.2⟩, i4⟩, fun j k j0 j1 k0 k1 => ?_⟩
  have a := i2 j j0 j1
  have b := i2 k k0 k1
  constructor
  · intro e
    rw [e] at a
    exact a.2.2.sym.tr b.2.2
  · intro e
    have q := a.2.2.tr (e.tr b.2.2.sym)
    rcases Int.lt_trichotomy (m' 14 j) (m' 14 k) with z | z | z
    · exact absurd q (i5 _ _ a.1 z b.2.1)
    · exact z
    · exact absurd q.sym (i5 _ _ b.1 z a.2.1)
/-- the outcome of telling apart -/
def Told (B : GG) (n most : Int) (m m' : Bd) (g : Int) : Prop := (∀ s : Nat, s ≠ 13 → s ≠ 14 → s ≠ 15 → m' s = m s) ∧ ((1 ≤ g ∧ g ≤ most ∧ FO (m' 13) n g ∧ TellAll (m' 13) B n ∧ ∀ c, 0 ≤ c → c < g → 0 ≤ m' 15 c ∧ m' 15 c < n ∧ m' 13 (m' 15 c) = c) ∨ (g = most + 1 ∧ ∃ t, Over B n most t))
theorem tells_loop {N : Nat} (hN : 4000 ≤ N) {m : Bd} {n : Int} {B : GG} (h : MLine m n B) (x2 : Int) (hx2 : 0 ≤ x2 ∧ x2 ≤ 80) : ∀ (f : Nat) (x3 : Int) (m1 : Bd) (t : Nat), x2 + 1 - x3 < f → 0 ≤ x3 → x3 ≤ x2 → (∀ s : Nat, s ≠ 13 → s ≠ 14 → s ≠ 15 → m1 s = m s) → Cls (m1 13) n → Tell (t + 1) (m1 13) B n → (x3 = 0 ∨ FO (m1 13) n x3) →
    ∃ g m', f_X6_tellsApart_L39 N n x2 f x3 m1 = some (g, m') ∧ Told B n x2 m m' g := by
  have hn := h.2.1
  have hn1 := h.1
  intro f
  induction f with
  | zero => intro x3 m1 t h0 _ h2; omega
  | succ f ih =>
    intro x3 m1 t h0 h1 h2 hfr hc hT hF
    rw [f_X6_tellsApart_L39]
    have hL1 : MLine m1 n B := h.frame (hfr 9 (by decide) (by decide) (by decide)) (hfr 11 (by decide) (by decide) (by decide)) (hfr 12 (by decide) (by decide) (by decide))
    have hI0 : FI B n t m1 m1 0 0 := ⟨fun _ _ _ => rfl, by omega, by omega, fun j _ _ => by omega, fun c _ _ => by omega, fun j _ _ => by omega, fun c d _ _ _ => by omega⟩
    rcases tells_round hN hL1 hc hT x2 x3 hx2 (fun (x4_45 : Int) (m_45 : Bd) =>
        f_X6_tellsApart_L130 n x2 x3 x4_45 (fun (m_130 : Bd) =>
            ck1 x4_45 <|
            ck1 x3 <|
            if x4_45 ≠ x3 then
              f_X6_tellsApart_L39 N n x2 f x4_45 m_130
            else
              some (x4_45, m_130)) N 0 m_45) N 0 0 m1 (by omega) (by omega) (by omega) (by omega) hI0 with ⟨g, m2, g1, hI, e⟩ | ⟨m2, hfr2, hO, e⟩
    · rw [e]
      try dsimp only
      obtain ⟨m3, f1, f2, f3⟩ := tells_copy n x2 x3 g hn (fun (m_130 : Bd) =>
            ck1 g <|
            ck1 x3 <|
            if g ≠ x3 then
              f_X6_tellsApart_L39 N n x2 f g m_130
            else
              some (g, m_130)) N 0 m2 (by omega) (by omega) (by omega) (fun j _ _ => by omega)
      have hfo := hI.fo
      have g0 := hI.2.1
      have gpos : 1 ≤ g := by
        have := hfo.1.1 0 (by omega) (by omega)
        omega
      rw [f3, ck1_of (by omega) (by omega), ck1_of (by omega) (by omega)]
      have hfr3 : ∀ s : Nat, s ≠ 13 → s ≠ 14 → s ≠ 15 → m3 s = m s := fun s a b c => by rw [f1 s a, hI.1 s b c]; exact hfr s a b c
      have hFO3 : FO (m3 13) n g := by
        refine ⟨fun j j0 j1 => by rw [f2 j j0 j1]; exact hfo.1.1 j j0 j1, fun w w0 w1 => ?_, fun j j0 j1 w w0 w1 => ?_⟩
        · obtain ⟨j, j0, j1, j2⟩ := hfo.1.2.1 w w0 w1
          exact ⟨j, j0, j1, by rw [f2 j j0 j1]; exact j2⟩
        · rw [f2 j j0 j1] at w1
          obtain ⟨k, k0, k1, k2⟩ := hfo.1.2.2 j j0 j1 w w0 w1
          exact ⟨k, k0, k1, by rw [f2 k k0 (by omega)]; exact k2⟩
      have hT3 : Tell (t + 1 + 1) (m3 13) B n := by
        intro j k j0 j1 k0 k1
        rw [f2 j j0 j1, f2 k k0 k1]
        exact hfo.2 j k j0 j1 k0 k1
      by_cases hg : g ≠ x3
      · rw [if_pos hg]
        have hmono : x3 < g := by
          rcases hF with z | z
          · omega
          · by_cases hx : 1 ≤ x3
            · have := FO.mono z hFO3 (hT.finer hT3) hx
              omega
            · omega
        exact ih g m3 (t + 1) (by omega) (by omega) g1 hfr3 (fun k k0 k1 => by have := hFO3.1 k k0 k1; omega) hT3 (Or.inr hFO3)
      · rw [if_neg hg]
        have hg : g = x3 := by omega
        rcases hF with z | z
        · omega
        · rw [← hg] at z
          refine ⟨g, m3, rfl, hfr3, Or.inl ⟨gpos, g1, hFO3, (Tell.all h.wg z hFO3 hT hT3).1, fun c c0 c1 => ?_⟩⟩
          have q := hI.2.2.2.2.1 c c0 c1
          rw [f1 15 (by decide), f2 _ q.1 q.2.1]
          exact q
    · rw [e]
      exact ⟨x2 + 1, m2, rfl, fun s a b c => by rw [hfr2 s b c]; exact hfr s a b c, Or.inr ⟨rfl, _, hO⟩⟩
theorem tells_of {N : Nat} (hN : 4000 ≤ N) {m : Bd} {n : Int} {B : GG} (h : MLine m n B) {most : Int} (h0 : 0 ≤ most) (h1 : most ≤ 80) : ∃ g m', f_X6_tellsApart N m n most = some (g, m') ∧ Told B n most m m' g := by
  have hn := h.2.1
  have hn1 := h.1
  unfold f_X6_tellsApart
  obtain ⟨m1, e1, e2, e3⟩ := tells_init h most 0 (fun (m_5 : Bd) => f_X6_tellsApart_L39 N n most N 0 m_5) N 0 m (by omega) (by omega) (by omega) (fun _ _ => rfl) (fun j _ _ => by omega)
  rw [e3]
  have hW := h.wg
  refine tells_loop hN h most ⟨h0, h1⟩ N 0 m1 0 (by omega) (by omega) h0 (fun s a _ _ => e1 s a) (fun k k0 k1 => ?_) (fun j k j0 j1 k0 k1 => ?_) (Or.inl rfl)
  · rw [e2 k k0 k1]
    have := hW k k0 k1
    omega
  · rw [e2 j j0 j1, e2 k k0 k1]
    constructor
    · intro e
      exact EqL.step.mpr ⟨e, fun i _ _ => EqL.zero⟩
    · intro e
      exact (EqL.step.mp e).1
