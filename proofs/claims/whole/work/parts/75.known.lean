/-! Heights and heads: known values -/
def val (z k p q : Int) : Int := if z = 0 then (if k ≤ 0 then 0 else if k ≤ 1 then p + 1 else if q + 1 ≤ p + 1 then p + 1 else q + 1) else (if k ≤ 0 then 1 else if k ≤ 1 then 1 + p else 1 + p + q)
def cap (v : Int) : Int := if v ≤ 1000000 then v else 1000000
def Kn (z : Int) (X : Gr) : Nat → Int → Int → Prop
  | 0, _, _ => False
  | t + 1, v, d => ∃ p q, (0 < ar (GP X v 0) → Kn z X t (GP X v 1) p) ∧ (1 < ar (GP X v 0) → Kn z X t (GP X v 2) q) ∧ d = cap (val z (ar (GP X v 0)) p q)
theorem val_c {z k p q p' q' : Int} (h1 : 0 < k → p = p') (h2 : 1 < k → q = q') : val z k p q = val z k p' q' := by
  unfold val
  by_cases a : k ≤ 0
  · rw [if_pos a, if_pos a, if_pos a, if_pos a]
  · rw [if_neg a, if_neg a, if_neg a, if_neg a, h1 (by omega)]
    by_cases b : k ≤ 1
    · rw [if_pos b, if_pos b, if_pos b, if_pos b]
    · rw [if_neg b, if_neg b, if_neg b, if_neg b, h2 (by omega)]
theorem Kn.uniq {z : Int} {X : Gr} : ∀ (t t' : Nat) (v d d' : Int), Kn z X t v d → Kn z X t' v d' → d = d' := by
  intro t
  induction t with
  | zero => intro t' v d d' h; exact absurd h (by intro h; exact h)
  | succ t ih =>
    intro t' v d d' h h'
    cases t' with
    | zero => exact absurd h' (by intro h; exact h)
    | succ t' =>
      obtain ⟨p, q, h1, h2, rfl⟩ := h
      obtain ⟨p', q', h1', h2', rfl⟩ := h'
      rw [val_c (fun a => ih t' _ p p' (h1 a) (h1' a)) (fun a => ih t' _ q q' (h2 a) (h2' a))]
theorem Kn.up {z : Int} {X : Gr} : ∀ (t : Nat) (v d : Int), Kn z X t v d → Kn z X (t + 1) v d := by
  intro t
  induction t with
  | zero => intro v d h; exact absurd h (by intro h; exact h)
  | succ t ih =>
    intro v d h
    obtain ⟨p, q, h1, h2, rfl⟩ := h
    exact ⟨p, q, fun a => ih _ _ (h1 a), fun a => ih _ _ (h2 a), rfl⟩
theorem Kn.ups {z : Int} {X : Gr} {t : Nat} {v d : Int} (h : Kn z X t v d) : ∀ c : Nat, Kn z X (t + c) v d := by
  intro c
  induction c with
  | zero => exact h
  | succ c ih => exact Kn.up _ _ _ ih
theorem Kn.le {z : Int} {X : Gr} {t t' : Nat} {v d : Int} (h : Kn z X t v d) (ht : t ≤ t') : Kn z X t' v d := by
  have := h.ups (t' - t)
  rw [show t + (t' - t) = t' by omega] at this
  exact this
theorem Kn.rng {z : Int} {X : Gr} : ∀ (t : Nat) (v d : Int), Kn z X t v d → 0 ≤ d ∧ d ≤ 1000000 ∧ (z ≠ 0 → 1 ≤ d) ∧ (z = 0 → d + 1 ≤ t) := by
  intro t
  induction t with
  | zero => intro v d h; exact absurd h (by intro h; exact h)
  | succ t ih =>
    intro v d h
    obtain ⟨p, q, h1, h2, rfl⟩ := h
    have a1 : 0 < ar (GP X v 0) → 0 ≤ p ∧ p ≤ 1000000 ∧ (z ≠ 0 → 1 ≤ p) ∧ (z = 0 → p + 1 ≤ t) := fun a => ih _ _ (h1 a)
    have a2 : 1 < ar (GP X v 0) → 0 ≤ q ∧ q ≤ 1000000 ∧ (z ≠ 0 → 1 ≤ q) ∧ (z = 0 → q + 1 ≤ t) := fun a => ih _ _ (h2 a)
    unfold cap val
    by_cases z0 : z = 0
    · rw [if_pos z0]
      by_cases a : ar (GP X v 0) ≤ 0
      · rw [if_pos a, if_pos (by omega)]; omega
      · have := a1 (by omega)
        rw [if_neg a]
        by_cases b : ar (GP X v 0) ≤ 1
        · rw [if_pos b]; split <;> omega
        · have := a2 (by omega)
          rw [if_neg b]
          by_cases c : q + 1 ≤ p + 1
          · rw [if_pos c]; split <;> omega
          · rw [if_neg c]; split <;> omega
    · rw [if_neg z0]
      by_cases a : ar (GP X v 0) ≤ 0
      · rw [if_pos a, if_pos (by omega)]; omega
      · have := a1 (by omega)
        rw [if_neg a]
        by_cases b : ar (GP X v 0) ≤ 1
        · rw [if_pos b]; split <;> omega
        · have := a2 (by omega)
          rw [if_neg b]
          split <;> omega
/-- its parts are known one round earlier -/
theorem Kn.edge {z : Int} {X : Gr} {t : Nat} {v w d : Int} (h : Kn z X (t + 1) v d) (e : Eg X v w) : ∃ d', Kn z X t w d' := by
  obtain ⟨p, q, h1, h2, _⟩ := h
  obtain ⟨i, i0, i1, rfl⟩ := e
  have har := ar_le (GP X v 0)
  by_cases hi : i = 0
  · subst hi; exact ⟨p, h1 (by omega)⟩
  · have : i = 1 := by omega
    subst this; exact ⟨q, h2 (by omega)⟩
theorem Kn.path {z : Int} {X : Gr} {v : Int} : ∀ (n t : Nat) (w d : Int), Kn z X t v d → Pr X v n w → ∃ t' d', t' < t ∧ Kn z X t' w d' := by
  intro n
  induction n with
  | zero =>
    intro t w d h e
    cases t with
    | zero => exact absurd h (by intro h; exact h)
    | succ t =>
      obtain ⟨d', h'⟩ := h.edge e
      exact ⟨t, d', by omega, h'⟩
  | succ n ih =>
    intro t w d h e
    obtain ⟨x, x0, x1, h1, h2⟩ := e
    obtain ⟨t', d', ht, h'⟩ := ih t x d h h1
    cases t' with
    | zero => exact absurd h' (by intro h; exact h)
    | succ t' =>
      obtain ⟨d2, h3⟩ := h'.edge h2
      exact ⟨t', d2, by omega, h3⟩
/-- what reaches itself is never known -/
theorem Kn.loop {z : Int} {X : Gr} {c : Int} (h : Rc X c c) : ∀ (t : Nat) (d : Int), ¬ Kn z X t c d := by
  intro t
  induction t using Nat.strongRecOn with
  | _ t ih =>
    intro d hk
    obtain ⟨n, hn⟩ := h
    obtain ⟨t', d', ht, h'⟩ := Kn.path n t c d hk hn
    exact ih t' ht d' h'
theorem Kn.mk {z : Int} {X : Gr} {v : Int} {t1 t2 : Nat} {p q : Int} (h1 : 0 < ar (GP X v 0) → Kn z X t1 (GP X v 1) p) (h2 : 1 < ar (GP X v 0) → Kn z X t2 (GP X v 2) q) : ∃ t, Kn z X t v (cap (val z (ar (GP X v 0)) p q)) :=
  ⟨max t1 t2 + 1, p, q, fun a => (h1 a).le (by omega), fun a => (h2 a).le (by omega), rfl⟩
/-- known at all: known by as many rounds as there are nodes -/
theorem Kn.soon {z : Int} {X : Gr} (hX : GOK X) {t : Nat} {v d : Int} (v0 : 0 ≤ v) (v1 : v < X.1) (h : Kn z X t v d) : Kn z X X.1.toNat v d := by
  have g1 := hX.1.1
  have ht : 0 < t := by
    cases t with
    | zero => exact absurd h (by intro h; exact h)
    | succ t => omega
  obtain ⟨m, m0, m1⟩ := Frs.ex (Q := fun n v => 0 ≤ v ∧ v < X.1 ∧ ∃ d, Kn z X (n + 1) v d) (v := v) (t - 1) ⟨v0, v1, d, by rw [show t - 1 + 1 = t by omega]; exact h⟩
  have lt := Frs.lt (Q := fun n v => 0 ≤ v ∧ v < X.1 ∧ ∃ d, Kn z X (n + 1) v d) (s := X.1.toNat) (fun n v h => ⟨h.1, by have := h.2.1; omega⟩) (fun n w hw => by
    obtain ⟨⟨w0, w1, d, p, q, h1, h2, _⟩, hn⟩ := hw
    have rg := hX.node w0 w1
    have nk : ¬ ∃ d, Kn z X (n + 1) w d := fun hd => hn n (by omega) ⟨w0, w1, hd⟩
    by_cases c1 : 0 < ar (GP X w 0) ∧ ∀ d, ¬ Kn z X n (GP X w 1) d
    · refine ⟨GP X w 1, ⟨rg.2.2.1, rg.2.2.2.1, p, h1 c1.1⟩, fun m hm hq => ?_⟩
      obtain ⟨_, _, d', hd'⟩ := hq
      exact c1.2 d' (hd'.le (by omega))
    · by_cases c2 : 1 < ar (GP X w 0) ∧ ∀ d, ¬ Kn z X n (GP X w 2) d
      · refine ⟨GP X w 2, ⟨rg.2.2.2.2.1, rg.2.2.2.2.2, q, h2 c2.1⟩, fun m hm hq => ?_⟩
        obtain ⟨_, _, d', hd'⟩ := hq
        exact c2.2 d' (hd'.le (by omega))
      · exfalso
        refine nk ?_
        have e1 : 0 < ar (GP X w 0) → ∃ d, Kn z X n (GP X w 1) d := fun a => Classical.byContradiction fun hh => c1 ⟨a, fun d hd => hh ⟨d, hd⟩⟩
        have e2 : 1 < ar (GP X w 0) → ∃ d, Kn z X n (GP X w 2) d := fun a => Classical.byContradiction fun hh => c2 ⟨a, fun d hd => hh ⟨d, hd⟩⟩
        have f1 : ∃ p, 0 < ar (GP X w 0) → Kn z X n (GP X w 1) p := by
          by_cases a : 0 < ar (GP X w 0)
          · obtain ⟨p, hp⟩ := e1 a; exact ⟨p, fun _ => hp⟩
          · exact ⟨0, fun h => absurd h a⟩
        have f2 : ∃ q, 1 < ar (GP X w 0) → Kn z X n (GP X w 2) q := by
          by_cases a : 1 < ar (GP X w 0)
          · obtain ⟨p, hp⟩ := e2 a; exact ⟨p, fun _ => hp⟩
          · exact ⟨0, fun h => absurd h a⟩
        obtain ⟨p', hp'⟩ := f1
        obtain ⟨q', hq'⟩ := f2
        exact ⟨_, p', q', hp', hq', rfl⟩) m1
  obtain ⟨⟨_, _, d', hd'⟩, _⟩ := m1
  rw [Kn.uniq _ _ _ _ _ h hd']
  exact hd'.le (by omega)
/-- what no node of it reaches itself is known all over -/
theorem Kn.all {z : Int} {X : Gr} (hX : GOK X) (hl : ∀ c, 0 ≤ c → c < X.1 → ¬ Rc X c c) : ∀ v, 0 ≤ v → v < X.1 → ∃ t d, Kn z X t v d := by
  intro v v0 v1
  refine Classical.byContradiction fun hn => ?_
  -- the unknown lead to the unknown
  have hs : ∀ w, (0 ≤ w ∧ w < X.1 ∧ ¬ ∃ t d, Kn z X t w d) → ∃ x, Eg X w x ∧ (0 ≤ x ∧ x < X.1 ∧ ¬ ∃ t d, Kn z X t x d) := by
    rintro w ⟨w0, w1, hw⟩
    have rg := hX.node w0 w1
    refine Classical.byContradiction fun hh => hw ?_
    have e1 : 0 < ar (GP X w 0) → ∃ t d, Kn z X t (GP X w 1) d := fun a => Classical.byContradiction fun h => hh ⟨GP X w 1, ⟨0, by omega, a, rfl⟩, rg.2.2.1, rg.2.2.2.1, h⟩
    have e2 : 1 < ar (GP X w 0) → ∃ t d, Kn z X t (GP X w 2) d := fun a => Classical.byContradiction fun h => hh ⟨GP X w 2, ⟨1, by omega, a, rfl⟩, rg.2.2.2.2.1, rg.2.2.2.2.2, h⟩
    have f1 : ∃ t p, 0 < ar (GP X w 0) → Kn z X t (GP X w 1) p := by
      by_cases a : 0 < ar (GP X w 0)
      · obtain ⟨t, p, hp⟩ := e1 a; exact ⟨t, p, fun _ => hp⟩
      · exact ⟨0, 0, fun h => absurd h a⟩
    have f2 : ∃ t q, 1 < ar (GP X w 0) → Kn z X t (GP X w 2) q := by
      by_cases a : 1 < ar (GP X w 0)
      · obtain ⟨t, p, hp⟩ := e2 a; exact ⟨t, p, fun _ => hp⟩
      · exact ⟨0, 0, fun h => absurd h a⟩
    obtain ⟨t1, p, hp⟩ := f1
    obtain ⟨t2, q, hq⟩ := f2
    obtain ⟨t, ht⟩ := Kn.mk hp hq
    exact ⟨t, _, ht⟩
  obtain ⟨nx, hnx⟩ : ∃ nx : Int → Int, ∀ w, (0 ≤ w ∧ w < X.1 ∧ ¬ ∃ t d, Kn z X t w d) → Eg X w (nx w) ∧ (0 ≤ nx w ∧ nx w < X.1 ∧ ¬ ∃ t d, Kn z X t (nx w) d) := by
    have : ∀ w, ∃ x, (0 ≤ w ∧ w < X.1 ∧ ¬ ∃ t d, Kn z X t w d) → Eg X w x ∧ (0 ≤ x ∧ x < X.1 ∧ ¬ ∃ t d, Kn z X t x d) := fun w => by
      by_cases c : 0 ≤ w ∧ w < X.1 ∧ ¬ ∃ t d, Kn z X t w d
      · obtain ⟨x, hx⟩ := hs w c; exact ⟨x, fun _ => hx⟩
      · exact ⟨0, fun h => absurd h c⟩
    exact ⟨fun w => Classical.choose (this w), fun w => Classical.choose_spec (this w)⟩
  have hsq : ∀ n : Nat, 0 ≤ (Nat.rec v (fun _ w => nx w) n : Int) ∧ (Nat.rec v (fun _ w => nx w) n : Int) < X.1 ∧ ¬ ∃ t d, Kn z X t (Nat.rec v (fun _ w => nx w) n : Int) d := by
    intro n
    induction n with
    | zero => exact ⟨v0, v1, hn⟩
    | succ n ih => exact (hnx _ ih).2
  have g1 := hX.1.1
  obtain ⟨a, b, ab, b1, e⟩ := pig X.1.toNat (fun n => (Nat.rec v (fun _ w => nx w) n : Int)) (fun n _ => ⟨(hsq n).1, by have := (hsq n).2.1; omega⟩)
  have reach : ∀ c : Nat, Rc X (Nat.rec v (fun _ w => nx w) a : Int) (Nat.rec v (fun _ w => nx w) (a + (c + 1)) : Int) := by
    intro c
    induction c with
    | zero => exact ⟨0, (hnx _ (hsq a)).1⟩
    | succ c ih => exact ih.trans (hsq (a + (c + 1))).1 (hsq (a + (c + 1))).2.1 ⟨0, (hnx _ (hsq (a + (c + 1)))).1⟩
  have r := reach (b - a - 1)
  rw [show a + (b - a - 1 + 1) = b by omega] at r
  have e : (Nat.rec v (fun _ w => nx w) a : Int) = (Nat.rec v (fun _ w => nx w) b : Int) := e
  rw [← e] at r
  exact hl _ (hsq a).1 (hsq a).2.1 r
/-- the first node reaches all -/
theorem Rc.root {X : Gr} (hX : GOK X) : ∀ v, 1 ≤ v → v < X.1 → Rc X 0 v := by
  have : ∀ v, 0 ≤ v → 1 ≤ v → v < X.1 → Rc X 0 v := by
    refine int_rec (fun v => 1 ≤ v → v < X.1 → Rc X 0 v) (fun v v0 ih v1 v2 => ?_)
    obtain ⟨u, i, u0, u1, i0, i1, e⟩ := hX.1.2.2.2.1 v v1 v2
    by_cases c : u = 0
    · subst c; exact ⟨0, i, i0, i1, e⟩
    · exact (ih u u0 u1 (by omega) (by omega)).trans u0 (by omega) ⟨0, i, i0, i1, e⟩
  exact fun v v1 v2 => this v (by omega) v1 v2
theorem nlp_pos {X : Gr} (hX : GOK X) : 0 < nlp X X.1.toNat ↔ ∃ c, 0 ≤ c ∧ c < X.1 ∧ Rc X c c := by
  have key : ∀ n : Nat, 0 < nlp X n ↔ ∃ c : Int, 0 ≤ c ∧ c < n ∧ Rc X c c := by
    intro n
    induction n with
    | zero => exact ⟨fun h => absurd h (by show ¬ (0 : Int) < 0; omega), fun ⟨c, c0, c1, _⟩ => by omega⟩
    | succ n ih =>
      have r1 := nlp_rng X n
      have r2 := lpB_r X n
      constructor
      · intro h
        have h : 0 < nlp X n + lpB X n := h
        by_cases c : 0 < nlp X n
        · obtain ⟨c, c0, c1, c2⟩ := ih.mp c
          exact ⟨c, c0, by omega, c2⟩
        · refine ⟨n, by omega, by omega, Classical.byContradiction fun hn => ?_⟩
          rw [lpB_f hn] at h
          omega
      · rintro ⟨c, c0, c1, c2⟩
        show 0 < nlp X n + lpB X n
        by_cases e : c = n
        · rw [e] at c2
          rw [lpB_t c2]; omega
        · have := ih.mpr ⟨c, c0, by omega, c2⟩
          omega
  have g1 := hX.1.1
  rw [key]
  constructor
  · rintro ⟨c, c0, c1, c2⟩; exact ⟨c, c0, by omega, c2⟩
  · rintro ⟨c, c0, c1, c2⟩; exact ⟨c, c0, by omega, c2⟩
/-- the first node is known, or something reaches itself -/
theorem Kn.root {z : Int} {X : Gr} (hX : GOK X) : (nlp X X.1.toNat ≤ 0 ∧ ∀ v, 0 ≤ v → v < X.1 → ∃ d, Kn z X X.1.toNat v d) ∨ (0 < nlp X X.1.toNat ∧ ∀ t d, ¬ Kn z X t 0 d) := by
  have g1 := hX.1.1
  by_cases h : 0 < nlp X X.1.toNat
  · refine Or.inr ⟨h, fun t d hk => ?_⟩
    obtain ⟨c, c0, c1, c2⟩ := (nlp_pos hX).mp h
    by_cases e : c = 0
    · subst e; exact Kn.loop c2 t d hk
    · obtain ⟨n, hn⟩ := Rc.root hX c (by omega) c1
      obtain ⟨t', d', _, h'⟩ := Kn.path n t c d hk hn
      exact Kn.loop c2 t' d' h'
  · refine Or.inl ⟨by omega, fun v v0 v1 => ?_⟩
    obtain ⟨t, d, ht⟩ := Kn.all (z := z) hX (fun c c0 c1 c2 => h ((nlp_pos hX).mpr ⟨c, c0, c1, c2⟩)) v v0 v1
    exact ⟨d, ht.soon hX v0 v1⟩
