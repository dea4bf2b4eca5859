/-! WHAT IS REACHED, nearest first; trees that are too large -/
def BI (G : GG) (r : Int → Int) (n u i : Int) : Prop :=
  1 ≤ n ∧ (∀ a b, 0 ≤ a → a < n → 0 ≤ b → b < n → r a = r b → a = b) ∧
  (∀ j, 1 ≤ j → j < n → ∃ u' i', 0 ≤ u' ∧ u' < j ∧ 0 ≤ i' ∧ i' < ar (G (r u') 0) ∧ 2 * u' + i' < 2 * u + i ∧ G (r u') (1 + i') = r j) ∧
  (∀ u' i', 0 ≤ u' → 0 ≤ i' → i' < ar (G (r u') 0) → 2 * u' + i' < 2 * u + i → ∃ p, 0 ≤ p ∧ p < n ∧ G (r u') (1 + i') = r p ∧ ∀ w, 0 ≤ w → w < p → w = 0 ∨ ∃ u2 i2, 0 ≤ u2 ∧ 0 ≤ i2 ∧ i2 < ar (G (r u2) 0) ∧ 2 * u2 + i2 < 2 * u' + i' ∧ G (r u2) (1 + i2) = r w)
theorem BI.init (G : GG) (r : Int → Int) : BI G r 1 0 0 := by
  refine ⟨by omega, fun a b _ _ _ _ _ => by omega, fun j _ _ => by omega, fun u' i' a b _ d => by omega⟩
theorem BI.next {G : GG} {r : Int → Int} {n u i : Int} (h : BI G r n u i) (hi : ar (G (r u) 0) ≤ i) (h0 : 0 ≤ i) (hi2 : i ≤ 2) : BI G r n (u + 1) 0 := by
  obtain ⟨a, b, c, d⟩ := h
  refine ⟨a, b, fun j j0 j1 => ?_, fun u' i' u0 i0 i1 hlt => ?_⟩
  · obtain ⟨u', i', q1, q2, q3, q4, q5, q6⟩ := c j j0 j1
    exact ⟨u', i', q1, q2, q3, q4, by omega, q6⟩
  · have har := ar_le (G (r u') 0)
    refine d u' i' u0 i0 i1 ?_
    rcases Int.lt_or_le (2 * u' + i') (2 * u + i) with q | q
    · exact q
    · have e : u' = u := by omega
      subst e
      omega
theorem BI.old {G : GG} {r : Int → Int} {n u i p : Int} (h : BI G r n u i) (p0 : 0 ≤ p) (p1 : p < n) (hp : G (r u) (1 + i) = r p) (hi0 : 0 ≤ i) (hi1 : i < 2) : BI G r n u (i + 1) := by
  obtain ⟨a, b, c, d⟩ := h
  refine ⟨a, b, fun j j0 j1 => ?_, fun u' i' u0 i0 i1 hlt => ?_⟩
  · obtain ⟨u', i', q1, q2, q3, q4, q5, q6⟩ := c j j0 j1
    exact ⟨u', i', q1, q2, q3, q4, by omega, q6⟩
  · have har := ar_le (G (r u') 0)
    rcases Int.lt_or_le (2 * u' + i') (2 * u + i) with q | q
    · exact d u' i' u0 i0 i1 q
    · have e : u' = u := by omega
      subst e
      have e : i' = i := by omega
      subst e
      refine ⟨p, p0, p1, hp, fun w w0 w1 => ?_⟩
      by_cases hw : w = 0
      · exact Or.inl hw
      · right
        obtain ⟨u2, i2, q1, q2, q3, q4, q5, q6⟩ := c w (by omega) (by omega)
        exact ⟨u2, i2, q1, q3, q4, q5, q6⟩
theorem BI.new {G : GG} {r : Int → Int} {n u i v : Int} (h : BI G r n u i) (u0 : 0 ≤ u) (u1 : u < n) (hv : G (r u) (1 + i) = v) (hnew : ∀ p, 0 ≤ p → p < n → r p ≠ v) (hi0 : 0 ≤ i) (hi1 : i < ar (G (r u) 0)) : BI G (aS r n v) (n + 1) u (i + 1) := by
  obtain ⟨a, b, c, d⟩ := h
  have har := ar_le (G (r u) 0)
  have old : ∀ p, p < n → aS r n v p = r p := fun p hp => if_neg (by omega)
  have new : aS r n v n = v := if_pos rfl
  refine ⟨by omega, fun x y x0 x1 y0 y1 e => ?_, fun j j0 j1 => ?_, fun u' i' u0' i0 i1 hlt => ?_⟩
  · by_cases hx : x = n
    · by_cases hy : y = n
      · omega
      · subst hx
        rw [new, old y (by omega)] at e
        exact absurd e.symm (hnew y y0 (by omega))
    · by_cases hy : y = n
      · subst hy
        rw [new, old x (by omega)] at e
        exact absurd e (hnew x x0 (by omega))
      · rw [old x (by omega), old y (by omega)] at e
        exact b x y x0 (by omega) y0 (by omega) e
  · by_cases hj : j = n
    · subst hj
      refine ⟨u, i, u0, u1, hi0, by rw [old u u1]; exact hi1, by omega, by rw [old u u1, new]; exact hv⟩
    · obtain ⟨u', i', q1, q2, q3, q4, q5, q6⟩ := c j j0 (by omega)
      refine ⟨u', i', q1, q2, q3, by rw [old u' (by omega)]; exact q4, by omega, by rw [old u' (by omega), old j (by omega)]; exact q6⟩
  · have har' := ar_le (G (aS r n v u') 0)
    have hu' : u' < n := by omega
    rw [old u' hu'] at i1 har' ⊢
    rcases Int.lt_or_le (2 * u' + i') (2 * u + i) with q | q
    · obtain ⟨p, p0, p1, p2, p3⟩ := d u' i' u0' i0 i1 q
      refine ⟨p, p0, by omega, by rw [old p p1]; exact p2, fun w w0 w1 => ?_⟩
      rcases p3 w w0 w1 with z | ⟨u2, i2, q1, q2, q3, q4, q5⟩
      · exact Or.inl z
      · have := ar_le (G (r u2) 0)
        exact Or.inr ⟨u2, i2, q1, q2, by rw [old u2 (by omega)]; exact q3, q4, by rw [old u2 (by omega), old w (by omega)]; exact q5⟩
    · have e : u' = u := by omega
      subst e
      have e : i' = i := by omega
      subst e
      refine ⟨n, by omega, by omega, by rw [new]; exact hv, fun w w0 w1 => ?_⟩
      by_cases hw : w = 0
      · exact Or.inl hw
      · right
        obtain ⟨u2, i2, q1, q2, q3, q4, q5, q6⟩ := c w (by omega) w1
        exact ⟨u2, i2, q1, q3, by rw [old u2 (by omega)]; exact q4, q5, by rw [old u2 (by omega), old w w1]; exact q6⟩
/-- the graph of the places in line -/
theorem BI.graph {G : GG} {r : Int → Int} {n : Int} (h : BI G r n n 0) (hh : ∀ k, 0 ≤ k → k < n → 0 ≤ G (r k) 0 ∧ G (r k) 0 ≤ 6) : ∃ B : GG, (∀ k, 0 ≤ k → k < n → B k 0 = G (r k) 0 ∧ ∀ i, 0 ≤ i → i < ar (G (r k) 0) → 0 ≤ B k (1 + i) ∧ B k (1 + i) < n ∧ r (B k (1 + i)) = G (r k) (1 + i)) ∧ WG B n ∧ BF B n ∧ RE B n ∧ ∀ k, 0 ≤ k → k < n → Eqv B k G (r k) := by
  obtain ⟨a, b, c, d⟩ := h
  have hp : ∀ k i, ∃ p, 0 ≤ k → k < n → 0 ≤ i → i < ar (G (r k) 0) → 0 ≤ p ∧ p < n ∧ G (r k) (1 + i) = r p ∧ ∀ w, 0 ≤ w → w < p → w = 0 ∨ ∃ u2 i2, 0 ≤ u2 ∧ 0 ≤ i2 ∧ i2 < ar (G (r u2) 0) ∧ 2 * u2 + i2 < 2 * k + i ∧ G (r u2) (1 + i2) = r w := by
    intro k i
    by_cases hk : 0 ≤ k ∧ k < n ∧ 0 ≤ i ∧ i < ar (G (r k) 0)
    · have har := ar_le (G (r k) 0)
      obtain ⟨p, q⟩ := d k i hk.1 hk.2.2.1 hk.2.2.2 (by omega)
      exact ⟨p, fun _ _ _ _ => q⟩
    · exact ⟨0, fun k0 k1 i0 i1 => absurd ⟨k0, k1, i0, i1⟩ hk⟩
  obtain ⟨pos, hpos⟩ : ∃ pos : Int → Int → Int, ∀ k i, 0 ≤ k → k < n → 0 ≤ i → i < ar (G (r k) 0) → 0 ≤ pos k i ∧ pos k i < n ∧ G (r k) (1 + i) = r (pos k i) ∧ ∀ w, 0 ≤ w → w < pos k i → w = 0 ∨ ∃ u2 i2, 0 ≤ u2 ∧ 0 ≤ i2 ∧ i2 < ar (G (r u2) 0) ∧ 2 * u2 + i2 < 2 * k + i ∧ G (r u2) (1 + i2) = r w :=
    ⟨fun k i => Classical.choose (hp k i), fun k i => Classical.choose_spec (hp k i)⟩
  refine ⟨fun k j => if j = 0 then G (r k) 0 else pos k (j - 1), ?_⟩
  have hB0 : ∀ k, (fun k j => if j = 0 then G (r k) 0 else pos k (j - 1)) k 0 = G (r k) 0 := fun k => if_pos rfl
  have hB1 : ∀ k i, 0 ≤ i → (fun k j => if j = 0 then G (r k) 0 else pos k (j - 1)) k (1 + i) = pos k i := fun k i hi => by
    show (if 1 + i = 0 then _ else pos k (1 + i - 1)) = _
    rw [if_neg (by omega), show 1 + i - 1 = i by omega]
  generalize (fun k j => if j = 0 then G (r k) 0 else pos k (j - 1)) = B at hB0 hB1
  refine ⟨fun k k0 k1 => ⟨hB0 k, fun i i0 i1 => ?_⟩, ?_, ?_, ?_, ?_⟩
  · have q := hpos k i k0 k1 i0 i1
    rw [hB1 k i i0]
    exact ⟨q.1, q.2.1, q.2.2.1.symm⟩
  · intro k k0 k1
    rw [hB0 k]
    refine ⟨(hh k k0 k1).1, (hh k k0 k1).2, fun i i0 i1 => ?_⟩
    have q := hpos k i k0 k1 i0 i1
    rw [hB1 k i i0]
    exact ⟨q.1, q.2.1⟩
  · intro u i u0 u1 i0 i1 w w0 w1
    rw [hB0 u] at i1
    rw [hB1 u i i0] at w1
    have q := hpos u i u0 u1 i0 i1
    rcases q.2.2.2 w w0 w1 with z | ⟨u2, i2, q1, q2, q3, q4, q5⟩
    · exact Or.inl z
    · right
      have har := ar_le (G (r u2) 0)
      have har' := ar_le (G (r u) 0)
      have q' := hpos u2 i2 q1 (by omega) q2 q3
      refine ⟨u2, i2, q1, q2, by rw [hB0 u2]; exact q3, q4, ?_⟩
      rw [hB1 u2 i2 q2]
      exact b _ _ q'.1 q'.2.1 w0 (by omega) (q'.2.2.1.symm.trans q5)
  · intro v v0 v1
    obtain ⟨u', i', q1, q2, q3, q4, q5, q6⟩ := c v v0 v1
    have q' := hpos u' i' q1 (by omega) q3 q4
    refine ⟨u', i', q1, q2, q3, by rw [hB0 u']; exact q4, ?_⟩
    rw [hB1 u' i' q3]
    exact b _ _ q'.1 q'.2.1 (by omega) v1 (q'.2.2.1.symm.trans q6)
  · intro k k0 k1
    refine Eqv.bisim (fun u v => 0 ≤ u ∧ u < n ∧ v = r u) ?_ ⟨k0, k1, rfl⟩
    rintro u v ⟨u0, u1, rfl⟩
    refine ⟨hB0 u, fun i i0 i1 => ?_⟩
    rw [hB0 u] at i1
    have q := hpos u i u0 u1 i0 i1
    rw [hB1 u i i0]
    exact ⟨q.1, q.2.1, q.2.2.1⟩
/-- 41 unlike trees are among the tree's parts -/
def Big (G : GG) (v : Int) : Prop := ∃ f : Nat → List Int, (∀ a, a ≤ 40 → ob G (f a) v ≠ -1) ∧ ∀ a b, a < b → b ≤ 40 → ∃ q, ob G (f a ++ q) v ≠ ob G (f b ++ q) v
theorem Big.eqv {G H : GG} {u v : Int} (h : Eqv G u H v) (hb : Big G u) : Big H v := by
  obtain ⟨f, h1, h2⟩ := hb
  refine ⟨f, fun a ha => by rw [← h (f a)]; exact h1 a ha, fun a b hab hb => ?_⟩
  obtain ⟨q, hq⟩ := h2 a b hab hb
  exact ⟨q, by rw [← h _, ← h _]; exact hq⟩
theorem RE.path {B : GG} {n : Int} (hR : RE B n) : ∀ k, 0 ≤ k → k < n → ∃ p : List Int, ∀ q, ob B (p ++ q) 0 = ob B q k := by
  refine int_rec (fun k => k < n → ∃ p : List Int, ∀ q, ob B (p ++ q) 0 = ob B q k) (fun k k0 ih => ?_)
  intro k1
  by_cases hk : k = 0
  · subst hk; exact ⟨[], fun q => rfl⟩
  · obtain ⟨u, i, a1, a2, a3, a4, a5⟩ := hR k (by omega) k1
    obtain ⟨p, hp⟩ := ih u a1 a2 (by omega)
    refine ⟨p ++ [i], fun q => ?_⟩
    rw [List.append_assoc, hp]
    show ob B (i :: q) u = _
    unfold ob
    rw [if_pos ⟨a3, a4⟩, a5]
    cases q <;> rfl
theorem WG.walk {C : GG} {g : Int} (hW : WG C g) : ∀ (p : List Int) (v : Int), 0 ≤ v → v < g → ob C p v ≠ -1 → ∃ w, 0 ≤ w ∧ w < g ∧ ∀ q, ob C (p ++ q) v = ob C q w := by
  intro p
  induction p with
  | nil => intro v v0 v1 _; exact ⟨v, v0, v1, fun q => rfl⟩
  | cons i p ih =>
    intro v v0 v1 hv
    unfold ob at hv
    by_cases hi : 0 ≤ i ∧ i < ar (C v 0)
    · rw [if_pos hi] at hv
      have a := (hW v v0 v1).2.2 i hi.1 hi.2
      obtain ⟨w, w0, w1, hw⟩ := ih _ a.1 a.2 hv
      refine ⟨w, w0, w1, fun q => ?_⟩
      show ob C (i :: (p ++ q)) v = _
      rw [← hw q]
      show (if 0 ≤ i ∧ i < ar (C v 0) then ob C (p ++ q) (C v (1 + i)) else -1) = _
      rw [if_pos hi]
    · rw [if_neg hi] at hv
      exact absurd rfl hv
/-- more pigeons than holes -/
theorem pig : ∀ (n : Nat) (f : Nat → Int), (∀ a, a ≤ n → 0 ≤ f a ∧ f a < n) → ∃ a b, a < b ∧ b ≤ n ∧ f a = f b := by
  intro n
  induction n with
  | zero => intro f h; have := h 0 (Nat.le_refl 0); omega
  | succ n ih =>
    intro f h
    by_cases hx : ∃ a, a ≤ n ∧ f a = f (n + 1)
    · obtain ⟨a, a1, a2⟩ := hx
      exact ⟨a, n + 1, by omega, by omega, a2⟩
    · -- the value of the last one is taken by nobody else: the last hole moves there
      obtain ⟨a, b, h1, h2, h3⟩ := ih (fun a => if f a = n then f (n + 1) else f a) (fun a ha => by
        have h1 := h a (by omega)
        have h2 := h (n + 1) (by omega)
        have h3 : f a ≠ f (n + 1) := fun e => hx ⟨a, ha, e⟩
        show 0 ≤ (if f a = n then f (n + 1) else f a) ∧ _ < _
        split
        · exact ⟨h2.1, by omega⟩
        · exact ⟨h1.1, by omega⟩)
      refine ⟨a, b, h1, by omega, ?_⟩
      have ha : f a ≠ f (n + 1) := fun e => hx ⟨a, by omega, e⟩
      have hb : f b ≠ f (n + 1) := fun e => hx ⟨b, by omega, e⟩
      have h3 : (if f a = n then f (n + 1) else f a) = (if f b = n then f (n + 1) else f b) := h3
      split at h3 <;> split at h3 <;> omega
theorem Can.small {C : GG} {g : Int} (hC : Can C g) (hg : g ≤ 40) : ¬ Big C 0 := by
  rintro ⟨f, h1, h2⟩
  have hw : ∀ a, ∃ w, a ≤ 40 → 0 ≤ w ∧ w < g ∧ ∀ q, ob C (f a ++ q) 0 = ob C q w := by
    intro a
    by_cases ha : a ≤ 40
    · obtain ⟨w, q⟩ := hC.2.1.walk (f a) 0 (by omega) (by have := hC.1; omega) (h1 a ha)
      exact ⟨w, fun _ => q⟩
    · exact ⟨0, fun q => absurd q ha⟩
  obtain ⟨a, b, ab, b40, e⟩ := pig 40 (fun a => Classical.choose (hw a)) (fun a ha => by
    have := Classical.choose_spec (hw a) ha
    exact ⟨this.1, by have := this.2.1; omega⟩)
  obtain ⟨q, hq⟩ := h2 a b ab b40
  have ea := (Classical.choose_spec (hw a) (by omega)).2.2 q
  have eb := (Classical.choose_spec (hw b) b40).2.2 q
  have e : Classical.choose (hw a) = Classical.choose (hw b) := e
  rw [e] at ea
  exact hq (ea.trans eb.symm)
/-- 41 places that no depth below t makes alike: the tree is too large -/
theorem Big.of {B : GG} {n : Int} (hn : 1 ≤ n) (hW : WG B n) (hR : RE B n) (t : Nat) (f : Nat → Int) (hf : ∀ a, a ≤ 40 → 0 ≤ f a ∧ f a < n) (hd : ∀ a b, a < b → b ≤ 40 → ¬ EqL t B (f a) B (f b)) : Big B 0 := by
  have hp : ∀ a, ∃ p : List Int, a ≤ 40 → ∀ q, ob B (p ++ q) 0 = ob B q (f a) := by
    intro a
    by_cases ha : a ≤ 40
    · obtain ⟨p, q⟩ := hR.path (f a) (hf a ha).1 (hf a ha).2
      exact ⟨p, fun _ => q⟩
    · exact ⟨[], fun q => absurd q ha⟩
  refine ⟨fun a => Classical.choose (hp a), fun a ha => ?_, fun a b hab hb => ?_⟩
  · have := Classical.choose_spec (hp a) ha []
    rw [List.append_nil] at this
    show ob B (Classical.choose (hp a)) 0 ≠ -1
    rw [this]
    have := (hW (f a) (hf a ha).1 (hf a ha).2).1
    show B (f a) 0 ≠ -1
    omega
  · have hx := hd a b hab hb
    unfold EqL at hx
    have : ∃ q : List Int, ob B q (f a) ≠ ob B q (f b) := by
      apply Classical.byContradiction
      intro hn
      exact hx (fun p _ => Classical.byContradiction (fun h => hn ⟨p, h⟩))
    obtain ⟨q, hq⟩ := this
    refine ⟨q, ?_⟩
    show ob B (Classical.choose (hp a) ++ q) 0 ≠ ob B (Classical.choose (hp b) ++ q) 0
    rw [Classical.choose_spec (hp a) (by omega) q, Classical.choose_spec (hp b) hb q]
    exact hq
