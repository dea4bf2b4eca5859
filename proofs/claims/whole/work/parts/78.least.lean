/-! filled, least -/
def Le (X : Gr) : Nat → Int → Int → Prop
  | 0, _, _ => False
  | t + 1, v, d => (GP X v 0 ≠ 0 ∧ GP X v 0 ≠ 5 ∧ d = 1) ∨ (GP X v 0 = 5 ∧ ∃ p q, Le X t (GP X v 1) p ∧ Le X t (GP X v 2) q ∧ d = cap (1 + p + q))
theorem Le.uniq {X : Gr} : ∀ (t t' : Nat) (v d d' : Int), Le X t v d → Le X t' v d' → d = d' := by
  intro t
  induction t with
  | zero => intro t' v d d' h; exact absurd h (by intro h; exact h)
  | succ t ih =>
    intro t' v d d' h h'
    cases t' with
    | zero => exact absurd h' (by intro h; exact h)
    | succ t' =>
      rcases h with ⟨a1, a2, a3⟩ | ⟨a1, p, q, a2, a3, a4⟩
      · rcases h' with ⟨b1, b2, b3⟩ | ⟨b1, _⟩
        · rw [a3, b3]
        · exact absurd b1 a2
      · rcases h' with ⟨b1, b2, b3⟩ | ⟨b1, p', q', b2, b3, b4⟩
        · exact absurd a1 b2
        · rw [a4, b4, ih t' _ p p' a2 b2, ih t' _ q q' a3 b3]
theorem Le.up {X : Gr} : ∀ (t : Nat) (v d : Int), Le X t v d → Le X (t + 1) v d := by
  intro t
  induction t with
  | zero => intro v d h; exact absurd h (by intro h; exact h)
  | succ t ih =>
    intro v d h
    rcases h with h | ⟨a1, p, q, a2, a3, a4⟩
    · exact Or.inl h
    · exact Or.inr ⟨a1, p, q, ih _ _ a2, ih _ _ a3, a4⟩
theorem Le.le {X : Gr} {t t' : Nat} {v d : Int} (h : Le X t v d) (ht : t ≤ t') : Le X t' v d := by
  have : ∀ c : Nat, Le X (t + c) v d := by
    intro c
    induction c with
    | zero => exact h
    | succ c ih => exact Le.up _ _ _ ih
  have := this (t' - t)
  rw [show t + (t' - t) = t' by omega] at this
  exact this
theorem Le.rng {X : Gr} : ∀ (t : Nat) (v d : Int), Le X t v d → 1 ≤ d ∧ d ≤ 1000000 := by
  intro t
  induction t with
  | zero => intro v d h; exact absurd h (by intro h; exact h)
  | succ t ih =>
    intro v d h
    rcases h with ⟨_, _, e⟩ | ⟨a1, p, q, a2, a3, a4⟩
    · omega
    · have b1 := ih _ _ a2
      have b2 := ih _ _ a3
      rw [a4]
      unfold cap
      split <;> omega
theorem Le.soon {X : Gr} (hX : GOK X) {t : Nat} {v d : Int} (v0 : 0 ≤ v) (v1 : v < X.1) (h : Le X t v d) : Le X X.1.toNat v d := by
  have g1 := hX.1.1
  have ht : 0 < t := by
    cases t with
    | zero => exact absurd h (by intro h; exact h)
    | succ t => omega
  obtain ⟨m, m0, m1⟩ := Frs.ex (Q := fun n v => 0 ≤ v ∧ v < X.1 ∧ ∃ d, Le X (n + 1) v d) (v := v) (t - 1) ⟨v0, v1, d, by rw [show t - 1 + 1 = t by omega]; exact h⟩
  have lt := Frs.lt (Q := fun n v => 0 ≤ v ∧ v < X.1 ∧ ∃ d, Le X (n + 1) v d) (s := X.1.toNat) (fun n v h => ⟨h.1, by have := h.2.1; omega⟩) (fun n w hw => by
    obtain ⟨⟨w0, w1, d, hd⟩, hn⟩ := hw
    have rg := hX.node w0 w1
    have nk : ¬ ∃ d, Le X (n + 1) w d := fun hd => hn n (by omega) ⟨w0, w1, hd⟩
    rcases hd with hd | ⟨a1, p, q, a2, a3, a4⟩
    · exact absurd ⟨1, Or.inl ⟨hd.1, hd.2.1, rfl⟩⟩ nk
    · by_cases c1 : ∀ d, ¬ Le X n (GP X w 1) d
      · refine ⟨GP X w 1, ⟨rg.2.2.1, rg.2.2.2.1, p, a2⟩, fun m hm hq => ?_⟩
        obtain ⟨_, _, d', hd'⟩ := hq
        exact c1 d' (hd'.le (by omega))
      · by_cases c2 : ∀ d, ¬ Le X n (GP X w 2) d
        · refine ⟨GP X w 2, ⟨rg.2.2.2.2.1, rg.2.2.2.2.2, q, a3⟩, fun m hm hq => ?_⟩
          obtain ⟨_, _, d', hd'⟩ := hq
          exact c2 d' (hd'.le (by omega))
        · exfalso
          obtain ⟨p', hp'⟩ : ∃ d, Le X n (GP X w 1) d := Classical.byContradiction fun hh => c1 fun d hd => hh ⟨d, hd⟩
          obtain ⟨q', hq'⟩ : ∃ d, Le X n (GP X w 2) d := Classical.byContradiction fun hh => c2 fun d hd => hh ⟨d, hd⟩
          exact nk ⟨_, Or.inr ⟨a1, p', q', hp', hq', rfl⟩⟩) m1
  obtain ⟨⟨_, _, d', hd'⟩, _⟩ := m1
  rw [Le.uniq _ _ _ _ _ h hd']
  exact hd'.le (by omega)
/-- a node's value by those of its parts -/
def hv (X : Gr) (V : Int → Int) (v : Int) : Int := if GP X v 0 = 0 then -1 else if GP X v 0 ≠ 5 then 1 else if V (GP X v 1) < 0 ∨ V (GP X v 2) < 0 then -1 else cap (1 + V (GP X v 1) + V (GP X v 2))
def VR (X : Gr) (V : Int → Int) : Prop := ∀ v, 0 ≤ v → v < X.1 → V v = -1 ∨ (1 ≤ V v ∧ V v ≤ 1000000)
def VSd (X : Gr) (V : Int → Int) : Prop := ∀ v, 0 ≤ v → v < X.1 → 0 ≤ V v → ∃ t', Le X t' v (V v)
def VCp (X : Gr) (V : Int → Int) (t : Nat) : Prop := ∀ v d, 0 ≤ v → v < X.1 → Le X t v d → V v = d
theorem hv_rng {X : Gr} (hX : GOK X) {V : Int → Int} (h : VR X V) {u : Int} (u0 : 0 ≤ u) (u1 : u < X.1) : hv X V u = -1 ∨ (1 ≤ hv X V u ∧ hv X V u ≤ 1000000) := by
  have rg := hX.node u0 u1
  have r1 := h _ rg.2.2.1 rg.2.2.2.1
  have r2 := h _ rg.2.2.2.2.1 rg.2.2.2.2.2
  unfold hv
  by_cases a : GP X u 0 = 0
  · rw [if_pos a]; exact Or.inl rfl
  · rw [if_neg a]
    by_cases b : GP X u 0 ≠ 5
    · rw [if_pos b]; exact Or.inr (by decide)
    · rw [if_neg b]
      by_cases c : V (GP X u 1) < 0 ∨ V (GP X u 2) < 0
      · rw [if_pos c]; exact Or.inl rfl
      · rw [if_neg c]
        right
        unfold cap
        split <;> omega
theorem hv_sound {X : Gr} (hX : GOK X) {V : Int → Int} (hs : VSd X V) {u : Int} (u0 : 0 ≤ u) (u1 : u < X.1) (h : 0 ≤ hv X V u) : ∃ t', Le X t' u (hv X V u) := by
  have rg := hX.node u0 u1
  unfold hv at *
  by_cases a : GP X u 0 = 0
  · rw [if_pos a] at h; exact absurd h (by decide)
  · rw [if_neg a] at h ⊢
    by_cases b : GP X u 0 ≠ 5
    · rw [if_pos b]; exact ⟨1, Or.inl ⟨a, b, rfl⟩⟩
    · rw [if_neg b] at h ⊢
      by_cases c : V (GP X u 1) < 0 ∨ V (GP X u 2) < 0
      · rw [if_pos c] at h; exact absurd h (by decide)
      · rw [if_neg c]
        obtain ⟨t1, k1⟩ := hs _ rg.2.2.1 rg.2.2.2.1 (by omega)
        obtain ⟨t2, k2⟩ := hs _ rg.2.2.2.2.1 rg.2.2.2.2.2 (by omega)
        exact ⟨max t1 t2 + 1, Or.inr ⟨by omega, _, _, k1.le (by omega), k2.le (by omega), rfl⟩⟩
theorem hv_comp {X : Gr} (hX : GOK X) {V : Int → Int} {t : Nat} (hc : VCp X V t) {u d : Int} (u0 : 0 ≤ u) (u1 : u < X.1) (h : Le X (t + 1) u d) : hv X V u = d := by
  have rg := hX.node u0 u1
  unfold hv
  rcases h with ⟨a1, a2, a3⟩ | ⟨a1, p, q, a2, a3, a4⟩
  · rw [if_neg a1, if_pos a2, a3]
  · have e1 := hc _ p rg.2.2.1 rg.2.2.2.1 a2
    have e2 := hc _ q rg.2.2.2.2.1 rg.2.2.2.2.2 a3
    have b1 := Le.rng _ _ _ a2
    have b2 := Le.rng _ _ _ a3
    rw [if_neg (by omega), if_neg (fun h => h a1), if_neg (by omega), e1, e2, a4]
/-- the reference's node -/
theorem lo_node {P : PL} {m m1 : Bd} {a g : Int} (n : Nm P m a g) {u : Int} (u0 : 0 ≤ u) (u1 : u < (gP P g).1) (hm : ∀ s : Nat, s ≠ 34 → m1 s = m s) (hr : VR (gP P g) (m1 34)) (t : Int) (k : Bd → Option (Int × Bd)) (f : Nat) : f_X6_leastOf_L41 a t k (f + 1) u m1 = f_X6_leastOf_L41 a t k f (u + 1) (bS m1 34 (aS (m1 34) u (hv (gP P g) (m1 34) u))) := by
  have s := n.sz
  have rg := n.rng u0 u1
  have n1 : Nm P m1 a g := n.frame (hm 0 (by decide)) (hm 1 (by decide))
  have r1 := hr (GP (gP P g) u 1) rg.2.2.1 rg.2.2.2.1
  have r2 := hr (GP (gP P g) u 2) rg.2.2.2.2.1 rg.2.2.2.2.2
  have q0 := n.part u0 u1 (i := 0) (by omega) (by omega)
  have q1 := n.part u0 u1 (i := 1) (by omega) (by omega)
  rw [show (1 : Int) + 0 = 1 from rfl] at q0
  rw [show (1 : Int) + 1 = 2 from rfl] at q1
  rw [f_X6_leastOf_L41, ckA_of n.1 n.2.1, n1.2.2.2.2.2.1, ck1_of (by omega) (by omega), ck1_of (by omega) (by omega), if_neg (by omega), n1.node u0 u1, bn_some, n.head u0 u1, bn_some, q0, bn_some, ckA_of (by omega) (by omega), q1, bn_some, ckA_of (by omega) (by omega), jn_eq, ck1_of (by omega) (by omega)]
  have fin : ∀ v : Int, -1 ≤ v → v ≤ 3000000 → cap v = hv (gP P g) (m1 34) u → (ckL v <| ck1 (l_cmp v 1000000) <| if (l_cmp v 1000000) ≤ 0 then ckA u 40 <| f_X6_leastOf_L41 a t k f (u + 1) (bS m1 34 (aS (m1 34) u v)) else ckA u 40 <| f_X6_leastOf_L41 a t k f (u + 1) (bS m1 34 (aS (m1 34) u 1000000))) = f_X6_leastOf_L41 a t k f (u + 1) (bS m1 34 (aS (m1 34) u (hv (gP P g) (m1 34) u))) := by
    intro v v0 v1 e
    rw [← e, ckL_of (by omega) (by omega)]
    unfold l_cmp cap
    by_cases d : v < 1000000
    · rw [if_pos d, ck1_of (by decide) (by decide), if_pos (by decide), if_pos (show v ≤ 1000000 by omega), ckA_of u0 (by omega)]
    · rw [if_neg d]
      by_cases e : v = 1000000
      · rw [if_pos e, ck1_of (by decide) (by decide), if_pos (by decide), if_pos (show v ≤ 1000000 by omega), ckA_of u0 (by omega)]
      · rw [if_neg e, ck1_of (by decide) (by decide), if_neg (by decide), if_neg (show ¬ v ≤ 1000000 by omega), ckA_of u0 (by omega)]
  have hvd : hv (gP P g) (m1 34) u = if GP (gP P g) u 0 = 0 then -1 else if GP (gP P g) u 0 ≠ 5 then 1 else if m1 34 (GP (gP P g) u 1) < 0 ∨ m1 34 (GP (gP P g) u 2) < 0 then -1 else cap (1 + m1 34 (GP (gP P g) u 1) + m1 34 (GP (gP P g) u 2)) := rfl
  by_cases a0 : GP (gP P g) u 0 = 0
  · rw [if_neg (fun h => h a0)]
    exact fin (-1) (by omega) (by omega) (by rw [hvd, if_pos a0]; decide)
  · rw [if_pos a0]
    by_cases a5 : GP (gP P g) u 0 = 5
    · rw [if_neg a0, if_neg (fun h => h a5)] at hvd
      rw [if_pos a5, ckL_of (by omega) (by omega)]
      by_cases b1 : m1 34 (GP (gP P g) u 1) < 0
      · rw [if_pos (Or.inl b1)] at hvd
        have e : l_cmp (m1 34 (GP (gP P g) u 1)) 0 = -1 := by unfold l_cmp; rw [if_pos b1]
        rw [e, ck1_of (by decide) (by decide), if_pos (by decide)]
        exact fin (-1) (by omega) (by omega) (by rw [hvd]; decide)
      · have e : l_cmp (m1 34 (GP (gP P g) u 1)) 0 = 1 := by unfold l_cmp; rw [if_neg b1, if_neg (by omega)]
        rw [e, ck1_of (by decide) (by decide), if_neg (by decide), ckL_of (by omega) (by omega)]
        by_cases b2 : m1 34 (GP (gP P g) u 2) < 0
        · rw [if_pos (Or.inr b2)] at hvd
          have e : l_cmp (m1 34 (GP (gP P g) u 2)) 0 = -1 := by unfold l_cmp; rw [if_pos b2]
          rw [e, ck1_of (by decide) (by decide), if_neg (by decide)]
          exact fin (-1) (by omega) (by omega) (by rw [hvd]; decide)
        · rw [if_neg (by omega)] at hvd
          have e : l_cmp (m1 34 (GP (gP P g) u 2)) 0 = 1 := by unfold l_cmp; rw [if_neg b2, if_neg (by omega)]
          rw [e, ck1_of (by decide) (by decide), if_pos (by decide)]
          exact fin _ (by omega) (by omega) hvd.symm
    · rw [if_neg a0, if_pos a5] at hvd
      rw [if_neg a5]
      exact fin 1 (by omega) (by omega) (by rw [hvd]; decide)
def JL (X : Gr) (V : Int → Int) (t : Nat) (u : Int) : Prop := VR X V ∧ VSd X V ∧ VCp X V t ∧ ∀ v d, 0 ≤ v → v < u → Le X (t + 1) v d → V v = d
theorem JL.next {X : Gr} (hX : GOK X) {V : Int → Int} {t : Nat} {u : Int} (h : JL X V t u) (u0 : 0 ≤ u) (u1 : u < X.1) : JL X (aS V u (hv X V u)) t (u + 1) := by
  obtain ⟨h1, h2, h3, h4⟩ := h
  refine ⟨fun v v0 v1 => ?_, fun v v0 v1 hk => ?_, fun v d v0 v1 hk => ?_, fun v d v0 v1 hk => ?_⟩
  · by_cases e : v = u
    · rw [e, aS_eq]; exact hv_rng hX h1 u0 u1
    · rw [aS_ne _ _ e]; exact h1 v v0 v1
  · by_cases e : v = u
    · rw [e, aS_eq] at hk ⊢; exact hv_sound hX h2 u0 u1 hk
    · rw [aS_ne _ _ e] at hk ⊢; exact h2 v v0 v1 hk
  · by_cases e : v = u
    · rw [e] at hk
      rw [e, aS_eq]; exact hv_comp hX h3 u0 u1 (Le.up _ _ _ hk)
    · rw [aS_ne _ _ e]; exact h3 v d v0 v1 hk
  · by_cases e : v = u
    · rw [e] at hk
      rw [e, aS_eq]; exact hv_comp hX h3 u0 u1 hk
    · rw [aS_ne _ _ e]; exact h4 v d v0 (by omega) hk
theorem lo_row {P : PL} {m : Bd} {a g : Int} (n : Nm P m a g) (tt : Int) {t : Nat} : ∀ (f : Nat) (u : Int) (m1 : Bd), (gP P g).1 - u < f → 0 ≤ u → u ≤ (gP P g).1 → (∀ s : Nat, s ≠ 34 → m1 s = m s) → JL (gP P g) (m1 34) t u → ∃ m', (∀ s : Nat, s ≠ 34 → m' s = m s) ∧ JL (gP P g) (m' 34) (t + 1) 0 ∧ ∀ k, f_X6_leastOf_L41 a tt k f u m1 = k m' := by
  have s := n.sz
  have gg := n.2.2.2.2.1
  intro f
  induction f with
  | zero => intro i m1 h0 _ h2; omega
  | succ f ih =>
    intro u m1 h0 u0 u1 hf hJ
    by_cases hx : (gP P g).1 ≤ u
    · obtain ⟨h1, h2, h3, h4⟩ := hJ
      refine ⟨m1, hf, ⟨h1, h2, fun v d v0 v1 hk => h4 v d v0 (by omega) hk, fun v d v0 v1 => by omega⟩, fun k => ?_⟩
      have n1 : Nm P m1 a g := n.frame (hf 0 (by decide)) (hf 1 (by decide))
      rw [f_X6_leastOf_L41, ckA_of n.1 n.2.1, n1.2.2.2.2.2.1, ck1_of (by omega) (by omega), ck1_of (by omega) (by omega), if_pos hx]
    · obtain ⟨m', k1, k2, k3⟩ := ih (u + 1) (bS m1 34 (aS (m1 34) u (hv (gP P g) (m1 34) u))) (by omega) (by omega) (by omega) (fun s hs => by rw [bS_ne _ _ hs]; exact hf s hs) (by rw [bS_eq]; exact hJ.next gg u0 (by omega))
      refine ⟨m', k1, k2, fun k => ?_⟩
      rw [lo_node n u0 (by omega) hf hJ.1 tt k f]
      exact k3 k
theorem lo_times {N : Nat} (hN : 20000 ≤ N) {P : PL} {m : Bd} {a g : Int} (n : Nm P m a g) : ∀ (f t : Nat) (m1 : Bd), (gP P g).1 - t < f → (t : Int) ≤ (gP P g).1 → (∀ s : Nat, s ≠ 34 → m1 s = m s) → JL (gP P g) (m1 34) t 0 → ∃ m', (∀ s : Nat, s ≠ 34 → m' s = m s) ∧ JL (gP P g) (m' 34) (gP P g).1.toNat 0 ∧ ∀ k, f_X6_leastOf_L29 N a k f t m1 = k m' := by
  have s := n.sz
  intro f
  induction f with
  | zero => intro i m1 h0 h2; omega
  | succ f ih =>
    intro t m1 h0 t1 hf hJ
    have n1 : Nm P m1 a g := n.frame (hf 0 (by decide)) (hf 1 (by decide))
    by_cases hx : (gP P g).1 ≤ t
    · refine ⟨m1, hf, by rw [show (gP P g).1.toNat = t by omega]; exact hJ, fun k => ?_⟩
      rw [f_X6_leastOf_L29, ckA_of n.1 n.2.1, n1.2.2.2.2.2.1, ck1_of (by omega) (by omega), ck1_of (by omega) (by omega), if_pos hx]
    · obtain ⟨m2, l1, l2, l3⟩ := lo_row n t (t := t) N 0 m1 (by omega) (by omega) (by omega) hf hJ
      obtain ⟨m', k1, k2, k3⟩ := ih (t + 1) m2 (by omega) (by omega) l1 l2
      refine ⟨m', k1, k2, fun k => ?_⟩
      rw [f_X6_leastOf_L29, ckA_of n.1 n.2.1, n1.2.2.2.2.2.1, ck1_of (by omega) (by omega), ck1_of (by omega) (by omega), if_neg hx, l3]
      exact k3 k
theorem lo_init {P : PL} {m : Bd} {a g : Int} (n : Nm P m a g) : ∀ (f : Nat) (i : Int) (m1 : Bd), (gP P g).1 - i < f → 0 ≤ i → i ≤ (gP P g).1 → (∀ t : Nat, t ≠ 34 → m1 t = m t) → (∀ v, 0 ≤ v → v < i → m1 34 v = -1) → ∃ m', (∀ t : Nat, t ≠ 34 → m' t = m t) ∧ (∀ v, 0 ≤ v → v < (gP P g).1 → m' 34 v = -1) ∧ ∀ k, f_X6_leastOf_L2 a k f i m1 = k m' := by
  have s := n.sz
  intro f
  induction f with
  | zero => intro i m1 h0 _ h2; omega
  | succ f ih =>
    intro i m1 h0 i0 i1 hf hd
    have n1 : Nm P m1 a g := n.frame (hf 0 (by decide)) (hf 1 (by decide))
    by_cases hx : (gP P g).1 ≤ i
    · refine ⟨m1, hf, fun v v0 v1 => hd v v0 (by omega), fun k => ?_⟩
      rw [f_X6_leastOf_L2, ckA_of n.1 n.2.1, n1.2.2.2.2.2.1, ck1_of (by omega) (by omega), ck1_of (by omega) (by omega), if_pos hx]
    · obtain ⟨m', k1, k2, k3⟩ := ih (i + 1) (bS m1 34 (aS (m1 34) i (-1))) (by omega) (by omega) (by omega) (fun t ht => by rw [bS_ne _ _ ht]; exact hf t ht) (fun v v0 v1 => by
        rw [bS_eq]
        by_cases c : v = i
        · rw [c, aS_eq]
        · rw [aS_ne _ _ c]; exact hd v v0 (by omega))
      refine ⟨m', k1, k2, fun k => ?_⟩
      rw [f_X6_leastOf_L2, ckA_of n.1 n.2.1, n1.2.2.2.2.2.1, ck1_of (by omega) (by omega), ck1_of (by omega) (by omega), if_neg hx, ckA_of i0 (by omega)]
      exact k3 k
/-- the value of the first node -/
def LV (X : Gr) (v : Int) : Prop := (v = -1 ∨ (1 ≤ v ∧ v ≤ 1000000)) ∧ (∀ t d, Le X t 0 d → v = d) ∧ (0 ≤ v → ∃ t, Le X t 0 v)
theorem LV.uniq {X : Gr} {v w : Int} (h : LV X v) (k : LV X w) : v = w := by
  obtain ⟨h1, h2, h3⟩ := h
  obtain ⟨k1, k2, k3⟩ := k
  by_cases c : 0 ≤ v
  · obtain ⟨t, ht⟩ := h3 c
    exact (k2 t v ht).symm
  · by_cases d : 0 ≤ w
    · obtain ⟨t, ht⟩ := k3 d
      exact h2 t w ht
    · omega
theorem leastOf_of {N : Nat} (hN : 20000 ≤ N) {P : PL} {m : Bd} {a g : Int} (n : Nm P m a g) : ∃ v m', f_X6_leastOf N m a = some (v, m') ∧ (∀ s : Nat, s ≠ 34 → m' s = m s) ∧ LV (gP P g) v := by
  have s := n.sz
  have gg := n.2.2.2.2.1
  obtain ⟨m1, k1, k2, k3⟩ := lo_init n N 0 m (by omega) (by omega) (by omega) (fun _ _ => rfl) (fun v v0 v1 => by omega)
  obtain ⟨m2, l1, l2, l3⟩ := lo_times hN n N 0 m1 (by omega) (by omega) k1 ⟨fun v v0 v1 => Or.inl (k2 v v0 v1), fun v v0 v1 h => by rw [k2 v v0 v1] at h; exact absurd h (by decide), fun v d v0 v1 h => absurd h (by intro h; exact h), fun v d v0 v1 => by omega⟩
  have l3 : ∀ k, f_X6_leastOf_L29 N a k N 0 m1 = k m2 := l3
  refine ⟨m2 34 0, m2, ?_, l1, l2.1 0 (by omega) (by omega), fun t d hd => l2.2.2.1 0 d (by omega) (by omega) (hd.soon gg (by omega) (by omega)), fun h => l2.2.1 0 (by omega) (by omega) h⟩
  unfold f_X6_leastOf
  rw [k3, l3]
/-- the program's node -/
theorem here_of {P : PL} {ms1 : Bd} {g : Int} (p0 : 0 ≤ g) (p1 : g < (P.length : Int)) (gg : GOK (gP P g)) {u : Int} (u0 : 0 ≤ u) (u1 : u < (gP P g).1) (hr : VR (gP P g) (ms1 0)) : f_X3_leastHere ms1 P g u = some (hv (gP P g) (ms1 0) u) := by
  have g40 := gg.2
  have rg := gg.node u0 u1
  have r1 := hr _ rg.2.2.1 rg.2.2.2.1
  have r2 := hr _ rg.2.2.2.2.1 rg.2.2.2.2.2
  have q0 := partAt_of (h := g) g40 u0 u1 (i := 0) (by omega) (by omega)
  have q1 := partAt_of (h := g) g40 u0 u1 (i := 1) (by omega) (by omega)
  rw [show (1 : Int) + 0 = 1 from rfl] at q0
  rw [show (1 : Int) + 1 = 2 from rfl] at q1
  unfold f_X3_leastHere hv
  rw [ckG_of p0 p1, headAt_of g40 u0 u1, bn_some, ck1_of (by omega) (by omega)]
  by_cases a0 : GP (gP P g) u 0 = 0
  · rw [if_neg (fun h => h a0), if_pos a0]
  · rw [if_pos a0, if_neg a0]
    by_cases a5 : GP (gP P g) u 0 = 5
    · rw [if_pos a5, if_neg (fun h => h a5), q0, bn_some, ckA_of (by omega) (by omega), q1, bn_some, ckA_of (by omega) (by omega), ck1_of (by omega) (by omega)]
      by_cases b1 : ms1 0 (GP (gP P g) u 1) = -1
      · rw [if_pos b1, if_pos (Or.inl (by omega))]
      · rw [if_neg b1, ck1_of (by omega) (by omega)]
        by_cases b2 : ms1 0 (GP (gP P g) u 2) = -1
        · rw [if_neg (fun h => h b2), if_pos (Or.inr (by omega))]
        · rw [if_pos b2, ck1_of (by omega) (by omega), if_neg (by omega), cap_min]
    · rw [if_neg a5, if_pos a5]
/-- one round: z whether something changed -/
theorem lv_row {P : PL} {g : Int} (p0 : 0 ≤ g) (p1 : g < (P.length : Int)) (gg : GOK (gP P g)) (r : Int) {t : Nat} : ∀ (f : Nat) (z u : Int) (ms1 : Bd), (gP P g).1 - u < f → 0 ≤ u → u ≤ (gP P g).1 → (z = 0 ∨ z = 1) → JL (gP P g) (ms1 0) t u → (z = 0 → ∀ v, 0 ≤ v → v < u → ms1 0 v = -1 → hv (gP P g) (ms1 0) v = -1) → ∃ z' ms', (z' = 0 ∨ z' = 1) ∧ JL (gP P g) (ms' 0) (t + 1) 0 ∧ (z' = 0 → ∀ v, 0 ≤ v → v < (gP P g).1 → ms' 0 v = -1 → hv (gP P g) (ms' 0) v = -1) ∧ ∀ k, f_X3_leastValue_L31 P g r k f z u ms1 = k z' ms' := by
  have g40 := gg.2
  intro f
  induction f with
  | zero => intro z i m1 h0 _ h2; omega
  | succ f ih =>
    intro z u ms1 h0 u0 u1 hz hJ hcl
    by_cases hx : (gP P g).1 ≤ u
    · obtain ⟨h1, h2, h3, h4⟩ := hJ
      refine ⟨z, ms1, hz, ⟨h1, h2, fun v d v0 v1 hk => h4 v d v0 (by omega) hk, fun v d v0 v1 => by omega⟩, fun e v v0 v1 => hcl e v v0 (by omega), fun k => ?_⟩
      rw [f_X3_leastValue_L31, ckG_of p0 p1, ck1_of (by omega) (by omega), ck1_of (by omega) (by omega), if_pos hx]
    · have u1' : u < (gP P g).1 := by omega
      have ru := hJ.1 u u0 u1'
      by_cases cu : ms1 0 u = -1
      · have hh := here_of p0 p1 gg u0 u1' hJ.1
        have hr := hv_rng gg hJ.1 u0 u1'
        have nx := hJ.next gg u0 u1'
        by_cases cv : hv (gP P g) (ms1 0) u = -1
        · have same : bS ms1 0 (aS (ms1 0) u (-1)) = ms1 := by
            have := bS_self ms1 0 u
            rw [cu] at this
            exact this
          have nx2 : JL (gP P g) (ms1 0) t (u + 1) := by
            rw [cv] at nx
            have e : aS (ms1 0) u (-1) = ms1 0 := by rw [← cu]; exact aS_id _ _
            rw [e] at nx
            exact nx
          obtain ⟨z', ms', k1, k2, k3, k4⟩ := ih z (u + 1) ms1 (by omega) (by omega) (by omega) hz nx2 (fun e v v0 v1 hv1 => by
            by_cases ev : v = u
            · rw [ev]; exact cv
            · exact hcl e v v0 (by omega) hv1)
          refine ⟨z', ms', k1, k2, k3, fun k => ?_⟩
          have ez : i_or z 0 = z := i_or_zero (by rcases hz with h | h <;> rw [h] <;> decide)
          rw [f_X3_leastValue_L31, ckG_of p0 p1, ck1_of (by omega) (by omega), ck1_of (by omega) (by omega), if_neg hx, ckA_of u0 (by omega), ck1_of (by omega) (by omega), if_neg (fun h => h cu), hh, bn_some, aS_eq, ck1_of (by omega) (by omega), jn_eq, if_pos cv]
          dsimp only
          rw [ez, cv, same]
          exact k4 k
        · obtain ⟨z', ms', k1, k2, k3, k4⟩ := ih (i_or z 1) (u + 1) (bS ms1 0 (aS (ms1 0) u (hv (gP P g) (ms1 0) u))) (by omega) (by omega) (by omega) (by rw [or01 hz (Or.inr rfl)]; split <;> omega) (by rw [bS_eq]; exact nx) (fun e => by
            exfalso
            rw [or01 hz (Or.inr rfl)] at e
            by_cases c : z = 0
            · rw [if_pos c] at e; exact absurd e (by decide)
            · rw [if_neg c] at e; exact absurd e (by decide))
          refine ⟨z', ms', k1, k2, k3, fun k => ?_⟩
          rw [f_X3_leastValue_L31, ckG_of p0 p1, ck1_of (by omega) (by omega), ck1_of (by omega) (by omega), if_neg hx, ckA_of u0 (by omega), ck1_of (by omega) (by omega), if_neg (fun h => h cu), hh, bn_some, aS_eq, ck1_of (by omega) (by omega), jn_eq, if_neg cv]
          exact k4 k
      · -- known already: nothing is written
        have nx : JL (gP P g) (ms1 0) t (u + 1) := by
          obtain ⟨h1, h2, h3, h4⟩ := hJ
          refine ⟨h1, h2, h3, fun v d v0 v1 hk => ?_⟩
          by_cases ev : v = u
          · rw [ev] at hk ⊢
            obtain ⟨t', ht'⟩ := h2 u u0 u1' (by omega)
            exact Le.uniq _ _ _ _ _ ht' hk
          · exact h4 v d v0 (by omega) hk
        obtain ⟨z', ms', k1, k2, k3, k4⟩ := ih z (u + 1) ms1 (by omega) (by omega) (by omega) hz nx (fun e v v0 v1 hv1 => by
          by_cases ev : v = u
          · rw [ev] at hv1; exact absurd hv1 cu
          · exact hcl e v v0 (by omega) hv1)
        refine ⟨z', ms', k1, k2, k3, fun k => ?_⟩
        rw [f_X3_leastValue_L31, ckG_of p0 p1, ck1_of (by omega) (by omega), ck1_of (by omega) (by omega), if_neg hx, ckA_of u0 (by omega), ck1_of (by omega) (by omega), if_pos cu]
        exact k4 k
theorem lv_closed {X : Gr} (hX : GOK X) {V : Int → Int} (h1 : VR X V) (h2 : VSd X V) (hc : ∀ v, 0 ≤ v → v < X.1 → V v = -1 → hv X V v = -1) : ∀ (t : Nat) (v d : Int), 0 ≤ v → v < X.1 → Le X t v d → V v = d := by
  intro t
  induction t with
  | zero => intro v d _ _ h; exact absurd h (by intro h; exact h)
  | succ t ih =>
    intro v d v0 v1 h
    by_cases c : V v = -1
    · exfalso
      have e := hv_comp hX (V := V) (t := t) ih v0 v1 h
      have r := Le.rng _ _ _ h
      rw [hc v v0 v1 c] at e
      omega
    · have := h1 v v0 v1
      obtain ⟨t', ht'⟩ := h2 v v0 v1 (by omega)
      exact Le.uniq _ _ _ _ _ ht' h
theorem lv_times {N : Nat} (hN : 20000 ≤ N) {P : PL} {g : Int} (p0 : 0 ≤ g) (p1 : g < (P.length : Int)) (gg : GOK (gP P g)) : ∀ (f t : Nat) (ms1 : Bd), 42 - (t : Int) < f → t ≤ 41 → JL (gP P g) (ms1 0) t 0 → ∃ ms', VR (gP P g) (ms' 0) ∧ VSd (gP P g) (ms' 0) ∧ (∀ t v d, 0 ≤ v → v < (gP P g).1 → Le (gP P g) t v d → ms' 0 v = d) ∧ ∀ k, f_X3_leastValue_L16 N P g k f 1 t ms1 = k ms' := by
  have g40 := gg.2
  have g1 := gg.1.1
  intro f
  induction f with
  | zero => intro i m1 h0 h2; omega
  | succ f ih =>
    intro t ms1 h0 t1 hJ
    by_cases hx : 40 < (t : Int)
    · refine ⟨ms1, hJ.1, hJ.2.1, fun t' v d v0 v1 hk => hJ.2.2.1 v d v0 v1 ((hk.soon gg v0 v1).le (by omega)), fun k => ?_⟩
      rw [f_X3_leastValue_L16, ck1_of (by omega) (by omega), if_neg (by decide), ck1_of (by omega) (by omega), if_pos hx]
    · obtain ⟨z, ms2, l1, l2, l3, l4⟩ := lv_row p0 p1 gg t (t := t) N 0 0 ms1 (by omega) (by omega) (by omega) (Or.inl rfl) hJ (fun _ v v0 v1 => by omega)
      rcases l1 with rfl | rfl
      · refine ⟨ms2, l2.1, l2.2.1, fun t' v d v0 v1 hk => lv_closed gg l2.1 l2.2.1 (l3 rfl) t' v d v0 v1 hk, fun k => ?_⟩
        rw [f_X3_leastValue_L16, ck1_of (by omega) (by omega), if_neg (by decide), ck1_of (by omega) (by omega), if_neg hx, l4]
        cases f with
        | zero => omega
        | succ f => rw [f_X3_leastValue_L16, ck1_of (by omega) (by omega), if_pos rfl]
      · obtain ⟨ms', k1, k2, k3, k4⟩ := ih (t + 1) ms2 (by omega) (by omega) l2
        refine ⟨ms', k1, k2, k3, fun k => ?_⟩
        rw [f_X3_leastValue_L16, ck1_of (by omega) (by omega), if_neg (by decide), ck1_of (by omega) (by omega), if_neg hx, l4]
        exact k4 k
theorem leastValue_of {N : Nat} (hN : 20000 ≤ N) {P : PL} {ms : Bd} {g : Int} (p0 : 0 ≤ g) (p1 : g < (P.length : Int)) (gg : GOK (gP P g)) : ∃ v ms', f_X3_leastValue N ms P g = some (v, ms') ∧ LV (gP P g) v := by
  have g40 := gg.2
  have g1 := gg.1.1
  obtain ⟨row, f1, f2, f3⟩ := fill_of (N := N) (row := ms 0) (ni := 40) (x1 := (gP P g).1) (x2 := -1) (by omega) g40 (by omega) (by omega)
  obtain ⟨ms2, t1, t2, t3, t4⟩ := lv_times hN p0 p1 gg N 0 (bS ms 0 row) (by omega) (by omega) ⟨fun w w0 w1 => by rw [bS_eq]; exact Or.inl (f2 w w0 w1), fun w w0 w1 h => by rw [bS_eq, f2 w w0 w1] at h; exact absurd h (by decide), fun w d w0 w1 hk => absurd hk (by intro h; exact h), fun w d w0 w1 => by omega⟩
  have t4 : ∀ k, f_X3_leastValue_L16 N P g k N 1 0 (bS ms 0 row) = k ms2 := t4
  refine ⟨ms2 0 0, ms2, ?_, t1 0 (by omega) (by omega), fun t d hd => t3 t 0 d (by omega) (by omega) hd, fun h => t2 0 (by omega) (by omega) h⟩
  unfold f_X3_leastValue
  rw [ckG_of p0 p1, f1, bn_some, t4]
theorem least_step {N : Nat} (hN : 20000 ≤ N) {T : Int} {lt b m ms : Bd} {P : PL} (h : RR T lt b m P) {x : Int} (hx : inR x) : Step1m T b P (f_X5_least N lt ms P x) (f_X6_least N m x) := by
  unfold f_X5_least f_X6_least
  rcases nm_of h.2.2.2.1 h.2.2.2.2.2.1 hx with ⟨e1, e2⟩ | ⟨g, e1, e2, n⟩
  · simp (disch := omega) only [e1, e2, ↓bn_some, ↓ck1_of, ↓if_pos, ↓if_neg]
    exact bad1m h
  · obtain ⟨a0, a1, p0, p1, gg, e, -⟩ := id n
    obtain ⟨v, ms', l1, l2⟩ := leastValue_of hN (ms := ms) p0 p1 gg
    obtain ⟨w, m', k1, k2, k3⟩ := leastOf_of hN n
    have ew := k3.uniq l2
    subst ew
    simp (disch := omega) only [e1, e2, ↓bn_some, ↓ck1_of, ↓if_pos, ↓if_neg, l1, k1]
    exact ⟨w, lt, ms', m', rfl, rfl, by have := l2.1; exact ⟨by omega, by omega⟩, h.up.frame (fun _ _ _ => rfl) rfl (fun s hs => k2 s (by omega))⟩
theorem filled_step {N : Nat} (hN : 20000 ≤ N) {T : Int} {lt b m ms : Bd} {P : PL} (h : RR T lt b m P) {x : Int} (hx : inR x) : Step1m T b P (f_X5_filled N lt ms P x) (f_X6_filled N m x) := by
  unfold f_X5_filled f_X6_filled
  rcases nm_of h.2.2.2.1 h.2.2.2.2.2.1 hx with ⟨e1, e2⟩ | ⟨g, e1, e2, n⟩
  · simp (disch := omega) only [e1, e2, ↓bn_some, ↓ck1_of, ↓if_pos, ↓if_neg]
    exact bad1m h
  · obtain ⟨a0, a1, p0, p1, gg, e, -⟩ := id n
    obtain ⟨v, ms', l1, l2⟩ := leastValue_of hN (ms := ms) p0 p1 gg
    obtain ⟨w, m', k1, k2, k3⟩ := leastOf_of hN n
    have ew := k3.uniq l2
    subst ew
    have r := l2.1
    have fr : RR (T + 1) lt b m' P := h.up.frame (fun _ _ _ => rfl) rfl (fun s hs => k2 s (by omega))
    by_cases c : w = -1
    · simp (disch := omega) only [e1, e2, ↓bn_some, ↓ck1_of, ↓if_pos, ↓if_neg, ↓jn_eq, l1, k1]
      exact ⟨0, lt, ms', m', rfl, rfl, by decide, fr⟩
    · simp (disch := omega) only [e1, e2, ↓bn_some, ↓ck1_of, ↓if_pos, ↓if_neg, ↓jn_eq, l1, k1]
      exact ⟨1, lt, ms', m', rfl, rfl, by decide, fr⟩
