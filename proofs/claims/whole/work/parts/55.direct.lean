/-! many, alike, told, digest -/
/-- the graph h of the pool is what the name a has -/
def Nm (P : PL) (m : Bd) (a h : Int) : Prop := 0 ≤ a ∧ a < 8 ∧ 0 ≤ h ∧ h < (P.length : Int) ∧ GOK (gP P h) ∧ m 0 a = (gP P h).1 ∧ ∀ v, 0 ≤ v → v < (gP P h).1 → m 1 (40 * a + v) = pk (GP (gP P h) v 0) (GP (gP P h) v 1) (GP (gP P h) v 2)
theorem nm_of {lt m : Bd} {P : PL} (hN : RName lt m P) (hP : POK P) {x : Int} (hx : inR x) : (f_X5_graphOf lt x = some (-1) ∧ f_X6_has m x = some 0) ∨ (∃ h, f_X5_graphOf lt x = some h ∧ f_X6_has m x = some 1 ∧ Nm P m x h) := by
  rcases has_of hN hP hx with q | ⟨x0, x1, e1, e2, p0, p1, g, s, w⟩
  · exact Or.inl q
  · exact Or.inr ⟨lt 3 x, e1, e2, x0, x1, p0, p1, g, s, w⟩
theorem Nm.sz {P : PL} {m : Bd} {a h : Int} (n : Nm P m a h) : 1 ≤ (gP P h).1 ∧ (gP P h).1 ≤ 40 := ⟨n.2.2.2.2.1.1.1, n.2.2.2.2.1.2⟩
theorem Nm.node {P : PL} {m : Bd} {a h : Int} (n : Nm P m a h) {v : Int} (v0 : 0 ≤ v) (v1 : v < (gP P h).1) : f_X6_nodeAt m a v = some (pk (GP (gP P h) v 0) (GP (gP P h) v 1) (GP (gP P h) v 2)) := by
  have s := n.sz
  obtain ⟨a0, a1, -, -, g, e, w⟩ := n
  unfold f_X6_nodeAt
  rw [ckA_of (by omega) (by omega), w v v0 v1]
theorem Nm.head {P : PL} {m : Bd} {a h : Int} (n : Nm P m a h) {v : Int} (v0 : 0 ≤ v) (v1 : v < (gP P h).1) : f_X6_headOf (pk (GP (gP P h) v 0) (GP (gP P h) v 1) (GP (gP P h) v 2)) = some (GP (gP P h) v 0) := by
  have s := n.sz
  have g := n.2.2.2.2.1.node v0 v1
  exact pk_head (by omega) (by omega) (by omega) (by omega) (by omega) (by omega)
theorem Nm.part {P : PL} {m : Bd} {a h : Int} (n : Nm P m a h) {v i : Int} (v0 : 0 ≤ v) (v1 : v < (gP P h).1) (i0 : 0 ≤ i) (i1 : i < 2) : f_X6_partOf (pk (GP (gP P h) v 0) (GP (gP P h) v 1) (GP (gP P h) v 2)) i = some (GP (gP P h) v (1 + i)) := by
  have s := n.sz
  have g := n.2.2.2.2.1.node v0 v1
  by_cases hi : i = 0
  · subst hi
    exact pk_part0 (by omega) (by omega) (by omega) (by omega) (by omega) (by omega)
  · have : i = 1 := by omega
    subst this
    exact pk_part1 (by omega) (by omega) (by omega) (by omega) (by omega) (by omega)
theorem Nm.rng {P : PL} {m : Bd} {a h : Int} (n : Nm P m a h) {v : Int} (v0 : 0 ≤ v) (v1 : v < (gP P h).1) : 0 ≤ GP (gP P h) v 0 ∧ GP (gP P h) v 0 ≤ 6 ∧ 0 ≤ GP (gP P h) v 1 ∧ GP (gP P h) v 1 < (gP P h).1 ∧ 0 ≤ GP (gP P h) v 2 ∧ GP (gP P h) v 2 < (gP P h).1 := n.2.2.2.2.1.node v0 v1
theorem Nm.prt {P : PL} {m : Bd} {a h : Int} (n : Nm P m a h) {v i : Int} (v0 : 0 ≤ v) (v1 : v < (gP P h).1) (i0 : 0 ≤ i) (i1 : i < 2) : 0 ≤ GP (gP P h) v (1 + i) ∧ GP (gP P h) v (1 + i) < (gP P h).1 := by
  have g := n.rng v0 v1
  by_cases hi : i = 0
  · subst hi; exact ⟨g.2.2.1, g.2.2.2.1⟩
  · have : i = 1 := by omega
    subst this; exact ⟨g.2.2.2.2.1, g.2.2.2.2.2⟩
theorem many_loop {P : PL} {m : Bd} {h a x : Int} (n : Nm P m a h) (x0 : 0 ≤ x) (x1 : x ≤ 6) : ∀ (f : Nat) (i acc : Int), (gP P h).1 - i < f → 0 ≤ i → i ≤ (gP P h).1 → 0 ≤ acc → acc ≤ i → ∃ v, 0 ≤ v ∧ v ≤ 40 ∧ (∀ k, f_X2_countOf_L4 P h x k f acc i = k v) ∧ (∀ k, f_X6_many_L30 m a x k f acc i = k v) := by
  have s := n.sz
  obtain ⟨a0, a1, p0, p1, g, e, w⟩ := id n
  intro f
  induction f with
  | zero => intro i acc h0 _ h2; omega
  | succ f ih =>
    intro i acc h0 i0 i1 c0 c1
    by_cases hx : (gP P h).1 ≤ i
    · refine ⟨acc, by omega, by omega, fun k => ?_, fun k => ?_⟩
      · simp (disch := omega) only [f_X2_countOf_L4, ↓ck1_of, ↓if_pos]
      · simp (disch := omega) only [f_X6_many_L30, e, ↓ckA_of, ↓ck1_of, ↓if_pos]
    · have r := n.rng (v := i) i0 (by omega)
      by_cases hh : GP (gP P h) i 0 = x
      · obtain ⟨v, v0, v1, k1, k2⟩ := ih (i + 1) (acc + 1) (by omega) (by omega) (by omega) (by omega) (by omega)
        refine ⟨v, v0, v1, fun k => ?_, fun k => ?_⟩
        · simp (disch := omega) only [f_X2_countOf_L4, ↓ck1_of, ↓if_neg, headAt_of g.2 i0 (by omega : i < (gP P h).1), ↓bn_some]
          exact k1 k
        · simp (disch := omega) only [f_X6_many_L30, e, ↓ckA_of, ↓ck1_of, ↓if_neg, n.node i0 (by omega : i < (gP P h).1), n.head i0 (by omega : i < (gP P h).1), ↓bn_some, ↓jn_eq]
          exact k2 k
      · obtain ⟨v, v0, v1, k1, k2⟩ := ih (i + 1) acc (by omega) (by omega) (by omega) (by omega) (by omega)
        refine ⟨v, v0, v1, fun k => ?_, fun k => ?_⟩
        · simp (disch := omega) only [f_X2_countOf_L4, ↓ck1_of, ↓if_neg, ↓if_pos, headAt_of g.2 i0 (by omega : i < (gP P h).1), ↓bn_some]
          exact k1 k
        · simp (disch := omega) only [f_X6_many_L30, e, ↓ckA_of, ↓ck1_of, ↓if_neg, ↓if_pos, n.node i0 (by omega : i < (gP P h).1), n.head i0 (by omega : i < (gP P h).1), ↓bn_some, ↓jn_eq]
          have := k2 k
          rw [show acc + 0 = acc by omega]
          exact this
/-- a call with a refusal BAD -/
theorem bad1 {T : Int} {lt b m : Bd} {P : PL} (h : RR T lt b m P) : Step1 T b P (bn (f_X5_refuseBad lt) fun q => some (q.1, q.2)) (bn (f_X6_refuses m (-2)) fun q => some (q.1, q.2)) := by
  obtain ⟨lt', m', e1, e2, r⟩ := refBad h
  rw [e1, e2, bn_some, bn_some]
  exact ⟨-2, lt', m', rfl, rfl, by decide, r⟩
theorem many_step {N : Nat} (hN : 4000 ≤ N) {T : Int} {lt b m : Bd} {P : PL} (h : RR T lt b m P) {x y : Int} (hx : inR x) (hy : inR y) : Step1 T b P (f_X5_many N lt P x y) (f_X6_many N m x y) := by
  unfold f_X5_many f_X6_many
  rcases nm_of h.2.2.2.1 h.2.2.2.2.2.1 hx with ⟨e1, e2⟩ | ⟨g, e1, e2, n⟩
  · simp (disch := omega) only [e1, e2, ↓bn_some, ↓jn_eq, ↓ck1_of, ↓if_pos]
    exact bad1 h
  · have s := n.sz
    have p0 := n.2.2.1
    have p1 := n.2.2.2.1
    have iy := in_of (v := y) (l := 0) (h := 6) hy (by decide) (by decide)
    by_cases hy : 0 ≤ y ∧ y ≤ 6
    · obtain ⟨v, v0, v1, k1, k2⟩ := many_loop n (x := y) hy.1 hy.2 N 0 0 (by omega) (by omega) (by omega) (by omega) (by omega)
      rw [if_pos hy] at iy
      simp (disch := omega) only [e1, e2, ↓bn_some, ↓jn_eq, ↓ck1_of, ↓if_pos, ↓if_neg, iy, ↓ckG_of, f_X2_countOf, k1, k2]
      exact ⟨_, _, _, rfl, rfl, ⟨by omega, by omega⟩, h.up⟩
    · rw [if_neg hy] at iy
      by_cases c : y < 0
      · simp (disch := omega) only [e1, e2, ↓bn_some, ↓jn_eq, ↓ck1_of, ↓if_pos, ↓if_neg, iy]
        exact bad1 h
      · simp (disch := omega) only [e1, e2, ↓bn_some, ↓jn_eq, ↓ck1_of, ↓if_pos, ↓if_neg, iy]
        exact bad1 h
/-! alike -/
theorem pk_inj {h a b h' a' b' : Int} (h0 : 0 ≤ h) (h1 : h < 8) (a0 : 0 ≤ a) (a1 : a < 4096) (b0 : 0 ≤ b) (b1 : b < 4096) (h0' : 0 ≤ h') (h1' : h' < 8) (a0' : 0 ≤ a') (a1' : a' < 4096) (b0' : 0 ≤ b') (b1' : b' < 4096) : pk h a b = pk h' a' b' ↔ h = h' ∧ a = a' ∧ b = b' := by
  unfold pk
  omega
theorem alike_loop {P : PL} {m : Bd} {h a h' a' : Int} (n : Nm P m a h) (n' : Nm P m a' h') (hs : (gP P h).1 = (gP P h').1) : ∀ (f : Nat) (i : Int), (gP P h).1 + 1 - i < f → 0 ≤ i → i ≤ (gP P h).1 → ((∀ k, f_X2_sameAs_L15 P h h' k f i = k) ∧ (∀ k, f_X6_alike_L47 m a a' k f 1 i = k 1)) ∨ ((∀ k, f_X2_sameAs_L15 P h h' k f i = some 0) ∧ (∀ k, f_X6_alike_L47 m a a' k f 1 i = k 0)) := by
  have s := n.sz
  have s' := n'.sz
  obtain ⟨a0, a1, p0, p1, g, e, w⟩ := id n
  obtain ⟨a0', a1', p0', p1', g', e', w'⟩ := id n'
  intro f
  induction f with
  | zero => intro i h0 _ h2; omega
  | succ f ih =>
    intro i h0 i0 i1
    by_cases hx : (gP P h).1 ≤ i
    · refine Or.inl ⟨fun k => ?_, fun k => ?_⟩
      · simp (disch := omega) only [f_X2_sameAs_L15, ↓ck1_of, ↓if_pos]
      · simp (disch := omega) only [f_X6_alike_L47, e, ↓ckA_of, ↓ck1_of, ↓if_pos]
    · have r := n.rng (v := i) i0 (by omega)
      have r' := n'.rng (v := i) i0 (by omega)
      have q1 := headAt_of g.2 i0 (by omega : i < (gP P h).1)
      have q2 := headAt_of g'.2 i0 (by omega : i < (gP P h').1)
      have q3 := partAt_of g.2 i0 (by omega : i < (gP P h).1) (i := 0) (by omega) (by omega)
      have q4 := partAt_of g'.2 i0 (by omega : i < (gP P h').1) (i := 0) (by omega) (by omega)
      have q5 := partAt_of g.2 i0 (by omega : i < (gP P h).1) (i := 1) (by omega) (by omega)
      have q6 := partAt_of g'.2 i0 (by omega : i < (gP P h').1) (i := 1) (by omega) (by omega)
      have z0 : (1 : Int) + 0 = 1 := rfl
      have z1 : (1 : Int) + 1 = 2 := rfl
      rw [z0] at q3 q4
      rw [z1] at q5 q6
      have w1 := w i i0 (by omega)
      have w2 := w' i i0 (by omega)
      have inj := pk_inj (h := GP (gP P h) i 0) (a := GP (gP P h) i 1) (b := GP (gP P h) i 2) (h' := GP (gP P h') i 0) (a' := GP (gP P h') i 1) (b' := GP (gP P h') i 2) (by omega) (by omega) (by omega) (by omega) (by omega) (by omega) (by omega) (by omega) (by omega) (by omega) (by omega) (by omega)
      have b1 := pk_rng (h := GP (gP P h) i 0) (a := GP (gP P h) i 1) (b := GP (gP P h) i 2) (by omega) (by omega) (by omega) (by omega) (by omega) (by omega)
      have b2 := pk_rng (h := GP (gP P h') i 0) (a := GP (gP P h') i 1) (b := GP (gP P h') i 2) (by omega) (by omega) (by omega) (by omega) (by omega) (by omega)
      generalize pk (GP (gP P h) i 0) (GP (gP P h) i 1) (GP (gP P h) i 2) = t1 at *
      generalize pk (GP (gP P h') i 0) (GP (gP P h') i 1) (GP (gP P h') i 2) = t2 at *
      by_cases hh : t1 = t2
      · have hq := inj.mp hh
        rcases ih (i + 1) (by omega) (by omega) (by omega) with ⟨k1, k2⟩ | ⟨k1, k2⟩
        · refine Or.inl ⟨fun k => ?_, fun k => ?_⟩
          · simp (disch := omega) only [f_X2_sameAs_L15, ↓ck1_of, ↓ckG_of, ↓if_neg, ↓if_pos, q1, q2, q3, q4, q5, q6, ↓bn_some]
            exact k1 k
          · simp (disch := omega) only [f_X6_alike_L47, e, ↓ckA_of, ↓ck1_of, ↓if_neg, w1, w2, ↓jn_eq]
            exact k2 k
        · refine Or.inr ⟨fun k => ?_, fun k => ?_⟩
          · simp (disch := omega) only [f_X2_sameAs_L15, ↓ck1_of, ↓ckG_of, ↓if_neg, ↓if_pos, q1, q2, q3, q4, q5, q6, ↓bn_some]
            exact k1 k
          · simp (disch := omega) only [f_X6_alike_L47, e, ↓ckA_of, ↓ck1_of, ↓if_neg, w1, w2, ↓jn_eq]
            exact k2 k
      · have hq : ¬ _ := fun hz => hh (inj.mpr hz)
        refine Or.inr ⟨fun k => ?_, fun k => ?_⟩
        · by_cases c1 : GP (gP P h) i 0 = GP (gP P h') i 0
          · by_cases c2 : GP (gP P h) i 1 = GP (gP P h') i 1
            · simp (disch := omega) only [f_X2_sameAs_L15, ↓ck1_of, ↓ckG_of, ↓if_neg, ↓if_pos, q1, q2, q3, q4, q5, q6, ↓bn_some]
            · simp (disch := omega) only [f_X2_sameAs_L15, ↓ck1_of, ↓ckG_of, ↓if_neg, ↓if_pos, q1, q2, q3, q4, q5, q6, ↓bn_some]
          · simp (disch := omega) only [f_X2_sameAs_L15, ↓ck1_of, ↓ckG_of, ↓if_neg, ↓if_pos, q1, q2, q3, q4, q5, q6, ↓bn_some]
        · simp (disch := omega) only [f_X6_alike_L47, e, ↓ckA_of, ↓ck1_of, ↓if_neg, ↓if_pos, w1, w2, ↓jn_eq]
          cases f with
          | zero => omega
          | succ f =>
            by_cases c : (gP P h).1 ≤ i + 1
            · simp (disch := omega) only [f_X6_alike_L47, e, ↓ckA_of, ↓ck1_of, ↓if_neg, ↓if_pos]
            · simp (disch := omega) only [f_X6_alike_L47, e, ↓ckA_of, ↓ck1_of, ↓if_neg, ↓if_pos]
theorem alike_step {N : Nat} (hN : 4000 ≤ N) {T : Int} {lt b m : Bd} {P : PL} (h : RR T lt b m P) {x y : Int} (hx : inR x) (hy : inR y) : Step1 T b P (f_X5_alike N lt P x y) (f_X6_alike N m x y) := by
  unfold f_X5_alike f_X6_alike
  rcases nm_of h.2.2.2.1 h.2.2.2.2.2.1 hx with ⟨e1, e2⟩ | ⟨g, e1, e2, n⟩
  · rcases nm_of h.2.2.2.1 h.2.2.2.2.2.1 hy with ⟨e3, e4⟩ | ⟨g', e3, e4, n'⟩
    · simp (disch := omega) only [e1, e2, e3, ↓bn_some, ↓jn_eq, ↓ck1_of, ↓if_pos]
      exact bad1 h
    · simp (disch := omega) only [e1, e2, e3, ↓bn_some, ↓jn_eq, ↓ck1_of, ↓if_pos]
      exact bad1 h
  · have s := n.sz
    obtain ⟨a0, a1, p0, p1, -, e, -⟩ := id n
    rcases nm_of h.2.2.2.1 h.2.2.2.2.2.1 hy with ⟨e3, e4⟩ | ⟨g', e3, e4, n'⟩
    · simp (disch := omega) only [e1, e2, e3, e4, ↓bn_some, ↓jn_eq, ↓ck1_of, ↓if_pos, ↓if_neg]
      exact bad1 h
    · have s' := n'.sz
      obtain ⟨a0', a1', p0', p1', -, e', -⟩ := id n'
      by_cases hz : (gP P g).1 = (gP P g').1
      · rcases alike_loop n n' hz N 0 (by omega) (by omega) (by omega) with ⟨k1, k2⟩ | ⟨k1, k2⟩
        · simp (disch := omega) only [e1, e2, e3, e4, e, e', ↓bn_some, ↓jn_eq, ↓ck1_of, ↓if_pos, ↓if_neg, ↓ckG_of, ↓ckA_of, f_X2_sameAs, k1, k2]
          exact ⟨_, _, _, rfl, rfl, by decide, h.up⟩
        · simp (disch := omega) only [e1, e2, e3, e4, e, e', ↓bn_some, ↓jn_eq, ↓ck1_of, ↓if_pos, ↓if_neg, ↓ckG_of, ↓ckA_of, f_X2_sameAs, k1, k2]
          exact ⟨_, _, _, rfl, rfl, by decide, h.up⟩
      · simp (disch := omega) only [e1, e2, e3, e4, e, e', ↓bn_some, ↓jn_eq, ↓ck1_of, ↓if_pos, ↓if_neg, ↓ckG_of, ↓ckA_of, f_X2_sameAs]
        obtain ⟨M, rfl⟩ : ∃ M, N = M + 1 := ⟨N - 1, by omega⟩
        simp (disch := omega) only [f_X6_alike_L47, e, ↓ckA_of, ↓ck1_of, ↓if_neg, ↓if_pos, ↓jn_eq]
        exact ⟨_, _, _, rfl, rfl, by decide, h.up⟩
/-! told -/
theorem i_or_in (x y : Int) : inR (i_or x y) := by
  unfold i_or
  exact ⟨Int32.le_toInt _, by have := Int32.toInt_lt (Int32.ofInt x ||| Int32.ofInt y); omega⟩
theorem i_or_zero {x : Int} (hx : inR x) : i_or x 0 = x := by
  unfold i_or
  have : Int32.ofInt x ||| Int32.ofInt 0 = Int32.ofInt x := by
    show Int32.ofInt x ||| 0 = _
    exact Int32.or_zero
  rw [this, z_i hx]
theorem bits_loop {lt m : Bd} {P : PL} (hN : RName lt m P) (hP : POK P) : ∀ (f : Nat) (i acc : Int), 8 - i < f → 0 ≤ i → i ≤ 8 → inR acc → ∃ v, inR v ∧ (∀ k, f_X5_nameBits_L4 lt k f acc i = k v) ∧ (∀ k, f_X6_toldOf_L64 m k f acc i = k v) := by
  intro f
  induction f with
  | zero => intro i acc h0 _ h2; omega
  | succ f ih =>
    intro i acc h0 i0 i1 ha
    by_cases hx : 8 ≤ i
    · refine ⟨acc, ha, fun k => ?_, fun k => ?_⟩
      · simp (disch := omega) only [f_X5_nameBits_L4, ↓ck1_of, ↓if_pos]
      · simp (disch := omega) only [f_X6_toldOf_L64, ↓ck1_of, ↓if_pos]
    · have q := (hN i i0 (by omega)).rng hP
      by_cases c : lt 3 i < 0
      · obtain ⟨v, v0, k1, k2⟩ := ih (i + 1) acc (by omega) (by omega) (by omega) ha
        refine ⟨v, v0, fun k => ?_, fun k => ?_⟩
        · simp (disch := omega) only [f_X5_nameBits_L4, ↓ck1_of, ↓ckA_of, ↓if_neg, ↓if_pos]
          exact k1 k
        · simp (disch := omega) only [f_X6_toldOf_L64, ↓ck1_of, ↓ckA_of, ↓if_neg, ↓if_pos, i_or_zero ha]
          exact k2 k
      · obtain ⟨v, v0, k1, k2⟩ := ih (i + 1) (i_or acc (i_shl 1 i)) (by omega) (by omega) (by omega) (i_or_in _ _)
        refine ⟨v, v0, fun k => ?_, fun k => ?_⟩
        · simp (disch := omega) only [f_X5_nameBits_L4, ↓ck1_of, ↓ckA_of, ↓if_neg, ↓if_pos]
          exact k1 k
        · simp (disch := omega) only [f_X6_toldOf_L64, ↓ck1_of, ↓ckA_of, ↓if_neg, ↓if_pos]
          exact k2 k
theorem told_of {N : Nat} (hN : 4000 ≤ N) {T : Int} (hT : T ≤ 100000) {lt b m : Bd} {P : PL} (h : RR T lt b m P) {x : Int} (x0 : 0 ≤ x) (x1 : x < 7) : ∃ v, inR v ∧ f_X5_reportOf N lt x = some v ∧ f_X6_toldOf N m x = some v := by
  obtain ⟨⟨t1, t2, t3, -⟩, ⟨k1, k2, k3⟩, ⟨c1, c2, c3, c4, c5, c6, c7, c8, c9⟩, hM, ⟨w1, w2, w3, -⟩, hP, -⟩ := h
  unfold f_X5_reportOf f_X6_toldOf
  have hx : x = 0 ∨ x = 1 ∨ x = 2 ∨ x = 3 ∨ x = 4 ∨ x = 5 ∨ x = 6 := by omega
  rcases hx with rfl | rfl | rfl | rfl | rfl | rfl | rfl
  · simp (disch := omega) only [↓ck1_of, ↓ckA_of, ↓if_pos, ↓if_neg]
    exact ⟨_, ⟨by omega, by omega⟩, by rw [c1], rfl⟩
  · simp (disch := omega) only [↓ck1_of, ↓ckA_of, ↓if_pos, ↓if_neg]
    exact ⟨_, ⟨by omega, by omega⟩, by rw [c2], rfl⟩
  · simp (disch := omega) only [↓ck1_of, ↓ckA_of, ↓if_pos, ↓if_neg]
    exact ⟨_, ⟨by omega, by omega⟩, by rw [c3], rfl⟩
  · simp (disch := omega) only [↓ck1_of, ↓ckA_of, ↓if_pos, ↓if_neg]
    exact ⟨_, ⟨by omega, by omega⟩, by rw [w1], rfl⟩
  · simp (disch := omega) only [↓ck1_of, ↓ckA_of, ↓if_pos, ↓if_neg]
    exact ⟨_, ⟨by omega, by omega⟩, by rw [t1], rfl⟩
  · simp (disch := omega) only [↓ck1_of, ↓ckA_of, ↓if_pos, ↓if_neg]
    exact ⟨_, ⟨by omega, by omega⟩, by rw [k1], rfl⟩
  · obtain ⟨v, v0, q1, q2⟩ := bits_loop hM hP N 0 0 (by omega) (by omega) (by omega) (by decide)
    simp (disch := omega) only [↓ck1_of, ↓ckA_of, ↓if_pos, ↓if_neg, f_X5_nameBits, q1, q2, ↓bn_some]
    exact ⟨_, v0, rfl, rfl⟩
theorem told_step {N : Nat} (hN : 4000 ≤ N) {T : Int} (hT : T ≤ 100000) {lt b m : Bd} {P : PL} (h : RR T lt b m P) {x : Int} (hx : inR x) : Step1 T b P (f_X5_told N lt x) (f_X6_told N m x) := by
  unfold f_X5_told f_X6_told
  have ix := in_of (v := x) (l := 0) (h := 6) hx (by decide) (by decide)
  by_cases hx : 0 ≤ x ∧ x ≤ 6
  · obtain ⟨v, v0, q1, q2⟩ := told_of hN hT h hx.1 (by omega)
    rw [if_pos hx] at ix
    simp (disch := omega) only [ix, ↓bn_some, ↓jn_eq, ↓ck1_of, ↓if_pos, ↓if_neg, q1, q2]
    exact ⟨_, _, _, rfl, rfl, v0, h.up⟩
  · rw [if_neg hx] at ix
    by_cases c : x < 0
    · simp (disch := omega) only [ix, ↓bn_some, ↓jn_eq, ↓ck1_of, ↓if_pos, ↓if_neg]
      exact bad1 h
    · simp (disch := omega) only [ix, ↓bn_some, ↓jn_eq, ↓ck1_of, ↓if_pos, ↓if_neg]
      exact bad1 h
/-! digest -/
theorem code_of {N : Nat} (hN : 4000 ≤ N) {P : PL} {m : Bd} {a h : Int} (n : Nm P m a h) : ∃ v, f_X2_codeOf N P h = some v ∧ f_X6_codeOf N m a = some v := by
  have s := n.sz
  obtain ⟨a0, a1, p0, p1, g, e, w⟩ := n
  unfold f_X2_codeOf f_X6_codeOf
  obtain ⟨v, q1, q2⟩ := code_out hN a0 a1 g e w (fun (x1_4 : Int) => some (x1_4)) (fun (x2_5 : Int) => some (x2_5)) N 0 1 (by omega) (by omega) (by omega)
  exact ⟨v, q1, q2⟩
theorem dg_told {N : Nat} (hN : 4000 ≤ N) {T : Int} (hT : T ≤ 100000) {lt b m : Bd} {P : PL} (h : RR T lt b m P) : ∀ (f : Nat) (i acc : Int), 7 - i < f → 0 ≤ i → i ≤ 7 → ∃ v, (∀ k, f_X5_digest_L6 N lt k f acc i = k v) ∧ (∀ k, f_X6_digest_L6 N m k f acc i = k v) := by
  intro f
  induction f with
  | zero => intro i acc h0 _ h2; omega
  | succ f ih =>
    intro i acc h0 i0 i1
    by_cases hx : 7 ≤ i
    · refine ⟨acc, fun k => ?_, fun k => ?_⟩
      · simp (disch := omega) only [f_X5_digest_L6, ↓ck1_of, ↓if_pos]
      · simp (disch := omega) only [f_X6_digest_L6, ↓ck1_of, ↓if_pos]
    · obtain ⟨w, w0, q1, q2⟩ := told_of hN hT h i0 (by omega)
      obtain ⟨w1, w2⟩ := w0
      obtain ⟨v, k1, k2⟩ := ih (i + 1) (31 * acc + w) (by omega) (by omega) (by omega)
      refine ⟨v, fun k => ?_, fun k => ?_⟩
      · simp (disch := omega) only [f_X5_digest_L6, ↓ck1_of, ↓if_neg, q1, ↓bn_some]
        exact k1 k
      · simp (disch := omega) only [f_X6_digest_L6, ↓ck1_of, ↓if_neg, q2, ↓bn_some]
        exact k2 k
theorem nm_at {lt m : Bd} {P : PL} (hM : RName lt m P) (hP : POK P) {i : Int} (i0 : 0 ≤ i) (i1 : i < 8) : (lt 3 i = -1 ∧ m 0 i = 0) ∨ Nm P m i (lt 3 i) := by
  have q := hM i i0 i1
  have r := q.rng hP
  rcases q with q | ⟨q1, q2, q3, q4⟩
  · exact Or.inl q
  · exact Or.inr ⟨i0, i1, q1, q2, hP _ q1 q2, q3, by rw [← q3]; exact q4⟩
theorem dg_names {N : Nat} (hN : 4000 ≤ N) {lt m : Bd} {P : PL} (hM : RName lt m P) (hP : POK P) : ∀ (f : Nat) (i acc : Int), 8 - i < f → 0 ≤ i → i ≤ 8 → ∃ v, (∀ k, f_X5_digest_L33 N lt P k f acc i = k v) ∧ (∀ k, f_X6_digest_L33 N m k f acc i = k v) := by
  intro f
  induction f with
  | zero => intro i acc h0 _ h2; omega
  | succ f ih =>
    intro i acc h0 i0 i1
    by_cases hx : 8 ≤ i
    · refine ⟨acc, fun k => ?_, fun k => ?_⟩
      · simp (disch := omega) only [f_X5_digest_L33, ↓ck1_of, ↓if_pos]
      · simp (disch := omega) only [f_X6_digest_L33, ↓ck1_of, ↓if_pos]
    · rcases nm_at hM hP i0 (show i < 8 by omega) with ⟨q1, q2⟩ | n
      · obtain ⟨v, k1, k2⟩ := ih (i + 1) (31 * acc + 0) (by omega) (by omega) (by omega)
        refine ⟨v, fun k => ?_, fun k => ?_⟩
        · simp (disch := omega) only [f_X5_digest_L33, ↓ck1_of, ↓ckA_of, ↓if_neg, ↓if_pos]
          exact k1 k
        · simp (disch := omega) only [f_X6_digest_L33, ↓ck1_of, ↓ckA_of, ↓if_neg, ↓if_pos]
          exact k2 k
      · have s := n.sz
        obtain ⟨a0, a1, p0, p1, -, e, -⟩ := id n
        obtain ⟨w, q1, q2⟩ := code_of hN n
        obtain ⟨v, k1, k2⟩ := ih (i + 1) (31 * acc + w) (by omega) (by omega) (by omega)
        refine ⟨v, fun k => ?_, fun k => ?_⟩
        · simp (disch := omega) only [f_X5_digest_L33, ↓ck1_of, ↓ckA_of, ↓ckG_of, ↓if_neg, ↓if_pos, q1, ↓bn_some]
          exact k1 k
        · simp (disch := omega) only [f_X6_digest_L33, ↓ck1_of, ↓ckA_of, ↓if_neg, ↓if_pos, q2, ↓bn_some]
          exact k2 k
theorem digest_of {N : Nat} (hN : 4000 ≤ N) {T : Int} (hT : T ≤ 100000) {lt b m : Bd} {P : PL} (h : RR T lt b m P) : ∃ v, f_X5_digest N lt P = some v ∧ f_X6_digest N m = some v := by
  unfold f_X5_digest f_X6_digest
  obtain ⟨v, q1, q2⟩ := dg_told hN hT h N 0 1901 (by omega) (by omega) (by omega)
  obtain ⟨w, q3, q4⟩ := dg_names hN h.2.2.2.1 h.2.2.2.2.2.1 N 0 v (by omega) (by omega) (by omega)
  exact ⟨w, by rw [q1, q3], by rw [q2, q4]⟩
