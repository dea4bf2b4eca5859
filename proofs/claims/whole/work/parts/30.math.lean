/-! THE MATHEMATICS: trees told by graphs, least graphs numbered as they come -/
/-- how many parts a head has -/
def ar (h : Int) : Int := if h = 4 then 1 else if h = 5 ∨ h = 6 then 2 else 0
theorem ar_le (h : Int) : 0 ≤ ar h ∧ ar h ≤ 2 := by unfold ar; split <;> (try split) <;> omega
/-- a graph: node, then 0 (head), 1, 2 (parts) -/
abbrev GG : Type := Int → Int → Int
/-- what stands at a path's end; -1: there is no such path -/
def ob (G : GG) : List Int → Int → Int
  | [], v => G v 0
  | i :: p, v => if 0 ≤ i ∧ i < ar (G v 0) then ob G p (G v (1 + i)) else -1
def Eqv (G : GG) (u : Int) (H : GG) (v : Int) : Prop := ∀ p, ob G p u = ob H p v
theorem Eqv.rfl' {G : GG} {u : Int} : Eqv G u G u := fun _ => rfl
theorem Eqv.symm {G H : GG} {u v : Int} (h : Eqv G u H v) : Eqv H v G u := fun p => (h p).symm
theorem Eqv.trans {G H J : GG} {u v w : Int} (h : Eqv G u H v) (k : Eqv H v J w) : Eqv G u J w := fun p => (h p).trans (k p)
theorem Eqv.head {G H : GG} {u v : Int} (h : Eqv G u H v) : G u 0 = H v 0 := h []
theorem Eqv.part {G H : GG} {u v : Int} (h : Eqv G u H v) {i : Int} (hi : 0 ≤ i ∧ i < ar (G u 0)) : Eqv G (G u (1 + i)) H (H v (1 + i)) := by
  intro p
  have := h (i :: p)
  have e := h.head
  unfold ob at this
  rw [if_pos hi, if_pos (by rw [← e]; exact hi)] at this
  exact this
/-- a relation that goes from parts to parts makes trees alike -/
theorem Eqv.bisim {G H : GG} (R : Int → Int → Prop) (hR : ∀ u v, R u v → G u 0 = H v 0 ∧ ∀ i, 0 ≤ i → i < ar (G u 0) → R (G u (1 + i)) (H v (1 + i))) {u v : Int} (h : R u v) : Eqv G u H v := by
  intro p
  induction p generalizing u v with
  | nil => exact (hR u v h).1
  | cons i p ih =>
    obtain ⟨h1, h2⟩ := hR u v h
    unfold ob
    rw [← h1]
    by_cases hi : 0 ≤ i ∧ i < ar (G u 0)
    · rw [if_pos hi, if_pos hi]
      exact ih (h2 i hi.1 hi.2)
    · rw [if_neg hi, if_neg hi]
/-- up to a depth -/
def EqL (t : Nat) (G : GG) (u : Int) (H : GG) (v : Int) : Prop := ∀ p : List Int, p.length < t → ob G p u = ob H p v
theorem EqL.of_eqv {t : Nat} {G H : GG} {u v : Int} (h : Eqv G u H v) : EqL t G u H v := fun p _ => h p
theorem EqL.mono {t s : Nat} {G H : GG} {u v : Int} (h : EqL t G u H v) (hs : s ≤ t) : EqL s G u H v := fun p hp => h p (by omega)
theorem EqL.step {t : Nat} {G H : GG} {u v : Int} : EqL (t + 1) G u H v ↔ (G u 0 = H v 0 ∧ ∀ i, 0 ≤ i → i < ar (G u 0) → EqL t G (G u (1 + i)) H (H v (1 + i))) := by
  constructor
  · intro h
    have e : G u 0 = H v 0 := h [] (by simp)
    refine ⟨e, fun i h0 h1 p hp => ?_⟩
    have := h (i :: p) (by simp; omega)
    unfold ob at this
    rw [if_pos ⟨h0, h1⟩, if_pos ⟨h0, by rw [← e]; exact h1⟩] at this
    exact this
  · rintro ⟨e, h⟩ p hp
    cases p with
    | nil => exact e
    | cons i p =>
      unfold ob
      rw [← e]
      by_cases hi : 0 ≤ i ∧ i < ar (G u 0)
      · rw [if_pos hi, if_pos hi]
        exact h i hi.1 hi.2 p (by simp at hp; omega)
      · rw [if_neg hi, if_neg hi]
theorem EqL.zero {G H : GG} {u v : Int} : EqL 0 G u H v := fun p hp => absurd hp (by omega)
/-- a graph of n nodes -/
def WG (G : GG) (n : Int) : Prop := ∀ v, 0 ≤ v → v < n → 0 ≤ G v 0 ∧ G v 0 ≤ 6 ∧ ∀ i, 0 ≤ i → i < ar (G v 0) → 0 ≤ G v (1 + i) ∧ G v (1 + i) < n
/-- numbered as they come: places (u, i) are told as 2 u + i -/
def BF (G : GG) (n : Int) : Prop := ∀ u i, 0 ≤ u → u < n → 0 ≤ i → i < ar (G u 0) → ∀ w, 0 ≤ w → w < G u (1 + i) → w = 0 ∨ ∃ u' i', 0 ≤ u' ∧ 0 ≤ i' ∧ i' < ar (G u' 0) ∧ 2 * u' + i' < 2 * u + i ∧ G u' (1 + i') = w
def RE (G : GG) (n : Int) : Prop := ∀ v, 1 ≤ v → v < n → ∃ u i, 0 ≤ u ∧ u < v ∧ 0 ≤ i ∧ i < ar (G u 0) ∧ G u (1 + i) = v
def Inj (G : GG) (n : Int) : Prop := ∀ u v, 0 ≤ u → u < n → 0 ≤ v → v < n → Eqv G u G v → u = v
/-- what isn't a part is 0 -/
def Zer (G : GG) (n : Int) : Prop := ∀ v i, 0 ≤ v → v < n → ar (G v 0) ≤ i → i < 2 → G v (1 + i) = 0
def Can (G : GG) (n : Int) : Prop := 1 ≤ n ∧ WG G n ∧ BF G n ∧ RE G n ∧ Inj G n ∧ Zer G n
theorem least_int (Q : Int → Prop) (e : Int) (h0 : 0 ≤ e) (h : Q e) : ∃ k, 0 ≤ k ∧ Q k ∧ k ≤ e ∧ ∀ j, 0 ≤ j → j < k → ¬ Q j := by
  have key : ∀ n : Nat, ∀ e : Int, 0 ≤ e → e < n → Q e → ∃ k, 0 ≤ k ∧ Q k ∧ k ≤ e ∧ ∀ j, 0 ≤ j → j < k → ¬ Q j := by
    intro n
    induction n with
    | zero => intro e h0 h1; omega
    | succ n ih =>
      intro e h0 h1 h
      by_cases hx : ∃ j, 0 ≤ j ∧ j < e ∧ Q j
      · obtain ⟨j, j0, j1, j2⟩ := hx
        obtain ⟨k, k0, k1, k2, k3⟩ := ih j j0 (by omega) j2
        exact ⟨k, k0, k1, by omega, k3⟩
      · exact ⟨e, h0, h, Int.le_refl e, fun j j0 j1 j2 => hx ⟨j, j0, j1, j2⟩⟩
  exact key (e.toNat + 1) e h0 (by omega) h
/-- strong induction on ints from 0 -/
theorem int_rec (Q : Int → Prop) (h : ∀ v, 0 ≤ v → (∀ w, 0 ≤ w → w < v → Q w) → Q v) : ∀ v, 0 ≤ v → Q v := by
  have key : ∀ n : Nat, ∀ v : Int, 0 ≤ v → v < n → Q v := by
    intro n
    induction n with
    | zero => intro v h0 h1; omega
    | succ n ih => intro v h0 h1; exact h v h0 (fun w w0 w1 => ih w w0 (by omega))
  exact fun v h0 => key (v.toNat + 1) v h0 (by omega)
/-- the nodes of two least graphs of one tree go together -/
theorem Can.nodes {G H : GG} {n k : Int} (hG : Can G n) (hH : Can H k) (h0 : Eqv G 0 H 0) : ∀ v, 0 ≤ v → v < n → v < k ∧ Eqv G v H v := by
  obtain ⟨gn, gW, gB, gR, gI, gZ⟩ := hG
  obtain ⟨hn, hW, hB, hR, hI, hZ⟩ := hH
  refine int_rec (fun v => v < n → v < k ∧ Eqv G v H v) (fun v v0 ih => ?_)
  · intro v1
    by_cases hz : v = 0
    · subst hz; exact ⟨by omega, h0⟩
    obtain ⟨u, i, a1, a2, a3, a4, a5⟩ := gR v (by omega) v1
    have har := ar_le (G u 0)
    obtain ⟨e, e0, ⟨u, i, a1, a3, a3', a4, a5, a6⟩, e2, e3⟩ := least_int (fun e => ∃ u i, 0 ≤ u ∧ 0 ≤ i ∧ i < 2 ∧ i < ar (G u 0) ∧ G u (1 + i) = v ∧ e = 2 * u + i) (2 * u + i) (by omega) ⟨u, i, a1, a3, by have := ar_le (G u 0); omega, a4, a5, rfl⟩
    have hu : u < v := by omega
    obtain ⟨uk, hE⟩ := ih u a1 hu (by omega)
    have hP := hE.part ⟨a3, a4⟩
    rw [a5] at hP
    have ha4 : i < ar (H u 0) := by rw [← hE.head]; exact a4
    have hb := (hW u a1 uk).2.2 i a3 ha4
    rcases Int.lt_trichotomy (H u (1 + i)) v with hlt | heq | hgt
    · exfalso
      obtain ⟨_, q⟩ := ih _ hb.1 hlt (by omega)
      have := gI v (H u (1 + i)) v0 v1 hb.1 (by omega) (hP.trans q.symm)
      omega
    · rw [heq] at hP hb; exact ⟨hb.2, hP⟩
    · exfalso
      rcases hB u i a1 uk a3 ha4 v v0 hgt with q | ⟨u', i', b1, b2, b3, b4, b5⟩
      · exact hz q
      · have hi' : i' < 2 := by have := ar_le (H u' 0); omega
        have hu' : u' < v := by omega
        obtain ⟨uk', hE'⟩ := ih u' b1 hu' (by omega)
        have g3 : i' < ar (G u' 0) := by rw [hE'.head]; exact b3
        have hP' := hE'.part ⟨b2, g3⟩
        rw [b5] at hP'
        have hw := (gW u' b1 (by omega)).2.2 i' b2 g3
        rcases Int.lt_trichotomy (G u' (1 + i')) v with klt | keq | kgt
        · obtain ⟨wk, q⟩ := ih _ hw.1 klt hw.2
          have := hI (G u' (1 + i')) v hw.1 wk v0 (by omega) (q.symm.trans hP')
          omega
        · exact e3 (2 * u' + i') (by omega) (by omega) ⟨u', i', b1, b2, hi', g3, keq, rfl⟩
        · rcases gB u' i' b1 (by omega) b2 g3 v v0 kgt with q | ⟨u2, i2, c1, c2, c3, c4, c5⟩
          · exact hz q
          · exact e3 (2 * u2 + i2) (by omega) (by omega) ⟨u2, i2, c1, c2, by have := ar_le (G u2 0); omega, c3, c5, rfl⟩
/-- there is one least graph of a tree -/
theorem Can.unique {G H : GG} {n k : Int} (hG : Can G n) (hH : Can H k) (h0 : Eqv G 0 H 0) : n = k ∧ ∀ v, 0 ≤ v → v < n → ∀ j, 0 ≤ j → j < 3 → G v j = H v j := by
  have h1 := hG.nodes hH h0
  have h2 := hH.nodes hG h0.symm
  have e : n = k := by
    have a := (h1 (n - 1) (by have := hG.1; omega) (by omega)).1
    have b := (h2 (k - 1) (by have := hH.1; omega) (by omega)).1
    omega
  subst e
  refine ⟨rfl, fun v v0 v1 j j0 j1 => ?_⟩
  have hE := (h1 v v0 v1).2
  by_cases hj : j = 0
  · subst hj; exact hE.head
  have part : ∀ i, 0 ≤ i → i < 2 → G v (1 + i) = H v (1 + i) := by
    intro i i0 i2
    by_cases hi : i < ar (G v 0)
    · have hP := hE.part ⟨i0, hi⟩
      have a := (hG.2.1 v v0 v1).2.2 i i0 hi
      have b := (hH.2.1 v v0 v1).2.2 i i0 (by rw [← hE.head]; exact hi)
      have q := (h1 _ a.1 a.2).2
      exact hH.2.2.2.2.1 _ _ a.1 a.2 b.1 b.2 (q.symm.trans hP)
    · rw [hG.2.2.2.2.2 v i v0 v1 (by omega) i2, hH.2.2.2.2.2 v i v0 v1 (by rw [← hE.head]; omega) i2]
  have := part (j - 1) (by omega) (by omega)
  rw [show 1 + (j - 1) = j by omega] at this
  exact this
