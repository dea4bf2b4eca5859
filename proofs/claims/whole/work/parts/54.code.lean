/-! The code of a type -/
theorem code_in {P : PL} {h a : Int} {w x1 hd p0 p1 : Int} (hw : w = pk hd p0 p1) (d0 : 0 ≤ hd) (d1 : hd < 8) (a0 : 0 ≤ p0) (a1 : p0 < 4096) (b0 : 0 ≤ p1) (b1 : p1 < 4096) (q0 : 0 < ar hd → f_X2_partAt P h a 0 = some p0) (q1 : 1 < ar hd → f_X2_partAt P h a 1 = some p1) (k k' : Int → Option Int) : ∀ (f : Nat) (i acc : Int), ar hd - i < f → 0 ≤ i → i ≤ ar hd → ∃ v, f_X2_codeOf_L35 P h a (ar hd) k f acc i = k v ∧ f_X6_codeOf_L41 x1 a w k' f acc i = k' v := by
  have har := ar_le hd
  intro f
  induction f with
  | zero => intro i acc h0 _ h2; omega
  | succ f ih =>
    intro i acc h0 i0 i1
    rw [f_X2_codeOf_L35, f_X6_codeOf_L41, hw, pk_head d0 d1 a0 a1 b0 b1, bn_some, parts_ar d0 d1, bn_some, ck1_of (show -2147483648 ≤ i by omega) (by omega), ck1_of (show -2147483648 ≤ ar hd by omega) (by omega), ck1_of (show -2147483648 ≤ i by omega) (by omega), ck1_of (show -2147483648 ≤ ar hd by omega) (by omega)]
    by_cases hx : ar hd ≤ i
    · rw [if_pos hx, if_pos hx]
      exact ⟨acc, rfl, rfl⟩
    · rw [if_neg hx, if_neg hx]
      by_cases hi : i = 0
      · subst hi
        rw [q0 (by omega), bn_some, pk_part0 d0 d1 a0 a1 b0 b1, bn_some, ck1_of (show -2147483648 ≤ p0 by omega) (by omega), ck1_of (show -2147483648 ≤ p0 by omega) (by omega), ← hw]
        exact ih 1 _ (by omega) (by omega) (by omega)
      · have e : i = 1 := by omega
        subst e
        rw [q1 (by omega), bn_some, pk_part1 d0 d1 a0 a1 b0 b1, bn_some, ck1_of (show -2147483648 ≤ p1 by omega) (by omega), ck1_of (show -2147483648 ≤ p1 by omega) (by omega), ← hw]
        exact ih 2 _ (by omega) (by omega) (by omega)
theorem code_out {N : Nat} (hN : 4000 ≤ N) {P : PL} {m : Bd} {h x : Int} (x0 : 0 ≤ x) (x1 : x < 8) (hg : GOK (gP P h)) (hs : m 0 x = (gP P h).1) (hw : ∀ v, 0 ≤ v → v < (gP P h).1 → m 1 (40 * x + v) = pk (GP (gP P h) v 0) (GP (gP P h) v 1) (GP (gP P h) v 2)) (k k' : Int → Option Int) : ∀ (f : Nat) (i acc : Int), (gP P h).1 - i < f → 0 ≤ i → i ≤ (gP P h).1 → ∃ v, f_X2_codeOf_L4 N P h k f acc i = k v ∧ f_X6_codeOf_L5 N m x k' f acc i = k' v := by
  have g40 := hg.2
  intro f
  induction f with
  | zero => intro i acc h0 _ h2; omega
  | succ f ih =>
    intro i acc h0 i0 i1
    rw [f_X2_codeOf_L4, f_X6_codeOf_L5, hs, ckA_of x0 x1, ck1_of (show -2147483648 ≤ i by omega) (by omega), ck1_of (show -2147483648 ≤ (gP P h).1 by omega) (by omega), ck1_of (show -2147483648 ≤ i by omega) (by omega), ck1_of (show -2147483648 ≤ (gP P h).1 by omega) (by omega)]
    by_cases hx : (gP P h).1 ≤ i
    · rw [if_pos hx, if_pos hx]
      exact ⟨acc, rfl, rfl⟩
    · have n := hg.node i0 (v := i) (by omega)
      unfold f_X6_nodeAt
      have har := ar_le (GP (gP P h) i 0)
      rw [if_neg hx, if_neg hx, headAt_of g40 i0 (by omega), bn_some, ckA_of (by omega) (by omega), bn_some, partCount_of hg i0 (by omega), bn_some, ck1_of (show -2147483648 ≤ GP (gP P h) i 0 by omega) (by omega)]
      obtain ⟨v, e1, e2⟩ := code_in (P := P) (h := h) (a := i) (x1 := x) (hw i i0 (by omega)) n.1 (by omega) n.2.2.1 (by omega) n.2.2.2.2.1 (by omega) (fun _ => partAt_of g40 i0 (by omega) (by omega) (by omega)) (fun _ => partAt_of g40 i0 (by omega) (by omega) (by omega)) (fun (x1_35 : Int) => f_X2_codeOf_L4 N P h k f x1_35 (i + 1)) (fun (x2_41 : Int) => f_X6_codeOf_L5 N m x k' f x2_41 (i + 1)) N 0 ((31 * acc) + GP (gP P h) i 0) (by omega) (by omega) (by omega)
      have ew : f_X6_headOf (m 1 (40 * x + i)) = some (GP (gP P h) i 0) := by rw [hw i i0 (by omega)]; exact pk_head n.1 (by omega) n.2.2.1 (by omega) n.2.2.2.2.1 (by omega)
      rw [ew, bn_some, ck1_of (show -2147483648 ≤ GP (gP P h) i 0 by omega) (by omega), e1, e2]
      exact ih (i + 1) v (by omega) (by omega) (by omega)
/-- as Step1, for a call that answers a long -/
def StepL (T : Int) (b : Bd) (P : PL) (p q : Option (Int × Bd)) : Prop := ∃ v lt' m', p = some (v, lt') ∧ q = some (v, m') ∧ RR (T + 1) lt' b m' P
theorem code_step {N : Nat} (hN : 4000 ≤ N) {T : Int} {lt b m : Bd} {P : PL} (h : RR T lt b m P) {x : Int} (hx : inR x) : StepL T b P (f_X5_code N lt P x) (f_X6_code N m x) := by
  unfold f_X5_code f_X6_code
  rcases has_of h.2.2.2.1 h.2.2.2.2.2.1 hx with ⟨e1, e2⟩ | ⟨x0, x1, e1, e2, p0, p1, g, s, w⟩
  · rw [e1, e2, bn_some, bn_some, if_pos (by omega), ck1_of (by omega) (by omega), if_pos rfl]
    obtain ⟨lt', m', e1, e2, r⟩ := refBad h
    rw [e1, e2, bn_some, bn_some]
    dsimp only
    rw [ck1_of (show -2147483648 ≤ (-2 : Int) by omega) (by omega), ck1_of (show -2147483648 ≤ (-2 : Int) by omega) (by omega)]
    exact ⟨-2, lt', m', rfl, rfl, r⟩
  · have g1 := g.1.1
    have g2 := g.2
    rw [e1, e2, bn_some, bn_some, if_neg (by omega), ck1_of (by omega) (by omega), if_neg (by omega), ckG_of p0 p1]
    unfold f_X2_codeOf f_X6_codeOf
    obtain ⟨v, q1, q2⟩ := code_out hN x0 x1 g s w (fun (x1_4 : Int) => some (x1_4)) (fun (x2_5 : Int) => some (x2_5)) N 0 1 (by omega) (by omega) (by omega)
    rw [q1, q2, bn_some, bn_some]
    exact ⟨v, _, _, rfl, rfl, h.up⟩
