/-! The code of a type -/
theorem code_in {P : PL} {h a : Int} {w x1 hd p0 p1 : Int} (hw : w = pk hd p0 p1) (d0 : 0 ≤ hd) (d1 : hd < 8) (a0 : 0 ≤ p0) (a1 : p0 < 4096) (b0 : 0 ≤ p1) (b1 : p1 < 4096) (q0 : 0 < ar hd → f_X2_partAt P h a 0 = some p0) (q1 : 1 < ar hd → f_X2_partAt P h a 1 = some p1) (k k' : Int → Option Int) : ∀ (f : Nat) (i acc : Int), ar hd - i < f → 0 ≤ i → i ≤ ar hd → ∃ v, f_X2_codeOf_L35 P h a (ar hd) k f acc i = k v ∧ f_X6_codeOf_L41 x1 a w k' f acc i = k' v := by
  have har := ar_le hd
  intro f
  induction f with
  | zero => intro i acc h0 _ h2; omega
  | succ f ih =>
    intro i acc h0 i0 i1
    rw [f_X2_codeOf_L35, f_X6_codeOf_L41, hw, pk_head d0 d1 a0 a1 b0 b1, bn_some, parts_ar d0 d1, bn_some, ck1_of (show -2147483648 ≤ i by omega) (by omega), ck1_of (show -2147483648 ≤ ar hd by omega) (by omega), ck1_of (show -2147483648 ≤ i by omega) (by omega), ck1_of (show -2147483648 ≤ ar hd by omega) (by omega)]
    by_cases hx : ar hd ≤ i
    · rw [if_pos hx, if_pos hx]
      exact ⟨acc, rfl, rfl⟩
    · rw [if_neg hx, if_neg hx]
      by_cases hi : i = 0
      · subst hi
        rw [q0 (by omega), bn_some, pk_part0 d0 d1 a0 a1 b0 b1, bn_some, ck1_of (show -2147483648 ≤ p0 by omega) (by omega), ck1_of (show -2147483648 ≤ p0 by omega) (by omega), ← hw]
        exact ih 1 _ (by omega) (by omega) (by omega)
      · have e : i = 1 := by omega
        subst e
        rw [q1 (by omega), bn_some, pk_part1 d0 d1 a0 a1 b0 b1, bn_some, ck1_of (show -2147483648 ≤ p1 by omega) (by omega), ck1_of (show -2147483648 ≤ p1 by omega) (by omega), ← hw]
        exact ih 2 _ (by omega) (by omega) (by omega)
