/-! base -/
/-- what a call must do that changes lt, m and the pool -/
def Step2 (T : Int) (p : Option (Int × Bd × Bd × PL)) (q : Option (Int × Bd)) : Prop := ∃ v lt' b' P' m', p = some (v, lt', b', P') ∧ q = some (v, m') ∧ inR v ∧ RR (T + 1) lt' b' m' P'
theorem names_of {x : Int} (hx : inR x) : (0 ≤ x ∧ x < 8 ∧ f_X5_isName x = some 1 ∧ f_X6_isName x = some 1) ∨ (¬ (0 ≤ x ∧ x < 8) ∧ f_X5_isName x = some 0 ∧ f_X6_isName x = some 0) := by
  unfold f_X5_isName f_X6_isName
  rw [ck1_of hx.1 hx.2, in_of hx (by decide) (by decide), bn_some]
  by_cases a : 0 ≤ x ∧ x < 8
  · left
    rw [if_neg (by omega), if_neg (by omega), if_pos (show 0 ≤ x ∧ x ≤ 7 by omega), ckB_of (by omega) (by omega)]
    exact ⟨a.1, a.2, rfl, rfl⟩
  · right
    rw [if_neg (show ¬(0 ≤ x ∧ x ≤ 7) by omega), ckB_of (by omega) (by omega)]
    refine ⟨a, ?_, rfl⟩
    by_cases c : x < 0
    · rw [if_pos c]
    · rw [if_neg c, if_pos (by omega)]
theorem base_step {N : Nat} (hN : 4000 ≤ N) {T : Int} {lt b m : Bd} {P : PL} (h : RR T lt b m P) {x y : Int} (hx : inR x) (hy : inR y) : Step2 T (f_X5_base N lt b P x y) (f_X6_base N m x y) := by
  unfold f_X5_base f_X6_base
  have bad : Step2 T (bn (f_X5_refuseBad lt) fun q17_1 => some (q17_1.1, q17_1.2, b, P)) (bn (f_X6_refuses m (-2)) fun q19_2 => some (q19_2.1, q19_2.2)) := by
    obtain ⟨lt', m', e1, e2, r⟩ := refBad h
    rw [e1, e2, bn_some, bn_some]
    exact ⟨-2, lt', b, P, m', rfl, rfl, by decide, r⟩
  rw [jn_eq, ck1_of hx.1 hx.2, in_of hx (by decide) (by decide), bn_some, jn_eq]
  by_cases a : 0 ≤ x ∧ x ≤ 3
  · rw [if_neg (show ¬ x < 0 by omega), if_neg (show ¬ 3 < x by omega), if_pos a, ck1_of (show -2147483648 ≤ (1 : Int) by omega) (by omega), if_neg (show ¬ (1 : Int) = 0 by omega)]
    rcases names_of hy with ⟨y0, y1, e1, e2⟩ | ⟨_, e1, e2⟩
    · rw [e1, e2, bn_some, bn_some, ck1_of (by omega) (by omega), if_pos (by omega), ck1_of (by omega) (by omega), if_pos (by omega)]
      obtain ⟨h1, h2, h3, hM, hV, hP, hB⟩ := id h
      have ax : ar x = 0 := by unfold ar; rw [if_neg (by omega), if_neg (by omega)]
      unfold f_X0_start
      rw [bn_some]
      obtain ⟨b1, p1, p2, p3, p4, p5, p6, p7⟩ := put_of (b := bs0 b 3 0) (h := x) (x := 0) (y := 0) (bs0_eq _ _ _ _) (by omega) (by omega) a.1 (by omega) (by omega) (by omega) (by omega) (by omega)
      rw [p1, bn_some]
      obtain ⟨m1, q1, q2, q3, q4, q5, q6, q7, q8⟩ := adds_of (m := bs0 m 10 0) (h := x) (x := 0) (y := 0) (bs0_eq _ _ _ _) (by omega) (by omega) a.1 (by omega) (by omega) (by omega) (by omega) (by omega)
      rw [q1, bn_some]
      dsimp only
      have hBW : BW b1 1 := ⟨p3, by omega, by omega, fun v v0 v1 => by
        have : v = 0 := by omega
        subst this
        rw [p4, ax]
        exact ⟨a.1, by omega, fun i i0 i1 => by omega⟩⟩
      obtain ⟨res, b2, P', r1, r2, r3, r4⟩ := small_of hN (P := P) hBW (root := 0) (by omega) (by omega) (fun s s0 s1 => by rw [p2 8 (by omega), bs0_ne _ _ (by decide)]; exact hB s s0 s1)
      rw [r1, bn_some]
      dsimp only
      have hMS : MS m1 (fun v => v = 0) 1 := ⟨q3, by omega, by omega, fun v hv => by
        subst hv
        rw [q5, ax]
        exact ⟨by omega, by omega, q4, by omega, fun i i0 i1 => by omega⟩⟩
      obtain ⟨v, lt', m', g1, g2, g3, g4⟩ := give_of hN h r4 r3 (fun s hs => by rw [q2 s (by omega) (by omega), bs0_ne _ _ (by omega)]) hMS (root2 := 0) rfl (Eqv.bisim (fun u v => u = 0 ∧ v = 0) (fun u v hh => by
        rw [hh.1, hh.2, p4, q5, ax]
        exact ⟨rfl, fun i i0 i1 => by omega⟩) ⟨rfl, rfl⟩) y0 y1
      rw [g1, g2, bn_some, bn_some]
      exact ⟨v, lt', b2, P', m', rfl, rfl, g3, g4⟩
    · rw [e1, e2, bn_some, bn_some, ck1_of (by omega) (by omega), if_neg (by omega), ck1_of (by omega) (by omega), if_neg (by omega)]
      exact bad
  · rw [if_neg a, ck1_of (show -2147483648 ≤ (0 : Int) by omega) (by omega), if_pos (show (0 : Int) = 0 by omega)]
    by_cases c : x < 0
    · rw [if_pos c]; exact bad
    · rw [if_neg c, if_pos (by omega)]; exact bad
