/-! The relation of both states, and the calls that only look -/
/-- handle h of the pool is the reference's graph of sz words of T from o on -/
def SG (P : PL) (h sz : Int) (T : Int → Int) (o : Int) : Prop := (h = -1 ∧ sz = 0) ∨ (0 ≤ h ∧ h < (P.length : Int) ∧ sz = (gP P h).1 ∧ ∀ v, 0 ≤ v → v < sz → T (o + v) = pk (GP (gP P h) v 0) (GP (gP P h) v 1) (GP (gP P h) v 2))
def RText (lt m : Bd) : Prop := lt 1 0 = m 8 0 ∧ 0 ≤ m 8 0 ∧ m 8 0 ≤ 120 ∧ ∀ j, 0 ≤ j → j < m 8 0 → lt 0 j = m 7 j ∧ 0 ≤ m 7 j ∧ m 7 j ≤ 127
def RKind (lt m : Bd) : Prop := lt 2 0 = m 6 0 ∧ 0 ≤ m 6 0 ∧ m 6 0 ≤ 4
def RCnt (T : Int) (lt m : Bd) : Prop := lt 8 0 = m 5 0 ∧ lt 9 0 = m 5 1 ∧ lt 10 0 = m 5 2 ∧ 0 ≤ m 5 0 ∧ m 5 0 ≤ T ∧ 0 ≤ m 5 1 ∧ m 5 1 ≤ T ∧ 0 ≤ m 5 2 ∧ m 5 2 ≤ T
def RName (lt m : Bd) (P : PL) : Prop := ∀ a, 0 ≤ a → a < 8 → SG P (lt 3 a) (m 0 a) (m 1) (40 * a)
def RVer (lt m : Bd) (P : PL) : Prop := lt 7 0 = m 4 0 ∧ 0 ≤ m 4 0 ∧ m 4 0 ≤ 8 ∧ 0 ≤ lt 6 0 ∧ lt 6 0 < 8 ∧ ∀ j a, 0 ≤ j → j < m 4 0 → 0 ≤ a → a < 8 → SG P (lt 5 (8 * ((lt 6 0 + 8 - m 4 0 + j) % 8) + a)) (m 3 (8 * j + a)) (m 2) (320 * j + 40 * a)
def RPool (b : Bd) (P : PL) : Prop := POK P ∧ ∀ s, 0 ≤ s → s < 11200 → b 8 s = -1
/-- both states say the same, after T calls -/
def RR (T : Int) (lt b m : Bd) (P : PL) : Prop := RText lt m ∧ RKind lt m ∧ RCnt T lt m ∧ RName lt m P ∧ RVer lt m P ∧ RPool b P
theorem SG.rng {P : PL} {h sz o : Int} {T : Int → Int} (hP : POK P) (q : SG P h sz T o) : 0 ≤ sz ∧ sz ≤ 40 ∧ (sz = 0 ↔ h < 0) ∧ (0 ≤ h → GOK (gP P h) ∧ sz = (gP P h).1 ∧ h < (P.length : Int) ∧ 1 ≤ sz) := by
  rcases q with ⟨a, b⟩ | ⟨a, b, c, _⟩
  · exact ⟨by omega, by omega, by omega, fun h => by omega⟩
  · have g := hP h a b
    have g1 := g.1.1
    have g2 := g.2
    exact ⟨by omega, by omega, by omega, fun _ => ⟨g, c, b, by omega⟩⟩
theorem gP_app {P : PL} {h : Int} (g : Gr) (h0 : 0 ≤ h) (h1 : h < (P.length : Int)) : gP (P ++ [g]) h = gP P h := by
  have : h.toNat < P.length := by omega
  unfold gP
  rw [List.getD_eq_getElem?_getD, List.getD_eq_getElem?_getD, List.getElem?_append_left this]
theorem gP_new (P : PL) (g : Gr) : gP (P ++ [g]) (P.length : Int) = g := by
  unfold gP
  rw [List.getD_eq_getElem?_getD, Int.toNat_natCast, List.getElem?_append_right (Nat.le_refl _)]
  simp
theorem SG.app {P : PL} {h sz o : Int} {T : Int → Int} (g : Gr) (q : SG P h sz T o) : SG (P ++ [g]) h sz T o := by
  rcases q with ⟨a, b⟩ | ⟨a, b, c, d⟩
  · exact Or.inl ⟨a, b⟩
  · have e := gP_app g a b
    exact Or.inr ⟨a, by rw [List.length_append]; simp; omega, by rw [e]; exact c, by rw [e]; exact d⟩
theorem RR.up {T : Int} {lt b m : Bd} {P : PL} (h : RR T lt b m P) : RR (T + 1) lt b m P := by
  obtain ⟨h1, h2, ⟨c1, c2, c3, c4, c5, c6, c7, c8, c9⟩, h4, h5, h6⟩ := h
  exact ⟨h1, h2, ⟨c1, c2, c3, c4, by omega, c6, by omega, c8, by omega⟩, h4, h5, h6⟩
theorem RR.frame {T : Int} {lt b m lt' b' m' : Bd} {P : PL} (h : RR T lt b m P) (f1 : ∀ s : Nat, s ≠ 4 → s < 11 → lt' s = lt s) (f2 : b' 8 = b 8) (f3 : ∀ s : Nat, s < 9 → m' s = m s) : RR T lt' b' m' P := by
  unfold RR RText RKind RCnt RName RVer RPool at *
  rw [f1 0 (by decide) (by decide), f1 1 (by decide) (by decide), f1 2 (by decide) (by decide), f1 3 (by decide) (by decide), f1 5 (by decide) (by decide), f1 6 (by decide) (by decide), f1 7 (by decide) (by decide), f1 8 (by decide) (by decide), f1 9 (by decide) (by decide), f1 10 (by decide) (by decide), f2, f3 0 (by decide), f3 1 (by decide), f3 2 (by decide), f3 3 (by decide), f3 4 (by decide), f3 5 (by decide), f3 6 (by decide), f3 7 (by decide), f3 8 (by decide)]
  exact h
/-- a refusal: code -2, -3, -4 -/
theorem refBad {T : Int} {lt b m : Bd} {P : PL} (h : RR T lt b m P) : ∃ lt' m', f_X5_refuseBad lt = some (-2, lt') ∧ f_X6_refuses m (-2) = some (-2, m') ∧ RR (T + 1) lt' b m' P := by
  obtain ⟨h1, h2, ⟨c1, c2, c3, c4, c5, c6, c7, c8, c9⟩, h4, h5, h6⟩ := h
  refine ⟨bs0 lt 8 (lt 8 0 + 1), bS m 5 (aS (m 5) (-2 - -2) (m 5 (-2 - -2) + 1)), rfl, by unfold f_X6_refuses; rw [ckA_of (by decide) (by decide)], h1, h2, ?_, h4, h5, h6⟩
  rw [show (-2 - -2 : Int) = 0 by decide]
  unfold RCnt
  rw [bs0_eq, bS_eq, bs0_ne lt _ (j := 9) (by decide), bs0_ne lt _ (j := 10) (by decide), aS_eq, aS_ne (m 5) _ (j := 1) (by decide), aS_ne (m 5) _ (j := 2) (by decide)]
  exact ⟨by omega, c2, c3, by omega, by omega, c6, by omega, c8, by omega⟩
theorem refNo {T : Int} {lt b m : Bd} {P : PL} (h : RR T lt b m P) : ∃ lt' m', f_X5_refuseNo lt = some (-3, lt') ∧ f_X6_refuses m (-3) = some (-3, m') ∧ RR (T + 1) lt' b m' P := by
  obtain ⟨h1, h2, ⟨c1, c2, c3, c4, c5, c6, c7, c8, c9⟩, h4, h5, h6⟩ := h
  refine ⟨bs0 lt 9 (lt 9 0 + 1), bS m 5 (aS (m 5) (-2 - -3) (m 5 (-2 - -3) + 1)), rfl, by unfold f_X6_refuses; rw [ckA_of (by decide) (by decide)], h1, h2, ?_, h4, h5, h6⟩
  rw [show (-2 - -3 : Int) = 1 by decide]
  unfold RCnt
  rw [bs0_eq, bS_eq, bs0_ne lt _ (j := 8) (by decide), bs0_ne lt _ (j := 10) (by decide), aS_eq, aS_ne (m 5) _ (j := 0) (by decide), aS_ne (m 5) _ (j := 2) (by decide)]
  exact ⟨c1, by omega, c3, c4, by omega, by omega, by omega, c8, by omega⟩
theorem refFull {T : Int} {lt b m : Bd} {P : PL} (h : RR T lt b m P) : ∃ lt' m', f_X5_refuseFull lt = some (-4, lt') ∧ f_X6_refuses m (-4) = some (-4, m') ∧ RR (T + 1) lt' b m' P := by
  obtain ⟨h1, h2, ⟨c1, c2, c3, c4, c5, c6, c7, c8, c9⟩, h4, h5, h6⟩ := h
  refine ⟨bs0 lt 10 (lt 10 0 + 1), bS m 5 (aS (m 5) (-2 - -4) (m 5 (-2 - -4) + 1)), rfl, by unfold f_X6_refuses; rw [ckA_of (by decide) (by decide)], h1, h2, ?_, h4, h5, h6⟩
  rw [show (-2 - -4 : Int) = 2 by decide]
  unfold RCnt
  rw [bs0_eq, bS_eq, bs0_ne lt _ (j := 8) (by decide), bs0_ne lt _ (j := 9) (by decide), aS_eq, aS_ne (m 5) _ (j := 0) (by decide), aS_ne (m 5) _ (j := 1) (by decide)]
  exact ⟨c1, c2, by omega, c4, by omega, c6, by omega, by omega, by omega⟩
/-- what a call must do that changes lt and m only -/
def Step1 (T : Int) (b : Bd) (P : PL) (p q : Option (Int × Bd)) : Prop := ∃ v lt' m', p = some (v, lt') ∧ q = some (v, m') ∧ inR v ∧ RR (T + 1) lt' b m' P
theorem type_step {T : Int} {lt b m : Bd} {P : PL} (h : RR T lt b m P) {x : Int} (hx : inR x) : Step1 T b P (f_X5_type lt x) (f_X6_type m x) := by
  unfold f_X5_type f_X6_type
  rw [jn_eq, ck1_of hx.1 hx.2, in_of hx (by decide) (by decide), bn_some]
  have bad : Step1 T b P (bn (f_X5_refuseBad lt) fun q11_1 => some (q11_1.1, q11_1.2)) (bn (f_X6_refuses m (-2)) fun q13_8 => some (q13_8.1, q13_8.2)) := by
    obtain ⟨lt', m', e1, e2, r⟩ := refBad h
    rw [e1, e2, bn_some, bn_some]
    exact ⟨-2, lt', m', rfl, rfl, by decide, r⟩
  by_cases a : x < 0
  · rw [if_pos a, if_neg (show ¬(0 ≤ x ∧ x ≤ 127) by omega), ck1_of (by omega) (by omega), if_neg (by omega)]
    exact bad
  · rw [if_neg a]
    by_cases c : x ≤ 127
    · obtain ⟨⟨t1, t2, t3, t4⟩, h2, h3, h4, h5, h6⟩ := id h
      rw [if_pos c, if_pos (show 0 ≤ x ∧ x ≤ 127 by omega), ck1_of (show -2147483648 ≤ (1 : Int) by omega) (by omega), if_pos (show (1 : Int) ≠ 0 by omega), ck1_of (show -2147483648 ≤ lt 1 0 by omega) (by omega), ck1_of (show -2147483648 ≤ m 8 0 by omega) (by omega)]
      by_cases d : m 8 0 < 120
      · rw [if_pos (show lt 1 0 < 120 by omega), if_pos (show m 8 0 ≠ 120 by omega), ckA_of (show 0 ≤ lt 1 0 by omega) (by omega), ckA_of (show 0 ≤ m 8 0 by omega) (by omega), t1]
        refine ⟨_, _, _, rfl, rfl, ⟨by omega, by omega⟩, ⟨?_, h2, h.up.2.2.1, h4, h5, h6⟩⟩
        unfold RText
        rw [bs0_eq, bs0_eq, bs0_ne _ _ (by decide), bs0_ne _ _ (by decide), bS_eq, bS_eq]
        refine ⟨rfl, by omega, by omega, fun j j0 j1 => ?_⟩
        by_cases hj : j = m 8 0
        · rw [hj, aS_eq, aS_eq]; exact ⟨rfl, by omega, c⟩
        · rw [aS_ne _ _ hj, aS_ne _ _ hj]; exact t4 j j0 (by omega)
      · rw [if_neg (show ¬ lt 1 0 < 120 by omega), if_neg (show ¬ m 8 0 ≠ 120 by omega)]
        obtain ⟨lt', m', e1, e2, r⟩ := refFull h
        rw [e1, e2, bn_some, bn_some]
        exact ⟨-4, lt', m', rfl, rfl, by decide, r⟩
    · rw [if_neg c, if_neg (show ¬(0 ≤ x ∧ x ≤ 127) by omega), ck1_of (by omega) (by omega), if_neg (by omega)]
      exact bad
theorem clear_step {T : Int} {lt b m : Bd} {P : PL} (h : RR T lt b m P) : Step1 T b P (f_X5_clear lt) (f_X6_clear m) := by
  obtain ⟨⟨t1, t2, t3, t4⟩, h2, h3, h4, h5, h6⟩ := id h
  unfold f_X5_clear f_X6_clear
  rw [t1]
  refine ⟨_, _, _, rfl, rfl, ⟨by omega, by omega⟩, ⟨?_, h2, h.up.2.2.1, h4, h5, h6⟩⟩
  unfold RText
  rw [bs0_eq, bs0_eq]
  exact ⟨rfl, by omega, by omega, fun j j0 j1 => by omega⟩
theorem order_step {T : Int} {lt b m : Bd} {P : PL} (h : RR T lt b m P) {x : Int} (hx : inR x) : Step1 T b P (f_X5_order lt x) (f_X6_order m x) := by
  unfold f_X5_order f_X6_order
  rw [jn_eq, ck1_of hx.1 hx.2, in_of hx (by decide) (by decide), bn_some]
  have bad : Step1 T b P (bn (f_X5_refuseBad lt) fun q11_1 => some (q11_1.1, q11_1.2)) (bn (f_X6_refuses m (-2)) fun q13_8 => some (q13_8.1, q13_8.2)) := by
    obtain ⟨lt', m', e1, e2, r⟩ := refBad h
    rw [e1, e2, bn_some, bn_some]
    exact ⟨-2, lt', m', rfl, rfl, by decide, r⟩
  by_cases a : x < 0
  · rw [if_pos a, if_neg (show ¬(0 ≤ x ∧ x ≤ 4) by omega), ck1_of (by omega) (by omega), if_neg (by omega)]
    exact bad
  · rw [if_neg a]
    by_cases c : x ≤ 4
    · obtain ⟨h1, ⟨k1, k2, k3⟩, h3, h4, h5, h6⟩ := id h
      rw [if_pos c, if_pos (show 0 ≤ x ∧ x ≤ 4 by omega), ck1_of (by omega) (by omega), if_pos (by omega), k1]
      refine ⟨_, _, _, rfl, rfl, ⟨by omega, by omega⟩, ⟨h1, ?_, h.up.2.2.1, h4, h5, h6⟩⟩
      unfold RKind
      rw [bs0_eq, bs0_eq]
      exact ⟨rfl, by omega, c⟩
    · rw [if_neg c, if_neg (show ¬(0 ≤ x ∧ x ≤ 4) by omega), ck1_of (by omega) (by omega), if_neg (by omega)]
      exact bad
/-- has and graphOf -/
theorem has_of {lt m : Bd} {P : PL} (hN : RName lt m P) (hP : POK P) {x : Int} (hx : inR x) : (f_X5_graphOf lt x = some (-1) ∧ f_X6_has m x = some 0) ∨ (0 ≤ x ∧ x < 8 ∧ f_X5_graphOf lt x = some (lt 3 x) ∧ f_X6_has m x = some 1 ∧ 0 ≤ lt 3 x ∧ lt 3 x < (P.length : Int) ∧ GOK (gP P (lt 3 x)) ∧ m 0 x = (gP P (lt 3 x)).1 ∧ ∀ v, 0 ≤ v → v < (gP P (lt 3 x)).1 → m 1 (40 * x + v) = pk (GP (gP P (lt 3 x)) v 0) (GP (gP P (lt 3 x)) v 1) (GP (gP P (lt 3 x)) v 2)) := by
  unfold f_X5_graphOf f_X6_has f_X5_isName f_X6_isName
  rw [ck1_of hx.1 hx.2, in_of hx (by decide) (by decide), bn_some]
  by_cases a : 0 ≤ x ∧ x < 8
  · rw [if_neg (by omega), if_neg (by omega), if_pos (by omega), bn_some, ck1_of (by omega) (by omega), if_neg (by omega), ckA_of a.1 a.2, ckB_of (by omega) (by omega), bn_some, ck1_of (by omega) (by omega), if_neg (by omega), ckA_of a.1 a.2]
    have q := hN x a.1 a.2
    have r := q.rng hP
    rw [ck1_of (by omega) (by omega)]
    rcases q with ⟨q1, q2⟩ | ⟨q1, q2, q3, q4⟩
    · left
      rw [q1, if_pos (by omega)]
      exact ⟨rfl, rfl⟩
    · right
      have g := r.2.2.2 q1
      rw [if_neg (by omega)]
      exact ⟨a.1, a.2, rfl, rfl, q1, q2, g.1, q3, by rw [← q3]; exact q4⟩
  · left
    rw [if_neg (by omega : ¬ (0 ≤ x ∧ x ≤ 7)), ckB_of (by omega) (by omega), bn_some, ck1_of (by omega) (by omega), if_pos rfl]
    refine ⟨?_, rfl⟩
    by_cases c : x < 0
    · rw [if_pos c, bn_some, ck1_of (by omega) (by omega), if_pos rfl]
    · rw [if_neg c, if_pos (by omega), bn_some, ck1_of (by omega) (by omega), if_pos rfl]
theorem size_step {T : Int} {lt b m : Bd} {P : PL} (h : RR T lt b m P) {x : Int} (hx : inR x) : Step1 T b P (f_X5_size lt P x) (f_X6_size m x) := by
  unfold f_X5_size f_X6_size
  rcases has_of h.2.2.2.1 h.2.2.2.2.2.1 hx with ⟨e1, e2⟩ | ⟨x0, x1, e1, e2, p0, p1, g, s, w⟩
  · rw [e1, e2, bn_some, bn_some, if_pos (by omega), ck1_of (by omega) (by omega), if_pos rfl]
    obtain ⟨lt', m', e1, e2, r⟩ := refBad h
    rw [e1, e2, bn_some, bn_some]
    exact ⟨-2, lt', m', rfl, rfl, by decide, r⟩
  · have g1 := g.1.1
    have g2 := g.2
    rw [e1, e2, bn_some, bn_some, if_neg (by omega), ck1_of (by omega) (by omega), if_neg (by omega), ckG_of p0 p1, ckA_of x0 x1, s]
    exact ⟨_, _, _, rfl, rfl, ⟨by omega, by omega⟩, h.up⟩
theorem head_step {T : Int} {lt b m : Bd} {P : PL} (h : RR T lt b m P) {x : Int} (hx : inR x) : Step1 T b P (f_X5_head lt P x) (f_X6_head m x) := by
  unfold f_X5_head f_X6_head
  rcases has_of h.2.2.2.1 h.2.2.2.2.2.1 hx with ⟨e1, e2⟩ | ⟨x0, x1, e1, e2, p0, p1, g, s, w⟩
  · rw [e1, e2, bn_some, bn_some, if_pos (by omega), ck1_of (by omega) (by omega), if_pos rfl]
    obtain ⟨lt', m', e1, e2, r⟩ := refBad h
    rw [e1, e2, bn_some, bn_some]
    exact ⟨-2, lt', m', rfl, rfl, by decide, r⟩
  · have g1 := g.1.1
    have g2 := g.2
    have n := g.node (v := 0) (by omega) (by omega)
    unfold f_X6_nodeAt
    rw [e1, e2, bn_some, bn_some, if_neg (by omega), ck1_of (by omega) (by omega), if_neg (by omega), ckG_of p0 p1, headAt_of g2 (by omega) (by omega), bn_some, ckA_of (by omega) (by omega), bn_some, w 0 (by omega) (by omega), pk_head (by omega) (by omega) (by omega) (by omega) (by omega) (by omega), bn_some]
    exact ⟨_, _, _, rfl, rfl, ⟨by omega, by omega⟩, h.up⟩
