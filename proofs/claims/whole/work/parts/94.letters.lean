/-! read: the graphs of letters without an equation -/
theorem CB.keep {b b' : Bd} {o n cnt : Int} {g : Gr} (h : CB b o g n) (hc : o + n ≤ cnt) (k : ∀ v j, v < cnt → BG b' v j = BG b v j) : CB b' o g n := fun v v0 v1 => by
  rw [k _ _ (by omega), k _ _ (by omega), k _ _ (by omega)]
  exact h v v0 v1
theorem CM.keep {w w' : Int → Int} {o n cnt : Int} {g : Gr} (h : CM w o g n) (hc : o + n ≤ cnt) (k : ∀ v, v < cnt → w' v = w v) : CM w' o g n := fun v v0 v1 => by
  have e := k (o + v) (by omega)
  rw [MG_same e, MG_same e, MG_same e, e]
  exact h v v0 v1
/-- a letter with a graph and without an equation -/
def gl (lt rd : Bd) (l : Int) : Prop := rd 12 l = -1 ∧ 0 ≤ lt 3 l
def LB4 (lt rd b0 : Bd) (P : PL) (b rd' : Bd) (l cnt : Int) : Prop := b 3 0 = cnt ∧ 0 ≤ cnt ∧ cnt ≤ 40 * l ∧ (∀ s : Nat, 4 ≤ s → b s = b0 s) ∧ (∀ s : Nat, s ≠ 15 → rd' s = rd s) ∧ (∀ u, 0 ≤ u → u < l → (gl lt rd u → 0 ≤ rd' 15 u ∧ rd' 15 u + (gP P (lt 3 u)).1 ≤ cnt ∧ CB b (rd' 15 u) (gP P (lt 3 u)) (gP P (lt 3 u)).1) ∧ (¬gl lt rd u → rd' 15 u = -1)) ∧ ∀ w, 0 ≤ w → w < cnt → ∃ u, 0 ≤ u ∧ u < l ∧ gl lt rd u ∧ rd' 15 u ≤ w ∧ w < rd' 15 u + (gP P (lt 3 u)).1
theorem l6_lock {N : Nat} (hN : 4000 ≤ N) {lt rd b0 m : Bd} {P : PL} (hM : RName lt m P) (hP : POK P) (h12 : ∀ l, 0 ≤ l → l < 8 → -1 ≤ rd 12 l ∧ rd 12 l ≤ 120) : ∀ (f : Nat) (l : Int) (b rd' : Bd) (cnt : Int), 8 - l < f → 0 ≤ l → l ≤ 8 → LB4 lt rd b0 P b rd' l cnt → ∃ b2 rd2 cnt2, (∀ k, f_X4_layOut_L6 N lt P k f l b rd' = k b2 rd2) ∧ LB4 lt rd b0 P b2 rd2 8 cnt2 := by
  intro f
  induction f with
  | zero => intro l b rd' cnt h0 _ h2; omega
  | succ f ih =>
    intro l b rd' cnt h0 l0 l1 hL
    by_cases hend : l = 8
    · refine ⟨b, rd', cnt, fun k => ?_, by rw [← hend]; exact hL⟩
      rw [f_X4_layOut_L6, ck1_of (by omega) (by omega), if_pos (by omega)]
    · obtain ⟨q1, q2, q3, q4, q5, q6, q7⟩ := hL
      have r12 := h12 l l0 (by omega)
      have e12 : rd' 12 = rd 12 := q5 12 (by decide)
      have sg := (hM l l0 (by omega)).rng hP
      by_cases hg : gl lt rd l
      · have pr := sg.2.2.2 hg.2
        obtain ⟨b1, k1, k2, k3, k4, k5⟩ := putAll_of hN hg.2 pr.2.2.1 pr.1 q1 q2 (by omega)
        obtain ⟨b2, rd2, cnt2, i1, i2⟩ := ih (l + 1) b1 (bS rd' 15 (aS (rd' 15) l cnt)) (cnt + (gP P (lt 3 l)).1) (by omega) (by omega) (by omega) (by
          refine ⟨k3, by omega, by omega, fun s hs => by rw [k2 s hs, q4 s hs], fun s hs => by rw [bS_ne _ _ hs, q5 s hs], fun u u0 u1 => ?_, fun w w0 w1 => ?_⟩
          · rw [bS_eq]
            by_cases eu : u = l
            · subst eu
              rw [aS_eq]
              exact ⟨fun _ => ⟨q2, Int.le_refl _, k4⟩, fun h => absurd hg h⟩
            · rw [aS_ne _ _ eu]
              have := q6 u u0 (by omega)
              exact ⟨fun h => ⟨(this.1 h).1, by have := (this.1 h).2.1; omega, ((this.1 h).2.2).keep (this.1 h).2.1 k5⟩, this.2⟩
          · rw [bS_eq]
            by_cases ew : w < cnt
            · obtain ⟨u, a1, a2, a3, a4, a5⟩ := q7 w w0 ew
              exact ⟨u, a1, by omega, a3, by rw [aS_ne _ _ (by omega)]; exact a4, by rw [aS_ne _ _ (by omega)]; exact a5⟩
            · exact ⟨l, l0, by omega, hg, by rw [aS_eq]; omega, by rw [aS_eq]; exact w1⟩)
        refine ⟨b2, rd2, cnt2, fun k => ?_, i2⟩
        rw [f_X4_layOut_L6, ck1_of (by omega) (by omega), if_neg (by omega), ckA_of l0 (by omega), jn_eq, jn_eq, e12, ck1_of (by omega) (by omega), if_neg (fun h => h hg.1), if_neg (show ¬(lt 3 l < 0) by have := hg.2; omega)]
        dsimp only
        rw [ck1_of (by decide) (by decide), if_neg z10, k1, bn_some]
        exact i1 k
      · obtain ⟨b2, rd2, cnt2, i1, i2⟩ := ih (l + 1) b (bS rd' 15 (aS (rd' 15) l (-1))) cnt (by omega) (by omega) (by omega) (by
          refine ⟨q1, by omega, by omega, q4, fun s hs => by rw [bS_ne _ _ hs, q5 s hs], fun u u0 u1 => ?_, fun w w0 w1 => ?_⟩
          · rw [bS_eq]
            by_cases eu : u = l
            · subst eu
              rw [aS_eq]
              exact ⟨fun h => absurd h hg, fun _ => rfl⟩
            · rw [aS_ne _ _ eu]
              exact q6 u u0 (by omega)
          · obtain ⟨u, a1, a2, a3, a4, a5⟩ := q7 w w0 w1
            rw [bS_eq]
            exact ⟨u, a1, by omega, a3, by rw [aS_ne _ _ (by omega)]; exact a4, by rw [aS_ne _ _ (by omega)]; exact a5⟩)
        refine ⟨b2, rd2, cnt2, fun k => ?_, i2⟩
        rw [f_X4_layOut_L6, ck1_of (by omega) (by omega), if_neg (by omega), ckA_of l0 (by omega), jn_eq, jn_eq, e12, ck1_of (by omega) (by omega)]
        have z : (ck1 (0 : Int) <| if (0 : Int) = 0 then f_X4_layOut_L6 N lt P k f (l + 1) b (bS rd' 15 (aS (rd' 15) l (-1))) else bn (f_X0_putAll N b P (lt 3 l)) fun q49_7 => f_X4_layOut_L6 N lt P k f (l + 1) q49_7.2 (bS rd' 15 (aS (rd' 15) l q49_7.1))) = k b2 rd2 := by
          rw [ck1_of (by decide) (by decide), if_pos rfl]
          exact i1 k
        by_cases c1 : rd 12 l = -1
        · rw [if_neg (fun h => h c1), if_pos (show lt 3 l < 0 by
            by_cases c2 : lt 3 l < 0
            · exact c2
            · exact absurd ⟨c1, by omega⟩ hg)]
          exact z
        · rw [if_pos c1]
          exact z
def LM4 (lt rd m : Bd) (P : PL) (c0 : Int) (m1 : Bd) (l cnt : Int) : Prop := m1 10 0 = cnt ∧ c0 ≤ cnt ∧ cnt ≤ c0 + 40 * l ∧ (∀ s : Nat, s ≠ 9 → s ≠ 10 → s ≠ 23 → m1 s = m s) ∧ (∀ v, v < c0 → m1 9 v = m 9 v) ∧ (∀ u, l ≤ u → m1 23 u = m 23 u) ∧ ∀ u, 0 ≤ u → u < l → (gl lt rd u → c0 ≤ m1 23 u ∧ m1 23 u + (gP P (lt 3 u)).1 ≤ cnt ∧ CM (m1 9) (m1 23 u) (gP P (lt 3 u)) (gP P (lt 3 u)).1) ∧ (¬gl lt rd u → m1 23 u = m 23 u)
theorem l58_lock {N : Nat} (hN : 4000 ≤ N) {lt rd m : Bd} {P : PL} {c0 x2 x3 : Int} (hM : RName lt m P) (hP : POK P) (c00 : 0 ≤ c0) (c01 : c0 ≤ 120) (h12 : ∀ l, 0 ≤ l → l < 8 → -1 ≤ rd 12 l ∧ rd 12 l ≤ 120 ∧ m 23 l = rd 12 l) : ∀ (f : Nat) (l : Int) (m1 : Bd) (cnt : Int), 8 - l < f → 0 ≤ l → l ≤ 8 → LM4 lt rd m P c0 m1 l cnt → ∃ m2 cnt2, (∀ k, f_X6_read_L58 N x2 x3 k f l m1 = k m2) ∧ LM4 lt rd m P c0 m2 8 cnt2 := by
  intro f
  induction f with
  | zero => intro l m1 cnt h0 _ h2; omega
  | succ f ih =>
    intro l m1 cnt h0 l0 l1 hL
    by_cases hend : l = 8
    · refine ⟨m1, cnt, fun k => ?_, by rw [← hend]; exact hL⟩
      rw [f_X6_read_L58, ck1_of (by omega) (by omega), if_pos (by omega)]
    · obtain ⟨q1, q2, q3, q4, q5, q6, q7⟩ := hL
      have r12 := h12 l l0 (by omega)
      have e23 : m1 23 l = rd 12 l := by rw [q6 l (Int.le_refl l)]; exact r12.2.2
      have e0 : m1 0 = m 0 := q4 0 (by decide) (by decide) (by decide)
      have e1 : m1 1 = m 1 := q4 1 (by decide) (by decide) (by decide)
      have sg0 := hM l l0 (by omega)
      have sg := sg0.rng hP
      by_cases hg : gl lt rd l
      · have pr := sg.2.2.2 hg.2
        have nm : Nm P m1 l (lt 3 l) := by
          refine ⟨l0, by omega, hg.2, pr.2.2.1, pr.1, by rw [e0]; exact pr.2.1, fun v v0 v1 => ?_⟩
          rw [e1]
          rcases sg0 with ⟨a, _⟩ | ⟨_, _, _, w⟩
          · have := hg.2; omega
          · exact w v v0 (by omega)
        obtain ⟨m3, k1, k2, k3, k4, k5⟩ := loads_of hN nm q1 (by omega) (by omega)
        obtain ⟨m2, cnt2, i1, i2⟩ := ih (l + 1) (bS m3 23 (aS (m3 23) l cnt)) (cnt + (gP P (lt 3 l)).1) (by omega) (by omega) (by omega) (by
          refine ⟨by rw [bS_ne _ _ (by decide)]; exact k3, by omega, by omega, fun s h9 h10 h23 => by rw [bS_ne _ _ h23, k2 s h9 h10, q4 s h9 h10 h23], fun v v1 => by rw [bS_ne _ _ (by decide), k5 v (by omega)]; exact q5 v v1, fun u u0 => by rw [bS_eq, aS_ne _ _ (by omega), k2 23 (by decide) (by decide)]; exact q6 u (by omega), fun u u0 u1 => ?_⟩
          rw [bS_eq, bS_ne _ _ (show (9 : Nat) ≠ 23 by decide)]
          by_cases eu : u = l
          · subst eu
            rw [aS_eq]
            exact ⟨fun _ => ⟨q2, Int.le_refl _, k4⟩, fun h => absurd hg h⟩
          · rw [aS_ne _ _ eu, k2 23 (by decide) (by decide)]
            have := q7 u u0 (by omega)
            exact ⟨fun h => ⟨(this.1 h).1, by have := (this.1 h).2.1; omega, ((this.1 h).2.2).keep (this.1 h).2.1 k5⟩, this.2⟩)
        refine ⟨m2, cnt2, fun k => ?_, i2⟩
        rw [f_X6_read_L58, ck1_of (by omega) (by omega), if_neg (by omega), ckA_of l0 (by omega), ck1_of (by omega) (by omega), if_neg (by rw [e23, hg.1]; decide), e0, ck1_of (by omega) (by omega), if_neg (show ¬(m 0 l ≤ 0) by omega), k1, bn_some]
        exact i1 k
      · have eS : aS (m1 23) l (m1 23 l) = m1 23 := by
          funext j
          by_cases ej : j = l
          · rw [ej, aS_eq]
          · rw [aS_ne _ _ ej]
        have eB : bS m1 23 (m1 23) = m1 := by
          funext s
          by_cases es : s = 23
          · rw [es, bS_eq]
          · rw [bS_ne _ _ es]
        obtain ⟨m2, cnt2, i1, i2⟩ := ih (l + 1) m1 cnt (by omega) (by omega) (by omega) (by
          refine ⟨q1, q2, by omega, q4, q5, fun u u0 => q6 u (by omega), fun u u0 u1 => ?_⟩
          by_cases eu : u = l
          · subst eu
            exact ⟨fun h => absurd h hg, fun _ => q6 u (Int.le_refl u)⟩
          · exact q7 u u0 (by omega))
        refine ⟨m2, cnt2, fun k => ?_, i2⟩
        rw [f_X6_read_L58, ck1_of (by omega) (by omega), if_neg (by omega), ckA_of l0 (by omega), ck1_of (by omega) (by omega), eS, eB]
        by_cases c1 : 0 ≤ m1 23 l
        · rw [if_pos c1]
          exact i1 k
        · have c2 : lt 3 l < 0 := by
            by_cases c2 : lt 3 l < 0
            · exact c2
            · exact absurd ⟨by omega, by omega⟩ hg
          rw [if_neg c1, e0, ck1_of (by omega) (by omega), if_pos (show m 0 l ≤ 0 by have := sg.2.2.1.2 c2; omega)]
          exact i1 k
