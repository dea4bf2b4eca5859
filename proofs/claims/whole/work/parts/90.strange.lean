/-! read: letters without a graph -/
theorem strange_lock {T : Int} {lt b : Bd} {P : PL} {tx : Int → Int} {len : Int} (hl : len ≤ 120) {rd m : Bd} {c e : Int} (hR : RS tx len rd m len c e) (hM : RName lt m P) (hP : POK P) (c120 : c ≤ 120) : ∀ (f : Nat) (v g : Nat), c - v < f → (v : Int) ≤ c → l7 (rd 2) c.toNat - l7 (rd 2) v < g → (∃ q, 0 ≤ q ∧ q < len ∧ (∀ k5, f_X4_strangeLetter_L2 lt rd k5 f v = some q) ∧ ∀ k6, f_X6_readsAll_L198 m k6 g (l7 (rd 2) v) = some (q, m)) ∨ ((∀ k5, f_X4_strangeLetter_L2 lt rd k5 f v = k5) ∧ (∀ k6, f_X6_readsAll_L198 m k6 g (l7 (rd 2) v) = k6) ∧ ∀ u, (v : Int) ≤ u → u < c → rd 2 u = 7 → rd 12 (rd 3 u) = -1 → 0 ≤ lt 3 (rd 3 u)) := by
  obtain ⟨h1, ⟨n1, n2, n3, n4, n5, n6⟩, h3, ⟨h4, h5, h6, h7⟩, h8, h9, h10, h11⟩ := hR
  have lr := l7_rng (rd 2)
  intro f
  induction f with
  | zero => intro v g h0 h1; omega
  | succ f ih =>
    intro v g hf hv hg
    obtain ⟨g, rfl⟩ : ∃ g', g = g' + 1 := by
      refine ⟨g - 1, ?_⟩
      by_cases d : v < c.toNat
      · have up : ∀ n : Nat, l7 (rd 2) v ≤ l7 (rd 2) (v + n) := by
          intro n
          induction n with
          | zero => exact Int.le_refl _
          | succ n ih =>
            have el : l7 (rd 2) (v + n + 1) = l7 (rd 2) (v + n) + (if rd 2 ((v + n : Nat) : Int) = 7 then 1 else 0) := rfl
            rw [show v + (n + 1) = v + n + 1 by omega, el]
            split <;> omega
        have := up (c.toNat - v)
        rw [show v + (c.toNat - v) = c.toNat by omega] at this
        omega
      · rw [show v = c.toNat by omega] at hg
        omega
    have lc := lr c.toNat
    have lv := lr v
    by_cases hend : (v : Int) = c
    · have ev : v = c.toNat := by omega
      refine Or.inr ⟨fun k5 => ?_, fun k6 => ?_, fun u u0 u1 => by omega⟩
      · rw [f_X4_strangeLetter_L2, ck1_of (by omega) (by omega), n1, ck1_of (by omega) (by omega), if_pos (by omega)]
      · rw [f_X6_readsAll_L198, ck1_of (by omega) (by omega), n5, ck1_of (by omega) (by omega), if_pos (by rw [ev]; exact Int.le_refl _)]
    · have nv := n4 v (by omega) (by omega)
      have el : l7 (rd 2) (v + 1) = l7 (rd 2) v + (if rd 2 (v : Int) = 7 then 1 else 0) := rfl
      have ev1 : ((v + 1 : Nat) : Int) = (v : Int) + 1 := by omega
      by_cases h7v : rd 2 (v : Int) = 7
      · have ln := l7_lt (R := rd 2) h7v c.toNat (by omega)
        rw [if_pos h7v] at el
        have lg := nv.2.2.2.2.2.2 h7v
        have r3 : 0 ≤ rd 3 (v : Int) := by rw [← nv.2.2.2.2.1]; exact (MG_rng nv.1).2.2.1
        have m25 := n6 v (by omega) h7v
        have m7 : m 7 (rd 4 v) = tx (rd 4 v) := h1.2 _ lg.2.1 lg.2.2.1
        have e7 : m 7 (rd 4 (v : Int)) - 97 = rd 3 (v : Int) := by rw [m7]; exact lg.2.2.2
        have nm := (hM (rd 3 v) r3 lg.1).rng hP
        have x5 : ∀ k5, f_X4_strangeLetter_L2 lt rd k5 (f + 1) v = if rd 12 (rd 3 v) ≠ -1 then f_X4_strangeLetter_L2 lt rd k5 f ((v + 1 : Nat) : Int) else if lt 3 (rd 3 v) < 0 then some (rd 4 v) else f_X4_strangeLetter_L2 lt rd k5 f ((v + 1 : Nat) : Int) := fun k5 => by
          have r12 : -1 ≤ rd 12 (rd 3 v) ∧ rd 12 (rd 3 v) ≤ 120 := by
            rcases h8 (rd 3 v) r3 lg.1 with a | a <;> omega
          rw [f_X4_strangeLetter_L2, ck1_of (by omega) (by omega), n1, ck1_of (by omega) (by omega), if_neg (by omega), ckA_of (by omega) (by omega), h7v, ck1_of (by omega) (by omega), if_neg (by decide), ckA_of r3 lg.1, ck1_of (by omega) (by omega), ev1]
        have x6 : ∀ k6, f_X6_readsAll_L198 m k6 (g + 1) (l7 (rd 2) v) = if 0 ≤ m 23 (rd 3 v) then f_X6_readsAll_L198 m k6 g (l7 (rd 2) (v + 1)) else if m 0 (rd 3 v) ≠ 0 then f_X6_readsAll_L198 m k6 g (l7 (rd 2) (v + 1)) else some (rd 4 v, m) := fun k6 => by
          have r23 : -1 ≤ m 23 (rd 3 v) ∧ m 23 (rd 3 v) ≤ 120 := by
            rcases h8 (rd 3 v) r3 lg.1 with a | a <;> omega
          rw [f_X6_readsAll_L198, ck1_of (by omega) (by omega), n5, ck1_of (by omega) (by omega), if_neg (by omega), ckA_of (by omega) (by omega), m25, ckA_of (by omega) (by omega), e7, ckA_of r3 lg.1, ck1_of (by omega) (by omega), ck1_of (by omega) (by omega), el]
        have nx := ih (v + 1) g (by omega) (by omega) (by omega)
        rcases h8 (rd 3 v) r3 lg.1 with a | a
        · by_cases z : lt 3 (rd 3 v) < 0
          · refine Or.inl ⟨rd 4 v, lg.2.1, lg.2.2.1, fun k5 => ?_, fun k6 => ?_⟩
            · rw [x5, if_neg (fun h => h a.2.1), if_pos z]
            · rw [x6, if_neg (by omega), if_neg (fun h => h (nm.2.2.1.2 z))]
          · have y5 : ∀ k5, f_X4_strangeLetter_L2 lt rd k5 (f + 1) v = f_X4_strangeLetter_L2 lt rd k5 f ((v + 1 : Nat) : Int) := fun k5 => by rw [x5, if_neg (fun h => h a.2.1), if_neg z]
            have y6 : ∀ k6, f_X6_readsAll_L198 m k6 (g + 1) (l7 (rd 2) v) = f_X6_readsAll_L198 m k6 g (l7 (rd 2) (v + 1)) := fun k6 => by rw [x6, if_neg (by omega), if_pos (fun h => z (nm.2.2.1.1 h))]
            rcases nx with ⟨q, i1, i2, i3, i4⟩ | ⟨i1, i2, i3⟩
            · exact Or.inl ⟨q, i1, i2, fun k5 => by rw [y5]; exact i3 k5, fun k6 => by rw [y6]; exact i4 k6⟩
            · refine Or.inr ⟨fun k5 => by rw [y5]; exact i1 k5, fun k6 => by rw [y6]; exact i2 k6, fun u u0 u1 hu hw => ?_⟩
              by_cases eu : u = v
              · rw [eu]; omega
              · exact i3 u (by omega) u1 hu hw
        · have y5 : ∀ k5, f_X4_strangeLetter_L2 lt rd k5 (f + 1) v = f_X4_strangeLetter_L2 lt rd k5 f ((v + 1 : Nat) : Int) := fun k5 => by rw [x5, if_pos (by omega)]
          have y6 : ∀ k6, f_X6_readsAll_L198 m k6 (g + 1) (l7 (rd 2) v) = f_X6_readsAll_L198 m k6 g (l7 (rd 2) (v + 1)) := fun k6 => by rw [x6, if_pos (by omega)]
          rcases nx with ⟨q, i1, i2, i3, i4⟩ | ⟨i1, i2, i3⟩
          · exact Or.inl ⟨q, i1, i2, fun k5 => by rw [y5]; exact i3 k5, fun k6 => by rw [y6]; exact i4 k6⟩
          · refine Or.inr ⟨fun k5 => by rw [y5]; exact i1 k5, fun k6 => by rw [y6]; exact i2 k6, fun u u0 u1 hu hw => ?_⟩
            by_cases eu : u = v
            · rw [eu] at hw; omega
            · exact i3 u (by omega) u1 hu hw
      · rw [if_neg h7v, Int.add_zero] at el
        have y5 : ∀ k5, f_X4_strangeLetter_L2 lt rd k5 (f + 1) v = f_X4_strangeLetter_L2 lt rd k5 f ((v + 1 : Nat) : Int) := fun k5 => by
          rw [f_X4_strangeLetter_L2, ck1_of (by omega) (by omega), n1, ck1_of (by omega) (by omega), if_neg (by omega), ckA_of (by omega) (by omega), ck1_of (by omega) (by omega), if_pos h7v, ev1]
        rcases ih (v + 1) (g + 1) (by omega) (by omega) (by omega) with ⟨q, i1, i2, i3, i4⟩ | ⟨i1, i2, i3⟩
        · rw [el] at i4
          exact Or.inl ⟨q, i1, i2, fun k5 => by rw [y5]; exact i3 k5, i4⟩
        · rw [el] at i2
          refine Or.inr ⟨fun k5 => by rw [y5]; exact i1 k5, i2, fun u u0 u1 hu hw => ?_⟩
          by_cases eu : u = v
          · rw [eu] at hu; exact absurd hu h7v
          · exact i3 u (by omega) u1 hu hw
