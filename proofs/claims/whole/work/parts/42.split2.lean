/-! splitGroups, whole -/
theorem split2 (x1 x2 x3 : Int) (h40 : x2 ≤ 40) (k : Bd → Option (Int × Bd)) : ∀ (n : Nat) (x4 : Int) (b1 : Bd), x2 - x4 < n → 0 ≤ x4 → x4 ≤ x2 → (∀ w, 0 ≤ w → w < x2 → 0 ≤ b1 9 w ∧ b1 9 w < 11200) →
    ∃ b', (∀ s : Nat, s ≠ 8 → b' s = b1 s) ∧ (∀ s, b' 8 s = -1 ∨ (b' 8 s = b1 8 s ∧ ∀ w, x4 ≤ w → w < x2 → b1 9 w ≠ s)) ∧ f_X0_splitGroups_L98 x1 x2 x3 k n x4 b1 = k b' := by
  intro n
  induction n with
  | zero => intro x4 b1 h0 _ h2 _; omega
  | succ n ih =>
    intro x4 b1 hn h0 h1 h9
    rw [f_X0_splitGroups_L98, ck1_of (by omega) (by omega), ck1_of (by omega) (by omega)]
    by_cases hx : x2 ≤ x4
    · rw [if_pos hx]
      exact ⟨b1, fun _ _ => rfl, fun s => Or.inr ⟨rfl, fun w w0 w1 => by omega⟩, rfl⟩
    · have q := h9 x4 h0 (by omega)
      rw [if_neg hx, ckA_of (by omega) (by omega), ckA_of q.1 q.2]
      obtain ⟨b', e1, e2, e3⟩ := ih (x4 + 1) (bS b1 8 (aS (b1 8) (b1 9 x4) (-1))) (by omega) (by omega) (by omega) (by rw [bS_ne _ _ (by decide)]; exact h9)
      refine ⟨b', fun s hs => by rw [e1 s hs, bS_ne _ _ hs], fun s => ?_, e3⟩
      rcases e2 s with z | ⟨z, zw⟩
      · exact Or.inl z
      · rw [bS_eq] at z
        rw [bS_ne _ _ (by decide)] at zw
        by_cases hs : s = b1 9 x4
        · left; rw [z, hs, aS_eq]
        · right
          refine ⟨by rw [z, aS_ne _ _ hs], fun w w0 w1 => ?_⟩
          by_cases hw : w = x4
          · subst hw; exact fun e => hs e.symm
          · exact zw w (by omega) w1
theorem split3 (x1 x2 : Int) (r : Int → Int) (hx1 : x1 ≤ 3280) (hr : ∀ j, 0 ≤ j → j < x1 → 0 ≤ r j ∧ r j < 3280) (hi : ∀ j k, 0 ≤ j → j < x1 → 0 ≤ k → k < x1 → r j = r k → j = k) (k : Bd → Option (Int × Bd)) : ∀ (n : Nat) (x4 : Int) (b1 : Bd), x1 - x4 < n → 0 ≤ x4 → x4 ≤ x1 → b1 4 = r →
    ∃ b', (∀ s : Nat, s ≠ 6 → b' s = b1 s) ∧ (∀ j, x4 ≤ j → j < x1 → b' 6 (r j) = b1 7 (r j)) ∧ (∀ j, 0 ≤ j → j < x4 → b' 6 (r j) = b1 6 (r j)) ∧ f_X0_splitGroups_L133 x1 x2 k n x4 b1 = k b' := by
  intro n
  induction n with
  | zero => intro x4 b1 h0 _ h2 _; omega
  | succ n ih =>
    intro x4 b1 hn h0 h1 h4
    rw [f_X0_splitGroups_L133, ck1_of (by omega) (by omega), ck1_of (by omega) (by omega)]
    by_cases hx : x1 ≤ x4
    · rw [if_pos hx]
      exact ⟨b1, fun _ _ => rfl, fun j j0 j1 => by omega, fun j _ _ => rfl, rfl⟩
    · have q := hr x4 h0 (by omega)
      rw [if_neg hx, ckA_of (by omega) (by omega), h4, ckA_of q.1 q.2]
      obtain ⟨b', e1, e2, e3, e4⟩ := ih (x4 + 1) (bS b1 6 (aS (b1 6) (r x4) (b1 7 (r x4)))) (by omega) (by omega) (by omega) (by rw [bS_ne _ _ (by decide)]; exact h4)
      refine ⟨b', fun s hs => by rw [e1 s hs, bS_ne _ _ hs], fun j j0 j1 => ?_, fun j j0 j1 => ?_, e4⟩
      · by_cases hj : j = x4
        · subst hj
          rw [e3 j h0 (by omega), bS_eq, aS_eq]
        · rw [e2 j (by omega) j1, bS_ne _ _ (by decide)]
      · rw [e3 j j0 (by omega), bS_eq, aS_ne _ _ (fun e => by have := hi j x4 j0 (by omega) h0 (by omega) e; omega)]
/-- splitGroups: the signatures' classes, numbered as they come; or 41 signatures -/
theorem split_of {N : Nat} (hN : 4000 ≤ N) {b : Bd} {x1 : Int} (hL : Line b x1) (hl : Low b x1) (h8 : ∀ s, 0 ≤ s → s < 11200 → b 8 s = -1) :
    ∃ b', (∀ s : Nat, s ≠ 6 → s ≠ 7 → s ≠ 8 → s ≠ 9 → b' s = b s) ∧ (∀ s, 0 ≤ s → s < 11200 → b' 8 s = -1) ∧
      ((∃ g, f_X0_splitGroups N b x1 = some (g, b') ∧ 1 ≤ g ∧ g ≤ 40 ∧ FO (fun j => b' 6 (b 4 j)) x1 g ∧ ∀ j k, 0 ≤ j → j < x1 → 0 ≤ k → k < x1 → (b' 6 (b 4 j) = b' 6 (b 4 k) ↔ sg b (b 4 j) = sg b (b 4 k))) ∨
       (f_X0_splitGroups N b x1 = some (-4, b') ∧ Many b x1)) := by
  have hb := hL.2.1
  have h1 := hL.1
  have S0 : SI b b 0 0 := ⟨fun _ _ _ _ => rfl, by omega, by omega, by omega, fun j j0 j1 => by omega, fun w w0 w1 => by omega, fun j j0 j1 => by omega, fun s s0 s1 => Or.inl (h8 s s0 s1)⟩
  unfold f_X0_splitGroups
  rcases split1 b x1 hL hl _ N 0 0 b (by omega) (by omega) (by omega) S0 with ⟨g, b1, hS, e⟩ | ⟨b1, hfr, h9, h8', hM, e⟩
  · rw [e]
    obtain ⟨hfr, s1, s2, s2', s3, s4, s5, s6⟩ := hS
    have h9 : ∀ w, 0 ≤ w → w < g → 0 ≤ b1 9 w ∧ b1 9 w < 11200 := by
      intro w w0 w1
      obtain ⟨j, j0, j1, j2⟩ := s4 w w0 w1
      have := (s3 j j0 j1).2.2.2
      rw [j2] at this
      rw [this]
      exact (sig_of hL hl j0 j1).2
    obtain ⟨b2, f1, f2, f3⟩ := split2 x1 g 0 s2 (fun b_98 => ck1 0 (if (0 : Int) = 0 then f_X0_splitGroups_L133 x1 g (fun b_133 => some (g, b_133)) N 0 b_98 else some (-4, b_98))) N 0 b1 (by omega) (by omega) s1 h9
    rw [f3, ck1_of (by omega) (by omega), if_pos rfl]
    have e4 : b2 4 = b 4 := by rw [f1 4 (by decide)]; exact hfr 4 (by decide) (by decide) (by decide)
    obtain ⟨b3, g1, g2, g3, g4⟩ := split3 x1 g (b 4) hb (fun j j0 j1 => ⟨(hL.2.2.2 j j0 j1).1, (hL.2.2.2 j j0 j1).2.1⟩) hL.2.2.1 (fun b_133 => some (g, b_133)) N 0 b2 (by omega) (by omega) (by omega) e4
    have hc : ∀ j, 0 ≤ j → j < x1 → b3 6 (b 4 j) = b1 7 (b 4 j) := by
      intro j j0 j1
      rw [g2 j j0 j1, f1 7 (by decide)]
    refine ⟨b3, fun s t6 t7 t8 t9 => by rw [g1 s t6, f1 s t8, hfr s t7 t8 t9], fun s q0 q1 => ?_, Or.inl ⟨g, g4, ?_, s2, ?_, fun j k j0 j1 k0 k1 => ?_⟩⟩
    · rw [g1 8 (by decide)]
      rcases f2 s with z | ⟨z, zw⟩
      · exact z
      · rcases s6 s q0 q1 with y | ⟨w, w0, w1, hw⟩
        · rw [z]; exact y
        · exact absurd hw (zw w w0 w1)
    · have := (s3 0 (by omega) (by omega)).2.1
      have := (s3 0 (by omega) (by omega)).1
      omega
    · refine ⟨fun j j0 j1 => ?_, fun w w0 w1 => ?_, fun j j0 j1 w w0 w1 => ?_⟩
      · show 0 ≤ b3 6 (b 4 j) ∧ b3 6 (b 4 j) < g
        rw [hc j j0 j1]
        have := s3 j j0 j1
        exact ⟨this.1, this.2.1⟩
      · obtain ⟨j, j0, j1, j2⟩ := s4 w w0 w1
        exact ⟨j, j0, j1, (hc j j0 j1).trans j2⟩
      · have w1 : w < b3 6 (b 4 j) := w1
        rw [hc j j0 j1] at w1
        obtain ⟨k, k0, k1, k2⟩ := s5 j j0 j1 w w0 w1
        exact ⟨k, k0, k1, (hc k k0 (by omega)).trans k2⟩
    · rw [hc j j0 j1, hc k k0 k1]
      have a := s3 j j0 j1
      have c := s3 k k0 k1
      constructor
      · intro e; rw [← a.2.2.2, ← c.2.2.2, e]
      · intro e; rw [← a.2.2.1, ← c.2.2.1, e]
  · rw [e]
    obtain ⟨b2, f1, f2, f3⟩ := split2 x1 40 1 (by omega) (fun b_98 => ck1 1 (if (1 : Int) = 0 then f_X0_splitGroups_L133 x1 40 (fun b_133 => some (40, b_133)) N 0 b_98 else some (-4, b_98))) N 0 b1 (by omega) (by omega) (by omega) h9
    rw [f3, ck1_of (by omega) (by omega), if_neg (by omega)]
    refine ⟨b2, fun s t6 t7 t8 t9 => by rw [f1 s t8, hfr s t7 t8 t9], fun s q0 q1 => ?_, Or.inr ⟨rfl, hM⟩⟩
    rcases f2 s with z | ⟨z, zw⟩
    · exact z
    · rcases h8' s q0 q1 with y | ⟨w, w0, w1, hw⟩
      · rw [z]; exact y
      · exact absurd hw (zw w w0 w1)
