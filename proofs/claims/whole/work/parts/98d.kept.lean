/-! read: the reference makes every letter with an equation -/
theorem meant_cong {m m1 : Bd} (e9 : m1 9 = m 9) (e23 : m1 23 = m 23) (N : Nat) (x : Int) : f_X6_meant N m1 x = f_X6_meant N m x := by
  have g : ∀ (f : Nat) (x : Int) (k : Int → Option Int), f_X6_meant_L2 m1 k f x = f_X6_meant_L2 m k f x := by
    intro f
    induction f with
    | zero => intro x k; rw [f_X6_meant_L2, f_X6_meant_L2]
    | succ f ih =>
      intro x k
      rw [f_X6_meant_L2, f_X6_meant_L2, e9, e23]
      simp only [ih]
  unfold f_X6_meant
  exact g _ _ _
theorem l266_lock {m : Bd} {g x2 l : Int} (h17 : m 17 0 = g) (g1 : g ≤ 40) (l0 : 0 ≤ l) (l1 : l < 8) : ∀ (f : Nat) (i : Int) (m1 : Bd), g - i < f → 0 ≤ i → i ≤ g → (∀ s : Nat, s ≠ 31 → m1 s = m s) → (∀ j, m1 31 j = if 40 * l ≤ j ∧ j < 40 * l + i then m 16 (j - 40 * l) else m 31 j) → ∃ m', (∀ k, f_X6_read_L266 x2 l k f i m1 = k m') ∧ (∀ s : Nat, s ≠ 31 → m' s = m s) ∧ ∀ j, m' 31 j = if 40 * l ≤ j ∧ j < 40 * l + g then m 16 (j - 40 * l) else m 31 j := by
  intro f
  induction f with
  | zero => intro i m1 h0 _ h2; omega
  | succ f ih =>
    intro i m1 h0 i0 i1 hf hd
    by_cases hend : i = g
    · subst hend
      exact ⟨m1, fun k => by rw [f_X6_read_L266, ck1_of (by omega) (by omega), hf 17 (by decide), h17, ck1_of (by omega) (by omega), if_pos (Int.le_refl _)], hf, hd⟩
    · obtain ⟨m', j1, j2, j3⟩ := ih (i + 1) (bS m1 31 (aS (m1 31) (40 * l + i) (m1 16 i))) (by omega) (by omega) (by omega) (fun s hs => by rw [bS_ne _ _ hs]; exact hf s hs) (fun j => by
        rw [bS_eq, hf 16 (by decide)]
        by_cases ej : j = 40 * l + i
        · rw [ej, aS_eq, if_pos (by omega), show 40 * l + i - 40 * l = i by omega]
        · rw [aS_ne _ _ ej, hd j]
          by_cases c : 40 * l ≤ j ∧ j < 40 * l + i
          · rw [if_pos c, if_pos (by omega)]
          · rw [if_neg c, if_neg (by omega)])
      refine ⟨m', fun k => ?_, j2, j3⟩
      rw [f_X6_read_L266, ck1_of (by omega) (by omega), hf 17 (by decide), h17, ck1_of (by omega) (by omega), if_neg (by omega), ckA_of i0 (by omega), ckA_of (by omega) (by omega)]
      exact j1 k
/-- what is made of a letter, held in 31 and 32 -/
def Kp (m : Bd) (G : GG) (root l : Int) : Prop := 1 ≤ m 32 l ∧ m 32 l ≤ 40 ∧ ∃ C : GG, Can C (m 32 l) ∧ Eqv C 0 G root ∧ ∀ c, 0 ≤ c → c < m 32 l → m 31 (40 * l + c) = pk (C c 0) (C c 1) (C c 2)
theorem l219_lock {N : Nat} (hN : 4000 ≤ N) {m2 : Bd} {S : Int → Prop} {cnt : Int} {y : Nat} {D : Int → Prop} {rt : Int → Int} (hS : MS m2 S cnt) (hbit : ∀ l, 0 ≤ l → l < 8 → (D l → i_and (i_shr (y : Int) l) 1 = 1) ∧ (¬D l → i_and (i_shr (y : Int) l) 1 = 0)) (hrt : ∀ l, 0 ≤ l → l < 8 → D l → f_X6_meant N m2 (m2 23 l) = some (rt l) ∧ S (rt l)) : ∀ (f : Nat) (l : Int) (m1 : Bd), 8 - l < f → 0 ≤ l → l ≤ 8 → (∀ s : Nat, (s < 11 ∨ 17 < s) → s ≠ 31 → s ≠ 32 → m1 s = m2 s) → (∀ u, 0 ≤ u → u < l → D u → Kp m1 (MG (m2 9)) (rt u) u) → (∃ u m', 0 ≤ u ∧ u < 8 ∧ D u ∧ Big (MG (m2 9)) (rt u) ∧ (∀ s : Nat, s < 9 → m' s = m2 s) ∧ ∀ k, f_X6_read_L219 N (y : Int) k f l m1 = bn (f_X6_refuses m' (-4)) fun q => some (q.1, q.2)) ∨ (∃ m', (∀ s : Nat, (s < 11 ∨ 17 < s) → s ≠ 31 → s ≠ 32 → m' s = m2 s) ∧ (∀ u, 0 ≤ u → u < 8 → D u → Kp m' (MG (m2 9)) (rt u) u) ∧ ∀ k, f_X6_read_L219 N (y : Int) k f l m1 = k m') := by
  intro f
  induction f with
  | zero => intro l m1 h0 _ h2; omega
  | succ f ih =>
    intro l m1 h0 l0 l1 hf hK
    by_cases hend : l = 8
    · refine Or.inr ⟨m1, hf, fun u u0 u1 => hK u u0 (by omega), fun k => ?_⟩
      rw [f_X6_read_L219, ck1_of (by omega) (by omega), if_pos (by omega)]
    · by_cases hD : D l
      · have bt := (hbit l l0 (by omega)).1 hD
        have r := hrt l l0 (by omega) hD
        have e9 : m1 9 = m2 9 := hf 9 (by omega) (by decide) (by decide)
        have e23 : m1 23 = m2 23 := hf 23 (by omega) (by decide) (by decide)
        have e10 : m1 10 = m2 10 := hf 10 (by omega) (by decide) (by decide)
        have hS1 : MS m1 S cnt := by
          unfold MS at hS ⊢
          rw [e9, e10]
          exact hS
        obtain ⟨g, m3, k1, k2, k3, k4⟩ := makes_of hN hS1 r.2
        rw [e9] at k4
        have f3 : ∀ s : Nat, (s < 11 ∨ 17 < s) → s ≠ 31 → s ≠ 32 → m3 s = m2 s := fun s hs s31 s32 => by rw [k2 s hs, hf s hs s31 s32]
        rcases k4 with ⟨g0, g1, C, hC, hE, hw⟩ | ⟨g41, hB⟩
        · obtain ⟨m4, j1, j2, j3⟩ := l266_lock (x2 := (y : Int)) k3 g1 l0 (by omega) N 0 m3 (by omega) (by decide) (by omega) (fun _ _ => rfl) (fun j => by rw [if_neg (by omega)])
          have pre : ∀ k, f_X6_read_L219 N (y : Int) k (f + 1) l m1 = f_X6_read_L219 N (y : Int) k f (l + 1) (bS m4 32 (aS (m4 32) l (m4 17 0))) := fun k => by
            rw [f_X6_read_L219, ck1_of (by omega) (by omega), if_neg (by omega), bt, ck1_of (by decide) (by decide), if_neg (by decide), ckA_of l0 (by omega), meant_cong e9 e23, e23, r.1, bn_some, k1, bn_some, ck1_of (by omega) (by omega), if_pos g1, j1]
          have e17 : m4 17 0 = g := by rw [j2 17 (by decide)]; exact k3
          have nx := ih (l + 1) (bS m4 32 (aS (m4 32) l (m4 17 0))) (by omega) (by omega) (by omega) (fun s hs s31 s32 => by rw [bS_ne _ _ s32, j2 s s31, f3 s hs s31 s32]) (fun u u0 u1 hu => by
            unfold Kp
            rw [bS_eq, bS_ne _ _ (show (31 : Nat) ≠ 32 by decide), e17]
            by_cases eu : u = l
            · rw [eu, aS_eq]
              exact ⟨g0, g1, C, hC, hE, fun c c0 c1 => by rw [j3, if_pos (by omega), show 40 * l + c - 40 * l = c by omega]; exact hw c c0 c1⟩
            · rw [aS_ne _ _ eu, j2 32 (by decide), k2 32 (by omega)]
              have q := hK u u0 (by omega) hu
              obtain ⟨q1, q2, C', q3, q4, q5⟩ := q
              exact ⟨q1, q2, C', q3, q4, fun c c0 c1 => by rw [j3, if_neg (by omega), k2 31 (by omega)]; exact q5 c c0 c1⟩)
          rcases nx with ⟨u, m', a1, a2, a3, a4, a5, a6⟩ | ⟨m', a1, a2, a3⟩
          · exact Or.inl ⟨u, m', a1, a2, a3, a4, a5, fun k => by rw [pre]; exact a6 k⟩
          · exact Or.inr ⟨m', a1, a2, fun k => by rw [pre]; exact a3 k⟩
        · refine Or.inl ⟨l, m3, l0, by omega, hD, hB, fun s hs => f3 s (by omega) (by omega) (by omega), fun k => ?_⟩
          rw [f_X6_read_L219, ck1_of (by omega) (by omega), if_neg (by omega), bt, ck1_of (by decide) (by decide), if_neg (by decide), ckA_of l0 (by omega), meant_cong e9 e23, e23, r.1, bn_some, k1, bn_some, ck1_of (by omega) (by omega), if_neg (by omega)]
      · have bt := (hbit l l0 (by omega)).2 hD
        have pre : ∀ k, f_X6_read_L219 N (y : Int) k (f + 1) l m1 = f_X6_read_L219 N (y : Int) k f (l + 1) m1 := fun k => by
          rw [f_X6_read_L219, ck1_of (by omega) (by omega), if_neg (by omega), bt, ck1_of (by decide) (by decide), if_pos (by decide)]
        rcases ih (l + 1) m1 (by omega) (by omega) (by omega) hf (fun u u0 u1 hu => by
          by_cases eu : u = l
          · rw [eu] at hu; exact absurd hu hD
          · exact hK u u0 (by omega) hu) with ⟨u, m', a1, a2, a3, a4, a5, a6⟩ | ⟨m', a1, a2, a3⟩
        · exact Or.inl ⟨u, m', a1, a2, a3, a4, a5, fun k => by rw [pre]; exact a6 k⟩
        · exact Or.inr ⟨m', a1, a2, fun k => by rw [pre]; exact a3 k⟩
