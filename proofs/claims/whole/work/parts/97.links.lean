/-! read: the nodes of the text linked on both sides -/
theorem l114_lock {N : Nat} (hN : 4000 ≤ N) {rF rd b0 : Bd} {F : Int → Int} {c : Int} (c0 : 0 ≤ c) (c120 : c ≤ 120) (e5 : rF 5 0 = c) (e2 : rF 2 = rd 2) (e3 : rF 3 = rd 3) (e4 : rF 4 = rd 4) (h2 : ∀ u, 0 ≤ u → u < c → 0 ≤ rd 2 u ∧ rd 2 u ≤ 7) (h14 : ∀ u, 0 ≤ u → u < c → rd 2 u ≠ 7 → 0 ≤ rF 14 u ∧ rF 14 u < 3280) (inj : ∀ u u', 0 ≤ u → u < u' → u' < c → rd 2 u ≠ 7 → rd 2 u' ≠ 7 → rF 14 u < rF 14 u') (hc : ∀ u i, 0 ≤ u → u < c → rd 2 u ≠ 7 → 0 ≤ i → i < ar (rd 2 u) → 0 ≤ ct rd u i ∧ ct rd u i < c) (hF : ∀ x, 0 ≤ x → x < c → f_X4_standsFor N rF x = some (F x) ∧ 0 ≤ F x ∧ F x < 3280) : ∀ (f : Nat) (v : Int) (b : Bd), c - v < f → 0 ≤ v → v ≤ c → (∀ s : Nat, s ≠ 1 → s ≠ 2 → b s = b0 s) → (∀ w j, 0 ≤ j → j < 3 → (j = 0 ∨ ∀ u, 0 ≤ u → u < v → rd 2 u ≠ 7 → rF 14 u ≠ w) → BG b w j = BG b0 w j) → (∀ u i, 0 ≤ u → u < v → rd 2 u ≠ 7 → 0 ≤ i → i < ar (rd 2 u) → BG b (rF 14 u) (1 + i) = F (ct rd u i)) → ∃ b2, (∀ k, f_X4_layOut_L114 N rF k f v b = k b2) ∧ (∀ s : Nat, s ≠ 1 → s ≠ 2 → b2 s = b0 s) ∧ (∀ w j, 0 ≤ j → j < 3 → (j = 0 ∨ ∀ u, 0 ≤ u → u < c → rd 2 u ≠ 7 → rF 14 u ≠ w) → BG b2 w j = BG b0 w j) ∧ ∀ u i, 0 ≤ u → u < c → rd 2 u ≠ 7 → 0 ≤ i → i < ar (rd 2 u) → BG b2 (rF 14 u) (1 + i) = F (ct rd u i) := by
  intro f
  induction f with
  | zero => intro v b h0 _ h2; omega
  | succ f ih =>
    intro v b h0 v0 v1 q1 q2 q3
    by_cases hend : v = c
    · subst hend
      exact ⟨b, fun k => by rw [f_X4_layOut_L114, ck1_of (by omega) (by omega), e5, ck1_of (by omega) (by omega), if_pos (Int.le_refl _)], q1, q2, q3⟩
    · have hv := h2 v v0 (by omega)
      by_cases h7 : rd 2 v = 7
      · obtain ⟨b2, i1, i2, i3, i4⟩ := ih (v + 1) b (by omega) (by omega) (by omega) q1 (fun w j j0 j1 hw => q2 w j j0 j1 (by
            rcases hw with h | h
            · exact Or.inl h
            · exact Or.inr (fun u u0 u1 hu => h u u0 (by omega) hu))) (fun u i u0 u1 hu i0 i1 => by
            have e : u ≠ v := fun e => hu (by rw [e]; exact h7)
            exact q3 u i u0 (by omega) hu i0 i1)
        refine ⟨b2, fun k => ?_, i2, i3, i4⟩
        obtain ⟨f0, hf0⟩ : ∃ f0, N = f0 + 1 := ⟨N - 1, by omega⟩
        have z : f_X4_layOut_L151 N rF v 0 (fun (b_151 : Bd) => f_X4_layOut_L114 N rF k f (v + 1) b_151) N 0 b = k b2 := by
          have z1 : ∀ n : Nat, f_X4_layOut_L151 N rF v 0 (fun (b_151 : Bd) => f_X4_layOut_L114 N rF k f (v + 1) b_151) (n + 1) 0 b = k b2 := fun n => by
            rw [f_X4_layOut_L151, ck1_of (by decide) (by decide), ck1_of (by decide) (by decide), if_pos (by decide)]
            exact i1 k
          have z2 := z1 f0
          rw [← hf0] at z2
          exact z2
        rw [f_X4_layOut_L114, ck1_of (by omega) (by omega), e5, ck1_of (by omega) (by omega), if_neg (by omega), ckA_of v0 (by omega), jn_eq, e2, ck1_of (by omega) (by omega), if_neg (fun h => h h7)]
        exact z
      · have a := ar_le (rd 2 v)
        have o := h14 v v0 (by omega) h7
        obtain ⟨b1, j1, j2, j3, j4⟩ := l151_lock (N := N) (rF := rF) (rd := rd) (F := F) (a := ar (rd 2 v)) (o := rF 14 v) c120 v0 (by omega) e3 e4 o.1 o.2 rfl a.1 a.2 (fun i i0 i1 => hc v i v0 (by omega) h7 i0 i1) hF b N 0 b (by omega) (by decide) a.1 (fun _ _ _ => rfl) (fun _ _ _ _ _ => rfl) (fun j j0 j1 => by omega)
        have dif : ∀ u, 0 ≤ u → u < v → rd 2 u ≠ 7 → rF 14 u ≠ rF 14 v := fun u u0 u1 hu => by
          have := inj u v u0 u1 (by omega) hu h7
          omega
        obtain ⟨b2, i1, i2, i3, i4⟩ := ih (v + 1) b1 (by omega) (by omega) (by omega) (fun s s1 s2 => by rw [j2 s s1 s2, q1 s s1 s2]) (fun w j w0 w1 hw => by
            rw [j3 w j w0 w1 (by
              rcases hw with h | h
              · exact Or.inr (Or.inl h)
              · exact Or.inl (fun e => h v v0 (by omega) h7 e.symm))]
            exact q2 w j w0 w1 (by
              rcases hw with h | h
              · exact Or.inl h
              · exact Or.inr (fun u u0 u1 hu => h u u0 (by omega) hu))) (fun u i u0 u1 hu i0 i1 => by
            by_cases e : u = v
            · rw [e] at i1 ⊢
              exact j4 i i0 i1
            · have au := ar_le (rd 2 u)
              rw [j3 (rF 14 u) (1 + i) (by omega) (by omega) (Or.inl (dif u u0 (by omega) hu))]
              exact q3 u i u0 (by omega) hu i0 i1)
        refine ⟨b2, fun k => ?_, i2, i3, i4⟩
        rw [f_X4_layOut_L114, ck1_of (by omega) (by omega), e5, ck1_of (by omega) (by omega), if_neg (by omega), ckA_of v0 (by omega), jn_eq, e2, ck1_of (by omega) (by omega), if_pos h7, partsOf_ar hv.1 (by omega), bn_some]
        dsimp only
        rw [j1]
        exact i1 k
theorem l117_lock {N : Nat} {rd m : Bd} {G : Int → Int} {c x2 : Int} (c0 : 0 ≤ c) (c120 : c ≤ 120) (h2 : ∀ u, 0 ≤ u → u < c → 0 ≤ rd 2 u ∧ rd 2 u ≤ 7) (hc : ∀ u i, 0 ≤ u → u < c → rd 2 u ≠ 7 → 0 ≤ i → i < ar (rd 2 u) → 0 ≤ ct rd u i ∧ ct rd u i < c) (hm : ∀ u i, 0 ≤ u → u < c → rd 2 u ≠ 7 → 0 ≤ i → i < ar (rd 2 u) → MG (m 9) u (1 + i) = ct rd u i) (hH0 : MH rd m c) (hG : ∀ m1 : Bd, (∀ s : Nat, s ≠ 9 → m1 s = m s) → MH rd m1 c → (∀ w, c ≤ w → m1 9 w = m 9 w) → ∀ x, 0 ≤ x → x < c → f_X6_meant N m1 x = some (G x) ∧ 0 ≤ G x ∧ G x < 3400) : ∀ (f : Nat) (v : Int) (m1 : Bd), c - v < f → 0 ≤ v → v ≤ c → (∀ s : Nat, s ≠ 9 → m1 s = m s) → MH rd m1 c → (∀ w, v ≤ w → m1 9 w = m 9 w) → (∀ u i, 0 ≤ u → u < v → rd 2 u ≠ 7 → 0 ≤ i → i < ar (rd 2 u) → MG (m1 9) u (1 + i) = G (ct rd u i)) → ∃ m2, (∀ k, f_X6_read_L117 N x2 c k f v m1 = k m2) ∧ (∀ s : Nat, s ≠ 9 → m2 s = m s) ∧ MH rd m2 c ∧ (∀ w, c ≤ w → m2 9 w = m 9 w) ∧ ∀ u i, 0 ≤ u → u < c → rd 2 u ≠ 7 → 0 ≤ i → i < ar (rd 2 u) → MG (m2 9) u (1 + i) = G (ct rd u i) := by
  intro f
  induction f with
  | zero => intro v m1 h0 _ h2; omega
  | succ f ih =>
    intro v m1 h0 v0 v1 q1 q2 q3 q4
    by_cases hend : v = c
    · subst hend
      exact ⟨m1, fun k => by rw [f_X6_read_L117, ck1_of (by omega) (by omega), ck1_of (by omega) (by omega), if_pos (Int.le_refl _)], q1, q2, q3, q4⟩
    · have hv := h2 v v0 (by omega)
      have nv := q2 v v0 (by omega)
      by_cases h7 : rd 2 v = 7
      · obtain ⟨m2, i1, i2, i3, i4, i5⟩ := ih (v + 1) m1 (by omega) (by omega) (by omega) q1 q2 (fun w w0 => q3 w (by omega)) (fun u i u0 u1 hu i0 i1 => by
            have e : u ≠ v := fun e => hu (by rw [e]; exact h7)
            exact q4 u i u0 (by omega) hu i0 i1)
        refine ⟨m2, fun k => ?_, i2, i3, i4, i5⟩
        rw [f_X6_read_L117, ck1_of (by omega) (by omega), ck1_of (by omega) (by omega), if_neg (by omega), ckA_of v0 (by omega), headOf_of nv.1, bn_some, nv.2.1, ck1_of (by omega) (by omega), if_pos h7]
        exact i1 k
      · have a := ar_le (rd 2 v)
        have hg := hG m1 q1 q2 (fun w w0 => q3 w (by omega))
        have part : ∀ i, 0 ≤ i → i < ar (rd 2 v) → f_X6_partOf (m1 9 v) i = some (ct rd v i) := fun i i0 i1 => by
          rw [partOf_of nv.1 i0 (by omega), MG_same (q3 v (Int.le_refl v)), hm v i v0 (by omega) h7 i0 i1]
        have ch : ∀ i, 0 ≤ i → i < ar (rd 2 v) → f_X6_meant N m1 (ct rd v i) = some (G (ct rd v i)) ∧ 0 ≤ G (ct rd v i) ∧ G (ct rd v i) < 3400 := fun i i0 i1 => by
          have hci := hc v i v0 (by omega) h7 i0 i1
          exact hg _ hci.1 hci.2
        -- the word that is written
        have wr : ∃ s3 s4 : Int, 0 ≤ s3 ∧ s3 < 4096 ∧ 0 ≤ s4 ∧ s4 < 4096 ∧ (0 < ar (rd 2 v) → s3 = G (ct rd v 0)) ∧ (1 < ar (rd 2 v) → s4 = G (ct rd v 1)) ∧ ∀ k, f_X6_read_L117 N x2 c k (f + 1) v m1 = f_X6_read_L117 N x2 c k f (v + 1) (bS m1 9 (aS (m1 9) v (pk (rd 2 v) s3 s4))) := by
          by_cases a0 : ar (rd 2 v) ≤ 0
          · refine ⟨0, 0, by decide, by decide, by decide, by decide, fun h => by omega, fun h => by omega, fun k => ?_⟩
            rw [f_X6_read_L117, ck1_of (by omega) (by omega), ck1_of (by omega) (by omega), if_neg (by omega), ckA_of v0 (by omega), headOf_of nv.1, bn_some, nv.2.1, ck1_of (by omega) (by omega), if_neg h7, parts_ar hv.1 (by omega), bn_some, jn_eq, ck1_of (by omega) (by omega), if_pos a0]
            try dsimp only
            rw [jn_eq, if_pos (show ar (rd 2 v) ≤ 1 by omega)]
            try dsimp only
            rw [ck1_of (by omega) (by omega), pk_node hv.1 (by omega) (by decide) (by decide) (by decide) (by decide), bn_some]
          · have c0 := ch 0 (by decide) (by omega)
            by_cases a1 : ar (rd 2 v) ≤ 1
            · refine ⟨G (ct rd v 0), 0, c0.2.1, by omega, by decide, by decide, fun _ => rfl, fun h => by omega, fun k => ?_⟩
              rw [f_X6_read_L117, ck1_of (by omega) (by omega), ck1_of (by omega) (by omega), if_neg (by omega), ckA_of v0 (by omega), headOf_of nv.1, bn_some, nv.2.1, ck1_of (by omega) (by omega), if_neg h7, parts_ar hv.1 (by omega), bn_some, jn_eq, ck1_of (by omega) (by omega), if_neg a0, part 0 (by decide) (by omega), bn_some, c0.1, bn_some]
              try dsimp only
              rw [jn_eq, if_pos a1]
              try dsimp only
              rw [ck1_of (by omega) (by omega), pk_node hv.1 (by omega) c0.2.1 (by omega) (by decide) (by decide), bn_some]
            · have c1 := ch 1 (by decide) (by omega)
              refine ⟨G (ct rd v 0), G (ct rd v 1), c0.2.1, by omega, c1.2.1, by omega, fun _ => rfl, fun _ => rfl, fun k => ?_⟩
              rw [f_X6_read_L117, ck1_of (by omega) (by omega), ck1_of (by omega) (by omega), if_neg (by omega), ckA_of v0 (by omega), headOf_of nv.1, bn_some, nv.2.1, ck1_of (by omega) (by omega), if_neg h7, parts_ar hv.1 (by omega), bn_some, jn_eq, ck1_of (by omega) (by omega), if_neg a0, part 0 (by decide) (by omega), bn_some, c0.1, bn_some]
              try dsimp only
              rw [jn_eq, if_neg a1, part 1 (by decide) (by omega), bn_some, c1.1, bn_some]
              try dsimp only
              rw [ck1_of (by omega) (by omega), pk_node hv.1 (by omega) c0.2.1 (by omega) c1.2.1 (by omega), bn_some]
        obtain ⟨s3, s4, s30, s31, s40, s41, w3, w4, wk⟩ := wr
        have mp := MG_pk (w := aS (m1 9) v (pk (rd 2 v) s3 s4)) (v := v) (aS_eq _ _ _) hv.1 (by omega) s30 s31 s40 s41
        have e9 : bS m1 9 (aS (m1 9) v (pk (rd 2 v) s3 s4)) 9 = aS (m1 9) v (pk (rd 2 v) s3 s4) := bS_eq _ _ _
        have same : ∀ u j, u ≠ v → MG (aS (m1 9) v (pk (rd 2 v) s3 s4)) u j = MG (m1 9) u j := fun u j hu => MG_same (aS_ne _ _ hu) j
        obtain ⟨m2, i1, i2, i3, i4, i5⟩ := ih (v + 1) (bS m1 9 (aS (m1 9) v (pk (rd 2 v) s3 s4))) (by omega) (by omega) (by omega) (fun s hs => by rw [bS_ne _ _ hs, q1 s hs]) (fun u u0 u1 => by
            rw [e9]
            by_cases e : u = v
            · subst e
              exact ⟨mp.1, mp.2.1, fun h => absurd h h7⟩
            · rw [same u 0 e, same u 1 e, aS_ne _ _ e]
              exact q2 u u0 u1) (fun w w0 => by rw [e9, aS_ne _ _ (by omega)]; exact q3 w (by omega)) (fun u i u0 u1 hu i0 i1 => by
            rw [e9]
            by_cases e : u = v
            · subst e
              have i2 : i = 0 ∨ i = 1 := by omega
              rcases i2 with rfl | rfl
              · rw [show (1 : Int) + 0 = 1 by decide, mp.2.2.1]
                exact w3 (by omega)
              · rw [show (1 : Int) + 1 = 2 by decide, mp.2.2.2]
                exact w4 (by omega)
            · rw [same u _ e]
              exact q4 u i u0 (by omega) hu i0 i1)
        exact ⟨m2, fun k => by rw [wk]; exact i1 k, i2, i3, i4, i5⟩
