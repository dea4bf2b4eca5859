/-! read: the fault on both sides -/
section
variable {N : Nat} {lt : Bd} {tx : Int → Int} {len : Int} {rd m : Bd} {c e : Int}
theorem RS.e8 (hR : RS tx len rd m len c e) : 0 ≤ e ∧ e ≤ 8 := by
  have := tl_rng (rd 13) 8
  have := hR.2.2.2.1.2.2.1
  omega
theorem empty5 (hN : 4000 ≤ N) (hR : RS tx len rd m len c e) (c120 : c ≤ 120) : ∀ (f i : Nat), e < f + i → (i : Int) ≤ e → (∀ j, 0 ≤ j → j < (i : Int) → ¬Bk rd (rd 10 j)) → (∃ j, 0 ≤ j ∧ j < e ∧ Bk rd (rd 10 j) ∧ (∀ j', 0 ≤ j' → j' < j → ¬Bk rd (rd 10 j')) ∧ ∀ k, f_X4_emptyLetter_L2 N rd k f i = some (rd 13 (rd 10 j))) ∨ ((∀ j, 0 ≤ j → j < e → ¬Bk rd (rd 10 j)) ∧ ∀ k, f_X4_emptyLetter_L2 N rd k f i = k) := by
  have e8 := hR.e8
  have h4 : rd 11 0 = e := hR.2.2.2.1.1
  have h9 := hR.2.2.2.2.2.1
  intro f
  induction f with
  | zero => intro i h0 h1; omega
  | succ f ih =>
    intro i h0 h1 h2
    by_cases hend : (i : Int) = e
    · refine Or.inr ⟨fun j j0 j1 => h2 j j0 (by omega), fun k => ?_⟩
      rw [f_X4_emptyLetter_L2, ck1_of (by omega) (by omega), h4, ck1_of (by omega) (by omega), if_pos (by omega)]
    · have l := h9 i (by omega) (by omega)
      generalize hlet : rd 10 (i : Int) = u at l
      obtain ⟨y, y1, y2, y3, y4⟩ := walk5 (x1 := (i : Int)) hR c120 l.1 l.2.1 N 0 (by omega) (by omega)
      have pre : ∀ k, f_X4_emptyLetter_L2 N rd k (f + 1) i = if y ≠ u then f_X4_emptyLetter_L2 N rd k f ((i : Int) + 1) else some (rd 13 u) := fun k => by
        rw [f_X4_emptyLetter_L2, ck1_of (by omega) (by omega), h4, ck1_of (by omega) (by omega), if_neg (by omega), ckA_of (by omega) (by omega), hlet, behind_of hR c120 l.1 l.2.1, bn_some]
        have w := y1 (fun (x3_26 : Int) => ck1 x3_26 <| ck1 u <| if x3_26 ≠ u then f_X4_emptyLetter_L2 N rd k f ((i : Int) + 1) else ckA u 8 <| some (rd 13 u))
        refine Eq.trans w ?_
        rw [ck1_of (by omega) (by omega), ck1_of (by omega) (by omega)]
        by_cases z : y = u
        · rw [if_neg (fun h => h z), if_neg (fun h => h z), ckA_of l.1 l.2.1]
        · rw [if_pos z, if_pos z]
      by_cases z : y = u
      · refine Or.inl ⟨i, by omega, by omega, ?_, h2, fun k => ?_⟩
        · rw [hlet]
          obtain ⟨n, a, b, g⟩ := y4.1 z
          by_cases n9 : n = 9
          · rw [n9] at g; exact nine hR l.1 l.2.1 g
          · exact ⟨n, by omega, by omega, g⟩
        · rw [pre, if_neg (fun h => h z), hlet]
      · have nb : ¬Bk rd u := fun ⟨n, a, b, g⟩ => z (y4.2 ⟨n, by omega, by omega, g⟩)
        rcases ih (i + 1) (by omega) (by omega) (fun j j0 j1 => by
          by_cases ej : j = i
          · rw [ej, hlet]; exact nb
          · exact h2 j j0 (by omega)) with ⟨j, j0, j1, j2, j3, j4⟩ | ⟨j1, j2⟩
        · exact Or.inl ⟨j, j0, j1, j2, j3, fun k => by rw [pre, if_pos z]; exact j4 k⟩
        · exact Or.inr ⟨j1, fun k => by rw [pre, if_pos z]; exact j2 k⟩
/-- the least place so far -/
def Ml (rd : Bd) (l x : Int) : Prop := (x = -1 ∧ ∀ u, 0 ≤ u → u < l → rd 13 u ≠ -1 → ¬Bk rd u) ∨ (∃ u, 0 ≤ u ∧ u < l ∧ rd 13 u ≠ -1 ∧ Bk rd u ∧ x = rd 13 u ∧ ∀ v, 0 ≤ v → v < l → rd 13 v ≠ -1 → Bk rd v → rd 13 u ≤ rd 13 v)
theorem Ml.skip {l x : Int} (h : Ml rd l x) (hn : rd 13 l = -1 ∨ ¬Bk rd l) : Ml rd (l + 1) x := by
  rcases h with ⟨a, b⟩ | ⟨u, a, b, d, g, i, j⟩
  · refine Or.inl ⟨a, fun u u0 u1 hu => ?_⟩
    by_cases e : u = l
    · rcases hn with h | h
      · rw [e] at hu; exact absurd h hu
      · rw [e]; exact h
    · exact b u u0 (by omega) hu
  · refine Or.inr ⟨u, a, by omega, d, g, i, fun v v0 v1 hv hb => ?_⟩
    by_cases e : v = l
    · rcases hn with h | h
      · rw [e] at hv; exact absurd h hv
      · rw [e] at hb; exact absurd hb h
    · exact j v v0 (by omega) hv hb
theorem empty6 (hN : 4000 ≤ N) (hl : len ≤ 120) (hR : RS tx len rd m len c e) (c120 : c ≤ 120) (k : Int → Option (Int × Bd)) : ∀ (f : Nat) (l x : Int), 8 - l < f → 0 ≤ l → l ≤ 8 → -1 ≤ x → x ≤ 120 → Ml rd l x → ∃ y, Ml rd 8 y ∧ -1 ≤ y ∧ y ≤ 120 ∧ f_X6_readsAll_L256 N m k f x l = k y := by
  have h8 := hR.2.2.2.2.1
  intro f
  induction f with
  | zero => intro l x h0 _ h2; omega
  | succ f ih =>
    intro l x h0 l0 l1 x0 x1 hM
    by_cases hend : l = 8
    · refine ⟨x, by rw [← hend]; exact hM, x0, x1, ?_⟩
      rw [f_X6_readsAll_L256, ck1_of (by omega) (by omega), if_pos (by omega)]
    · have r := h8 l l0 (by omega)
      rcases r with a | ⟨a1, a2, a3, a4, a5, a6⟩
      · obtain ⟨y, y1, y2, y3, y4⟩ := ih (l + 1) x (by omega) (by omega) (by omega) x0 x1 (hM.skip (Or.inl a.1))
        refine ⟨y, y1, y2, y3, ?_⟩
        rw [f_X6_readsAll_L256, ck1_of (by omega) (by omega), if_neg (by omega), ckA_of l0 (by omega), ck1_of (by omega) (by omega), if_pos (by omega)]
        exact y4
      · obtain ⟨z, z1, z2, z3⟩ := walk6 hR c120 l0 (by omega) N 0 (by omega) (by omega) l0
        have hcb : f_X6_comesBack N m l = some z := z1
        have bk : z = 1 ↔ Bk rd l := z3
        have pre : f_X6_readsAll_L256 N m k (f + 1) x l = if z = 0 then f_X6_readsAll_L256 N m k f x (l + 1) else (jn (f_X6_readsAll_L256 N m k f (rd 13 l) (l + 1)) fun j294 => ck1 x <| if x = (-1) then j294 else ck1 (rd 13 l) <| if x ≤ (rd 13 l) then f_X6_readsAll_L256 N m k f x (l + 1) else j294) := by
          rw [f_X6_readsAll_L256, ck1_of (by omega) (by omega), if_neg (by omega), ckA_of l0 (by omega), ck1_of (by omega) (by omega), if_neg (by omega), hcb, bn_some, ck1_of (by omega) (by omega), a3]
        by_cases hz : z = 0
        · obtain ⟨y, y1, y2, y3, y4⟩ := ih (l + 1) x (by omega) (by omega) (by omega) x0 x1 (hM.skip (Or.inr (fun h => by have := bk.2 h; omega)))
          exact ⟨y, y1, y2, y3, by rw [pre, if_pos hz]; exact y4⟩
        · have hb : Bk rd l := bk.1 (by omega)
          by_cases c1 : x = -1
          · obtain ⟨y, y1, y2, y3, y4⟩ := ih (l + 1) (rd 13 l) (by omega) (by omega) (by omega) (by omega) (by omega) (by
              refine Or.inr ⟨l, l0, by omega, by omega, hb, rfl, fun v v0 v1 hv hbv => ?_⟩
              by_cases ev : v = l
              · rw [ev]; exact Int.le_refl _
              · rcases hM with ⟨_, q⟩ | ⟨u, q1, q2, q3, q4, q5, q6⟩
                · exact absurd hbv (q v v0 (by omega) hv)
                · have := h8 u q1 (by omega); omega)
            exact ⟨y, y1, y2, y3, by rw [pre, if_neg hz, jn_eq, ck1_of (by omega) (by omega), if_pos c1]; exact y4⟩
          · rcases hM with ⟨q, _⟩ | ⟨u, q1, q2, q3, q4, q5, q6⟩
            · exact absurd q c1
            · by_cases c2 : x ≤ rd 13 l
              · obtain ⟨y, y1, y2, y3, y4⟩ := ih (l + 1) x (by omega) (by omega) (by omega) x0 x1 (by
                  refine Or.inr ⟨u, q1, by omega, q3, q4, q5, fun v v0 v1 hv hbv => ?_⟩
                  by_cases ev : v = l
                  · rw [ev]; omega
                  · exact q6 v v0 (by omega) hv hbv)
                exact ⟨y, y1, y2, y3, by rw [pre, if_neg hz, jn_eq, ck1_of (by omega) (by omega), if_neg c1, ck1_of (by omega) (by omega), if_pos c2]; exact y4⟩
              · obtain ⟨y, y1, y2, y3, y4⟩ := ih (l + 1) (rd 13 l) (by omega) (by omega) (by omega) (by omega) (by omega) (by
                  refine Or.inr ⟨l, l0, by omega, by omega, hb, rfl, fun v v0 v1 hv hbv => ?_⟩
                  by_cases ev : v = l
                  · rw [ev]; exact Int.le_refl _
                  · have := q6 v v0 (by omega) hv hbv; omega)
                exact ⟨y, y1, y2, y3, by rw [pre, if_neg hz, jn_eq, ck1_of (by omega) (by omega), if_neg c1, ck1_of (by omega) (by omega), if_neg c2]; exact y4⟩
/-- both find the same letter -/
theorem same_least (hR : RS tx len rd m len c e) {y j : Int} (hM : Ml rd 8 y) (j0 : 0 ≤ j) (j1 : j < e) (hb : Bk rd (rd 10 j)) (hf : ∀ j', 0 ≤ j' → j' < j → ¬Bk rd (rd 10 j')) : y = rd 13 (rd 10 j) := by
  have h9 := hR.2.2.2.2.2.1
  have h10 := hR.2.2.2.2.2.2.1
  have h11 := hR.2.2.2.2.2.2.2
  have l := h9 j j0 j1
  rcases hM with ⟨_, q⟩ | ⟨u, q1, q2, q3, q4, q5, q6⟩
  · exact absurd hb (q _ l.1 l.2.1 l.2.2)
  · obtain ⟨i, i0, i1, i2⟩ := h11 u q1 q2 q3
    have a := q6 _ l.1 l.2.1 l.2.2 hb
    by_cases ij : i = j
    · rw [q5, ← i2, ij]
    · by_cases ij2 : i < j
      · rw [← i2] at q4; exact absurd q4 (hf i i0 ij2)
      · have := h10 j i j0 (by omega) i1
        rw [i2] at this
        omega
theorem none_least (hR : RS tx len rd m len c e) {y : Int} (hM : Ml rd 8 y) (hf : ∀ j, 0 ≤ j → j < e → ¬Bk rd (rd 10 j)) : y = -1 ∧ ∀ u, 0 ≤ u → u < 8 → rd 13 u ≠ -1 → ¬Bk rd u := by
  have h11 := hR.2.2.2.2.2.2.2
  have nn : ∀ u, 0 ≤ u → u < 8 → rd 13 u ≠ -1 → ¬Bk rd u := fun u u0 u1 hu => by
    obtain ⟨i, i0, i1, i2⟩ := h11 u u0 u1 hu
    rw [← i2]; exact hf i i0 i1
  rcases hM with ⟨q, _⟩ | ⟨u, q1, q2, q3, q4, q5, q6⟩
  · exact ⟨q, nn⟩
  · exact absurd q4 (nn u q1 q2 q3)
end
