/-! fillRow, reachFrom -/
theorem fill_loop (ni x3 x2 : Int) (hn : x3 ≤ ni) (hni : ni ≤ 2147483647) (h3 : 0 ≤ x3) : ∀ (n : Nat) (x4 : Int) (row : Int → Int), x3 - x4 < n → 0 ≤ x4 → x4 ≤ x3 → ∃ row', f_X5_fillRow_L10 ni x3 x2 n x4 row = some row' ∧ (∀ j, x4 ≤ j → j < x3 → row' j = x2) ∧ (∀ j, j < x4 ∨ x3 ≤ j → row' j = row j) := by
  intro n
  induction n with
  | zero => intro x4 row h0 _ h2; omega
  | succ n ih =>
    intro x4 row h0 h1 h2
    rw [f_X5_fillRow_L10, ck1_of (by omega) (by omega), ck1_of (by omega) (by omega)]
    by_cases hx : x3 ≤ x4
    · rw [if_pos hx]
      exact ⟨row, rfl, fun j _ _ => by omega, fun j _ => rfl⟩
    · rw [if_neg hx, ckA_of (by omega) (by omega)]
      obtain ⟨row', e1, e2, e3⟩ := ih (x4 + 1) (aS row x4 x2) (by omega) (by omega) (by omega)
      refine ⟨row', e1, fun j j0 j1 => ?_, fun j hj => ?_⟩
      · by_cases h : j = x4
        · subst h; rw [e3 j (by omega), aS_eq]
        · exact e2 j (by omega) j1
      · rw [e3 j (by omega), aS_ne _ _ (by omega)]
theorem fill_of {N : Nat} {row : Int → Int} {ni x1 x2 : Int} (h1 : 0 ≤ x1) (h2 : x1 ≤ ni) (h3 : ni ≤ 2147483647) (hN : x1 < N) : ∃ row', f_X5_fillRow N row ni x1 x2 = some row' ∧ (∀ j, 0 ≤ j → j < x1 → row' j = x2) ∧ (∀ j, j < 0 ∨ x1 ≤ j → row' j = row j) := by
  unfold f_X5_fillRow
  rw [ck1_of (by omega) (by omega), ck1_of (by omega) (by omega), show min x1 ni = x1 by omega]
  exact fill_loop ni x1 x2 h2 h3 h1 N 0 row (by omega) (by omega) (by omega)
/-- no more than cnt nodes below cnt are apart -/
theorem few {r : Int → Int} {n cnt : Int} (h0 : 0 ≤ cnt) (hr : ∀ j, 0 ≤ j → j < n → 0 ≤ r j ∧ r j < cnt) (hi : ∀ j k, 0 ≤ j → j < n → 0 ≤ k → k < n → r j = r k → j = k) : n ≤ cnt := by
  rcases Int.lt_or_le cnt n with h | h
  · exfalso
    obtain ⟨a, b, ab, b1, e⟩ := pig cnt.toNat (fun a => r a) (fun a ha => by
      have := hr a (by omega) (by omega)
      exact ⟨this.1, by show r a < (cnt.toNat : Int); omega⟩)
    have := hi a b (by omega) (by omega) (by omega) (by omega) e
    omega
  · exact h
/-- the bench holds a graph of cnt nodes -/
def BW (b : Bd) (cnt : Int) : Prop := b 3 0 = cnt ∧ 1 ≤ cnt ∧ cnt ≤ 3280 ∧ WG (BG b) cnt
/-- what is reached so far -/
def RI (b b1 : Bd) (cnt root n u i : Int) : Prop :=
  (∀ s : Nat, s ≠ 4 → s ≠ 5 → b1 s = b s) ∧ BI (BG b) (b1 4) n u i ∧ b1 4 0 = root ∧ (∀ j, 0 ≤ j → j < n → 0 ≤ b1 4 j ∧ b1 4 j < cnt) ∧
  (∀ v, 0 ≤ v → v < cnt → (b1 5 v = 0 ∧ ∀ j, 0 ≤ j → j < n → b1 4 j ≠ v) ∨ (b1 5 v = 1 ∧ ∃ j, 0 ≤ j ∧ j < n ∧ b1 4 j = v))
theorem reach_in {b : Bd} {cnt root : Int} (hb : BW b cnt) (u : Int) (u0 : 0 ≤ u) (v : Int) (k : Int → Bd → Option (Int × Bd)) : ∀ (m : Nat) (n i : Int) (b1 : Bd), ar (BG b v 0) - i < m → 0 ≤ i → i ≤ ar (BG b v 0) → u < n → b1 4 u = v → RI b b1 cnt root n u i →
    ∃ n' b', RI b b' cnt root n' u (ar (BG b v 0)) ∧ u < n' ∧ b' 4 u = v ∧ f_X0_reachFrom_L58 u v (ar (BG b v 0)) k m n i b1 = k n' b' := by
  have har := ar_le (BG b v 0)
  intro m
  induction m with
  | zero => intro n i b1 h0 _ h2 _ _ _; omega
  | succ m ih =>
    intro n i b1 hm i0 i1 un hv hR
    obtain ⟨hfr, hB, h00, hin, hseen⟩ := id hR
    have hn := few (by have := hb.2.1; omega) hin hB.2.1
    have hc := hb.2.2.1
    rw [f_X0_reachFrom_L58, ck1_of (by omega) (by omega), ck1_of (by omega) (by omega)]
    by_cases hx : ar (BG b v 0) ≤ i
    · have e : i = ar (BG b v 0) := by omega
      subst e
      rw [if_pos (Int.le_refl _)]
      exact ⟨n, b1, hR, un, hv, rfl⟩
    · have hvr := hin u u0 un
      rw [hv] at hvr
      have eB : BG b1 = BG b := BG_same (hfr 0 (by decide) (by decide)) (hfr 1 (by decide) (by decide)) (hfr 2 (by decide) (by decide))
      have hp := (hb.2.2.2 v hvr.1 hvr.2).2.2 i i0 (by omega)
      rw [if_neg hx, linked_of (by omega) (by omega) i0 (by omega), bn_some, eB, ckA_of hp.1 (by omega)]
      rcases hseen _ hp.1 hp.2 with ⟨z, hnew⟩ | ⟨z, p, p0, p1, hp2⟩
      · rw [z, ck1_of (by omega) (by omega), if_neg (by omega), ck1_of (by omega) (by omega)]
        have hB' : BI (BG b) (aS (b1 4) n (BG b v (1 + i))) (n + 1) u (i + 1) := hB.new u0 un (by rw [hv]) hnew i0 (by rw [hv]; omega)
        have old : ∀ p, p < n → aS (b1 4) n (BG b v (1 + i)) p = b1 4 p := fun p hp => aS_ne _ _ (by omega)
        have hin' : ∀ j, 0 ≤ j → j < n + 1 → 0 ≤ aS (b1 4) n (BG b v (1 + i)) j ∧ aS (b1 4) n (BG b v (1 + i)) j < cnt := by
          intro j j0 j1
          by_cases hj : j = n
          · subst hj; rw [aS_eq]; exact hp
          · rw [old j (by omega)]; exact hin j j0 (by omega)
        have hn' := few (by have := hb.2.1; omega) hin' hB'.2.1
        rw [if_neg (by omega), ckA_of (by omega) (by omega)]
        generalize hb2 : bS (bS b1 4 (aS (b1 4) n (BG b v (1 + i)))) 5 (aS (b1 5) (BG b v (1 + i)) 1) = b2
        have w4 : b2 4 = aS (b1 4) n (BG b v (1 + i)) := by rw [← hb2, bS_ne _ _ (by decide), bS_eq]
        have w5 : b2 5 = aS (b1 5) (BG b v (1 + i)) 1 := by rw [← hb2, bS_eq]
        have S' : RI b b2 cnt root (n + 1) u (i + 1) := by
          refine ⟨fun s s4 s5 => by rw [← hb2, bS_ne _ _ s5, bS_ne _ _ s4]; exact hfr s s4 s5, by rw [w4]; exact hB', by rw [w4, old 0 (by omega)]; exact h00, by rw [w4]; exact hin', fun x x0 x1 => ?_⟩
          rw [w4, w5]
          by_cases hxv : x = BG b v (1 + i)
          · right
            rw [hxv, aS_eq]
            exact ⟨rfl, n, by omega, by omega, aS_eq _ _ _⟩
          · rw [aS_ne _ _ hxv]
            rcases hseen x x0 x1 with ⟨y, hy⟩ | ⟨y, q, q0, q1, q2⟩
            · left
              refine ⟨y, fun j j0 j1 => ?_⟩
              by_cases hj : j = n
              · subst hj; rw [aS_eq]; exact fun e => hxv e.symm
              · rw [old j (by omega)]; exact hy j j0 (by omega)
            · right
              exact ⟨y, q, q0, by omega, by rw [old q q1]; exact q2⟩
        exact ih (n + 1) (i + 1) b2 (by omega) (by omega) (by omega) (by omega) (by rw [w4, old u un]; exact hv) S'
      · rw [z, ck1_of (by omega) (by omega), if_pos (by omega)]
        refine ih n (i + 1) b1 (by omega) (by omega) (by omega) un hv ⟨hfr, hB.old p0 p1 (by rw [hv]; exact hp2.symm) i0 (by omega), h00, hin, hseen⟩
theorem reach_out {N : Nat} (hN : 4000 ≤ N) {b : Bd} {cnt root : Int} (hb : BW b cnt) (k : Int → Bd → Option (Int × Bd)) : ∀ (m : Nat) (n u : Int) (b1 : Bd), cnt - u < m → 0 ≤ u → u ≤ n → RI b b1 cnt root n u 0 →
    ∃ n' b', RI b b' cnt root n' n' 0 ∧ f_X0_reachFrom_L30 N k m n u b1 = k n' b' := by
  intro m
  induction m with
  | zero =>
    intro n u b1 h0 u0 un hR
    have := few (by have := hb.2.1; omega) hR.2.2.2.1 hR.2.1.2.1
    omega
  | succ m ih =>
    intro n u b1 hm u0 un hR
    obtain ⟨hfr, hB, h00, hin, hseen⟩ := id hR
    have hn := few (by have := hb.2.1; omega) hin hB.2.1
    have hc := hb.2.2.1
    rw [f_X0_reachFrom_L30, ck1_of (by omega) (by omega), ck1_of (by omega) (by omega)]
    by_cases hx : n ≤ u
    · have e : u = n := by omega
      subst e
      rw [if_pos (Int.le_refl _)]
      exact ⟨u, b1, hR, rfl⟩
    · have hv := hin u u0 (by omega)
      have hw := hb.2.2.2 _ hv.1 hv.2
      have har := ar_le (BG b (b1 4 u) 0)
      rw [if_neg hx, ckA_of u0 (by omega), ckA_of hv.1 (by omega), hfr 0 (by decide) (by decide)]
      have e : b 0 (b1 4 u) = BG b (b1 4 u) 0 := rfl
      rw [e, partsOf_ar hw.1 hw.2.1, bn_some]
      obtain ⟨n', b', hR', un', hv', e'⟩ := reach_in hb u u0 (b1 4 u) (fun (x2_58 : Int) (b_58 : Bd) => f_X0_reachFrom_L30 N k m x2_58 (u + 1) b_58) N n 0 b1 (by omega) (by omega) (by omega) (by omega) rfl hR
      rw [e']
      have S' : RI b b' cnt root n' (u + 1) 0 := ⟨hR'.1, hR'.2.1.next (by rw [hv']; exact Int.le_refl _) (by omega) (by omega), hR'.2.2⟩
      exact ih n' (u + 1) b' (by omega) (by omega) (by omega) S'
/-- reachFrom: the places in line make the graph of what is reached -/
theorem reach_of {N : Nat} (hN : 4000 ≤ N) {b : Bd} {cnt root : Int} (hb : BW b cnt) (r0 : 0 ≤ root) (r1 : root < cnt) : ∃ n b', f_X0_reachFrom N b root = some (n, b') ∧ RI b b' cnt root n n 0 := by
  have hc := hb.2.2.1
  have hc1 := hb.2.1
  unfold f_X0_reachFrom
  obtain ⟨row, e1, e2, e3⟩ := fill_of (N := N) (row := b 5) (ni := 3280) (x1 := b 3 0) (x2 := 0) (by rw [hb.1]; omega) (by rw [hb.1]; omega) (by omega) (by rw [hb.1]; omega)
  rw [hb.1] at e2 e3
  rw [e1, bn_some, ckA_of r0 (by omega)]
  generalize hb2 : bS (bS b 4 (aS (b 4) 0 root)) 5 (aS row root 1) = b2
  have w4 : b2 4 = aS (b 4) 0 root := by rw [← hb2, bS_ne _ _ (by decide), bS_eq]
  have w5 : b2 5 = aS row root 1 := by rw [← hb2, bS_eq]
  have S0 : RI b b2 cnt root 1 0 0 := by
    refine ⟨fun s s4 s5 => by rw [← hb2, bS_ne _ _ s5, bS_ne _ _ s4], BI.init _ _, by rw [w4, aS_eq], fun j j0 j1 => ?_, fun v v0 v1 => ?_⟩
    · have : j = 0 := by omega
      subst this
      rw [w4, aS_eq]; exact ⟨r0, r1⟩
    · rw [w4, w5]
      by_cases hv : v = root
      · right; rw [hv, aS_eq]; exact ⟨rfl, 0, by omega, by omega, aS_eq _ _ _⟩
      · left
        rw [aS_ne _ _ hv]
        refine ⟨e2 v v0 v1, fun j j0 j1 => ?_⟩
        have : j = 0 := by omega
        subst this
        rw [aS_eq]; exact fun e => hv e.symm
  obtain ⟨n', b', hR, e⟩ := reach_out hN hb (fun (x2_30 : Int) (b_30 : Bd) => some (x2_30, b_30)) N 1 0 b2 (by omega) (by omega) (by omega) S0
  exact ⟨n', b', e, hR⟩
