/-- a graph of the pool is given to the name x -/
theorem give_h {N : Nat} (hN : 4000 ≤ N) {T : Int} {lt b m m1 : Bd} {P : PL} {S : Int → Prop} {cnt root2 res : Int} (h : RR T lt b m P) (p0 : 0 ≤ res) (p1 : res < (P.length : Int)) (hm : ∀ s : Nat, s < 9 → m1 s = m s) (hS : MS m1 S cnt) (hr : S root2) (hE : Eqv (GP (gP P res)) 0 (MG (m1 9)) root2) {x : Int} (x0 : 0 ≤ x) (x1 : x < 8) : ∃ v lt' m', f_X5_give N lt P x res = some (v, lt') ∧ f_X6_gives N m1 root2 x = some (v, m') ∧ inR v ∧ RR (T + 1) lt' b m' P := by
  obtain ⟨g, m2, e2, f2, w17, hMM⟩ := makes_of hN hS hr
  have fr : ∀ s : Nat, s < 9 → m2 s = m s := fun s hs => by rw [f2 s (by omega)]; exact hm s hs
  unfold f_X5_give f_X6_gives
  rw [e2, bn_some]
  dsimp only
  have hRR : RR T lt b m2 P := h.frame (fun _ _ _ => rfl) rfl fr
  rcases hMM with ⟨g0, g1, C, hC, hCE, hCw⟩ | ⟨g41, hBig⟩
  · have hG := h.2.2.2.2.2.1 res p0 p1
    have hu := hC.unique hG.1 (hCE.trans hE.symm)
    obtain ⟨h1, h2, h3, hM, hV, hP, hB⟩ := id hRR
    have hP2 : POK P := hP
    have hM' : RName lt m2 P := hM
    have hV' : RVer lt m2 P := hV
    obtain ⟨l', m3, k1, k2, lf, mf, hV3⟩ := keep_of hN hP2 hV' hM'
    rw [if_neg (by omega), k1, bn_some, ck1_of (by omega) (by omega), if_pos g1, k2, bn_some, ckA_of x0 x1, ckN_of (by omega), ckG_of (by omega) (by omega)]
    have q17 : m3 17 0 = g := by rw [mf 17 (by decide) (by decide) (by decide)]; exact w17
    obtain ⟨m4, a1, a2, a3⟩ := g23 q17 (by omega) g1 x0 x1 (fun (m_23 : Bd) => ckA x 8 <| some (m_23 17 0, (bS m_23 0 (aS (m_23 0) x (m_23 17 0))))) N 0 m3 (by omega) (by omega) (by omega) (fun _ _ => rfl) (fun j => by rw [if_neg (by omega)])
    rw [a3]
    try dsimp only
    rw [ckA_of x0 x1]
    have r17 : m4 17 0 = g := by rw [a1 17 (by decide)]; exact q17
    rw [r17]
    refine ⟨g, _, _, by rw [← hu.1], rfl, ⟨by omega, by omega⟩, ?_, ?_, ?_, ?_, ?_, hP2, hB⟩
    · unfold RText; rw [bS_ne _ _ (by decide), bS_ne _ _ (by decide), bS_ne _ _ (by decide), bS_ne _ _ (by decide), lf 0 (by decide) (by decide) (by decide), lf 1 (by decide) (by decide) (by decide), a1 7 (by decide), a1 8 (by decide), mf 7 (by decide) (by decide) (by decide), mf 8 (by decide) (by decide) (by decide)]; exact h1
    · unfold RKind; rw [bS_ne _ _ (by decide), bS_ne _ _ (by decide), lf 2 (by decide) (by decide) (by decide), a1 6 (by decide), mf 6 (by decide) (by decide) (by decide)]; exact h2
    · unfold RCnt; rw [bS_ne _ _ (by decide), bS_ne _ _ (by decide), bS_ne _ _ (by decide), bS_ne _ _ (by decide), lf 8 (by decide) (by decide) (by decide), lf 9 (by decide) (by decide) (by decide), lf 10 (by decide) (by decide) (by decide), a1 5 (by decide), mf 5 (by decide) (by decide) (by decide)]; exact hRR.up.2.2.1
    · intro a a0 a8
      rw [bS_eq, bS_eq, bS_ne _ _ (by decide), lf 3 (by decide) (by decide) (by decide), a1 0 (by decide), mf 0 (by decide) (by decide) (by decide)]
      by_cases c : a = x
      · rw [c, aS_eq, aS_eq]
        refine Or.inr ⟨by omega, by omega, hu.1, fun v v0 v1 => ?_⟩
        rw [a2, if_pos (by omega), show 40 * x + v - 40 * x = v by omega, mf 16 (by decide) (by decide) (by decide), hCw v v0 v1, hu.2 v v0 v1 0 (by omega) (by omega), hu.2 v v0 v1 1 (by omega) (by omega), hu.2 v v0 v1 2 (by omega) (by omega)]
      · rw [aS_ne _ _ c, aS_ne _ _ c]
        refine (hM' a a0 a8).cong rfl rfl (fun v v0 v1 => ?_) hP2
        rw [a2, if_neg (by omega), mf 1 (by decide) (by decide) (by decide)]
    · unfold RVer
      rw [bS_ne _ _ (by decide), bS_ne _ _ (by decide), bS_ne _ _ (by decide), bS_ne _ _ (by decide), bS_ne _ _ (by decide), bS_ne _ _ (by decide), a1 2 (by decide), a1 3 (by decide), a1 4 (by decide)]
      exact hV3
  · have hG := h.2.2.2.2.2.1 res p0 p1
    exact absurd (hBig.eqv hE.symm) (hG.1.small hG.2)
theorem copy_step {N : Nat} (hN : 4000 ≤ N) {T : Int} {lt b m : Bd} {P : PL} (h : RR T lt b m P) {x t : Int} (hx : inR x) (ht : inR t) : Step1 T b P (f_X5_copy N lt P x t) (f_X6_copy N m x t) := by
  unfold f_X5_copy f_X6_copy
  rcases nm_of h.2.2.2.1 h.2.2.2.2.2.1 hx with ⟨e1, e2⟩ | ⟨g, e1, e2, n⟩
  · simp (disch := omega) only [e1, e2, ↓bn_some, ↓jn_eq, ↓ck1_of, ↓if_pos, ↓if_neg]
    exact bad1 h
  · obtain ⟨a0, a1, p0, p1, gg, -, -⟩ := id n
    rcases names_of ht with ⟨t0, t1, e5, e6⟩ | ⟨_, e5, e6⟩
    · have s := n.sz
      obtain ⟨b1, m1, k1, k2, k3, k4, k5, k6, C, D⟩ := one_bench hN (b := b) n
      have hE := (D.eqv gg (v := 0) (by omega) (by omega)).symm
      rw [show (0 : Int) + 0 = 0 by omega] at hE
      obtain ⟨v, lt', m', w1, w2, w3, w4⟩ := give_h hN h p0 p1 k4 (D.ms gg k6) (root2 := 0) ⟨by omega, by omega⟩ hE t0 t1
      simp (disch := omega) only [e1, e2, e5, e6, ↓bn_some, ↓jn_eq, ↓ck1_of, ↓if_pos, ↓if_neg, k2, w1, w2]
      exact ⟨v, lt', m', rfl, rfl, w3, w4⟩
    · simp (disch := omega) only [e1, e2, e5, e6, ↓bn_some, ↓jn_eq, ↓ck1_of, ↓if_pos, ↓if_neg]
      exact bad1 h
/-! draw -/
def DB (b1 m1 : Bd) (n i : Int) : Prop := ∀ v, 0 ≤ v → v < i → PW (m1 9 v) ∧ (∀ j, 0 ≤ j → j < 3 → BG b1 v j = MG (m1 9) v j) ∧ 0 ≤ BG b1 v 0 ∧ BG b1 v 0 ≤ 6 ∧ 0 ≤ BG b1 v 1 ∧ BG b1 v 1 < n ∧ 0 ≤ BG b1 v 2 ∧ BG b1 v 2 < n
theorem draw_loop {n : Int} (n0 : 1 ≤ n) (n1 : n ≤ 12) {b m : Bd} (t : Int) : ∀ (f : Nat) (i X : Int) (b1 m1 : Bd), n - i < f → 0 ≤ i → i ≤ n → 0 ≤ X → X < 2147483648 → (∀ s : Nat, 4 ≤ s → b1 s = b s) → (∀ s : Nat, s ≠ 9 → s ≠ 10 → m1 s = m s) → b1 3 0 = i → m1 10 0 = i → DB b1 m1 n i → ∃ b' m', (∀ s : Nat, 4 ≤ s → b' s = b s) ∧ (∀ s : Nat, s ≠ 9 → s ≠ 10 → m' s = m s) ∧ b' 3 0 = n ∧ m' 10 0 = n ∧ DB b' m' n n ∧ (∀ k, f_X0_drawn_L17 n k f X i b1 = k b') ∧ (∀ k, f_X6_draw_L46 n t k f X i m1 = k m') := by
  intro f
  induction f with
  | zero => intro i X b1 m1 h0 _ h2; omega
  | succ f ih =>
    intro i X b1 m1 h0 i0 i1 X0 X1 hf hg h3 h10 hD
    by_cases hx : n ≤ i
    · have e : i = n := by omega
      refine ⟨b1, m1, hf, hg, by omega, by omega, by rw [e] at hD; exact hD, fun k => ?_, fun k => ?_⟩
      · simp (disch := omega) only [f_X0_drawn_L17, ↓ck1_of, ↓if_pos]
      · simp (disch := omega) only [f_X6_draw_L46, ↓ck1_of, ↓if_pos]
    · obtain ⟨Y, hY, Y0, Y1⟩ : ∃ Y, Int.tmod (X * 1103515245 + 12345) 2147483648 = Y ∧ 0 ≤ Y ∧ Y < 2147483648 := ⟨_, rfl, Int.tmod_nonneg _ (by omega), Int.tmod_lt_of_pos _ (by decide)⟩
      obtain ⟨D1, hD1, D10, D11⟩ : ∃ D, Int.tdiv Y 65536 = D ∧ 0 ≤ D ∧ D < 2147483648 := ⟨_, rfl, by rw [Int.tdiv_eq_ediv_of_nonneg Y0]; omega, by rw [Int.tdiv_eq_ediv_of_nonneg Y0]; omega⟩
      obtain ⟨D2, hD2, D20, D21⟩ : ∃ D, Int.tdiv Y 1024 = D ∧ 0 ≤ D ∧ D < 2147483648 := ⟨_, rfl, by rw [Int.tdiv_eq_ediv_of_nonneg Y0]; omega, by rw [Int.tdiv_eq_ediv_of_nonneg Y0]; omega⟩
      obtain ⟨D3, hD3, D30, D31⟩ : ∃ D, Int.tdiv Y 32768 = D ∧ 0 ≤ D ∧ D < 2147483648 := ⟨_, rfl, by rw [Int.tdiv_eq_ediv_of_nonneg Y0]; omega, by rw [Int.tdiv_eq_ediv_of_nonneg Y0]; omega⟩
      obtain ⟨hd, hhd, hd0, hd1⟩ : ∃ D, Int.tmod D1 7 = D ∧ 0 ≤ D ∧ D < 7 := ⟨_, rfl, Int.tmod_nonneg _ D10, Int.tmod_lt_of_pos _ (by decide)⟩
      obtain ⟨p, hp, p0, p1⟩ : ∃ D, Int.tmod D2 n = D ∧ 0 ≤ D ∧ D < n := ⟨_, rfl, Int.tmod_nonneg _ D20, Int.tmod_lt_of_pos _ (by omega)⟩
      obtain ⟨q, hq, q0, q1⟩ : ∃ D, Int.tmod D3 n = D ∧ 0 ≤ D ∧ D < n := ⟨_, rfl, Int.tmod_nonneg _ D30, Int.tmod_lt_of_pos _ (by omega)⟩
      obtain ⟨b2, a1, a2, a3, a4, a5, a6, a7⟩ := put_of (b := b1) (h := hd) (x := p) (y := q) h3 (by omega) (by omega) (by omega) (by omega) (by omega) (by omega) (by omega) (by omega)
      obtain ⟨m2, v1, v2, v3, v4, v5, v6, v7, v8⟩ := adds_of (m := m1) (h := hd) (x := p) (y := q) h10 (by omega) (by omega) (by omega) (by omega) (by omega) (by omega) (by omega) (by omega)
      obtain ⟨b', m', k1, k2, k3, k4, k5, k6, k7⟩ := ih (i + 1) Y b2 m2 (by omega) (by omega) (by omega) Y0 Y1 (fun s hs => by rw [a2 s hs]; exact hf s hs) (fun s s1 s2 => by rw [v2 s s1 s2]; exact hg s s1 s2) (by omega) (by omega) (fun v w0 w1 => by
        by_cases e : v = i
        · subst e
          refine ⟨v4, fun j j0 j1 => ?_, by omega, by omega, by omega, by omega, by omega, by omega⟩
          have hj : j = 0 ∨ j = 1 ∨ j = 2 := by omega
          rcases hj with rfl | rfl | rfl
          · rw [a4, v5]
          · rw [a5, v6]
          · rw [a6, v7]
        · have d := hD v w0 (by omega)
          have e8 := v8 v e
          rw [a7 v 0 e, a7 v 1 e, a7 v 2 e, e8]
          exact ⟨d.1, fun j j0 j1 => by rw [a7 v j e, MG_same e8]; exact d.2.1 j j0 j1, d.2.2⟩)
      refine ⟨b', m', k1, k2, k3, k4, k5, fun k => ?_, fun k => ?_⟩
      · rw [f_X0_drawn_L17]
        simp only [hY, hD1, hD2, hD3, hhd, hp, hq]
        simp (disch := omega) only [↓ck1_of, ↓ckL_of, ↓ckZ_of, ↓if_neg, a1, ↓bn_some]
        exact k6 k
      · rw [f_X6_draw_L46]
        simp only [hY, hD1, hD2, hD3, hhd, hp, hq]
        simp (disch := omega) only [↓ck1_of, ↓ckL_of, ↓ckZ_of, ↓if_neg, v1, ↓bn_some]
        exact k7 k
theorem draw_step {N : Nat} (hN : 4000 ≤ N) {T : Int} {lt b m : Bd} {P : PL} (h : RR T lt b m P) {x y t : Int} (hx : inR x) (hy : inR y) (ht : inR t) : Step2 T (f_X5_draw N lt b P x y t) (f_X6_draw N m x y t) := by
  unfold f_X5_draw f_X6_draw
  have ix := in_of (v := x) (l := 0) (h := 999999) hx (by decide) (by decide)
  have iy := in_of (v := y) (l := 1) (h := 12) hy (by decide) (by decide)
  obtain ⟨y0, y1⟩ := hy
  obtain ⟨x0, x1⟩ := hx
  by_cases cx : 0 ≤ x ∧ x ≤ 999999
  · rw [if_pos cx] at ix
    by_cases cy : 1 ≤ y ∧ y ≤ 12
    · rw [if_pos cy] at iy
      rcases names_of ht with ⟨t0, t1, e5, e6⟩ | ⟨_, e5, e6⟩
      · obtain ⟨b1, m1, k1, k2, k3, k4, k5, k6, k7⟩ := draw_loop cy.1 cy.2 (b := bs0 b 3 0) (m := bs0 m 10 0) t N 0 x (bs0 b 3 0) (bs0 m 10 0) (by omega) (by omega) (by omega) (by omega) (by omega) (fun _ _ => rfl) (fun _ _ _ => rfl) (bs0_eq _ _ _ _) (bs0_eq _ _ _ _) (fun v v0 v1 => by omega)
        have hW : WG (BG b1) y := fun v v0 v1 => by
          have d := k5 v v0 v1
          have har := ar_le (BG b1 v 0)
          exact ⟨d.2.2.1, d.2.2.2.1, fun i i0 i1 => two (Q := fun j => 0 ≤ BG b1 v j ∧ BG b1 v j < y) ⟨d.2.2.2.2.1, d.2.2.2.2.2.1⟩ ⟨d.2.2.2.2.2.2.1, d.2.2.2.2.2.2.2⟩ i0 (by omega)⟩
        have hS : MS m1 (fun v => 0 ≤ v ∧ v < y) y := by
          refine ⟨k4, by omega, by omega, fun v vv => ?_⟩
          have v0 := vv.1
          have v1 := vv.2
          have d := k5 v v0 v1
          have har := ar_le (MG (m1 9) v 0)
          have d0 := d.2.1 0 (by omega) (by omega)
          have d1 := d.2.1 1 (by omega) (by omega)
          have d2 := d.2.1 2 (by omega) (by omega)
          exact ⟨v0, v1, d.1, by omega, fun i i0 i1 => two (Q := fun j => 0 ≤ MG (m1 9) v j ∧ MG (m1 9) v j < y) (by omega) (by omega) i0 (by omega)⟩
        have hE : Eqv (BG b1) 0 (MG (m1 9)) 0 := same_eqv hW (fun v j v0 v1 j0 j1 => (k5 v v0 v1).2.1 j j0 j1) (by omega) (by omega)
        obtain ⟨v, lt', b', P', m', res, w1, w2, w3, w4, w5⟩ := mk_of hN h ⟨k3, by omega, by omega, hW⟩ (root := 0) (by omega) (by omega) (by rw [k1 8 (by decide), bs0_ne _ _ (by decide)]) (fun s hs => by rw [k2 s (by omega) (by omega), bs0_ne _ _ (by omega)]) hS (root2 := 0) ⟨by omega, by omega⟩ hE t0 t1
        simp (disch := omega) only [ix, iy, e5, e6, ↓bn_some, ↓jn_eq, ↓ck1_of, ↓if_pos, ↓if_neg, f_X0_drawn, f_X0_start, k6, k7, w1, w2, w3]
        exact ⟨v, lt', b', P', m', rfl, rfl, w4, w5⟩
      · simp (disch := omega) only [ix, iy, e5, e6, ↓bn_some, ↓jn_eq, ↓ck1_of, ↓if_pos, ↓if_neg]
        exact bad2 h
    · rw [if_neg cy] at iy
      by_cases c : y < 1
      · simp (disch := omega) only [ix, iy, ↓bn_some, ↓jn_eq, ↓ck1_of, ↓if_pos, ↓if_neg]
        exact bad2 h
      · simp (disch := omega) only [ix, iy, ↓bn_some, ↓jn_eq, ↓ck1_of, ↓if_pos, ↓if_neg]
        exact bad2 h
  · rw [if_neg cx] at ix
    by_cases c : x < 0
    · simp (disch := omega) only [ix, ↓bn_some, ↓jn_eq, ↓ck1_of, ↓if_pos, ↓if_neg]
      exact bad2 h
    · simp (disch := omega) only [ix, ↓bn_some, ↓jn_eq, ↓ck1_of, ↓if_pos, ↓if_neg]
      exact bad2 h
