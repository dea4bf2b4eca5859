/-! deep, heads: the program's side, the calls -/
theorem cap_min (v : Int) : min 1000000 v = cap v := by unfold cap; split <;> omega
theorem th_sum {N : Nat} (hN : 20000 ≤ N) {P : PL} {ms1 : Bd} {g : Int} (p0 : 0 ≤ g) (p1 : g < (P.length : Int)) (gg : GOK (gP P g)) {u : Int} (u0 : 0 ≤ u) (u1 : u < (gP P g).1) (r : Int) (k : Int → Option (Int × Bd)) : f_X3_treeHeads_L55 ms1 P g r u (ar (GP (gP P g) u 0)) k N 1 0 = k (val 1 (ar (GP (gP P g) u 0)) (ms1 0 (GP (gP P g) u 1)) (ms1 0 (GP (gP P g) u 2))) := by
  have har := ar_le (GP (gP P g) u 0)
  have g40 := gg.2
  have rg := gg.node u0 u1
  have q0 := partAt_of (h := g) g40 u0 u1 (i := 0) (by omega) (by omega)
  have q1 := partAt_of (h := g) g40 u0 u1 (i := 0 + 1) (by omega) (by omega)
  rw [show (1 : Int) + 0 = 1 from rfl] at q0
  rw [show (1 : Int) + (0 + 1) = 2 from rfl] at q1
  obtain ⟨M, rfl⟩ : ∃ M, N = M + 3 := ⟨N - 3, by omega⟩
  unfold val
  rw [if_neg (by decide)]
  by_cases c0 : ar (GP (gP P g) u 0) ≤ 0
  · rw [f_X3_treeHeads_L55, ck1_of (by omega) (by omega), ck1_of (by omega) (by omega), if_pos c0, if_pos c0]
  · rw [f_X3_treeHeads_L55, ck1_of (by omega) (by omega), ck1_of (by omega) (by omega), if_neg c0, if_neg c0, ckG_of p0 p1, q0, bn_some, ckA_of (by omega) (by omega)]
    by_cases c1 : ar (GP (gP P g) u 0) ≤ 1
    · rw [f_X3_treeHeads_L55, ck1_of (by omega) (by omega), ck1_of (by omega) (by omega), if_pos (show ar (GP (gP P g) u 0) ≤ 0 + 1 by omega), if_pos c1]
    · rw [f_X3_treeHeads_L55, ck1_of (by omega) (by omega), ck1_of (by omega) (by omega), if_neg (show ¬ ar (GP (gP P g) u 0) ≤ 0 + 1 by omega), if_neg c1, ckG_of p0 p1, q1, bn_some, ckA_of (by omega) (by omega), f_X3_treeHeads_L55, ck1_of (by omega) (by omega), ck1_of (by omega) (by omega), if_pos (show ar (GP (gP P g) u 0) ≤ 0 + 1 + 1 by omega)]
def VS (X : Gr) (V : Int → Int) (t : Nat) (u : Int) : Prop := (∀ v, 0 ≤ v → v < X.1 → 1 ≤ V v ∧ V v ≤ 1000000) ∧ (∀ v d, 0 ≤ v → v < X.1 → Kn 1 X t v d → V v = d) ∧ ∀ v d, 0 ≤ v → v < u → Kn 1 X (t + 1) v d → V v = d
theorem VS.next {X : Gr} (hX : GOK X) {V : Int → Int} {t : Nat} {u : Int} (h : VS X V t u) (u0 : 0 ≤ u) (u1 : u < X.1) : VS X (aS V u (cap (val 1 (ar (GP X u 0)) (V (GP X u 1)) (V (GP X u 2))))) t (u + 1) := by
  obtain ⟨h1, h3, h4⟩ := h
  have rg := hX.node u0 u1
  have r1 := h1 _ rg.2.2.1 rg.2.2.2.1
  have r2 := h1 _ rg.2.2.2.2.1 rg.2.2.2.2.2
  have comp : ∀ d, Kn 1 X (t + 1) u d → cap (val 1 (ar (GP X u 0)) (V (GP X u 1)) (V (GP X u 2))) = d := by
    rintro d ⟨p, q, a1, a2, rfl⟩
    exact congrArg cap (val_c (fun a => h3 _ p rg.2.2.1 rg.2.2.2.1 (a1 a)) (fun a => h3 _ q rg.2.2.2.2.1 rg.2.2.2.2.2 (a2 a)))
  have rng : 1 ≤ cap (val 1 (ar (GP X u 0)) (V (GP X u 1)) (V (GP X u 2))) ∧ cap (val 1 (ar (GP X u 0)) (V (GP X u 1)) (V (GP X u 2))) ≤ 1000000 := by
    unfold cap val
    rw [if_neg (show ¬ (1 : Int) = 0 by decide)]
    by_cases a : ar (GP X u 0) ≤ 0
    · rw [if_pos a]; decide
    · rw [if_neg a]
      by_cases b : ar (GP X u 0) ≤ 1
      · rw [if_pos b]; split <;> omega
      · rw [if_neg b]; split <;> omega
  refine ⟨fun v v0 v1 => ?_, fun v d v0 v1 hk => ?_, fun v d v0 v1 hk => ?_⟩
  · by_cases e : v = u
    · rw [e, aS_eq]; exact rng
    · rw [aS_ne _ _ e]; exact h1 v v0 v1
  · by_cases e : v = u
    · rw [e] at hk
      rw [e, aS_eq]; exact comp d (Kn.up _ _ _ hk)
    · rw [aS_ne _ _ e]; exact h3 v d v0 v1 hk
  · by_cases e : v = u
    · rw [e] at hk
      rw [e, aS_eq]; exact comp d hk
    · rw [aS_ne _ _ e]; exact h4 v d v0 (by omega) hk
theorem th_row {N : Nat} (hN : 20000 ≤ N) {P : PL} {g : Int} (p0 : 0 ≤ g) (p1 : g < (P.length : Int)) (gg : GOK (gP P g)) (r : Int) {t : Nat} : ∀ (f : Nat) (u : Int) (ms1 : Bd), (gP P g).1 - u < f → 0 ≤ u → u ≤ (gP P g).1 → VS (gP P g) (ms1 0) t u → ∃ ms', VS (gP P g) (ms' 0) (t + 1) 0 ∧ ∀ k, f_X3_treeHeads_L34 N P g r k f u ms1 = k ms' := by
  have g40 := gg.2
  intro f
  induction f with
  | zero => intro i m1 h0 _ h2; omega
  | succ f ih =>
    intro u ms1 h0 u0 u1 hJ
    by_cases hx : (gP P g).1 ≤ u
    · obtain ⟨h1, h3, h4⟩ := hJ
      refine ⟨ms1, ⟨h1, fun v d v0 v1 hk => h4 v d v0 (by omega) hk, fun v d v0 v1 => by omega⟩, fun k => ?_⟩
      rw [f_X3_treeHeads_L34, ckG_of p0 p1, ck1_of (by omega) (by omega), ck1_of (by omega) (by omega), if_pos hx]
    · have nx := hJ.next gg u0 (show u < (gP P g).1 by omega)
      obtain ⟨ms', k1, k2⟩ := ih (u + 1) (bS ms1 0 (aS (ms1 0) u (cap (val 1 (ar (GP (gP P g) u 0)) (ms1 0 (GP (gP P g) u 1)) (ms1 0 (GP (gP P g) u 2)))))) (by omega) (by omega) (by omega) (by rw [bS_eq]; exact nx)
      refine ⟨ms', k1, fun k => ?_⟩
      have rg := gg.node u0 (show u < (gP P g).1 by omega)
      have r1 := hJ.1 _ rg.2.2.1 rg.2.2.2.1
      have r2 := hJ.1 _ rg.2.2.2.2.1 rg.2.2.2.2.2
      have vr : 0 ≤ val 1 (ar (GP (gP P g) u 0)) (ms1 0 (GP (gP P g) u 1)) (ms1 0 (GP (gP P g) u 2)) ∧ val 1 (ar (GP (gP P g) u 0)) (ms1 0 (GP (gP P g) u 1)) (ms1 0 (GP (gP P g) u 2)) ≤ 3000000 := by
        unfold val
        rw [if_neg (show ¬ (1 : Int) = 0 by decide)]
        split
        · omega
        · split <;> omega
      rw [f_X3_treeHeads_L34, ckG_of p0 p1, ck1_of (by omega) (by omega), ck1_of (by omega) (by omega), if_neg hx, partCount_of gg u0 (by omega), bn_some, th_sum hN p0 p1 gg u0 (by omega), ck1_of (by omega) (by omega), ckA_of u0 (by omega), cap_min]
      exact k2 k
theorem th_times {N : Nat} (hN : 20000 ≤ N) {P : PL} {g : Int} (p0 : 0 ≤ g) (p1 : g < (P.length : Int)) (gg : GOK (gP P g)) : ∀ (f t : Nat) (ms1 : Bd), (gP P g).1 - t < f → (t : Int) ≤ (gP P g).1 → VS (gP P g) (ms1 0) t 0 → ∃ ms', VS (gP P g) (ms' 0) (gP P g).1.toNat 0 ∧ ∀ k, f_X3_treeHeads_L24 N P g k f t ms1 = k ms' := by
  have g40 := gg.2
  intro f
  induction f with
  | zero => intro i m1 h0 h2; omega
  | succ f ih =>
    intro t ms1 h0 t1 hJ
    by_cases hx : (gP P g).1 ≤ t
    · refine ⟨ms1, by rw [show (gP P g).1.toNat = t by omega]; exact hJ, fun k => ?_⟩
      rw [f_X3_treeHeads_L24, ckG_of p0 p1, ck1_of (by omega) (by omega), ck1_of (by omega) (by omega), if_pos hx]
    · obtain ⟨ms2, l2, l3⟩ := th_row hN p0 p1 gg t (t := t) N 0 ms1 (by omega) (by omega) (by omega) hJ
      obtain ⟨ms', k1, k2⟩ := ih (t + 1) ms2 (by omega) (by omega) l2
      refine ⟨ms', k1, fun k => ?_⟩
      rw [f_X3_treeHeads_L24, ckG_of p0 p1, ck1_of (by omega) (by omega), ck1_of (by omega) (by omega), if_neg hx, l3]
      exact k2 k
theorem heads_step {N : Nat} (hN : 20000 ≤ N) {T : Int} {lt b m ms : Bd} {P : PL} (h : RR T lt b m P) {x : Int} (hx : inR x) : Step1m T b P (f_X5_heads N lt ms P x) (f_X6_heads N m x) := by
  unfold f_X5_heads f_X6_heads
  rcases nm_of h.2.2.2.1 h.2.2.2.2.2.1 hx with ⟨e1, e2⟩ | ⟨g, e1, e2, n⟩
  · simp (disch := omega) only [e1, e2, ↓bn_some, ↓ck1_of, ↓if_pos, ↓if_neg]
    exact bad1m h
  · have s := n.sz
    obtain ⟨a0, a1, p0, p1, gg, e, -⟩ := id n
    obtain ⟨ms1, l1⟩ := loopCount_of hN (ms := ms) p0 p1 gg
    have r := nlp_rng (gP P g) (gP P g).1.toNat
    obtain ⟨v, m1, c1, c2, c3, c4, c5, c6⟩ := climbs_of hN n (z := 1) (Or.inr rfl)
    have fr : RR (T + 1) lt b m1 P := h.up.frame (fun _ _ _ => rfl) rfl (fun s hs => c2 s (by omega))
    have main : ∃ ms', f_X3_treeHeads N ms P g = some (v, ms') := by
      unfold f_X3_treeHeads
      rw [l1, bn_some]
      dsimp only
      rw [ck1_of (by omega) (by omega)]
      rcases Kn.root (z := 1) gg with ⟨n1, n2⟩ | ⟨n1, n2⟩
      · obtain ⟨d, hd⟩ := n2 0 (by omega) (by omega)
        obtain ⟨row, f1, f2, f3⟩ := fill_of (N := N) (row := ms1 0) (ni := 40) (x1 := (gP P g).1) (x2 := 1) (by omega) s.2 (by omega) (by omega)
        obtain ⟨ms2, t1, t2⟩ := th_times hN p0 p1 gg N 0 (bS ms1 0 row) (by omega) (by omega) ⟨fun w w0 w1 => by rw [bS_eq, f2 w w0 w1]; decide, fun w d w0 w1 hk => absurd hk (by intro h; exact h), fun w d w0 w1 => by omega⟩
        have t2 : ∀ k, f_X3_treeHeads_L24 N P g k N 0 (bS ms1 0 row) = k ms2 := t2
        rw [if_pos n1, ckG_of p0 p1, f1, bn_some, t2, t1.2.1 0 d (by omega) (by omega) hd, c3 d hd]
        exact ⟨ms2, rfl⟩
      · rw [if_neg (by omega), c4 n2]
        exact ⟨ms1, rfl⟩
    obtain ⟨ms', l2⟩ := main
    simp (disch := omega) only [e1, e2, ↓bn_some, ↓ck1_of, ↓if_pos, ↓if_neg, l2, c1]
    exact ⟨v, lt, ms', m1, rfl, rfl, ⟨by omega, by omega⟩, fr⟩
/-! deep -/
theorem lw_in {N : Nat} (hN : 20000 ≤ N) {P : PL} {ms1 : Bd} {g : Int} (p0 : 0 ≤ g) (p1 : g < (P.length : Int)) (gg : GOK (gP P g)) {u : Int} (u0 : 0 ≤ u) (u1 : u < (gP P g).1) (n1 : 0 < ar (GP (gP P g) u 0) → GP (gP P g) u 1 ≠ u) (n2 : 1 < ar (GP (gP P g) u 0) → GP (gP P g) u 2 ≠ u) (hr : ∀ v, 0 ≤ v → v < (gP P g).1 → 0 ≤ ms1 0 v ∧ ms1 0 v ≤ 1000) (r : Int) : ∃ w, (w = ms1 0 u ∨ (0 < ar (GP (gP P g) u 0) ∧ w = 1 + ms1 0 (GP (gP P g) u 1)) ∨ (1 < ar (GP (gP P g) u 0) ∧ w = 1 + ms1 0 (GP (gP P g) u 2))) ∧ ms1 0 u ≤ w ∧ (0 < ar (GP (gP P g) u 0) → 1 + ms1 0 (GP (gP P g) u 1) ≤ w) ∧ (1 < ar (GP (gP P g) u 0) → 1 + ms1 0 (GP (gP P g) u 2) ≤ w) ∧ ∀ k, f_X3_longestWay_L52 P g r u (ar (GP (gP P g) u 0)) k N 0 ms1 = k (bS ms1 0 (aS (ms1 0) u w)) := by
  have har := ar_le (GP (gP P g) u 0)
  have g40 := gg.2
  have rg := gg.node u0 u1
  have q0 := partAt_of (h := g) g40 u0 u1 (i := 0) (by omega) (by omega)
  have q1 := partAt_of (h := g) g40 u0 u1 (i := 0 + 1) (by omega) (by omega)
  rw [show (1 : Int) + 0 = 1 from rfl] at q0
  rw [show (1 : Int) + (0 + 1) = 2 from rfl] at q1
  have ru := hr u u0 u1
  have r1 := hr _ rg.2.2.1 rg.2.2.2.1
  have r2 := hr _ rg.2.2.2.2.1 rg.2.2.2.2.2
  obtain ⟨M, rfl⟩ : ∃ M, N = M + 3 := ⟨N - 3, by omega⟩
  by_cases c0 : ar (GP (gP P g) u 0) ≤ 0
  · refine ⟨ms1 0 u, Or.inl rfl, Int.le_refl _, fun h => by omega, fun h => by omega, fun k => ?_⟩
    rw [f_X3_longestWay_L52, ck1_of (by omega) (by omega), ck1_of (by omega) (by omega), if_pos c0, bS_self]
  · by_cases c1 : ar (GP (gP P g) u 0) ≤ 1
    · refine ⟨max (ms1 0 u) (1 + ms1 0 (GP (gP P g) u 1)), by omega, by omega, fun _ => by omega, fun h => by omega, fun k => ?_⟩
      rw [f_X3_longestWay_L52, ck1_of (by omega) (by omega), ck1_of (by omega) (by omega), if_neg c0, ckA_of u0 (by omega), ckG_of p0 p1, q0, bn_some, ckA_of (by omega) (by omega), ck1_of (by omega) (by omega), ck1_of (by omega) (by omega), f_X3_longestWay_L52, ck1_of (by omega) (by omega), ck1_of (by omega) (by omega), if_pos (show ar (GP (gP P g) u 0) ≤ 0 + 1 by omega)]
    · have m2 := n2 (by omega)
      refine ⟨max (max (ms1 0 u) (1 + ms1 0 (GP (gP P g) u 1))) (1 + ms1 0 (GP (gP P g) u 2)), by omega, by omega, fun _ => by omega, fun _ => by omega, fun k => ?_⟩
      rw [f_X3_longestWay_L52, ck1_of (by omega) (by omega), ck1_of (by omega) (by omega), if_neg c0, ckA_of u0 (by omega), ckG_of p0 p1, q0, bn_some, ckA_of (by omega) (by omega), ck1_of (by omega) (by omega), ck1_of (by omega) (by omega), f_X3_longestWay_L52, ck1_of (by omega) (by omega), ck1_of (by omega) (by omega), if_neg (show ¬ ar (GP (gP P g) u 0) ≤ 0 + 1 by omega), ckA_of u0 (by omega), ckG_of p0 p1, q1, bn_some, ckA_of (by omega) (by omega), bS_eq, aS_eq, aS_ne _ _ m2, ck1_of (by omega) (by omega), ck1_of (by omega) (by omega), f_X3_longestWay_L52, ck1_of (by omega) (by omega), ck1_of (by omega) (by omega), if_pos (show ar (GP (gP P g) u 0) ≤ 0 + 1 + 1 by omega)]
      congr 1
      funext s
      by_cases hs : s = 0
      · subst hs
        rw [bS_eq, bS_eq]
        funext v
        by_cases hv : v = u
        · rw [hv, aS_eq, aS_eq]
        · rw [aS_ne _ _ hv, aS_ne _ _ hv, aS_ne _ _ hv]
      · rw [bS_ne _ _ hs, bS_ne _ _ hs, bS_ne _ _ hs]
def DS (X : Gr) (V : Int → Int) (t : Nat) (u : Int) : Prop := (∀ v, 0 ≤ v → v < X.1 → 0 ≤ V v) ∧ (∀ v d, 0 ≤ v → v < X.1 → Kn 0 X X.1.toNat v d → V v ≤ d) ∧ (∀ v d, 0 ≤ v → v < X.1 → Kn 0 X t v d → V v = d) ∧ ∀ v d, 0 ≤ v → v < u → Kn 0 X (t + 1) v d → V v = d
theorem DS.next {X : Gr} (hX : GOK X) (hall : ∀ v, 0 ≤ v → v < X.1 → ∃ d, Kn 0 X X.1.toNat v d) {V : Int → Int} {t : Nat} {u w : Int} (h : DS X V t u) (u0 : 0 ≤ u) (u1 : u < X.1) (w1 : w = V u ∨ (0 < ar (GP X u 0) ∧ w = 1 + V (GP X u 1)) ∨ (1 < ar (GP X u 0) ∧ w = 1 + V (GP X u 2))) (w2 : V u ≤ w) (w3 : 0 < ar (GP X u 0) → 1 + V (GP X u 1) ≤ w) (w4 : 1 < ar (GP X u 0) → 1 + V (GP X u 2) ≤ w) : DS X (aS V u w) t (u + 1) := by
  obtain ⟨h1, h2, h3, h4⟩ := h
  have rg := hX.node u0 u1
  have hu := h1 u u0 u1
  have x40 := hX.2
  -- the upper bound
  have up : ∀ d, Kn 0 X X.1.toNat u d → w ≤ d := by
    intro d hk
    have hu2 := h2 u d u0 u1 hk
    have dr := Kn.rng _ _ _ hk
    obtain ⟨s', hs'⟩ : ∃ s', X.1.toNat = s' + 1 := ⟨X.1.toNat - 1, by omega⟩
    rw [hs'] at hk
    obtain ⟨p, q, a1, a2, e⟩ := hk
    have b1 : 0 < ar (GP X u 0) → V (GP X u 1) ≤ p := fun a => h2 _ p rg.2.2.1 rg.2.2.2.1 (by rw [hs']; exact Kn.up _ _ _ (a1 a))
    have b2 : 1 < ar (GP X u 0) → V (GP X u 2) ≤ q := fun a => h2 _ q rg.2.2.2.2.1 rg.2.2.2.2.2 (by rw [hs']; exact Kn.up _ _ _ (a2 a))
    have ev : d = val 0 (ar (GP X u 0)) p q := by
      unfold cap at e
      by_cases c : val 0 (ar (GP X u 0)) p q ≤ 1000000
      · rw [if_pos c] at e; exact e
      · rw [if_neg c] at e; omega
    unfold val at ev
    rw [if_pos rfl] at ev
    rcases w1 with w1 | ⟨a, w1⟩ | ⟨a, w1⟩
    · omega
    · have := b1 a
      rw [if_neg (by omega)] at ev
      by_cases c : ar (GP X u 0) ≤ 1
      · rw [if_pos c] at ev; omega
      · rw [if_neg c] at ev
        by_cases dd : q + 1 ≤ p + 1
        · rw [if_pos dd] at ev; omega
        · rw [if_neg dd] at ev; omega
    · have := b2 a
      rw [if_neg (by omega), if_neg (by omega)] at ev
      by_cases dd : q + 1 ≤ p + 1
      · rw [if_pos dd] at ev; omega
      · rw [if_neg dd] at ev; omega
  have comp : ∀ d, Kn 0 X (t + 1) u d → w = d := by
    intro d hk
    obtain ⟨d', hd'⟩ := hall u u0 u1
    have ed := Kn.uniq _ _ _ _ _ hk hd'
    have := up d (by rw [ed]; exact hd')
    have dr := Kn.rng _ _ _ hd'
    obtain ⟨p, q, a1, a2, e⟩ := hk
    have b1 : 0 < ar (GP X u 0) → V (GP X u 1) = p := fun a => h3 _ p rg.2.2.1 rg.2.2.2.1 (a1 a)
    have b2 : 1 < ar (GP X u 0) → V (GP X u 2) = q := fun a => h3 _ q rg.2.2.2.2.1 rg.2.2.2.2.2 (a2 a)
    have ev : d = val 0 (ar (GP X u 0)) p q := by
      unfold cap at e
      by_cases c : val 0 (ar (GP X u 0)) p q ≤ 1000000
      · rw [if_pos c] at e; exact e
      · rw [if_neg c] at e; omega
    unfold val at ev
    rw [if_pos rfl] at ev
    by_cases a : ar (GP X u 0) ≤ 0
    · rw [if_pos a] at ev; omega
    · rw [if_neg a] at ev
      have c1 := b1 (by omega)
      have c2 := w3 (by omega)
      by_cases c : ar (GP X u 0) ≤ 1
      · rw [if_pos c] at ev; omega
      · have c3 := b2 (by omega)
        have c4 := w4 (by omega)
        rw [if_neg c] at ev
        by_cases dd : q + 1 ≤ p + 1
        · rw [if_pos dd] at ev; omega
        · rw [if_neg dd] at ev; omega
  refine ⟨fun v v0 v1 => ?_, fun v d v0 v1 hk => ?_, fun v d v0 v1 hk => ?_, fun v d v0 v1 hk => ?_⟩
  · by_cases e : v = u
    · rw [e, aS_eq]; omega
    · rw [aS_ne _ _ e]; exact h1 v v0 v1
  · by_cases e : v = u
    · rw [e] at hk
      rw [e, aS_eq]; exact up d hk
    · rw [aS_ne _ _ e]; exact h2 v d v0 v1 hk
  · by_cases e : v = u
    · rw [e] at hk
      rw [e, aS_eq]; exact comp d (Kn.up _ _ _ hk)
    · rw [aS_ne _ _ e]; exact h3 v d v0 v1 hk
  · by_cases e : v = u
    · rw [e] at hk
      rw [e, aS_eq]; exact comp d hk
    · rw [aS_ne _ _ e]; exact h4 v d v0 (by omega) hk
theorem lwy_row {N : Nat} (hN : 20000 ≤ N) {P : PL} {g : Int} (p0 : 0 ≤ g) (p1 : g < (P.length : Int)) (gg : GOK (gP P g)) (hall : ∀ v, 0 ≤ v → v < (gP P g).1 → ∃ d, Kn 0 (gP P g) (gP P g).1.toNat v d) (r : Int) {t : Nat} : ∀ (f : Nat) (u : Int) (ms1 : Bd), (gP P g).1 - u < f → 0 ≤ u → u ≤ (gP P g).1 → DS (gP P g) (ms1 0) t u → ∃ ms', DS (gP P g) (ms' 0) (t + 1) 0 ∧ ∀ k, f_X3_longestWay_L34 N P g r k f u ms1 = k ms' := by
  have g40 := gg.2
  intro f
  induction f with
  | zero => intro i m1 h0 _ h2; omega
  | succ f ih =>
    intro u ms1 h0 u0 u1 hJ
    by_cases hx : (gP P g).1 ≤ u
    · obtain ⟨h1, h2, h3, h4⟩ := hJ
      refine ⟨ms1, ⟨h1, h2, fun v d v0 v1 hk => h4 v d v0 (by omega) hk, fun v d v0 v1 => by omega⟩, fun k => ?_⟩
      rw [f_X3_longestWay_L34, ckG_of p0 p1, ck1_of (by omega) (by omega), ck1_of (by omega) (by omega), if_pos hx]
    · have noself : ∀ i, 0 ≤ i → i < ar (GP (gP P g) u 0) → GP (gP P g) u (1 + i) ≠ u := by
        intro i i0 i1 e
        obtain ⟨d, hd⟩ := hall u u0 (by omega)
        exact Kn.loop ⟨0, i, i0, i1, e⟩ _ _ hd
      obtain ⟨w, w1, w2, w3, w4, w5⟩ := lw_in hN (ms1 := ms1) p0 p1 gg u0 (show u < (gP P g).1 by omega) (fun a => noself 0 (by omega) a) (fun a => noself 1 (by omega) a) (fun v v0 v1 => by
        obtain ⟨d, hd⟩ := hall v v0 v1
        have := hJ.2.1 v d v0 v1 hd
        have dr := Kn.rng _ _ _ hd
        exact ⟨hJ.1 v v0 v1, by omega⟩) r
      obtain ⟨ms', k1, k2⟩ := ih (u + 1) (bS ms1 0 (aS (ms1 0) u w)) (by omega) (by omega) (by omega) (by rw [bS_eq]; exact hJ.next gg hall u0 (by omega) w1 w2 w3 w4)
      refine ⟨ms', k1, fun k => ?_⟩
      rw [f_X3_longestWay_L34, ckG_of p0 p1, ck1_of (by omega) (by omega), ck1_of (by omega) (by omega), if_neg hx, partCount_of gg u0 (by omega), bn_some, w5]
      exact k2 k
theorem lwy_times {N : Nat} (hN : 20000 ≤ N) {P : PL} {g : Int} (p0 : 0 ≤ g) (p1 : g < (P.length : Int)) (gg : GOK (gP P g)) (hall : ∀ v, 0 ≤ v → v < (gP P g).1 → ∃ d, Kn 0 (gP P g) (gP P g).1.toNat v d) : ∀ (f t : Nat) (ms1 : Bd), (gP P g).1 - t < f → (t : Int) ≤ (gP P g).1 → DS (gP P g) (ms1 0) t 0 → ∃ ms', DS (gP P g) (ms' 0) (gP P g).1.toNat 0 ∧ ∀ k, f_X3_longestWay_L24 N P g k f t ms1 = k ms' := by
  have g40 := gg.2
  intro f
  induction f with
  | zero => intro i m1 h0 h2; omega
  | succ f ih =>
    intro t ms1 h0 t1 hJ
    by_cases hx : (gP P g).1 ≤ t
    · refine ⟨ms1, by rw [show (gP P g).1.toNat = t by omega]; exact hJ, fun k => ?_⟩
      rw [f_X3_longestWay_L24, ckG_of p0 p1, ck1_of (by omega) (by omega), ck1_of (by omega) (by omega), if_pos hx]
    · obtain ⟨ms2, l2, l3⟩ := lwy_row hN p0 p1 gg hall t (t := t) N 0 ms1 (by omega) (by omega) (by omega) hJ
      obtain ⟨ms', k1, k2⟩ := ih (t + 1) ms2 (by omega) (by omega) l2
      refine ⟨ms', k1, fun k => ?_⟩
      rw [f_X3_longestWay_L24, ckG_of p0 p1, ck1_of (by omega) (by omega), ck1_of (by omega) (by omega), if_neg hx, l3]
      exact k2 k
theorem deep_step {N : Nat} (hN : 20000 ≤ N) {T : Int} {lt b m ms : Bd} {P : PL} (h : RR T lt b m P) {x : Int} (hx : inR x) : Step1m T b P (f_X5_deep N lt ms P x) (f_X6_deep N m x) := by
  unfold f_X5_deep f_X6_deep
  rcases nm_of h.2.2.2.1 h.2.2.2.2.2.1 hx with ⟨e1, e2⟩ | ⟨g, e1, e2, n⟩
  · simp (disch := omega) only [e1, e2, ↓bn_some, ↓ck1_of, ↓if_pos, ↓if_neg]
    exact bad1m h
  · have s := n.sz
    obtain ⟨a0, a1, p0, p1, gg, e, -⟩ := id n
    obtain ⟨ms1, l1⟩ := loopCount_of hN (ms := ms) p0 p1 gg
    have r := nlp_rng (gP P g) (gP P g).1.toNat
    obtain ⟨v, m1, c1, c2, c3, c4, c5, c6⟩ := climbs_of hN n (z := 0) (Or.inl rfl)
    have fr : RR (T + 1) lt b m1 P := h.up.frame (fun _ _ _ => rfl) rfl (fun s hs => c2 s (by omega))
    have main : ∃ ms', f_X3_longestWay N ms P g = some (v, ms') := by
      unfold f_X3_longestWay
      rw [l1, bn_some]
      dsimp only
      rw [ck1_of (by omega) (by omega)]
      rcases Kn.root (z := 0) gg with ⟨n1, n2⟩ | ⟨n1, n2⟩
      · obtain ⟨d, hd⟩ := n2 0 (by omega) (by omega)
        obtain ⟨row, f1, f2, f3⟩ := fill_of (N := N) (row := ms1 0) (ni := 40) (x1 := (gP P g).1) (x2 := 0) (by omega) s.2 (by omega) (by omega)
        obtain ⟨ms2, t1, t2⟩ := lwy_times hN p0 p1 gg n2 N 0 (bS ms1 0 row) (by omega) (by omega) ⟨fun w w0 w1 => by rw [bS_eq, f2 w w0 w1]; decide, fun w d w0 w1 hk => by rw [bS_eq, f2 w w0 w1]; exact (Kn.rng _ _ _ hk).1, fun w d w0 w1 hk => absurd hk (by intro h; exact h), fun w d w0 w1 => by omega⟩
        have t2 : ∀ k, f_X3_longestWay_L24 N P g k N 0 (bS ms1 0 row) = k ms2 := t2
        rw [if_pos n1, ckG_of p0 p1, f1, bn_some, t2, t1.2.2.1 0 d (by omega) (by omega) hd, c3 d hd]
        exact ⟨ms2, rfl⟩
      · rw [if_neg (by omega), c4 n2]
        exact ⟨ms1, rfl⟩
    obtain ⟨ms', l2⟩ := main
    simp (disch := omega) only [e1, e2, ↓bn_some, ↓ck1_of, ↓if_pos, ↓if_neg, l2, c1]
    exact ⟨v, lt, ms', m1, rfl, rfl, ⟨by omega, by omega⟩, fr⟩
