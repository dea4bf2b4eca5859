/-! read: the call -/

theorem read_step {N : Nat} (hN : 4000 ≤ N) {T : Int} {lt b m : Bd} {P : PL} (h : RR T lt b m P) (rd : Bd) : Step2m T (f_X5_read N lt b rd P) (f_X6_read N m) := by
  obtain ⟨q, rd1, m1, a1, a2, a3, a4⟩ := fault_of hN h rd
  have f3 : ∀ s : Nat, s < 9 → m1 s = m s := fun s hs => a3 s (by omega) (by omega) (by omega) (by omega) (by omega) (by omega) (by omega) (by omega) (by omega) (by omega) (by omega) (by omega)
  unfold f_X5_read f_X6_read
  rw [a1, a2, bn_some, bn_some]
  dsimp only
  rcases a4 with ⟨q0, q1⟩ | ⟨hq, c, e, hR, he, c120, hS, hB⟩
  · rw [ck1_of (show -2147483648 ≤ q by omega) (by omega), if_neg (show ¬ q = -1 by omega), ck1_of (show -2147483648 ≤ q by omega) (by omega), if_neg (show ¬ q = -1 by omega)]
    exact ⟨-10 - q, lt, b, rd1, P, m1, rfl, rfl, ⟨by omega, by omega⟩, (h.frame (fun _ _ _ => rfl) rfl f3).up⟩
  · obtain ⟨h1, h2, h3, hM, hV, hP, hB8⟩ := id h
    have hM1 : RName lt m1 P := by
      unfold RName
      rw [f3 0 (by decide), f3 1 (by decide)]
      exact hM
    have e8 := hR.e8
    have hD : ∀ l, 0 ≤ l → l < 8 → 0 ≤ m1 23 l → rd1 13 l ≠ -1 ∧ 0 ≤ rd1 12 l ∧ rd1 12 l < c := fun l l0 l1 hd => by
      rcases hR.2.2.2.2.1 l l0 l1 with a | a <;> omega
    have hj : ∀ j, 0 ≤ j → j < e → 0 ≤ rd1 10 j ∧ rd1 10 j < 8 ∧ 0 ≤ m1 23 (rd1 10 j) := fun j j0 j1 => by
      have a := hR.2.2.2.2.2.1 j j0 j1
      rcases hR.2.2.2.2.1 _ a.1 a.2.1 with z | z <;> omega
    have hc1 : 1 ≤ c := by
      have a := hj 0 (by decide) he
      have := hD _ a.1 a.2.1 a.2.2
      omega
    have h23 : ∀ l, 0 ≤ l → l < 8 → -1 ≤ m1 23 l ∧ m1 23 l ≤ 4000 := fun l l0 l1 => by
      rcases hR.2.2.2.2.1 l l0 l1 with a | a <;> omega
    have h10 : m1 10 0 = c := hR.2.1.2.1
    obtain ⟨bb, rF, cnt, l1, l2, l3, l4, l5, l6, l7⟩ := lay5 hN hR c120 he hM hP hS hB b
    have heq : f_X4_equationCount rF = some e := by
      unfold f_X4_equationCount
      rw [l4 11 (by decide) (by decide), hR.2.2.2.1.1]
    obtain ⟨y, y1, y2, y3⟩ := l19_lock (m := m1) h23 N 0 0 (by omega) (by omega) (by decide) (by decide) (fun j hj => by omega)
    have y2' : ∀ k, f_X6_read_L19 m1 k N 0 0 = k (y : Int) := y2
    obtain ⟨m2, cn, u1, u2, u3, u4, u5, u6, u7, u8, u9⟩ := lay6 hN hR c120 hM1 hP hS hB (y : Int)
    have hbit : ∀ l, 0 ≤ l → l < 8 → (0 ≤ m1 23 l → i_and (i_shr (y : Int) l) 1 = 1) ∧ (¬0 ≤ m1 23 l → i_and (i_shr (y : Int) l) 1 = 0) := fun l l0 l1 => ⟨fun hd => by rw [bit_of y1 y3 l0 l1, if_pos hd], fun hd => by rw [bit_of y1 y3 l0 l1, if_neg hd]⟩
    have hMS : MS m2 (fun v => ∃ u, RW5 lt rd1 rF m2 P c u v) cn := rw5_ms hR hM1 hP hS hB l6 l7 u8 u9 u4 hc1 u5 u6
    have hrt : ∀ l, 0 ≤ l → l < 8 → 0 ≤ m1 23 l → f_X6_meant N m2 (m2 23 l) = some (S6 m2 (cz rd1 9 (rd1 12 l))) ∧ ∃ u, RW5 lt rd1 rF m2 P c u (S6 m2 (cz rd1 9 (rd1 12 l))) := fun l l0 l1 hd => by
      have a := hD l l0 l1 hd
      have hg : ¬gl lt rd1 l := fun g => by
        have := g.1
        omega
      rw [u3 l l0 l1 hg]
      exact ⟨(u7 _ a.2.1 a.2.2).1, _, rw5_of hR hM1 hP hS hB a.2.1 a.2.2⟩
    have hEq : ∀ l, 0 ≤ l → l < 8 → 0 ≤ m1 23 l → Eqv (BG bb) (S5 rF (cz rd1 9 (rd1 12 l))) (MG (m2 9)) (S6 m2 (cz rd1 9 (rd1 12 l))) := fun l l0 l1 hd => by
      have a := hD l l0 l1 hd
      exact Eqv.bisim (RW5 lt rd1 rF m2 P c) (rw5_step hR hM1 hP hS hB l6 l7 u8 u9) (rw5_of hR hM1 hP hS hB a.2.1 a.2.2)
    have hl : ∀ l, 0 ≤ l → l < 8 → 0 ≤ m1 23 l → ∃ j, 0 ≤ j ∧ j < e ∧ rd1 10 j = l := fun l l0 l1 hd => hR.2.2.2.2.2.2.2 l l0 l1 (hD l l0 l1 hd).1
    obtain ⟨lt2, b2, P2, p1, p2, p3, p4, p5⟩ := l55_lock (lt := lt) (P := P) hN hR l4 l5 l2 N 0 lt bb P (by omega) (by decide) (by omega) (fun _ _ => rfl) (fun _ _ => rfl) (fun s s0 s1 => by rw [l3 8 (by decide)]; exact hB8 s s0 s1) ⟨[], by rw [List.append_nil]⟩ hP (fun j j0 j1 => by omega)
    have f2 : ∀ s : Nat, s < 9 → m2 s = m s := fun s hs => by rw [u2 s (by omega) (by omega) (by omega), f3 s hs]
    rw [hq, ck1_of (show -2147483648 ≤ (-1 : Int) by decide) (by decide), if_pos rfl, ck1_of (show -2147483648 ≤ (-1 : Int) by decide) (by decide), if_pos rfl, l1, bn_some]
    dsimp only
    rw [heq, bn_some, y2', h10, u1]
    rcases l219_lock hN hMS hbit hrt N 0 m2 (by omega) (by decide) (by decide) (fun _ _ _ _ => rfl) (fun u u0 u1 => by omega) with ⟨u, m3, w0, w1, w2, w3, w4, w5⟩ | ⟨m3, w1, w2, w3⟩
    · rw [w5]
      rcases p5 with ⟨j, j0, j1, j2, j3⟩ | ⟨j2, j3⟩
      · rw [j3]
        have hRR : RR T lt2 b2 m3 P2 := RR.ext (h.frame (lt' := lt2) (b' := b) (m' := m3) (fun s hs _ => p1 s hs) rfl (fun s hs => by rw [w4 s hs, f2 s hs])) p3 p4 p2
        obtain ⟨lt', m', r1, r2, r3⟩ := refFull hRR
        rw [r1, r2, bn_some, bn_some]
        exact ⟨-4, lt', b2, rF, P2, m', rfl, rfl, by decide, r3⟩
      · exfalso
        obtain ⟨j, j0, j1, ej⟩ := hl u w0 w1 w2
        have q := j2 j j0 j1
        rw [ej] at q
        have g := p4 _ q.1 q.2.1
        exact absurd (w3.eqv ((hEq u w0 w1 w2).symm.trans q.2.2.symm)) (g.1.small g.2)
    · rcases p5 with ⟨j, j0, j1, j2, j3⟩ | ⟨j2, j3⟩
      · exfalso
        have a := hj j j0 j1
        obtain ⟨k1, k2, C, k3, k4, k5⟩ := w2 _ a.1 a.2.1 a.2.2
        exact absurd (j2.eqv ((hEq _ a.1 a.2.1 a.2.2).trans k4.symm)) (k3.small k2)
      · rw [w3, j3]
        try dsimp only
        have hRR : RR T lt2 b2 m3 P2 := RR.ext (h.frame (lt' := lt2) (b' := b) (m' := m3) (fun s hs _ => p1 s hs) rfl (fun s hs => by rw [w1 s (by omega) (by omega) (by omega), f2 s hs])) p3 p4 p2
        obtain ⟨t1, t2, t3, tM, tV, tP, tB⟩ := id hRR
        obtain ⟨l', m4, k1, k2, lf, mf, hV3⟩ := keep_of hN tP tV tM
        rw [k1, k2, bn_some, bn_some]
        have e4 : l' 4 = lt2 4 := lf 4 (by decide) (by decide) (by decide)
        obtain ⟨lt3, s1, s2, s3, s4⟩ := l107_lock hR l4 l5 (lt := l') (P1 := P2) (fun j j0 j1 => by rw [e4]; exact (j2 j j0 j1).2.1) N 0 l' (by omega) (by decide) (by omega) (fun _ _ => rfl) (fun j j0 j1 => by omega) (fun _ _ => rfl)
        have e32 : m4 32 = m3 32 := mf 32 (by decide) (by decide) (by decide)
        have e31 : m4 31 = m3 31 := mf 31 (by decide) (by decide) (by decide)
        obtain ⟨m5, v1, v2, v3, v4⟩ := l325_lock hN (m := m4) hbit (fun l l0 l1 hd => by rw [e32]; have q := w2 l l0 l1 hd; exact ⟨q.1, q.2.1⟩) N 0 m4 (by omega) (by decide) (by decide) (fun _ _ _ => rfl) (fun u u0 u1 => by omega) (fun u u0 u1 _ => ⟨rfl, fun _ _ _ => rfl⟩)
        rw [s1, v1]
        have L : ∀ s : Nat, s ≠ 3 → s ≠ 5 → s ≠ 6 → s ≠ 7 → lt3 s = lt2 s := fun s a b c d => by rw [s2 s a, lf s b c d]
        have M : ∀ s : Nat, s ≠ 0 → s ≠ 1 → s ≠ 2 → s ≠ 3 → s ≠ 4 → m5 s = m3 s := fun s a b c d e => by rw [v2 s a b, mf s c d e]
        have h33 : m5 33 0 = e := by
          rw [M 33 (by decide) (by decide) (by decide) (by decide) (by decide), w1 33 (by omega) (by decide) (by decide), u2 33 (by decide) (by decide) (by decide)]
          exact hR.2.2.2.1.2.1
        try dsimp only
        rw [h33]
        refine ⟨e, lt3, b2, rF, P2, m5, rfl, rfl, ⟨by omega, by omega⟩, ?_, ?_, ?_, ?_, ?_, tP, tB⟩
        · unfold RText
          rw [L 0 (by decide) (by decide) (by decide) (by decide), L 1 (by decide) (by decide) (by decide) (by decide), M 7 (by decide) (by decide) (by decide) (by decide) (by decide), M 8 (by decide) (by decide) (by decide) (by decide) (by decide)]
          exact t1
        · unfold RKind
          rw [L 2 (by decide) (by decide) (by decide) (by decide), M 6 (by decide) (by decide) (by decide) (by decide) (by decide)]
          exact t2
        · unfold RCnt
          rw [L 8 (by decide) (by decide) (by decide) (by decide), L 9 (by decide) (by decide) (by decide) (by decide), L 10 (by decide) (by decide) (by decide) (by decide), M 5 (by decide) (by decide) (by decide) (by decide) (by decide)]
          exact hRR.up.2.2.1
        · intro a a0 a8
          by_cases hd : 0 ≤ m1 23 a
          · obtain ⟨j, j0, j1, ej⟩ := hl a a0 a8 hd
            have p := j2 j j0 j1
            have g := tP _ p.1 p.2.1
            obtain ⟨k1, k2, C, k3, k4, k5⟩ := w2 a a0 a8 hd
            have p3 := p.2.2
            rw [ej] at p3
            have hu := k3.unique g.1 ((k4.trans (hEq a a0 a8 hd).symm).trans p3.symm)
            have e3 := s3 j j0 j1
            rw [ej, e4] at e3
            have z := v3 a a0 a8 hd
            rw [e32, e31] at z
            rw [e3, z.1]
            refine Or.inr ⟨p.1, p.2.1, hu.1, fun v x0 x1 => ?_⟩
            rw [z.2 v x0 x1, k5 v x0 x1, hu.2 v x0 x1 0 (by omega) (by omega), hu.2 v x0 x1 1 (by omega) (by omega), hu.2 v x0 x1 2 (by omega) (by omega)]
          · have e3 : lt3 3 a = lt2 3 a := by
              rw [s4 a (fun j j0 j1 ej => by
                have z := (hj j j0 j1).2.2
                rw [ej] at z
                exact hd z), lf 3 (by decide) (by decide) (by decide)]
            have z := v4 a a0 a8 hd
            rw [mf 0 (by decide) (by decide) (by decide), mf 1 (by decide) (by decide) (by decide)] at z
            exact (tM a a0 a8).cong e3 z.1 z.2 tP
        · unfold RVer
          rw [s2 5 (by decide), s2 6 (by decide), s2 7 (by decide), v2 2 (by decide) (by decide), v2 3 (by decide) (by decide), v2 4 (by decide) (by decide)]
          exact hV3
