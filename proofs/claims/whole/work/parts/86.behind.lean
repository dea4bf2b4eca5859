/-! read: behind an atom on both sides -/
section
variable {N : Nat} {lt : Bd} {tx : Int → Int} {len p q : Int} {rd m m1 : Bd} {c o w : Int} {f : Nat}
theorem behind_step (hN : 4000 ≤ N) (hl : len ≤ 120) (hs : f_X6_skips N m = some m1) (hy : f_X6_byteAt m1 (m1 22 0) = some (tx q)) (hq : m1 22 0 = q) (q0 : 0 ≤ q) (q1 : q < len) (hr : 0 ≤ tx q ∧ tx q ≤ 127) (tx1 : TX tx len m1) (nr1 : NR tx len rd m1 c) (sk1 : SK rd m1 c o w 0) (st : rd 0 0 = 3) (oc : o + c ≤ q) (l0 : 0 ≤ rd 1 0) (l1 : rd 1 0 < 8)
    (bad : ∀ rd1, f_X4_takes N rd (tx q) q = some (0, rd1) → OT N lt tx len p rd m (some (-1, m1)))
    (fin : ∀ (rd1 m2 : Bd) (r c' : Int), c ≤ c' → f_X4_takes N rd (tx q) q = some (1, rd1) → m2 22 0 = q + 1 → (rd1 0 0 = 0 ∧ rd1 7 0 = 0 ∧ rd1 9 0 = 0) → NR tx len rd1 m2 c' → c' ≤ q + 1 → 0 ≤ r → r < c' → rd1 12 = aS (rd 12) (rd 1 0) r → F6 m1 m2 → F5 rd rd1 → OT N lt tx len p rd m (some (r, m2)))
    (go : ∀ rd1 m2 c1 o1 w1 a1, c ≤ c1 → f_X4_takes N rd (tx q) q = some (1, rd1) → TS tx len rd1 m2 (q + 1) c1 o1 w1 a1 → F5 rd rd1 → rd1 12 = rd 12 → F6 m1 m2 → OT N lt tx len p rd m (f_X6_readsTerm_L12 N f a1 m2)) :
    OT N lt tx len p rd m (f_X6_readsTerm_L12 N (f + 1) 0 m) := by
  obtain ⟨s1, s2, s3, s4, s5, s6, s7, s8, s9⟩ := id sk1
  have c0 := nr1.2.2.1
  have nbr := nb_rng (rd 8) o.toNat
  by_cases hop : tx q = 42 ∨ tx q = 62
  · -- an operator: pairs are joined first
    obtain ⟨rd2, m2, c', o', w', hj, h2, h3⟩ := joinP_lock (tx := tx) (len := len) N N 0 rd m1 c o w (by omega) (by omega) (Int.le_refl 0) (by omega) (by omega) nr1 sk1
    obtain ⟨j1, j2, j3, j4, j5, j6, j7⟩ := hj
    have o'0 : 0 ≤ o' := j2.2.2.1
    have g : ∀ s : Nat, s ≠ 2 → s ≠ 3 → s ≠ 4 → s ≠ 5 → s ≠ 6 → s ≠ 7 → s ≠ 9 → rd2 s = rd s := j3.1
    have r22 : m2 22 0 = q := by rw [j3.2 22 (by decide) (by decide) (by decide) (by decide) (by decide)]; exact hq
    have f6 : F6 m1 (bs0 (bs0 (bS m2 27 (aS (m2 27) o' (tx q))) 28 (o' + 1)) 22 (q + 1)) := fun s h9 h10 h22 _ _ h27 h28 h29 h30 => by rw [bs0_ne _ _ h22, bs0_ne _ _ h28, bS_ne _ _ h27, j3.2 s h9 h10 h28 h29 h30]
    rw [rt_op hs hy hop (does_is h3) j2.2.1 o'0 (by omega) r22]
    have c'0 := j1.2.2.1
    have sk3 : SK (bs0 rd2 0 2) m2 c' o' w' 0 := j2.frame (bs0_ne _ _ (by decide)) (bs0_ne _ _ (by decide)) (bs0_ne _ _ (by decide)) (bs0_ne _ _ (by decide)) rfl rfl rfl rfl
    have e8 : (bs0 rd2 0 2) 8 = rd2 8 := bs0_ne _ _ (by decide)
    have sk4 := sk3.op (a' := 1) (ch := tx q) (by omega) (Or.inr rfl) (by rw [if_pos hop]; rfl)
    rw [e8] at sk4
    refine go _ _ c' (o' + 1) w' 1 (by omega) (tk_op st hop (joinP_is h2) j2.1 o'0 (by omega)) ⟨tx1.f6 f6, j1.frame ?_ ?_ ?_ ?_ ?_ ?_ ?_ ?_, sk4.frame rfl rfl rfl rfl ?_ ?_ ?_ ?_, ?_, bs0_eq _ _ _ _, by omega, by omega, by omega, ?_, ?_⟩ ⟨?_, ?_, ?_, ?_⟩ ?_ f6
    all_goals first
      | (simp (disch := decide) only [bs0_ne, bS_ne]; done)
      | (simp (disch := decide) only [bs0_ne, bS_ne, g]; done)
      | (simp (disch := decide) only [bs0_ne, bS_ne, g]; first | exact l0 | exact l1)
      | (rw [bs0_ne _ _ (by decide), bS_ne _ _ (by decide), bs0_eq, if_pos rfl])
  · obtain ⟨rd2, m2, c', o', w', ⟨j1, j2, j3, j4, j5, j6, j7⟩, h2, h3, e8, tp, hbk⟩ := all_of (tx := tx) (len := len) hN (by omega) nr1 sk1
    have o'0 : 0 ≤ o' := j2.2.2.1
    have c'0 := j1.2.2.1
    have g : ∀ s : Nat, s ≠ 2 → s ≠ 3 → s ≠ 4 → s ≠ 5 → s ≠ 6 → s ≠ 7 → s ≠ 9 → rd2 s = rd s := j3.1
    have r22 : m2 22 0 = q := by rw [j3.2 22 (by decide) (by decide) (by decide) (by decide) (by decide)]; exact hq
    have hpop := fun x (x0 : 0 ≤ x) (x1 : x ≤ 127) => popR_of (rd1 := rd2) (x := x) j2.1 o'0 (by omega) (fun h => by rw [e8]; rcases tp with h' | ⟨_, h'⟩ <;> omega) x0 x1
    have kp6 : F6 m1 m2 := fun s h9 h10 _ _ _ _ h28 h29 h30 => j3.2 s h9 h10 h28 h29 h30
    have w7 := j2.2.2.2.2.2.2.1
    have nbr' := nb_rng (rd2 8) o'.toNat
    by_cases h41 : tx q = 41
    · by_cases hb : 1 ≤ o' ∧ rd2 8 (o' - 1) = 40
      · have hb' : f_X6_bracket N m1 = some 40 := by rw [hbk, if_neg (by omega), ← e8, hb.2]
        rw [rt_close hs hy h41 hb' h3 j2.2.1 r22]
        have f6 : F6 m1 (bs0 (bs0 m2 22 (q + 1)) 28 (o' - 1)) := fun s h9 h10 h22 _ _ _ h28 h29 h30 => by rw [bs0_ne _ _ h28, bs0_ne _ _ h22, j3.2 s h9 h10 h28 h29 h30]
        have sk3 := j2.pop hb.1 (Or.inl hb.2)
        have hp := hpop 40 (by decide) (by decide)
        rw [if_pos hb] at hp
        refine go _ _ c' (o' - 1) w' 0 (by omega) (tk_close st h41 h2 hp b01 b11) ⟨tx1.f6 f6, j1.frame ?_ ?_ ?_ ?_ ?_ ?_ ?_ ?_, sk3.frame rfl rfl rfl rfl ?_ ?_ ?_ ?_, ?_, ?_, by omega, by omega, by omega, ?_, ?_⟩ ⟨?_, ?_, ?_, ?_⟩ ?_ f6
        all_goals first
          | (simp (disch := decide) only [bs0_ne, bS_ne]; done)
          | (simp (disch := decide) only [bs0_ne, bS_ne, g]; done)
          | (simp (disch := decide) only [bs0_ne, bS_ne, g]; first | exact l0 | exact l1)
          | (rw [bs0_ne _ _ (by decide), bs0_eq])
          | (rw [bs0_ne _ _ (by decide), g 0 (by decide) (by decide) (by decide) (by decide) (by decide) (by decide) (by decide), st, if_neg (by decide)])
          | (funext j; by_cases e : j = 0
             · rw [e, bs0_eq, bs0_eq]
             · rfl)
          | skip
        
      · have hp := hpop 40 (by decide) (by decide)
        rw [if_neg hb] at hp
        rw [e8] at hb
        rw [rt_bad0 hs hy (by omega) hr.2 (by omega) (by omega) hbk (by split <;> omega) (by split <;> omega) (fun _ => by split <;> omega) (fun h => by omega) (fun h => by omega)]
        exact bad _ (tk_close st h41 h2 hp b00 b01)
    · by_cases h93 : tx q = 93
      · by_cases hb : 1 ≤ o' ∧ rd2 8 (o' - 1) = 91
        · have hb' : f_X6_bracket N m1 = some 91 := by rw [hbk, if_neg (by omega), ← e8, hb.2]
          have sk3 := j2.pop hb.1 (Or.inr hb.2)
          have hp := hpop 91 (by decide) (by decide)
          rw [if_pos hb] at hp
          have w1 : 1 ≤ w' := by omega
          have s9' := j2.2.2.2.2.2.2.2.2 (w' - 1) (by omega) (by omega)
          have hN0 : NR tx len (bs0 (bs0 rd2 9 (o' - 1)) 7 (w' - 1)) (bs0 m2 28 (o' - 1)) c' := j1.frame (by rw [bs0_ne _ _ (by decide), bs0_ne _ _ (by decide)]) (by rw [bs0_ne _ _ (by decide), bs0_ne _ _ (by decide)]) (by rw [bs0_ne _ _ (by decide), bs0_ne _ _ (by decide)]) (by rw [bs0_ne _ _ (by decide), bs0_ne _ _ (by decide)]) (bs0_ne _ _ (by decide)) (bs0_ne _ _ (by decide)) (bs0_ne _ _ (by decide)) (bs0_ne _ _ (by decide))
          obtain ⟨rd3, m3, t1, t2, t3, t4, t5⟩ := nn_of hN0 (y6 := 0) (h := 4) (x := rd2 6 (w' - 1)) (y := 0) (by omega) (by decide) (by decide) s9'.2.1 (by omega) (by decide) (by decide) (fun _ => s9'.2.2) (fun h => absurd h (by decide))
          have r7 : rd3 7 0 = w' - 1 := by rw [t4 7 (by decide) (by decide) (by decide) (by decide), bs0_eq]
          have r6 : rd3 6 = rd2 6 := by rw [t4 6 (by decide) (by decide) (by decide) (by decide), bs0_ne _ _ (by decide), bs0_ne _ _ (by decide)]
          have q29 : m3 29 = m2 29 := by rw [t5 29 (by decide) (by decide), bs0_ne _ _ (by decide)]
          have q22 : m3 22 0 = q := by rw [t5 22 (by decide) (by decide), bs0_ne _ _ (by decide)]; exact r22
          have f6 : F6 m1 (bS (bs0 m3 22 (q + 1)) 29 (aS (m3 29) (w' - 1) c')) := fun s h9 h10 h22 _ _ _ h28 h29 h30 => by rw [bS_ne _ _ h29, bs0_ne _ _ h22, t5 s h9 h10, bs0_ne _ _ h28, j3.2 s h9 h10 h28 h29 h30]
          have g3 : ∀ s : Nat, s ≠ 2 → s ≠ 3 → s ≠ 4 → s ≠ 5 → s ≠ 6 → s ≠ 7 → s ≠ 9 → rd3 s = rd s := fun s a b d e h i j => by rw [t4 s a b d e, bs0_ne _ _ i, bs0_ne _ _ j, g s a b d e h i j]
          rw [rt_box hs hy h93 hb' h3 j2.2.1 j2.2.2.2.2.1 w1 (by omega) (v := c') (m3 := m3) (by rw [← s9'.1]; exact t2) q22]
          refine go _ _ (c' + 1) (o' - 1) w' 0 (by omega) (tk_box st h93 h2 hp (w := w') (v := c') (rd3 := rd3) (by rw [bs0_ne _ _ (by decide)]; exact j2.2.2.2.1) w1 (by omega) (by rw [bs0_ne rd2 _ (show (6 : Nat) ≠ 9 by decide)]; exact t1) r7) ⟨tx1.f6 f6, t3.frame ?_ ?_ ?_ ?_ ?_ ?_ ?_ ?_, sk3.put c'0 ?_ ?_ ?_ ?_ ?_ ?_ ?_ ?_, ?_, ?_, by omega, by omega, by omega, ?_, ?_⟩ ⟨?_, ?_, ?_, ?_⟩ ?_ f6
          · simp (disch := decide) only [bs0_ne, bS_ne]
          · simp (disch := decide) only [bs0_ne, bS_ne]
          · simp (disch := decide) only [bs0_ne, bS_ne]
          · simp (disch := decide) only [bs0_ne, bS_ne]
          · simp (disch := decide) only [bs0_ne, bS_ne]
          · simp (disch := decide) only [bs0_ne, bS_ne]
          · simp (disch := decide) only [bs0_ne, bS_ne]
          · simp (disch := decide) only [bs0_ne, bS_ne]
          · rw [bs0_ne _ _ (by decide), bS_ne _ _ (by decide), t4 9 (by decide) (by decide) (by decide) (by decide), bs0_ne _ _ (by decide), bs0_eq]
          · rw [bS_ne _ _ (by decide), bs0_ne _ _ (by decide), t5 28 (by decide) (by decide), bs0_eq]
          · rw [bs0_eq]; omega
          · rw [bS_ne _ _ (by decide), bs0_ne _ _ (by decide), t5 30 (by decide) (by decide), bs0_ne _ _ (by decide)]; exact j2.2.2.2.2.1
          · rw [bs0_ne _ _ (by decide), bS_ne _ _ (by decide), t4 8 (by decide) (by decide) (by decide) (by decide), bs0_ne _ _ (by decide)]
          · rw [bS_ne _ _ (by decide), bs0_ne _ _ (by decide), t5 27 (by decide) (by decide)]
          · rw [bs0_ne _ _ (by decide), bS_eq, r6, bs0_ne _ _ (by decide)]
          · rw [bS_eq, q29, bs0_ne _ _ (by decide)]
          · rw [bs0_ne _ _ (by decide), bS_ne _ _ (by decide), g3 0 (by decide) (by decide) (by decide) (by decide) (by decide) (by decide) (by decide), st, if_neg (by decide)]
          · rw [bS_ne _ _ (by decide), bs0_eq]
          · rw [bs0_ne _ _ (by decide), bS_ne _ _ (by decide), g3 1 (by decide) (by decide) (by decide) (by decide) (by decide) (by decide) (by decide)]; exact l0
          · rw [bs0_ne _ _ (by decide), bS_ne _ _ (by decide), g3 1 (by decide) (by decide) (by decide) (by decide) (by decide) (by decide) (by decide)]; exact l1
          all_goals rw [bs0_ne _ _ (by decide), bS_ne _ _ (by decide), g3 _ (by decide) (by decide) (by decide) (by decide) (by decide) (by decide) (by decide)]
        · have hp := hpop 91 (by decide) (by decide)
          rw [if_neg hb] at hp
          rw [e8] at hb
          rw [rt_bad0 hs hy (by omega) hr.2 (by omega) (by omega) hbk (by split <;> omega) (by split <;> omega) (fun h => by omega) (fun _ => by split <;> omega) (fun h => by omega)]
          exact bad _ (tk_box0 st h93 h2 hp)
      · by_cases h59 : tx q = 59
        · by_cases ho : o' = 0
          · subst ho
            have hb' : f_X6_bracket N m1 = some 0 := by rw [hbk, if_pos (by decide)]
            have w1 : w' = 1 := by
              have : nb (rd2 8) (0 : Int).toNat = 0 := rfl
              omega
            subst w1
            have s9' := j2.2.2.2.2.2.2.2.2 0 (by decide) (by decide)
            rw [rt_end hs hy h59 hb' h3 r22]
            rw [← s9'.1]
            refine fin _ (bs0 m2 22 (q + 1)) _ c' (by omega) (tk_end (l := rd 1 0) st h59 h2 j2.1 j2.2.2.2.1 (by rw [g 1 (by decide) (by decide) (by decide) (by decide) (by decide) (by decide) (by decide)]) l0 l1) (bs0_eq _ _ _ _) ?_ (j1.frame ?_ ?_ ?_ ?_ ?_ ?_ ?_ ?_) (by omega) s9'.2.1 s9'.2.2 ?_ (fun s h9 h10 h22 _ _ _ h28 h29 h30 => by rw [bs0_ne _ _ h22, j3.2 s h9 h10 h28 h29 h30]) ⟨?_, ?_, ?_, ?_⟩
            · refine ⟨?_, ?_, ?_⟩
              · rw [bS_ne _ _ (by decide), bs0_eq]
              · rw [bS_ne _ _ (by decide), bs0_ne _ _ (by decide), bs0_eq]; rfl
              · rw [bS_ne _ _ (by decide), bs0_ne _ _ (by decide), bs0_ne _ _ (by decide)]; exact j2.1
            · simp (disch := decide) only [bs0_ne, bS_ne]
            · simp (disch := decide) only [bs0_ne, bS_ne]
            · simp (disch := decide) only [bs0_ne, bS_ne]
            · simp (disch := decide) only [bs0_ne, bS_ne]
            · simp (disch := decide) only [bs0_ne, bS_ne]
            · simp (disch := decide) only [bs0_ne, bS_ne]
            · simp (disch := decide) only [bs0_ne, bS_ne]
            · simp (disch := decide) only [bs0_ne, bS_ne]
            · rw [bS_eq, g 12 (by decide) (by decide) (by decide) (by decide) (by decide) (by decide) (by decide)]; rfl
            all_goals rw [bS_ne _ _ (by decide), bs0_ne _ _ (by decide), bs0_ne _ _ (by decide), g _ (by decide) (by decide) (by decide) (by decide) (by decide) (by decide) (by decide)]
          · rw [rt_bad0 hs hy (by omega) hr.2 (by omega) (by omega) hbk (by split <;> omega) (by split <;> omega) (fun h => by omega) (fun h => by omega) (fun _ => by rw [if_neg (by omega)]; omega)]
            exact bad _ (tk_end0 st h59 h2 j2.1 (by omega) (by omega))
        · rw [rt_bad0 hs hy (by omega) hr.2 (fun h => hop (Or.inl h)) (fun h => hop (Or.inr h)) hbk (by split <;> omega) (by split <;> omega) (fun h => by omega) (fun h => by omega) (fun h => by omega)]
          exact bad _ (tk_bad0 st hr.1 hr.2 h41 (fun h => hop (Or.inl h)) h59 (fun h => hop (Or.inr h)) h93)
end
