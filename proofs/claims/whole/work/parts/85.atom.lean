/-! read: an atom on both sides -/
section
variable {N : Nat} {lt : Bd} {tx : Int → Int} {len p q : Int} {rd m m1 : Bd} {c o w : Int} {f : Nat}
theorem atom_step (hN : 4000 ≤ N) (hl : len ≤ 120) (hs : f_X6_skips N m = some m1) (hy : f_X6_byteAt m1 (m1 22 0) = some (tx q)) (hq : m1 22 0 = q) (q0 : 0 ≤ q) (q1 : q < len) (hr : 0 ≤ tx q ∧ tx q ≤ 127) (tx1 : TX tx len m1) (nr1 : NR tx len rd m1 c) (sk1 : SK rd m1 c o w 1) (st : rd 0 0 = 2) (oc : o + c ≤ q) (l0 : 0 ≤ rd 1 0) (l1 : rd 1 0 < 8)
    (bad : ∀ rd1, f_X4_takes N rd (tx q) q = some (0, rd1) → OT N lt tx len p rd m (some (-1, m1)))
    (go : ∀ rd1 m2 c1 o1 w1 a1, c ≤ c1 → f_X4_takes N rd (tx q) q = some (1, rd1) → TS tx len rd1 m2 (q + 1) c1 o1 w1 a1 → F5 rd rd1 → rd1 12 = rd 12 → F6 m1 m2 → OT N lt tx len p rd m (f_X6_readsTerm_L12 N f a1 m2)) :
    OT N lt tx len p rd m (f_X6_readsTerm_L12 N (f + 1) 1 m) := by
  obtain ⟨s1, s2, s3, s4, s5, s6, s7, s8, s9⟩ := id sk1
  have c0 := nr1.2.2.1
  have nbr := nb_rng (rd 8) o.toNat
  have w0 : 0 ≤ w := by omega
  have w1 : w < 120 := by omega
  have nr0 : NR tx len (bs0 rd 0 3) m1 c := nr1.frame (bs0_ne _ _ (by decide)) (bs0_ne _ _ (by decide)) (bs0_ne _ _ (by decide)) (bs0_ne _ _ (by decide)) rfl rfl rfl rfl
  by_cases hd : 48 ≤ tx q ∧ tx q ≤ 51
  · have ar0 : ar (tx q - 48) = 0 := by
      have : tx q - 48 = 0 ∨ tx q - 48 = 1 ∨ tx q - 48 = 2 ∨ tx q - 48 = 3 := by omega
      rcases this with h | h | h | h <;> rw [h] <;> decide
    obtain ⟨rd2, m2, t1, t2, t3, t4, t5⟩ := nn_of nr0 (y6 := 0) (h := tx q - 48) (x := 0) (y := 0) (by omega) (by omega) (by omega) (by decide) (by decide) (by decide) (by decide) (fun h => by omega) (fun h => by omega)
    have g : ∀ s : Nat, s ≠ 0 → s ≠ 2 → s ≠ 3 → s ≠ 4 → s ≠ 5 → rd2 s = rd s := fun s a b d e h => by rw [t4 s b d e h, bs0_ne _ _ a]
    have r7 : rd2 7 0 = w := by rw [g 7 (by decide) (by decide) (by decide) (by decide) (by decide)]; exact s4
    have r30 : m2 30 0 = w := by rw [t5 30 (by decide) (by decide)]; exact s5
    have r22 : m2 22 0 = q := by rw [t5 22 (by decide) (by decide)]; exact hq
    have sk2 : SK rd2 m2 c o w 1 := sk1.frame (g 6 (by decide) (by decide) (by decide) (by decide) (by decide)) (g 7 (by decide) (by decide) (by decide) (by decide) (by decide)) (g 8 (by decide) (by decide) (by decide) (by decide) (by decide)) (g 9 (by decide) (by decide) (by decide) (by decide) (by decide)) (t5 27 (by decide) (by decide)) (t5 28 (by decide) (by decide)) (t5 29 (by decide) (by decide)) (t5 30 (by decide) (by decide))
    have f6 : F6 m1 (bs0 (bs0 (bS m2 29 (aS (m2 29) w c)) 30 (w + 1)) 22 (q + 1)) := fun s h9 h10 h22 _ _ _ _ h29 h30 => by rw [bs0_ne _ _ h22, bs0_ne _ _ h30, bS_ne _ _ h29, t5 s h9 h10]
    rw [rt_dig hs hy hd.1 hd.2 t2 r30 w0 (by omega) r22]
    refine go _ _ (c + 1) o (w + 1) 0 (by omega) (tk_dig st hd.1 hd.2 t1 r7 w0 w1) ⟨tx1.f6 f6, t3.frame ?_ ?_ ?_ ?_ ?_ ?_ ?_ ?_, (sk2.push c0).frame rfl rfl rfl rfl ?_ ?_ ?_ ?_, ?_, bs0_eq _ _ _ _, by omega, by omega, by omega, ?_, ?_⟩ ⟨?_, ?_, ?_, ?_⟩ ?_ f6
    all_goals first
      | (simp (disch := decide) only [bs0_ne, bS_ne]; done)
      | (simp (disch := decide) only [bs0_ne, bS_ne, g]; done)
      | (simp (disch := decide) only [bs0_ne, bS_ne, g]; first | exact l0 | exact l1)
      | (rw [bs0_ne _ _ (by decide), bS_ne _ _ (by decide), t4 0 (by decide) (by decide) (by decide) (by decide), bs0_eq, if_neg (by decide)])
  · by_cases ha : 97 ≤ tx q ∧ tx q ≤ 104
    · obtain ⟨rd2, m2, t1, t2, t3, t4, t5⟩ := n7_of nr0 (x := tx q - 97) (p := q) (by omega) (by omega) (by omega) q0 q1 rfl
      have g : ∀ s : Nat, s ≠ 0 → s ≠ 2 → s ≠ 3 → s ≠ 4 → s ≠ 5 → rd2 s = rd s := fun s a b d e h => by rw [t4 s b d e h, bs0_ne _ _ a]
      have r7 : rd2 7 0 = w := by rw [g 7 (by decide) (by decide) (by decide) (by decide) (by decide)]; exact s4
      have r30 : m2 30 0 = w := by rw [t5 30 (by decide) (by decide)]; exact s5
      have r22 : m2 22 0 = q := by rw [t5 22 (by decide) (by decide)]; exact hq
      have r26 : m2 26 0 = m1 26 0 := by rw [t5 26 (by decide) (by decide)]
      have r25 : m2 25 = m1 25 := t5 25 (by decide) (by decide)
      have n5 := nr1.2.2.2.2.1
      have l7r := l7_rng (rd 2) c.toNat
      have sk2 : SK rd2 m2 c o w 1 := sk1.frame (g 6 (by decide) (by decide) (by decide) (by decide) (by decide)) (g 7 (by decide) (by decide) (by decide) (by decide) (by decide)) (g 8 (by decide) (by decide) (by decide) (by decide) (by decide)) (g 9 (by decide) (by decide) (by decide) (by decide) (by decide)) (t5 27 (by decide) (by decide)) (t5 28 (by decide) (by decide)) (t5 29 (by decide) (by decide)) (t5 30 (by decide) (by decide))
      generalize hm3 : bs0 (bS (bs0 (bs0 (bS m2 29 (aS (m2 29) w c)) 30 (w + 1)) 22 (q + 1)) 25 (aS (m2 25) (m1 26 0) q)) 26 (m1 26 0 + 1) = m3
      have f6 : F6 m1 m3 := fun s h9 h10 h22 h25 h26 _ _ h29 h30 => by rw [← hm3, bs0_ne _ _ h26, bS_ne _ _ h25, bs0_ne _ _ h22, bs0_ne _ _ h30, bS_ne _ _ h29, t5 s h9 h10]
      have k9 : m3 9 = m2 9 := by rw [← hm3]; simp (disch := decide) only [bs0_ne, bS_ne]
      have k10 : m3 10 = m2 10 := by rw [← hm3]; simp (disch := decide) only [bs0_ne, bS_ne]
      have k25 : m3 25 = aS (m1 25) (m1 26 0) q := by rw [← hm3, bs0_ne _ _ (by decide), bS_eq, r25]
      have k26 : m3 26 0 = m1 26 0 + 1 := by rw [← hm3, bs0_eq]
      have k22 : m3 22 0 = q + 1 := by rw [← hm3, bs0_ne _ _ (by decide), bS_ne _ _ (by decide), bs0_eq]
      have kS : ∀ s : Nat, s ≠ 22 → s ≠ 25 → s ≠ 26 → m3 s = bs0 (bS m2 29 (aS (m2 29) w c)) 30 (w + 1) s := fun s h22 h25 h26 => by rw [← hm3, bs0_ne _ _ h26, bS_ne _ _ h25, bs0_ne _ _ h22]
      rw [rt_let hs hy ha.1 ha.2 t2 r30 w0 (by omega) r22 r26 (by omega) (by omega), hm3]
      refine go _ _ (c + 1) o (w + 1) 0 (by omega) (tk_let st ha.1 ha.2 t1 r7 w0 w1) ⟨tx1.f6 f6, (t3 m3 k9 k10 k25 k26).frame ?_ ?_ ?_ ?_ rfl rfl rfl rfl, (sk2.push c0).frame rfl rfl rfl rfl (kS 27 (by decide) (by decide) (by decide)) (kS 28 (by decide) (by decide) (by decide)) (kS 29 (by decide) (by decide) (by decide)) (kS 30 (by decide) (by decide) (by decide)), ?_, k22, by omega, by omega, by omega, ?_, ?_⟩ ⟨?_, ?_, ?_, ?_⟩ ?_ f6
      all_goals first
        | (simp (disch := decide) only [bs0_ne, bS_ne]; done)
        | (simp (disch := decide) only [bs0_ne, bS_ne, g]; done)
        | (simp (disch := decide) only [bs0_ne, bS_ne, g]; first | exact l0 | exact l1)
        | (rw [bs0_ne _ _ (by decide), bS_ne _ _ (by decide), t4 0 (by decide) (by decide) (by decide) (by decide), bs0_eq, if_neg (by decide)])
    · by_cases hb : tx q = 40 ∨ tx q = 91
      · have f6 : F6 m1 (bs0 (bs0 (bS m1 27 (aS (m1 27) o (tx q))) 28 (o + 1)) 22 (q + 1)) := fun s _ _ h22 _ _ h27 h28 _ _ => by rw [bs0_ne _ _ h22, bs0_ne _ _ h28, bS_ne _ _ h27]
        rw [rt_open hs hy hb s2 s3 (by omega) hq]
        refine go _ _ c (o + 1) w 1 (by omega) (tk_open st hb s1 s3 (by omega)) ⟨tx1.f6 f6, nr1.frame ?_ ?_ ?_ ?_ ?_ ?_ ?_ ?_, (sk1.op (a' := 1) (ch := tx q) (by omega) (Or.inr rfl) (by rw [if_neg (by omega)]; rfl)).frame rfl rfl rfl rfl ?_ ?_ ?_ ?_, ?_, bs0_eq _ _ _ _, by omega, by omega, by omega, ?_, ?_⟩ ⟨?_, ?_, ?_, ?_⟩ ?_ f6
        all_goals first
          | (simp (disch := decide) only [bs0_ne, bS_ne]; done)
          | (simp (disch := decide) only [bs0_ne, bS_ne]; first | exact l0 | exact l1)
          | (rw [bs0_ne _ _ (by decide), bS_ne _ _ (by decide), st, if_pos rfl])
      · rw [rt_bad1 hs hy (by omega) hr.2 hd ha (fun h => hb (Or.inl h)) (fun h => hb (Or.inr h))]
        exact bad _ (tk_bad1 st hr.1 hr.2 hd ha (fun h => hb (Or.inl h)) (fun h => hb (Or.inr h)))
end
