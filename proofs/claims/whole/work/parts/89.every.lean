/-! read: all equations on both sides -/
theorem RS.put {tx : Int → Int} {len : Int} {rd m : Bd} {p c e : Int} (h : RS tx len rd m p c e) {l p3 c' r : Int} (l0 : 0 ≤ l) (l1 : l < 8) (hl : rd 13 l = -1) (p0 : 0 ≤ p) (p3l : p < p3) {rd3 m5 : Bd} (tx5 : TX tx len m5) (n : NR tx len rd3 m5 c') (st : rd3 0 0 = 0 ∧ rd3 7 0 = 0 ∧ rd3 9 0 = 0) (cc : c ≤ c') (cp : c' ≤ p3) (r0 : 0 ≤ r) (r1 : r < c') (e11 : rd3 11 0 = e + 1) (f33 : m5 33 0 = e + 1) (e10 : rd3 10 = aS (rd 10) e l) (e12 : rd3 12 = aS (rd 12) l r) (e13 : rd3 13 = aS (rd 13) l p) (f23 : m5 23 = aS (m 23) l r) (f24 : m5 24 = aS (m 24) l p) : RS tx len rd3 m5 p3 c' (e + 1) := by
  obtain ⟨h1, h2, h3, ⟨h4, h5, h6, h7⟩, h8, h9, h10, h11⟩ := h
  have tp := tl_put (R := rd 13) (v := p) l0 hl (by omega) 8
  have e0 : 0 ≤ e := by have := tl_rng (rd 13) 8; omega
  have old : ∀ i, 0 ≤ i → i < e → rd 10 i ≠ l := fun i i0 i1 hh => by
    have := (h9 i i0 i1).2.2
    rw [hh] at this
    exact this hl
  refine ⟨tx5, n, st, ⟨e11, f33, ?_, cp⟩, fun v v0 v1 => ?_, fun i i0 i1 => ?_, fun i j i0 ij j1 => ?_, fun v v0 v1 hv => ?_⟩
  · rw [e13, tp.1, h6, if_pos (show l < ((8 : Nat) : Int) by omega)]
  · rw [e13, e12, f23, f24]
    by_cases ev : v = l
    · subst ev
      repeat rw [aS_eq]
      exact Or.inr ⟨p0, p3l, rfl, r0, r1, rfl⟩
    · repeat rw [aS_ne _ _ ev]
      rcases h8 v v0 v1 with a | a
      · exact Or.inl a
      · exact Or.inr ⟨a.1, by omega, a.2.2.1, a.2.2.2.1, by omega, a.2.2.2.2.2⟩
  · rw [e10, e13]
    by_cases ei : i = e
    · subst ei
      repeat rw [aS_eq]
      exact ⟨l0, l1, by omega⟩
    · rw [aS_ne _ _ ei, aS_ne _ _ (old i i0 (by omega))]
      exact h9 i i0 (by omega)
  · rw [e10, e13]
    have ii : rd 13 (rd 10 i) < p := by
      have a := h9 i i0 (by omega)
      rcases h8 _ a.1 a.2.1 with b | b
      · exact absurd b.1 a.2.2
      · exact b.2.1
    rw [aS_ne _ _ (show i ≠ e by omega), aS_ne _ _ (old i i0 (by omega))]
    by_cases ej : j = e
    · subst ej
      repeat rw [aS_eq]
      exact ii
    · rw [aS_ne _ _ ej, aS_ne _ _ (old j (by omega) (by omega))]
      exact h10 i j i0 ij (by omega)
  · rw [e10]
    by_cases ev : v = l
    · exact ⟨e, e0, by omega, by rw [aS_eq]; exact ev.symm⟩
    · rw [e13, aS_ne _ _ ev] at hv
      obtain ⟨i, i0, i1, i2⟩ := h11 v v0 v1 hv
      exact ⟨i, i0, by omega, by rw [aS_ne _ _ (by omega)]; exact i2⟩
theorem all_lock {N : Nat} {lt : Bd} {tx : Int → Int} {len : Int} (hN : 4000 ≤ N) (hl : len ≤ 120) (hl0 : 0 ≤ len) (ht : ∀ j, 0 ≤ j → j < len → lt 0 j = tx j) (hb : ∀ j, 0 ≤ j → j < len → 0 ≤ tx j ∧ tx j ≤ 127) (k : Bd → Option (Int × Bd)) (hk : ∀ rd' : Bd, (rd' 0 0 = 1 ∨ rd' 0 0 = 2 ∨ rd' 0 0 = 3 ∨ (rd' 0 0 = 0 ∧ rd' 11 0 = 0)) → k rd' = some (len, rd')) : ∀ (f : Nat) (p : Int) (rd m : Bd) (c e : Int), len - p < f → 0 ≤ p → p ≤ len → (p = len ∨ tx p ≠ 32) → m 22 0 = p → RS tx len rd m p c e → ∀ g : Nat, len - p < g → (∃ q rd' m', 0 ≤ q ∧ q ≤ len ∧ f_X4_faultOf_L48 N lt len k g p rd = some (q, rd') ∧ (∀ k6, f_X6_readsAll_L45 N k6 f m = some (q, m')) ∧ F9 m m') ∨ (∃ rd' m' c' e', f_X4_faultOf_L48 N lt len k g p rd = k rd' ∧ (∀ k6, f_X6_readsAll_L45 N k6 f m = k6 m') ∧ RS tx len rd' m' len c' e' ∧ 0 < e' ∧ F9 m m') := by
  intro f
  induction f with
  | zero => intro p rd m c e h0 _ h2; omega
  | succ f ih =>
    intro p rd m c e hf p0 p1 hbl hp hR g hg
    obtain ⟨h1, h2, ⟨h3, h3a, h3b⟩, ⟨h4, h5, h6, h7⟩, h8, h9, h10, h11⟩ := id hR
    have c0 := h2.2.2.1
    have er := tl_rng (rd 13) 8
    have e0 : 0 ≤ e := by omega
    have e8 : e ≤ 8 := by omega
    have F9r : ∀ m : Bd, F9 m m := fun m s _ _ _ _ _ _ _ _ _ _ _ _ => rfl
    by_cases hend : p = len
    · have hg1 : g = (g - 1) + 1 := by omega
      by_cases ez : e = 0
      · refine Or.inl ⟨len, rd, m, hl0, Int.le_refl _, ?_, fun k6 => ?_, F9r m⟩
        · rw [hg1, hend, end5 hl hl0, hk rd (Or.inr (Or.inr (Or.inr ⟨h3, by omega⟩)))]
        · have := byteAt_of h1 hl p0 p1
          rw [if_pos (by omega)] at this
          rw [ra_bad hp h1.1 p0 p1 hl h5 (Or.inr ez) e0 e8 this (by decide) (by decide) (Or.inl (by decide)), hend]
      · have hR' : RS tx len rd m len c e := by rw [hend] at hR; exact hR
        refine Or.inr ⟨rd, m, c, e, ?_, fun k6 => ?_, hR', by omega, F9r m⟩
        · rw [hg1, hend, end5 hl hl0]
        · exact ra_end (by omega) h1.1 hl0 hl h5 (by omega) e8
    · have q1 : p < len := by omega
      have h32 : tx p ≠ 32 := by
        rcases hbl with h | h
        · exact absurd h hend
        · exact h
      have hr := hb p p0 q1
      have hy := byteAt_of h1 hl p0 p1
      rw [if_neg (by omega)] at hy
      have bad : f_X4_takes N rd (tx p) p = some (0, rd) → (¬(97 ≤ tx p ∧ tx p ≤ 104) ∨ (0 ≤ m 23 (tx p - 97) ∧ m 23 (tx p - 97) ≤ 4000)) → (∃ q rd' m', 0 ≤ q ∧ q ≤ len ∧ f_X4_faultOf_L48 N lt len k g p rd = some (q, rd') ∧ (∀ k6, f_X6_readsAll_L45 N k6 (f + 1) m = some (q, m')) ∧ F9 m m') ∨ (∃ rd' m' c' e', f_X4_faultOf_L48 N lt len k g p rd = k rd' ∧ (∀ k6, f_X6_readsAll_L45 N k6 (f + 1) m = k6 m') ∧ RS tx len rd' m' len c' e' ∧ 0 < e' ∧ F9 m m') := fun a b => by
        refine Or.inl ⟨p, rd, m, p0, p1, ?_, fun k6 => ?_, F9r m⟩
        · rw [show g = (g - 1) + 1 by omega, step5 hl ht hb p0 q1 h32 (Or.inl rfl) a, if_neg (by decide)]
        · exact ra_bad hp h1.1 p0 p1 hl h5 (Or.inl q1) e0 e8 hy (by omega) hr.2 b
      by_cases hlt : 97 ≤ tx p ∧ tx p ≤ 104
      · rcases h8 (tx p - 97) (by omega) (by omega) with ⟨b1, b2, b3⟩ | ⟨b1, b2, b3, b4, b5, b6⟩
        · -- a letter of its own
          have e7 : e < 8 := by
            have := (tl_put (R := rd 13) (v := 0) (show 0 ≤ tx p - 97 by omega) b1 (by decide) 8).2 (by omega)
            omega
          have tk := tkl_ok (N := N) (p := p) h3 hlt.1 hlt.2 b1 h4 e0 e7
          generalize hl' : tx p - 97 = l at tk b1 b2 b3
          generalize hrd1 : bS (bs0 (bS (bs0 (bs0 rd 0 1) 1 l) 10 (aS (rd 10) e l)) 11 (e + 1)) 13 (aS (rd 13) l p) = rd1 at tk
          have z0 : rd1 0 0 = 1 := by rw [← hrd1, bS_ne _ _ (by decide), bs0_ne _ _ (by decide), bS_ne _ _ (by decide), bs0_ne _ _ (by decide), bs0_eq]
          have z1 : rd1 1 0 = l := by rw [← hrd1, bS_ne _ _ (by decide), bs0_ne _ _ (by decide), bS_ne _ _ (by decide), bs0_eq]
          have z10' : rd1 10 = aS (rd 10) e l := by rw [← hrd1, bS_ne _ _ (by decide), bs0_ne _ _ (by decide), bS_eq]
          have z11 : rd1 11 0 = e + 1 := by rw [← hrd1, bS_ne _ _ (by decide), bs0_eq]
          have z13 : rd1 13 = aS (rd 13) l p := by rw [← hrd1, bS_eq]
          have zs : ∀ s : Nat, s ≠ 0 → s ≠ 1 → s ≠ 10 → s ≠ 11 → s ≠ 13 → rd1 s = rd s := fun s a b d e h => by rw [← hrd1, bS_ne _ _ h, bs0_ne _ _ e, bS_ne _ _ d, bs0_ne _ _ b, bs0_ne _ _ a]
          generalize hm0 : bS (bs0 m 22 (p + 1)) 24 (aS (m 24) l p) = m0
          have y22 : m0 22 0 = p + 1 := by rw [← hm0, bS_ne _ _ (by decide), bs0_eq]
          have y24 : m0 24 = aS (m 24) l p := by rw [← hm0, bS_eq]
          have ys : ∀ s : Nat, s ≠ 22 → s ≠ 24 → m0 s = m s := fun s a b => by rw [← hm0, bS_ne _ _ b, bs0_ne _ _ a]
          have f90 : F9 m m0 := fun s _ _ a _ b _ _ _ _ _ _ _ => ys s a b
          obtain ⟨e1, m1, k1, k2, k3, k4, k5, k6⟩ := skip_lock (tx := tx) hl hb N (p + 1) m0 (by omega) (by omega) (by omega) (h1.f9 f90) y22
          have hs : f_X6_skips N (bS (bs0 m 22 (p + 1)) 24 (aS (m 24) (tx p - 97) p)) = some m1 := by rw [hl', hm0]; unfold f_X6_skips; exact k6 _
          have f91 : F9 m m1 := f90.trans' (fun s _ _ a _ _ _ _ _ _ _ _ _ => k4 s a)
          have tx1 := h1.f9 f91
          generalize hq : p + 1 + (e1 : Int) = q at k1 k2 k3 k5
          have hby := byteAt_of tx1 hl (p := q) (by omega) k1
          have st1 : f_X4_faultOf_L48 N lt len k g p rd = f_X4_faultOf_L48 N lt len k (g - 1 - e1) q rd1 := by
            rw [show g = (g - 1) + 1 by omega, step5 hl ht hb p0 q1 h32 (Or.inr rfl) tk, if_pos (by decide), show (g - 1) = (g - 1 - e1) + e1 by omega, skip5 hl ht e1 (p + 1) (by omega) (by omega) (fun j j0 j1 => k5 j j0 (by omega)), hq, show g - 1 - e1 + e1 + 1 - 1 - e1 = g - 1 - e1 by omega]
          by_cases hqe : q = len
          · rw [if_pos (by omega)] at hby
            refine Or.inl ⟨q, rd1, m1, by omega, k1, ?_, fun k6 => ?_, f91⟩
            · rw [st1, show g - 1 - e1 = (g - 1 - e1 - 1) + 1 by omega, hqe, end5 hl hl0, hk rd1 (Or.inl z0)]
            · rw [ra_go hp h1.1 p0 q1 hl h5 e0 e8 hy hlt.1 hlt.2 (by rw [hl']; exact b3) hs k3 hby (by decide) (by decide), if_neg (by decide)]
          · rw [if_neg (by omega)] at hby
            have hqr := hb q (by omega) (by omega)
            have hq32 : tx q ≠ 32 := by
              rcases k2 with h | h
              · exact absurd h hqe
              · exact h
            by_cases h61 : tx q = 61
            · have tk2 := tke_ok (N := N) (ch := tx q) (p := q) z0 h61
              generalize hrd2 : bs0 rd1 0 2 = rd2 at tk2
              have u0 : rd2 0 0 = 2 := by rw [← hrd2, bs0_eq]
              have us : ∀ s : Nat, s ≠ 0 → rd2 s = rd1 s := fun s a => by rw [← hrd2, bs0_ne _ _ a]
              generalize hm2 : bs0 (bs0 (bs0 m1 22 (q + 1)) 28 0) 30 0 = m2
              have v22 : m2 22 0 = q + 1 := by rw [← hm2, bs0_ne _ _ (by decide), bs0_ne _ _ (by decide), bs0_eq]
              have v28 : m2 28 0 = 0 := by rw [← hm2, bs0_ne _ _ (by decide), bs0_eq]
              have v30 : m2 30 0 = 0 := by rw [← hm2, bs0_eq]
              have vs : ∀ s : Nat, s ≠ 22 → s ≠ 28 → s ≠ 30 → m2 s = m1 s := fun s a b d => by rw [← hm2, bs0_ne _ _ d, bs0_ne _ _ b, bs0_ne _ _ a]
              have f92 : F9 m m2 := f91.trans' (fun s _ _ a _ _ _ _ _ b _ d _ => vs s a b d)
              have big : ∀ s : Nat, s ≠ 22 → s ≠ 24 → s ≠ 28 → s ≠ 30 → m2 s = m s := fun s a b d h => by rw [vs s a d h, k4 s a, ys s a b]
              have nr2 : NR tx len rd2 m2 c := h2.frame (by rw [us 2 (by decide), zs 2 (by decide) (by decide) (by decide) (by decide) (by decide)]) (by rw [us 3 (by decide), zs 3 (by decide) (by decide) (by decide) (by decide) (by decide)]) (by rw [us 4 (by decide), zs 4 (by decide) (by decide) (by decide) (by decide) (by decide)]) (by rw [us 5 (by decide), zs 5 (by decide) (by decide) (by decide) (by decide) (by decide)]) (big 9 (by decide) (by decide) (by decide) (by decide)) (big 10 (by decide) (by decide) (by decide) (by decide)) (big 25 (by decide) (by decide) (by decide) (by decide)) (big 26 (by decide) (by decide) (by decide) (by decide))
              have w9 : rd2 9 0 = 0 := by rw [us 9 (by decide), zs 9 (by decide) (by decide) (by decide) (by decide) (by decide)]; exact h3b
              have w7 : rd2 7 0 = 0 := by rw [us 7 (by decide), zs 7 (by decide) (by decide) (by decide) (by decide) (by decide)]; exact h3a
              have w1 : rd2 1 0 = l := by rw [us 1 (by decide)]; exact z1
              have sk2 : SK rd2 m2 c 0 0 1 := ⟨w9, v28, Int.le_refl 0, w7, v30, Or.inr rfl, rfl, fun j j0 j1 => by omega, fun j j0 j1 => by omega⟩
              have st2 : f_X4_faultOf_L48 N lt len k g p rd = f_X4_faultOf_L48 N lt len k (g - 1 - e1 - 1) (q + 1) rd2 := by
                rw [st1, show g - 1 - e1 = (g - 1 - e1 - 1) + 1 by omega, step5 hl ht hb (by omega) (by omega) hq32 (Or.inr rfl) tk2, if_pos (by decide), show g - 1 - e1 - 1 + 1 - 1 = g - 1 - e1 - 1 by omega]
              have hterm : f_X6_readsTerm N (bs0 m1 22 (q + 1)) = f_X6_readsTerm_L12 N N 1 m2 := by unfold f_X6_readsTerm; rw [hm2]
              have x6 : ∀ k6, f_X6_readsAll_L45 N k6 (f + 1) m = (bn (f_X6_readsTerm_L12 N N 1 m2) fun q156_16 => ck1 q156_16.1 <| if 0 ≤ q156_16.1 then bn (f_X6_skips N (bs0 (bS q156_16.2 23 (aS (q156_16.2 23) (tx p - 97) q156_16.1)) 33 ((q156_16.2 33 0) + 1))) fun q190_19 => f_X6_readsAll_L45 N k6 f q190_19 else some (q156_16.2 22 0, q156_16.2)) := fun k6 => by
                rw [ra_go hp h1.1 p0 q1 hl h5 e0 e8 hy hlt.1 hlt.2 (by rw [hl']; exact b3) hs k3 hby (by omega) hqr.2, if_pos h61, hterm]
              rcases term_lock (lt := lt) hN hl ht hb N (q + 1) rd2 m2 c 0 0 1 (by omega) ⟨h1.f9 f92, nr2, sk2, by rw [u0, if_pos rfl], v22, by omega, by omega, by omega, by omega, by omega⟩ with ⟨q', rd', m', t1, t2, t3, t4, t5, t6⟩ | ⟨rd', m', t1, t3, t4, t5, t6⟩ | ⟨d, rd3, m3, r, c', t1, t2, t3, t4, t5, t6, t7, t8, t9, t10, t11, t12, t13⟩
              · refine Or.inl ⟨q', rd', m', t1, by omega, by rw [st2]; exact t3 k _ (by omega), fun k6 => ?_, f92.trans' t6.up⟩
                rw [x6, t4, bn_some, ck1_of (show -2147483648 ≤ (-1 : Int) by decide) (show (-1 : Int) ≤ 2147483647 by decide), if_neg (show ¬(0 ≤ (-1 : Int)) by decide)]
                dsimp only
                rw [t5]
              · refine Or.inl ⟨len, rd', m', hl0, Int.le_refl _, ?_, fun k6 => ?_, f92.trans' t6.up⟩
                · rw [st2, t3 k _ (by omega)]
                  exact hk rd' (t1.elim (fun h => Or.inr (Or.inl h)) (fun h => Or.inr (Or.inr (Or.inl h))))
                · rw [x6, t4, bn_some, ck1_of (show -2147483648 ≤ (-1 : Int) by decide) (show (-1 : Int) ≤ 2147483647 by decide), if_neg (show ¬(0 ≤ (-1 : Int)) by decide)]
                  dsimp only
                  rw [t5]
              · have tx3 := h1.f9 (f92.trans' t12.up)
                have fr : ∀ s : Nat, s ≠ 9 → s ≠ 10 → s ≠ 22 → s ≠ 25 → s ≠ 26 → s ≠ 27 → s ≠ 28 → s ≠ 29 → s ≠ 30 → m3 s = m2 s := t12
                have m23 : m3 23 = m 23 := by rw [fr 23 (by decide) (by decide) (by decide) (by decide) (by decide) (by decide) (by decide) (by decide) (by decide), big 23 (by decide) (by decide) (by decide) (by decide)]
                have m33 : m3 33 0 = e := by rw [fr 33 (by decide) (by decide) (by decide) (by decide) (by decide) (by decide) (by decide) (by decide) (by decide), big 33 (by decide) (by decide) (by decide) (by decide)]; exact h5
                have m24 : m3 24 = aS (m 24) l p := by rw [fr 24 (by decide) (by decide) (by decide) (by decide) (by decide) (by decide) (by decide) (by decide) (by decide), vs 24 (by decide) (by decide) (by decide), k4 24 (by decide)]; exact y24
                generalize hm4 : bs0 (bS m3 23 (aS (m3 23) l r)) 33 (m3 33 0 + 1) = m4
                have x22 : m4 22 0 = q + 1 + d := by rw [← hm4, bs0_ne _ _ (by decide), bS_ne _ _ (by decide)]; exact t5
                have xs : ∀ s : Nat, s ≠ 23 → s ≠ 33 → m4 s = m3 s := fun s a b => by rw [← hm4, bs0_ne _ _ b, bS_ne _ _ a]
                have f94 : F9 m m4 := (f92.trans' t12.up).trans' (fun s _ _ _ a _ _ _ _ _ _ _ b => xs s a b)
                obtain ⟨e2, m5, n1, n2, n3, n4, n5, n6⟩ := skip_lock (tx := tx) hl hb N (q + 1 + d) m4 (by omega) (by omega) t1 (h1.f9 f94) x22
                have f95 : F9 m m5 := f94.trans' (fun s _ _ a _ _ _ _ _ _ _ _ _ => n4 s a)
                generalize hp3 : q + 1 + (d : Int) + (e2 : Int) = p3 at n1 n2 n3 n5
                have nr5 : NR tx len rd3 m5 c' := t7.frame rfl rfl rfl rfl (by rw [n4 9 (by decide), xs 9 (by decide) (by decide)]) (by rw [n4 10 (by decide), xs 10 (by decide) (by decide)]) (by rw [n4 25 (by decide), xs 25 (by decide) (by decide)]) (by rw [n4 26 (by decide), xs 26 (by decide) (by decide)])
                have cc : c ≤ c' := by have := t6.2.2.2; rw [nr2.1, t7.1] at this; exact this
                have RS5 : RS tx len rd3 m5 p3 c' (e + 1) := hR.put (l := l) (p3 := p3) (r := r) (by omega) (by omega) b1 p0 (by omega) (h1.f9 f95) nr5 ⟨t6.1, t6.2.1, t6.2.2.1⟩ cc (by omega) t9 t10 (by rw [t13.2.2.1, us 11 (by decide)]; exact z11) (by rw [n4 33 (by decide), ← hm4, bs0_eq, m33]) (by rw [t13.2.1, us 10 (by decide)]; exact z10') (by rw [t11, us 12 (by decide), zs 12 (by decide) (by decide) (by decide) (by decide) (by decide), w1]) (by rw [t13.2.2.2, us 13 (by decide)]; exact z13) (by rw [n4 23 (by decide), ← hm4, bs0_ne _ _ (by decide), bS_eq, m23]) (by rw [n4 24 (by decide), xs 24 (by decide) (by decide)]; exact m24)
                have st3 : f_X4_faultOf_L48 N lt len k g p rd = f_X4_faultOf_L48 N lt len k (g - 1 - e1 - 1 - d - e2) p3 rd3 := by
                  rw [st2, show g - 1 - e1 - 1 = (g - 1 - e1 - 1 - d) + d by omega, t3, show g - 1 - e1 - 1 - d = (g - 1 - e1 - 1 - d - e2) + e2 by omega, skip5 hl ht e2 (q + 1 + d) (by omega) (by omega) (fun j j0 j1 => n5 j j0 (by omega)), hp3, show g - 1 - e1 - 1 - d - e2 + e2 + d - d - e2 = g - 1 - e1 - 1 - d - e2 by omega]
                have x6' : ∀ k6, f_X6_readsAll_L45 N k6 (f + 1) m = f_X6_readsAll_L45 N k6 f m5 := fun k6 => by
                  have hs5 : f_X6_skips N m4 = some m5 := by unfold f_X6_skips; exact n6 _
                  rw [x6, t4, bn_some, ck1_of (by omega) (by omega), if_pos t9]
                  dsimp only
                  rw [hl', hm4, hs5, bn_some]
                rcases ih p3 rd3 m5 c' (e + 1) (by omega) (by omega) n1 n2 n3 RS5 (g - 1 - e1 - 1 - d - e2) (by omega) with ⟨q', rd', m', i1, i2, i3, i4, i5⟩ | ⟨rd', m', c2, e', i1, i2, i3, i4, i5⟩
                · exact Or.inl ⟨q', rd', m', i1, i2, by rw [st3]; exact i3, fun k6 => by rw [x6']; exact i4 k6, f95.trans' i5⟩
                · exact Or.inr ⟨rd', m', c2, e', by rw [st3]; exact i1, fun k6 => by rw [x6']; exact i2 k6, i3, i4, f95.trans' i5⟩
            · refine Or.inl ⟨q, bs0 rd1 0 2, m1, by omega, k1, ?_, fun k6 => ?_, f91⟩
              · rw [st1, show g - 1 - e1 = (g - 1 - e1 - 1) + 1 by omega, step5 hl ht hb (by omega) (by omega) hq32 (Or.inl rfl) (tke_bad z0 hqr.1 hqr.2 h61), if_neg (by decide)]
              · rw [ra_go hp h1.1 p0 q1 hl h5 e0 e8 hy hlt.1 hlt.2 (by rw [hl']; exact b3) hs k3 hby (by omega) hqr.2, if_neg h61]
        · exact bad (tkl_bad2 h3 hlt.1 hlt.2 b1 (by omega)) (Or.inr ⟨by omega, by omega⟩)
      · exact bad (tkl_bad1 h3 hr.1 hr.2 hlt) (Or.inl hlt)
