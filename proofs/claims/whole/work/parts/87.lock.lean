/-! read: a whole term on both sides -/
theorem term_lock {N : Nat} {lt : Bd} {tx : Int → Int} {len : Int} (hN : 4000 ≤ N) (hl : len ≤ 120) (ht : ∀ j, 0 ≤ j → j < len → lt 0 j = tx j) (hb : ∀ j, 0 ≤ j → j < len → 0 ≤ tx j ∧ tx j ≤ 127) : ∀ (f : Nat) (p : Int) (rd m : Bd) (c o w a : Int), len - p < f → TS tx len rd m p c o w a → OT N lt tx len p rd m (f_X6_readsTerm_L12 N f a m) := by
  intro f
  induction f with
  | zero =>
    intro p rd m c o w a h0 hT
    have := hT.2.2.2.2.2.2.1
    omega
  | succ f ih =>
    intro p rd m c o w a hf hT
    obtain ⟨tx0, nr, sk, st, hp, p0, p1, oc, l0, l1⟩ := hT
    obtain ⟨e, m1, k1, k2, k3, k4, k5, k6⟩ := skip_lock (tx := tx) hl hb N p m (by omega) p0 p1 tx0 hp
    have hs : f_X6_skips N m = some m1 := by unfold f_X6_skips; exact k6 _
    have f61 : F6 m m1 := fun s _ _ h22 _ _ _ _ _ _ => k4 s h22
    have tx1 := tx0.f6 f61
    have nr1 : NR tx len rd m1 c := nr.frame rfl rfl rfl rfl (k4 9 (by decide)) (k4 10 (by decide)) (k4 25 (by decide)) (k4 26 (by decide))
    have sk1 : SK rd m1 c o w a := sk.frame rfl rfl rfl rfl (k4 27 (by decide)) (k4 28 (by decide)) (k4 29 (by decide)) (k4 30 (by decide))
    have ha := sk.2.2.2.2.2.1
    have c0 := nr.2.2.1
    have o0 := sk.2.2.1
    generalize hq : p + (e : Int) = q at k1 k2 k3 k5
    have hby := byteAt_of tx1 hl (p := q) (by omega) k1
    have sk5 : ∀ k (g : Nat), f_X4_faultOf_L48 N lt len k (g + e) p rd = f_X4_faultOf_L48 N lt len k g q rd := fun k g => by
      rw [skip5 hl ht e p p0 (by omega) (fun j j0 j1 => k5 j j0 (by omega)), hq]
    have ab : a = 1 ∨ a = 0 := by omega
    by_cases hend : q = len
    · -- the end of the text
      have hby : f_X6_byteAt m1 (m1 22 0) = some (-1) := by rw [k3, hby, if_pos (by omega)]
      have x6 : f_X6_readsTerm_L12 N (f + 1) a m = some (-1, m1) := by
        rcases ab with rfl | rfl
        · exact rt_bad1 hs hby (by decide) (by decide) (by decide) (by decide) (by decide) (by decide) f
        · have lb := lbr_rng sk1 o.toNat (by omega)
          exact rt_bad0 hs hby (by decide) (by decide) (by decide) (by decide) (bracket_is hN sk1 (by omega)) (by omega) (by omega) (fun h => absurd h (by decide)) (fun h => absurd h (by decide)) (fun h => absurd h (by decide)) f
      refine Or.inr (Or.inl ⟨rd, m1, ?_, fun k g hg => ?_, x6, by rw [k3]; exact hend, f61⟩)
      · rcases ab with rfl | rfl
        · rw [if_pos rfl] at st; exact Or.inl st
        · rw [if_neg (by decide)] at st; exact Or.inr st
      · rw [show g = (g - e - 1) + 1 + e by omega, sk5, hend]
        exact end5 hl (by omega) k _ rd
    · have q1 : q < len := by omega
      have q0 : 0 ≤ q := by omega
      have h32 : tx q ≠ 32 := by
        rcases k2 with h | h
        · exact absurd h hend
        · exact h
      have hby : f_X6_byteAt m1 (m1 22 0) = some (tx q) := by rw [k3, hby, if_neg (by omega)]
      have bad : ∀ rd1, f_X4_takes N rd (tx q) q = some (0, rd1) → OT N lt tx len p rd m (some (-1, m1)) := fun rd1 h => by
        refine Or.inl ⟨q, rd1, m1, q0, q1, fun k g hg => ?_, rfl, k3, f61⟩
        rw [show g = (g - e - 1) + 1 + e by omega, sk5, step5 hl ht hb q0 q1 h32 (Or.inl rfl) h, if_neg (by decide)]
      have stp : ∀ rd1, f_X4_takes N rd (tx q) q = some (1, rd1) → ∀ k (g : Nat), f_X4_faultOf_L48 N lt len k (g + (e + 1)) p rd = f_X4_faultOf_L48 N lt len k g (q + 1) rd1 := fun rd1 h k g => by
        rw [show g + (e + 1) = g + 1 + e by omega, sk5, step5 hl ht hb q0 q1 h32 (Or.inr rfl) h, if_pos (by decide)]
      have go : ∀ rd1 m2 c1 o1 w1 a1, c ≤ c1 → f_X4_takes N rd (tx q) q = some (1, rd1) → TS tx len rd1 m2 (q + 1) c1 o1 w1 a1 → F5 rd rd1 → rd1 12 = rd 12 → F6 m1 m2 → OT N lt tx len p rd m (f_X6_readsTerm_L12 N f a1 m2) := fun rd1 m2 c1 o1 w1 a1 hc h hT h5 h12 h6 => by
        exact (ih (q + 1) rd1 m2 c1 o1 w1 a1 (by omega) hT).adv (e := e + 1) (by omega) (stp rd1 h) (f61.trans' h6) h5 h12 (by rw [nr.1, hT.2.1.1]; exact hc)
      rcases ab with rfl | rfl
      · rw [if_pos rfl] at st
        exact atom_step hN hl hs hby k3 q0 q1 (hb q q0 q1) tx1 nr1 sk1 st (by omega) l0 l1 bad go
      · rw [if_neg (by decide)] at st
        refine behind_step hN hl hs hby k3 q0 q1 (hb q q0 q1) tx1 nr1 sk1 st (by omega) l0 l1 bad (fun rd1 m2 r c' hc h b1 b2 b3 b4 b5 b6 b7 b8 b9 => ?_) go
        exact Or.inr (Or.inr ⟨e + 1, rd1, m2, r, c', by omega, by omega, fun k g => by rw [stp rd1 h, show q + 1 = p + ((e + 1 : Nat) : Int) by omega], rfl, by omega, ⟨b2.1, b2.2.1, b2.2.2, by rw [nr.1, b3.1]; exact hc⟩, b3, by omega, b5, b6, b7, f61.trans' b8, b9⟩)
