/-! read: the fault on both sides, put together -/
theorem la22 : ∀ (f : Nat) (x : Int) (m : Bd), 8 - x < f → 0 ≤ x → x ≤ 8 → ∃ m', (∀ k, f_X6_readsAll_L22 k f x m = k m') ∧ (∀ s : Nat, s ≠ 23 → m' s = m s) ∧ (∀ j, x ≤ j → j < 8 → m' 23 j = -1) ∧ ∀ j, j < x → m' 23 j = m 23 j := by
  intro f
  induction f with
  | zero => intro x m h0 _ h2; omega
  | succ f ih =>
    intro x m h0 x0 x1
    by_cases e : x = 8
    · exact ⟨m, fun k => by rw [f_X6_readsAll_L22, ck1_of (by omega) (by omega), if_pos (by omega)], fun _ _ => rfl, fun j j0 j1 => by omega, fun _ _ => rfl⟩
    · obtain ⟨m', i1, i2, i3, i4⟩ := ih (x + 1) (bS m 23 (aS (m 23) x (-1))) (by omega) (by omega) (by omega)
      refine ⟨m', fun k => ?_, fun s hs => by rw [i2 s hs, bS_ne _ _ hs], fun j j0 j1 => ?_, fun j j1 => ?_⟩
      · rw [f_X6_readsAll_L22, ck1_of (by omega) (by omega), if_neg (by omega), ckA_of x0 (by omega)]
        exact i1 k
      · by_cases ej : j = x
        · rw [i4 j (by omega), bS_eq, ej, aS_eq]
        · exact i3 j (by omega) j1
      · rw [i4 j (by omega), bS_eq, aS_ne _ _ (by omega)]
theorem fault_of {N : Nat} (hN : 4000 ≤ N) {T : Int} {lt b m : Bd} {P : PL} (h : RR T lt b m P) (rd : Bd) : ∃ q rd' m', f_X4_faultOf N lt rd (lt 1 0) = some (q, rd') ∧ f_X6_readsAll N m = some (q, m') ∧ F9 m m' ∧ ((0 ≤ q ∧ q ≤ 120) ∨ (q = -1 ∧ ∃ c e, RS (m 7) (m 8 0) rd' m' (m 8 0) c e ∧ 0 < e ∧ c ≤ 120 ∧ (∀ u, 0 ≤ u → u < c → rd' 2 u = 7 → rd' 12 (rd' 3 u) = -1 → 0 ≤ lt 3 (rd' 3 u)) ∧ ∀ u, 0 ≤ u → u < 8 → rd' 13 u ≠ -1 → ¬Bk rd' u)) := by
  obtain ⟨hT1, hT2, hT3, hT4⟩ := h.1
  have hM := h.2.2.2.1
  have hP := h.2.2.2.2.2.1
  generalize hlen : m 8 0 = len at hT1 hT2 hT3 hT4
  obtain ⟨r12, a1, a2, a3⟩ := fill_of (N := N) (row := rd 12) (ni := 8) (x1 := 8) (x2 := -1) (by decide) (by decide) (by decide) (by omega)
  obtain ⟨r13, b1, b2, b3⟩ := fill_of (N := N) (row := rd 13) (ni := 8) (x1 := 8) (x2 := -1) (by decide) (by decide) (by decide) (by omega)
  unfold f_X4_faultOf f_X6_readsAll
  rw [hT1, a1, bn_some, b1, bn_some]
  generalize hrd0 : bS (bS (bs0 (bs0 (bs0 (bs0 (bs0 rd 0 0) 5 0) 7 0) 9 0) 11 0) 12 r12) 13 r13 = rd0
  have z0 : rd0 0 0 = 0 := by rw [← hrd0]; simp (disch := decide) only [bs0_ne, bS_ne, bs0_eq]
  have z5 : rd0 5 0 = 0 := by rw [← hrd0]; simp (disch := decide) only [bs0_ne, bS_ne, bs0_eq]
  have z7 : rd0 7 0 = 0 := by rw [← hrd0]; simp (disch := decide) only [bs0_ne, bS_ne, bs0_eq]
  have z9 : rd0 9 0 = 0 := by rw [← hrd0]; simp (disch := decide) only [bs0_ne, bS_ne, bs0_eq]
  have z11 : rd0 11 0 = 0 := by rw [← hrd0]; simp (disch := decide) only [bs0_ne, bS_ne, bs0_eq]
  have z12 : rd0 12 = r12 := by rw [← hrd0, bS_ne _ _ (by decide), bS_eq]
  have z13 : rd0 13 = r13 := by rw [← hrd0, bS_eq]
  obtain ⟨m1, c1, c2, c3, c4⟩ := la22 N 0 (bs0 (bs0 (bs0 (bs0 m 10 0) 22 0) 26 0) 33 0) (by omega) (by decide) (by decide)
  rw [c1]
  have y22 : m1 22 0 = 0 := by rw [c2 22 (by decide)]; simp (disch := decide) only [bs0_ne, bs0_eq]
  have y10 : m1 10 0 = 0 := by rw [c2 10 (by decide)]; simp (disch := decide) only [bs0_ne, bs0_eq]
  have y26 : m1 26 0 = 0 := by rw [c2 26 (by decide)]; simp (disch := decide) only [bs0_ne, bs0_eq]
  have y33 : m1 33 0 = 0 := by rw [c2 33 (by decide)]; simp (disch := decide) only [bs0_ne, bs0_eq]
  have f91 : F9 m m1 := fun s _ s10 s22 s23 _ _ s26 _ _ _ _ s33 => by rw [c2 s s23, bs0_ne _ _ s33, bs0_ne _ _ s26, bs0_ne _ _ s22, bs0_ne _ _ s10]
  have txm : TX (m 7) len m := ⟨hlen, fun _ _ _ => rfl⟩
  have hb : ∀ j, 0 ≤ j → j < len → 0 ≤ m 7 j ∧ m 7 j ≤ 127 := fun j j0 j1 => (hT4 j j0 j1).2
  have ht : ∀ j, 0 ≤ j → j < len → lt 0 j = m 7 j := fun j j0 j1 => (hT4 j j0 j1).1
  obtain ⟨e1, m2, k1, k2, k3, k4, k5, k6⟩ := skip_lock (tx := m 7) hT3 hb N 0 m1 (by omega) (by decide) hT2 (txm.f9 f91) y22
  have f92 : F9 m m2 := f91.trans' (fun s _ _ a _ _ _ _ _ _ _ _ _ => k4 s a)
  have hs : f_X6_skips N m1 = some m2 := by unfold f_X6_skips; exact k6 _
  rw [hs, bn_some]
  have RS0 : RS (m 7) len rd0 m2 (0 + (e1 : Int)) 0 0 := by
    refine ⟨txm.f9 f92, ⟨z5, by rw [k4 10 (by decide)]; exact y10, Int.le_refl 0, fun v v0 v1 => by omega, by rw [k4 26 (by decide), y26]; rfl, fun v v1 => by omega⟩, ⟨z0, z7, z9⟩, ⟨z11, by rw [k4 33 (by decide)]; exact y33, ?_, by omega⟩, fun l l0 l1 => Or.inl ⟨by rw [z13]; exact b2 l l0 l1, by rw [z12]; exact a2 l l0 l1, by rw [k4 23 (by decide)]; exact c3 l l0 l1⟩, fun i i0 i1 => by omega, fun i j i0 ij j1 => by omega, fun l l0 l1 hl => ?_⟩
    · have up : ∀ n : Nat, n ≤ 8 → tl (rd0 13) n = 0 := by
        intro n
        induction n with
        | zero => intro _; rfl
        | succ n ih =>
          intro hn
          have el : tl (rd0 13) (n + 1) = tl (rd0 13) n + (if rd0 13 n = -1 then 0 else 1) := rfl
          rw [el, ih (by omega), z13, b2 n (by omega) (by omega), if_pos rfl]
          rfl
      exact (up 8 (Nat.le_refl 8)).symm
    · rw [z13, b2 l l0 l1] at hl; exact absurd rfl hl
  generalize hkf : (fun (rd_48 : Bd) => ck1 (rd_48 0 0) <| if (rd_48 0 0) ≠ 0 then some (len, rd_48) else ck1 (rd_48 11 0) <| if (rd_48 11 0) ≠ 0 then bn (f_X4_strangeLetter N lt rd_48) fun q110_17 => ck1 q110_17 <| if q110_17 = (-1) then bn (f_X4_emptyLetter N rd_48) fun q127_20 => some (q127_20, rd_48) else some (q110_17, rd_48) else some (len, rd_48)) = kf
  have hkf' : ∀ r, kf r = (ck1 (r 0 0) <| if (r 0 0) ≠ 0 then some (len, r) else ck1 (r 11 0) <| if (r 11 0) ≠ 0 then bn (f_X4_strangeLetter N lt r) fun q110_17 => ck1 q110_17 <| if q110_17 = (-1) then bn (f_X4_emptyLetter N r) fun q127_20 => some (q127_20, r) else some (q110_17, r) else some (len, r)) := fun r => by rw [← hkf]
  have hk : ∀ rd' : Bd, (rd' 0 0 = 1 ∨ rd' 0 0 = 2 ∨ rd' 0 0 = 3 ∨ (rd' 0 0 = 0 ∧ rd' 11 0 = 0)) → kf rd' = some (len, rd') := fun rd' hd => by
    rw [hkf']
    by_cases z : rd' 0 0 = 0
    · have w : rd' 11 0 = 0 := by omega
      rw [z, ck1_of (by decide) (by decide), if_neg z0n, w, ck1_of (by decide) (by decide), if_neg z0n]
    · rw [ck1_of (by omega) (by omega), if_pos z]
  have sk : f_X4_faultOf_L48 N lt len kf N 0 rd0 = f_X4_faultOf_L48 N lt len kf (N - e1) (0 + (e1 : Int)) rd0 := by
    rw [← skip5 hT3 ht e1 0 (by decide) k1 (fun j j0 j1 => k5 j j0 j1), show N - e1 + e1 = N by omega]
  rw [sk]
  rcases all_lock hN hT3 hT2 ht hb kf hk N (0 + (e1 : Int)) rd0 m2 0 0 (by omega) (by omega) k1 k2 k3 RS0 (N - e1) (by omega) with ⟨q, rd', m', i1, i2, i3, i4, i5⟩ | ⟨rd', m', c, e, i1, i2, i3, i4, i5⟩
  · rw [i3, i4]
    exact ⟨q, rd', m', rfl, rfl, f92.trans' i5, Or.inl ⟨i1, by omega⟩⟩
  · rw [i1, i2, hkf']
    have hR := i3
    have c120 : c ≤ 120 := by have := hR.2.2.2.1.2.2.2; omega
    have c0 := hR.2.1.2.2.1
    have e8 := hR.e8
    have f9' := f92.trans' i5
    have hM' : RName lt m' P := by
      unfold RName
      rw [f9' 0 (by decide) (by decide) (by decide) (by decide) (by decide) (by decide) (by decide) (by decide) (by decide) (by decide) (by decide) (by decide), f9' 1 (by decide) (by decide) (by decide) (by decide) (by decide) (by decide) (by decide) (by decide) (by decide) (by decide) (by decide) (by decide)]
      exact hM
    have lr := l7_rng (rd' 2) c.toNat
    have l0 : l7 (rd' 2) 0 = 0 := rfl
    rw [hR.2.2.1.1, ck1_of (by decide) (by decide), if_neg z0n, hR.2.2.2.1.1, ck1_of (by omega) (by omega), if_pos (by omega)]
    rcases strange_lock (T := T) (b := b) hT3 hR hM' hP c120 N 0 N (by omega) (by omega) (by omega) with ⟨q, s1, s2, s3, s4⟩ | ⟨s1, s2, s3⟩
    · have s3' : f_X4_strangeLetter N lt rd' = some q := s3 _
      rw [s3', bn_some, ck1_of (by omega) (by omega), if_neg (by omega)]
      exact ⟨q, rd', m', rfl, s4 _, f9', Or.inl ⟨s1, by omega⟩⟩
    · have s1' : f_X4_strangeLetter N lt rd' = some (-1) := s1 _
      rw [s1', bn_some, ck1_of (by decide) (by decide), if_pos rfl]
      have s2' := s2 (f_X6_readsAll_L256 N m' (fun (x1_256 : Int) => some (x1_256, m')) N (-1) 0)
      rw [l0] at s2'
      rw [s2']
      obtain ⟨y, y1, y2, y3, y4⟩ := empty6 hN hT3 hR c120 (fun (x1_256 : Int) => some (x1_256, m')) N 0 (-1) (by omega) (by decide) (by decide) (by decide) (by decide) (Or.inl ⟨rfl, fun u u0 u1 => by omega⟩)
      rw [y4]
      rcases empty5 hN hR c120 N 0 (by omega) (by omega) (fun j j0 j1 => by omega) with ⟨j, j0, j1, j2, j3, j4⟩ | ⟨j1, j2⟩
      · have j4' : f_X4_emptyLetter N rd' = some (rd' 13 (rd' 10 j)) := j4 _
        rw [j4', bn_some]
        have ey := same_least hR y1 j0 j1 j2 j3
        have lj := hR.2.2.2.2.2.1 j j0 j1
        have r := hR.2.2.2.2.1 _ lj.1 lj.2.1
        refine ⟨rd' 13 (rd' 10 j), rd', m', rfl, by rw [ey], f9', Or.inl ⟨by omega, by omega⟩⟩
      · have j2' : f_X4_emptyLetter N rd' = some (-1) := j2 _
        rw [j2', bn_some]
        have nl := none_least hR y1 j1
        exact ⟨-1, rd', m', rfl, by rw [nl.1], f9', Or.inr ⟨rfl, c, e, hR, i4, c120, fun u u0 u1 => s3 u (by omega) u1, nl.2⟩⟩
