/-! bound: both graphs, the call -/
def TN (P : PL) (hx hy : Int) (m : Bd) (p : Int) : Prop := ∀ k a x y, 0 ≤ k → k < p → IN (gP P hx).1 (gP P hy).1 a x y → m 19 k = wh a x y → TL P hx hy m a x y ((gP P hx).1 + (gP P hy).1 + k)
theorem tM_out {P : PL} {hx hy : Int} {m : Bd} (gx : GOK (gP P hx)) (gy : GOK (gP P hy)) (z rt : Int) : ∀ (f : Nat) (q p : Int) (m1 : Bd), 3200 - p < f → 0 ≤ p → p ≤ q → (∀ s : Nat, s < 9 → m1 s = m s) → MC P hx hy m1 q → TN P hx hy m1 p → ∃ q' m', q ≤ q' ∧ (∀ s : Nat, s < 9 → m' s = m s) ∧ MC P hx hy m' q' ∧ TN P hx hy m' q' ∧ (∀ w, m1 18 w ≠ 0 → m' 18 w = m1 18 w) ∧ ∀ k, f_X6_bound_L102 z (gP P hx).1 rt k f p m1 = k m' := by
  intro f
  induction f with
  | zero => intro q p m1 h0 p0 pq _ hM; have := hM.le gx gy; omega
  | succ f ih =>
    intro q p m1 h0 p0 pq hf hM hT
    have qle := hM.le gx gy
    obtain ⟨h1, h2, h3, h4, h5, h6, h7, h8⟩ := id hM
    by_cases hp : q ≤ p
    · have e : p = q := by omega
      subst e
      refine ⟨p, m1, Int.le_refl p, hf, hM, hT, fun _ _ => rfl, fun k => ?_⟩
      rw [f_X6_bound_L102, h2, ck1_of (by omega) (by omega), ck1_of (by omega) (by omega), if_pos (Int.le_refl _)]
    · obtain ⟨a, x, y, hi, q1, q2⟩ := h5 p p0 (by omega)
      obtain ⟨m2, q3, t1, t2, t3, t4⟩ := tellsB_of gx gy hM hi p0 (by omega) q1 q2
      have q33 := t3.1
      have hT2 : TN P hx hy m2 (p + 1) := by
        intro k a' x' y' k0 k1 hi' e
        have kq : k < q := by omega
        rw [t3.2.2.2.2 k kq] at e
        by_cases ek : k = p
        · rw [ek, q1] at e
          obtain ⟨rfl, rfl, rfl⟩ := wh_inj gx.2 gy.2 hi hi' e
          rw [ek]; exact t4
        · exact (hT k a' x' y' k0 (by omega) hi' e).mono gx gy hi' t3 (by omega) (by omega) (by omega) h3
      obtain ⟨q', m', l1, l2, l3, l4, l5, l6⟩ := ih q3 (p + 1) m2 (by omega) (by omega) (by omega) (fun s hs => by rw [t3.2.1 s hs]; exact hf s hs) t2 hT2
      refine ⟨q', m', by omega, l2, l3, l4, fun w hw => by rw [l5 w (by rw [t3.2.2.2.1 w hw]; exact hw), t3.2.2.2.1 w hw], fun k => ?_⟩
      rw [f_X6_bound_L102, h2, ck1_of (by omega) (by omega), ck1_of (by omega) (by omega), if_neg hp, ckA_of p0 (by omega), q1, t1, bn_some]
      exact l6 k
theorem bnd_init {m : Bd} (x1 x4 x5 : Int) : ∀ (f : Nat) (i : Int) (m1 : Bd), 3200 - i < f → 0 ≤ i → i ≤ 3200 → (∀ s : Nat, s ≠ 18 → m1 s = m s) → (∀ v, 0 ≤ v → v < i → m1 18 v = 0) → ∃ m', (∀ s : Nat, s ≠ 18 → m' s = m s) ∧ (∀ v, 0 ≤ v → v < 3200 → m' 18 v = 0) ∧ ∀ k, f_X6_bound_L51 x1 x4 x5 k f i m1 = k m' := by
  intro f
  induction f with
  | zero => intro i m1 h0 _ h2; omega
  | succ f ih =>
    intro i m1 h0 i0 i1 hf hd
    by_cases hx : 3200 ≤ i
    · refine ⟨m1, hf, fun v v0 v1 => hd v v0 (by omega), fun k => ?_⟩
      simp (disch := omega) only [f_X6_bound_L51, ↓ck1_of, ↓if_pos]
    · obtain ⟨m', k1, k2, k3⟩ := ih (i + 1) (bS m1 18 (aS (m1 18) i 0)) (by omega) (by omega) (by omega) (fun s hs => by rw [bS_ne _ _ hs]; exact hf s hs) (fun v v0 v1 => by
        rw [bS_eq]
        by_cases c : v = i
        · rw [c, aS_eq]
        · rw [aS_ne _ _ c]; exact hd v v0 (by omega))
      refine ⟨m', k1, k2, fun k => ?_⟩
      simp (disch := omega) only [f_X6_bound_L51, ↓ck1_of, ↓ckA_of, ↓if_neg]
      exact k3 k
/-- where both benches hold the graphs themselves -/
theorem zone {P : PL} {hx hy : Int} (gx : GOK (gP P hx)) (gy : GOK (gP P hy)) {b : Bd} {w : Int → Int} (h1 : CB b 0 (gP P hx) (gP P hx).1) (h2 : CB b (gP P hx).1 (gP P hy) (gP P hy).1) (hw : WX P hx hy w) {u : Int} (u0 : 0 ≤ u) (u1 : u < (gP P hx).1 + (gP P hy).1) : 0 ≤ BG b u 0 ∧ BG b u 0 ≤ 6 ∧ BG b u 0 = MG w u 0 ∧ ∀ j, 1 ≤ j → j < 3 → BG b u j = MG w u j ∧ 0 ≤ BG b u j ∧ BG b u j < (gP P hx).1 + (gP P hy).1 := by
  have g1 := gx.1.1
  have g2 := gy.1.1
  by_cases c : u < (gP P hx).1
  · have p := h1 u u0 c
    have q := hw.1 u u0 c
    have r := gx.node u0 c
    rw [show 0 + u = u by omega] at p q
    refine ⟨by omega, by omega, by rw [p.1, q.2.1], fun j j0 j1 => ?_⟩
    have hj : j = 1 ∨ j = 2 := by omega
    rcases hj with rfl | rfl
    · rw [p.2.1, q.2.2.1]; exact ⟨rfl, by omega, by omega⟩
    · rw [p.2.2, q.2.2.2]; exact ⟨rfl, by omega, by omega⟩
  · have p := h2 (u - (gP P hx).1) (by omega) (by omega)
    have q := hw.2 (u - (gP P hx).1) (by omega) (by omega)
    have r := gy.node (v := u - (gP P hx).1) (by omega) (by omega)
    rw [show (gP P hx).1 + (u - (gP P hx).1) = u by omega] at p q
    refine ⟨by omega, by omega, by rw [p.1, q.2.1], fun j j0 j1 => ?_⟩
    have hj : j = 1 ∨ j = 2 := by omega
    rcases hj with rfl | rfl
    · rw [p.2.1, q.2.2.1]; exact ⟨rfl, by omega, by omega⟩
    · rw [p.2.2, q.2.2.2]; exact ⟨rfl, by omega, by omega⟩
theorem bnd_eqv {P : PL} {hx hy : Int} (gx : GOK (gP P hx)) (gy : GOK (gP P hy)) {b c m : Bd} {n q : Int} (hB : BC P hx hy b c n) (hD : DN P hx hy b c n n 0) (hM : MC P hx hy m q) (hT : TN P hx hy m q) {a x y u w : Int} (hi : IN (gP P hx).1 (gP P hy).1 a x y) (h5 : N5 P hx hy c a x y u) (h6 : N6 m a x y w) : Eqv (BG b) u (MG (m 9)) w := by
  have g1 := gx.1.1
  have g2 := gy.1.1
  obtain ⟨-, -, -, -, b5, b6, b7, b8, b9⟩ := id hB
  obtain ⟨-, -, q0, m4, m5, m6, m7, m8⟩ := id hM
  refine Eqv.bisim (fun u w => (u = w ∧ 0 ≤ u ∧ u < (gP P hx).1 + (gP P hy).1) ∨ ∃ a x y, IN (gP P hx).1 (gP P hy).1 a x y ∧ N5 P hx hy c a x y u ∧ N6 m a x y w) ?_ (Or.inr ⟨a, x, y, hi, h5, h6⟩)
  rintro u w (⟨rfl, u0, u1⟩ | ⟨a, x, y, hi, h5, h6⟩)
  · have zn := zone gx gy b5 b6 m4 u0 u1
    refine ⟨zn.2.2.1, fun i i0 i1 => Or.inl ?_⟩
    have har := ar_le (BG b u 0)
    have := zn.2.2.2 (1 + i) (by omega) (by omega)
    exact ⟨this.1, this.2.1, this.2.2⟩
  · obtain ⟨ha, w0, w1, w2, w3⟩ := id hi
    have rx := gx.node w0 w1
    have ry := gy.node w2 w3
    obtain ⟨k, k0, k1, kw, ke⟩ : ∃ k, 0 ≤ k ∧ k < q ∧ w = (gP P hx).1 + (gP P hy).1 + k ∧ m 19 k = wh a x y := by
      rcases m7 a x y hi with e | ⟨k, k0, k1, e, e2⟩
      · have := h6.1
        have := h6.2
        omega
      · have := h6.1
        exact ⟨k, k0, k1, by omega, e2⟩
    have tl := hT k a x y k0 k1 hi ke
    rw [← kw] at tl
    have copy : ∀ v, u = v → 0 ≤ v → v < (gP P hx).1 + (gP P hy).1 → m 9 w = m 9 v → BG b u 0 = MG (m 9) w 0 ∧ ∀ i, 0 ≤ i → i < ar (BG b u 0) → (BG b u (1 + i) = MG (m 9) w (1 + i) ∧ 0 ≤ BG b u (1 + i) ∧ BG b u (1 + i) < (gP P hx).1 + (gP P hy).1) ∨ ∃ a x y, IN (gP P hx).1 (gP P hy).1 a x y ∧ N5 P hx hy c a x y (BG b u (1 + i)) ∧ N6 m a x y (MG (m 9) w (1 + i)) := by
      rintro v rfl v0 v1 e
      have zn := zone gx gy b5 b6 m4 v0 v1
      refine ⟨by rw [MG_eq e]; exact zn.2.2.1, fun i i0 i1 => Or.inl ?_⟩
      have har := ar_le (BG b u 0)
      have := zn.2.2.2 (1 + i) (by omega) (by omega)
      rw [MG_eq e]
      exact ⟨this.1, this.2.1, this.2.2⟩
    rcases h5 with ⟨c1, c2⟩ | ⟨c1, c2, c3⟩ | ⟨c1, c2, c3, c4⟩
    · rcases tl with ⟨-, t2⟩ | ⟨t1, -, -⟩ | ⟨t1, -, -, -⟩
      · exact copy _ c2 (by omega) (by omega) t2
      · exact absurd c1 t1
      · exact absurd c1 t1
    · rcases tl with ⟨t1, -⟩ | ⟨-, -, t2⟩ | ⟨-, t1, -, -⟩
      · exact absurd t1 c1
      · exact copy _ c3 (by omega) (by omega) t2
      · exact absurd c2 t1
    · rcases tl with ⟨t1, -⟩ | ⟨-, t1, -⟩ | ⟨-, -, t3, t4⟩
      · exact absurd t1 c1
      · exact absurd t1 c2
      · rcases b9 a x y hi with e | ⟨j, j0, j1, e, e2⟩
        · exact absurd (by omega) c4
        · have eu : u = (gP P hx).1 + (gP P hy).1 + j := by omega
          obtain ⟨a', x', y', hi', f1, f2, f3, f4⟩ := b7 j j0 j1
          rw [e2] at f1
          obtain ⟨rfl, rfl, rfl⟩ := nu_inj gx.2 gy.2 hi hi' f1
          have bb := bh_rng (a := a) (y := GP (gP P hy) y 0) rx.1 rx.2.1
          rw [← eu] at f3
          refine ⟨by rw [f3, t3], fun i i0 i1 => Or.inr ?_⟩
          rw [f3] at i1
          by_cases he : GP (gP P hx) x 0 = GP (gP P hy) y 0
          · have ebh : bh a (GP (gP P hx) x 0) (GP (gP P hy) y 0) = GP (gP P hx) x 0 := by unfold bh; rw [if_pos he]
            rw [ebh] at i1
            have har := ar_le (GP (gP P hx) x 0)
            have px : 0 ≤ GP (gP P hx) x (1 + i) ∧ GP (gP P hx) x (1 + i) < (gP P hx).1 := two (Q := fun j => 0 ≤ GP (gP P hx) x j ∧ GP (gP P hx) x j < (gP P hx).1) ⟨rx.2.2.1, rx.2.2.2.1⟩ ⟨rx.2.2.2.2.1, rx.2.2.2.2.2⟩ i0 (by omega)
            have py : 0 ≤ GP (gP P hy) y (1 + i) ∧ GP (gP P hy) y (1 + i) < (gP P hy).1 := two (Q := fun j => 0 ≤ GP (gP P hy) y j ∧ GP (gP P hy) y j < (gP P hy).1) ⟨ry.2.2.1, ry.2.2.2.1⟩ ⟨ry.2.2.2.2.1, ry.2.2.2.2.2⟩ i0 (by omega)
            refine ⟨_, _, _, ⟨turnB_in ha, px.1, px.2, py.1, py.2⟩, ?_, t4 he i i0 i1⟩
            rw [eu]
            exact hD j a x y j0 j1 hi e2 he i i0 i1 (Or.inl j1)
          · have := bb.2.2 he
            omega
theorem bound_step {N : Nat} (hN : 20000 ≤ N) {T : Int} {lt b m c : Bd} {P : PL} (h : RR T lt b m P) {up x y t : Int} (hu : inR up) (hx : inR x) (hy : inR y) (ht : inR t) : Step2m T (f_X5_bound N lt b c P up x y t) (f_X6_bound N m up x y t) := by
  unfold f_X5_bound f_X6_bound
  have iu := in_of (v := up) (l := 0) (h := 1) hu (by decide) (by decide)
  obtain ⟨u0, u1⟩ := hu
  have gany : ∀ w, inR w → ∃ g, f_X5_graphOf lt w = some g := fun w hw => by
    rcases nm_of h.2.2.2.1 h.2.2.2.2.2.1 hw with ⟨e1, e2⟩ | ⟨g, e1, e2, n⟩ <;> exact ⟨_, e1⟩
  by_cases cu : 0 ≤ up ∧ up ≤ 1
  · rw [if_pos cu] at iu
    obtain ⟨gy0, ey⟩ := gany y hy
    rcases nm_of h.2.2.2.1 h.2.2.2.2.2.1 hx with ⟨e1, e2⟩ | ⟨g, e1, e2, n⟩
    · simp (disch := omega) only [iu, e1, e2, ey, ↓bn_some, ↓jn_eq, ↓ck1_of, ↓if_pos, ↓if_neg]
      exact bad2m h
    · obtain ⟨a0, a1, p0, p1, gg, -, -⟩ := id n
      clear ey gy0
      rcases nm_of h.2.2.2.1 h.2.2.2.2.2.1 hy with ⟨e3, e4⟩ | ⟨g', e3, e4, n'⟩
      · simp (disch := omega) only [iu, e1, e2, e3, e4, ↓bn_some, ↓jn_eq, ↓ck1_of, ↓if_pos, ↓if_neg]
        exact bad2m h
      · obtain ⟨a0', a1', p0', p1', gg', -, -⟩ := id n'
        rcases names_of ht with ⟨t0, t1, e5, e6⟩ | ⟨_, e5, e6⟩
        · have s := n.sz
          have s' := n'.sz
          have hi : IN (gP P g).1 (gP P g').1 (1 - up) 0 0 := ⟨by omega, by omega, by omega, by omega, by omega⟩
          -- the program
          obtain ⟨c1, d1, d2, d3, d4⟩ := cstart_of hN (c0 := c) p0 p1 p0' p1' gg gg'
          obtain ⟨b1, k1, k2, k3, k4, k5⟩ := putAll_of (N := N) (by omega) (b := bs0 b 3 0) p0 p1 gg (bs0_eq _ _ _ _) (by omega) (by omega)
          obtain ⟨b2, l1, l2, l3, l4, l5⟩ := putAll_of (N := N) (by omega) (b := b1) (cnt := (gP P g).1) p0' p1' gg' (by omega) (by omega) (by omega)
          have hB0 : BC P g g' b2 c1 0 := ⟨d2, d3, by omega, by omega, k4.cong (fun v j _ hv => l5 v j (by omega)), l4, fun k k0 k1 => by omega, fun j k j0 j1 => by omega, fun a x y hi => Or.inl (d4 a x y hi)⟩
          obtain ⟨root, b3, c3, n3, f1, f2, f3, f4, f5, f6⟩ := bN_of hB0 hi
          rw [show 1 - (1 - up) = up by omega] at f1
          obtain ⟨n4, b4, c4, v1, v2, v3, v4, v5, v6⟩ := bB_out hN (b0 := b) (x5 := root) gg gg' N n3 0 b3 c3 (by omega) (by omega) (by have := f3.1; omega) (fun s hs => by rw [f3.2.1 s hs, l2 s hs, k2 s hs, bs0_ne _ _ (by omega)]) f2 (fun k a x y k0 k1 _ _ _ i i0 i1 hl => by omega)
          -- the reference
          obtain ⟨m1, q1, q2, q3, q4, q5⟩ := both_of (N := N) (by omega) n n'
          obtain ⟨m2, w1, w2, w3⟩ := bnd_init (m := m1) up t (gP P g).1 N 0 m1 (by omega) (by omega) (by omega) (fun _ _ => rfl) (fun v v0 v1 => by omega)
          have o9 : (bs0 m2 30 0) 9 = m1 9 := by rw [bs0_ne _ _ (by decide), w1 9 (by decide)]
          have hM0 : MC P g g' (bs0 m2 30 0) 0 := by
            refine ⟨by rw [bs0_ne _ _ (by decide), w1 10 (by decide)]; omega, bs0_eq _ _ _ _, Int.le_refl 0, by rw [o9]; exact ⟨q4, q5⟩, fun k k0 k1 => by omega, fun j k j0 j1 => by omega, fun a x y hi => Or.inl ?_, fun u u0 u1 => ?_⟩
            · have nq := wh_of gg.2 gg'.2 hi
              rw [bs0_ne _ _ (by decide)]
              exact w2 _ nq.1 nq.2.1
            · rw [o9]
              have pr : PW (m1 9 u) ∧ MG (m1 9) u 0 ≤ 6 := by
                by_cases cu : u < (gP P g).1
                · have r := q4.rng gg (v := u) (by omega) (by omega)
                  exact ⟨r.1, r.2.2.1⟩
                · have r := q5.rng gg' (v := u) (by omega) (by omega)
                  exact ⟨r.1, r.2.2.1⟩
              have zn := zone gg gg' hB0.2.2.2.2.1 hB0.2.2.2.2.2.1 (w := m1 9) ⟨q4, q5⟩ u0 (by omega)
              refine ⟨pr.1, by rw [MG_eq (w := m1 9) (u := 0) (v := u) rfl]; exact pr.2, fun j j0 j1 => ?_⟩
              rw [MG_eq (w := m1 9) (u := 0) (v := u) rfl]
              have := zn.2.2.2 j j0 j1
              omega
          obtain ⟨root2, m3, qq, z1, z2, z3, z4, z5⟩ := pO_of gg gg' hM0 hi (-1)
          rw [Int.add_zero, show 1 - (1 - up) = up by omega] at z1
          obtain ⟨q6, m4, y1, y2, y3, y4, y5, y6⟩ := tM_out (m := m) gg gg' t root2 N qq 0 m3 (by omega) (by omega) (by have := z3.1; omega) (fun s hs => by rw [z3.2.1 s hs, bs0_ne _ _ (by omega), w1 s (by omega), q2 s (by omega) (by omega)]) z2 (fun k a x y k0 k1 => by omega)
          have z4' : N6 m4 (1 - up) 0 0 root2 := ⟨by rw [y5 _ (by rw [z4.1]; have := z4.2; omega)]; exact z4.1, z4.2⟩
          have hE := bnd_eqv gg gg' v3 v4 y3 y4 hi (f4.mono v5) z4'
          have n4le := v3.le
          have q6le := y3.le gg gg'
          have n4g := v3.2.2.2.1
          have hW : WG (BG b4) ((gP P g).1 + (gP P g').1 + n4) := by
            intro v v0 vn
            have har := ar_le (BG b4 v 0)
            by_cases cv : v < (gP P g).1 + (gP P g').1
            · have zn := zone gg gg' v3.2.2.2.2.1 v3.2.2.2.2.2.1 (w := m4 9) y3.2.2.2.1 v0 cv
              refine ⟨zn.1, zn.2.1, fun i i0 i1 => ?_⟩
              have := zn.2.2.2 (1 + i) (by omega) (by omega)
              omega
            · obtain ⟨a', x', y', hi', r1, r2, r3, r4⟩ := v3.2.2.2.2.2.2.1 (v - ((gP P g).1 + (gP P g').1)) (by omega) (by omega)
              rw [show (gP P g).1 + (gP P g').1 + (v - ((gP P g).1 + (gP P g').1)) = v by omega] at r3 r4
              have rx := gg.node hi'.2.1 hi'.2.2.1
              have bb := bh_rng (a := a') (y := GP (gP P g') y' 0) rx.1 rx.2.1
              refine ⟨by omega, by omega, fun i i0 i1 => ?_⟩
              exact r4 (1 + i) (by omega) (by omega)
          have hS : MS m4 (fun v => 0 ≤ v ∧ v < (gP P g).1 + (gP P g').1 + q6) ((gP P g).1 + (gP P g').1 + q6) := by
            refine ⟨y3.1, by have := y3.2.2.1; omega, by omega, fun v vv => ?_⟩
            have w8 := y3.2.2.2.2.2.2.2 v vv.1 vv.2
            have har := ar_le (MG (m4 9) v 0)
            refine ⟨vv.1, vv.2, w8.1, by rw [← MG_eq (w := m4 9) (w' := fun _ => m4 9 v) (u := 0) (v := v) rfl]; exact w8.2.1, fun i i0 i1 => ?_⟩
            have := w8.2.2 (1 + i) (by omega) (by omega)
            rw [MG_eq (w := m4 9) (w' := fun _ => m4 9 v) (u := 0) (v := v) rfl] at this
            exact this
          have r2b : 0 ≤ root2 ∧ root2 < (gP P g).1 + (gP P g').1 + q6 := by
            have := z4.2
            omega
          obtain ⟨v, lt', b', P', m', res, r1, r2, r3, r4, r5⟩ := mk_of (N := N) (by omega) h ⟨v3.2.2.1, by omega, by omega, hW⟩ (root := root) f5 (by omega) (v2 8 (by decide)) y2 hS (root2 := root2) r2b hE t0 t1
          have bo : ∀ s : Int, s = up → f_X1_boundOf N b c P g g' s = some (res, b', c4, P') := by
            rintro s rfl
            unfold f_X1_boundOf f_X0_start
            rw [d1, bn_some, bn_some, k1, bn_some]
            dsimp only
            rw [l1, bn_some]
            dsimp only
            rw [f1, bn_some]
            dsimp only
            rw [v6, r1, bn_some]
          have mo : ∀ s : Int, s = up → (bn (f_X6_pairOf (bs0 m2 30 0) 0 (gP P g).1 s (gP P g).1) fun q94_18 => f_X6_bound_L102 t (gP P g).1 q94_18.1 (fun (m_102 : Bd) => bn (f_X6_gives N m_102 q94_18.1 t) fun q135_24 => some (q135_24.1, q135_24.2)) N 0 q94_18.2) = some (v, m') := by
            rintro s rfl
            rw [z1, bn_some]
            dsimp only
            rw [y6, r3, bn_some]
          rw [e1, bn_some, e3, bn_some, jn_eq, ck1_of u0 u1, if_neg (show ¬ up < 0 by omega), if_neg (show ¬ 1 < up by omega), if_neg (show ¬ g < 0 by omega), if_neg (show ¬ g' < 0 by omega), e5, bn_some, ck1_of (show -2147483648 ≤ (1 : Int) by omega) (by omega), if_pos (show (1 : Int) ≠ 0 by decide), jn_eq, iu, bn_some, jn_eq, ck1_of (show -2147483648 ≤ (1 : Int) by omega) (by omega), if_neg (show ¬ (1 : Int) = 0 by decide), e2, bn_some, ck1_of (show -2147483648 ≤ (1 : Int) by omega) (by omega), if_neg (show ¬ (1 : Int) = 0 by decide), e4, bn_some, ck1_of (show -2147483648 ≤ (1 : Int) by omega) (by omega), if_neg (show ¬ (1 : Int) = 0 by decide), e6, bn_some, ck1_of (show -2147483648 ≤ (1 : Int) by omega) (by omega), if_pos (show (1 : Int) ≠ 0 by decide), q1, bn_some]
          dsimp only
          rw [w3, jn_eq, ck1_of u0 u1]
          by_cases c1 : up = 1
          · rw [if_neg (fun h => h c1), if_neg (fun h => h c1)]
            dsimp only
            rw [bo 1 c1.symm, mo 1 c1.symm, bn_some]
            dsimp only
            rw [r2, bn_some]
            exact ⟨v, lt', b', c4, P', m', rfl, rfl, r4, r5⟩
          · rw [if_pos c1, if_pos c1]
            dsimp only
            rw [bo 0 (by omega), mo 0 (by omega), bn_some]
            dsimp only
            rw [r2, bn_some]
            exact ⟨v, lt', b', c4, P', m', rfl, rfl, r4, r5⟩
        · simp (disch := omega) only [iu, e1, e2, e3, e4, e5, e6, ↓bn_some, ↓jn_eq, ↓ck1_of, ↓if_pos, ↓if_neg]
          exact bad2m h
  · rw [if_neg cu] at iu
    obtain ⟨gx0, ex⟩ := gany x hx
    obtain ⟨gy0, ey⟩ := gany y hy
    by_cases c : up < 0
    · simp (disch := omega) only [iu, ex, ey, ↓bn_some, ↓jn_eq, ↓ck1_of, ↓if_pos, ↓if_neg]
      exact bad2m h
    · simp (disch := omega) only [iu, ex, ey, ↓bn_some, ↓jn_eq, ↓ck1_of, ↓if_pos, ↓if_neg]
      exact bad2m h
