/-! read: the program's bench, put together -/
section
variable {N : Nat} {T : Int} {tx : Int → Int} {len : Int} {lt rd m m0 : Bd} {P : PL} {c e : Int}
theorem kids_of (hR : RS tx len rd m len c e) : ∀ u i, 0 ≤ u → u < c → rd 2 u ≠ 7 → 0 ≤ i → i < ar (rd 2 u) → 0 ≤ ct rd u i ∧ ct rd u i < c ∧ MG (m 9) u (1 + i) = ct rd u i := by
  intro u i u0 u1 h7 i0 i1
  have nv := hR.2.1.2.2.2.1 u u0 u1
  have nn := nv.2.2.2.2.2.1 h7
  have rg := MG_rng nv.1
  have a := ar_le (rd 2 u)
  have i2 : i = 0 ∨ i = 1 := by omega
  rcases i2 with rfl | rfl
  · have e1 : ct rd u 0 = rd 3 u := if_neg (fun h => h rfl)
    rw [e1, show (1 : Int) + 0 = 1 by decide]
    have := nn.2.1 (by omega)
    exact ⟨by omega, by omega, nv.2.2.2.2.1⟩
  · have e1 : ct rd u 1 = rd 4 u := if_pos (by decide)
    rw [e1, show (1 : Int) + 1 = 2 by decide]
    have := nn.2.2 (by omega)
    exact ⟨by omega, by omega, nn.1⟩
theorem lay5 (hN : 4000 ≤ N) (hR : RS tx len rd m len c e) (c120 : c ≤ 120) (he : 0 < e) (hM : RName lt m0 P) (hP : POK P) (hS : ∀ u, 0 ≤ u → u < c → rd 2 u = 7 → rd 12 (rd 3 u) = -1 → 0 ≤ lt 3 (rd 3 u)) (hB : ∀ u, 0 ≤ u → u < 8 → rd 13 u ≠ -1 → ¬Bk rd u) (b : Bd) : ∃ b' rF cnt, f_X4_layOut N lt b rd P = some (b', rF) ∧ BW b' cnt ∧ (∀ s : Nat, 4 ≤ s → b' s = b s) ∧ (∀ s : Nat, s ≠ 14 → s ≠ 15 → rF s = rd s) ∧ (∀ x, 0 ≤ x → x < c → f_X4_standsFor N rF x = some (S5 rF (cz rd 9 x)) ∧ 0 ≤ S5 rF (cz rd 9 x) ∧ S5 rF (cz rd 9 x) < cnt) ∧ (∀ u, 0 ≤ u → u < c → rd 2 u ≠ 7 → BG b' (rF 14 u) 0 = rd 2 u ∧ ∀ i, 0 ≤ i → i < ar (rd 2 u) → BG b' (rF 14 u) (1 + i) = S5 rF (cz rd 9 (ct rd u i))) ∧ ∀ l, 0 ≤ l → l < 8 → gl lt rd l → CB b' (rF 15 l) (gP P (lt 3 l)) (gP P (lt 3 l)).1 := by
  have c0 := hR.2.1.2.2.1
  have h8 := hR.2.2.2.2.1
  have nvs := hR.2.1.2.2.2.1
  have h2 : ∀ u, 0 ≤ u → u < c → 0 ≤ rd 2 u ∧ rd 2 u ≤ 7 := fun u u0 u1 => ⟨(nvs u u0 u1).2.1, (nvs u u0 u1).2.2.1⟩
  have kids := kids_of hR
  have h9 : ∀ x, 0 ≤ x → x < c → rd 2 x = 7 → itr (nx rd) 8 (rd 3 x) = -1 := fun x x0 x1 h7 => by
    have nv := nvs x x0 x1
    exact ends8 hR hB (by rw [← nv.2.2.2.2.1]; exact (MG_rng nv.1).2.2.1) (nv.2.2.2.2.2.2 h7).1
  obtain ⟨b2, rd2, cnt0, i1, i2⟩ := l6_lock (b0 := bs0 b 3 0) hN hM hP (fun l l0 l1 => by rcases h8 l l0 l1 with a | a <;> omega) N 0 (bs0 b 3 0) rd 0 (by omega) (by decide) (by decide) ⟨bs0_eq _ _ _ _, by decide, by decide, fun _ _ => rfl, fun _ _ => rfl, fun u u0 u1 => by omega, fun w w0 w1 => by omega⟩
  obtain ⟨q1, q2, q3, q4, q5, q6, q7⟩ := i2
  obtain ⟨b3, rF, cnt, j1, j2⟩ := l65_lock (rd0 := rd2) (b0 := b2) (rd := rd) (c0 := cnt0) (c := c) q2 (by omega) c0 c120 (by rw [q5 5 (by decide)]; exact hR.2.1.1) (q5 2 (by decide)) h2 N 0 b2 rd2 cnt0 (by omega) (by decide) c0 ⟨q1, Int.le_refl _, by omega, fun _ _ => rfl, fun _ _ => rfl, fun _ _ _ => rfl, fun u u0 u1 => by omega, fun u u' u0 uu u1 => by omega, fun w w0 w1 => by omega⟩
  obtain ⟨p1, p2, p3, p4, p5, p6, p7, p8, p9⟩ := j2
  have hF : ∀ s : Nat, s ≠ 14 → s ≠ 15 → rF s = rd s := fun s s14 s15 => by rw [p5 s s14, q5 s s15]
  have e15 : rF 15 = rd2 15 := p5 15 (by decide)
  have sf : ∀ x, 0 ≤ x → x < c → f_X4_standsFor N rF x = some (S5 rF (cz rd 9 x)) ∧ 0 ≤ S5 rF (cz rd 9 x) ∧ S5 rF (cz rd 9 x) < cnt := fun x x0 x1 => by
    refine ⟨cz5 hR c120 hF 8 x x0 x1 (h9 x x0 x1) _ N 0 (by decide) (by decide) (by omega), ?_⟩
    have cis : (0 ≤ cz rd 9 x ∧ cz rd 9 x < c ∧ rd 2 (cz rd 9 x) ≠ 7) ∨ (∃ l, 0 ≤ l ∧ l < 8 ∧ gl lt rd l ∧ cz rd 9 x = -1 - l) := cz_is hR hS 8 x x0 x1 (h9 x x0 x1)
    rcases cis with ⟨z0, z1, z7⟩ | ⟨l, l0, l1, hg, ez⟩
    · have a := p7 _ z0 z1 z7
      have es : S5 rF (cz rd 9 x) = rF 14 (cz rd 9 x) := if_pos z0
      rw [es]
      exact ⟨by omega, a.2.1⟩
    · have es : S5 rF (cz rd 9 x) = rd2 15 l := by
        unfold S5
        rw [ez, if_neg (by omega), show -1 - (-1 - l) = l by omega, e15]
      have a := (q6 l l0 l1).1 hg
      have g1 := (hP (lt 3 l) hg.2 ((hM l l0 l1).rng hP |>.2.2.2 hg.2).2.2.1).1.1
      rw [es]
      exact ⟨a.1, by omega⟩
  obtain ⟨b4, k1, k2, k3, k4⟩ := l114_lock (N := N) (rF := rF) (rd := rd) (b0 := b3) (F := fun x => S5 rF (cz rd 9 x)) (c := c) hN c0 c120 (by rw [hF 5 (by decide) (by decide)]; exact hR.2.1.1) (hF 2 (by decide) (by decide)) (hF 3 (by decide) (by decide)) (hF 4 (by decide) (by decide)) h2 (fun u u0 u1 hu => by have := p7 u u0 u1 hu; omega) p8 (fun u i u0 u1 hu i0 i1 => ⟨(kids u i u0 u1 hu i0 i1).1, (kids u i u0 u1 hu i0 i1).2.1⟩) (fun x x0 x1 => ⟨(sf x x0 x1).1, (sf x x0 x1).2.1, by have := (sf x x0 x1).2.2; omega⟩) N 0 b3 (by omega) (by decide) c0 (fun _ _ _ => rfl) (fun _ _ _ _ _ => rfl) (fun u i u0 u1 => by omega)
  have hl : ∀ l, 0 ≤ l → l < 8 → gl lt rd l → CB b4 (rF 15 l) (gP P (lt 3 l)) (gP P (lt 3 l)).1 := fun l l0 l1 hg v v0 v1 => by
    have a := (q6 l l0 l1).1 hg
    have w := a.2.2 v v0 v1
    rw [e15]
    have st : ∀ j, 0 ≤ j → j < 3 → BG b4 (rd2 15 l + v) j = BG b2 (rd2 15 l + v) j := fun j j0 j1 => by
      rw [k3 _ j j0 j1 (Or.inr (fun u u0 u1 hu => by have := p7 u u0 u1 hu; omega)), p6 _ j (by omega)]
    rw [st 0 (by decide) (by decide), st 1 (by decide) (by decide), st 2 (by decide) (by decide)]
    exact w
  have hn : ∀ u, 0 ≤ u → u < c → rd 2 u ≠ 7 → BG b4 (rF 14 u) 0 = rd 2 u ∧ ∀ i, 0 ≤ i → i < ar (rd 2 u) → BG b4 (rF 14 u) (1 + i) = S5 rF (cz rd 9 (ct rd u i)) := fun u u0 u1 hu =>
    ⟨by rw [k3 _ 0 (by decide) (by decide) (Or.inl rfl)]; exact (p7 u u0 u1 hu).2.2.1, fun i i0 i1 => k4 u i u0 u1 hu i0 i1⟩
  refine ⟨b4, rF, cnt, ?_, ⟨by rw [k2 3 (by decide) (by decide)]; exact p1, ?_, by omega, fun w w0 w1 => ?_⟩, fun s hs => by rw [k2 s (by omega) (by omega), p4 s hs, q4 s hs, bs0_ne _ _ (by omega)], hF, sf, hn, hl⟩
  · unfold f_X4_layOut f_X0_start
    rw [bn_some, i1, j1, k1]
  · obtain ⟨a, b, _⟩ := (hR.2.2.2.2.2.1 0 (by decide) he)
    have h13 := (hR.2.2.2.2.2.1 0 (by decide) he).2.2
    rcases h8 _ a b with q | q
    · exact absurd q.1 h13
    · have := (sf _ q.2.2.2.1 q.2.2.2.2.1).2
      omega
  · by_cases hw : w < cnt0
    · obtain ⟨l, l0, l1, hg, a1, a2⟩ := q7 w w0 hw
      have a := (q6 l l0 l1).1 hg
      have gg := ((hM l l0 l1).rng hP |>.2.2.2 hg.2).1
      have r := (hl l l0 l1 hg).rng gg (v := w) (by rw [e15]; exact a1) (by rw [e15]; exact a2)
      rw [e15] at r
      have al := ar_le (BG b4 w 0)
      refine ⟨r.1, r.2.1, fun i i0 i1 => ?_⟩
      have i2 : i = 0 ∨ i = 1 := by omega
      rcases i2 with rfl | rfl
      · rw [show (1 : Int) + 0 = 1 by decide]; omega
      · rw [show (1 : Int) + 1 = 2 by decide]; omega
    · obtain ⟨u, u0, u1, hu, eu⟩ := p9 w (by omega) w1
      have a := hn u u0 u1 hu
      rw [eu] at a
      have r := h2 u u0 u1
      rw [a.1]
      refine ⟨r.1, by omega, fun i i0 i1 => ?_⟩
      rw [a.2 i i0 i1]
      have kd := kids u i u0 u1 hu i0 i1
      exact (sf _ kd.1 kd.2.1).2
end
