/-! read: both benches hold the same trees -/
def RW5 (lt rd rF m2 : Bd) (P : PL) (c u v : Int) : Prop := (∃ z, 0 ≤ z ∧ z < c ∧ rd 2 z ≠ 7 ∧ u = rF 14 z ∧ v = z) ∨ (∃ l j, 0 ≤ l ∧ l < 8 ∧ gl lt rd l ∧ 0 ≤ j ∧ j < (gP P (lt 3 l)).1 ∧ u = rF 15 l + j ∧ v = m2 23 l + j)
section
variable {tx : Int → Int} {len : Int} {lt rd m mm : Bd} {P : PL} {c e cnt : Int} {b' rF m2 : Bd}
theorem rw5_of (hR : RS tx len rd m len c e) (hM : RName lt mm P) (hP : POK P) (hS : ∀ u, 0 ≤ u → u < c → rd 2 u = 7 → rd 12 (rd 3 u) = -1 → 0 ≤ lt 3 (rd 3 u)) (hB : ∀ u, 0 ≤ u → u < 8 → rd 13 u ≠ -1 → ¬Bk rd u) {x : Int} (x0 : 0 ≤ x) (x1 : x < c) : RW5 lt rd rF m2 P c (S5 rF (cz rd 9 x)) (S6 m2 (cz rd 9 x)) := by
  have nvs := hR.2.1.2.2.2.1
  have h9 : rd 2 x = 7 → itr (nx rd) 8 (rd 3 x) = -1 := fun h7 => by
    have nv := nvs x x0 x1
    exact ends8 hR hB (by rw [← nv.2.2.2.2.1]; exact (MG_rng nv.1).2.2.1) (nv.2.2.2.2.2.2 h7).1
  have cis : (0 ≤ cz rd 9 x ∧ cz rd 9 x < c ∧ rd 2 (cz rd 9 x) ≠ 7) ∨ (∃ l, 0 ≤ l ∧ l < 8 ∧ gl lt rd l ∧ cz rd 9 x = -1 - l) := cz_is hR hS 8 x x0 x1 h9
  rcases cis with ⟨z0, z1, z7⟩ | ⟨l, l0, l1, hg, ez⟩
  · have es : S6 m2 (cz rd 9 x) = cz rd 9 x := if_pos z0
    have e5 : S5 rF (cz rd 9 x) = rF 14 (cz rd 9 x) := if_pos z0
    exact Or.inl ⟨cz rd 9 x, z0, z1, z7, e5, es⟩
  · have es : S6 m2 (cz rd 9 x) = m2 23 l := by
      unfold S6
      rw [ez, if_neg (by omega), show -1 - (-1 - l) = l by omega]
    have e5 : S5 rF (cz rd 9 x) = rF 15 l := by
      unfold S5
      rw [ez, if_neg (by omega), show -1 - (-1 - l) = l by omega]
    have g1 := ((hM l l0 l1).rng hP |>.2.2.2 hg.2).1.1.1
    exact Or.inr ⟨l, 0, l0, l1, hg, Int.le_refl _, by omega, by rw [e5]; omega, by rw [es]; omega⟩
theorem rw5_step (hR : RS tx len rd m len c e) (hM : RName lt mm P) (hP : POK P) (hS : ∀ u, 0 ≤ u → u < c → rd 2 u = 7 → rd 12 (rd 3 u) = -1 → 0 ≤ lt 3 (rd 3 u)) (hB : ∀ u, 0 ≤ u → u < 8 → rd 13 u ≠ -1 → ¬Bk rd u)
    (n5 : ∀ u, 0 ≤ u → u < c → rd 2 u ≠ 7 → BG b' (rF 14 u) 0 = rd 2 u ∧ ∀ i, 0 ≤ i → i < ar (rd 2 u) → BG b' (rF 14 u) (1 + i) = S5 rF (cz rd 9 (ct rd u i)))
    (l5 : ∀ l, 0 ≤ l → l < 8 → gl lt rd l → CB b' (rF 15 l) (gP P (lt 3 l)) (gP P (lt 3 l)).1)
    (n6 : ∀ u, 0 ≤ u → u < c → rd 2 u ≠ 7 → PW (m2 9 u) ∧ MG (m2 9) u 0 = rd 2 u ∧ ∀ i, 0 ≤ i → i < ar (rd 2 u) → MG (m2 9) u (1 + i) = S6 m2 (cz rd 9 (ct rd u i)))
    (l6 : ∀ l, 0 ≤ l → l < 8 → gl lt rd l → c ≤ m2 23 l ∧ m2 23 l + (gP P (lt 3 l)).1 ≤ cnt ∧ CM (m2 9) (m2 23 l) (gP P (lt 3 l)) (gP P (lt 3 l)).1) : ∀ u v, RW5 lt rd rF m2 P c u v → BG b' u 0 = MG (m2 9) v 0 ∧ ∀ i, 0 ≤ i → i < ar (BG b' u 0) → RW5 lt rd rF m2 P c (BG b' u (1 + i)) (MG (m2 9) v (1 + i)) := by
  intro u v h
  rcases h with ⟨z, z0, z1, z7, rfl, rfl⟩ | ⟨l, j, l0, l1, hg, j0, j1, rfl, rfl⟩
  · have a := n5 v z0 z1 z7
    have a6 := n6 v z0 z1 z7
    rw [a.1, a6.2.1]
    refine ⟨rfl, fun i i0 i1 => ?_⟩
    rw [a.2 i i0 i1, a6.2.2 i i0 i1]
    have kd := kids_of hR v i z0 z1 z7 i0 i1
    exact rw5_of hR hM hP hS hB kd.1 kd.2.1
  · have a := l5 l l0 l1 hg j j0 j1
    have a6 := (l6 l l0 l1 hg).2.2 j j0 j1
    have gg := ((hM l l0 l1).rng hP |>.2.2.2 hg.2).1
    have nd := gg.node j0 j1
    rw [a.1, a6.2.1]
    refine ⟨rfl, fun i i0 i1 => ?_⟩
    have al := ar_le (GP (gP P (lt 3 l)) j 0)
    have i2 : i = 0 ∨ i = 1 := by omega
    rcases i2 with rfl | rfl
    · rw [show (1 : Int) + 0 = 1 by decide, a.2.1, a6.2.2.1]
      exact Or.inr ⟨l, _, l0, l1, hg, nd.2.2.1, nd.2.2.2.1, rfl, rfl⟩
    · rw [show (1 : Int) + 1 = 2 by decide, a.2.2, a6.2.2.2]
      exact Or.inr ⟨l, _, l0, l1, hg, nd.2.2.2.2.1, nd.2.2.2.2.2, rfl, rfl⟩
theorem rw5_ms (hR : RS tx len rd m len c e) (hM : RName lt mm P) (hP : POK P) (hS : ∀ u, 0 ≤ u → u < c → rd 2 u = 7 → rd 12 (rd 3 u) = -1 → 0 ≤ lt 3 (rd 3 u)) (hB : ∀ u, 0 ≤ u → u < 8 → rd 13 u ≠ -1 → ¬Bk rd u)
    (n5 : ∀ u, 0 ≤ u → u < c → rd 2 u ≠ 7 → BG b' (rF 14 u) 0 = rd 2 u ∧ ∀ i, 0 ≤ i → i < ar (rd 2 u) → BG b' (rF 14 u) (1 + i) = S5 rF (cz rd 9 (ct rd u i)))
    (l5 : ∀ l, 0 ≤ l → l < 8 → gl lt rd l → CB b' (rF 15 l) (gP P (lt 3 l)) (gP P (lt 3 l)).1)
    (n6 : ∀ u, 0 ≤ u → u < c → rd 2 u ≠ 7 → PW (m2 9 u) ∧ MG (m2 9) u 0 = rd 2 u ∧ ∀ i, 0 ≤ i → i < ar (rd 2 u) → MG (m2 9) u (1 + i) = S6 m2 (cz rd 9 (ct rd u i)))
    (l6 : ∀ l, 0 ≤ l → l < 8 → gl lt rd l → c ≤ m2 23 l ∧ m2 23 l + (gP P (lt 3 l)).1 ≤ cnt ∧ CM (m2 9) (m2 23 l) (gP P (lt 3 l)) (gP P (lt 3 l)).1)
    (h10 : m2 10 0 = cnt) (hc1 : 1 ≤ c) (hcc : c ≤ cnt) (hc2 : cnt ≤ 440) : MS m2 (fun v => ∃ u, RW5 lt rd rF m2 P c u v) cnt := by
  refine ⟨h10, by omega, by omega, fun v ⟨u, h⟩ => ?_⟩
  have st := rw5_step hR hM hP hS hB n5 l5 n6 l6 u v h
  have parts : ∀ i, 0 ≤ i → i < ar (MG (m2 9) v 0) → ∃ u', RW5 lt rd rF m2 P c u' (MG (m2 9) v (1 + i)) := fun i i0 i1 => ⟨_, st.2 i i0 (by rw [st.1]; exact i1)⟩
  rcases h with ⟨z, z0, z1, z7, e1, e2⟩ | ⟨l, j, l0, l1, hg, j0, j1, e1, e2⟩
  · rw [← e2] at z0 z1 z7
    have a6 := n6 v z0 z1 z7
    have r := (hR.2.1.2.2.2.1 v z0 z1).2.2.1
    exact ⟨z0, by omega, a6.1, by rw [a6.2.1]; omega, parts⟩
  · have b6 := l6 l l0 l1 hg
    have gg := ((hM l l0 l1).rng hP |>.2.2.2 hg.2).1
    have r := b6.2.2.rng gg (v := v) (by omega) (by omega)
    exact ⟨by omega, by omega, r.1, r.2.2.1, parts⟩
end
