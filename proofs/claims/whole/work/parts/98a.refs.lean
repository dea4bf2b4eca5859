/-! read: the reference's nodes, put together -/
section
variable {N : Nat} {tx : Int → Int} {len : Int} {lt rd m : Bd} {P : PL} {c e : Int}
theorem lay6 (hN : 4000 ≤ N) (hR : RS tx len rd m len c e) (c120 : c ≤ 120) (hM : RName lt m P) (hP : POK P) (hS : ∀ u, 0 ≤ u → u < c → rd 2 u = 7 → rd 12 (rd 3 u) = -1 → 0 ≤ lt 3 (rd 3 u)) (hB : ∀ u, 0 ≤ u → u < 8 → rd 13 u ≠ -1 → ¬Bk rd u) (x2 : Int) : ∃ m2 cnt, (∀ k, f_X6_read_L58 N x2 c (fun m_58 => f_X6_read_L117 N x2 c k N 0 m_58) N 0 m = k m2) ∧ (∀ s : Nat, s ≠ 9 → s ≠ 10 → s ≠ 23 → m2 s = m s) ∧ (∀ l, 0 ≤ l → l < 8 → ¬gl lt rd l → m2 23 l = rd 12 l) ∧ m2 10 0 = cnt ∧ c ≤ cnt ∧ cnt ≤ 440 ∧ (∀ x, 0 ≤ x → x < c → f_X6_meant N m2 x = some (S6 m2 (cz rd 9 x)) ∧ 0 ≤ S6 m2 (cz rd 9 x) ∧ S6 m2 (cz rd 9 x) < 3400) ∧ (∀ u, 0 ≤ u → u < c → rd 2 u ≠ 7 → PW (m2 9 u) ∧ MG (m2 9) u 0 = rd 2 u ∧ ∀ i, 0 ≤ i → i < ar (rd 2 u) → MG (m2 9) u (1 + i) = S6 m2 (cz rd 9 (ct rd u i))) ∧ ∀ l, 0 ≤ l → l < 8 → gl lt rd l → c ≤ m2 23 l ∧ m2 23 l + (gP P (lt 3 l)).1 ≤ cnt ∧ CM (m2 9) (m2 23 l) (gP P (lt 3 l)) (gP P (lt 3 l)).1 := by
  have c0 := hR.2.1.2.2.1
  have h8 := hR.2.2.2.2.1
  have nvs := hR.2.1.2.2.2.1
  have h2 : ∀ u, 0 ≤ u → u < c → 0 ≤ rd 2 u ∧ rd 2 u ≤ 7 := fun u u0 u1 => ⟨(nvs u u0 u1).2.1, (nvs u u0 u1).2.2.1⟩
  have kids := kids_of hR
  have h9 : ∀ x, 0 ≤ x → x < c → rd 2 x = 7 → itr (nx rd) 8 (rd 3 x) = -1 := fun x x0 x1 h7 => by
    have nv := nvs x x0 x1
    exact ends8 hR hB (by rw [← nv.2.2.2.2.1]; exact (MG_rng nv.1).2.2.1) (nv.2.2.2.2.2.2 h7).1
  have h12 : ∀ l, 0 ≤ l → l < 8 → -1 ≤ rd 12 l ∧ rd 12 l ≤ 120 ∧ m 23 l = rd 12 l := fun l l0 l1 => by
    rcases h8 l l0 l1 with a | a <;> omega
  have gsz : ∀ l, 0 ≤ l → l < 8 → gl lt rd l → GOK (gP P (lt 3 l)) := fun l l0 l1 hg => ((hM l l0 l1).rng hP |>.2.2.2 hg.2).1
  obtain ⟨m1, cnt, i1, i2⟩ := l58_lock (x2 := x2) (x3 := c) hN hM hP c0 c120 h12 N 0 m c (by omega) (by decide) (by decide) ⟨hR.2.1.2.1, Int.le_refl _, by omega, fun _ _ _ _ => rfl, fun _ _ => rfl, fun _ _ => rfl, fun u u0 u1 => by omega⟩
  obtain ⟨q1, q2, q3, q4, q5, q6, q7⟩ := i2
  have MH1 : MH rd m1 c := fun v v0 v1 => by
    have nv := nvs v v0 v1
    have e := q5 v v1
    rw [MG_same e, MG_same e, e]
    exact ⟨nv.1, nv.2.2.2.1, fun _ => nv.2.2.2.2.1⟩
  have mean : ∀ mF : Bd, (∀ s : Nat, s ≠ 9 → mF s = m1 s) → MH rd mF c → (∀ w, c ≤ w → mF 9 w = m1 9 w) → ∀ x, 0 ≤ x → x < c → f_X6_meant N mF x = some (S6 m1 (cz rd 9 x)) ∧ 0 ≤ S6 m1 (cz rd 9 x) ∧ S6 m1 (cz rd 9 x) < 3400 := fun mF f1 f2 f3 x x0 x1 => by
    have e23 : mF 23 = m1 23 := f1 23 (by decide)
    have eS : ∀ z, S6 mF z = S6 m1 z := fun z => by unfold S6; rw [e23]
    have r := cz6 hR c120 hS f2 (fun l l0 l1 hl => by rw [e23, (q7 l l0 l1).2 (fun hg => hl hg.1)]; exact (h12 l l0 l1).2.2) (fun l l0 l1 hg => by
      have a := (q7 l l0 l1).1 hg
      have gg := gsz l l0 l1 hg
      have g1 := gg.1.1
      have w := a.2.2.rng gg (v := m1 23 l) (Int.le_refl _) (by omega)
      have ee := f3 (m1 23 l) a.1
      rw [e23, MG_same ee, ee]
      exact ⟨by omega, by omega, w.1, w.2.2.1⟩) 8 x x0 x1 (h9 x x0 x1) (fun y => some y) N (by omega)
    refine ⟨?_, ?_⟩
    · unfold f_X6_meant
      rw [← eS]
      exact r
    · have cis : (0 ≤ cz rd 9 x ∧ cz rd 9 x < c ∧ rd 2 (cz rd 9 x) ≠ 7) ∨ (∃ l, 0 ≤ l ∧ l < 8 ∧ gl lt rd l ∧ cz rd 9 x = -1 - l) := cz_is hR hS 8 x x0 x1 (h9 x x0 x1)
      rcases cis with ⟨z0, z1, z7⟩ | ⟨l, l0, l1, hg, ez⟩
      · have es : S6 m1 (cz rd 9 x) = cz rd 9 x := if_pos z0
        rw [es]; omega
      · have es : S6 m1 (cz rd 9 x) = m1 23 l := by
          unfold S6
          rw [ez, if_neg (by omega), show -1 - (-1 - l) = l by omega]
        have a := (q7 l l0 l1).1 hg
        have g1 := (gsz l l0 l1 hg).1.1
        rw [es]; omega
  obtain ⟨m2, j1, j2, j3, j4, j5⟩ := l117_lock (N := N) (rd := rd) (m := m1) (G := fun x => S6 m1 (cz rd 9 x)) (c := c) (x2 := x2) c0 c120 h2 (fun u i u0 u1 hu i0 i1 => ⟨(kids u i u0 u1 hu i0 i1).1, (kids u i u0 u1 hu i0 i1).2.1⟩) (fun u i u0 u1 hu i0 i1 => by rw [MG_same (q5 u u1)]; exact (kids u i u0 u1 hu i0 i1).2.2) MH1 (fun mF f1 f2 f3 x x0 x1 => mean mF f1 f2 f3 x x0 x1) N 0 m1 (by omega) (by decide) c0 (fun _ _ => rfl) MH1 (fun _ _ => rfl) (fun u i u0 u1 => by omega)
  have e23 : m2 23 = m1 23 := j2 23 (by decide)
  have eS : ∀ z, S6 m2 z = S6 m1 z := fun z => by unfold S6; rw [e23]
  refine ⟨m2, cnt, fun k => ?_, fun s s9 s10 s23 => by rw [j2 s s9, q4 s s9 s10 s23], fun l l0 l1 hg => by rw [e23, (q7 l l0 l1).2 hg]; exact (h12 l l0 l1).2.2, by rw [j2 10 (by decide)]; exact q1, q2, by omega, fun x x0 x1 => by rw [eS]; exact mean m2 j2 j3 j4 x x0 x1, fun u u0 u1 hu => ⟨(j3 u u0 u1).1, (j3 u u0 u1).2.1, fun i i0 i1 => by rw [eS]; exact j5 u i u0 u1 hu i0 i1⟩, fun l l0 l1 hg => ?_⟩
  · rw [i1]
    exact j1 k
  · have a := (q7 l l0 l1).1 hg
    rw [e23]
    refine ⟨a.1, a.2.1, fun v v0 v1 => ?_⟩
    have ee := j4 (m1 23 l + v) (by omega)
    rw [MG_same ee, MG_same ee, MG_same ee, ee]
    exact a.2.2 v v0 v1
end
