/-! read: the program makes every equation's type; both write the names -/
/-- a pool that holds more -/
def Ext (P P' : PL) : Prop := ∃ Q : PL, P' = P ++ Q
theorem Ext.len {P P' : PL} (he : Ext P P') : (P.length : Int) ≤ (P'.length : Int) := by
  obtain ⟨Q, rfl⟩ := he
  rw [List.length_append]
  omega
theorem gP_ext {P P' : PL} (he : Ext P P') {h : Int} (h0 : 0 ≤ h) (h1 : h < (P.length : Int)) : gP P' h = gP P h := by
  obtain ⟨Q, rfl⟩ := he
  have : h.toNat < P.length := by omega
  unfold gP
  rw [List.getD_eq_getElem?_getD, List.getD_eq_getElem?_getD, List.getElem?_append_left this]
theorem SG.ext {P P' : PL} (he : Ext P P') {h sz o : Int} {T : Int → Int} (q : SG P h sz T o) : SG P' h sz T o := by
  rcases q with ⟨a, b⟩ | ⟨a, b, c, d⟩
  · exact Or.inl ⟨a, b⟩
  · have e := gP_ext he a b
    have := he.len
    exact Or.inr ⟨a, by omega, by rw [e]; exact c, by rw [e]; exact d⟩
theorem RR.ext {T : Int} {lt b b' m : Bd} {P P' : PL} (h : RR T lt b m P) (he : Ext P P') (hP : POK P') (hb : ∀ s, 0 ≤ s → s < 11200 → b' 8 s = -1) : RR T lt b' m P' := by
  obtain ⟨h1, h2, h3, hM, hV, _, _⟩ := h
  exact ⟨h1, h2, h3, fun a a0 a1 => (hM a a0 a1).ext he, ⟨hV.1, hV.2.1, hV.2.2.1, hV.2.2.2.1, hV.2.2.2.2.1, fun j a j0 j1 a0 a1 => (hV.2.2.2.2.2 j a j0 j1 a0 a1).ext he⟩, hP, hb⟩
section
variable {N : Nat} {tx : Int → Int} {len : Int} {rd rF m : Bd} {c e cnt : Int}
theorem root_of (hR : RS tx len rd m len c e) (hF : ∀ s : Nat, s ≠ 14 → s ≠ 15 → rF s = rd s) (sf : ∀ x, 0 ≤ x → x < c → f_X4_standsFor N rF x = some (S5 rF (cz rd 9 x)) ∧ 0 ≤ S5 rF (cz rd 9 x) ∧ S5 rF (cz rd 9 x) < cnt) {i : Int} (i0 : 0 ≤ i) (i1 : i < e) : f_X4_letterOf rF i = some (rd 10 i) ∧ f_X4_rootOf N rF i = some (S5 rF (cz rd 9 (rd 12 (rd 10 i)))) ∧ (0 ≤ rd 12 (rd 10 i) ∧ rd 12 (rd 10 i) < c) ∧ 0 ≤ rd 10 i ∧ rd 10 i < 8 ∧ rd 13 (rd 10 i) ≠ -1 := by
  have a := hR.2.2.2.2.2.1 i i0 i1
  have r := hR.2.2.2.2.1 _ a.1 a.2.1
  have e8 := hR.e8
  have h12 : 0 ≤ rd 12 (rd 10 i) ∧ rd 12 (rd 10 i) < c := by rcases r with r | r <;> omega
  have hl : f_X4_letterOf rF i = some (rd 10 i) := by
    unfold f_X4_letterOf
    rw [ck1_of (by omega) (by omega), if_neg (by omega), hF 11 (by decide) (by decide), hR.2.2.2.1.1, ck1_of (by omega) (by omega), if_neg (by omega), ckA_of i0 (by omega), hF 10 (by decide) (by decide)]
  refine ⟨hl, ?_, h12, a.1, a.2.1, a.2.2⟩
  unfold f_X4_rootOf
  rw [hl, bn_some, ckA_of a.1 a.2.1, hF 12 (by decide) (by decide), (sf _ h12.1 h12.2).1, bn_some]
theorem l55_lock (hN : 4000 ≤ N) (hR : RS tx len rd m len c e) (hF : ∀ s : Nat, s ≠ 14 → s ≠ 15 → rF s = rd s) (sf : ∀ x, 0 ≤ x → x < c → f_X4_standsFor N rF x = some (S5 rF (cz rd 9 x)) ∧ 0 ≤ S5 rF (cz rd 9 x) ∧ S5 rF (cz rd 9 x) < cnt) {bb lt : Bd} {P : PL} (hb : BW bb cnt) : ∀ (f : Nat) (i : Int) (l1 b1 : Bd) (P1 : PL), e - i < f → 0 ≤ i → i ≤ e → (∀ s : Nat, s ≠ 4 → l1 s = lt s) → (∀ s : Nat, s < 4 → b1 s = bb s) → (∀ s, 0 ≤ s → s < 11200 → b1 8 s = -1) → Ext P P1 → POK P1 → (∀ j, 0 ≤ j → j < i → 0 ≤ l1 4 j ∧ l1 4 j < (P1.length : Int) ∧ Eqv (GP (gP P1 (l1 4 j))) 0 (BG bb) (S5 rF (cz rd 9 (rd 12 (rd 10 j))))) → ∃ l2 b2 P2, (∀ s : Nat, s ≠ 4 → l2 s = lt s) ∧ (∀ s, 0 ≤ s → s < 11200 → b2 8 s = -1) ∧ Ext P P2 ∧ POK P2 ∧ ((∃ j, 0 ≤ j ∧ j < e ∧ Big (BG bb) (S5 rF (cz rd 9 (rd 12 (rd 10 j)))) ∧ ∀ k, f_X5_read_L55 N rF e k f i l1 b1 P1 = bn (f_X5_refuseFull l2) fun q => some (q.1, q.2, b2, rF, P2)) ∨ ((∀ j, 0 ≤ j → j < e → 0 ≤ l2 4 j ∧ l2 4 j < (P2.length : Int) ∧ Eqv (GP (gP P2 (l2 4 j))) 0 (BG bb) (S5 rF (cz rd 9 (rd 12 (rd 10 j))))) ∧ ∀ k, f_X5_read_L55 N rF e k f i l1 b1 P1 = k l2 b2 P2)) := by
  intro f
  induction f with
  | zero => intro i l1 b1 P1 h0 _ h2; omega
  | succ f ih =>
    intro i l1 b1 P1 h0 i0 i1 hl hb1 h8 hE hP hJ
    have e8 := hR.e8
    by_cases hend : i = e
    · refine ⟨l1, b1, P1, hl, h8, hE, hP, Or.inr ⟨fun j j0 j1 => hJ j j0 (by omega), fun k => ?_⟩⟩
      rw [f_X5_read_L55, ck1_of (by omega) (by omega), ck1_of (by omega) (by omega), if_pos (by omega)]
    · have r := root_of hR hF sf i0 (by omega)
      have z := sf _ r.2.2.1.1 r.2.2.1.2
      have hBG : BG b1 = BG bb := BG_same (hb1 0 (by decide)) (hb1 1 (by decide)) (hb1 2 (by decide))
      have hBW : BW b1 cnt := by
        unfold BW at hb ⊢
        rw [hBG, hb1 3 (by decide)]
        exact hb
      obtain ⟨res, b2, P2, s1, s2, s3, s4⟩ := small_of hN (P := P1) hBW z.2.1 z.2.2 h8
      rw [hBG] at s4
      rcases s4 with ⟨g, g1, g2, g3, g4⟩ | ⟨g1, g2, g3⟩
      · have hlen : (P2.length : Int) = (P1.length : Int) + 1 := by rw [g2, List.length_append, List.length_singleton]; omega
        have hgP : gP P2 res = g := by rw [g2, g1, gP_new]
        have pre : ∀ k, f_X5_read_L55 N rF e k (f + 1) i l1 b1 P1 = f_X5_read_L55 N rF e k f (i + 1) (bS l1 4 (aS (l1 4) i res)) b2 P2 := fun k => by
          rw [f_X5_read_L55, ck1_of (by omega) (by omega), ck1_of (by omega) (by omega), if_neg (by omega), r.2.1, bn_some, ckA_of i0 (by omega), s1, bn_some]
          dsimp only
          rw [ckN_of (by omega), aS_eq, if_neg (by omega)]
        obtain ⟨l3, b3, P3, t1, t2, t3, t4, t5⟩ := ih (i + 1) (bS l1 4 (aS (l1 4) i res)) b2 P2 (by omega) (by omega) (by omega) (fun s hs => by rw [bS_ne _ _ hs]; exact hl s hs) (fun s hs => by rw [s2 s hs]; exact hb1 s hs) s3 (by obtain ⟨Q, hQ⟩ := hE; exact ⟨Q ++ [g], by rw [g2, hQ, List.append_assoc]⟩) (by rw [g2]; exact hP.app g3) (fun j j0 j1 => by
          rw [bS_eq]
          by_cases ej : j = i
          · rw [ej, aS_eq, hgP]
            exact ⟨by omega, by omega, g4⟩
          · rw [aS_ne _ _ ej]
            have q := hJ j j0 (by omega)
            have eg : gP P2 (l1 4 j) = gP P1 (l1 4 j) := by rw [g2]; exact gP_app g q.1 q.2.1
            rw [eg]
            exact ⟨q.1, by omega, q.2.2⟩)
        refine ⟨l3, b3, P3, t1, t2, t3, t4, ?_⟩
        rcases t5 with ⟨j, a1, a2, a3, a4⟩ | ⟨a1, a2⟩
        · exact Or.inl ⟨j, a1, a2, a3, fun k => by rw [pre]; exact a4 k⟩
        · exact Or.inr ⟨a1, fun k => by rw [pre]; exact a2 k⟩
      · refine ⟨bS l1 4 (aS (l1 4) i res), b2, P2, fun s hs => by rw [bS_ne _ _ hs]; exact hl s hs, s3, by rw [g2]; exact hE, by rw [g2]; exact hP, Or.inl ⟨i, i0, by omega, g3, fun k => ?_⟩⟩
        rw [f_X5_read_L55, ck1_of (by omega) (by omega), ck1_of (by omega) (by omega), if_neg (by omega), r.2.1, bn_some, ckA_of i0 (by omega), s1, bn_some]
        dsimp only
        rw [ckN_of (by omega), aS_eq, if_pos (by omega)]
theorem l107_lock (hR : RS tx len rd m len c e) (hF : ∀ s : Nat, s ≠ 14 → s ≠ 15 → rF s = rd s) (sf : ∀ x, 0 ≤ x → x < c → f_X4_standsFor N rF x = some (S5 rF (cz rd 9 x)) ∧ 0 ≤ S5 rF (cz rd 9 x) ∧ S5 rF (cz rd 9 x) < cnt) {lt : Bd} {P1 : PL} (h4 : ∀ j, 0 ≤ j → j < e → lt 4 j < (P1.length : Int)) : ∀ (f : Nat) (i : Int) (l1 : Bd), e - i < f → 0 ≤ i → i ≤ e → (∀ s : Nat, s ≠ 3 → l1 s = lt s) → (∀ j, 0 ≤ j → j < i → l1 3 (rd 10 j) = lt 4 j) → (∀ l, (∀ j, 0 ≤ j → j < i → rd 10 j ≠ l) → l1 3 l = lt 3 l) → ∃ l2, (∀ k, f_X5_read_L107 rF P1 e k f i l1 = k l2) ∧ (∀ s : Nat, s ≠ 3 → l2 s = lt s) ∧ (∀ j, 0 ≤ j → j < e → l2 3 (rd 10 j) = lt 4 j) ∧ ∀ l, (∀ j, 0 ≤ j → j < e → rd 10 j ≠ l) → l2 3 l = lt 3 l := by
  intro f
  induction f with
  | zero => intro i l1 h0 _ h2; omega
  | succ f ih =>
    intro i l1 h0 i0 i1 hl hJ hU
    have e8 := hR.e8
    by_cases hend : i = e
    · refine ⟨l1, fun k => ?_, hl, fun j j0 j1 => hJ j j0 (by omega), fun l h => hU l (fun j j0 j1 => h j j0 (by omega))⟩
      rw [f_X5_read_L107, ck1_of (by omega) (by omega), ck1_of (by omega) (by omega), if_pos (by omega)]
    · have r := root_of hR hF sf i0 (by omega)
      have h4i := h4 i i0 (by omega)
      have e4 : l1 4 i = lt 4 i := by rw [hl 4 (by decide)]
      obtain ⟨l2, t1, t2, t3, t4⟩ := ih (i + 1) (bS l1 3 (aS (l1 3) (rd 10 i) (lt 4 i))) (by omega) (by omega) (by omega) (fun s hs => by rw [bS_ne _ _ hs]; exact hl s hs) (fun j j0 j1 => by
        rw [bS_eq]
        by_cases ej : j = i
        · rw [ej, aS_eq]
        · have o := hR.2.2.2.2.2.2.1 j i j0 (by omega) (by omega)
          rw [aS_ne _ _ (fun h => by rw [h] at o; omega)]
          exact hJ j j0 (by omega)) (fun l h => by
        rw [bS_eq, aS_ne _ _ (fun hh => h i i0 (by omega) hh.symm)]
        exact hU l (fun j j0 j1 => h j j0 (by omega)))
      refine ⟨l2, fun k => ?_, t2, t3, t4⟩
      rw [f_X5_read_L107, ck1_of (by omega) (by omega), ck1_of (by omega) (by omega), if_neg (by omega), r.1, bn_some, ckA_of i0 (by omega), ckA_of r.2.2.2.1 r.2.2.2.2.1, e4, ckN_of h4i]
      exact t1 k
end
theorem l345_lock {m : Bd} {x2 l g : Int} (h32 : m 32 l = g) (g0 : 0 ≤ g) (g1 : g ≤ 40) (l0 : 0 ≤ l) (l1 : l < 8) : ∀ (f : Nat) (i : Int) (m1 : Bd), g - i < f → 0 ≤ i → i ≤ g → (∀ s : Nat, s ≠ 1 → m1 s = m s) → (∀ j, m1 1 j = if 40 * l ≤ j ∧ j < 40 * l + i then m 31 j else m 1 j) → ∃ m', (∀ k, f_X6_read_L345 x2 l k f i m1 = k m') ∧ (∀ s : Nat, s ≠ 1 → m' s = m s) ∧ ∀ j, m' 1 j = if 40 * l ≤ j ∧ j < 40 * l + g then m 31 j else m 1 j := by
  intro f
  induction f with
  | zero => intro i m1 h0 _ h2; omega
  | succ f ih =>
    intro i m1 h0 i0 i1 hf hd
    by_cases hend : i = g
    · rw [hend] at hd
      refine ⟨m1, fun k => ?_, hf, hd⟩
      rw [f_X6_read_L345, ckA_of l0 l1, ck1_of (by omega) (by omega), hf 32 (by decide), h32, ck1_of (by omega) (by omega), if_pos (by omega)]
    · obtain ⟨m', j1, j2, j3⟩ := ih (i + 1) (bS m1 1 (aS (m1 1) (40 * l + i) (m 31 (40 * l + i)))) (by omega) (by omega) (by omega) (fun s hs => by rw [bS_ne _ _ hs]; exact hf s hs) (fun j => by
        rw [bS_eq]
        by_cases ej : j = 40 * l + i
        · rw [ej, aS_eq, if_pos (by omega)]
        · rw [aS_ne _ _ ej, hd j]
          by_cases c : 40 * l ≤ j ∧ j < 40 * l + i
          · rw [if_pos c, if_pos (by omega)]
          · rw [if_neg c, if_neg (by omega)])
      refine ⟨m', fun k => ?_, j2, j3⟩
      rw [f_X6_read_L345, ckA_of l0 l1, ck1_of (by omega) (by omega), hf 32 (by decide), h32, ck1_of (by omega) (by omega), if_neg (by omega), ckA_of (by omega) (by omega), hf 31 (by decide)]
      exact j1 k
theorem l325_lock {N : Nat} (hN : 4000 ≤ N) {m : Bd} {y : Nat} {D : Int → Prop} (hbit : ∀ l, 0 ≤ l → l < 8 → (D l → i_and (i_shr (y : Int) l) 1 = 1) ∧ (¬D l → i_and (i_shr (y : Int) l) 1 = 0)) (h32 : ∀ l, 0 ≤ l → l < 8 → D l → 1 ≤ m 32 l ∧ m 32 l ≤ 40) : ∀ (f : Nat) (l : Int) (m1 : Bd), 8 - l < f → 0 ≤ l → l ≤ 8 → (∀ s : Nat, s ≠ 0 → s ≠ 1 → m1 s = m s) → (∀ u, 0 ≤ u → u < l → D u → m1 0 u = m 32 u ∧ ∀ v, 0 ≤ v → v < m 32 u → m1 1 (40 * u + v) = m 31 (40 * u + v)) → (∀ u, 0 ≤ u → u < 8 → (l ≤ u ∨ ¬D u) → m1 0 u = m 0 u ∧ ∀ v, 0 ≤ v → v < 40 → m1 1 (40 * u + v) = m 1 (40 * u + v)) → ∃ m', (∀ k, f_X6_read_L325 N (y : Int) k f l m1 = k m') ∧ (∀ s : Nat, s ≠ 0 → s ≠ 1 → m' s = m s) ∧ (∀ u, 0 ≤ u → u < 8 → D u → m' 0 u = m 32 u ∧ ∀ v, 0 ≤ v → v < m 32 u → m' 1 (40 * u + v) = m 31 (40 * u + v)) ∧ ∀ u, 0 ≤ u → u < 8 → ¬D u → m' 0 u = m 0 u ∧ ∀ v, 0 ≤ v → v < 40 → m' 1 (40 * u + v) = m 1 (40 * u + v) := by
  intro f
  induction f with
  | zero => intro l m1 h0 _ h2; omega
  | succ f ih =>
    intro l m1 h0 l0 l1 hf hD hU
    by_cases hend : l = 8
    · refine ⟨m1, fun k => ?_, hf, fun u u0 u1 hu => hD u u0 (by omega) hu, fun u u0 u1 hu => hU u u0 u1 (Or.inr hu)⟩
      rw [f_X6_read_L325, ck1_of (by omega) (by omega), if_pos (by omega)]
    · by_cases hd : D l
      · have bt := (hbit l l0 (by omega)).1 hd
        have r := h32 l l0 (by omega) hd
        have e32 : m1 32 = m 32 := hf 32 (by decide) (by decide)
        have e31 : m1 31 = m 31 := hf 31 (by decide) (by decide)
        obtain ⟨m2, j1, j2, j3⟩ := l345_lock (m := m1) (x2 := (y : Int)) (l := l) (g := m 32 l) (by rw [e32]) (by omega) r.2 l0 (by omega) N 0 m1 (by omega) (by decide) (by omega) (fun _ _ => rfl) (fun j => by rw [if_neg (by omega)])
        rw [e31] at j3
        have k32 : m2 32 l = m 32 l := by rw [j2 32 (by decide), e32]
        obtain ⟨m', t1, t2, t3, t4⟩ := ih (l + 1) (bS m2 0 (aS (m2 0) l (m 32 l))) (by omega) (by omega) (by omega) (fun s s0 s1 => by rw [bS_ne _ _ s0, j2 s s1, hf s s0 s1]) (fun u u0 u1 hu => by
          rw [bS_eq, bS_ne _ _ (show (1 : Nat) ≠ 0 by decide)]
          by_cases eu : u = l
          · rw [eu, aS_eq]
            exact ⟨rfl, fun v v0 v1 => by rw [j3, if_pos (by omega)]⟩
          · have q := hD u u0 (by omega) hu
            have q2 := h32 u u0 (by omega) hu
            rw [aS_ne _ _ eu, j2 0 (by decide)]
            exact ⟨q.1, fun v v0 v1 => by rw [j3, if_neg (by omega)]; exact q.2 v v0 v1⟩) (fun u u0 u1 hu => by
          rw [bS_eq, bS_ne _ _ (show (1 : Nat) ≠ 0 by decide)]
          have eu : u ≠ l := fun eu => by
            rcases hu with hu | hu
            · omega
            · rw [eu] at hu; exact hu hd
          have q := hU u u0 u1 (by rcases hu with hu | hu; exact Or.inl (by omega); exact Or.inr hu)
          rw [aS_ne _ _ eu, j2 0 (by decide)]
          exact ⟨q.1, fun v v0 v1 => by rw [j3, if_neg (by omega)]; exact q.2 v v0 v1⟩)
        refine ⟨m', fun k => ?_, t2, t3, t4⟩
        rw [f_X6_read_L325, ck1_of (by omega) (by omega), if_neg (by omega), bt, ck1_of (by decide) (by decide), if_neg (by decide), j1]
        try dsimp only
        rw [ckA_of l0 (by omega), k32]
        exact t1 k
      · have bt := (hbit l l0 (by omega)).2 hd
        obtain ⟨m', t1, t2, t3, t4⟩ := ih (l + 1) m1 (by omega) (by omega) (by omega) hf (fun u u0 u1 hu => by
          by_cases eu : u = l
          · rw [eu] at hu; exact absurd hu hd
          · exact hD u u0 (by omega) hu) (fun u u0 u1 hu => hU u u0 u1 (by
          by_cases eu : u = l
          · exact Or.inr (by rw [eu]; exact hd)
          · rcases hu with hu | hu
            · exact Or.inl (by omega)
            · exact Or.inr hu))
        refine ⟨m', fun k => ?_, t2, t3, t4⟩
        rw [f_X6_read_L325, ck1_of (by omega) (by omega), if_neg (by omega), bt, ck1_of (by decide) (by decide), if_pos (by decide)]
        exact t1 k
