/-! read: the program's bench -/
def LN (rd0 : Bd) (b0 : Bd) (rd : Bd) (c0 : Int) (b rd' : Bd) (v cnt : Int) : Prop := b 3 0 = cnt ∧ c0 ≤ cnt ∧ cnt ≤ c0 + v ∧ (∀ s : Nat, 4 ≤ s → b s = b0 s) ∧ (∀ s : Nat, s ≠ 14 → rd' s = rd0 s) ∧ (∀ w j, w < c0 → BG b w j = BG b0 w j) ∧ (∀ u, 0 ≤ u → u < v → rd 2 u ≠ 7 → c0 ≤ rd' 14 u ∧ rd' 14 u < cnt ∧ BG b (rd' 14 u) 0 = rd 2 u ∧ BG b (rd' 14 u) 1 = 0 ∧ BG b (rd' 14 u) 2 = 0) ∧ (∀ u u', 0 ≤ u → u < u' → u' < v → rd 2 u ≠ 7 → rd 2 u' ≠ 7 → rd' 14 u < rd' 14 u') ∧ ∀ w, c0 ≤ w → w < cnt → ∃ u, 0 ≤ u ∧ u < v ∧ rd 2 u ≠ 7 ∧ rd' 14 u = w
theorem l65_lock {rd0 b0 rd : Bd} {c0 c : Int} (c00 : 0 ≤ c0) (c01 : c0 ≤ 320) (cc0 : 0 ≤ c) (cc : c ≤ 120) (e5 : rd0 5 0 = c) (e2 : rd0 2 = rd 2) (h2 : ∀ u, 0 ≤ u → u < c → 0 ≤ rd 2 u ∧ rd 2 u ≤ 7) : ∀ (f : Nat) (v : Int) (b rd' : Bd) (cnt : Int), c - v < f → 0 ≤ v → v ≤ c → LN rd0 b0 rd c0 b rd' v cnt → ∃ b2 rd2 cnt2, (∀ k, f_X4_layOut_L65 k f v b rd' = k b2 rd2) ∧ LN rd0 b0 rd c0 b2 rd2 c cnt2 := by
  intro f
  induction f with
  | zero => intro v b rd' cnt h0 _ h2; omega
  | succ f ih =>
    intro v b rd' cnt h0 v0 v1 hL
    obtain ⟨q1, q2, q3, q4, q5, q6, q7, q8, q9⟩ := id hL
    have g5 : rd' 5 = rd0 5 := q5 5 (by decide)
    have g2 : rd' 2 = rd 2 := by rw [q5 2 (by decide), e2]
    by_cases hend : v = c
    · refine ⟨b, rd', cnt, fun k => ?_, by rw [← hend]; exact hL⟩
      rw [f_X4_layOut_L65, ck1_of (by omega) (by omega), g5, e5, ck1_of (by omega) (by omega), if_pos (by omega)]
    · have hv := h2 v v0 (by omega)
      by_cases h7 : rd 2 v = 7
      · obtain ⟨b2, rd2, cnt2, i1, i2⟩ := ih (v + 1) b (bS rd' 14 (aS (rd' 14) v (-1))) cnt (by omega) (by omega) (by omega) (by
          refine ⟨q1, q2, by omega, q4, fun s hs => by rw [bS_ne _ _ hs, q5 s hs], q6, fun u u0 u1 hu => ?_, fun u u' u0 uu u1 hu hu' => ?_, fun w w0 w1 => ?_⟩
          · have e : u ≠ v := fun e => hu (by rw [e]; exact h7)
            rw [bS_eq, aS_ne _ _ e]
            exact q7 u u0 (by omega) hu
          · have e : u ≠ v := fun e => hu (by rw [e]; exact h7)
            have e' : u' ≠ v := fun e => hu' (by rw [e]; exact h7)
            rw [bS_eq, aS_ne _ _ e, aS_ne _ _ e']
            exact q8 u u' u0 uu (by omega) hu hu'
          · obtain ⟨u, a1, a2, a3, a4⟩ := q9 w w0 w1
            exact ⟨u, a1, by omega, a3, by rw [bS_eq, aS_ne _ _ (by omega)]; exact a4⟩)
        refine ⟨b2, rd2, cnt2, fun k => ?_, i2⟩
        rw [f_X4_layOut_L65, ck1_of (by omega) (by omega), g5, e5, ck1_of (by omega) (by omega), if_neg (by omega), ckA_of v0 (by omega), g2, ck1_of (by omega) (by omega), if_neg (fun h => h h7)]
        exact i1 k
      · obtain ⟨b1, k1, k2, k3, k4, k5, k6, k7⟩ := put_of (h := rd 2 v) (x := 0) (y := 0) q1 (by omega) (by omega) hv.1 (by omega) (by decide) (by decide) (by decide) (by decide)
        obtain ⟨b2, rd2, cnt2, i1, i2⟩ := ih (v + 1) b1 (bS rd' 14 (aS (rd' 14) v cnt)) (cnt + 1) (by omega) (by omega) (by omega) (by
          refine ⟨k3, by omega, by omega, fun s hs => by rw [k2 s hs, q4 s hs], fun s hs => by rw [bS_ne _ _ hs, q5 s hs], fun w j hw => by rw [k7 w j (by omega)]; exact q6 w j hw, fun u u0 u1 hu => ?_, fun u u' u0 uu u1 hu hu' => ?_, fun w w0 w1 => ?_⟩
          · rw [bS_eq]
            by_cases e : u = v
            · rw [e, aS_eq]
              exact ⟨q2, by omega, k4, k5, k6⟩
            · rw [aS_ne _ _ e]
              have a := q7 u u0 (by omega) hu
              rw [k7 _ _ (by omega), k7 _ _ (by omega), k7 _ _ (by omega)]
              exact ⟨a.1, by omega, a.2.2⟩
          · rw [bS_eq, aS_ne _ _ (show u ≠ v by omega)]
            by_cases e : u' = v
            · rw [e, aS_eq]
              exact (q7 u u0 (by omega) hu).2.1
            · rw [aS_ne _ _ e]
              exact q8 u u' u0 uu (by omega) hu hu'
          · by_cases ew : w = cnt
            · exact ⟨v, v0, by omega, h7, by rw [bS_eq, aS_eq, ew]⟩
            · obtain ⟨u, a1, a2, a3, a4⟩ := q9 w w0 (by omega)
              exact ⟨u, a1, by omega, a3, by rw [bS_eq, aS_ne _ _ (by omega)]; exact a4⟩)
        refine ⟨b2, rd2, cnt2, fun k => ?_, i2⟩
        rw [f_X4_layOut_L65, ck1_of (by omega) (by omega), g5, e5, ck1_of (by omega) (by omega), if_neg (by omega), ckA_of v0 (by omega), g2, ck1_of (by omega) (by omega), if_pos h7, k1, bn_some]
        exact i1 k
/-- the child i of a node of the text -/
def ct (rd : Bd) (u i : Int) : Int := if i ≠ 0 then rd 4 u else rd 3 u
theorem l151_lock {N : Nat} {rF rd : Bd} {F : Int → Int} {c x3 a o : Int} (c120 : c ≤ 120) (x0 : 0 ≤ x3) (x1 : x3 < c) (e3 : rF 3 = rd 3) (e4 : rF 4 = rd 4) (o0 : 0 ≤ o) (o1 : o < 3280) (e14 : rF 14 x3 = o) (a0 : 0 ≤ a) (a2 : a ≤ 2) (hc : ∀ i, 0 ≤ i → i < a → 0 ≤ ct rd x3 i ∧ ct rd x3 i < c) (hF : ∀ x, 0 ≤ x → x < c → f_X4_standsFor N rF x = some (F x) ∧ 0 ≤ F x ∧ F x < 3280) (b0 : Bd) : ∀ (f : Nat) (i : Int) (b : Bd), a - i < f → 0 ≤ i → i ≤ a → (∀ s : Nat, s ≠ 1 → s ≠ 2 → b s = b0 s) → (∀ w j, 0 ≤ j → j < 3 → (w ≠ o ∨ j = 0 ∨ i < j) → BG b w j = BG b0 w j) → (∀ j, 0 ≤ j → j < i → BG b o (1 + j) = F (ct rd x3 j)) → ∃ b2, (∀ k, f_X4_layOut_L151 N rF x3 a k f i b = k b2) ∧ (∀ s : Nat, s ≠ 1 → s ≠ 2 → b2 s = b0 s) ∧ (∀ w j, 0 ≤ j → j < 3 → (w ≠ o ∨ j = 0 ∨ a < j) → BG b2 w j = BG b0 w j) ∧ ∀ j, 0 ≤ j → j < a → BG b2 o (1 + j) = F (ct rd x3 j) := by
  intro f
  induction f with
  | zero => intro i b h0 _ h2; omega
  | succ f ih =>
    intro i b h0 i0 i1 h1 h2 h3
    by_cases hend : i = a
    · subst hend
      exact ⟨b, fun k => by rw [f_X4_layOut_L151, ck1_of (by omega) (by omega), ck1_of (by omega) (by omega), if_pos (Int.le_refl _)], h1, h2, h3⟩
    · have hci := hc i i0 (by omega)
      have hFi := hF _ hci.1 hci.2
      obtain ⟨b1, k1, k2, k3, k4⟩ := link_of (b := b) (i := i) o0 o1 i0 (by omega) hFi.2.1 hFi.2.2
      obtain ⟨b2, j1, j2, j3, j4⟩ := ih (i + 1) b1 (by omega) (by omega) (by omega) (fun s s1 s2 => by rw [k2 s s1 s2, h1 s s1 s2]) (fun w j j0 j1 hw => by rw [k4 w j j0 j1 (by omega)]; exact h2 w j j0 j1 (by omega)) (fun j j0 j1 => by
        by_cases ej : j = i
        · rw [ej]; exact k3
        · rw [k4 o (1 + j) (by omega) (by omega) (by omega)]
          exact h3 j j0 (by omega))
      refine ⟨b2, fun k => ?_, j2, j3, j4⟩
      have body : (bn (f_X4_standsFor N rF (ct rd x3 i)) fun q188_26 => bn (f_X0_link b (rF 14 x3) i q188_26) fun q191_27 => f_X4_layOut_L151 N rF x3 a k f (i + 1) q191_27) = k b2 := by
        rw [hFi.1, bn_some, e14, k1, bn_some]
        exact j1 k
      rw [f_X4_layOut_L151, ck1_of (by omega) (by omega), ck1_of (by omega) (by omega), if_neg (by omega), ckA_of x0 (by omega), jn_eq]
      unfold ct at body
      by_cases ei : i = 0
      · rw [if_neg (fun h => h ei)] at body
        rw [if_neg (fun h => h ei), e3]
        exact body
      · rw [if_pos ei] at body
        rw [if_pos ei, e4]
        exact body
