/-! Adding a node, on both sides -/
theorem holds0_of {v : Int} (v0 : 0 ≤ v) (v1 : v < 3280) : f_X0_holds v = some 1 := by
  unfold f_X0_holds
  rw [ck1_of (by omega) (by omega), if_neg (by omega), if_neg (by omega)]
/-- put: one node more -/
theorem put_of {b : Bd} {cnt h x y : Int} (h3 : b 3 0 = cnt) (c0 : 0 ≤ cnt) (c1 : cnt < 3280) (h0 : 0 ≤ h) (h1 : h ≤ 6) (x0 : 0 ≤ x) (x1 : x < 3280) (y0 : 0 ≤ y) (y1 : y < 3280) : ∃ b', f_X0_put b h x y = some (cnt, b') ∧ (∀ s : Nat, 4 ≤ s → b' s = b s) ∧ b' 3 0 = cnt + 1 ∧ BG b' cnt 0 = h ∧ BG b' cnt 1 = x ∧ BG b' cnt 2 = y ∧ ∀ v j, v ≠ cnt → BG b' v j = BG b v j := by
  unfold f_X0_put
  rw [h3, ck1_of (by omega) (by omega), if_neg (by omega), ck1_of (by omega) (by omega), if_neg (by omega), if_pos (by omega), ckA_of c0 c1, holds0_of x0 x1, bn_some, jn_eq, ck1_of (by omega) (by omega), if_neg (by omega)]
  dsimp only
  rw [holds0_of y0 y1, bn_some, jn_eq, ck1_of (by omega) (by omega), if_neg (by omega)]
  try dsimp only
  try rw [h3]
  generalize hb : bs0 (bS (bS (bS b 0 (aS (b 0) cnt h)) 1 (aS (b 1) cnt x)) 2 (aS (b 2) cnt y)) 3 (cnt + 1) = b'
  have e0 : b' 0 = aS (b 0) cnt h := by rw [← hb, bs0_ne _ _ (by decide), bS_ne _ _ (by decide), bS_ne _ _ (by decide), bS_eq]
  have e1 : b' 1 = aS (b 1) cnt x := by rw [← hb, bs0_ne _ _ (by decide), bS_ne _ _ (by decide), bS_eq]
  have e2 : b' 2 = aS (b 2) cnt y := by rw [← hb, bs0_ne _ _ (by decide), bS_eq]
  refine ⟨b', rfl, fun s hs => ?_, by rw [← hb, bs0_eq], ?_, ?_, ?_, fun v j hv => ?_⟩
  · rw [← hb, bs0_ne _ _ (by omega), bS_ne _ _ (by omega), bS_ne _ _ (by omega), bS_ne _ _ (by omega)]
  · unfold BG; rw [if_pos rfl, e0, aS_eq]
  · unfold BG; rw [if_neg (by omega), if_pos rfl, e1, aS_eq]
  · unfold BG; rw [if_neg (by omega), if_neg (by omega), e2, aS_eq]
  · unfold BG; rw [e0, e1, e2, aS_ne _ _ hv, aS_ne _ _ hv, aS_ne _ _ hv]
/-- adds: one node more -/
theorem adds_of {m : Bd} {cnt h x y : Int} (h10 : m 10 0 = cnt) (c0 : 0 ≤ cnt) (c1 : cnt < 3400) (h0 : 0 ≤ h) (h1 : h ≤ 6) (x0 : 0 ≤ x) (x1 : x < 4096) (y0 : 0 ≤ y) (y1 : y < 4096) : ∃ m', f_X6_adds m h x y = some (cnt, m') ∧ (∀ s : Nat, s ≠ 9 → s ≠ 10 → m' s = m s) ∧ m' 10 0 = cnt + 1 ∧ PW (m' 9 cnt) ∧ MG (m' 9) cnt 0 = h ∧ MG (m' 9) cnt 1 = x ∧ MG (m' 9) cnt 2 = y ∧ ∀ v, v ≠ cnt → m' 9 v = m 9 v := by
  unfold f_X6_adds
  rw [pk_node h0 (by omega) x0 x1 y0 y1, bn_some, h10, ckA_of c0 c1, show cnt + 1 - 1 = cnt by omega]
  generalize hm : bs0 (bS m 9 (aS (m 9) cnt (pk h x y))) 10 (cnt + 1) = m'
  have e9 : m' 9 = aS (m 9) cnt (pk h x y) := by rw [← hm, bs0_ne _ _ (by decide), bS_eq]
  have q := MG_pk (w := m' 9) (v := cnt) (by rw [e9, aS_eq]) h0 (by omega) x0 x1 y0 y1
  exact ⟨m', rfl, fun s s9 s10 => by rw [← hm, bs0_ne _ _ s10, bS_ne _ _ s9], by rw [← hm, bs0_eq], q.1, q.2.1, q.2.2.1, q.2.2.2, fun v hv => by rw [e9, aS_ne _ _ hv]⟩
