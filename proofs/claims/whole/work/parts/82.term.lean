/-! read: the reference's term reader, case by case -/
theorem inr_of {x a b : Int} (h1 : -2147483648 ≤ x) (h2 : x ≤ 2147483647) (a1 : -2147483648 ≤ a) (a2 : a ≤ 2147483647) (b1 : -2147483648 ≤ b) (b2 : b ≤ 2147483647) : f_X6_in x a b = some (if a ≤ x ∧ x ≤ b then 1 else 0) := by
  unfold f_X6_in
  rw [ck1_of h1 h2, ck1_of a1 a2]
  by_cases c : x < a
  · rw [if_pos c, if_neg (by omega)]
  · rw [if_neg c, ck1_of b1 b2]
    by_cases d : b < x
    · rw [if_pos d, if_neg (by omega)]
    · rw [if_neg d, if_pos (by omega)]
theorem z10 : ¬((1 : Int) = 0) := by decide
theorem z1n : (1 : Int) ≠ 0 := by decide
theorem z0n : ¬((0 : Int) ≠ 0) := by decide
section
variable {N : Nat} {m m1 : Bd} {ch p : Int}
theorem rt_dig (hs : f_X6_skips N m = some m1) (hy : f_X6_byteAt m1 (m1 22 0) = some ch) (h1 : 48 ≤ ch) (h2 : ch ≤ 51) {v w : Int} {m2 : Bd} (ha : f_X6_adds m1 (ch - 48) 0 0 = some (v, m2)) (hw : m2 30 0 = w) (w0 : 0 ≤ w) (w1 : w < 130) (hp : m2 22 0 = p) (f : Nat) : f_X6_readsTerm_L12 N (f + 1) 1 m = f_X6_readsTerm_L12 N f 0 (bs0 (bs0 (bS m2 29 (aS (m2 29) w v)) 30 (w + 1)) 22 (p + 1)) := by
  have hwt : f_X6_waits m2 v = some (bs0 (bS m2 29 (aS (m2 29) w v)) 30 (w + 1)) := by
    unfold f_X6_waits
    rw [hw, ckA_of w0 w1]
  rw [f_X6_readsTerm_L12, hs, bn_some, hy, bn_some, jn_eq, ck1_of (by omega) (by omega), if_neg z10, inr_of (by omega) (by omega) (by omega) (by omega) (by omega) (by omega), if_pos ⟨h1, h2⟩, bn_some, ck1_of (by omega) (by omega), if_neg z10, ha, bn_some, hwt, bn_some]
  rw [show bs0 (bS m2 29 (aS (m2 29) w v)) 30 (w + 1) 22 0 = p by rw [bs0_ne _ _ (by decide), bS_ne _ _ (by decide)]; exact hp]
theorem rt_let (hs : f_X6_skips N m = some m1) (hy : f_X6_byteAt m1 (m1 22 0) = some ch) (h1 : 97 ≤ ch) (h2 : ch ≤ 104) {v w : Int} {m2 : Bd} (ha : f_X6_adds m1 7 (ch - 97) 0 = some (v, m2)) (hw : m2 30 0 = w) (w0 : 0 ≤ w) (w1 : w < 130) (hp : m2 22 0 = p) {e : Int} (he : m2 26 0 = e) (e0 : 0 ≤ e) (e1 : e < 130) (f : Nat) : f_X6_readsTerm_L12 N (f + 1) 1 m = f_X6_readsTerm_L12 N f 0 (bs0 (bS (bs0 (bs0 (bS m2 29 (aS (m2 29) w v)) 30 (w + 1)) 22 (p + 1)) 25 (aS (m2 25) e p)) 26 (e + 1)) := by
  have hwt : f_X6_waits m2 v = some (bs0 (bS m2 29 (aS (m2 29) w v)) 30 (w + 1)) := by
    unfold f_X6_waits
    rw [hw, ckA_of w0 w1]
  have q22 : bs0 (bS m2 29 (aS (m2 29) w v)) 30 (w + 1) 22 0 = p := by rw [bs0_ne _ _ (by decide), bS_ne _ _ (by decide)]; exact hp
  have q26 : bs0 (bS m2 29 (aS (m2 29) w v)) 30 (w + 1) 26 0 = e := by rw [bs0_ne _ _ (by decide), bS_ne _ _ (by decide)]; exact he
  have q25 : bs0 (bS m2 29 (aS (m2 29) w v)) 30 (w + 1) 25 = m2 25 := by rw [bs0_ne _ _ (by decide), bS_ne _ _ (by decide)]
  rw [f_X6_readsTerm_L12, hs, bn_some, hy, bn_some, jn_eq, ck1_of (by omega) (by omega), if_neg z10, inr_of (by omega) (by omega) (by omega) (by omega) (by omega) (by omega), if_neg (show ¬(48 ≤ ch ∧ ch ≤ 51) by omega), bn_some, ck1_of (by omega) (by omega), if_pos rfl, jn_eq, ck1_of (by omega) (by omega), if_neg z10, inr_of (by omega) (by omega) (by omega) (by omega) (by omega) (by omega), if_pos ⟨h1, h2⟩, bn_some, ck1_of (by omega) (by omega), if_neg z10, ha, bn_some, hwt, bn_some, q26, q22, q25, ckA_of e0 e1]
theorem rt_open (hs : f_X6_skips N m = some m1) (hy : f_X6_byteAt m1 (m1 22 0) = some ch) (h1 : ch = 40 ∨ ch = 91) {o : Int} (ho : m1 28 0 = o) (o0 : 0 ≤ o) (o1 : o < 130) (hp : m1 22 0 = p) (f : Nat) : f_X6_readsTerm_L12 N (f + 1) 1 m = f_X6_readsTerm_L12 N f 1 (bs0 (bs0 (bS m1 27 (aS (m1 27) o ch)) 28 (o + 1)) 22 (p + 1)) := by
  have hwt : f_X6_opens m1 ch = some (bs0 (bS m1 27 (aS (m1 27) o ch)) 28 (o + 1)) := by
    unfold f_X6_opens
    rw [ho, ckA_of o0 o1]
  have q22 : bs0 (bS m1 27 (aS (m1 27) o ch)) 28 (o + 1) 22 0 = p := by rw [bs0_ne _ _ (by decide), bS_ne _ _ (by decide)]; exact hp
  rw [f_X6_readsTerm_L12, hs, bn_some, hy, bn_some, jn_eq, ck1_of (by omega) (by omega), if_neg z10, inr_of (by omega) (by omega) (by omega) (by omega) (by omega) (by omega), if_neg (show ¬(48 ≤ ch ∧ ch ≤ 51) by omega), bn_some, ck1_of (by omega) (by omega), if_pos rfl, jn_eq, ck1_of (by omega) (by omega), if_neg z10, inr_of (by omega) (by omega) (by omega) (by omega) (by omega) (by omega), if_neg (show ¬(97 ≤ ch ∧ ch ≤ 104) by omega), bn_some, ck1_of (by omega) (by omega), if_pos rfl, jn_eq, ck1_of (by omega) (by omega), if_neg z10, jn_eq, hwt, bn_some, q22, ck1_of (by omega) (by omega)]
  by_cases c : ch = 40
  · rw [if_pos c]
  · rw [if_neg c, if_neg (by omega)]
theorem rt_bad1 (hs : f_X6_skips N m = some m1) (hy : f_X6_byteAt m1 (m1 22 0) = some ch) (r1 : -1 ≤ ch) (r2 : ch ≤ 127) (h1 : ¬(48 ≤ ch ∧ ch ≤ 51)) (h2 : ¬(97 ≤ ch ∧ ch ≤ 104)) (h3 : ch ≠ 40) (h4 : ch ≠ 91) (f : Nat) : f_X6_readsTerm_L12 N (f + 1) 1 m = some (-1, m1) := by
  rw [f_X6_readsTerm_L12, hs, bn_some, hy, bn_some, jn_eq, ck1_of (by omega) (by omega), if_neg z10, inr_of (by omega) (by omega) (by omega) (by omega) (by omega) (by omega), if_neg h1, bn_some, ck1_of (by omega) (by omega), if_pos rfl, jn_eq, ck1_of (by omega) (by omega), if_neg z10, inr_of (by omega) (by omega) (by omega) (by omega) (by omega) (by omega), if_neg h2, bn_some, ck1_of (by omega) (by omega), if_pos rfl, jn_eq, ck1_of (by omega) (by omega), if_neg z10, jn_eq, ck1_of (by omega) (by omega), if_neg h3, if_pos h4, jn_eq, ck1_of (by omega) (by omega), if_pos z1n, jn_eq, ck1_of (by omega) (by omega), if_pos z1n, jn_eq, ck1_of (by omega) (by omega), if_pos z1n, jn_eq, ck1_of (by omega) (by omega), if_pos z1n, ck1_of (by omega) (by omega), if_pos z1n]
theorem rt_op (hs : f_X6_skips N m = some m1) (hy : f_X6_byteAt m1 (m1 22 0) = some ch) (h1 : ch = 42 ∨ ch = 62) {m2 : Bd} (hd : f_X6_does N m1 1 = some m2) {o : Int} (ho : m2 28 0 = o) (o0 : 0 ≤ o) (o1 : o < 130) (hp : m2 22 0 = p) (f : Nat) : f_X6_readsTerm_L12 N (f + 1) 0 m = f_X6_readsTerm_L12 N f 1 (bs0 (bs0 (bS m2 27 (aS (m2 27) o ch)) 28 (o + 1)) 22 (p + 1)) := by
  have hwt : f_X6_opens m2 ch = some (bs0 (bS m2 27 (aS (m2 27) o ch)) 28 (o + 1)) := by
    unfold f_X6_opens
    rw [ho, ckA_of o0 o1]
  have q22 : bs0 (bS m2 27 (aS (m2 27) o ch)) 28 (o + 1) 22 0 = p := by rw [bs0_ne _ _ (by decide), bS_ne _ _ (by decide)]; exact hp
  rw [f_X6_readsTerm_L12, hs, bn_some, hy, bn_some, jn_eq, ck1_of (by omega) (by omega), if_pos rfl, jn_eq, ck1_of (by omega) (by omega), if_pos rfl, jn_eq, ck1_of (by omega) (by omega), if_pos rfl, jn_eq, ck1_of (by omega) (by omega), if_neg z0n, ck1_of (by omega) (by omega)]
  by_cases c : ch = 42
  · rw [if_neg (fun h => h c), hd, bn_some, hwt, bn_some, q22]
  · rw [if_pos c, jn_eq, ck1_of (by omega) (by omega), if_neg z0n, ck1_of (by omega) (by omega), if_neg (show ¬(ch ≠ 62) by omega), hd, bn_some, hwt, bn_some, q22]
theorem rt_close (hs : f_X6_skips N m = some m1) (hy : f_X6_byteAt m1 (m1 22 0) = some ch) (h1 : ch = 41) (hb : f_X6_bracket N m1 = some 40) {m2 : Bd} (hd : f_X6_does N m1 0 = some m2) {o : Int} (ho : m2 28 0 = o) (hp : m2 22 0 = p) (f : Nat) : f_X6_readsTerm_L12 N (f + 1) 0 m = f_X6_readsTerm_L12 N f 0 (bs0 (bs0 m2 22 (p + 1)) 28 (o - 1)) := by
  rw [f_X6_readsTerm_L12, hs, bn_some, hy, bn_some, jn_eq, ck1_of (by omega) (by omega), if_pos rfl, jn_eq, ck1_of (by omega) (by omega), if_pos rfl, jn_eq, ck1_of (by omega) (by omega), if_pos rfl, jn_eq, ck1_of (by omega) (by omega), if_neg z0n, ck1_of (by omega) (by omega), if_pos (show ch ≠ 42 by omega), jn_eq, ck1_of (by omega) (by omega), if_neg z0n, ck1_of (by omega) (by omega), if_pos (show ch ≠ 62 by omega), jn_eq, ck1_of (by omega) (by omega), if_neg z0n, ck1_of (by omega) (by omega), if_neg (show ¬(ch ≠ 41) by omega), hb, bn_some, ck1_of (by omega) (by omega), if_neg (by decide), hd, bn_some, ho, hp]
theorem rt_box (hs : f_X6_skips N m = some m1) (hy : f_X6_byteAt m1 (m1 22 0) = some ch) (h1 : ch = 93) (hb : f_X6_bracket N m1 = some 91) {m2 : Bd} (hd : f_X6_does N m1 0 = some m2) {o w : Int} (ho : m2 28 0 = o) (hw : m2 30 0 = w) (w1 : 1 ≤ w) (w2 : w ≤ 130) {v : Int} {m3 : Bd} (ha : f_X6_adds (bs0 m2 28 (o - 1)) 4 (m2 29 (w - 1)) 0 = some (v, m3)) (hp : m3 22 0 = p) (f : Nat) : f_X6_readsTerm_L12 N (f + 1) 0 m = f_X6_readsTerm_L12 N f 0 (bS (bs0 m3 22 (p + 1)) 29 (aS (m3 29) (w - 1) v)) := by
  rw [f_X6_readsTerm_L12, hs, bn_some, hy, bn_some, jn_eq, ck1_of (by omega) (by omega), if_pos rfl, jn_eq, ck1_of (by omega) (by omega), if_pos rfl, jn_eq, ck1_of (by omega) (by omega), if_pos rfl, jn_eq, ck1_of (by omega) (by omega), if_neg z0n, ck1_of (by omega) (by omega), if_pos (show ch ≠ 42 by omega), jn_eq, ck1_of (by omega) (by omega), if_neg z0n, ck1_of (by omega) (by omega), if_pos (show ch ≠ 62 by omega), jn_eq, ck1_of (by omega) (by omega), if_neg z0n, ck1_of (by omega) (by omega), if_pos (show ch ≠ 41 by omega), jn_eq, ck1_of (by omega) (by omega), if_neg z0n, ck1_of (by omega) (by omega), if_neg (show ¬(ch ≠ 93) by omega), hb, bn_some, ck1_of (by omega) (by omega), if_neg (by decide), hd, bn_some, ho, hw, ckA_of (by omega) (by omega), ha, bn_some]
  dsimp only
  rw [hp]
theorem rt_end (hs : f_X6_skips N m = some m1) (hy : f_X6_byteAt m1 (m1 22 0) = some ch) (h1 : ch = 59) (hb : f_X6_bracket N m1 = some 0) {m2 : Bd} (hd : f_X6_does N m1 0 = some m2) (hp : m2 22 0 = p) (f : Nat) : f_X6_readsTerm_L12 N (f + 1) 0 m = some (m2 29 0, bs0 m2 22 (p + 1)) := by
  rw [f_X6_readsTerm_L12, hs, bn_some, hy, bn_some, jn_eq, ck1_of (by omega) (by omega), if_pos rfl, jn_eq, ck1_of (by omega) (by omega), if_pos rfl, jn_eq, ck1_of (by omega) (by omega), if_pos rfl, jn_eq, ck1_of (by omega) (by omega), if_neg z0n, ck1_of (by omega) (by omega), if_pos (show ch ≠ 42 by omega), jn_eq, ck1_of (by omega) (by omega), if_neg z0n, ck1_of (by omega) (by omega), if_pos (show ch ≠ 62 by omega), jn_eq, ck1_of (by omega) (by omega), if_neg z0n, ck1_of (by omega) (by omega), if_pos (show ch ≠ 41 by omega), jn_eq, ck1_of (by omega) (by omega), if_neg z0n, ck1_of (by omega) (by omega), if_pos (show ch ≠ 93 by omega), ck1_of (by omega) (by omega), if_neg z0n, ck1_of (by omega) (by omega), if_neg (show ¬(ch ≠ 59) by omega), hb, bn_some, ck1_of (by omega) (by omega), if_neg z0n, hd, bn_some, hp]
theorem rt_bad0 (hs : f_X6_skips N m = some m1) (hy : f_X6_byteAt m1 (m1 22 0) = some ch) (r1 : -1 ≤ ch) (r2 : ch ≤ 127) (h1 : ch ≠ 42) (h2 : ch ≠ 62) {b : Int} (hb : f_X6_bracket N m1 = some b) (b0 : 0 ≤ b) (b1 : b ≤ 127) (h3 : ch = 41 → b ≠ 40) (h4 : ch = 93 → b ≠ 91) (h5 : ch = 59 → b ≠ 0) (f : Nat) : f_X6_readsTerm_L12 N (f + 1) 0 m = some (-1, m1) := by
  rw [f_X6_readsTerm_L12, hs, bn_some, hy, bn_some, jn_eq, ck1_of (by omega) (by omega), if_pos rfl, jn_eq, ck1_of (by omega) (by omega), if_pos rfl, jn_eq, ck1_of (by omega) (by omega), if_pos rfl, jn_eq, ck1_of (by omega) (by omega), if_neg z0n, ck1_of (by omega) (by omega), if_pos h1, jn_eq, ck1_of (by omega) (by omega), if_neg z0n, ck1_of (by omega) (by omega), if_pos h2, hb, jn_eq, ck1_of (by omega) (by omega), if_neg z0n, ck1_of (by omega) (by omega)]
  have last : (ck1 (0 : Int) <| if (0 : Int) ≠ 0 then some ((-1 : Int), m1) else ck1 ch <| if ch ≠ 59 then some (-1, m1) else bn (some b) fun q304_7 => ck1 q304_7 <| if q304_7 ≠ 0 then some (-1, m1) else bn (f_X6_does N m1 0) fun q312_10 => some (q312_10 29 0, (bs0 q312_10 22 ((q312_10 22 0) + 1)))) = some (-1, m1) := by
    rw [ck1_of (by omega) (by omega), if_neg z0n, ck1_of (by omega) (by omega), bn_some]
    by_cases c : ch = 59
    · rw [if_neg (fun h => h c), ck1_of (by omega) (by omega), if_pos (h5 c)]
    · rw [if_pos c]
  by_cases c : ch = 41
  · rw [if_neg (fun h => h c), bn_some, ck1_of (by omega) (by omega), if_pos (h3 c), jn_eq, ck1_of (by omega) (by omega), if_neg z0n, ck1_of (by omega) (by omega), if_pos (show ch ≠ 93 by omega)]
    exact last
  · rw [if_pos c, jn_eq, ck1_of (by omega) (by omega), if_neg z0n, ck1_of (by omega) (by omega)]
    by_cases d : ch = 93
    · rw [if_neg (fun h => h d), bn_some, ck1_of (by omega) (by omega), if_pos (h4 d)]
      exact last
    · rw [if_pos d]
      exact last
end
