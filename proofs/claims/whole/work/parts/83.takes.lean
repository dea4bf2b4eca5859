/-! read: the program's term reader, case by case -/
theorem b01 : (0 : Int) ≤ 1 := by decide
theorem b11 : (1 : Int) ≤ 1 := by decide
theorem b00 : (0 : Int) ≤ 0 := by decide
section
variable {N : Nat} {rd rd1 : Bd} {ch p : Int}
theorem isLetter_of (h1 : 0 ≤ ch) (h2 : ch ≤ 127) : f_X4_isLetter ch = some (if 97 ≤ ch ∧ ch ≤ 104 then 1 else 0) := by
  unfold f_X4_isLetter
  rw [ck1_of (by omega) (by omega)]
  by_cases c : ch < 97
  · rw [if_pos c, if_neg (by omega)]
  · rw [if_neg c]
    by_cases d : 104 < ch
    · rw [if_pos d, if_neg (by omega)]
    · rw [if_neg d, if_pos (by omega)]
theorem takes2 (h0 : rd 0 0 = 2) {z : Int} {rd' : Bd} (h : f_X4_takesAtom rd ch p = some (z, rd')) (z0 : 0 ≤ z) (z1 : z ≤ 1) : f_X4_takes N rd ch p = some (z, rd') := by
  unfold f_X4_takes
  rw [h0, ck1_of (by omega) (by omega), if_neg (by decide), if_neg (by decide), if_pos rfl, h, bn_some, ckB_of z0 z1]
theorem takes3 (h0 : rd 0 0 = 3) {z : Int} {rd' : Bd} (h : f_X4_takesBehind N rd ch = some (z, rd')) (z0 : 0 ≤ z) (z1 : z ≤ 1) : f_X4_takes N rd ch p = some (z, rd') := by
  unfold f_X4_takes
  rw [h0, ck1_of (by omega) (by omega), if_neg (by decide), if_neg (by decide), if_neg (by decide), h, bn_some, ckB_of z0 z1]
theorem tk_dig (h0 : rd 0 0 = 2) (h1 : 48 ≤ ch) (h2 : ch ≤ 51) {v w : Int} (ha : f_X4_newNode (bs0 rd 0 3) (ch - 48) 0 0 = some (v, rd1)) (hw : rd1 7 0 = w) (w0 : 0 ≤ w) (w1 : w < 120) : f_X4_takes N rd ch p = some (1, bs0 (bS rd1 6 (aS (rd1 6) w v)) 7 (w + 1)) := by
  refine takes2 h0 ?_ (by decide) (by decide)
  unfold f_X4_takesAtom
  rw [jn_eq, ck1_of (by omega) (by omega), if_neg (show ¬(ch = 91) by omega), if_pos (show ch ≠ 40 by omega), jn_eq, if_neg (show ¬(ch < 48) by omega), if_neg (show ¬(51 < ch) by omega), ha, bn_some, pushO_of hw w0 w1, bn_some, ckB_of b01 b11]
theorem tk_let (h0 : rd 0 0 = 2) (h1 : 97 ≤ ch) (h2 : ch ≤ 104) {v w : Int} (ha : f_X4_newNode (bs0 rd 0 3) 7 (ch - 97) p = some (v, rd1)) (hw : rd1 7 0 = w) (w0 : 0 ≤ w) (w1 : w < 120) : f_X4_takes N rd ch p = some (1, bs0 (bS rd1 6 (aS (rd1 6) w v)) 7 (w + 1)) := by
  refine takes2 h0 ?_ (by decide) (by decide)
  unfold f_X4_takesAtom
  rw [jn_eq, ck1_of (by omega) (by omega), if_neg (show ¬(ch = 91) by omega), if_pos (show ch ≠ 40 by omega), jn_eq, if_neg (show ¬(ch < 48) by omega), if_pos (show 51 < ch by omega), isLetter_of (by omega) (by omega), if_pos ⟨h1, h2⟩, bn_some, ck1_of (by omega) (by omega), if_neg z10, ha, bn_some, pushO_of hw w0 w1, bn_some, ck1_of (by omega) (by omega), if_neg z10]
theorem tk_open (h0 : rd 0 0 = 2) (h1 : ch = 40 ∨ ch = 91) {o : Int} (ho : rd 9 0 = o) (o0 : 0 ≤ o) (o1 : o < 120) : f_X4_takes N rd ch p = some (1, bs0 (bS rd 8 (aS (rd 8) o ch)) 9 (o + 1)) := by
  refine takes2 h0 ?_ (by decide) (by decide)
  have e : f_X4_pushOperator rd ch = some (1, bs0 (bS rd 8 (aS (rd 8) o ch)) 9 (o + 1)) := by
    unfold f_X4_pushOperator
    rw [ho, ck1_of (by omega) (by omega), if_pos o1, ckA_of o0 o1]
  unfold f_X4_takesAtom
  rw [jn_eq, ck1_of (by omega) (by omega), e, bn_some, ckB_of b01 b11]
  by_cases c : ch = 91
  · rw [if_pos c]
  · rw [if_neg c, if_neg (show ¬(ch ≠ 40) by omega)]
theorem tk_bad1 (h0 : rd 0 0 = 2) (r1 : 0 ≤ ch) (r2 : ch ≤ 127) (h1 : ¬(48 ≤ ch ∧ ch ≤ 51)) (h2 : ¬(97 ≤ ch ∧ ch ≤ 104)) (h3 : ch ≠ 40) (h4 : ch ≠ 91) : f_X4_takes N rd ch p = some (0, bs0 rd 0 3) := by
  refine takes2 h0 ?_ (by decide) (by decide)
  unfold f_X4_takesAtom
  rw [jn_eq, ck1_of (by omega) (by omega), if_neg h4, if_pos h3, jn_eq, isLetter_of r1 r2, if_neg h2, bn_some, ck1_of (by omega) (by omega), if_pos rfl]
  by_cases c : ch < 48
  · rw [if_pos c]
  · rw [if_neg c, if_pos (show 51 < ch by omega)]
theorem tk_op (h0 : rd 0 0 = 3) (h1 : ch = 42 ∨ ch = 62) (hj : f_X4_joinPairs N rd = some rd1) {o : Int} (ho : rd1 9 0 = o) (o0 : 0 ≤ o) (o1 : o < 120) : f_X4_takes N rd ch p = some (1, bs0 (bS (bs0 rd1 0 2) 8 (aS (rd1 8) o ch)) 9 (o + 1)) := by
  refine takes3 h0 ?_ (by decide) (by decide)
  have e : f_X4_pushOperator (bs0 rd1 0 2) ch = some (1, bs0 (bS (bs0 rd1 0 2) 8 (aS (rd1 8) o ch)) 9 (o + 1)) := by
    unfold f_X4_pushOperator
    rw [bs0_ne _ _ (show (9 : Nat) ≠ 0 by decide), bs0_ne _ _ (show (8 : Nat) ≠ 0 by decide), ho, ck1_of (by omega) (by omega), if_pos o1, ckA_of o0 o1]
  unfold f_X4_takesBehind
  rw [ck1_of (by omega) (by omega), if_neg (show ¬(ch = 41) by omega)]
  by_cases c : ch = 42
  · rw [if_pos c, hj, bn_some, e, bn_some, ckB_of b01 b11]
  · rw [if_neg c, if_neg (show ¬(ch = 59) by omega), if_pos (show ch = 62 by omega), hj, bn_some, e, bn_some, ckB_of b01 b11]
theorem popR_of {o x : Int} (ho : rd1 9 0 = o) (o0 : 0 ≤ o) (o1 : o ≤ 120) (hr : 1 ≤ o → 0 ≤ rd1 8 (o - 1) ∧ rd1 8 (o - 1) ≤ 127) (x0 : 0 ≤ x) (x1 : x ≤ 127) : f_X4_popOperator rd1 x = if 1 ≤ o ∧ rd1 8 (o - 1) = x then some (1, bs0 rd1 9 (o - 1)) else some (0, rd1) := by
  unfold f_X4_popOperator
  rw [top_of ho o0 o1, bn_some]
  by_cases c : o ≤ 0
  · rw [if_pos c, ck1_of (by omega) (by omega), ck1_of (by omega) (by omega), if_neg (by omega), if_neg (by omega)]
  · have := hr (by omega)
    rw [if_neg c, ck1_of (by omega) (by omega), ck1_of (by omega) (by omega), ho]
    by_cases d : rd1 8 (o - 1) = x
    · rw [if_pos d, if_pos ⟨by omega, d⟩]
    · rw [if_neg d, if_neg (fun h => d h.2)]
theorem tk_close (h0 : rd 0 0 = 3) (h1 : ch = 41) (hj : f_X4_joinAll N rd = some rd1) {z : Int} {rd2 : Bd} (hp : f_X4_popOperator rd1 40 = some (z, rd2)) (z0 : 0 ≤ z) (z1 : z ≤ 1) : f_X4_takes N rd ch p = some (z, rd2) := by
  refine takes3 h0 ?_ z0 z1
  unfold f_X4_takesBehind
  rw [ck1_of (by omega) (by omega), if_pos h1, hj, bn_some, hp, bn_some, ckB_of z0 z1]
theorem tk_box0 (h0 : rd 0 0 = 3) (h1 : ch = 93) (hj : f_X4_joinAll N rd = some rd1) {rd2 : Bd} (hp : f_X4_popOperator rd1 91 = some (0, rd2)) : f_X4_takes N rd ch p = some (0, rd2) := by
  refine takes3 h0 ?_ (by decide) (by decide)
  unfold f_X4_takesBehind
  rw [ck1_of (by omega) (by omega), if_neg (show ¬(ch = 41) by omega), if_neg (show ¬(ch = 42) by omega), if_neg (show ¬(ch = 59) by omega), if_neg (show ¬(ch = 62) by omega), if_pos h1, hj, bn_some, hp, bn_some, ck1_of (by omega) (by omega), if_pos rfl]
theorem tk_box (h0 : rd 0 0 = 3) (h1 : ch = 93) (hj : f_X4_joinAll N rd = some rd1) {rd2 rd3 : Bd} (hp : f_X4_popOperator rd1 91 = some (1, rd2)) {v w : Int} (hw : rd2 7 0 = w) (w0 : 1 ≤ w) (w1 : w ≤ 120) (ha : f_X4_newNode (bs0 rd2 7 (w - 1)) 4 (rd2 6 (w - 1)) 0 = some (v, rd3)) (hw3 : rd3 7 0 = w - 1) : f_X4_takes N rd ch p = some (1, bs0 (bS rd3 6 (aS (rd3 6) (w - 1) v)) 7 (w - 1 + 1)) := by
  refine takes3 h0 ?_ (by decide) (by decide)
  unfold f_X4_takesBehind
  rw [ck1_of (by omega) (by omega), if_neg (show ¬(ch = 41) by omega), if_neg (show ¬(ch = 42) by omega), if_neg (show ¬(ch = 59) by omega), if_neg (show ¬(ch = 62) by omega), if_pos h1, hj, bn_some, hp, bn_some, ck1_of (by omega) (by omega), if_neg z10, popO_of hw w0 w1, bn_some, ha, bn_some, pushO_of hw3 (by omega) (by omega), bn_some, ck1_of (by omega) (by omega), if_neg z10]
theorem tk_end (h0 : rd 0 0 = 3) (h1 : ch = 59) (hj : f_X4_joinAll N rd = some rd1) (h9 : rd1 9 0 = 0) (h7 : rd1 7 0 = 1) {l : Int} (hl : rd1 1 0 = l) (l0 : 0 ≤ l) (l1 : l < 8) : f_X4_takes N rd ch p = some (1, bS (bs0 (bs0 rd1 7 (1 - 1)) 0 0) 12 (aS (rd1 12) l (rd1 6 (1 - 1)))) := by
  refine takes3 h0 ?_ (by decide) (by decide)
  have e : f_X4_endEquation rd1 = some (1, bS (bs0 (bs0 rd1 7 (1 - 1)) 0 0) 12 (aS (rd1 12) l (rd1 6 (1 - 1)))) := by
    unfold f_X4_endEquation
    rw [h9, ck1_of (by omega) (by omega), if_neg z0n, h7, ck1_of (by omega) (by omega), if_pos rfl, popO_of h7 (by decide) (by decide), bn_some, hl, ckA_of l0 l1]
    dsimp only
    rw [bs0_ne _ _ (show (12 : Nat) ≠ 7 by decide)]
  unfold f_X4_takesBehind
  rw [ck1_of (by omega) (by omega), if_neg (show ¬(ch = 41) by omega), if_neg (show ¬(ch = 42) by omega), if_pos h1, hj, bn_some, e, bn_some, ckB_of b01 b11]
theorem tk_end0 (h0 : rd 0 0 = 3) (h1 : ch = 59) (hj : f_X4_joinAll N rd = some rd1) {o : Int} (h9 : rd1 9 0 = o) (o0 : 0 < o) (o1 : o ≤ 120) : f_X4_takes N rd ch p = some (0, rd1) := by
  refine takes3 h0 ?_ (by decide) (by decide)
  have e : f_X4_endEquation rd1 = some (0, rd1) := by
    unfold f_X4_endEquation
    rw [h9, ck1_of (by omega) (by omega), if_pos (by omega)]
  unfold f_X4_takesBehind
  rw [ck1_of (by omega) (by omega), if_neg (show ¬(ch = 41) by omega), if_neg (show ¬(ch = 42) by omega), if_pos h1, hj, bn_some, e, bn_some, ckB_of b00 b01]
theorem tk_bad0 (h0 : rd 0 0 = 3) (r1 : 0 ≤ ch) (r2 : ch ≤ 127) (h1 : ch ≠ 41) (h2 : ch ≠ 42) (h3 : ch ≠ 59) (h4 : ch ≠ 62) (h5 : ch ≠ 93) : f_X4_takes N rd ch p = some (0, rd) := by
  refine takes3 h0 ?_ (by decide) (by decide)
  unfold f_X4_takesBehind
  rw [ck1_of (by omega) (by omega), if_neg h1, if_neg h2, if_neg h3, if_neg h4, if_neg h5]
end
theorem SK.pop {rd m : Bd} {c o w : Int} (h : SK rd m c o w 0) (o1 : 1 ≤ o) (ht : rd 8 (o - 1) = 40 ∨ rd 8 (o - 1) = 91) : SK (bs0 rd 9 (o - 1)) (bs0 m 28 (o - 1)) c (o - 1) w 0 := by
  obtain ⟨s1, s2, s3, s4, s5, s6, s7, s8, s9⟩ := h
  have en : nb (rd 8) o.toNat = nb (rd 8) (o - 1).toNat := by
    have el : nb (rd 8) ((o - 1).toNat + 1) = nb (rd 8) (o - 1).toNat + (if rd 8 ((o - 1).toNat : Int) = 42 ∨ rd 8 ((o - 1).toNat : Int) = 62 then 1 else 0) := rfl
    rw [show o.toNat = (o - 1).toNat + 1 by omega, el, show (((o - 1).toNat : Nat) : Int) = o - 1 by omega, if_neg (by omega)]
    omega
  refine ⟨bs0_eq _ _ _ _, bs0_eq _ _ _ _, by omega, ?_, ?_, s6, ?_, fun j j0 j1 => ?_, fun j j0 j1 => ?_⟩
  · rw [bs0_ne _ _ (by decide)]; exact s4
  · rw [bs0_ne _ _ (by decide)]; exact s5
  · rw [bs0_ne _ _ (by decide)]; omega
  · rw [bs0_ne _ _ (by decide), bs0_ne _ _ (by decide)]; exact s8 j j0 (by omega)
  · rw [bs0_ne _ _ (by decide), bs0_ne _ _ (by decide)]; exact s9 j j0 j1
theorem SK.put {rd m rd' m' : Bd} {c o w a : Int} (h : SK rd m c o w a) (c0 : 0 ≤ c) (e9 : rd' 9 0 = o) (f28 : m' 28 0 = o) (e7 : rd' 7 0 = w) (f30 : m' 30 0 = w) (e8 : rd' 8 = rd 8) (f27 : m' 27 = m 27) (e6 : rd' 6 = aS (rd 6) (w - 1) c) (f29 : m' 29 = aS (m 29) (w - 1) c) : SK rd' m' (c + 1) o w a := by
  obtain ⟨s1, s2, s3, s4, s5, s6, s7, s8, s9⟩ := h
  refine ⟨e9, f28, s3, e7, f30, s6, by rw [e8]; exact s7, fun j j0 j1 => by rw [e8, f27]; exact s8 j j0 j1, fun j j0 j1 => ?_⟩
  rw [e6, f29]
  by_cases e : j = w - 1
  · rw [e, aS_eq, aS_eq]; exact ⟨rfl, c0, by omega⟩
  · rw [aS_ne _ _ e, aS_ne _ _ e]
    have := s9 j j0 j1
    exact ⟨this.1, this.2.1, by omega⟩
