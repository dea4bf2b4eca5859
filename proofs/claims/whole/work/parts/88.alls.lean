/-! read: the equations on both sides -/
/-- how many of the first n are not -1 -/
def tl (R : Int → Int) : Nat → Int
  | 0 => 0
  | n + 1 => tl R n + (if R n = -1 then 0 else 1)
theorem tl_rng (R : Int → Int) : ∀ n : Nat, 0 ≤ tl R n ∧ tl R n ≤ n := by
  intro n
  induction n with
  | zero => exact ⟨Int.le_refl 0, Int.le_refl 0⟩
  | succ n ih =>
    show 0 ≤ tl R n + _ ∧ tl R n + _ ≤ _
    split <;> omega
theorem tl_put {R : Int → Int} {l v : Int} (l0 : 0 ≤ l) (h : R l = -1) (hv : v ≠ -1) : ∀ n : Nat, tl (aS R l v) n = tl R n + (if l < n then 1 else 0) ∧ (l < n → tl R n < n) := by
  intro n
  induction n with
  | zero => exact ⟨by rw [if_neg (by omega)]; rfl, fun h => by omega⟩
  | succ n ih =>
    have e1 : tl (aS R l v) (n + 1) = tl (aS R l v) n + (if aS R l v n = -1 then 0 else 1) := rfl
    have e2 : tl R (n + 1) = tl R n + (if R n = -1 then 0 else 1) := rfl
    have tr := tl_rng R n
    by_cases c : (n : Int) = l
    · rw [e1, e2, ih.1, c, aS_eq, if_neg hv, h, if_pos rfl, if_neg (show ¬(l < l) by omega), if_pos (show l < ((n + 1 : Nat) : Int) by omega)]
      exact ⟨by omega, fun _ => by omega⟩
    · rw [e1, e2, ih.1, aS_ne _ _ c]
      constructor
      · by_cases d : l < n
        · rw [if_pos d, if_pos (show l < ((n + 1 : Nat) : Int) by omega)]; omega
        · rw [if_neg d, if_neg (show ¬(l < ((n + 1 : Nat) : Int)) by omega)]; omega
      · intro d
        have := ih.2 (by omega)
        split <;> omega
/-- where the equations stand on both sides -/
def RS (tx : Int → Int) (len : Int) (rd m : Bd) (p c e : Int) : Prop := TX tx len m ∧ NR tx len rd m c ∧ (rd 0 0 = 0 ∧ rd 7 0 = 0 ∧ rd 9 0 = 0) ∧ (rd 11 0 = e ∧ m 33 0 = e ∧ e = tl (rd 13) 8 ∧ c ≤ p) ∧
  (∀ l, 0 ≤ l → l < 8 → (rd 13 l = -1 ∧ rd 12 l = -1 ∧ m 23 l = -1) ∨ (0 ≤ rd 13 l ∧ rd 13 l < p ∧ m 24 l = rd 13 l ∧ 0 ≤ rd 12 l ∧ rd 12 l < c ∧ m 23 l = rd 12 l)) ∧
  (∀ i, 0 ≤ i → i < e → 0 ≤ rd 10 i ∧ rd 10 i < 8 ∧ rd 13 (rd 10 i) ≠ -1) ∧ (∀ i j, 0 ≤ i → i < j → j < e → rd 13 (rd 10 i) < rd 13 (rd 10 j)) ∧ (∀ l, 0 ≤ l → l < 8 → rd 13 l ≠ -1 → ∃ i, 0 ≤ i ∧ i < e ∧ rd 10 i = l)
def F9 (m m' : Bd) : Prop := ∀ s : Nat, s ≠ 9 → s ≠ 10 → s ≠ 22 → s ≠ 23 → s ≠ 24 → s ≠ 25 → s ≠ 26 → s ≠ 27 → s ≠ 28 → s ≠ 29 → s ≠ 30 → s ≠ 33 → m' s = m s
theorem F9.trans' {m m1 m2 : Bd} (h : F9 m m1) (k : F9 m1 m2) : F9 m m2 := fun s a b c d e f g i j l n o => by rw [k s a b c d e f g i j l n o, h s a b c d e f g i j l n o]
theorem F6.up {m m1 : Bd} (h : F6 m m1) : F9 m m1 := fun s a b c _ _ f g i j l n _ => h s a b c f g i j l n
theorem TX.f9 {tx : Int → Int} {len : Int} {m m' : Bd} (h : TX tx len m) (k : F9 m m') : TX tx len m' := ⟨by rw [k 8 (by decide) (by decide) (by decide) (by decide) (by decide) (by decide) (by decide) (by decide) (by decide) (by decide) (by decide) (by decide)]; exact h.1, by rw [k 7 (by decide) (by decide) (by decide) (by decide) (by decide) (by decide) (by decide) (by decide) (by decide) (by decide) (by decide) (by decide)]; exact h.2⟩
section
variable {N : Nat} {rd : Bd} {ch p : Int}
theorem tkl_bad1 (h0 : rd 0 0 = 0) (r1 : 0 ≤ ch) (r2 : ch ≤ 127) (h : ¬(97 ≤ ch ∧ ch ≤ 104)) : f_X4_takes N rd ch p = some (0, rd) := by
  unfold f_X4_takes f_X4_takesLetter
  rw [h0, ck1_of (by omega) (by omega), if_pos rfl, isLetter_of r1 r2, if_neg h, bn_some, ck1_of (by omega) (by omega), if_pos rfl, bn_some, ckB_of b00 b01]
theorem tkl_bad2 (h0 : rd 0 0 = 0) (h1 : 97 ≤ ch) (h2 : ch ≤ 104) (h3 : 0 ≤ rd 13 (ch - 97)) (h4 : rd 13 (ch - 97) ≤ 120) : f_X4_takes N rd ch p = some (0, rd) := by
  unfold f_X4_takes f_X4_takesLetter
  rw [h0, ck1_of (by omega) (by omega), if_pos rfl, isLetter_of (by omega) (by omega), if_pos ⟨h1, h2⟩, bn_some, ck1_of (by omega) (by omega), if_neg z10, ckA_of (by omega) (by omega), ck1_of (by omega) (by omega), if_pos (show rd 13 (ch - 97) ≠ -1 by omega), bn_some, ckB_of b00 b01]
theorem tkl_ok (h0 : rd 0 0 = 0) (h1 : 97 ≤ ch) (h2 : ch ≤ 104) (h3 : rd 13 (ch - 97) = -1) {e : Int} (he : rd 11 0 = e) (e0 : 0 ≤ e) (e1 : e < 8) : f_X4_takes N rd ch p = some (1, bS (bs0 (bS (bs0 (bs0 rd 0 1) 1 (ch - 97)) 10 (aS (rd 10) e (ch - 97))) 11 (e + 1)) 13 (aS (rd 13) (ch - 97) p)) := by
  unfold f_X4_takes f_X4_takesLetter
  rw [h0, ck1_of (by omega) (by omega), if_pos rfl, isLetter_of (by omega) (by omega), if_pos ⟨h1, h2⟩, bn_some, ck1_of (by omega) (by omega), if_neg z10, ckA_of (by omega) (by omega), h3, ck1_of (by omega) (by omega), if_neg (show ¬((-1 : Int) ≠ -1) by decide), he, ck1_of (by omega) (by omega), if_pos e1, ckA_of e0 e1, bn_some, ckB_of b01 b11]
theorem tke_bad (h0 : rd 0 0 = 1) (r1 : 0 ≤ ch) (r2 : ch ≤ 127) (h : ch ≠ 61) : f_X4_takes N rd ch p = some (0, bs0 rd 0 2) := by
  unfold f_X4_takes
  rw [h0, ck1_of (by omega) (by omega), if_neg z10, if_pos rfl, ck1_of (by omega) (by omega), jn_eq, if_pos h]
  dsimp only
  rw [ckB_of b00 b01]
theorem tke_ok (h0 : rd 0 0 = 1) (h : ch = 61) : f_X4_takes N rd ch p = some (1, bs0 rd 0 2) := by
  unfold f_X4_takes
  rw [h0, ck1_of (by omega) (by omega), if_neg z10, if_pos rfl, ck1_of (by omega) (by omega), jn_eq, if_neg (fun g => g h)]
  dsimp only
  rw [ckB_of b01 b11]
end
section
variable {N : Nat} {m : Bd} {k : Bd → Option (Int × Bd)} {f : Nat} {p len : Int}
/-- the reference at the end of the text -/
theorem ra_end (h22 : m 22 0 = len) (h8 : m 8 0 = len) (l0 : 0 ≤ len) (l1 : len ≤ 120) {e : Int} (h33 : m 33 0 = e) (e1 : 0 < e) (e2 : e ≤ 8) : f_X6_readsAll_L45 N k (f + 1) m = k m := by
  rw [f_X6_readsAll_L45, jn_eq, h22, ck1_of (by omega) (by omega), h8, ck1_of (by omega) (by omega), if_neg (by omega), h33, ck1_of (by omega) (by omega), if_pos (by omega)]
theorem ra_in (h22 : m 22 0 = p) (h8 : m 8 0 = len) (p0 : 0 ≤ p) (p1 : p ≤ len) (l1 : len ≤ 120) {e : Int} (h33 : m 33 0 = e) (he : p < len ∨ e = 0) (e0 : 0 ≤ e) (e2 : e ≤ 8) {o : Option (Int × Bd)} (h : (bn (f_X6_byteAt m p) fun q68_5 => bn (f_X6_in q68_5 97 104) fun q77_6 => ck1 q77_6 <| if q77_6 = 0 then some (p, m) else ckA (q68_5 - 97) 8 <| ck1 (m 23 (q68_5 - 97)) <| if (m 23 (q68_5 - 97)) < 0 then bn (f_X6_skips N (bS (bs0 m 22 (p + 1)) 24 (aS (m 24) (q68_5 - 97) p))) fun q124_12 => bn (f_X6_byteAt q124_12 (q124_12 22 0)) fun q132_13 => ck1 q132_13 <| if q132_13 = 61 then bn (f_X6_readsTerm N (bs0 q124_12 22 ((q124_12 22 0) + 1))) fun q156_16 => ck1 q156_16.1 <| if 0 ≤ q156_16.1 then bn (f_X6_skips N (bs0 (bS q156_16.2 23 (aS (q156_16.2 23) (q68_5 - 97) q156_16.1)) 33 ((q156_16.2 33 0) + 1))) fun q190_19 => f_X6_readsAll_L45 N k f q190_19 else some (q156_16.2 22 0, q156_16.2) else some (q124_12 22 0, q124_12) else some (p, m)) = o) : f_X6_readsAll_L45 N k (f + 1) m = o := by
  rw [f_X6_readsAll_L45, jn_eq, h22, ck1_of (by omega) (by omega), h8, ck1_of (by omega) (by omega), h]
  by_cases c : p < len
  · rw [if_pos c]
  · rw [if_neg c, h33, ck1_of (by omega) (by omega), if_neg (by omega)]
theorem ra_bad (h22 : m 22 0 = p) (h8 : m 8 0 = len) (p0 : 0 ≤ p) (p1 : p ≤ len) (l1 : len ≤ 120) {e : Int} (h33 : m 33 0 = e) (he : p < len ∨ e = 0) (e0 : 0 ≤ e) (e2 : e ≤ 8) {ch : Int} (hy : f_X6_byteAt m p = some ch) (r1 : -1 ≤ ch) (r2 : ch ≤ 127) (h : ¬(97 ≤ ch ∧ ch ≤ 104) ∨ (0 ≤ m 23 (ch - 97) ∧ m 23 (ch - 97) ≤ 4000)) : f_X6_readsAll_L45 N k (f + 1) m = some (p, m) := by
  refine ra_in h22 h8 p0 p1 l1 h33 he e0 e2 ?_
  rw [hy, bn_some, inr_of (by omega) (by omega) (by omega) (by omega) (by omega) (by omega), bn_some]
  by_cases c : 97 ≤ ch ∧ ch ≤ 104
  · have d : 0 ≤ m 23 (ch - 97) ∧ m 23 (ch - 97) ≤ 4000 := by
      rcases h with h | h
      · exact absurd c h
      · exact h
    rw [if_pos c, ck1_of (by omega) (by omega), if_neg z10, ckA_of (by omega) (by omega), ck1_of (by omega) (by omega), if_neg (by omega)]
  · rw [if_neg c, ck1_of (by omega) (by omega), if_pos rfl]
theorem ra_go (h22 : m 22 0 = p) (h8 : m 8 0 = len) (p0 : 0 ≤ p) (p1 : p < len) (l1 : len ≤ 120) {e : Int} (h33 : m 33 0 = e) (e0 : 0 ≤ e) (e2 : e ≤ 8) {ch : Int} (hy : f_X6_byteAt m p = some ch) (c1 : 97 ≤ ch) (c2 : ch ≤ 104) (h23 : m 23 (ch - 97) = -1) {m1 : Bd} (hs : f_X6_skips N (bS (bs0 m 22 (p + 1)) 24 (aS (m 24) (ch - 97) p)) = some m1) {q : Int} (hq : m1 22 0 = q) {c : Int} (hc : f_X6_byteAt m1 q = some c) (r1 : -1 ≤ c) (r2 : c ≤ 127) : f_X6_readsAll_L45 N k (f + 1) m = if c = 61 then (bn (f_X6_readsTerm N (bs0 m1 22 (q + 1))) fun q156_16 => ck1 q156_16.1 <| if 0 ≤ q156_16.1 then bn (f_X6_skips N (bs0 (bS q156_16.2 23 (aS (q156_16.2 23) (ch - 97) q156_16.1)) 33 ((q156_16.2 33 0) + 1))) fun q190_19 => f_X6_readsAll_L45 N k f q190_19 else some (q156_16.2 22 0, q156_16.2)) else some (q, m1) := by
  refine ra_in h22 h8 p0 (by omega) l1 h33 (Or.inl p1) e0 e2 ?_
  rw [hy, bn_some, inr_of (by omega) (by omega) (by omega) (by omega) (by omega) (by omega), bn_some, if_pos ⟨c1, c2⟩, ck1_of (by omega) (by omega), if_neg z10, ckA_of (by omega) (by omega), h23, ck1_of (by omega) (by omega), if_pos (by decide), hs, bn_some, hq, hc, bn_some, ck1_of (by omega) (by omega)]
end
