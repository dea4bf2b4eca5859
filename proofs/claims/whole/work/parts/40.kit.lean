/-! READING THE FUNCTIONS: guards, bundles, packed nodes, Graph's readers -/
section Kit
variable {α β : Type} {o : Option α}
theorem ck1_of {a : Int} (h1 : -2147483648 ≤ a) (h2 : a ≤ 2147483647) : ck1 a o = o := if_pos ⟨h1, h2⟩
theorem ckL_of {a : Int} (h1 : -9223372036854775808 ≤ a) (h2 : a ≤ 9223372036854775807) : ckL a o = o := if_pos ⟨h1, h2⟩
theorem ckA_of {i n : Int} (h1 : 0 ≤ i) (h2 : i < n) : ckA i n o = o := if_pos ⟨h1, h2⟩
theorem ckB_of {z : Int} (h1 : 0 ≤ z) (h2 : z ≤ 1) : ckB z o = o := if_pos (by omega)
theorem ckZ_of {z : Int} (h : z ≠ 0) : ckZ z o = o := if_pos h
theorem ckG_of {h : Int} {P : PL} (h1 : 0 ≤ h) (h2 : h < (P.length : Int)) : ckG h P o = o := if_pos ⟨h1, h2⟩
theorem ckN_of {h : Int} {P : PL} (h2 : h < (P.length : Int)) : ckN h P o = o := if_pos h2
theorem bn_some (a : α) (k : α → Option β) : bn (some a) k = k a := rfl
theorem jn_eq {γ δ : Type} (r : γ) (b : γ → δ) : jn r b = b r := rfl
theorem bS_eq (b : Nat → α) (k : Nat) (f : α) : bS b k f k = f := if_pos rfl
theorem bS_ne (b : Nat → α) {k j : Nat} (f : α) (h : j ≠ k) : bS b k f j = b j := if_neg h
theorem bs0_eq (b : Bd) (k : Nat) (v i : Int) : bs0 b k v k i = v := by unfold bs0; rw [bS_eq]
theorem bs0_ne (b : Bd) {k j : Nat} (v : Int) (h : j ≠ k) : bs0 b k v j = b j := by unfold bs0; rw [bS_ne _ _ h]
theorem aS_eq (f : Int → Int) (i v : Int) : aS f i v i = v := if_pos rfl
theorem aS_ne (f : Int → Int) {i j : Int} (v : Int) (h : j ≠ i) : aS f i v j = f j := if_neg h
end Kit
-- numbers
theorem zI {x : Int} (h : 0 ≤ x) : Int32.ofInt x = nI x.toNat := by
  have : x = (x.toNat : Int) := by omega
  rw [this]
  exact Int32.ofInt_eq_ofNat
theorem nI_or {a b : Nat} (ha : a < 2 ^ 31) (hb : b < 2 ^ 31) : (nI a ||| nI b) = nI (a ||| b) := by
  apply Int32.toBitVec.inj
  apply BitVec.eq_of_toNat_eq
  have h3 : a ||| b < 2 ^ 31 := Nat.or_lt_two_pow ha hb
  have e1 : (nI a).toBitVec.toNat = a := pk_tn (by omega)
  have e2 : (nI b).toBitVec.toNat = b := pk_tn (by omega)
  have e3 : (nI (a ||| b)).toBitVec.toNat = a ||| b := pk_tn (by omega)
  rw [e3]
  show ((nI a).toBitVec ||| (nI b).toBitVec).toNat = _
  rw [BitVec.toNat_or, e1, e2]
theorem i_and_mod {x : Int} (h0 : 0 ≤ x) (h1 : x < 2147483648) {m : Int} (k : Nat) (hm : (Int32.ofInt m).toBitVec.toNat = 2 ^ k - 1) (hk : k ≤ 30) (M : Int) (hM : ((2 ^ k : Nat) : Int) = M) : i_and x m = x % M := by
  unfold i_and
  have hp : 2 ^ k ≤ 2 ^ 30 := Nat.pow_le_pow_right (by decide) hk
  have hpos : 0 < 2 ^ k := Nat.pow_pos (by decide)
  have hlt := Nat.mod_lt x.toNat hpos
  rw [zI h0, pk_andN (by omega) k hm, nI_toInt (by omega), Int.natCast_emod, Int.toNat_of_nonneg h0, hM]
theorem i_shr_div {x : Int} (h0 : 0 ≤ x) (h1 : x < 2147483648) {s : Int} (k : Nat) (hs : ((Int32.ofInt s &&& 31).toBitVec.smod 32).toNat = k) (M : Int) (hM : ((2 ^ k : Nat) : Int) = M) : i_shr x s = x / M := by
  unfold i_shr
  have hd : x.toNat / 2 ^ k ≤ x.toNat := Nat.div_le_self _ _
  rw [zI h0, pk_shrN (by omega) _ k hs, nI_toInt (by omega), Int.natCast_ediv, Int.toNat_of_nonneg h0, hM]
theorem i_shl_mul {x : Int} (h0 : 0 ≤ x) {s : Int} (k : Nat) (hs : ((Int32.ofInt s &&& 31).toBitVec.smod 32).toNat = k) (M : Int) (hM : ((2 ^ k : Nat) : Int) = M) (h1 : x * M < 2147483648) : i_shl x s = x * M := by
  unfold i_shl
  subst hM
  have e : x * ((2 ^ k : Nat) : Int) = ((x.toNat * 2 ^ k : Nat) : Int) := by rw [Int.natCast_mul, Int.toNat_of_nonneg h0]
  rw [e] at h1 ⊢
  rw [zI h0, pk_shlN _ k hs (by omega), nI_toInt (by omega)]
theorem i_or_add {x y : Int} (k : Nat) (M : Int) (hM : ((2 ^ k : Nat) : Int) = M) (h0 : 0 ≤ x) (h1 : x < M) (y0 : 0 ≤ y) (hx : x < 2147483648) (hy : y * M < 2147483648) : i_or x (y * M) = x + y * M := by
  unfold i_or
  subst hM
  have e : y * ((2 ^ k : Nat) : Int) = ((y.toNat * 2 ^ k : Nat) : Int) := by rw [Int.natCast_mul, Int.toNat_of_nonneg y0]
  rw [e] at hy ⊢
  have hlt : y.toNat * 2 ^ k < 2 ^ 31 := by omega
  have hor : x.toNat ||| y.toNat * 2 ^ k = x.toNat + y.toNat * 2 ^ k := by
    have := Nat.shiftLeft_add_eq_or_of_lt (b := x.toNat) (i := k) (by omega) y.toNat
    rw [Nat.shiftLeft_eq] at this
    rw [Nat.or_comm, ← this, Nat.add_comm]
  rw [zI h0, zI (by omega), Int.toNat_natCast, nI_or (by omega) hlt, hor, nI_toInt]
  · omega
  · rw [← hor]; exact Nat.or_lt_two_pow (by omega) hlt
/-- a packed node -/
def pk (h a b : Int) : Int := h + 8 * a + 32768 * b
theorem pk_node {h a b : Int} (h0 : 0 ≤ h) (h1 : h < 8) (a0 : 0 ≤ a) (a1 : a < 4096) (b0 : 0 ≤ b) (b1 : b < 4096) : f_X6_node h a b = some (pk h a b) := by
  unfold f_X6_node
  have e1 : i_shl a 3 = a * 8 := i_shl_mul a0 3 (by decide) 8 rfl (by omega)
  have e2 : i_shl b 15 = b * 32768 := i_shl_mul b0 15 (by decide) 32768 rfl (by omega)
  rw [e1, e2, i_or_add 3 8 rfl h0 (by omega) a0 (by omega) (by omega), i_or_add 15 32768 rfl (by omega) (by omega) b0 (by omega) (by omega)]
  exact congrArg some (by unfold pk; omega)
theorem pk_rng {h a b : Int} (h0 : 0 ≤ h) (h1 : h < 8) (a0 : 0 ≤ a) (a1 : a < 4096) (b0 : 0 ≤ b) (b1 : b < 4096) : 0 ≤ pk h a b ∧ pk h a b < 2147483648 := by unfold pk; omega
theorem pk_head {h a b : Int} (h0 : 0 ≤ h) (h1 : h < 8) (a0 : 0 ≤ a) (a1 : a < 4096) (b0 : 0 ≤ b) (b1 : b < 4096) : f_X6_headOf (pk h a b) = some h := by
  unfold f_X6_headOf
  have r := pk_rng h0 h1 a0 a1 b0 b1
  rw [i_and_mod r.1 r.2 3 (by decide) (by decide) 8 rfl]
  exact congrArg some (by unfold pk; omega)
theorem pk_part0 {h a b : Int} (h0 : 0 ≤ h) (h1 : h < 8) (a0 : 0 ≤ a) (a1 : a < 4096) (b0 : 0 ≤ b) (b1 : b < 4096) : f_X6_partOf (pk h a b) 0 = some a := by
  unfold f_X6_partOf
  have r := pk_rng h0 h1 a0 a1 b0 b1
  have e : i_shr (pk h a b) 3 = pk h a b / 8 := i_shr_div r.1 r.2 3 (by decide) 8 rfl
  have q : 0 ≤ pk h a b / 8 ∧ pk h a b / 8 < 2147483648 := by omega
  rw [ck1_of (by omega) (by omega), if_neg (by omega), e, i_and_mod q.1 q.2 12 (by decide) (by decide) 4096 rfl]
  exact congrArg some (by unfold pk; omega)
theorem pk_part1 {h a b : Int} (h0 : 0 ≤ h) (h1 : h < 8) (a0 : 0 ≤ a) (a1 : a < 4096) (b0 : 0 ≤ b) (b1 : b < 4096) : f_X6_partOf (pk h a b) 1 = some b := by
  unfold f_X6_partOf
  have r := pk_rng h0 h1 a0 a1 b0 b1
  have e : i_shr (pk h a b) 15 = pk h a b / 32768 := i_shr_div r.1 r.2 15 (by decide) 32768 rfl
  have q : 0 ≤ pk h a b / 32768 ∧ pk h a b / 32768 < 2147483648 := by omega
  rw [ck1_of (by omega) (by omega), if_pos (by omega), e, i_and_mod q.1 q.2 12 (by decide) (by decide) 4096 rfl]
  exact congrArg some (by unfold pk; omega)
theorem parts_ar {h : Int} (h0 : 0 ≤ h) (h1 : h < 8) : f_X6_parts h = some (ar h) := by
  unfold f_X6_parts ar
  rw [ck1_of (by omega) (by omega)]
  by_cases a : h = 4
  · rw [if_neg (by omega), if_pos a]
  · rw [if_pos a, if_neg a]
    by_cases b : h = 5
    · rw [if_pos b, if_pos (Or.inl b)]
    · rw [if_neg b]
      by_cases c : h = 6
      · rw [if_neg (by omega), if_pos (Or.inr c)]
      · rw [if_pos c, if_neg (by omega)]
theorem partsOf_ar {h : Int} (h0 : 0 ≤ h) (h1 : h ≤ 6) : f_X5_partsOf h = some (ar h) := by
  unfold f_X5_partsOf ar
  rw [ck1_of (by omega) (by omega)]
  by_cases a : 4 ≤ h
  · rw [if_pos a, jn_eq]
    by_cases b : h = 4
    · rw [if_neg (by omega), if_pos b]
    · rw [if_pos b, if_neg b, if_pos (by omega)]
  · rw [if_neg a, if_neg (by omega), if_neg (by omega)]
theorem in_of {v l h : Int} (v0 : inR v) (l0 : inR l) (h0 : inR h) : f_X6_in v l h = some (if l ≤ v ∧ v ≤ h then 1 else 0) := by
  unfold f_X6_in
  rw [ck1_of v0.1 v0.2, ck1_of l0.1 l0.2, ck1_of h0.1 h0.2]
  by_cases a : v < l
  · rw [if_pos a, if_neg (by omega)]
  · rw [if_neg a]
    by_cases b : h < v
    · rw [if_pos b, if_neg (by omega)]
    · rw [if_neg b, if_pos (by omega)]
-- Graph
def GP (g : Gr) : GG := fun v j => g.2 (3 * v + j)
/-- a pool's graph is a least one, of 40 nodes at most -/
def GOK (g : Gr) : Prop := Can (GP g) g.1 ∧ g.1 ≤ 40
def POK (P : PL) : Prop := ∀ h, 0 ≤ h → h < (P.length : Int) → GOK (gP P h)
theorem GOK.node {g : Gr} (h : GOK g) {v : Int} (v0 : 0 ≤ v) (v1 : v < g.1) : 0 ≤ GP g v 0 ∧ GP g v 0 ≤ 6 ∧ 0 ≤ GP g v 1 ∧ GP g v 1 < g.1 ∧ 0 ≤ GP g v 2 ∧ GP g v 2 < g.1 := by
  obtain ⟨⟨hn, hW, -, -, -, hZ⟩, h40⟩ := h
  have a := hW v v0 v1
  have p : ∀ i, 0 ≤ i → i < 2 → 0 ≤ GP g v (1 + i) ∧ GP g v (1 + i) < g.1 := by
    intro i i0 i1
    by_cases hi : i < ar (GP g v 0)
    · exact a.2.2 i i0 hi
    · rw [hZ v i v0 v1 (by omega) i1]; omega
  exact ⟨a.1, a.2.1, (p 0 (by omega) (by omega)).1, (p 0 (by omega) (by omega)).2, (p 1 (by omega) (by omega)).1, (p 1 (by omega) (by omega)).2⟩
theorem holds_of {P : PL} {h v : Int} (hs : (gP P h).1 ≤ 40) (v0 : 0 ≤ v) (v1 : v < (gP P h).1) : f_X2_holds P h v = some 1 := by
  unfold f_X2_holds
  rw [ck1_of (by omega) (by omega), if_neg (by omega), ck1_of (by omega) (by omega), if_neg (by omega)]
theorem headAt_of {P : PL} {h v : Int} (hs : (gP P h).1 ≤ 40) (v0 : 0 ≤ v) (v1 : v < (gP P h).1) : f_X2_headAt P h v = some (GP (gP P h) v 0) := by
  unfold f_X2_headAt GP
  rw [holds_of hs v0 v1, bn_some, ck1_of (by omega) (by omega), if_neg (by omega), ckA_of (by omega) (by omega), ck1_of (by omega) (by omega), show 3 * v + 0 = 3 * v by omega]
theorem partAt_of {P : PL} {h v i : Int} (hs : (gP P h).1 ≤ 40) (v0 : 0 ≤ v) (v1 : v < (gP P h).1) (i0 : 0 ≤ i) (i1 : i < 2) : f_X2_partAt P h v i = some (GP (gP P h) v (1 + i)) := by
  unfold f_X2_partAt GP
  rw [holds_of hs v0 v1, bn_some, ck1_of (by omega) (by omega), if_neg (by omega), ck1_of (by omega) (by omega), if_neg (by omega), if_neg (by omega), ckA_of (by omega) (by omega), ck1_of (by omega) (by omega), show 3 * v + 1 + i = 3 * v + (1 + i) by omega]
theorem partCount_of {P : PL} {h v : Int} (hg : GOK (gP P h)) (v0 : 0 ≤ v) (v1 : v < (gP P h).1) : f_X2_partCount P h v = some (ar (GP (gP P h) v 0)) := by
  unfold f_X2_partCount
  have n := hg.node v0 v1
  rw [headAt_of hg.2 v0 v1, bn_some, partsOf_ar n.1 n.2.1, bn_some]
