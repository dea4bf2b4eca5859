/-! signs, swap -/
def sw (s : Int) : Int := s % 2 * 2 + s / 2
def pc2 (s : Int) : Int := s % 2 + s / 2
theorem or4 {a b : Int} (a0 : 0 ≤ a) (a1 : a ≤ 3) (b0 : 0 ≤ b) (b1 : b ≤ 3) : 0 ≤ i_or a b ∧ i_or a b ≤ 3 ∧ (i_or a b = a ∨ pc2 a + 1 ≤ pc2 (i_or a b)) ∧ pc2 a ≤ pc2 (i_or a b) := by
  have ha : a = 0 ∨ a = 1 ∨ a = 2 ∨ a = 3 := by omega
  have hb : b = 0 ∨ b = 1 ∨ b = 2 ∨ b = 3 := by omega
  rcases ha with rfl | rfl | rfl | rfl <;> rcases hb with rfl | rfl | rfl | rfl <;> decide
theorem or4_0 {a : Int} (a0 : 0 ≤ a) (a1 : a ≤ 3) : i_or 0 a = a ∧ i_or a 0 = a := by
  have ha : a = 0 ∨ a = 1 ∨ a = 2 ∨ a = 3 := by omega
  rcases ha with rfl | rfl | rfl | rfl <;> decide
theorem sw4 {a : Int} (a0 : 0 ≤ a) (a1 : a ≤ 3) : 0 ≤ sw a ∧ sw a ≤ 3 ∧ i_or (i_shl (i_and a 1) 1) (i_shr a 1) = sw a ∧ i_or (i_shr a 1) (i_and (i_shl a 1) 2) = sw a := by
  have ha : a = 0 ∨ a = 1 ∨ a = 2 ∨ a = 3 := by omega
  rcases ha with rfl | rfl | rfl | rfl <;> decide
theorem or01 {a b : Int} (ha : a = 0 ∨ a = 1) (hb : b = 0 ∨ b = 1) : i_or a b = if a = 0 then b else 1 := by
  rcases ha with rfl | rfl <;> rcases hb with rfl | rfl <;> decide
/-- the signs that go on by part i of a node with head h -/
def sgn (h i s : Int) : Int := if h = 6 ∧ i = 0 then sw s else s
theorem sgn4 {h i s : Int} (a0 : 0 ≤ s) (a1 : s ≤ 3) : 0 ≤ sgn h i s ∧ sgn h i s ≤ 3 := by
  unfold sgn
  have := sw4 a0 a1
  split <;> omega
/-- how many bits the first n have -/
def wt (V : Int → Int) : Nat → Int
  | 0 => 0
  | n + 1 => wt V n + pc2 (V n)
theorem wt_le {V : Int → Int} : ∀ n : Nat, (∀ v : Int, 0 ≤ v → v < n → 0 ≤ V v ∧ V v ≤ 3) → wt V n ≤ 2 * n := by
  intro n
  induction n with
  | zero => intro _; exact Int.le_refl 0
  | succ n ih =>
    intro h
    have a := ih (fun v v0 v1 => h v v0 (by omega))
    have b := h n (by omega) (by omega)
    have : pc2 (V n) ≤ 2 := by unfold pc2; omega
    show wt V n + pc2 (V n) ≤ _
    omega
theorem wt_set {V : Int → Int} {p x : Int} (p0 : 0 ≤ p) : ∀ n : Nat, wt (aS V p x) n = wt V n + (if p < n then pc2 x - pc2 (V p) else 0) := by
  intro n
  induction n with
  | zero => rw [if_neg (by omega)]; rfl
  | succ n ih =>
    show wt (aS V p x) n + pc2 (aS V p x n) = wt V n + pc2 (V n) + _
    rw [ih]
    by_cases c : (n : Int) = p
    · rw [c, aS_eq, if_neg (by omega), if_pos (by omega)]; omega
    · rw [aS_ne _ _ c]
      by_cases d : p < n
      · rw [if_pos d, if_pos (by omega)]; omega
      · rw [if_neg d, if_neg (by omega)]; omega
theorem wt_0 {V : Int → Int} {n : Nat} (hn : 1 ≤ n) (h : ∀ v : Int, 0 ≤ v → v < n → 0 ≤ V v ∧ V v ≤ 3) (h0 : V 0 = 1) : 1 ≤ wt V n := by
  induction n with
  | zero => omega
  | succ n ih =>
    show 1 ≤ wt V n + pc2 (V n)
    have b := h n (by omega) (by omega)
    have : 0 ≤ pc2 (V n) := by unfold pc2; omega
    by_cases c : n = 0
    · subst c
      show 1 ≤ wt V 0 + pc2 (V ((0 : Nat) : Int))
      rw [show ((0 : Nat) : Int) = 0 from rfl, h0]
      show (1 : Int) ≤ 0 + pc2 1
      decide
    · have := ih (by omega) (fun v v0 v1 => h v v0 (by omega))
      omega
def Sg4 (X : Gr) (V S : Int → Int) : Prop := ∀ v, 0 ≤ v → v < X.1 → 0 ≤ V v ∧ V v ≤ 3 ∧ S v = V v
/-- nothing is to be passed on by part j of node u -/
def Cl4 (X : Gr) (V : Int → Int) (u j : Int) : Prop := i_or (V (GP X u (1 + j))) (sgn (GP X u 0) j (V u)) = V (GP X u (1 + j))
theorem aS_id (f : Int → Int) (i : Int) : aS f i (f i) = f := by
  funext v
  by_cases h : v = i
  · rw [h, aS_eq]
  · rw [aS_ne _ _ h]
theorem sg_in {P : PL} {m ms : Bd} {g : Int} (p0 : 0 ≤ g) (p1 : g < (P.length : Int)) (gg : GOK (gP P g)) (hC : CM (m 9) 0 (gP P g) (gP P g).1) {k0 : Int} (k00 : 0 ≤ k0) (k01 : k0 < (gP P g).1) (x3 x4 : Int) : ∀ (f : Nat) (z i : Int) (ms1 m1 : Bd), ar (GP (gP P g) k0 0) - i < f → 0 ≤ i → i ≤ ar (GP (gP P g) k0 0) → (∀ s : Nat, s ≠ 0 → ms1 s = ms s) → (∀ s : Nat, s ≠ 21 → m1 s = m s) → Sg4 (gP P g) (ms1 0) (m1 21) → (z = 0 ∨ z = 1) → (z = 0 → ∀ j, 0 ≤ j → j < i → Cl4 (gP P g) (ms1 0) k0 j) →
    ∃ z' ms' m', (∀ s : Nat, s ≠ 0 → ms' s = ms s) ∧ (∀ s : Nat, s ≠ 21 → m' s = m s) ∧ Sg4 (gP P g) (ms' 0) (m' 21) ∧ (z' = 0 ∨ z' = 1) ∧ (z' = 0 → z = 0 ∧ ms' 0 = ms1 0 ∧ ∀ j, 0 ≤ j → j < ar (GP (gP P g) k0 0) → Cl4 (gP P g) (ms' 0) k0 j) ∧ (z' = 1 → z = 1 ∨ wt (ms1 0) (gP P g).1.toNat + 1 ≤ wt (ms' 0) (gP P g).1.toNat) ∧ wt (ms1 0) (gP P g).1.toNat ≤ wt (ms' 0) (gP P g).1.toNat ∧ (∀ k, f_X3_passSigns_L19 P g k0 (GP (gP P g) k0 0) (ar (GP (gP P g) k0 0)) k f z i ms1 = k z' ms') ∧ (∀ k, f_X6_signs_L96 x3 x4 k0 (GP (gP P g) k0 0) k f i m1 = k m') := by
  have har := ar_le (GP (gP P g) k0 0)
  have g40 := gg.2
  have r := gg.node k00 k01
  have d := hC k0 k00 k01
  rw [show 0 + k0 = k0 by omega] at d
  intro f
  induction f with
  | zero => intro z i ms1 m1 h0 _ h2; omega
  | succ f ih =>
    intro z i ms1 m1 h0 i0 i1 hf hg hV hz hcl
    have e9 : m1 9 = m 9 := hg 9 (by decide)
    have q2 : f_X6_parts (GP (gP P g) k0 0) = some (ar (GP (gP P g) k0 0)) := parts_ar (by omega) (by omega)
    by_cases hx : ar (GP (gP P g) k0 0) ≤ i
    · have ei : i = ar (GP (gP P g) k0 0) := by omega
      refine ⟨z, ms1, m1, hf, hg, hV, hz, fun e => ⟨e, rfl, by rw [← ei]; exact hcl e⟩, fun e => Or.inl e, Int.le_refl _, fun k => ?_, fun k => ?_⟩
      · simp (disch := omega) only [f_X3_passSigns_L19, ↓ck1_of, ↓if_pos]
      · simp (disch := omega) only [f_X6_signs_L96, ↓ck1_of, ↓if_pos, q2, ↓bn_some]
    · have q3 := partAt_of (h := g) g40 k00 k01 (i := i) i0 (by omega)
      have q4 : f_X6_partOf (m1 9 k0) i = some (GP (gP P g) k0 (1 + i)) := by
        rw [e9, partOf_of d.1 i0 (by omega)]
        refine congrArg some (two (Q := fun j => MG (m 9) k0 j = GP (gP P g) k0 j) (by have := d.2.2.1; omega) (by have := d.2.2.2; omega) i0 (by omega))
      have pr : 0 ≤ GP (gP P g) k0 (1 + i) ∧ GP (gP P g) k0 (1 + i) < (gP P g).1 := two (Q := fun j => 0 ≤ GP (gP P g) k0 j ∧ GP (gP P g) k0 j < (gP P g).1) ⟨r.2.2.1, r.2.2.2.1⟩ ⟨r.2.2.2.2.1, r.2.2.2.2.2⟩ i0 (by omega)
      have vk := hV k0 k00 k01
      have vp := hV _ pr.1 pr.2
      have ek := vk.2.2
      have ep := vp.2.2
      have sk := sgn4 (h := GP (gP P g) k0 0) (i := i) vk.1 vk.2.1
      have o4 := or4 vp.1 vp.2.1 sk.1 sk.2
      have s4 := sw4 vk.1 vk.2.1
      generalize hu : GP (gP P g) k0 (1 + i) = u at *
      generalize hw : i_or (ms1 0 u) (sgn (GP (gP P g) k0 0) i (ms1 0 k0)) = w at *
      -- what both write
      have run : ∀ (z2 : Int) (ms2 : Bd), (if w = ms1 0 u then (z2 = z ∧ ms2 = ms1) else (z2 = 1 ∧ ms2 = bS ms1 0 (aS (ms1 0) u w))) → (∀ k, f_X3_passSigns_L19 P g k0 (GP (gP P g) k0 0) (ar (GP (gP P g) k0 0)) k (f + 1) z i ms1 = f_X3_passSigns_L19 P g k0 (GP (gP P g) k0 0) (ar (GP (gP P g) k0 0)) k f z2 (i + 1) ms2) := by
        intro z2 ms2 hzm k
        rw [f_X3_passSigns_L19]
        by_cases c6 : GP (gP P g) k0 0 = 6
        · by_cases c0 : i = 0
          · have ew : i_or (ms1 0 u) (sw (ms1 0 k0)) = w := by rw [← hw]; unfold sgn; rw [if_pos ⟨c6, c0⟩]
            by_cases cw : w = ms1 0 u
            · rw [if_pos cw] at hzm
              rw [hzm.1, hzm.2]
              simp (disch := omega) only [↓ck1_of, ↓ckA_of, ↓ckG_of, ↓jn_eq, ↓if_neg, ↓if_pos, s4.2.2.1, q3, ↓bn_some, ew]
            · rw [if_neg cw] at hzm
              rw [hzm.1, hzm.2]
              simp (disch := omega) only [↓ck1_of, ↓ckA_of, ↓ckG_of, ↓jn_eq, ↓if_neg, s4.2.2.1, q3, ↓bn_some, ew]
          · have ew : i_or (ms1 0 u) (ms1 0 k0) = w := by rw [← hw]; unfold sgn; rw [if_neg (by omega)]
            by_cases cw : w = ms1 0 u
            · rw [if_pos cw] at hzm
              rw [hzm.1, hzm.2]
              simp (disch := omega) only [↓ck1_of, ↓ckA_of, ↓ckG_of, ↓jn_eq, ↓if_neg, ↓if_pos, q3, ↓bn_some, ew]
            · rw [if_neg cw] at hzm
              rw [hzm.1, hzm.2]
              simp (disch := omega) only [↓ck1_of, ↓ckA_of, ↓ckG_of, ↓jn_eq, ↓if_neg, ↓if_pos, q3, ↓bn_some, ew]
        · have ew : i_or (ms1 0 u) (ms1 0 k0) = w := by rw [← hw]; unfold sgn; rw [if_neg (by omega)]
          by_cases cw : w = ms1 0 u
          · rw [if_pos cw] at hzm
            rw [hzm.1, hzm.2]
            simp (disch := omega) only [↓ck1_of, ↓ckA_of, ↓ckG_of, ↓jn_eq, ↓if_neg, ↓if_pos, q3, ↓bn_some, ew]
          · rw [if_neg cw] at hzm
            rw [hzm.1, hzm.2]
            simp (disch := omega) only [↓ck1_of, ↓ckA_of, ↓ckG_of, ↓jn_eq, ↓if_neg, ↓if_pos, q3, ↓bn_some, ew]
      have run2 : ∀ k, f_X6_signs_L96 x3 x4 k0 (GP (gP P g) k0 0) k (f + 1) i m1 = f_X6_signs_L96 x3 x4 k0 (GP (gP P g) k0 0) k f (i + 1) (bS m1 21 (aS (m1 21) u w)) := by
        intro k
        rw [f_X6_signs_L96]
        by_cases c6 : GP (gP P g) k0 0 = 6
        · by_cases c0 : i = 0
          · have ew : i_or (ms1 0 u) (sw (ms1 0 k0)) = w := by rw [← hw]; unfold sgn; rw [if_pos ⟨c6, c0⟩]
            simp (disch := omega) only [↓ck1_of, ↓ckA_of, ↓jn_eq, ↓if_neg, ↓if_pos, q2, q4, ↓bn_some, ek, ep, s4.2.2.2, ew]
          · have ew : i_or (ms1 0 u) (ms1 0 k0) = w := by rw [← hw]; unfold sgn; rw [if_neg (by omega)]
            simp (disch := omega) only [↓ck1_of, ↓ckA_of, ↓jn_eq, ↓if_neg, ↓if_pos, q2, q4, ↓bn_some, ek, ep, ew]
        · have ew : i_or (ms1 0 u) (ms1 0 k0) = w := by rw [← hw]; unfold sgn; rw [if_neg (by omega)]
          simp (disch := omega) only [↓ck1_of, ↓ckA_of, ↓jn_eq, ↓if_neg, ↓if_pos, q2, q4, ↓bn_some, ek, ep, ew]
      have hg2 : ∀ s : Nat, s ≠ 21 → (bS m1 21 (aS (m1 21) u w)) s = m s := fun s hs => by rw [bS_ne _ _ hs]; exact hg s hs
      by_cases cw : w = ms1 0 u
      · have hV2 : Sg4 (gP P g) (ms1 0) ((bS m1 21 (aS (m1 21) u w)) 21) := by
          rw [bS_eq, cw, ← ep, aS_id]; exact hV
        obtain ⟨z', ms', m', a1, a2, a3, a4, a5, a6, a7, a8, a9⟩ := ih z (i + 1) ms1 (bS m1 21 (aS (m1 21) u w)) (by omega) (by omega) (by omega) hf hg2 hV2 hz (fun e => fun j j0 j1 => by
          by_cases c : j = i
          · subst c
            unfold Cl4
            rw [hu, hw, cw]
          · exact hcl e j j0 (by omega))
        refine ⟨z', ms', m', a1, a2, a3, a4, a5, a6, a7, fun k => ?_, fun k => ?_⟩
        · rw [run z ms1 (by rw [if_pos cw]; exact ⟨rfl, rfl⟩) k]; exact a8 k
        · rw [run2 k]; exact a9 k
      · have hV2 : Sg4 (gP P g) ((bS ms1 0 (aS (ms1 0) u w)) 0) ((bS m1 21 (aS (m1 21) u w)) 21) := by
          rw [bS_eq, bS_eq]
          intro v v0 v1
          by_cases c : v = u
          · rw [c, aS_eq, aS_eq]; exact ⟨o4.1, o4.2.1, rfl⟩
          · rw [aS_ne _ _ c, aS_ne _ _ c]; exact hV v v0 v1
        obtain ⟨z', ms', m', a1, a2, a3, a4, a5, a6, a7, a8, a9⟩ := ih 1 (i + 1) (bS ms1 0 (aS (ms1 0) u w)) (bS m1 21 (aS (m1 21) u w)) (by omega) (by omega) (by omega) (fun s hs => by rw [bS_ne _ _ hs]; exact hf s hs) hg2 hV2 (Or.inr rfl) (fun e => by omega)
        have ws := wt_set (V := ms1 0) (x := w) pr.1 (gP P g).1.toNat
        rw [if_pos (by omega)] at ws
        rw [bS_eq] at a7
        refine ⟨z', ms', m', a1, a2, a3, a4, fun e => absurd (a5 e).1 (by decide), fun e => Or.inr (by omega), by omega, fun k => ?_, fun k => ?_⟩
        · rw [run 1 _ (by rw [if_neg cw]; exact ⟨rfl, rfl⟩) k]; exact a8 k
        · rw [run2 k]; exact a9 k
theorem sg_out {N : Nat} (hN : 4000 ≤ N) {P : PL} {m ms : Bd} {g : Int} (p0 : 0 ≤ g) (p1 : g < (P.length : Int)) (gg : GOK (gP P g)) (hC : CM (m 9) 0 (gP P g) (gP P g).1) (y x4 t : Int) : ∀ (f : Nat) (z k0 : Int) (ms1 m1 : Bd), (gP P g).1 - k0 < f → 0 ≤ k0 → k0 ≤ (gP P g).1 → (∀ s : Nat, s ≠ 0 → ms1 s = ms s) → (∀ s : Nat, s ≠ 21 → m1 s = m s) → Sg4 (gP P g) (ms1 0) (m1 21) → (z = 0 ∨ z = 1) → (z = 0 → ∀ u j, 0 ≤ u → u < k0 → 0 ≤ j → j < ar (GP (gP P g) u 0) → Cl4 (gP P g) (ms1 0) u j) →
    ∃ z' ms' m', (∀ s : Nat, s ≠ 0 → ms' s = ms s) ∧ (∀ s : Nat, s ≠ 21 → m' s = m s) ∧ Sg4 (gP P g) (ms' 0) (m' 21) ∧ (z' = 0 ∨ z' = 1) ∧ (z' = 0 → z = 0 ∧ ∀ u j, 0 ≤ u → u < (gP P g).1 → 0 ≤ j → j < ar (GP (gP P g) u 0) → Cl4 (gP P g) (ms' 0) u j) ∧ (z' = 1 → z = 1 ∨ wt (ms1 0) (gP P g).1.toNat + 1 ≤ wt (ms' 0) (gP P g).1.toNat) ∧ wt (ms1 0) (gP P g).1.toNat ≤ wt (ms' 0) (gP P g).1.toNat ∧ (∀ k, f_X3_signsAt_L54 N P g y t k f z k0 ms1 = k z' ms') ∧ (∀ k, f_X6_signs_L75 N (gP P g).1 x4 k f k0 m1 = k m') := by
  have g40 := gg.2
  intro f
  induction f with
  | zero => intro z i ms1 m1 h0 _ h2; omega
  | succ f ih =>
    intro z k0 ms1 m1 h0 k00 k01 hf hg hV hz hcl
    have e9 : m1 9 = m 9 := hg 9 (by decide)
    by_cases hx : (gP P g).1 ≤ k0
    · have ei : k0 = (gP P g).1 := by omega
      refine ⟨z, ms1, m1, hf, hg, hV, hz, fun e => ⟨e, by rw [← ei]; exact hcl e⟩, fun e => Or.inl e, Int.le_refl _, fun k => ?_, fun k => ?_⟩
      · simp (disch := omega) only [f_X3_signsAt_L54, ↓ckG_of, ↓ck1_of, ↓if_pos]
      · simp (disch := omega) only [f_X6_signs_L75, ↓ck1_of, ↓if_pos]
    · have k01' : k0 < (gP P g).1 := by omega
      have har := ar_le (GP (gP P g) k0 0)
      have r := gg.node k00 k01'
      have d := hC k0 k00 k01'
      rw [show 0 + k0 = k0 by omega] at d
      have q1 : f_X6_headOf (m1 9 k0) = some (GP (gP P g) k0 0) := by rw [e9, headOf_of d.1, d.2.1]
      have q2 := headAt_of (h := g) g40 k00 k01'
      have q3 := partsOf_ar (h := GP (gP P g) k0 0) (by omega) (by omega)
      obtain ⟨z1, ms2, m2, a1, a2, a3, a4, a5, a6, a7, a8, a9⟩ := sg_in p0 p1 gg hC k00 k01' (gP P g).1 x4 N 0 0 ms1 m1 (by omega) (by omega) (by omega) hf hg hV (Or.inl rfl) (fun _ j j0 j1 => by omega)
      have ez := or01 hz a4
      have hz2 : i_or z z1 = 0 ∨ i_or z z1 = 1 := by
        rw [ez]
        by_cases c : z = 0
        · rw [if_pos c]; exact a4
        · rw [if_neg c]; exact Or.inr rfl
      have hz0 : i_or z z1 = 0 → z = 0 ∧ z1 = 0 := by
        rw [ez]
        by_cases c : z = 0
        · rw [if_pos c]; exact fun h => ⟨c, h⟩
        · rw [if_neg c]; exact fun h => absurd h (by decide)
      have hz1 : i_or z z1 = 1 → z = 1 ∨ z1 = 1 := by
        rw [ez]
        by_cases c : z = 0
        · rw [if_pos c]; exact fun h => Or.inr h
        · exact fun _ => Or.inl (by omega)
      obtain ⟨z', ms', m', b1, b2, b3, b4, b5, b6, b7, b8, b9⟩ := ih (i_or z z1) (k0 + 1) ms2 m2 (by omega) (by omega) (by omega) a1 a2 a3 hz2 (fun e u j u0 u1 j0 j1 => by
        obtain ⟨e1, e2⟩ := hz0 e
        have := a5 e2
        by_cases c : u = k0
        · subst c; exact this.2.2 j j0 j1
        · have q := hcl e1 u j u0 (by omega) j0 j1
          unfold Cl4 at *
          rw [this.2.1]
          exact q)
      refine ⟨z', ms', m', b1, b2, b3, b4, fun e => ⟨(hz0 (b5 e).1).1, (b5 e).2⟩, fun e => ?_, by omega, fun k => ?_, fun k => ?_⟩
      · rcases b6 e with q | q
        · rcases hz1 q with q | q
          · exact Or.inl q
          · rcases a6 q with q | q
            · exact absurd q (by decide)
            · exact Or.inr (by omega)
        · exact Or.inr (by omega)
      · rcases a4 with rfl | rfl
        · simp (disch := omega) only [f_X3_signsAt_L54, ↓ckG_of, ↓ck1_of, ↓if_neg, f_X3_passSigns, q2, q3, ↓bn_some, a8, ↓ckB_of]
          exact b8 k
        · simp (disch := omega) only [f_X3_signsAt_L54, ↓ckG_of, ↓ck1_of, ↓if_neg, f_X3_passSigns, q2, q3, ↓bn_some, a8, ↓ckB_of]
          exact b8 k
      · simp (disch := omega) only [f_X6_signs_L75, ↓ckA_of, ↓ck1_of, ↓if_neg, q1, ↓bn_some, a9]
        exact b9 k
theorem sgi_in {P : PL} {m : Bd} {g : Int} (gg : GOK (gP P g)) (hC : CM (m 9) 0 (gP P g) (gP P g).1) (hr : ∀ v, 0 ≤ v → v < (gP P g).1 → 0 ≤ m 21 v ∧ m 21 v ≤ 3) (hS : ∀ u j, 0 ≤ u → u < (gP P g).1 → 0 ≤ j → j < ar (GP (gP P g) u 0) → Cl4 (gP P g) (m 21) u j) {k0 : Int} (k00 : 0 ≤ k0) (k01 : k0 < (gP P g).1) (x3 x4 : Int) : ∀ (f : Nat) (i : Int), ar (GP (gP P g) k0 0) - i < f → 0 ≤ i → i ≤ ar (GP (gP P g) k0 0) → ∀ k, f_X6_signs_L96 x3 x4 k0 (GP (gP P g) k0 0) k f i m = k m := by
  have har := ar_le (GP (gP P g) k0 0)
  have g40 := gg.2
  have r := gg.node k00 k01
  have d := hC k0 k00 k01
  rw [show 0 + k0 = k0 by omega] at d
  have q2 : f_X6_parts (GP (gP P g) k0 0) = some (ar (GP (gP P g) k0 0)) := parts_ar (by omega) (by omega)
  have rk := hr k0 k00 k01
  intro f
  induction f with
  | zero => intro i h0 _ h2; omega
  | succ f ih =>
    intro i h0 i0 i1 k
    by_cases hx : ar (GP (gP P g) k0 0) ≤ i
    · simp (disch := omega) only [f_X6_signs_L96, ↓ck1_of, ↓if_pos, q2, ↓bn_some]
    · have q4 : f_X6_partOf (m 9 k0) i = some (GP (gP P g) k0 (1 + i)) := by
        rw [partOf_of d.1 i0 (by omega)]
        refine congrArg some (two (Q := fun j => MG (m 9) k0 j = GP (gP P g) k0 j) (by have := d.2.2.1; omega) (by have := d.2.2.2; omega) i0 (by omega))
      have pr : 0 ≤ GP (gP P g) k0 (1 + i) ∧ GP (gP P g) k0 (1 + i) < (gP P g).1 := two (Q := fun j => 0 ≤ GP (gP P g) k0 j ∧ GP (gP P g) k0 j < (gP P g).1) ⟨r.2.2.1, r.2.2.2.1⟩ ⟨r.2.2.2.2.1, r.2.2.2.2.2⟩ i0 (by omega)
      have hs := hS k0 i k00 k01 i0 (by omega)
      have s4 := sw4 rk.1 rk.2
      unfold Cl4 sgn at hs
      have nx := ih (i + 1) (by omega) (by omega) (by omega) k
      rw [f_X6_signs_L96]
      by_cases c6 : GP (gP P g) k0 0 = 6
      · by_cases c0 : i = 0
        · rw [if_pos ⟨c6, c0⟩] at hs
          simp (disch := omega) only [↓ck1_of, ↓ckA_of, ↓jn_eq, ↓if_neg, ↓if_pos, q2, q4, ↓bn_some, s4.2.2.2, hs, bS_self]
          exact nx
        · rw [if_neg (by omega)] at hs
          simp (disch := omega) only [↓ck1_of, ↓ckA_of, ↓jn_eq, ↓if_neg, ↓if_pos, q2, q4, ↓bn_some, hs, bS_self]
          exact nx
      · rw [if_neg (by omega)] at hs
        simp (disch := omega) only [↓ck1_of, ↓ckA_of, ↓jn_eq, ↓if_neg, ↓if_pos, q2, q4, ↓bn_some, hs, bS_self]
        exact nx
theorem sgi_out {N : Nat} (hN : 4000 ≤ N) {P : PL} {m : Bd} {g : Int} (gg : GOK (gP P g)) (hC : CM (m 9) 0 (gP P g) (gP P g).1) (hr : ∀ v, 0 ≤ v → v < (gP P g).1 → 0 ≤ m 21 v ∧ m 21 v ≤ 3) (hS : ∀ u j, 0 ≤ u → u < (gP P g).1 → 0 ≤ j → j < ar (GP (gP P g) u 0) → Cl4 (gP P g) (m 21) u j) (x4 : Int) : ∀ (f : Nat) (k0 : Int), (gP P g).1 - k0 < f → 0 ≤ k0 → k0 ≤ (gP P g).1 → ∀ k, f_X6_signs_L75 N (gP P g).1 x4 k f k0 m = k m := by
  have g40 := gg.2
  intro f
  induction f with
  | zero => intro i h0 _ h2; omega
  | succ f ih =>
    intro k0 h0 k00 k01 k
    by_cases hx : (gP P g).1 ≤ k0
    · simp (disch := omega) only [f_X6_signs_L75, ↓ck1_of, ↓if_pos]
    · have har := ar_le (GP (gP P g) k0 0)
      have d := hC k0 k00 (by omega)
      rw [show 0 + k0 = k0 by omega] at d
      have q1 : f_X6_headOf (m 9 k0) = some (GP (gP P g) k0 0) := by rw [headOf_of d.1, d.2.1]
      have e := sgi_in gg hC hr hS k00 (show k0 < (gP P g).1 by omega) (gP P g).1 x4 N 0 (by omega) (by omega) (by omega)
      simp (disch := omega) only [f_X6_signs_L75, ↓ckA_of, ↓ck1_of, ↓if_neg, q1, ↓bn_some, e]
      exact ih (k0 + 1) (by omega) (by omega) (by omega) k
theorem sgi_all {N : Nat} (hN : 4000 ≤ N) {P : PL} {m : Bd} {g : Int} (gg : GOK (gP P g)) (hC : CM (m 9) 0 (gP P g) (gP P g).1) (hr : ∀ v, 0 ≤ v → v < (gP P g).1 → 0 ≤ m 21 v ∧ m 21 v ≤ 3) (hS : ∀ u j, 0 ≤ u → u < (gP P g).1 → 0 ≤ j → j < ar (GP (gP P g) u 0) → Cl4 (gP P g) (m 21) u j) : ∀ (f : Nat) (t : Int), 80 - t < f → 0 ≤ t → t ≤ 80 → ∀ k, f_X6_signs_L65 N (gP P g).1 k f t m = k m := by
  have g40 := gg.2
  have g1 := gg.1.1
  intro f
  induction f with
  | zero => intro i h0 _ h2; omega
  | succ f ih =>
    intro t h0 t0 t1 k
    by_cases hx : 80 ≤ t
    · simp (disch := omega) only [f_X6_signs_L65, ↓ck1_of, ↓if_pos]
    · have e := sgi_out hN gg hC hr hS t N 0 (by omega) (by omega) (by omega)
      simp (disch := omega) only [f_X6_signs_L65, ↓ck1_of, ↓if_neg, e]
      exact ih (t + 1) (by omega) (by omega) (by omega) k
theorem sg_rounds {N : Nat} (hN : 4000 ≤ N) {P : PL} {m ms : Bd} {g : Int} (p0 : 0 ≤ g) (p1 : g < (P.length : Int)) (gg : GOK (gP P g)) (hC : CM (m 9) 0 (gP P g) (gP P g).1) (y : Int) : ∀ (f : Nat) (t : Int) (ms1 m1 : Bd), 82 - t < f → 0 ≤ t → t ≤ 80 → (∀ s : Nat, s ≠ 0 → ms1 s = ms s) → (∀ s : Nat, s ≠ 21 → m1 s = m s) → Sg4 (gP P g) (ms1 0) (m1 21) → t + 1 ≤ wt (ms1 0) (gP P g).1.toNat →
    ∃ ms' m', (∀ s : Nat, s ≠ 21 → m' s = m s) ∧ Sg4 (gP P g) (ms' 0) (m' 21) ∧ (∀ k, f_X3_signsAt_L38 N P g y k f 1 t ms1 = k ms') ∧ (∀ k, f_X6_signs_L65 N (gP P g).1 k f t m1 = k m') := by
  have g40 := gg.2
  have g1 := gg.1.1
  intro f
  induction f with
  | zero => intro t ms1 m1 h0 _ h2; omega
  | succ f ih =>
    intro t ms1 m1 h0 t0 t1 hf hg hV hw
    have wl := wt_le (V := ms1 0) (gP P g).1.toNat (fun v v0 v1 => by have := hV v v0 (by omega); omega)
    obtain ⟨z, ms2, m2, a1, a2, a3, a4, a5, a6, a7, a8, a9⟩ := sg_out hN p0 p1 gg hC (ms := ms) y t t N 0 0 ms1 m1 (by omega) (by omega) (by omega) hf hg hV (Or.inl rfl) (fun _ u j u0 u1 => by omega)
    rcases a4 with rfl | rfl
    · have cl := (a5 rfl).2
      have hC2 : CM (m2 9) 0 (gP P g) (gP P g).1 := by rw [a2 9 (by decide)]; exact hC
      have id := sgi_all hN gg hC2 (fun v v0 v1 => by have := a3 v v0 v1; omega) (fun u j u0 u1 j0 j1 => by
        have q := cl u j u0 u1 j0 j1
        have har := ar_le (GP (gP P g) u 0)
        have r := (gg.1.2.1 u u0 u1).2.2 j j0 j1
        unfold Cl4 at *
        rw [(a3 u u0 u1).2.2, (a3 _ r.1 r.2).2.2]
        exact q) f (t + 1) (by omega) (by omega) (by omega)
      refine ⟨ms2, m2, a2, a3, fun k => ?_, fun k => ?_⟩
      · cases f with
        | zero => omega
        | succ f => simp (disch := omega) only [f_X3_signsAt_L38, ↓ck1_of, ↓if_neg, ↓if_pos, a8]
      · simp (disch := omega) only [f_X6_signs_L65, ↓ck1_of, ↓if_neg, a9]
        exact id k
    · have hw2 : wt (ms1 0) (gP P g).1.toNat + 1 ≤ wt (ms2 0) (gP P g).1.toNat := by
        rcases a6 rfl with q | q
        · exact absurd q (by decide)
        · exact q
      obtain ⟨ms', m', b1, b2, b3, b4⟩ := ih (t + 1) ms2 m2 (by omega) (by omega) (by omega) a1 a2 a3 (by omega)
      refine ⟨ms', m', b1, b2, fun k => ?_, fun k => ?_⟩
      · simp (disch := omega) only [f_X3_signsAt_L38, ↓ck1_of, ↓if_neg, a8]
        exact b3 k
      · simp (disch := omega) only [f_X6_signs_L65, ↓ck1_of, ↓if_neg, a9]
        exact b4 k
theorem sg_init {m : Bd} {s : Int} (hs : s ≤ 40) : ∀ (f : Nat) (i : Int) (m1 : Bd), s - i < f → 0 ≤ i → i ≤ s → (∀ t : Nat, t ≠ 21 → m1 t = m t) → (∀ v, 0 ≤ v → v < i → m1 21 v = if v = 0 then 1 else 0) → ∃ m', (∀ t : Nat, t ≠ 21 → m' t = m t) ∧ (∀ v, 0 ≤ v → v < s → m' 21 v = if v = 0 then 1 else 0) ∧ ∀ k, f_X6_signs_L33 s k f i m1 = k m' := by
  intro f
  induction f with
  | zero => intro i m1 h0 _ h2; omega
  | succ f ih =>
    intro i m1 h0 i0 i1 hf hd
    by_cases hx : s ≤ i
    · refine ⟨m1, hf, fun v v0 v1 => hd v v0 (by omega), fun k => ?_⟩
      simp (disch := omega) only [f_X6_signs_L33, ↓ck1_of, ↓if_pos]
    · obtain ⟨m', k1, k2, k3⟩ := ih (i + 1) (bS m1 21 (aS (m1 21) i (if i ≠ 0 then 0 else 1))) (by omega) (by omega) (by omega) (fun t ht => by rw [bS_ne _ _ ht]; exact hf t ht) (fun v v0 v1 => by
        rw [bS_eq]
        by_cases c : v = i
        · rw [c, aS_eq]
          by_cases c0 : i = 0
          · rw [if_pos c0, if_neg (by omega)]
          · rw [if_neg c0, if_pos c0]
        · rw [aS_ne _ _ c]; exact hd v v0 (by omega))
      refine ⟨m', k1, k2, fun k => ?_⟩
      rw [f_X6_signs_L33]
      simp (disch := omega) only [↓ck1_of, ↓ckA_of, ↓jn_eq, ↓if_neg]
      by_cases c0 : i = 0
      · have := k3 k
        simp (disch := omega) only [if_pos, if_neg] at this ⊢
        exact this
      · have := k3 k
        simp (disch := omega) only [if_pos, if_neg] at this ⊢
        exact this
/-- which nodes have the class of the other graph's root -/
theorem BA.due {P : PL} {m : Bd} {g g' p : Int} (gg : GOK (gP P g)) (hB : BA P g g' m) (g1' : 1 ≤ (gP P g').1) (hp : Plc (gP P g) (gP P g') p) {i : Int} (i0 : 0 ≤ i) (i1 : i < (gP P g).1) : m 13 i = m 13 (gP P g).1 ↔ p = i := by
  obtain ⟨h10, C1, C2, hr, hI, hE⟩ := hB
  have e := hE i 0 i0 i1 (Int.le_refl 0) (by omega)
  rw [Int.add_zero] at e
  rw [e]
  rcases hp with ⟨q0, q1, q2⟩ | ⟨q0, q1⟩
  · constructor
    · intro h
      exact gg.1.2.2.2.2.1 p i q0 q1 i0 i1 (q2.trans h.symm)
    · intro h
      rw [← h]; exact q2
  · constructor
    · intro h
      exact absurd h (q1 i i0 i1)
    · intro h
      omega
theorem sg_end {P : PL} {m : Bd} {g g' : Int} (gg : GOK (gP P g)) (hB : BA P g g' m) (g1' : 1 ≤ (gP P g').1) (h40 : (gP P g').1 ≤ 40) {p : Int} (hp : Plc (gP P g) (gP P g') p) (h4 : ∀ v, 0 ≤ v → v < (gP P g).1 → 0 ≤ m 21 v ∧ m 21 v ≤ 3) : ∀ (f : Nat) (i acc : Int), (gP P g).1 - i < f → 0 ≤ i → i ≤ (gP P g).1 → acc = (if 0 ≤ p ∧ p < i then m 21 p else 0) → ∀ k, f_X6_signs_L199 m (gP P g).1 k f acc i = k (if 0 ≤ p then m 21 p else 0) := by
  have g40 := gg.2
  have g1 := gg.1.1
  have hr := hB.2.2.2.1
  have due := hr (gP P g).1 (by omega) (by omega)
  have p1 : p < (gP P g).1 := by rcases hp with ⟨q0, q1, q2⟩ | ⟨q0, q1⟩ <;> omega
  intro f
  induction f with
  | zero => intro i acc h0 _ h2; omega
  | succ f ih =>
    intro i acc h0 i0 i1 ha k
    by_cases hx : (gP P g).1 ≤ i
    · simp (disch := omega) only [f_X6_signs_L199, ↓ck1_of, ↓if_pos]
      rw [ha]
      by_cases q : 0 ≤ p
      · rw [if_pos (by omega), if_pos q]
      · rw [if_neg (by omega), if_neg q]
    · have r := hr i i0 (by omega)
      have ep := hB.due gg g1' hp i0 (show i < (gP P g).1 by omega)
      have v4 := h4 i i0 (by omega)
      by_cases c : m 13 i = m 13 (gP P g).1
      · have e := ep.mp c
        rw [if_neg (by omega)] at ha
        have o := or4_0 v4.1 v4.2
        simp (disch := omega) only [f_X6_signs_L199, ↓ck1_of, ↓ckA_of, ↓if_neg, ha, o.1]
        exact ih (i + 1) _ (by omega) (by omega) (by omega) (by rw [if_pos (by omega), e]) k
      · have e : p ≠ i := fun h => c (ep.mpr h)
        have a4 : i_or acc 0 = acc := by
          rw [ha]
          by_cases q : 0 ≤ p ∧ p < i
          · rw [if_pos q]
            have w4 := h4 p q.1 (by omega)
            exact (or4_0 w4.1 w4.2).2
          · rw [if_neg q]; decide
        simp (disch := omega) only [f_X6_signs_L199, ↓ck1_of, ↓ckA_of, ↓if_neg, ↓if_pos, a4]
        refine ih (i + 1) _ (by omega) (by omega) (by omega) ?_ k
        rw [ha]
        by_cases q : 0 ≤ p ∧ p < i
        · rw [if_pos q, if_pos (by omega)]
        · rw [if_neg q, if_neg (by omega)]
theorem signs_of {N : Nat} (hN : 4000 ≤ N) {P : PL} {m ms : Bd} {g g' : Int} (p0 : 0 ≤ g) (p1 : g < (P.length : Int)) (gg : GOK (gP P g)) (gg' : GOK (gP P g')) (hB : BA P g g' m) {p : Int} (hp : Plc (gP P g) (gP P g') p) : ∃ v ms' m', 0 ≤ v ∧ v ≤ 3 ∧ f_X3_signsAt N ms P g p = some (v, ms') ∧ (∀ t : Nat, t < 9 → m' t = m t) ∧ ∀ k1 : Int → Bd → Option (Int × Bd), f_X6_signs_L33 (gP P g).1 (fun m33 => f_X6_signs_L65 N (gP P g).1 (fun m65 => f_X6_signs_L199 m65 (gP P g).1 (fun x => k1 x m65) N 0 0) N 0 m33) N 0 m = k1 v m' := by
  have g40 := gg.2
  have g1 := gg.1.1
  have g40' := gg'.2
  have g1' := gg'.1.1
  obtain ⟨m1, a1, a2, a3⟩ := sg_init (m := m) g40 N 0 m (by omega) (by omega) (by omega) (fun _ _ => rfl) (fun v v0 v1 => by omega)
  obtain ⟨row, f1, f2, f3⟩ := fill_of (N := N) (row := ms 0) (ni := 40) (x1 := (gP P g).1) (x2 := 0) (by omega) g40 (by omega) (by omega)
  have hC1 : CM (m1 9) 0 (gP P g) (gP P g).1 := by rw [a1 9 (by decide)]; exact hB.2.1
  have hV0 : Sg4 (gP P g) ((bS ms 0 (aS row 0 1)) 0) (m1 21) := by
    rw [bS_eq]
    intro v v0 v1
    rw [a2 v v0 v1]
    by_cases c : v = 0
    · rw [c, aS_eq, if_pos rfl]; omega
    · rw [aS_ne _ _ c, f2 v v0 v1, if_neg c]; omega
  have hw0 : 0 + 1 ≤ wt ((bS ms 0 (aS row 0 1)) 0) (gP P g).1.toNat := by
    have := wt_0 (V := (bS ms 0 (aS row 0 1)) 0) (n := (gP P g).1.toNat) (by omega) (fun v v0 v1 => by have := hV0 v v0 (by omega); omega) (by rw [bS_eq, aS_eq])
    omega
  obtain ⟨ms2, m2, b1, b2, b3, b4⟩ := sg_rounds hN p0 p1 gg hC1 (ms := bS ms 0 (aS row 0 1)) p N 0 (bS ms 0 (aS row 0 1)) m1 (by omega) (by omega) (by omega) (fun _ _ => rfl) (fun _ _ => rfl) hV0 hw0
  have hB2 : BA P g g' m2 := hB.frame (by rw [b1 9 (by decide), a1 9 (by decide)]) (by rw [b1 10 (by decide), a1 10 (by decide)]) (by rw [b1 13 (by decide), a1 13 (by decide)])
  have we := sg_end gg hB2 g1' g40' hp (fun v v0 v1 => by have := b2 v v0 v1; omega) N 0 0 (by omega) (by omega) (by omega) (by rw [if_neg (by omega)])
  have tail : ∀ k1 : Int → Bd → Option (Int × Bd), f_X6_signs_L33 (gP P g).1 (fun m33 => f_X6_signs_L65 N (gP P g).1 (fun m65 => f_X6_signs_L199 m65 (gP P g).1 (fun x => k1 x m65) N 0 0) N 0 m33) N 0 m = k1 (if 0 ≤ p then m2 21 p else 0) m2 := by
    intro k1
    rw [a3, b4, we]
  rcases hp with ⟨q0, q1, q2⟩ | ⟨q0, q1⟩
  · have vp := b2 p q0 q1
    refine ⟨ms2 0 p, ms2, m2, by omega, by omega, ?_, fun t ht => by rw [b1 t (by omega), a1 t (by omega)], fun k1 => ?_⟩
    · unfold f_X3_signsAt
      simp (disch := omega) only [↓ck1_of, ↓ckG_of, ↓ckA_of, ↓if_neg, ↓if_pos, f1, ↓bn_some, b3]
    · rw [tail, if_pos q0, vp.2.2]
  · refine ⟨0, ms, m2, by omega, by omega, ?_, fun t ht => by rw [b1 t (by omega), a1 t (by omega)], fun k1 => ?_⟩
    · unfold f_X3_signsAt
      simp (disch := omega) only [↓ck1_of, ↓if_pos]
    · rw [tail, if_neg (by omega)]
theorem signs_step {N : Nat} (hN : 4000 ≤ N) {T : Int} {lt b m ms : Bd} {P : PL} (h : RR T lt b m P) {x y : Int} (hx : inR x) (hy : inR y) : Step1m T b P (f_X5_signs N lt ms P x y) (f_X6_signs N m x y) := by
  unfold f_X5_signs f_X6_signs
  rcases nm_of h.2.2.2.1 h.2.2.2.2.2.1 hx with ⟨e1, e2⟩ | ⟨g, e1, e2, n⟩
  · rcases nm_of h.2.2.2.1 h.2.2.2.2.2.1 hy with ⟨e3, e4⟩ | ⟨g', e3, e4, n'⟩
    · simp (disch := omega) only [e1, e2, e3, ↓bn_some, ↓jn_eq, ↓ck1_of, ↓if_pos]
      exact bad1m h
    · simp (disch := omega) only [e1, e2, e3, ↓bn_some, ↓jn_eq, ↓ck1_of, ↓if_pos]
      exact bad1m h
  · have s := n.sz
    obtain ⟨a0, a1, p0, p1, gg, e, -⟩ := id n
    rcases nm_of h.2.2.2.1 h.2.2.2.2.2.1 hy with ⟨e3, e4⟩ | ⟨g', e3, e4, n'⟩
    · simp (disch := omega) only [e1, e2, e3, e4, ↓bn_some, ↓jn_eq, ↓ck1_of, ↓if_pos, ↓if_neg]
      exact bad1m h
    · have s' := n'.sz
      obtain ⟨a0', a1', p0', p1', gg', e', -⟩ := id n'
      obtain ⟨m1, k1, k2, k3⟩ := apart_of hN n n'
      obtain ⟨p, ms1, l1, l2, l3⟩ := placeOf_of hN (ms := ms) p0 p1 p0' p1' gg gg'
      obtain ⟨v, ms2, m2, v0, v1, w1, w2, w3⟩ := signs_of hN (ms := ms1) p0 p1 gg gg' k3 l3
      simp (disch := omega) only [e1, e2, e3, e4, ↓bn_some, ↓jn_eq, ↓ck1_of, ↓ckA_of, ↓if_pos, ↓if_neg, k1, l1, w1]
      refine ⟨v, lt, ms2, m2, rfl, w3 (fun x m => some (x, m)), ⟨by omega, by omega⟩, h.up.frame (fun _ _ _ => rfl) rfl (fun s hs => by rw [w2 s hs, k2 s hs])⟩
