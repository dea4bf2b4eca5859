/-! bound: the program's graph of pairs -/
def gw (a : Int) : Int := if a = 0 then 0 else 3
def bh (a h k : Int) : Int := if h = k then h else if (h = 1 ∧ k = 2) ∨ (h = 2 ∧ k = 1) then (if a = 0 then 2 else 1) else if a = 0 then 3 else 0
def turnB (h i a : Int) : Int := if h = 6 ∧ i = 0 then 1 - a else a
theorem turnB_in {h i a : Int} (ha : a = 0 ∨ a = 1) : turnB h i a = 0 ∨ turnB h i a = 1 := by unfold turnB; split <;> omega
theorem bh_all : ∀ x : Fin 7, ∀ y : Fin 7, ∀ a : Fin 2, f_X1_boundHead (x.val : Int) (y.val : Int) (1 - (a.val : Int)) = some (bh (a.val : Int) (x.val : Int) (y.val : Int)) := by decide +kernel
theorem bh_of {a x y : Int} (ha : a = 0 ∨ a = 1) (x0 : 0 ≤ x) (x1 : x ≤ 6) (y0 : 0 ≤ y) (y1 : y ≤ 6) : f_X1_boundHead x y (1 - a) = some (bh a x y) := by
  have h := bh_all ⟨x.toNat, by omega⟩ ⟨y.toNat, by omega⟩ ⟨a.toNat, by omega⟩
  have ex : ((x.toNat : Nat) : Int) = x := by omega
  have ey : ((y.toNat : Nat) : Int) = y := by omega
  have ea : ((a.toNat : Nat) : Int) = a := by omega
  dsimp only at h
  rw [ex, ey, ea] at h
  exact h
theorem bh_rng {a x y : Int} (x0 : 0 ≤ x) (x1 : x ≤ 6) : 0 ≤ bh a x y ∧ bh a x y ≤ 6 ∧ (x ≠ y → ar (bh a x y) = 0) := by
  unfold bh
  by_cases c : x = y
  · rw [if_pos c]; exact ⟨x0, x1, fun h => absurd c h⟩
  · rw [if_neg c]
    by_cases d : (x = 1 ∧ y = 2) ∨ (x = 2 ∧ y = 1)
    · rw [if_pos d]
      by_cases e : a = 0
      · rw [if_pos e]; exact ⟨by omega, by omega, fun _ => by decide⟩
      · rw [if_neg e]; exact ⟨by omega, by omega, fun _ => by decide⟩
    · rw [if_neg d]
      by_cases e : a = 0
      · rw [if_pos e]; exact ⟨by omega, by omega, fun _ => by decide⟩
      · rw [if_neg e]; exact ⟨by omega, by omega, fun _ => by decide⟩
/-- the bench's node of a pair -/
def N5 (P : PL) (hx hy : Int) (c : Bd) (a x y v : Int) : Prop := (GP (gP P hx) x 0 = gw a ∧ v = (gP P hx).1 + y) ∨ (GP (gP P hx) x 0 ≠ gw a ∧ GP (gP P hy) y 0 = gw a ∧ v = x) ∨ (GP (gP P hx) x 0 ≠ gw a ∧ GP (gP P hy) y 0 ≠ gw a ∧ c 5 (nu (gP P hx).1 (gP P hy).1 a x y) = v ∧ v ≠ -1)
theorem N5.mono {P : PL} {hx hy : Int} {c c' : Bd} {a x y v : Int} (h : N5 P hx hy c a x y v) (hm : ∀ q, c 5 q ≠ -1 → c' 5 q = c 5 q) : N5 P hx hy c' a x y v := by
  rcases h with h | h | ⟨h1, h2, h3, h4⟩
  · exact Or.inl h
  · exact Or.inr (Or.inl h)
  · exact Or.inr (Or.inr ⟨h1, h2, by rw [hm _ (by rw [h3]; exact h4)]; exact h3, h4⟩)
def BC (P : PL) (hx hy : Int) (b c : Bd) (n : Int) : Prop := CG P c hx hy ∧ c 3 0 = n ∧ b 3 0 = (gP P hx).1 + (gP P hy).1 + n ∧ 0 ≤ n ∧ CB b 0 (gP P hx) (gP P hx).1 ∧ CB b (gP P hx).1 (gP P hy) (gP P hy).1 ∧
  (∀ k, 0 ≤ k → k < n → ∃ a x y, IN (gP P hx).1 (gP P hy).1 a x y ∧ c 2 k = nu (gP P hx).1 (gP P hy).1 a x y ∧ c 5 (nu (gP P hx).1 (gP P hy).1 a x y) = (gP P hx).1 + (gP P hy).1 + k ∧ BG b ((gP P hx).1 + (gP P hy).1 + k) 0 = bh a (GP (gP P hx) x 0) (GP (gP P hy) y 0) ∧ ∀ j, 1 ≤ j → j < 3 → 0 ≤ BG b ((gP P hx).1 + (gP P hy).1 + k) j ∧ BG b ((gP P hx).1 + (gP P hy).1 + k) j < (gP P hx).1 + (gP P hy).1 + n) ∧
  (∀ j k, 0 ≤ j → j < n → 0 ≤ k → k < n → c 2 j = c 2 k → j = k) ∧
  ∀ a x y, IN (gP P hx).1 (gP P hy).1 a x y → c 5 (nu (gP P hx).1 (gP P hy).1 a x y) = -1 ∨ ∃ k, 0 ≤ k ∧ k < n ∧ c 5 (nu (gP P hx).1 (gP P hy).1 a x y) = (gP P hx).1 + (gP P hy).1 + k ∧ c 2 k = nu (gP P hx).1 (gP P hy).1 a x y
theorem BC.le {P : PL} {hx hy : Int} {b c : Bd} {n : Int} (h : BC P hx hy b c n) : n ≤ 3200 := by
  obtain ⟨h1, h2, h3, h4, -, -, h7, h8, -⟩ := h
  refine few (r := c 2) (by omega) (fun k k0 k1 => ?_) h8
  obtain ⟨a, x, y, hi, e, -⟩ := h7 k k0 k1
  have q := nu_of h1.2.2.2.2.2.2.1.2 h1.2.2.2.2.2.2.2.2 hi
  rw [e]
  exact ⟨q.1, q.2.2.1⟩
theorem BC.lt {P : PL} {hx hy : Int} {b c : Bd} {n a x y : Int} (h : BC P hx hy b c n) (hi : IN (gP P hx).1 (gP P hy).1 a x y) (h0 : c 5 (nu (gP P hx).1 (gP P hy).1 a x y) = -1) : n < 3200 := by
  obtain ⟨h1, h2, h3, h4, -, -, h7, h8, -⟩ := h
  have g1 := h1.2.2.2.2.2.2.1.1.1
  have g2 := h1.2.2.2.2.2.2.2.1.1
  have ne : ∀ k, 0 ≤ k → k < n → c 2 k ≠ nu (gP P hx).1 (gP P hy).1 a x y := fun k k0 k1 e => by
    obtain ⟨a', x', y', -, e', e2, -⟩ := h7 k k0 k1
    rw [← e', e, h0] at e2
    omega
  have := few (r := aS (c 2) n (nu (gP P hx).1 (gP P hy).1 a x y)) (n := n + 1) (cnt := 3200) (by omega) (fun k k0 k1 => by
    by_cases e : k = n
    · have q := nu_of h1.2.2.2.2.2.2.1.2 h1.2.2.2.2.2.2.2.2 hi
      rw [e, aS_eq]; exact ⟨q.1, q.2.2.1⟩
    · obtain ⟨a', x', y', hi', e', -⟩ := h7 k k0 (by omega)
      have q := nu_of h1.2.2.2.2.2.2.1.2 h1.2.2.2.2.2.2.2.2 hi'
      rw [aS_ne _ _ e, e']; exact ⟨q.1, q.2.2.1⟩) (fun j k j0 j1 k0 k1 e => by
    by_cases e1 : j = n
    · by_cases e2 : k = n
      · omega
      · rw [e1, aS_eq, aS_ne _ _ e2] at e
        exact absurd e.symm (ne k k0 (by omega))
    · by_cases e2 : k = n
      · rw [e2, aS_eq, aS_ne _ _ e1] at e
        exact absurd e (ne j j0 (by omega))
      · rw [aS_ne _ _ e1, aS_ne _ _ e2] at e
        exact h8 j k j0 (by omega) k0 (by omega) e)
  omega
/-- one state goes on from another -/
def EX (P : PL) (hx hy : Int) (b c b' c' : Bd) (n n' : Int) : Prop := n ≤ n' ∧ (∀ s : Nat, 4 ≤ s → b' s = b s) ∧ (∀ u j, u < (gP P hx).1 + (gP P hy).1 + n → BG b' u j = BG b u j) ∧ (∀ q, c 5 q ≠ -1 → c' 5 q = c 5 q) ∧ ∀ k, k < n → c' 2 k = c 2 k
theorem bN_of {P : PL} {hx hy : Int} {b c : Bd} {n a x y : Int} (h : BC P hx hy b c n) (hi : IN (gP P hx).1 (gP P hy).1 a x y) : ∃ v b' c' n', f_X1_boundNode b c P x y (1 - a) = some (v, b', c') ∧ BC P hx hy b' c' n' ∧ EX P hx hy b c b' c' n n' ∧ N5 P hx hy c' a x y v ∧ 0 ≤ v ∧ v < (gP P hx).1 + (gP P hy).1 + n' := by
  obtain ⟨h1, h2, h3, h4, h5, h6, h7, h8, h9⟩ := id h
  obtain ⟨c00, c10, b0, b1, b2, b3, gx, gy⟩ := id h1
  obtain ⟨ha, w0, w1, w2, w3⟩ := id hi
  have x40 := gx.2
  have y40 := gy.2
  have rx := gx.node w0 w1
  have ry := gy.node w2 w3
  have nq := nu_of x40 y40 hi
  have nle := h.le
  have q1 := headAt_of (h := hx) x40 w0 w1
  have q2 := headAt_of (h := hy) y40 w2 w3
  have qn := numberOf_of h1 (x := x) (y := y) ha
  have gr : 0 ≤ gw a ∧ gw a ≤ 3 := by unfold gw; split <;> omega
  have run : f_X1_boundNode b c P x y (1 - a) = if GP (gP P hx) x 0 ≠ gw a then (if GP (gP P hy) y 0 ≠ gw a then (if c 5 (nu (gP P hx).1 (gP P hy).1 a x y) ≠ -1 then some (c 5 (nu (gP P hx).1 (gP P hy).1 a x y), b, c) else bn (f_X1_boundHead (GP (gP P hx) x 0) (GP (gP P hy) y 0) (1 - a)) fun q110_17 => bn (f_X0_put b q110_17 0 0) fun q115_18 => bn (f_X1_meet c (nu (gP P hx).1 (gP P hy).1 a x y) q115_18.1 (-1)) fun q119_19 => some (q119_19 5 (nu (gP P hx).1 (gP P hy).1 a x y), q115_18.2, q119_19)) else some (x, b, c)) else some ((gP P hx).1 + y, b, c) := by
    have r5 : inR (c 5 (nu (gP P hx).1 (gP P hy).1 a x y)) := by
      rcases h9 a x y hi with e | ⟨k, k0, k1, e, -⟩
      · rw [e]; decide
      · rw [e]; exact ⟨by omega, by omega⟩
    unfold f_X1_boundNode
    rw [c00, ckG_of b0 b1, q1, bn_some, c10, ckG_of b2 b3, q2, bn_some, jn_eq]
    rcases ha with rfl | rfl
    · rw [ck1_of (by omega) (by omega), if_neg (by omega)]
      dsimp only
      rw [ck1_of (by omega) (by omega), ck1_of (by omega) (by omega), ck1_of (by omega) (by omega), jn_eq, ck1_of (by omega) (by omega), if_pos (by omega : (1 : Int) - 0 ≠ 0)]
      dsimp only
      rw [qn, bn_some, ck1_of (by omega) (by omega), if_neg (show ¬ nu (gP P hx).1 (gP P hy).1 0 x y < 0 by omega), if_pos nq.2.2.1, ckA_of nq.1 nq.2.2.1, ck1_of r5.1 r5.2]
      rfl
    · rw [ck1_of (by omega) (by omega), if_pos (by omega)]
      dsimp only
      rw [ck1_of (by omega) (by omega), ck1_of (by omega) (by omega), ck1_of (by omega) (by omega), jn_eq, ck1_of (by omega) (by omega), if_neg (by omega : ¬ (1 : Int) - 1 ≠ 0)]
      dsimp only
      rw [qn, bn_some, ck1_of (by omega) (by omega), if_neg (show ¬ nu (gP P hx).1 (gP P hy).1 1 x y < 0 by omega), if_pos nq.2.2.1, ckA_of nq.1 nq.2.2.1, ck1_of r5.1 r5.2]
      rfl
  rw [run]
  have x1 := gx.1.1
  have y1 := gy.1.1
  by_cases cx : GP (gP P hx) x 0 = gw a
  · rw [if_neg (fun h => h cx)]
    exact ⟨_, b, c, n, rfl, h, ⟨Int.le_refl n, fun _ _ => rfl, fun _ _ _ => rfl, fun _ _ => rfl, fun _ _ => rfl⟩, Or.inl ⟨cx, rfl⟩, by omega, by omega⟩
  · rw [if_pos cx]
    by_cases cy : GP (gP P hy) y 0 = gw a
    · rw [if_neg (fun h => h cy)]
      exact ⟨_, b, c, n, rfl, h, ⟨Int.le_refl n, fun _ _ => rfl, fun _ _ _ => rfl, fun _ _ => rfl, fun _ _ => rfl⟩, Or.inr (Or.inl ⟨cx, cy, rfl⟩), by omega, by omega⟩
    · rw [if_pos cy]
      rcases h9 a x y hi with e | ⟨k, k0, k1, e, e2⟩
      · have nlt := h.lt hi e
        have hr := bh_rng (a := a) (y := GP (gP P hy) y 0) rx.1 rx.2.1
        obtain ⟨bb, u1, u2, u3, u4, u5, u6, u7⟩ := put_of (b := b) (h := bh a (GP (gP P hx) x 0) (GP (gP P hy) y 0)) (x := 0) (y := 0) h3 (by omega) (by omega) hr.1 hr.2.1 (by omega) (by omega) (by omega) (by omega)
        obtain ⟨c', v1, v2, v3, v4, v5, v6, v7⟩ := meet_new (c := c) (x := (gP P hx).1 + (gP P hy).1 + n) (o := -1) h2 h4 nlt nq.1 nq.2.2.1 e
        have m5 : c' 5 (nu (gP P hx).1 (gP P hy).1 a x y) = (gP P hx).1 + (gP P hy).1 + n := by rw [v7, aS_eq]
        have keep : ∀ q, c 5 q ≠ -1 → c' 5 q = c 5 q := fun q hq => by
          rw [v7, aS_ne _ _ (fun h => hq (by rw [h]; exact e))]
        rw [if_neg (fun h => h e), bh_of ha rx.1 rx.2.1 ry.1 ry.2.1, bn_some, u1, bn_some]
        dsimp only
        rw [v1, bn_some, m5]
        refine ⟨_, bb, c', n + 1, rfl, ⟨h1.cong v2 v3, v4, by rw [u3]; omega, by omega, h5.cong (fun v j _ hv => u7 v j (by omega)), h6.cong (fun v j _ hv => u7 v j (by omega)), fun k k0 k1 => ?_, fun j k j0 j1 k0 k1 ejk => ?_, fun a' x' y' hi' => ?_⟩, ⟨by omega, u2, fun u j hu => u7 u j (by omega), keep, fun k hk => by rw [v5, aS_ne _ _ (by omega)]⟩, Or.inr (Or.inr ⟨cx, cy, m5, by omega⟩), by omega, by omega⟩
        · by_cases ek : k = n
          · subst ek
            refine ⟨a, x, y, hi, by rw [v5, aS_eq], m5, u4, fun j j0 j1 => ?_⟩
            have hj : j = 1 ∨ j = 2 := by omega
            rcases hj with rfl | rfl
            · rw [u5]; omega
            · rw [u6]; omega
          · obtain ⟨a', x', y', hi', t1, t2, t3, t4⟩ := h7 k k0 (by omega)
            refine ⟨a', x', y', hi', by rw [v5, aS_ne _ _ ek]; exact t1, by rw [keep _ (by omega)]; exact t2, by rw [u7 _ _ (by omega)]; exact t3, fun j j0 j1 => ?_⟩
            rw [u7 _ _ (by omega)]
            have := t4 j j0 j1
            omega
        · have ne : ∀ k, 0 ≤ k → k < n → c 2 k ≠ nu (gP P hx).1 (gP P hy).1 a x y := fun k k0 k1 e' => by
            obtain ⟨a', x', y', -, e1, e2, -⟩ := h7 k k0 k1
            rw [← e1, e', e] at e2
            omega
          rw [v5] at ejk
          by_cases e1 : j = n
          · by_cases e2 : k = n
            · omega
            · rw [e1, aS_eq, aS_ne _ _ e2] at ejk
              exact absurd ejk.symm (ne k k0 (by omega))
          · by_cases e2 : k = n
            · rw [e2, aS_eq, aS_ne _ _ e1] at ejk
              exact absurd ejk (ne j j0 (by omega))
            · rw [aS_ne _ _ e1, aS_ne _ _ e2] at ejk
              exact h8 j k j0 (by omega) k0 (by omega) ejk
        · by_cases eq : nu (gP P hx).1 (gP P hy).1 a' x' y' = nu (gP P hx).1 (gP P hy).1 a x y
          · right
            refine ⟨n, by omega, by omega, by rw [eq]; exact m5, by rw [v5, aS_eq, eq]⟩
          · rcases h9 a' x' y' hi' with t | ⟨k, k0, k1, t1, t2⟩
            · left; rw [v7, aS_ne _ _ eq]; exact t
            · right
              exact ⟨k, k0, by omega, by rw [v7, aS_ne _ _ eq]; exact t1, by rw [v5, aS_ne _ _ (by omega)]; exact t2⟩
      · rw [if_pos (by omega)]
        exact ⟨_, b, c, n, rfl, h, ⟨Int.le_refl n, fun _ _ => rfl, fun _ _ _ => rfl, fun _ _ => rfl, fun _ _ => rfl⟩, Or.inr (Or.inr ⟨cx, cy, rfl, by omega⟩), by omega, by omega⟩
/-- the parts of the pairs below (k0, i0) stand -/
def DN (P : PL) (hx hy : Int) (b c : Bd) (n k0 i0 : Int) : Prop := ∀ k a x y, 0 ≤ k → k < n → IN (gP P hx).1 (gP P hy).1 a x y → c 2 k = nu (gP P hx).1 (gP P hy).1 a x y → GP (gP P hx) x 0 = GP (gP P hy) y 0 → ∀ i, 0 ≤ i → i < ar (GP (gP P hx) x 0) → (k < k0 ∨ (k = k0 ∧ i < i0)) → N5 P hx hy c (turnB (GP (gP P hx) x 0) i a) (GP (gP P hx) x (1 + i)) (GP (gP P hy) y (1 + i)) (BG b ((gP P hx).1 + (gP P hy).1 + k) (1 + i))
theorem bB_in {P : PL} {hx hy : Int} {b0 : Bd} {a x y p x5 : Int} (hi : IN (gP P hx).1 (gP P hy).1 a x y) (gx : GOK (gP P hx)) (gy : GOK (gP P hy)) (he : GP (gP P hx) x 0 = GP (gP P hy) y 0) (p0 : 0 ≤ p) : ∀ (f : Nat) (n i : Int) (b1 c1 : Bd), ar (GP (gP P hx) x 0) - i < f → 0 ≤ i → i ≤ ar (GP (gP P hx) x 0) → p < n → (∀ s : Nat, 4 ≤ s → b1 s = b0 s) → BC P hx hy b1 c1 n → c1 2 p = nu (gP P hx).1 (gP P hy).1 a x y → DN P hx hy b1 c1 n p i →
    ∃ n' b' c', n ≤ n' ∧ (∀ s : Nat, 4 ≤ s → b' s = b0 s) ∧ BC P hx hy b' c' n' ∧ DN P hx hy b' c' n' (p + 1) 0 ∧ ((∀ q, c1 5 q ≠ -1 → c' 5 q = c1 5 q)) ∧ ∀ k, f_X1_boundOf_L136 P x5 p (nu (gP P hx).1 (gP P hy).1 a x y) x y (1 - a) (GP (gP P hx) x 0) (ar (GP (gP P hx) x 0)) k f i b1 c1 = k b' c' := by
  have har := ar_le (GP (gP P hx) x 0)
  obtain ⟨ha, w0, w1, w2, w3⟩ := id hi
  have rx := gx.node w0 w1
  have ry := gy.node w2 w3
  have nq := nu_of gx.2 gy.2 hi
  intro f
  induction f with
  | zero => intro n i b1 c1 h0 _ h2; omega
  | succ f ih =>
    intro n i b1 c1 h0 i0 i1 pn hf hB hp hD
    by_cases hx' : ar (GP (gP P hx) x 0) ≤ i
    · refine ⟨n, b1, c1, Int.le_refl n, hf, hB, fun k a' x' y' k0 k1 hi' e he' j j0 j1 hl => ?_, fun _ _ => rfl, fun k => ?_⟩
      · refine hD k a' x' y' k0 k1 hi' e he' j j0 j1 ?_
        by_cases ek : k = p
        · right
          refine ⟨ek, ?_⟩
          rw [ek, hp] at e
          obtain ⟨rfl, rfl, rfl⟩ := nu_inj gx.2 gy.2 hi hi' e
          omega
        · left; omega
      · rw [f_X1_boundOf_L136, ck1_of (by omega) (by omega), ck1_of (by omega) (by omega), if_pos hx']
    · have px : 0 ≤ GP (gP P hx) x (1 + i) ∧ GP (gP P hx) x (1 + i) < (gP P hx).1 := two (Q := fun j => 0 ≤ GP (gP P hx) x j ∧ GP (gP P hx) x j < (gP P hx).1) ⟨rx.2.2.1, rx.2.2.2.1⟩ ⟨rx.2.2.2.2.1, rx.2.2.2.2.2⟩ i0 (by omega)
      have py : 0 ≤ GP (gP P hy) y (1 + i) ∧ GP (gP P hy) y (1 + i) < (gP P hy).1 := two (Q := fun j => 0 ≤ GP (gP P hy) y j ∧ GP (gP P hy) y j < (gP P hy).1) ⟨ry.2.2.1, ry.2.2.2.1⟩ ⟨ry.2.2.2.2.1, ry.2.2.2.2.2⟩ i0 (by omega)
      have ta := turnB_in (h := GP (gP P hx) x 0) (i := i) ha
      have hi' : IN (gP P hx).1 (gP P hy).1 (turnB (GP (gP P hx) x 0) i a) (GP (gP P hx) x (1 + i)) (GP (gP P hy) y (1 + i)) := ⟨ta, px.1, px.2, py.1, py.2⟩
      obtain ⟨v, b2, c2, n2, e1, e2, ⟨x1, x2, x3, x4, x5'⟩, e4, v0, v1⟩ := bN_of hB hi'
      have n2le := e2.le
      have gx40 := gx.2
      have gy40 := gy.2
      have gx1 := gx.1.1
      have gy1 := gy.1.1
      obtain ⟨a0, y0, z0, -, zz, zm, -, -⟩ := hB.2.2.2.2.2.2.1 p p0 pn
      rw [hp] at zz
      have m5 : c1 5 (nu (gP P hx).1 (gP P hy).1 a x y) = (gP P hx).1 + (gP P hy).1 + p := by
        obtain ⟨a1', y1', z1', hi1, zz1, zm1, -, -⟩ := hB.2.2.2.2.2.2.1 p p0 pn
        rw [hp] at zz1
        rw [zz1]; exact zm1
      have m52 : c2 5 (nu (gP P hx).1 (gP P hy).1 a x y) = (gP P hx).1 + (gP P hy).1 + p := by rw [x4 _ (by omega)]; exact m5
      obtain ⟨b3, l1, l2, l3, l4⟩ := link_of (b := b2) (u := (gP P hx).1 + (gP P hy).1 + p) (i := i) (x := v) (by omega) (by omega) i0 (by omega) v0 (by omega)
      obtain ⟨h1, h2, h3, h4, h5, h6, h7, h8, h9⟩ := id e2
      have hB3 : BC P hx hy b3 c2 n2 := by
        refine ⟨h1, h2, by rw [l2 3 (by decide) (by decide)]; exact h3, h4, ?_, ?_, fun k k0 k1 => ?_, h8, h9⟩
        · intro u u0 u1
          rw [l4 _ 0 (by omega) (by omega) (by omega), l4 _ 1 (by omega) (by omega) (by omega), l4 _ 2 (by omega) (by omega) (by omega)]
          exact h5 u u0 u1
        · intro u u0 u1
          rw [l4 _ 0 (by omega) (by omega) (by omega), l4 _ 1 (by omega) (by omega) (by omega), l4 _ 2 (by omega) (by omega) (by omega)]
          exact h6 u u0 u1
        · obtain ⟨a', x', y', hi1, t1, t2, t3, t4⟩ := h7 k k0 k1
          refine ⟨a', x', y', hi1, t1, t2, by rw [l4 _ 0 (by omega) (by omega) (by omega)]; exact t3, fun j j0 j1 => ?_⟩
          by_cases e : k = p ∧ j = 1 + i
          · rw [e.1, e.2, l3]; omega
          · rw [l4 _ j (by omega) (by omega) (by omega)]; exact t4 j j0 j1
      have hp2 : c2 2 p = nu (gP P hx).1 (gP P hy).1 a x y := by rw [x5' p pn]; exact hp
      have hD3 : DN P hx hy b3 c2 n2 p (i + 1) := by
        intro k a' x' y' k0 k1 hi1 e he' j j0 j1 hl
        have har' := ar_le (GP (gP P hx) x' 0)
        by_cases ek : k = p ∧ j = i
        · obtain ⟨ek1, rfl⟩ := ek
          rw [ek1, hp2] at e
          obtain ⟨rfl, rfl, rfl⟩ := nu_inj gx.2 gy.2 hi hi1 e
          rw [ek1, l3]
          exact e4
        · have kn : k < n := by omega
          rw [l4 _ (1 + j) (by omega) (by omega) (by omega), x3 _ _ (by omega)]
          exact (hD k a' x' y' k0 kn hi1 (by rw [← x5' k kn]; exact e) he' j j0 j1 (by omega)).mono x4
      obtain ⟨n', b', c', t1, t2, t3, t4, t5, t6⟩ := ih n2 (i + 1) b3 c2 (by omega) (by omega) (by omega) (by omega) (fun s hs => by rw [l2 s (by omega) (by omega), x2 s hs]; exact hf s hs) hB3 hp2 hD3
      refine ⟨n', b', c', by omega, t2, t3, t4, fun q hq => by rw [t5 q (by rw [x4 q hq]; exact hq), x4 q hq], fun k => ?_⟩
      have c00 := hB.1.1
      have c10 := hB.1.2.1
      have d00 := hB.1.2.2.1
      have d01 := hB.1.2.2.2.1
      have d10 := hB.1.2.2.2.2.1
      have d11 := hB.1.2.2.2.2.2.1
      have q1 := partAt_of (h := hx) gx.2 w0 w1 (i := i) i0 (by omega)
      have q2 := partAt_of (h := hy) gy.2 w2 w3 (i := i) i0 (by omega)
      have go : ∀ u, u = 1 - turnB (GP (gP P hx) x 0) i a → (ckG (c1 0 0) P <| bn (f_X2_partAt P (c1 0 0) x i) fun q181_22 => ckG (c1 1 0) P <| bn (f_X2_partAt P (c1 1 0) y i) fun q192_24 => bn (f_X1_boundNode b1 c1 P q181_22 q192_24 u) fun q199_25 => ckA (nu (gP P hx).1 (gP P hy).1 a x y) 3200 <| bn (f_X0_link q199_25.2.1 (q199_25.2.2 5 (nu (gP P hx).1 (gP P hy).1 a x y)) i q199_25.1) fun q217_27 => f_X1_boundOf_L136 P x5 p (nu (gP P hx).1 (gP P hy).1 a x y) x y (1 - a) (GP (gP P hx) x 0) (ar (GP (gP P hx) x 0)) k f (i + 1) q217_27 q199_25.2.2) = k b' c' := by
        rintro u rfl
        rw [c00, ckG_of d00 d01, q1, bn_some, c10, ckG_of d10 d11, q2, bn_some, e1, bn_some]
        dsimp only
        rw [ckA_of nq.1 nq.2.2.1, m52, l1, bn_some]
        exact t6 k
      rw [f_X1_boundOf_L136, ck1_of (by omega) (by omega), ck1_of (by omega) (by omega), if_neg hx', jn_eq, jn_eq, ck1_of (show -2147483648 ≤ GP (gP P hx) x 0 by omega) (by omega)]
      have plain : turnB (GP (gP P hx) x 0) i a = a → (jn (fun (s0_170 : Int) => ckG (c1 0 0) P <| bn (f_X2_partAt P (c1 0 0) x i) fun q181_22 => ckG (c1 1 0) P <| bn (f_X2_partAt P (c1 1 0) y i) fun q192_24 => bn (f_X1_boundNode b1 c1 P q181_22 q192_24 s0_170) fun q199_25 => ckA (nu (gP P hx).1 (gP P hy).1 a x y) 3200 <| bn (f_X0_link q199_25.2.1 (q199_25.2.2 5 (nu (gP P hx).1 (gP P hy).1 a x y)) i q199_25.1) fun q217_27 => f_X1_boundOf_L136 P x5 p (nu (gP P hx).1 (gP P hy).1 a x y) x y (1 - a) (GP (gP P hx) x 0) (ar (GP (gP P hx) x 0)) k f (i + 1) q217_27 q199_25.2.2) fun j170 => ck1 (1 - a) <| ck1 (0 : Int) <| if 1 - a = 0 then j170 0 else j170 1) = k b' c' := by
        intro et
        rw [jn_eq, ck1_of (by omega) (by omega), ck1_of (by omega) (by omega)]
        by_cases c : 1 - a = 0
        · rw [if_pos c]; exact go 0 (by rw [et]; omega)
        · rw [if_neg c]; exact go 1 (by rw [et]; omega)
      by_cases c6 : GP (gP P hx) x 0 = 6
      · rw [if_neg (fun h => h c6)]
        by_cases ci : i = 0
        · rw [if_neg (fun h => h ci)]
          have et : turnB (GP (gP P hx) x 0) i a = 1 - a := by unfold turnB; rw [if_pos ⟨c6, ci⟩]
          dsimp only
          rw [jn_eq, ck1_of (by omega) (by omega), ck1_of (by omega) (by omega)]
          by_cases c : 1 - a = 1
          · rw [if_pos c]; exact go 0 (by rw [et]; omega)
          · rw [if_neg c]; exact go 1 (by rw [et]; omega)
        · rw [if_pos ci]
          exact plain (by unfold turnB; rw [if_neg (fun h => ci h.2)])
      · rw [if_pos c6]
        exact plain (by unfold turnB; rw [if_neg (fun h => c6 h.1)])
theorem bB_out {N : Nat} (hN : 20000 ≤ N) {P : PL} {hx hy : Int} {b0 : Bd} {x5 : Int} (gx : GOK (gP P hx)) (gy : GOK (gP P hy)) : ∀ (f : Nat) (n p : Int) (b1 c1 : Bd), 3200 - p < f → 0 ≤ p → p ≤ n → (∀ s : Nat, 4 ≤ s → b1 s = b0 s) → BC P hx hy b1 c1 n → DN P hx hy b1 c1 n p 0 → ∃ n' b' c', n ≤ n' ∧ (∀ s : Nat, 4 ≤ s → b' s = b0 s) ∧ BC P hx hy b' c' n' ∧ DN P hx hy b' c' n' n' 0 ∧ (∀ q, c1 5 q ≠ -1 → c' 5 q = c1 5 q) ∧ ∀ K, f_X1_boundOf_L39 N P x5 K f p b1 c1 = K b' c' := by
  intro f
  induction f with
  | zero => intro n p b1 c1 h0 p0 pn _ hB; have := hB.le; omega
  | succ f ih =>
    intro n p b1 c1 h0 p0 pn hf hB hD
    have nle := hB.le
    obtain ⟨h1, h2, h3, h4, h5, h6, h7, h8, h9⟩ := id hB
    obtain ⟨c00, c10, d0, d1, d2, d3, -, -⟩ := id h1
    by_cases hp : n ≤ p
    · have e : p = n := by omega
      subst e
      refine ⟨p, b1, c1, Int.le_refl p, hf, hB, hD, fun _ _ => rfl, fun K => ?_⟩
      rw [f_X1_boundOf_L39, h2, ck1_of (by omega) (by omega), ck1_of (by omega) (by omega), if_pos (Int.le_refl _)]
    · obtain ⟨a, x, y, hi, q1, q2, q3, q4⟩ := h7 p p0 (by omega)
      obtain ⟨ha, w0, w1, w2, w3⟩ := id hi
      have rx := gx.node w0 w1
      have ry := gy.node w2 w3
      have e1 := headAt_of (h := hx) gx.2 w0 w1
      have e2 := headAt_of (h := hy) gy.2 w2 w3
      have run : ∀ K, f_X1_boundOf_L39 N P x5 K (f + 1) p b1 c1 = (bn (if GP (gP P hx) x 0 = GP (gP P hy) y 0 then f_X5_partsOf (GP (gP P hx) x 0) else some 0) fun q124_37 => f_X1_boundOf_L136 P x5 p (nu (gP P hx).1 (gP P hy).1 a x y) x y (1 - a) (GP (gP P hx) x 0) q124_37 (fun (b_136 : Bd) (c_136 : Bd) => f_X1_boundOf_L39 N P x5 K f (p + 1) b_136 c_136) N 0 b1 c1) := by
        intro K
        rw [f_X1_boundOf_L39, h2, ck1_of (by omega) (by omega), ck1_of (by omega) (by omega), if_neg hp, if_neg (by omega), ckA_of p0 (by omega), q1, leftOf_of h1 hi, bn_some, rightOf_of h1 hi, bn_some, isAbout_of h1 hi, bn_some, jn_eq]
        rcases ha with rfl | rfl
        · rw [ck1_of (by omega) (by omega), if_neg (by decide)]
          dsimp only
          rw [c00, ckG_of d0 d1, e1, bn_some, c10, ckG_of d2 d3, e2, bn_some, jn_eq, ck1_of (by omega) (by omega), ck1_of (by omega) (by omega)]
          by_cases c : GP (gP P hx) x 0 = GP (gP P hy) y 0
          · rw [if_neg (fun h => h c), if_pos c]; rfl
          · rw [if_pos c, if_neg c, bn_some]; rfl
        · rw [ck1_of (by omega) (by omega), if_pos (by decide)]
          dsimp only
          rw [c00, ckG_of d0 d1, e1, bn_some, c10, ckG_of d2 d3, e2, bn_some, jn_eq, ck1_of (by omega) (by omega), ck1_of (by omega) (by omega)]
          by_cases c : GP (gP P hx) x 0 = GP (gP P hy) y 0
          · rw [if_neg (fun h => h c), if_pos c]; rfl
          · rw [if_pos c, if_neg c, bn_some]; rfl
      by_cases he : GP (gP P hx) x 0 = GP (gP P hy) y 0
      · have har := ar_le (GP (gP P hx) x 0)
        obtain ⟨n2, b2, c2, l1, l2, l3, l4, l5, l6⟩ := bB_in (x5 := x5) hi gx gy he p0 N n 0 b1 c1 (by omega) (by omega) (by omega) (by omega) hf hB q1 hD
        obtain ⟨n', b', c', t1, t2, t3, t4, t5, t6⟩ := ih n2 (p + 1) b2 c2 (by omega) (by omega) (by omega) l2 l3 l4
        refine ⟨n', b', c', by omega, t2, t3, t4, fun q hq => by rw [t5 q (by rw [l5 q hq]; exact hq), l5 q hq], fun K => ?_⟩
        rw [run, if_pos he, partsOf_ar rx.1 rx.2.1, bn_some, l6]
        exact t6 K
      · obtain ⟨n', b', c', t1, t2, t3, t4, t5, t6⟩ := ih n (p + 1) b1 c1 (by omega) (by omega) (by omega) hf hB (fun k a' x' y' k0 k1 hi' e he' i i0 i1 hl => by
          refine hD k a' x' y' k0 k1 hi' e he' i i0 i1 ?_
          by_cases ek : k = p
          · exfalso
            rw [ek, q1] at e
            obtain ⟨rfl, rfl, rfl⟩ := nu_inj gx.2 gy.2 hi hi' e
            exact he he'
          · left; omega)
        refine ⟨n', b', c', t1, t2, t3, t4, t5, fun K => ?_⟩
        rw [run, if_neg he, bn_some]
        obtain ⟨M, rfl⟩ : ∃ M, N = M + 1 := ⟨N - 1, by omega⟩
        rw [f_X1_boundOf_L136, ck1_of (by omega) (by omega), ck1_of (by omega) (by omega), if_pos (by omega)]
        exact t6 K
