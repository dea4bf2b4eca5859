/-! read: the parsers' stacks -/
/-- how many of the first n hold 7 -/
def l7 (R : Int → Int) : Nat → Int
  | 0 => 0
  | n + 1 => l7 R n + (if R n = 7 then 1 else 0)
theorem l7_rng (R : Int → Int) : ∀ n : Nat, 0 ≤ l7 R n ∧ l7 R n ≤ n := by
  intro n
  induction n with
  | zero => exact ⟨Int.le_refl 0, Int.le_refl 0⟩
  | succ n ih =>
    show 0 ≤ l7 R n + _ ∧ l7 R n + _ ≤ _
    split <;> omega
theorem l7_cong {R R' : Int → Int} : ∀ n : Nat, (∀ v : Int, 0 ≤ v → v < n → R' v = R v) → l7 R' n = l7 R n := by
  intro n
  induction n with
  | zero => intro _; rfl
  | succ n ih =>
    intro h
    show l7 R' n + _ = l7 R n + _
    rw [ih (fun v v0 v1 => h v v0 (by omega)), h n (by omega) (by omega)]
theorem l7_lt {R : Int → Int} {a : Nat} (ha : R a = 7) : ∀ n : Nat, a < n → l7 R a + 1 ≤ l7 R n := by
  intro n
  induction n with
  | zero => intro h; omega
  | succ n ih =>
    intro h
    show l7 R a + 1 ≤ l7 R n + _
    by_cases e : a = n
    · subst e
      rw [if_pos ha]; exact Int.le_refl _
    · have := ih (by omega)
      split <;> omega
/-- how many of the first n are binary -/
def nb (R : Int → Int) : Nat → Int
  | 0 => 0
  | n + 1 => nb R n + (if R n = 42 ∨ R n = 62 then 1 else 0)
theorem nb_rng (R : Int → Int) : ∀ n : Nat, 0 ≤ nb R n ∧ nb R n ≤ n := by
  intro n
  induction n with
  | zero => exact ⟨Int.le_refl 0, Int.le_refl 0⟩
  | succ n ih =>
    show 0 ≤ nb R n + _ ∧ nb R n + _ ≤ _
    split <;> omega
theorem nb_cong {R R' : Int → Int} : ∀ n : Nat, (∀ v : Int, 0 ≤ v → v < n → R' v = R v) → nb R' n = nb R n := by
  intro n
  induction n with
  | zero => intro _; rfl
  | succ n ih =>
    intro h
    show nb R' n + _ = nb R n + _
    rw [ih (fun v v0 v1 => h v v0 (by omega)), h n (by omega) (by omega)]
/-- the last bracket of the first n -/
def lbr (R : Int → Int) : Nat → Int
  | 0 => 0
  | n + 1 => if R n = 40 ∨ R n = 91 then R n else lbr R n
/-- the nodes of both parsers -/
def NR (tx : Int → Int) (len : Int) (rd m : Bd) (c : Int) : Prop := rd 5 0 = c ∧ m 10 0 = c ∧ 0 ≤ c ∧ (∀ v, 0 ≤ v → v < c → PW (m 9 v) ∧ 0 ≤ rd 2 v ∧ rd 2 v ≤ 7 ∧ MG (m 9) v 0 = rd 2 v ∧ MG (m 9) v 1 = rd 3 v ∧ (rd 2 v ≠ 7 → MG (m 9) v 2 = rd 4 v ∧ (0 < ar (rd 2 v) → rd 3 v < v) ∧ (1 < ar (rd 2 v) → rd 4 v < v)) ∧ (rd 2 v = 7 → rd 3 v < 8 ∧ 0 ≤ rd 4 v ∧ rd 4 v < len ∧ tx (rd 4 v) - 97 = rd 3 v)) ∧
  m 26 0 = l7 (rd 2) c.toNat ∧ ∀ v : Nat, (v : Int) < c → rd 2 v = 7 → m 25 (l7 (rd 2) v) = rd 4 v
/-- the stacks of both parsers; a: an atom is due -/
def SK (rd m : Bd) (c o w a : Int) : Prop := rd 9 0 = o ∧ m 28 0 = o ∧ 0 ≤ o ∧ rd 7 0 = w ∧ m 30 0 = w ∧ (a = 0 ∨ a = 1) ∧ w = nb (rd 8) o.toNat + (1 - a) ∧ (∀ j, 0 ≤ j → j < o → rd 8 j = m 27 j ∧ (rd 8 j = 40 ∨ rd 8 j = 91 ∨ rd 8 j = 42 ∨ rd 8 j = 62)) ∧ ∀ j, 0 ≤ j → j < w → rd 6 j = m 29 j ∧ 0 ≤ rd 6 j ∧ rd 6 j < c
/-- a node more on both sides -/
theorem nn_of {tx : Int → Int} {len : Int} {rd m : Bd} {c h x y y6 : Int} (hN : NR tx len rd m c) (c1 : c < 120) (h0 : 0 ≤ h) (h1 : h ≤ 6) (x0 : 0 ≤ x) (x1 : x < 4096) (y0 : 0 ≤ y) (y1 : y < 4096) (p0 : 0 < ar h → x < c) (p1 : 1 < ar h → y < c) : ∃ rd' m', f_X4_newNode rd h x y = some (c, rd') ∧ f_X6_adds m h x y = some (c, m') ∧ NR tx len rd' m' (c + 1) ∧ (∀ s : Nat, s ≠ 2 → s ≠ 3 → s ≠ 4 → s ≠ 5 → rd' s = rd s) ∧ (∀ s : Nat, s ≠ 9 → s ≠ 10 → m' s = m s) := by
  obtain ⟨n1, n2, n3, n4, n5, n6⟩ := hN
  obtain ⟨m', b1, b2, b3, b4, b5, b6, b7, b8⟩ := adds_of (m := m) (h := h) (x := x) (y := y) n2 n3 (by omega) h0 h1 x0 x1 y0 y1
  unfold f_X4_newNode
  rw [n1, ck1_of (by omega) (by omega), if_pos c1, ckA_of n3 c1]
  generalize hr : bs0 (bS (bS (bS rd 2 (aS (rd 2) c h)) 3 (aS (rd 3) c x)) 4 (aS (rd 4) c y)) 5 (c + 1) = rd'
  have r2 : rd' 2 = aS (rd 2) c h := by rw [← hr, bs0_ne _ _ (by decide), bS_ne _ _ (by decide), bS_ne _ _ (by decide), bS_eq]
  have r3 : rd' 3 = aS (rd 3) c x := by rw [← hr, bs0_ne _ _ (by decide), bS_ne _ _ (by decide), bS_eq]
  have r4 : rd' 4 = aS (rd 4) c y := by rw [← hr, bs0_ne _ _ (by decide), bS_eq]
  have r5 : rd' 5 0 = c + 1 := by rw [← hr, bs0_eq]
  have eh : (c.toNat : Int) = c := by omega
  refine ⟨rd', m', rfl, b1, ⟨r5, b3, by omega, fun v v0 v1 => ?_, ?_, fun v v1 hv => ?_⟩, fun s s2 s3 s4 s5 => by rw [← hr, bs0_ne _ _ s5, bS_ne _ _ s4, bS_ne _ _ s3, bS_ne _ _ s2], b2⟩
  · rw [r2, r3, r4]
    by_cases e : v = c
    · rw [e, aS_eq, aS_eq, aS_eq]
      exact ⟨b4, h0, by omega, b5, b6, fun _ => ⟨b7, p0, p1⟩, fun h7 => by omega⟩
    · rw [aS_ne _ _ e, aS_ne _ _ e, aS_ne _ _ e, b8 v e, MG_same (b8 v e), MG_same (b8 v e), MG_same (b8 v e)]
      exact n4 v v0 (by omega)
  · rw [b2 26 (by decide) (by decide), n5, show (c + 1).toNat = c.toNat + 1 by omega]
    show _ = l7 (rd' 2) c.toNat + _
    rw [eh, r2, aS_eq, if_neg (by omega), l7_cong c.toNat (R := rd 2) (fun v v0 v1 => aS_ne _ _ (by omega))]
    omega
  · rw [r2] at hv ⊢
    have e : (v : Int) ≠ c := fun e => by
      rw [e, aS_eq] at hv; omega
    rw [aS_ne _ _ e] at hv
    rw [r4, aS_ne _ _ e, b2 25 (by decide) (by decide), l7_cong v (R := rd 2) (fun u u0 u1 => aS_ne _ _ (by omega))]
    exact n6 v (by omega) hv
theorem pushO_of {rd : Bd} {w x : Int} (h : rd 7 0 = w) (w0 : 0 ≤ w) (w1 : w < 120) : f_X4_pushOperand rd x = some (1, bs0 (bS rd 6 (aS (rd 6) w x)) 7 (w + 1)) := by
  unfold f_X4_pushOperand
  rw [h, ck1_of (by omega) (by omega), if_pos w1, ckA_of w0 w1]
theorem popO_of {rd : Bd} {w : Int} (h : rd 7 0 = w) (w0 : 1 ≤ w) (w1 : w ≤ 120) : f_X4_popOperand rd = some (rd 6 (w - 1), bs0 rd 7 (w - 1)) := by
  unfold f_X4_popOperand
  rw [h, ck1_of (by omega) (by omega), if_pos (by omega), ckA_of (by omega) (by omega)]
theorem top_of {rd : Bd} {o : Int} (h : rd 9 0 = o) (o0 : 0 ≤ o) (o1 : o ≤ 120) : f_X4_topOperator rd = some (if o ≤ 0 then -1 else rd 8 (o - 1)) := by
  unfold f_X4_topOperator
  rw [h, ck1_of (by omega) (by omega)]
  by_cases c : o ≤ 0
  · rw [if_pos c, if_pos c]
  · rw [if_neg c, if_neg c, ckA_of (by omega) (by omega)]
/-- what the two joins keep -/
def KP (rd rd' m m' : Bd) : Prop := (∀ s : Nat, s ≠ 2 → s ≠ 3 → s ≠ 4 → s ≠ 5 → s ≠ 6 → s ≠ 7 → s ≠ 9 → rd' s = rd s) ∧ ∀ s : Nat, s ≠ 9 → s ≠ 10 → s ≠ 28 → s ≠ 29 → s ≠ 30 → m' s = m s
theorem KP.refl' {rd m : Bd} : KP rd rd m m := ⟨fun _ _ _ _ _ _ _ _ => rfl, fun _ _ _ _ _ _ => rfl⟩
theorem KP.trans' {rd rd1 rd2 m m1 m2 : Bd} (h : KP rd rd1 m m1) (k : KP rd1 rd2 m1 m2) : KP rd rd2 m m2 := ⟨fun s a b c d e f g => by rw [k.1 s a b c d e f g, h.1 s a b c d e f g], fun s a b c d e => by rw [k.2 s a b c d e, h.2 s a b c d e]⟩
/-- one join: the two last operands become a node -/
theorem join_one {tx : Int → Int} {len : Int} {rd m : Bd} {c o w h : Int} (hN : NR tx len rd m c) (hS : SK rd m c o w 0) (hb : o + c < 120) (o0 : 1 ≤ o) (ht : rd 8 (o - 1) = 42 ∨ rd 8 (o - 1) = 62) (hh : h = 5 ∨ h = 6) : ∃ rd' m' m0, f_X4_joinTwo rd h = some rd' ∧ (w - 1 - 1 ≥ 0 ∧ w - 1 < 120) ∧ f_X6_adds (bs0 (bs0 m 28 (o - 1)) 30 (w - 1)) h (m 29 (w - 1 - 1)) (m 29 (w - 1)) = some (c, m0) ∧ m' = bS m0 29 (aS (m0 29) (w - 1 - 1) c) ∧ NR tx len rd' m' (c + 1) ∧ SK rd' m' (c + 1) (o - 1) (w - 1) 0 ∧ KP rd rd' m m' := by
  obtain ⟨s1, s2, s3, s4, s5, s6, s7, s8, s9⟩ := hS
  obtain ⟨n1, n2, n3, n4, n5, n6⟩ := id hN
  have eo : o.toNat = (o - 1).toNat + 1 := by omega
  have ei : (((o - 1).toNat : Nat) : Int) = o - 1 := by omega
  have nbe : nb (rd 8) o.toNat = nb (rd 8) (o - 1).toNat + 1 := by
    rw [eo]
    show nb (rd 8) (o - 1).toNat + _ = _
    rw [ei, if_pos ht]
  have nr := nb_rng (rd 8) (o - 1).toNat
  have w2 : 2 ≤ w := by omega
  have w120 : w ≤ 120 := by omega
  have a1 := s9 (w - 1) (by omega) (by omega)
  have a2 := s9 (w - 1 - 1) (by omega) (by omega)
  have arh : ar h = 2 := by rcases hh with rfl | rfl <;> decide
  have hN0 : NR tx len (bs0 (bs0 (bs0 rd 9 (o - 1)) 7 (w - 1)) 7 (w - 1 - 1)) (bs0 (bs0 m 28 (o - 1)) 30 (w - 1)) c := by
    unfold NR
    simp (disch := decide) only [bs0_ne]
    exact hN
  obtain ⟨rd2, m0, t1, t2, t3, t4, t5⟩ := nn_of hN0 (y6 := 0) (h := h) (x := rd 6 (w - 1 - 1)) (y := rd 6 (w - 1)) (by omega) (by omega) (by omega) a2.2.1 (by omega) a1.2.1 (by omega) (fun _ => a2.2.2) (fun _ => a1.2.2)
  have r7 : rd2 7 0 = w - 1 - 1 := by rw [t4 7 (by decide) (by decide) (by decide) (by decide), bs0_eq]
  have r6 : rd2 6 = rd 6 := by rw [t4 6 (by decide) (by decide) (by decide) (by decide), bs0_ne _ _ (by decide), bs0_ne _ _ (by decide), bs0_ne _ _ (by decide)]
  have m29 : m0 29 = m 29 := by rw [t5 29 (by decide) (by decide), bs0_ne _ _ (by decide), bs0_ne _ _ (by decide)]
  refine ⟨bs0 (bS rd2 6 (aS (rd2 6) (w - 1 - 1) c)) 7 (w - 1 - 1 + 1), bS m0 29 (aS (m0 29) (w - 1 - 1) c), m0, ?_, ⟨by omega, by omega⟩, ?_, rfl, ?_, ?_, ?_, ?_⟩
  · unfold f_X4_joinTwo
    rw [s1, popO_of (rd := bs0 rd 9 (o - 1)) (w := w) (by rw [bs0_ne _ _ (by decide)]; exact s4) (by omega) (by omega), bn_some]
    dsimp only
    rw [popO_of (rd := bs0 (bs0 rd 9 (o - 1)) 7 (w - 1)) (w := w - 1) (by rw [bs0_eq]) (by omega) (by omega), bn_some]
    dsimp only
    rw [bs0_ne (bs0 rd 9 (o - 1)) _ (j := 6) (by decide), bs0_ne rd _ (j := 6) (by decide), t1, bn_some]
    dsimp only
    rw [pushO_of r7 (by omega) (by omega), bn_some]
  · rw [← a1.1, ← a2.1]; exact t2
  · unfold NR at t3 ⊢
    simp (disch := decide) only [bs0_ne, bS_ne]
    exact t3
  · refine ⟨by rw [bs0_ne _ _ (by decide), bS_ne _ _ (by decide), t4 9 (by decide) (by decide) (by decide) (by decide), bs0_ne _ _ (by decide), bs0_ne _ _ (by decide), bs0_eq], by rw [bS_ne _ _ (by decide), t5 28 (by decide) (by decide), bs0_ne _ _ (by decide), bs0_eq], by omega, by rw [bs0_eq]; omega, by rw [bS_ne _ _ (by decide), t5 30 (by decide) (by decide), bs0_eq], Or.inl rfl, ?_, fun j j0 j1 => ?_, fun j j0 j1 => ?_⟩
    · rw [bs0_ne _ _ (by decide), bS_ne _ _ (by decide), t4 8 (by decide) (by decide) (by decide) (by decide), bs0_ne _ _ (by decide), bs0_ne _ _ (by decide), bs0_ne _ _ (by decide)]
      omega
    · rw [bs0_ne _ _ (by decide), bS_ne _ _ (by decide), t4 8 (by decide) (by decide) (by decide) (by decide), bs0_ne _ _ (by decide), bs0_ne _ _ (by decide), bs0_ne _ _ (by decide), bS_ne _ _ (by decide), t5 27 (by decide) (by decide), bs0_ne _ _ (by decide), bs0_ne _ _ (by decide)]
      exact s8 j j0 (by omega)
    · rw [bs0_ne _ _ (by decide), bS_eq, bS_eq, r6, m29]
      by_cases e : j = w - 1 - 1
      · rw [e, aS_eq, aS_eq]; exact ⟨rfl, by omega, by omega⟩
      · rw [aS_ne _ _ e, aS_ne _ _ e]
        have := s9 j j0 (by omega)
        exact ⟨this.1, this.2.1, by omega⟩
  · intro s a b c d e f g
    rw [bs0_ne _ _ f, bS_ne _ _ e, t4 s a b c d, bs0_ne _ _ f, bs0_ne _ _ f, bs0_ne _ _ g]
  · intro s a b c d e
    rw [bS_ne _ _ d, t5 s a b, bs0_ne _ _ e, bs0_ne _ _ c]
