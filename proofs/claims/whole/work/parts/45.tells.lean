/-! The reference: what is in line is told apart -/
/-- packed nodes as a graph -/
def MG (w : Int → Int) : GG := fun v j => if j = 0 then w v % 8 else if j = 1 then w v / 8 % 4096 else w v / 32768 % 4096
def PW (w : Int) : Prop := 0 ≤ w ∧ w < 134217728
theorem headOf_of {w : Int → Int} {v : Int} (h : PW (w v)) : f_X6_headOf (w v) = some (MG w v 0) := by
  unfold f_X6_headOf
  rw [i_and_mod h.1 (by have := h.2; omega) 3 (by decide) (by decide) 8 rfl]
  rfl
theorem partOf_of {w : Int → Int} {v i : Int} (h : PW (w v)) (i0 : 0 ≤ i) (i1 : i < 2) : f_X6_partOf (w v) i = some (MG w v (1 + i)) := by
  unfold f_X6_partOf
  have h1 := h.1
  have h2 := h.2
  rw [ck1_of (by omega) (by omega)]
  by_cases hi : i = 0
  · subst hi
    have q : 0 ≤ w v / 8 ∧ w v / 8 < 2147483648 := by omega
    rw [if_neg (by omega), i_shr_div h1 (by omega) 3 (by decide) 8 rfl, i_and_mod q.1 q.2 12 (by decide) (by decide) 4096 rfl]
    rfl
  · have : i = 1 := by omega
    subst this
    have q : 0 ≤ w v / 32768 ∧ w v / 32768 < 2147483648 := by omega
    rw [if_pos (by omega), i_shr_div h1 (by omega) 15 (by decide) 32768 rfl, i_and_mod q.1 q.2 12 (by decide) (by decide) 4096 rfl]
    rfl
theorem MG_rng {w : Int → Int} {v : Int} (h : PW (w v)) : 0 ≤ MG w v 0 ∧ MG w v 0 < 8 ∧ 0 ≤ MG w v 1 ∧ MG w v 1 < 4096 ∧ 0 ≤ MG w v 2 ∧ MG w v 2 < 4096 := by
  show 0 ≤ w v % 8 ∧ w v % 8 < 8 ∧ 0 ≤ w v / 8 % 4096 ∧ w v / 8 % 4096 < 4096 ∧ 0 ≤ w v / 32768 % 4096 ∧ w v / 32768 % 4096 < 4096
  omega
theorem MG_pk {w : Int → Int} {v h a b : Int} (e : w v = pk h a b) (h0 : 0 ≤ h) (h1 : h < 8) (a0 : 0 ≤ a) (a1 : a < 4096) (b0 : 0 ≤ b) (b1 : b < 4096) : PW (w v) ∧ MG w v 0 = h ∧ MG w v 1 = a ∧ MG w v 2 = b := by
  show _ ∧ w v % 8 = h ∧ w v / 8 % 4096 = a ∧ w v / 32768 % 4096 = b
  unfold PW
  rw [e]
  unfold pk
  omega
/-- what is in line: its nodes, their parts in line too, with their places -/
def MLine (m : Bd) (n : Int) (B : GG) : Prop := 1 ≤ n ∧ n ≤ 3400 ∧ (∀ k, 0 ≤ k → k < n → 0 ≤ m 11 k ∧ m 11 k < 3400 ∧ PW (m 9 (m 11 k)) ∧ MG (m 9) (m 11 k) 0 ≤ 6 ∧ B k 0 = MG (m 9) (m 11 k) 0 ∧ ∀ i, 0 ≤ i → i < ar (B k 0) → 0 ≤ MG (m 9) (m 11 k) (1 + i) ∧ MG (m 9) (m 11 k) (1 + i) < 3400 ∧ B k (1 + i) = m 12 (MG (m 9) (m 11 k) (1 + i)) ∧ 0 ≤ B k (1 + i) ∧ B k (1 + i) < n)
theorem MLine.frame {m m' : Bd} {n : Int} {B : GG} (h : MLine m n B) (e9 : m' 9 = m 9) (e11 : m' 11 = m 11) (e12 : m' 12 = m 12) : MLine m' n B := by unfold MLine; rw [e9, e11, e12]; exact h
theorem MLine.wg {m : Bd} {n : Int} {B : GG} (h : MLine m n B) : WG B n := by
  intro k k0 k1
  have q := h.2.2 k k0 k1
  rw [q.2.2.2.2.1]
  refine ⟨(MG_rng q.2.2.1).1, q.2.2.2.1, fun i i0 i1 => ?_⟩
  have p := q.2.2.2.2.2 i i0 (by rw [q.2.2.2.2.1]; exact i1)
  exact ⟨p.2.2.2.1, p.2.2.2.2⟩
theorem classOf_of {m : Bd} {n : Int} {B : GG} (h : MLine m n B) {k i : Int} (k0 : 0 ≤ k) (k1 : k < n) (i0 : 0 ≤ i) (i1 : i < ar (B k 0)) : f_X6_classOf m k i = some (m 13 (B k (1 + i))) := by
  unfold f_X6_classOf
  have q := h.2.2 k k0 k1
  have p := q.2.2.2.2.2 i i0 i1
  have har := ar_le (B k 0)
  have hn := h.2.1
  rw [ckA_of k0 (by omega), ckA_of q.1 q.2.1, partOf_of q.2.2.1 i0 (by omega), bn_some, ckA_of p.1 p.2.1, ← p.2.2.1, ckA_of p.2.2.2.1 (by omega)]
/-- classes in int's range, alike ones have the same head -/
def Cls (c : Int → Int) (n : Int) : Prop := ∀ k, 0 ≤ k → k < n → 0 ≤ c k ∧ c k ≤ 3400
theorem alikeSoFar_of {m : Bd} {n : Int} {B : GG} {t : Nat} (h : MLine m n B) (hc : Cls (m 13) n) (ht : Tell (t + 1) (m 13) B n) {a b : Int} (a0 : 0 ≤ a) (a1 : a < n) (b0 : 0 ≤ b) (b1 : b < n) : ∃ z, f_X6_alikeSoFar m a b = some z ∧ ((z = 1 ∧ EqL (t + 2) B a B b) ∨ (z = 0 ∧ ¬ EqL (t + 2) B a B b)) := by
  unfold f_X6_alikeSoFar
  have qa := h.2.2 a a0 a1
  have hn := h.2.1
  have ra := MG_rng qa.2.2.1
  have ca := hc a a0 a1
  have cb := hc b b0 b1
  have hW := h.wg
  have har := ar_le (B a 0)
  rw [ckA_of a0 (by omega), ckA_of qa.1 qa.2.1, headOf_of qa.2.2.1, bn_some, parts_ar ra.1 ra.2.1, bn_some, ckA_of b0 (by omega), ck1_of (by omega) (by omega), ck1_of (by omega) (by omega), ← qa.2.2.2.2.1]
  by_cases hne : m 13 a ≠ m 13 b
  · rw [if_pos hne]
    exact ⟨0, rfl, Or.inr ⟨rfl, fun e => hne ((ht a b a0 a1 b0 b1).mpr (e.mono (by omega)))⟩⟩
  · have hE := (ht a b a0 a1 b0 b1).mp (by omega)
    have eh := (EqL.step.mp hE).1
    have part : ∀ i, 0 ≤ i → i < ar (B a 0) → (m 13 (B a (1 + i)) = m 13 (B b (1 + i)) ↔ EqL (t + 1) B (B a (1 + i)) B (B b (1 + i))) := by
      intro i i0 i1
      have pa := (hW a a0 a1).2.2 i i0 i1
      have pb := (hW b b0 b1).2.2 i i0 (by rw [← eh]; exact i1)
      exact ht _ _ pa.1 pa.2 pb.1 pb.2
    have rng : ∀ k i, 0 ≤ k → k < n → 0 ≤ i → i < ar (B k 0) → 0 ≤ m 13 (B k (1 + i)) ∧ m 13 (B k (1 + i)) ≤ 3400 := by
      intro k i k0 k1 i0 i1
      have p := (hW k k0 k1).2.2 i i0 i1
      exact hc _ p.1 p.2
    have step : ∀ z : Int, ((z = 1 ∧ ∀ i, 0 ≤ i → i < ar (B a 0) → m 13 (B a (1 + i)) = m 13 (B b (1 + i))) ∨ (z = 0 ∧ ∃ i, 0 ≤ i ∧ i < ar (B a 0) ∧ m 13 (B a (1 + i)) ≠ m 13 (B b (1 + i)))) → ((z = 1 ∧ EqL (t + 2) B a B b) ∨ (z = 0 ∧ ¬ EqL (t + 2) B a B b)) := by
      rintro z (⟨e, hi⟩ | ⟨e, i, i0, i1, hi⟩)
      · exact Or.inl ⟨e, EqL.step.mpr ⟨eh, fun i i0 i1 => (part i i0 i1).mp (hi i i0 i1)⟩⟩
      · exact Or.inr ⟨e, fun hE2 => hi ((part i i0 i1).mpr ((EqL.step.mp hE2).2 i i0 i1))⟩
    rw [if_neg hne, jn_eq, ck1_of (by omega) (by omega)]
    by_cases h1 : ar (B a 0) < 1
    · rw [if_pos h1, ck1_of (by omega) (by omega), if_pos (by omega)]
      exact ⟨1, rfl, step 1 (Or.inl ⟨rfl, fun i i0 i1 => by omega⟩)⟩
    · have b1' : 0 < ar (B b 0) := by rw [← eh]; omega
      have q0 := rng a 0 a0 a1 (by omega) (by omega)
      have q0' := rng b 0 b0 b1 (by omega) b1'
      rw [if_neg h1, classOf_of h a0 a1 (by omega) (by omega), bn_some, classOf_of h b0 b1 (by omega) b1', bn_some, ck1_of (by omega) (by omega), ck1_of (by omega) (by omega)]
      by_cases d0 : m 13 (B a (1 + 0)) ≠ m 13 (B b (1 + 0))
      · rw [if_pos d0]
        exact ⟨0, rfl, step 0 (Or.inr ⟨rfl, 0, by omega, by omega, d0⟩)⟩
      · rw [if_neg d0, ck1_of (by omega) (by omega)]
        by_cases h2 : ar (B a 0) < 2
        · rw [if_pos h2]
          refine ⟨1, rfl, step 1 (Or.inl ⟨rfl, fun i i0 i1 => ?_⟩)⟩
          have : i = 0 := by omega
          subst this
          exact Decidable.not_not.mp d0
        · have b2' : 1 < ar (B b 0) := by rw [← eh]; omega
          have q1 := rng a 1 a0 a1 (by omega) (by omega)
          have q1' := rng b 1 b0 b1 (by omega) b2'
          rw [if_neg h2, classOf_of h a0 a1 (by omega) (by omega), bn_some, classOf_of h b0 b1 (by omega) b2', bn_some, ck1_of (by omega) (by omega), ck1_of (by omega) (by omega)]
          by_cases d1 : m 13 (B a (1 + 1)) ≠ m 13 (B b (1 + 1))
          · rw [if_pos d1]
            exact ⟨0, rfl, step 0 (Or.inr ⟨rfl, 1, by omega, by omega, d1⟩)⟩
          · rw [if_neg d1]
            refine ⟨1, rfl, step 1 (Or.inl ⟨rfl, fun i i0 i1 => ?_⟩)⟩
            by_cases hi : i = 0
            · subst hi; exact Decidable.not_not.mp d0
            · have : i = 1 := by omega
              subst this
              exact Decidable.not_not.mp d1
/-- the first of those found that is alike so far -/
theorem tells_in {m : Bd} {n : Int} {B : GG} {t : Nat} (h : MLine m n B) (hc : Cls (m 13) n) (ht : Tell (t + 1) (m 13) B n) (x2 x3 cnt j : Int) (j0 : 0 ≤ j) (j1 : j < n) (hcnt : 0 ≤ cnt ∧ cnt ≤ 80) (hf : ∀ c, 0 ≤ c → c < cnt → 0 ≤ m 15 c ∧ m 15 c < n) (k : Int → Option (Int × Bd)) : ∀ (f : Nat) (x6 : Int), cnt - x6 < f → 0 ≤ x6 → x6 ≤ cnt → (∀ c, 0 ≤ c → c < x6 → ¬ EqL (t + 2) B (m 15 c) B j) →
    ∃ c, 0 ≤ c ∧ c ≤ cnt ∧ (c < cnt → EqL (t + 2) B (m 15 c) B j) ∧ (∀ c', 0 ≤ c' → c' < c → ¬ EqL (t + 2) B (m 15 c') B j) ∧ f_X6_tellsApart_L54 m n x2 x3 cnt j k f x6 = k c := by
  intro f
  induction f with
  | zero => intro x6 h0 _ h2 _; omega
  | succ f ih =>
    intro x6 h0 h1 h2 hno
    rw [f_X6_tellsApart_L54, ck1_of (by omega) (by omega), ck1_of (by omega) (by omega)]
    by_cases hx : cnt ≤ x6
    · rw [if_pos hx]
      have : x6 = cnt := by omega
      subst this
      exact ⟨x6, h1, Int.le_refl _, fun z => by omega, hno, rfl⟩
    · have q := hf x6 h1 (by omega)
      obtain ⟨z, e, hz⟩ := alikeSoFar_of h hc ht q.1 q.2 j0 j1
      rw [if_neg hx, ckA_of h1 (by omega), e, bn_some]
      rcases hz with ⟨z1, hE⟩ | ⟨z0, hE⟩
      · subst z1
        rw [ck1_of (by omega) (by omega), if_pos (by omega)]
        exact ⟨x6, h1, by omega, fun _ => hE, hno, rfl⟩
      · subst z0
        rw [ck1_of (by omega) (by omega), if_neg (by omega)]
        refine ih (x6 + 1) (by omega) (by omega) (by omega) (fun c c0 c1 => ?_)
        by_cases hcx : c = x6
        · subst hcx; exact hE
        · exact hno c c0 (by omega)
/-- so many and one more are told apart -/
def Over (B : GG) (n : Int) (most : Int) (t : Nat) : Prop := ∃ f : Nat → Int, (∀ a : Nat, (a : Int) ≤ most → 0 ≤ f a ∧ f a < n) ∧ ∀ a b : Nat, a < b → (b : Int) ≤ most → ¬ EqL t B (f a) B (f b)
/-- while a round is told: x4 classes so far, x5 of the line done -/
def FI (B : GG) (n : Int) (t : Nat) (m m1 : Bd) (x4 x5 : Int) : Prop :=
  (∀ s : Nat, s ≠ 14 → s ≠ 15 → m1 s = m s) ∧ 0 ≤ x4 ∧ x4 ≤ x5 ∧
  (∀ j, 0 ≤ j → j < x5 → 0 ≤ m1 14 j ∧ m1 14 j < x4 ∧ EqL (t + 2) B (m1 15 (m1 14 j)) B j) ∧
  (∀ c, 0 ≤ c → c < x4 → 0 ≤ m1 15 c ∧ m1 15 c < x5 ∧ m1 14 (m1 15 c) = c) ∧
  (∀ j, 0 ≤ j → j < x5 → ∀ w, 0 ≤ w → w < m1 14 j → ∃ k, 0 ≤ k ∧ k < j ∧ m1 14 k = w) ∧
  (∀ c d, 0 ≤ c → c < d → d < x4 → ¬ EqL (t + 2) B (m1 15 c) B (m1 15 d))
theorem EqL.sym {t : Nat} {B : GG} {u v : Int} (h : EqL t B u B v) : EqL t B v B u := fun p hp => (h p hp).symm
theorem EqL.tr {t : Nat} {B : GG} {u v w : Int} (h : EqL t B u B v) (k : EqL t B v B w) : EqL t B u B w := fun p hp => (h p hp).trans (k p hp)
theorem tells_round {N : Nat} (hN : 4000 ≤ N) {m : Bd} {n : Int} {B : GG} {t : Nat} (h : MLine m n B) (hc : Cls (m 13) n) (ht : Tell (t + 1) (m 13) B n) (x2 x3 : Int) (hx2 : 0 ≤ x2 ∧ x2 ≤ 80) (k : Int → Bd → Option (Int × Bd)) : ∀ (f : Nat) (x4 x5 : Int) (m1 : Bd), n - x5 < f → 0 ≤ x5 → x5 ≤ n → x4 ≤ x2 → FI B n t m m1 x4 x5 →
    (∃ g m', g ≤ x2 ∧ FI B n t m m' g n ∧ f_X6_tellsApart_L45 N n x2 x3 k f x4 x5 m1 = k g m') ∨ (∃ m', (∀ s : Nat, s ≠ 14 → s ≠ 15 → m' s = m s) ∧ Over B n x2 (t + 2) ∧ f_X6_tellsApart_L45 N n x2 x3 k f x4 x5 m1 = some (x2 + 1, m')) := by
  have hn := h.2.1
  intro f
  induction f with
  | zero => intro x4 x5 m1 h0 _ h2; omega
  | succ f ih =>
    intro x4 x5 m1 h0 h1 h2 h4 hI
    obtain ⟨hfr, i0, i1, i2, i3, i4, i5⟩ := id hI
    rw [f_X6_tellsApart_L45, ck1_of (by omega) (by omega), ck1_of (by omega) (by omega)]
    by_cases hx : n ≤ x5
    · rw [if_pos hx]
      have : x5 = n := by omega
      subst this
      exact Or.inl ⟨x4, m1, h4, hI, rfl⟩
    · rw [if_neg hx]
      have hL1 : MLine m1 n B := h.frame (hfr 9 (by decide) (by decide)) (hfr 11 (by decide) (by decide)) (hfr 12 (by decide) (by decide))
      have e13 : m1 13 = m 13 := hfr 13 (by decide) (by decide)
      obtain ⟨c, c0, c1, c2, c3, e⟩ := tells_in hL1 (by rw [e13]; exact hc) (by rw [e13]; exact ht) x2 x3 x4 x5 h1 (by omega) ⟨i0, by omega⟩ (fun c c0 c1 => by have := i3 c c0 c1; omega) (fun (x6_54 : Int) =>
          ck1 x6_54 <|
          ck1 x4 <|
          if x6_54 ≠ x4 then
            ckA x5 3400 <|
            f_X6_tellsApart_L45 N n x2 x3 k f x4 (x5 + 1) (bS m1 14 (aS (m1 14) x5 x6_54))
          else
            ck1 x2 <|
            if x4 ≠ x2 then
              ckA x4 90 <|
              ckA x5 3400 <|
              f_X6_tellsApart_L45 N n x2 x3 k f (x4 + 1) (x5 + 1) (bS (bS m1 14 (aS (m1 14) x5 x6_54)) 15 (aS (m1 15) x4 x5))
            else
              some (x2 + 1, m1)) N 0 (by omega) (by omega) i0 (fun c _ _ => by omega)
      rw [e, ck1_of (by omega) (by omega), ck1_of (by omega) (by omega)]
      by_cases hcx : c ≠ x4
      · have hE := c2 (by omega)
        rw [if_pos hcx, ckA_of h1 (by omega)]
        generalize hm2 : bS m1 14 (aS (m1 14) x5 c) = m2
        have w14 : m2 14 = aS (m1 14) x5 c := by rw [← hm2, bS_eq]
        have w15 : m2 15 = m1 15 := by rw [← hm2, bS_ne _ _ (by decide)]
        have old : ∀ j, j < x5 → m2 14 j = m1 14 j := fun j hj => by rw [w14, aS_ne _ _ (by omega)]
        have this5 : m2 14 x5 = c := by rw [w14, aS_eq]
        have hfc := i3 c c0 (by omega)
        refine ih x4 (x5 + 1) m2 (by omega) (by omega) (by omega) h4 ⟨fun s s4 s5 => by rw [← hm2, bS_ne _ _ s4]; exact hfr s s4 s5, i0, by omega, fun j j0 j1 => ?_, fun d d0 d1 => ?_, fun j j0 j1 w w0 w1 => ?_, by rw [w15]; exact i5⟩
        · rw [w15]
          by_cases hj : j = x5
          · subst hj; rw [this5]; exact ⟨c0, by omega, hE⟩
          · rw [old j (by omega)]; exact i2 j j0 (by omega)
        · have q := i3 d d0 d1
          rw [w15, old _ q.2.1]
          exact ⟨q.1, by omega, q.2.2⟩
        · by_cases hj : j = x5
          · subst hj
            rw [this5] at w1
            have q := i3 w w0 (by omega)
            exact ⟨m1 15 w, q.1, q.2.1, by rw [old _ q.2.1]; exact q.2.2⟩
          · rw [old j (by omega)] at w1
            obtain ⟨k', k0, k1, k2⟩ := i4 j j0 (by omega) w w0 w1
            exact ⟨k', k0, k1, by rw [old k' (by omega)]; exact k2⟩
      · have hcx : c = x4 := by omega
        subst hcx
        rw [if_neg (by omega), ck1_of (by omega) (by omega)]
        by_cases hfull : c ≠ x2
        · rw [if_pos hfull, ckA_of i0 (by omega), ckA_of h1 (by omega)]
          generalize hm2 : bS (bS m1 14 (aS (m1 14) x5 c)) 15 (aS (m1 15) c x5) = m2
          have w14 : m2 14 = aS (m1 14) x5 c := by rw [← hm2, bS_ne _ _ (by decide), bS_eq]
          have w15 : m2 15 = aS (m1 15) c x5 := by rw [← hm2, bS_eq]
          have old : ∀ j, j < x5 → m2 14 j = m1 14 j := fun j hj => by rw [w14, aS_ne _ _ (by omega)]
          have this5 : m2 14 x5 = c := by rw [w14, aS_eq]
          have oldf : ∀ d, d < c → m2 15 d = m1 15 d := fun d hd => by rw [w15, aS_ne _ _ (by omega)]
          have thisf : m2 15 c = x5 := by rw [w15, aS_eq]
          refine ih (c + 1) (x5 + 1) m2 (by omega) (by omega) (by omega) (by omega) ⟨fun s s4 s5 => by rw [← hm2, bS_ne _ _ s5, bS_ne _ _ s4]; exact hfr s s4 s5, by omega, by omega, fun j j0 j1 => ?_, fun d d0 d1 => ?_, fun j j0 j1 w w0 w1 => ?_, fun d d' d0 d1 d2 => ?_⟩
          · by_cases hj : j = x5
            · subst hj; rw [this5, thisf]; exact ⟨c0, by omega, fun p _ => rfl⟩
            · have q := i2 j j0 (by omega)
              rw [old j (by omega), oldf _ q.2.1]; exact ⟨q.1, by omega, q.2.2⟩
          · by_cases hd : d = c
            · subst hd; rw [thisf, this5]; exact ⟨h1, by omega, rfl⟩
            · have q := i3 d d0 (by omega)
              rw [oldf d (by omega), old _ q.2.1]
              exact ⟨q.1, by omega, q.2.2⟩
          · by_cases hj : j = x5
            · subst hj
              rw [this5] at w1
              have q := i3 w w0 (by omega)
              exact ⟨m1 15 w, q.1, q.2.1, by rw [old _ q.2.1]; exact q.2.2⟩
            · rw [old j (by omega)] at w1
              obtain ⟨k', k0, k1, k2⟩ := i4 j j0 (by omega) w w0 w1
              exact ⟨k', k0, k1, by rw [old k' (by omega)]; exact k2⟩
          · by_cases hd : d' = c
            · subst hd
              rw [thisf, oldf d (by omega)]
              exact c3 d d0 d1
            · rw [oldf d (by omega), oldf d' (by omega)]
              exact i5 d d' d0 d1 (by omega)
        · have hfull : c = x2 := by omega
          subst hfull
          rw [if_neg (by omega)]
          right
          refine ⟨m1, hfr, ⟨fun a => if (a : Int) < c then m1 15 a else x5, fun a ha => ?_, fun a b hab hb => ?_⟩, rfl⟩
          · show 0 ≤ (if (a : Int) < c then m1 15 a else x5) ∧ (if (a : Int) < c then m1 15 a else x5) < n
            by_cases z : (a : Int) < c
            · rw [if_pos z]; have := i3 a (by omega) z; omega
            · rw [if_neg z]; omega
          · show ¬ EqL (t + 2) B (if (a : Int) < c then m1 15 a else x5) B (if (b : Int) < c then m1 15 b else x5)
            rw [if_pos (by omega)]
            by_cases z : (b : Int) < c
            · rw [if_pos z]; exact i5 a b (by omega) (by omega) z
            · rw [if_neg z]; exact c3 a (by omega) (by omega)
