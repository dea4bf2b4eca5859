/-! Bench: what is reached, groups split -/
/-- the bench as a graph -/
def BG (b : Bd) : GG := fun v j => if j = 0 then b 0 v else if j = 1 then b 1 v else b 2 v
theorem BG0 (b : Bd) (v : Int) : BG b v 0 = b 0 v := rfl
theorem BG1 (b : Bd) (v : Int) : BG b v (1 + 0) = b 1 v := rfl
theorem BG2 (b : Bd) (v : Int) : BG b v (1 + 1) = b 2 v := rfl
theorem BG_same {b b' : Bd} (h0 : b' 0 = b 0) (h1 : b' 1 = b 1) (h2 : b' 2 = b 2) : BG b' = BG b := by unfold BG; rw [h0, h1, h2]
theorem linked_of {b : Bd} {v i : Int} (v0 : 0 ≤ v) (v1 : v < 3280) (i0 : 0 ≤ i) (i1 : i < 2) : f_X0_linked b v i = some (BG b v (1 + i)) := by
  unfold f_X0_linked
  rw [ck1_of (by omega) (by omega)]
  by_cases h : i = 0
  · subst h; rw [if_neg (by omega), ckA_of v0 v1]; rfl
  · have : i = 1 := by omega
    subst this; rw [if_pos (by omega), ckA_of v0 v1]; rfl
/-- the class of a part, 0 where there is none -/
def gp (G : GG) (cl : Int → Int) (v i : Int) : Int := if i < ar (G v 0) then cl (G v (1 + i)) else 0
theorem groupOfPart_of {b : Bd} {v i : Int} (v0 : 0 ≤ v) (v1 : v < 3280) (i0 : 0 ≤ i) (i1 : i < 2) (h0 : 0 ≤ BG b v 0) (h6 : BG b v 0 ≤ 6) (hp : i < ar (BG b v 0) → 0 ≤ BG b v (1 + i) ∧ BG b v (1 + i) < 3280) : f_X0_groupOfPart b v i = some (gp (BG b) (b 6) v i) := by
  unfold f_X0_groupOfPart gp
  have har := ar_le (BG b v 0)
  rw [ckA_of v0 v1]
  have e : b 0 v = BG b v 0 := rfl
  rw [e, partsOf_ar h0 h6, bn_some, ck1_of (by omega) (by omega), ck1_of (by omega) (by omega)]
  by_cases h : i < ar (BG b v 0)
  · rw [if_neg (by omega), if_pos h, linked_of v0 v1 i0 i1, bn_some, ckA_of (hp h).1 (hp h).2]
  · rw [if_pos (by omega), if_neg h]
def sg (b : Bd) (v : Int) : Int := (b 0 v * 40 + gp (BG b) (b 6) v 0) * 40 + gp (BG b) (b 6) v 1
/-- the line's nodes: apart, on the bench, their parts in line too, their groups below 40 -/
def Line (b : Bd) (n : Int) : Prop := 1 ≤ n ∧ n ≤ 3280 ∧ (∀ j k, 0 ≤ j → j < n → 0 ≤ k → k < n → b 4 j = b 4 k → j = k) ∧ (∀ j, 0 ≤ j → j < n → 0 ≤ b 4 j ∧ b 4 j < 3280 ∧ 0 ≤ b 0 (b 4 j) ∧ b 0 (b 4 j) ≤ 6 ∧ ∀ i, 0 ≤ i → i < ar (b 0 (b 4 j)) → ∃ p, 0 ≤ p ∧ p < n ∧ BG b (b 4 j) (1 + i) = b 4 p)
def Low (b : Bd) (n : Int) : Prop := ∀ j, 0 ≤ j → j < n → 0 ≤ b 6 (b 4 j) ∧ b 6 (b 4 j) < 40
theorem line_gp {b : Bd} {n j i : Int} (h : Line b n) (hl : Low b n) (j0 : 0 ≤ j) (j1 : j < n) (i0 : 0 ≤ i) : 0 ≤ gp (BG b) (b 6) (b 4 j) i ∧ gp (BG b) (b 6) (b 4 j) i < 40 := by
  unfold gp
  by_cases hi : i < ar (BG b (b 4 j) 0)
  · rw [if_pos hi]
    obtain ⟨p, p0, p1, hp⟩ := (h.2.2.2 j j0 j1).2.2.2.2 i i0 hi
    rw [hp]
    exact hl p p0 p1
  · rw [if_neg hi]; omega
theorem sig_of {b : Bd} {n j : Int} (h : Line b n) (hl : Low b n) (j0 : 0 ≤ j) (j1 : j < n) : f_X0_signatureOf b (b 4 j) = some (sg b (b 4 j)) ∧ 0 ≤ sg b (b 4 j) ∧ sg b (b 4 j) < 11200 := by
  have q := h.2.2.2 j j0 j1
  have g0 := line_gp h hl j0 j1 (i := 0) (by omega)
  have g1 := line_gp h hl j0 j1 (i := 1) (by omega)
  have hp : ∀ i, 0 ≤ i → i < ar (BG b (b 4 j) 0) → 0 ≤ BG b (b 4 j) (1 + i) ∧ BG b (b 4 j) (1 + i) < 3280 := by
    intro i i0 i1
    obtain ⟨p, p0, p1, hp⟩ := q.2.2.2.2 i i0 i1
    rw [hp]
    have := h.2.2.2 p p0 p1
    exact ⟨this.1, this.2.1⟩
  refine ⟨?_, ?_⟩
  · unfold f_X0_signatureOf
    rw [groupOfPart_of q.1 q.2.1 (by omega) (by omega) q.2.2.1 q.2.2.2.1 (hp 0 (by omega)), bn_some, groupOfPart_of q.1 q.2.1 (by omega) (by omega) q.2.2.1 q.2.2.2.1 (hp 1 (by omega)), bn_some, ckA_of q.1 q.2.1]
    rfl
  · unfold sg
    omega
/-- two signatures are the same if heads and parts' classes are -/
theorem sg_iff {b : Bd} {n j k : Int} (h : Line b n) (hl : Low b n) (j0 : 0 ≤ j) (j1 : j < n) (k0 : 0 ≤ k) (k1 : k < n) : sg b (b 4 j) = sg b (b 4 k) ↔ (BG b (b 4 j) 0 = BG b (b 4 k) 0 ∧ ∀ i, 0 ≤ i → i < ar (BG b (b 4 j) 0) → b 6 (BG b (b 4 j) (1 + i)) = b 6 (BG b (b 4 k) (1 + i))) := by
  have a0 := line_gp h hl j0 j1 (i := 0) (by omega)
  have a1 := line_gp h hl j0 j1 (i := 1) (by omega)
  have c0 := line_gp h hl k0 k1 (i := 0) (by omega)
  have c1 := line_gp h hl k0 k1 (i := 1) (by omega)
  have split : sg b (b 4 j) = sg b (b 4 k) ↔ (b 0 (b 4 j) = b 0 (b 4 k) ∧ gp (BG b) (b 6) (b 4 j) 0 = gp (BG b) (b 6) (b 4 k) 0 ∧ gp (BG b) (b 6) (b 4 j) 1 = gp (BG b) (b 6) (b 4 k) 1) := by
    unfold sg
    constructor
    · intro e; refine ⟨?_, ?_, ?_⟩ <;> omega
    · rintro ⟨e1, e2, e3⟩; rw [e1, e2, e3]
  rw [split]
  constructor
  · rintro ⟨e, e0, e1⟩
    have eh : BG b (b 4 j) 0 = BG b (b 4 k) 0 := e
    refine ⟨eh, fun i i0 i1 => ?_⟩
    have har := ar_le (BG b (b 4 j) 0)
    unfold gp at e0 e1
    rw [← eh] at e0 e1
    by_cases hi : i = 0
    · subst hi
      rw [if_pos i1, if_pos i1] at e0
      exact e0
    · have : i = 1 := by omega
      subst this
      rw [if_pos i1, if_pos i1] at e1
      exact e1
  · rintro ⟨e, hi⟩
    have part : ∀ i, 0 ≤ i → gp (BG b) (b 6) (b 4 j) i = gp (BG b) (b 6) (b 4 k) i := by
      intro i i0
      unfold gp
      rw [← e]
      by_cases hx : i < ar (BG b (b 4 j) 0)
      · rw [if_pos hx, if_pos hx]; exact hi i i0 hx
      · rw [if_neg hx, if_neg hx]
    exact ⟨e, part 0 (by omega), part 1 (by omega)⟩
/-- what holds while groups are split: x2 groups so far, x4 of the line done -/
def SI (b b1 : Bd) (x2 x4 : Int) : Prop :=
  (∀ s : Nat, s ≠ 7 → s ≠ 8 → s ≠ 9 → b1 s = b s) ∧ 0 ≤ x2 ∧ x2 ≤ 40 ∧ x2 ≤ x4 ∧
  (∀ j, 0 ≤ j → j < x4 → 0 ≤ b1 7 (b 4 j) ∧ b1 7 (b 4 j) < x2 ∧ b1 8 (sg b (b 4 j)) = b1 7 (b 4 j) ∧ b1 9 (b1 7 (b 4 j)) = sg b (b 4 j)) ∧
  (∀ w, 0 ≤ w → w < x2 → ∃ j, 0 ≤ j ∧ j < x4 ∧ b1 7 (b 4 j) = w) ∧
  (∀ j, 0 ≤ j → j < x4 → ∀ w, 0 ≤ w → w < b1 7 (b 4 j) → ∃ k, 0 ≤ k ∧ k < j ∧ b1 7 (b 4 k) = w) ∧
  (∀ s, 0 ≤ s → s < 11200 → b1 8 s = -1 ∨ ∃ w, 0 ≤ w ∧ w < x2 ∧ b1 9 w = s)
/-- 41 of the line have signatures of their own -/
def Many (b : Bd) (n : Int) : Prop := ∃ f : Nat → Int, (∀ a, a ≤ 40 → 0 ≤ f a ∧ f a < n) ∧ ∀ a c, a < c → c ≤ 40 → sg b (b 4 (f a)) ≠ sg b (b 4 (f c))
/-- the first loop of splitGroups -/
theorem split1 (b : Bd) (x1 : Int) (hL : Line b x1) (hl : Low b x1) (k : Int → Int → Bd → Option (Int × Bd)) : ∀ (n : Nat) (x2 x4 : Int) (b1 : Bd), x1 - x4 < n → 0 ≤ x4 → x4 ≤ x1 → SI b b1 x2 x4 →
    (∃ x2' b', SI b b' x2' x1 ∧ f_X0_splitGroups_L7 x1 k n x2 0 x4 b1 = k x2' 0 b') ∨ (∃ b', (∀ s : Nat, s ≠ 7 → s ≠ 8 → s ≠ 9 → b' s = b s) ∧ (∀ w, 0 ≤ w → w < 40 → 0 ≤ b' 9 w ∧ b' 9 w < 11200) ∧ (∀ s, 0 ≤ s → s < 11200 → b' 8 s = -1 ∨ ∃ w, 0 ≤ w ∧ w < 40 ∧ b' 9 w = s) ∧ Many b x1 ∧ f_X0_splitGroups_L7 x1 k n x2 0 x4 b1 = k 40 1 b') := by
  intro n
  induction n with
  | zero => intro x2 x4 b1 h0 _ h2 _; omega
  | succ n ih =>
    intro x2 x4 b1 hn h0 h1 hS
    obtain ⟨hfr, s1, s2, s2', s3, s4, s5, s6⟩ := id hS
    have hb := hL.2.1
    rw [f_X0_splitGroups_L7, ck1_of (by omega) (by omega), ck1_of (by omega) (by omega)]
    by_cases hx : x1 ≤ x4
    · rw [if_pos hx]
      have : x4 = x1 := by omega
      subst this
      exact Or.inl ⟨x2, b1, hS, rfl⟩
    rw [if_neg hx, ck1_of (by omega) (by omega), if_neg (by omega), ckA_of (by omega) (by omega)]
    have e4 : b1 4 = b 4 := hfr 4 (by decide) (by decide) (by decide)
    have hL1 : Line b1 x1 ∧ Low b1 x1 := by
      have eB : BG b1 = BG b := BG_same (hfr 0 (by decide) (by decide) (by decide)) (hfr 1 (by decide) (by decide) (by decide)) (hfr 2 (by decide) (by decide) (by decide))
      unfold Line Low
      rw [e4, hfr 0 (by decide) (by decide) (by decide), hfr 6 (by decide) (by decide) (by decide), eB]
      exact ⟨hL, hl⟩
    have esg : ∀ v, sg b1 v = sg b v := by
      intro v
      unfold sg
      rw [BG_same (hfr 0 (by decide) (by decide) (by decide)) (hfr 1 (by decide) (by decide) (by decide)) (hfr 2 (by decide) (by decide) (by decide)), hfr 0 (by decide) (by decide) (by decide), hfr 6 (by decide) (by decide) (by decide)]
    have hq := sig_of hL1.1 hL1.2 h0 (by omega : x4 < x1)
    have hv := hL.2.2.2 x4 h0 (by omega)
    rw [hq.1, bn_some, ckA_of hq.2.1 hq.2.2, jn_eq]
    rw [esg, e4] at hq ⊢
    generalize hs : sg b (b 4 x4) = s at hq ⊢
    have hdone : ∀ (x2' : Int) (b2 : Bd), b2 4 = b 4 → (∀ s : Nat, s ≠ 7 → s ≠ 8 → s ≠ 9 → b2 s = b s) → True := fun _ _ _ _ => trivial
    rcases s6 s hq.2.1 hq.2.2 with hm | ⟨w, w0, w1, hw⟩
    · -- a signature not met before
      rw [hm, ck1_of (by omega) (by omega), if_neg (by omega), ck1_of (by omega) (by omega)]
      have hnew : ∀ j, 0 ≤ j → j < x4 → sg b (b 4 j) ≠ s := by
        intro j j0 j1 e
        have := s3 j j0 j1
        rw [e, hm] at this
        omega
      by_cases h40 : 40 ≤ x2
      · rw [if_pos h40]
        right
        have : x2 = 40 := by omega
        subst this
        -- the rest of the loop ends at once
        refine ⟨bS b1 7 (aS (b1 7) (b 4 x4) (b1 8 s)), fun q q7 q8 q9 => ?_, fun w w0 w1 => ?_, fun q q0 q1 => ?_, ?_, ?_⟩
        · rw [bS_ne _ _ q7]; exact hfr q q7 q8 q9
        · rw [bS_ne _ _ (by decide)]
          obtain ⟨j, j0, j1, j2⟩ := s4 w w0 w1
          have := s3 j j0 j1
          rw [j2] at this
          rw [this.2.2.2]
          have := sig_of hL hl j0 (by omega : j < x1)
          exact this.2
        · rw [bS_ne _ _ (by decide), bS_ne _ _ (by decide)]
          exact s6 q q0 q1
        · have hc : ∀ a : Nat, ∃ j, a < 40 → 0 ≤ j ∧ j < x4 ∧ b1 7 (b 4 j) = a := by
            intro a
            by_cases ha : a < 40
            · obtain ⟨j, q⟩ := s4 a (by omega) (by omega)
              exact ⟨j, fun _ => q⟩
            · exact ⟨0, fun q => absurd q ha⟩
          refine ⟨fun a => if a < 40 then Classical.choose (hc a) else x4, fun a ha => ?_, fun a c hac hc4 => ?_⟩
          · simp only
            by_cases h : a < 40
            · rw [if_pos h]
              have := Classical.choose_spec (hc a) h
              exact ⟨this.1, by omega⟩
            · rw [if_neg h]; omega
          · simp only
            rw [if_pos (by omega)]
            have qa := Classical.choose_spec (hc a) (by omega)
            by_cases h : c < 40
            · rw [if_pos h]
              have qc := Classical.choose_spec (hc c) h
              intro e
              have ea := (s3 _ qa.1 qa.2.1).2.2.1
              have ec := (s3 _ qc.1 qc.2.1).2.2.1
              rw [e, ec] at ea
              rw [qa.2.2, qc.2.2] at ea
              omega
            · rw [if_neg h, hs]
              exact hnew _ qa.1 qa.2.1
        · dsimp only
          rw [ckA_of hv.1 hv.2.1]
          cases n with
          | zero => omega
          | succ n =>
            rw [f_X0_splitGroups_L7, ck1_of (by omega) (by omega), ck1_of (by omega) (by omega)]
            by_cases hx2 : x1 ≤ x4 + 1
            · rw [if_pos hx2]
            · rw [if_neg hx2, ck1_of (by omega) (by omega), if_pos (by omega)]
      · rw [if_neg h40, ckA_of (by omega) (by omega)]
        have e48 : (bS (bS b1 8 (aS (b1 8) s x2)) 9 (aS (b1 9) x2 s)) 4 = b 4 := by
          rw [bS_ne _ _ (by decide), bS_ne _ _ (by decide)]; exact e4
        dsimp only
        rw [ckA_of hv.1 hv.2.1]
        have v7 : (bS (bS b1 8 (aS (b1 8) s x2)) 9 (aS (b1 9) x2 s)) 7 = b1 7 := by rw [bS_ne _ _ (by decide), bS_ne _ _ (by decide)]
        have v8 : (bS (bS b1 8 (aS (b1 8) s x2)) 9 (aS (b1 9) x2 s)) 8 = aS (b1 8) s x2 := by rw [bS_ne _ _ (by decide), bS_eq]
        have v9 : (bS (bS b1 8 (aS (b1 8) s x2)) 9 (aS (b1 9) x2 s)) 9 = aS (b1 9) x2 s := by rw [bS_eq]
        rw [v7, v8, aS_eq]
        generalize hb2 : bS (bS (bS b1 8 (aS (b1 8) s x2)) 9 (aS (b1 9) x2 s)) 7 (aS (b1 7) (b 4 x4) x2) = b2
        have w7 : b2 7 = aS (b1 7) (b 4 x4) x2 := by rw [← hb2, bS_eq]
        have w8 : b2 8 = aS (b1 8) s x2 := by rw [← hb2, bS_ne _ _ (by decide)]; exact v8
        have w9 : b2 9 = aS (b1 9) x2 s := by rw [← hb2, bS_ne _ _ (by decide)]; exact v9
        have wfr : ∀ q : Nat, q ≠ 7 → q ≠ 8 → q ≠ 9 → b2 q = b q := by
          intro q q7 q8 q9
          rw [← hb2, bS_ne _ _ q7, bS_ne _ _ q9, bS_ne _ _ q8]; exact hfr q q7 q8 q9
        have inj : ∀ j, 0 ≤ j → j < x4 → b 4 j ≠ b 4 x4 := by
          intro j j0 j1 e
          have := hL.2.2.1 j x4 j0 (by omega) h0 (by omega) e
          omega
        have hold : ∀ j, 0 ≤ j → j < x4 → b2 7 (b 4 j) = b1 7 (b 4 j) := by
          intro j j0 j1
          rw [w7, aS_ne _ _ (inj j j0 j1)]
        have hthis : b2 7 (b 4 x4) = x2 := by rw [w7, aS_eq]
        have S' : SI b b2 (x2 + 1) (x4 + 1) := by
          refine ⟨wfr, by omega, by omega, by omega, fun j j0 j1 => ?_, fun w w0 w1 => ?_, fun j j0 j1 w w0 w1 => ?_, fun q q0 q1 => ?_⟩
          · by_cases hj : j = x4
            · subst hj
              rw [hthis, hs, w8, w9, aS_eq, aS_eq]
              exact ⟨by omega, by omega, rfl, rfl⟩
            · have := s3 j j0 (by omega)
              rw [hold j j0 (by omega), w8, w9, aS_ne _ _ (hnew j j0 (by omega)), aS_ne _ _ (by omega)]
              exact ⟨this.1, by omega, this.2.2⟩
          · by_cases hwx : w = x2
            · subst hwx
              exact ⟨x4, h0, by omega, hthis⟩
            · obtain ⟨j, j0, j1, j2⟩ := s4 w w0 (by omega)
              exact ⟨j, j0, by omega, by rw [hold j j0 j1]; exact j2⟩
          · by_cases hj : j = x4
            · subst hj
              rw [hthis] at w1
              obtain ⟨j', j0', j1', j2'⟩ := s4 w w0 w1
              exact ⟨j', j0', j1', by rw [hold j' j0' j1']; exact j2'⟩
            · rw [hold j j0 (by omega)] at w1
              obtain ⟨k', k0, k1, k2⟩ := s5 j j0 (by omega) w w0 w1
              exact ⟨k', k0, k1, by rw [hold k' k0 (by omega)]; exact k2⟩
          · by_cases hqs : q = s
            · subst hqs
              exact Or.inr ⟨x2, s1, by omega, by rw [w9, aS_eq]⟩
            · rcases s6 q q0 q1 with z | ⟨w, w0, w1, hw⟩
              · left; rw [w8, aS_ne _ _ hqs]; exact z
              · right; exact ⟨w, w0, by omega, by rw [w9, aS_ne _ _ (by omega)]; exact hw⟩
        exact ih (x2 + 1) (x4 + 1) b2 (by omega) (by omega) (by omega) S'
    · -- met before
      obtain ⟨j, j0, j1, j2⟩ := s4 w w0 w1
      have q := s3 j j0 j1
      have e8 : b1 8 s = w := by
        rw [j2] at q
        rw [← hw, q.2.2.2]
        exact q.2.2.1
      rw [e8, ck1_of (by omega) (by omega), if_pos (by omega)]
      dsimp only
      rw [ckA_of hv.1 hv.2.1, e8]
      generalize hb2 : bS b1 7 (aS (b1 7) (b 4 x4) w) = b2
      have w7 : b2 7 = aS (b1 7) (b 4 x4) w := by rw [← hb2, bS_eq]
      have w8 : b2 8 = b1 8 := by rw [← hb2, bS_ne _ _ (by decide)]
      have w9 : b2 9 = b1 9 := by rw [← hb2, bS_ne _ _ (by decide)]
      have wfr : ∀ q : Nat, q ≠ 7 → q ≠ 8 → q ≠ 9 → b2 q = b q := by
        intro q q7 q8 q9
        rw [← hb2, bS_ne _ _ q7]; exact hfr q q7 q8 q9
      have inj : ∀ j, 0 ≤ j → j < x4 → b 4 j ≠ b 4 x4 := by
        intro j j0 j1 e
        have := hL.2.2.1 j x4 j0 (by omega) h0 (by omega) e
        omega
      have hold : ∀ j, 0 ≤ j → j < x4 → b2 7 (b 4 j) = b1 7 (b 4 j) := by
        intro j j0 j1
        rw [w7, aS_ne _ _ (inj j j0 j1)]
      have hthis : b2 7 (b 4 x4) = w := by rw [w7, aS_eq]
      have S' : SI b b2 x2 (x4 + 1) := by
        refine ⟨wfr, by omega, by omega, by omega, fun j j0 j1 => ?_, fun w' w0' w1' => ?_, fun j j0 j1 w' w0' w1' => ?_, fun q q0 q1 => ?_⟩
        · by_cases hj : j = x4
          · subst hj
            rw [hthis, hs, w8, w9]
            exact ⟨w0, w1, e8, hw⟩
          · rw [hold j j0 (by omega), w8, w9]
            exact s3 j j0 (by omega)
        · obtain ⟨j, j0, j1, j2⟩ := s4 w' w0' w1'
          exact ⟨j, j0, by omega, by rw [hold j j0 j1]; exact j2⟩
        · by_cases hj : j = x4
          · subst hj
            rw [hthis] at w1'
            obtain ⟨j', j0', j1', j2'⟩ := s4 w' w0' (by omega)
            exact ⟨j', j0', j1', by rw [hold j' j0' j1']; exact j2'⟩
          · rw [hold j j0 (by omega)] at w1'
            obtain ⟨k', k0, k1, k2⟩ := s5 j j0 (by omega) w' w0' w1'
            exact ⟨k', k0, k1, by rw [hold k' k0 (by omega)]; exact k2⟩
        · rw [w8, w9]; exact s6 q q0 q1
      exact ih x2 (x4 + 1) b2 (by omega) (by omega) (by omega) S'
