/-! read: joining on both sides, brackets -/
theorem does_step {tx : Int → Int} {len : Int} {rd m m' m0 : Bd} {c o w h : Int} (hS : SK rd m c o w 0) (o0 : 1 ≤ o) (ob : o ≤ 120) (ht : (rd 8 (o - 1) = 42 ∧ h = 5) ∨ (rd 8 (o - 1) = 62 ∧ h = 6)) {cl : Int} (hcl : cl = 0 ∨ (cl = 1 ∧ h = 5)) (hw : w - 1 - 1 ≥ 0 ∧ w - 1 < 120) (ha : f_X6_adds (bs0 (bs0 m 28 (o - 1)) 30 (w - 1)) h (m 29 (w - 1 - 1)) (m 29 (w - 1)) = some (c, m0)) (hm' : m' = bS m0 29 (aS (m0 29) (w - 1 - 1) c)) (k : Bd → Option Bd) (f : Nat) : f_X6_does_L0 cl k (f + 1) m = f_X6_does_L0 cl k f m' := by
  obtain ⟨s1, s2, s3, s4, s5, s6, s7, s8, s9⟩ := hS
  have e := (s8 (o - 1) (by omega) (by omega)).1
  rw [f_X6_does_L0, s2, s5, ck1_of (by omega) (by omega), if_neg (by omega), ckA_of (by omega) (by omega), jn_eq, ← e]
  have body : ∀ s3 : Int, s3 = h → (ckA (w - 1 - 1) 130 <| ckA (w - 1) 130 <| bn (f_X6_adds (bs0 (bs0 m 28 (o - 1)) 30 (w - 1)) s3 (m 29 (w - 1 - 1)) (m 29 (w - 1))) fun q114_6 => f_X6_does_L0 cl k f (bS q114_6.2 29 (aS (q114_6.2 29) (w - 1 - 1) q114_6.1))) = f_X6_does_L0 cl k f m' := by
    rintro s3 rfl
    rw [ckA_of (by omega) (by omega), ckA_of (by omega) (by omega), ha, bn_some, hm']
  have both : (jn (fun (s3_94 : Int) => ckA (w - 1 - 1) 130 <| ckA (w - 1) 130 <| bn (f_X6_adds (bs0 (bs0 m 28 (o - 1)) 30 (w - 1)) s3_94 (m 29 (w - 1 - 1)) (m 29 (w - 1))) fun q114_6 => f_X6_does_L0 cl k f (bS q114_6.2 29 (aS (q114_6.2 29) (w - 1 - 1) q114_6.1))) fun j94 => ck1 (rd 8 (o - 1)) <| if (rd 8 (o - 1)) ≠ 42 then j94 6 else j94 5) = f_X6_does_L0 cl k f m' := by
    rw [jn_eq, ck1_of (by omega) (by omega)]
    by_cases c42 : rd 8 (o - 1) = 42
    · rw [if_neg (fun h => h c42)]; exact body 5 (by omega)
    · rw [if_pos c42]; exact body 6 (by omega)
  rw [ck1_of (by omega) (by omega)]
  by_cases c42 : rd 8 (o - 1) = 42
  · rw [if_pos c42]; exact both
  · rw [if_neg c42, ck1_of (by omega) (by omega), if_neg (by omega), if_neg (by omega)]; exact both
theorem does_stop {rd m : Bd} {c o w : Int} (hS : SK rd m c o w 0) (ob : o ≤ 120) {cl : Int} (hcl : cl = 0 ∨ cl = 1) (ht : o = 0 ∨ (rd 8 (o - 1) ≠ 42 ∧ (cl = 1 ∨ rd 8 (o - 1) ≠ 62))) (k : Bd → Option Bd) (f : Nat) : f_X6_does_L0 cl k (f + 1) m = k m := by
  obtain ⟨s1, s2, s3, s4, s5, s6, s7, s8, s9⟩ := hS
  rw [f_X6_does_L0, s2, ck1_of (by omega) (by omega)]
  by_cases c0 : o ≤ 0
  · rw [if_pos c0]
  · have e := s8 (o - 1) (by omega) (by omega)
    rw [if_neg c0, ckA_of (by omega) (by omega), jn_eq, ← e.1, ck1_of (by omega) (by omega), if_neg (by omega), ck1_of (by omega) (by omega)]
    by_cases c1 : cl ≠ 0
    · rw [if_pos c1]
    · rw [if_neg c1, if_pos (by omega)]
/-- the outcome of joining -/
def JD (tx : Int → Int) (len : Int) (rd m : Bd) (c o : Int) (rd' m' : Bd) (c' o' w' : Int) (cl : Int) : Prop := NR tx len rd' m' c' ∧ SK rd' m' c' o' w' 0 ∧ KP rd rd' m m' ∧ o' ≤ o ∧ c' = c + (o - o') ∧ (∀ j, o' ≤ j → j < o → rd 8 j = 42 ∨ rd 8 j = 62) ∧ (o' = 0 ∨ (rd 8 (o' - 1) ≠ 42 ∧ (cl = 1 ∨ rd 8 (o' - 1) ≠ 62)))
theorem JD.cons {tx : Int → Int} {len : Int} {rd m rd1 m1 rd' m' : Bd} {c o c' o' w' cl : Int} (h : JD tx len rd1 m1 (c + 1) (o - 1) rd' m' c' o' w' cl) (k : KP rd rd1 m m1) (ht : rd 8 (o - 1) = 42 ∨ rd 8 (o - 1) = 62) : JD tx len rd m c o rd' m' c' o' w' cl := by
  obtain ⟨h1, h2, h3, h4, h5, h6, h7⟩ := h
  have e8 : rd1 8 = rd 8 := k.1 8 (by decide) (by decide) (by decide) (by decide) (by decide) (by decide) (by decide)
  rw [e8] at h6 h7
  refine ⟨h1, h2, k.trans' h3, by omega, by omega, fun j j0 j1 => ?_, h7⟩
  by_cases e : j = o - 1
  · rw [e]; exact ht
  · exact h6 j j0 (by omega)
theorem joinP_lock {tx : Int → Int} {len : Int} : ∀ (f g : Nat) (i : Int) (rd m : Bd) (c o w : Int), o < f → o < g → 0 ≤ i → i + o < 120 → o + c < 120 → NR tx len rd m c → SK rd m c o w 0 → ∃ rd' m' c' o' w', JD tx len rd m c o rd' m' c' o' w' 1 ∧ (∀ k, f_X4_joinPairs_L2 k g i rd = k rd') ∧ ∀ k, f_X6_does_L0 1 k f m = k m' := by
  intro f
  induction f with
  | zero => intro g i rd m c o w h0 _ _ _ _ _ hS; have := hS.2.2.1; omega
  | succ f ih =>
    intro g i rd m c o w h0 h1 i0 hi hb hN hS
    have hS' := hS
    obtain ⟨s1, s2, s3, s4, s5, s6, s7, s8, s9⟩ := hS'
    have c0 := hN.2.2.1
    obtain ⟨g, rfl⟩ : ∃ g', g = g' + 1 := ⟨g - 1, by omega⟩
    have tp := top_of s1 s3 (by omega)
    by_cases st : o = 0 ∨ rd 8 (o - 1) ≠ 42
    · refine ⟨rd, m, c, o, w, ⟨hN, hS, KP.refl', Int.le_refl o, by omega, fun j j0 j1 => by omega, st.imp (fun h => h) (fun h => ⟨h, Or.inl rfl⟩)⟩, fun k => ?_, fun k => does_stop hS (by omega) (Or.inr rfl) (st.imp (fun h => h) (fun h => ⟨h, Or.inl rfl⟩)) k f⟩
      rw [f_X4_joinPairs_L2, ck1_of (by omega) (by omega), if_neg (by omega), tp, bn_some]
      by_cases c0 : o ≤ 0
      · rw [if_pos c0, ck1_of (by omega) (by omega), if_pos (by decide)]
      · have e := s8 (o - 1) (by omega) (by omega)
        rw [if_neg c0, ck1_of (by omega) (by omega), if_pos (by omega)]
    · have o1 : 1 ≤ o := by omega
      have e42 : rd 8 (o - 1) = 42 := by
        by_cases d : rd 8 (o - 1) = 42
        · exact d
        · exact absurd (Or.inr d) st
      obtain ⟨rd1, m1, m0, a1, a2, a3, a4, a5, a6, a7⟩ := join_one (h := 5) hN hS hb o1 (Or.inl e42) (Or.inl rfl)
      obtain ⟨rd', m', c', o', w', b1, b2, b3⟩ := ih g (i + 1) rd1 m1 (c + 1) (o - 1) (w - 1) (by omega) (by omega) (by omega) (by omega) (by omega) a5 a6
      refine ⟨rd', m', c', o', w', b1.cons a7 (Or.inl e42), fun k => ?_, fun k => ?_⟩
      · rw [f_X4_joinPairs_L2, ck1_of (by omega) (by omega), if_neg (by omega), tp, bn_some, if_neg (by omega), ck1_of (by omega) (by omega), if_neg (fun h => h e42), a1, bn_some]
        exact b2 k
      · rw [does_step (tx := tx) (len := len) hS o1 (by omega) (Or.inl ⟨e42, rfl⟩) (Or.inr ⟨rfl, rfl⟩) a2 a3 a4 k f]
        exact b3 k
theorem joinA_lock {tx : Int → Int} {len : Int} : ∀ (f g : Nat) (i : Int) (rd m : Bd) (c o w : Int), o < f → o < g → 0 ≤ i → i + o < 120 → o + c < 120 → NR tx len rd m c → SK rd m c o w 0 → ∃ rd' m' c' o' w', JD tx len rd m c o rd' m' c' o' w' 0 ∧ (∀ k, f_X4_joinAll_L7 k g (if o ≤ 0 then -1 else rd 8 (o - 1)) i rd = k rd') ∧ ∀ k, f_X6_does_L0 0 k f m = k m' := by
  intro f
  induction f with
  | zero => intro g i rd m c o w h0 _ _ _ _ _ hS; have := hS.2.2.1; omega
  | succ f ih =>
    intro g i rd m c o w h0 h1 i0 hi hb hN hS
    have hS' := hS
    obtain ⟨s1, s2, s3, s4, s5, s6, s7, s8, s9⟩ := hS'
    have c0 := hN.2.2.1
    obtain ⟨g, rfl⟩ : ∃ g', g = g' + 1 := ⟨g - 1, by omega⟩
    by_cases st : o = 0 ∨ (rd 8 (o - 1) ≠ 42 ∧ rd 8 (o - 1) ≠ 62)
    · refine ⟨rd, m, c, o, w, ⟨hN, hS, KP.refl', Int.le_refl o, by omega, fun j j0 j1 => by omega, st.imp (fun h => h) (fun h => ⟨h.1, Or.inr h.2⟩)⟩, fun k => ?_, fun k => does_stop hS (by omega) (Or.inl rfl) (st.imp (fun h => h) (fun h => ⟨h.1, Or.inr h.2⟩)) k f⟩
      rw [f_X4_joinAll_L7, ck1_of (by omega) (by omega), if_neg (by omega), jn_eq]
      by_cases c0 : o ≤ 0
      · rw [if_pos c0, ck1_of (by omega) (by omega), if_neg (by decide), if_pos (by decide)]
      · have e := s8 (o - 1) (by omega) (by omega)
        rw [if_neg c0, ck1_of (by omega) (by omega), if_neg (by omega), if_pos (by omega)]
    · have o1 : 1 ≤ o := by omega
      have e42 : rd 8 (o - 1) = 42 ∨ rd 8 (o - 1) = 62 := by
        by_cases d : rd 8 (o - 1) = 42
        · exact Or.inl d
        · by_cases d2 : rd 8 (o - 1) = 62
          · exact Or.inr d2
          · exact absurd (Or.inr ⟨d, d2⟩) st
      have fin : ∀ h : Int, ((rd 8 (o - 1) = 42 ∧ h = 5) ∨ (rd 8 (o - 1) = 62 ∧ h = 6)) → ∃ rd' m' c' o' w', JD tx len rd m c o rd' m' c' o' w' 0 ∧ (∀ k, (bn (f_X4_joinTwo rd h) fun q38_4 => bn (f_X4_topOperator q38_4) fun q42_5 => f_X4_joinAll_L7 k g q42_5 (i + 1) q38_4) = k rd') ∧ ∀ k, f_X6_does_L0 0 k (f + 1) m = k m' := by
        intro h hh
        obtain ⟨rd1, m1, m0, a1, a2, a3, a4, a5, a6, a7⟩ := join_one (h := h) hN hS hb o1 e42 (by omega)
        obtain ⟨rd', m', c', o', w', b1, b2, b3⟩ := ih g (i + 1) rd1 m1 (c + 1) (o - 1) (w - 1) (by omega) (by omega) (by omega) (by omega) (by omega) a5 a6
        refine ⟨rd', m', c', o', w', b1.cons a7 e42, fun k => ?_, fun k => ?_⟩
        · rw [a1, bn_some, top_of a6.1 (by omega) (by omega), bn_some]
          exact b2 k
        · rw [does_step (tx := tx) (len := len) hS o1 (by omega) hh (Or.inl rfl) a2 a3 a4 k f]
          exact b3 k
      rcases e42 with e42 | e42
      · obtain ⟨rd', m', c', o', w', b1, b2, b3⟩ := fin 5 (Or.inl ⟨e42, rfl⟩)
        refine ⟨rd', m', c', o', w', b1, fun k => ?_, b3⟩
        rw [f_X4_joinAll_L7, ck1_of (by omega) (by omega), if_neg (by omega), jn_eq, if_neg (by omega), ck1_of (by omega) (by omega), if_pos e42, jn_eq, ck1_of (by omega) (by omega), if_neg (fun h => h e42)]
        exact b2 k
      · obtain ⟨rd', m', c', o', w', b1, b2, b3⟩ := fin 6 (Or.inr ⟨e42, rfl⟩)
        refine ⟨rd', m', c', o', w', b1, fun k => ?_, b3⟩
        rw [f_X4_joinAll_L7, ck1_of (by omega) (by omega), if_neg (by omega), jn_eq, if_neg (by omega), ck1_of (by omega) (by omega), if_neg (by omega), if_neg (fun h => h e42), jn_eq, ck1_of (by omega) (by omega), if_pos (by omega)]
        exact b2 k
theorem bracket_of {rd m : Bd} {c o w a : Int} (hS : SK rd m c o w a) (ob : o ≤ 120) : ∀ (f n : Nat), o - n < f → (n : Int) ≤ o → ∀ k, f_X6_bracket_L4 m k f (lbr (rd 8) n) n = k (lbr (rd 8) o.toNat) := by
  obtain ⟨s1, s2, s3, s4, s5, s6, s7, s8, s9⟩ := hS
  have lr : ∀ n : Nat, (n : Int) ≤ o → lbr (rd 8) n = 0 ∨ lbr (rd 8) n = 40 ∨ lbr (rd 8) n = 91 := by
    intro n
    induction n with
    | zero => intro _; exact Or.inl rfl
    | succ n ih =>
      intro h
      have el : lbr (rd 8) (n + 1) = if rd 8 n = 40 ∨ rd 8 n = 91 then rd 8 n else lbr (rd 8) n := rfl
      rw [el]
      by_cases c : rd 8 n = 40 ∨ rd 8 n = 91
      · rw [if_pos c]; exact Or.inr c
      · rw [if_neg c]; exact ih (by omega)
  intro f
  induction f with
  | zero => intro n h0 h1; omega
  | succ f ih =>
    intro n h0 h1 k
    rw [f_X6_bracket_L4, s2, ck1_of (by omega) (by omega), ck1_of (by omega) (by omega)]
    by_cases c : o ≤ n
    · rw [if_pos c, show o.toNat = n by omega]
    · have e := s8 n (by omega) (by omega)
      have nx := ih (n + 1) (by omega) (by omega) k
      have el : lbr (rd 8) (n + 1) = if rd 8 n = 40 ∨ rd 8 n = 91 then rd 8 n else lbr (rd 8) n := rfl
      rw [show ((n + 1 : Nat) : Int) = (n : Int) + 1 by omega] at nx
      rw [if_neg c, ckA_of (by omega) (by omega), jn_eq, ← e.1, ck1_of (by omega) (by omega)]
      by_cases c40 : rd 8 n = 40
      · rw [el, if_pos (Or.inl c40)] at nx
        rw [if_pos c40]; exact nx
      · rw [if_neg c40]
        by_cases c91 : rd 8 n = 91
        · rw [el, if_pos (Or.inr c91)] at nx
          rw [if_neg (fun h => h c91)]; exact nx
        · rw [el, if_neg (fun h => Or.elim h c40 c91)] at nx
          rw [if_pos c91]; exact nx
/-- the open bracket stands on top when all is joined -/
theorem lbr_top {R : Int → Int} {o o' : Int} (o0 : 0 ≤ o') (h1 : o' ≤ o) (hj : ∀ j, o' ≤ j → j < o → R j = 42 ∨ R j = 62) (ht : o' = 0 ∨ (R (o' - 1) = 40 ∨ R (o' - 1) = 91)) : lbr R o.toNat = if o' ≤ 0 then 0 else R (o' - 1) := by
  have up : ∀ d : Nat, o' + d ≤ o → lbr R (o' + d).toNat = lbr R o'.toNat := by
    intro d
    induction d with
    | zero => intro _; rw [show o' + ((0 : Nat) : Int) = o' by omega]
    | succ d ih =>
      intro h
      rw [show (o' + ((d + 1 : Nat) : Int)).toNat = (o' + (d : Int)).toNat + 1 by omega]
      have el : lbr R ((o' + (d : Int)).toNat + 1) = if R (((o' + (d : Int)).toNat : Nat) : Int) = 40 ∨ R (((o' + (d : Int)).toNat : Nat) : Int) = 91 then R (((o' + (d : Int)).toNat : Nat) : Int) else lbr R (o' + (d : Int)).toNat := rfl
      rw [el, show (((o' + (d : Int)).toNat : Nat) : Int) = o' + d by omega]
      have := hj (o' + d) (by omega) (by omega)
      rw [if_neg (by omega)]
      exact ih (by omega)
  have e := up (o - o').toNat (by omega)
  rw [show o' + ((o - o').toNat : Int) = o by omega] at e
  rw [e]
  by_cases c : o' ≤ 0
  · rw [if_pos c, show o'.toNat = 0 by omega]; rfl
  · rw [if_neg c, show o'.toNat = (o' - 1).toNat + 1 by omega]
    have el : lbr R ((o' - 1).toNat + 1) = if R (((o' - 1).toNat : Nat) : Int) = 40 ∨ R (((o' - 1).toNat : Nat) : Int) = 91 then R (((o' - 1).toNat : Nat) : Int) else lbr R (o' - 1).toNat := rfl
    rw [el, show (((o' - 1).toNat : Nat) : Int) = o' - 1 by omega]
    rw [if_pos (by omega)]
