/-! read: steps of both parsers -/
theorem NR.frame {tx : Int → Int} {len : Int} {rd rd' m m' : Bd} {c : Int} (h : NR tx len rd m c) (e2 : rd' 2 = rd 2) (e3 : rd' 3 = rd 3) (e4 : rd' 4 = rd 4) (e5 : rd' 5 = rd 5) (f9 : m' 9 = m 9) (f10 : m' 10 = m 10) (f25 : m' 25 = m 25) (f26 : m' 26 = m 26) : NR tx len rd' m' c := by
  unfold NR
  rw [e2, e3, e4, e5, f9, f10, f25, f26]
  exact h
theorem SK.frame {rd rd' m m' : Bd} {c o w a : Int} (h : SK rd m c o w a) (e6 : rd' 6 = rd 6) (e7 : rd' 7 = rd 7) (e8 : rd' 8 = rd 8) (e9 : rd' 9 = rd 9) (f27 : m' 27 = m 27) (f28 : m' 28 = m 28) (f29 : m' 29 = m 29) (f30 : m' 30 = m 30) : SK rd' m' c o w a := by
  unfold SK
  rw [e6, e7, e8, e9, f27, f28, f29, f30]
  exact h
theorem SK.op {rd m : Bd} {c o w a a' ch : Int} (h : SK rd m c o w a) (hc : ch = 40 ∨ ch = 91 ∨ ch = 42 ∨ ch = 62) (ha' : a' = 0 ∨ a' = 1) (hw : a = a' + (if ch = 42 ∨ ch = 62 then -1 else 0)) : SK (bs0 (bS rd 8 (aS (rd 8) o ch)) 9 (o + 1)) (bs0 (bS m 27 (aS (m 27) o ch)) 28 (o + 1)) c (o + 1) w a' := by
  obtain ⟨s1, s2, s3, s4, s5, s6, s7, s8, s9⟩ := h
  have eo : ((o.toNat : Nat) : Int) = o := by omega
  have en : nb (aS (rd 8) o ch) (o + 1).toNat = nb (rd 8) o.toNat + (if ch = 42 ∨ ch = 62 then 1 else 0) := by
    have el : nb (aS (rd 8) o ch) (o.toNat + 1) = nb (aS (rd 8) o ch) o.toNat + (if aS (rd 8) o ch (o.toNat : Int) = 42 ∨ aS (rd 8) o ch (o.toNat : Int) = 62 then 1 else 0) := rfl
    rw [show (o + 1).toNat = o.toNat + 1 by omega, el, eo, aS_eq, nb_cong o.toNat (R := rd 8) (fun v v0 v1 => aS_ne _ _ (by omega))]
  refine ⟨bs0_eq _ _ _ _, bs0_eq _ _ _ _, by omega, ?_, ?_, ha', ?_, fun j j0 j1 => ?_, fun j j0 j1 => ?_⟩
  · rw [bs0_ne _ _ (by decide), bS_ne _ _ (by decide)]; exact s4
  · rw [bs0_ne _ _ (by decide), bS_ne _ _ (by decide)]; exact s5
  · rw [bs0_ne _ _ (by decide), bS_eq, en]
    split at hw <;> omega
  · rw [bs0_ne _ _ (by decide), bS_eq, bs0_ne _ _ (by decide), bS_eq]
    by_cases e : j = o
    · rw [e, aS_eq, aS_eq]; exact ⟨rfl, hc⟩
    · rw [aS_ne _ _ e, aS_ne _ _ e]; exact s8 j j0 (by omega)
  · rw [bs0_ne _ _ (by decide), bS_ne _ _ (by decide), bs0_ne _ _ (by decide), bS_ne _ _ (by decide)]
    exact s9 j j0 j1
theorem SK.push {rd m : Bd} {c o w : Int} (h : SK rd m c o w 1) (c0 : 0 ≤ c) : SK (bs0 (bS rd 6 (aS (rd 6) w c)) 7 (w + 1)) (bs0 (bS m 29 (aS (m 29) w c)) 30 (w + 1)) (c + 1) o (w + 1) 0 := by
  obtain ⟨s1, s2, s3, s4, s5, s6, s7, s8, s9⟩ := h
  refine ⟨?_, ?_, s3, bs0_eq _ _ _ _, bs0_eq _ _ _ _, Or.inl rfl, ?_, fun j j0 j1 => ?_, fun j j0 j1 => ?_⟩
  · rw [bs0_ne _ _ (by decide), bS_ne _ _ (by decide)]; exact s1
  · rw [bs0_ne _ _ (by decide), bS_ne _ _ (by decide)]; exact s2
  · rw [bs0_ne _ _ (by decide), bS_ne _ _ (by decide)]; omega
  · rw [bs0_ne _ _ (by decide), bS_ne _ _ (by decide), bs0_ne _ _ (by decide), bS_ne _ _ (by decide)]; exact s8 j j0 j1
  · rw [bs0_ne _ _ (by decide), bS_eq, bs0_ne _ _ (by decide), bS_eq]
    by_cases e : j = w
    · rw [e, aS_eq, aS_eq]; exact ⟨rfl, c0, by omega⟩
    · rw [aS_ne _ _ e, aS_ne _ _ e]
      have := s9 j j0 (by omega)
      exact ⟨this.1, this.2.1, by omega⟩
/-- a letter's node -/
theorem n7_of {tx : Int → Int} {len : Int} {rd m : Bd} {c x p : Int} (hN : NR tx len rd m c) (c1 : c < 120) (x0 : 0 ≤ x) (x1 : x < 8) (p0 : 0 ≤ p) (p1 : p < len) (ht : tx p - 97 = x) : ∃ rd' m', f_X4_newNode rd 7 x p = some (c, rd') ∧ f_X6_adds m 7 x 0 = some (c, m') ∧ (∀ m2 : Bd, m2 9 = m' 9 → m2 10 = m' 10 → m2 25 = aS (m 25) (m 26 0) p → m2 26 0 = m 26 0 + 1 → NR tx len rd' m2 (c + 1)) ∧ (∀ s : Nat, s ≠ 2 → s ≠ 3 → s ≠ 4 → s ≠ 5 → rd' s = rd s) ∧ (∀ s : Nat, s ≠ 9 → s ≠ 10 → m' s = m s) := by
  obtain ⟨n1, n2, n3, n4, n5, n6⟩ := hN
  -- adds with head 7
  have ha : f_X6_adds m 7 x 0 = some (c, bs0 (bS m 9 (aS (m 9) c (pk 7 x 0))) 10 (c + 1)) := by
    unfold f_X6_adds
    rw [pk_node (by omega) (by omega) x0 (by omega) (by omega) (by omega), bn_some, n2, ckA_of n3 (by omega), show c + 1 - 1 = c by omega]
  have mg := MG_pk (w := aS (m 9) c (pk 7 x 0)) (v := c) (aS_eq _ _ _) (by omega) (by omega) x0 (by omega) (by omega) (by omega)
  refine ⟨bs0 (bS (bS (bS rd 2 (aS (rd 2) c 7)) 3 (aS (rd 3) c x)) 4 (aS (rd 4) c p)) 5 (c + 1), bs0 (bS m 9 (aS (m 9) c (pk 7 x 0))) 10 (c + 1), ?_, ha, fun m2 f9 f10 f25 f26 => ?_, fun s s2 s3 s4 s5 => by rw [bs0_ne _ _ s5, bS_ne _ _ s4, bS_ne _ _ s3, bS_ne _ _ s2], fun s s9 s10 => by rw [bs0_ne _ _ s10, bS_ne _ _ s9]⟩
  · unfold f_X4_newNode
    rw [n1, ck1_of (by omega) (by omega), if_pos c1, ckA_of n3 c1]
  · generalize hr : bs0 (bS (bS (bS rd 2 (aS (rd 2) c 7)) 3 (aS (rd 3) c x)) 4 (aS (rd 4) c p)) 5 (c + 1) = rd'
    have r2 : rd' 2 = aS (rd 2) c 7 := by rw [← hr, bs0_ne _ _ (by decide), bS_ne _ _ (by decide), bS_ne _ _ (by decide), bS_eq]
    have r3 : rd' 3 = aS (rd 3) c x := by rw [← hr, bs0_ne _ _ (by decide), bS_ne _ _ (by decide), bS_eq]
    have r4 : rd' 4 = aS (rd 4) c p := by rw [← hr, bs0_ne _ _ (by decide), bS_eq]
    have r5 : rd' 5 0 = c + 1 := by rw [← hr, bs0_eq]
    have g9 : m2 9 = aS (m 9) c (pk 7 x 0) := by rw [f9, bs0_ne _ _ (by decide), bS_eq]
    have g10 : m2 10 0 = c + 1 := by rw [f10, bs0_eq]
    have eh : (c.toNat : Int) = c := by omega
    have el : l7 (rd' 2) (c + 1).toNat = l7 (rd 2) c.toNat + 1 := by
      have e1 : l7 (rd' 2) (c.toNat + 1) = l7 (rd' 2) c.toNat + (if rd' 2 (c.toNat : Int) = 7 then 1 else 0) := rfl
      rw [show (c + 1).toNat = c.toNat + 1 by omega, e1, eh, r2, aS_eq, if_pos rfl, l7_cong c.toNat (R := rd 2) (fun v v0 v1 => aS_ne _ _ (by omega))]
    refine ⟨r5, g10, by omega, fun v v0 v1 => ?_, by rw [f26, el, n5], fun v v1 hv => ?_⟩
    · rw [r2, r3, r4, g9]
      by_cases e : v = c
      · have m1 := mg.1
        have m2 := mg.2.1
        have m3 := mg.2.2.1
        rw [e]
        repeat rw [aS_eq]
        rw [aS_eq] at m1
        exact ⟨m1, by omega, by omega, m2, m3, fun h => absurd rfl h, fun _ => ⟨x1, p0, p1, ht⟩⟩
      · have e8 : aS (m 9) c (pk 7 x 0) v = m 9 v := aS_ne _ _ e
        rw [e8, MG_same e8, MG_same e8, MG_same e8]
        repeat rw [aS_ne _ _ e]
        exact n4 v v0 (by omega)
    · rw [f25]
      by_cases e : (v : Int) = c
      · rw [e, r4, aS_eq, r2, show v = c.toNat by omega, l7_cong c.toNat (R := rd 2) (fun u u0 u1 => aS_ne _ _ (by omega)), ← n5, aS_eq]
      · rw [r2, aS_ne _ _ e] at hv
        have lt := l7_lt (R := rd 2) hv c.toNat (by omega)
        rw [r4, aS_ne _ _ e, r2, l7_cong v (R := rd 2) (fun u u0 u1 => aS_ne _ _ (by omega)), aS_ne _ _ (by omega)]
        exact n6 v (by omega) hv
/-- the text on the reference's side -/
def TX (tx : Int → Int) (len : Int) (m : Bd) : Prop := m 8 0 = len ∧ ∀ j, 0 ≤ j → j < len → m 7 j = tx j
theorem byteAt_of {tx : Int → Int} {len : Int} {m : Bd} (h : TX tx len m) (hl : len ≤ 120) {p : Int} (p0 : 0 ≤ p) (p1 : p ≤ len) : f_X6_byteAt m p = some (if len ≤ p then -1 else tx p) := by
  unfold f_X6_byteAt
  rw [h.1, ck1_of (by omega) (by omega), ck1_of (by omega) (by omega)]
  by_cases c : len ≤ p
  · rw [if_pos c, if_pos c]
  · rw [if_neg c, if_neg c, ckA_of p0 (by omega), h.2 p p0 (by omega)]
theorem skip_lock {tx : Int → Int} {len : Int} (hl : len ≤ 120) (hb : ∀ j, 0 ≤ j → j < len → 0 ≤ tx j ∧ tx j ≤ 127) : ∀ (f : Nat) (p : Int) (m : Bd), len - p < f → 0 ≤ p → p ≤ len → TX tx len m → m 22 0 = p → ∃ (d : Nat) (m' : Bd), p + d ≤ len ∧ (p + d = len ∨ tx (p + d) ≠ 32) ∧ m' 22 0 = p + d ∧ (∀ s : Nat, s ≠ 22 → m' s = m s) ∧ (∀ j, p ≤ j → j < p + d → tx j = 32) ∧ ∀ k, f_X6_skips_L0 k f m = k m' := by
  intro f
  induction f with
  | zero => intro p m h0 _ h2; omega
  | succ f ih =>
    intro p m h0 p0 p1 hT h22
    have hby := byteAt_of hT hl p0 p1
    by_cases c : p = len
    · rw [if_pos (by omega)] at hby
      refine ⟨0, m, by omega, Or.inl (by omega), by omega, fun _ _ => rfl, fun j j0 j1 => by omega, fun k => ?_⟩
      rw [f_X6_skips_L0, h22, hby, bn_some, ck1_of (by omega) (by omega), if_pos (by decide)]
    · rw [if_neg (by omega)] at hby
      have b := hb p p0 (by omega)
      by_cases d : tx p = 32
      · obtain ⟨e, m', k1, k2, k3, k4, k5, k6⟩ := ih (p + 1) (bs0 m 22 (p + 1)) (by omega) (by omega) (by omega) ⟨by rw [bs0_ne _ _ (by decide)]; exact hT.1, by rw [bs0_ne _ _ (by decide)]; exact hT.2⟩ (bs0_eq _ _ _ _)
        refine ⟨e + 1, m', by omega, by rw [show p + ((e + 1 : Nat) : Int) = p + 1 + (e : Int) by omega]; exact k2, by omega, fun s hs => by rw [k4 s hs, bs0_ne _ _ hs], fun j j0 j1 => ?_, fun k => ?_⟩
        · by_cases ej : j = p
          · rw [ej]; exact d
          · exact k5 j (by omega) (by omega)
        · rw [f_X6_skips_L0, h22, hby, bn_some, ck1_of (by omega) (by omega), if_neg (fun h => h d)]
          exact k6 k
      · refine ⟨0, m, by omega, Or.inr (by rw [show p + ((0 : Nat) : Int) = p by omega]; exact d), by omega, fun _ _ => rfl, fun j j0 j1 => by omega, fun k => ?_⟩
        rw [f_X6_skips_L0, h22, hby, bn_some, ck1_of (by omega) (by omega), if_pos d]
/-- the program passes over blanks -/
theorem skip5 {N : Nat} {lt : Bd} {tx : Int → Int} {len : Int} (hl : len ≤ 120) (ht : ∀ j, 0 ≤ j → j < len → lt 0 j = tx j) : ∀ (d : Nat) (p : Int), 0 ≤ p → p + d ≤ len → (∀ j, p ≤ j → j < p + d → tx j = 32) → ∀ k f rd, f_X4_faultOf_L48 N lt len k (f + d) p rd = f_X4_faultOf_L48 N lt len k f (p + d) rd := by
  intro d
  induction d with
  | zero => intro p _ _ _ k f rd; rw [show p + ((0 : Nat) : Int) = p by omega]; rfl
  | succ d ih =>
    intro p p0 p1 h k f rd
    have e := h p (Int.le_refl p) (by omega)
    rw [show f + (d + 1) = (f + d) + 1 by omega, f_X4_faultOf_L48, ck1_of (by omega) (by omega), ck1_of (by omega) (by omega), if_neg (by omega), if_neg (by omega), ckA_of p0 (by omega), ht p p0 (by omega), e, ck1_of (by omega) (by omega), if_pos rfl, ih (p + 1) (by omega) (by omega) (fun j j0 j1 => h j (by omega) (by omega)), show p + 1 + (d : Int) = p + ((d + 1 : Nat) : Int) by omega]
theorem step5 {N : Nat} {lt : Bd} {tx : Int → Int} {len : Int} (hl : len ≤ 120) (ht : ∀ j, 0 ≤ j → j < len → lt 0 j = tx j) (hb : ∀ j, 0 ≤ j → j < len → 0 ≤ tx j ∧ tx j ≤ 127) {p : Int} (p0 : 0 ≤ p) (p1 : p < len) (h : tx p ≠ 32) {rd rd' : Bd} {z : Int} (hz : z = 0 ∨ z = 1) (e : f_X4_takes N rd (tx p) p = some (z, rd')) (k : Bd → Option (Int × Bd)) (f : Nat) : f_X4_faultOf_L48 N lt len k (f + 1) p rd = if z ≠ 0 then f_X4_faultOf_L48 N lt len k f (p + 1) rd' else some (p, rd') := by
  have b := hb p p0 p1
  rw [f_X4_faultOf_L48, ck1_of (by omega) (by omega), ck1_of (by omega) (by omega), if_neg (by omega), if_neg (by omega), ckA_of p0 (by omega), ht p p0 p1, ck1_of (by omega) (by omega), if_neg h, e, bn_some, ck1_of (by omega) (by omega)]
theorem end5 {N : Nat} {lt : Bd} {len : Int} (hl : len ≤ 120) (l0 : 0 ≤ len) (k : Bd → Option (Int × Bd)) (f : Nat) (rd : Bd) : f_X4_faultOf_L48 N lt len k (f + 1) len rd = k rd := by
  rw [f_X4_faultOf_L48, ck1_of (by omega) (by omega), ck1_of (by omega) (by omega), if_pos (Int.le_refl _)]
