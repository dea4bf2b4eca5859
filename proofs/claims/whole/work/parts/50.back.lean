/-! Taking a version back -/
theorem bk46 {lt : Bd} {P : PL} (s0 : 0 ≤ lt 6 0) (s1 : lt 6 0 < 8) (hn : ∀ a, 0 ≤ a → a < 8 → lt 5 (8 * lt 6 0 + a) < (P.length : Int)) (k : Bd → Option (Int × Bd)) : ∀ (f : Nat) (x : Int) (l1 : Bd), 8 - x < f → 0 ≤ x → x ≤ 8 → (∀ s : Nat, s ≠ 3 → l1 s = lt s) → (∀ i, l1 3 i = if 0 ≤ i ∧ i < x then lt 5 (8 * lt 6 0 + i) else lt 3 i) → ∃ l', (∀ s : Nat, s ≠ 3 → l' s = lt s) ∧ (∀ i, l' 3 i = if 0 ≤ i ∧ i < 8 then lt 5 (8 * lt 6 0 + i) else lt 3 i) ∧ f_X5_back_L46 P k f x l1 = k l' := by
  intro f
  induction f with
  | zero => intro x l1 h0 _ h2; omega
  | succ f ih =>
    intro x l1 h0 h1 h2 hfr hd
    rw [f_X5_back_L46, ck1_of (by omega) (by omega)]
    by_cases hx : 8 ≤ x
    · rw [if_pos hx]
      exact ⟨l1, hfr, fun i => by rw [hd i, show x = 8 by omega], rfl⟩
    · rw [if_neg hx, hfr 6 (by decide), hfr 5 (by decide), show lt 6 0 * 8 + x = 8 * lt 6 0 + x by omega, ckA_of (by omega) (by omega), ckA_of h1 (by omega), ckN_of (hn x h1 (by omega))]
      refine ih (x + 1) _ (by omega) (by omega) (by omega) (fun s hs => by rw [bS_ne _ _ hs]; exact hfr s hs) (fun i => ?_)
      rw [bS_eq]
      by_cases hi : i = x
      · rw [hi, aS_eq, if_pos (by omega)]
      · rw [aS_ne _ _ hi, hd i]
        by_cases c : 0 ≤ i ∧ i < x
        · rw [if_pos c, if_pos (by omega)]
        · rw [if_neg c, if_neg (by omega)]
theorem bk26 {m : Bd} (n0 : 0 ≤ m 4 0) (n1 : m 4 0 < 8) (k : Bd → Option (Int × Bd)) : ∀ (f : Nat) (x : Int) (l1 : Bd), 320 - x < f → 0 ≤ x → x ≤ 320 → (∀ s : Nat, s ≠ 1 → l1 s = m s) → (∀ i, l1 1 i = if 0 ≤ i ∧ i < x then m 2 (320 * m 4 0 + i) else m 1 i) → ∃ l', (∀ s : Nat, s ≠ 1 → l' s = m s) ∧ (∀ i, l' 1 i = if 0 ≤ i ∧ i < 320 then m 2 (320 * m 4 0 + i) else m 1 i) ∧ f_X6_back_L26 k f x l1 = k l' := by
  intro f
  induction f with
  | zero => intro x l1 h0 _ h2; omega
  | succ f ih =>
    intro x l1 h0 h1 h2 hfr hd
    rw [f_X6_back_L26, ck1_of (by omega) (by omega)]
    by_cases hx : 320 ≤ x
    · rw [if_pos hx]
      exact ⟨l1, hfr, fun i => by rw [hd i, show x = 320 by omega], rfl⟩
    · rw [if_neg hx, hfr 4 (by decide), hfr 2 (by decide), ckA_of (by omega) (by omega), ckA_of h1 (by omega)]
      refine ih (x + 1) _ (by omega) (by omega) (by omega) (fun s hs => by rw [bS_ne _ _ hs]; exact hfr s hs) (fun i => ?_)
      rw [bS_eq]
      by_cases hi : i = x
      · rw [hi, aS_eq, if_pos (by omega)]
      · rw [aS_ne _ _ hi, hd i]
        by_cases c : 0 ≤ i ∧ i < x
        · rw [if_pos c, if_pos (by omega)]
        · rw [if_neg c, if_neg (by omega)]
theorem bk62 {m : Bd} (n0 : 0 ≤ m 4 0) (n1 : m 4 0 < 8) (k : Bd → Option (Int × Bd)) : ∀ (f : Nat) (x : Int) (l1 : Bd), 8 - x < f → 0 ≤ x → x ≤ 8 → (∀ s : Nat, s ≠ 0 → l1 s = m s) → (∀ i, l1 0 i = if 0 ≤ i ∧ i < x then m 3 (8 * m 4 0 + i) else m 0 i) → ∃ l', (∀ s : Nat, s ≠ 0 → l' s = m s) ∧ (∀ i, l' 0 i = if 0 ≤ i ∧ i < 8 then m 3 (8 * m 4 0 + i) else m 0 i) ∧ f_X6_back_L62 k f x l1 = k l' := by
  intro f
  induction f with
  | zero => intro x l1 h0 _ h2; omega
  | succ f ih =>
    intro x l1 h0 h1 h2 hfr hd
    rw [f_X6_back_L62, ck1_of (by omega) (by omega)]
    by_cases hx : 8 ≤ x
    · rw [if_pos hx]
      exact ⟨l1, hfr, fun i => by rw [hd i, show x = 8 by omega], rfl⟩
    · rw [if_neg hx, hfr 4 (by decide), hfr 3 (by decide), ckA_of (by omega) (by omega), ckA_of h1 (by omega)]
      refine ih (x + 1) _ (by omega) (by omega) (by omega) (fun s hs => by rw [bS_ne _ _ hs]; exact hfr s hs) (fun i => ?_)
      rw [bS_eq]
      by_cases hi : i = x
      · rw [hi, aS_eq, if_pos (by omega)]
      · rw [aS_ne _ _ hi, hd i]
        by_cases c : 0 ≤ i ∧ i < x
        · rw [if_pos c, if_pos (by omega)]
        · rw [if_neg c, if_neg (by omega)]
theorem back_step {N : Nat} (hN : 4000 ≤ N) {T : Int} {lt b m : Bd} {P : PL} (h : RR T lt b m P) : Step1 T b P (f_X5_back N lt P) (f_X6_back N m) := by
  obtain ⟨h1, h2, h3, hM, hV, hP, hB⟩ := id h
  obtain ⟨v1, v2, v3, v4, v5, v6⟩ := id hV
  unfold f_X5_back f_X6_back
  rw [v1, ck1_of (show -2147483648 ≤ m 4 0 by omega) (by omega)]
  by_cases c : m 4 0 = 0
  · rw [if_neg (show ¬ m 4 0 ≠ 0 by omega), ck1_of (by omega) (by omega), if_neg (by omega)]
    obtain ⟨lt', m', e1, e2, r⟩ := refNo h
    rw [e1, e2, bn_some, bn_some]
    exact ⟨-3, lt', m', rfl, rfl, by decide, r⟩
  · rw [if_pos c, ck1_of (show -2147483648 ≤ m 4 0 by omega) (by omega), if_pos c, jn_eq, ck1_of (by omega) (by omega)]
    have key : ∀ s : Int, s = (lt 6 0 + 7) % 8 → Step1 T b P (f_X5_back_L46 P (fun (lt_46 : Bd) => some (lt_46 7 0, lt_46)) N 0 (bs0 (bs0 lt 6 s) 7 (m 4 0 - 1))) (f_X6_back_L26 (fun (m_26 : Bd) => f_X6_back_L62 (fun (m_62 : Bd) => some (m_62 4 0, m_62)) N 0 m_26) N 0 (bs0 m 4 (m 4 0 - 1))) := by
      intro s hs
      generalize hl1 : bs0 (bs0 lt 6 s) 7 (m 4 0 - 1) = l1
      generalize hm1 : bs0 m 4 (m 4 0 - 1) = m1
      have l6 : l1 6 0 = s := by rw [← hl1, bs0_ne _ _ (by decide), bs0_eq]
      have l7 : l1 7 0 = m 4 0 - 1 := by rw [← hl1, bs0_eq]
      have lf : ∀ t : Nat, t ≠ 6 → t ≠ 7 → l1 t = lt t := fun t a b => by rw [← hl1, bs0_ne _ _ b, bs0_ne _ _ a]
      have m4 : m1 4 0 = m 4 0 - 1 := by rw [← hm1, bs0_eq]
      have mf : ∀ t : Nat, t ≠ 4 → m1 t = m t := fun t a => by rw [← hm1, bs0_ne _ _ a]
      have top : ∀ a, 0 ≤ a → a < 8 → SG P (lt 5 (8 * s + a)) (m 3 (8 * (m 4 0 - 1) + a)) (m 2) (320 * (m 4 0 - 1) + 40 * a) := fun a a0 a1 => by
        have q := v6 (m 4 0 - 1) a (by omega) (by omega) a0 a1
        rw [show (lt 6 0 + 8 - m 4 0 + (m 4 0 - 1)) % 8 = s by omega] at q
        exact q
      obtain ⟨l', a1, a2, a3⟩ := bk46 (lt := l1) (P := P) (by omega) (by omega) (fun a a0 a1 => by
        rw [l6, lf 5 (by decide) (by decide)]
        rcases top a a0 a1 with q | q <;> omega) (fun (lt_46 : Bd) => some (lt_46 7 0, lt_46)) N 0 l1 (by omega) (by omega) (by omega) (fun _ _ => rfl) (fun i => by rw [if_neg (by omega)])
      obtain ⟨m2, b1, b2, b3⟩ := bk26 (m := m1) (by omega) (by omega) (fun (m_26 : Bd) => f_X6_back_L62 (fun (m_62 : Bd) => some (m_62 4 0, m_62)) N 0 m_26) N 0 m1 (by omega) (by omega) (by omega) (fun _ _ => rfl) (fun i => by rw [if_neg (by omega)])
      have m24 : m2 4 0 = m 4 0 - 1 := by rw [b1 4 (by decide)]; exact m4
      obtain ⟨m', c1, c2, c3⟩ := bk62 (m := m2) (by omega) (by omega) (fun (m_62 : Bd) => some (m_62 4 0, m_62)) N 0 m2 (by omega) (by omega) (by omega) (fun _ _ => rfl) (fun i => by rw [if_neg (by omega)])
      rw [a3, b3, c3]
      have m'4 : m' 4 0 = m 4 0 - 1 := by rw [c1 4 (by decide)]; exact m24
      have l'7 : l' 7 0 = m 4 0 - 1 := by rw [a1 7 (by decide)]; exact l7
      have l'6 : l' 6 0 = s := by rw [a1 6 (by decide)]; exact l6
      have L : ∀ t : Nat, t ≠ 3 → t ≠ 6 → t ≠ 7 → l' t = lt t := fun t x y z => by rw [a1 t x, lf t y z]
      have M : ∀ t : Nat, t ≠ 0 → t ≠ 1 → t ≠ 4 → m' t = m t := fun t x y z => by rw [c1 t x, b1 t y, mf t z]
      refine ⟨m 4 0 - 1, l', m', by rw [l'7], by rw [m'4], ⟨by omega, by omega⟩, ?_, ?_, ?_, ?_, ?_, hP, hB⟩
      · unfold RText; rw [L 0 (by decide) (by decide) (by decide), L 1 (by decide) (by decide) (by decide), M 7 (by decide) (by decide) (by decide), M 8 (by decide) (by decide) (by decide)]; exact h1
      · unfold RKind; rw [L 2 (by decide) (by decide) (by decide), M 6 (by decide) (by decide) (by decide)]; exact h2
      · unfold RCnt; rw [L 8 (by decide) (by decide) (by decide), L 9 (by decide) (by decide) (by decide), L 10 (by decide) (by decide) (by decide), M 5 (by decide) (by decide) (by decide)]; exact h.up.2.2.1
      · intro a a0 a8
        refine (top a a0 a8).cong ?_ ?_ (fun v v0 v1 => ?_) hP
        · rw [a2, if_pos ⟨a0, a8⟩, l6, lf 5 (by decide) (by decide)]
        · rw [c2, if_pos ⟨a0, a8⟩, b1 3 (by decide), mf 3 (by decide), m24]
        · rw [c1 1 (by decide), b2, if_pos (by omega), mf 2 (by decide), m4, show 320 * (m 4 0 - 1) + (40 * a + v) = 320 * (m 4 0 - 1) + 40 * a + v by omega]
      · refine ⟨by omega, by omega, by omega, by omega, by omega, fun j a j0 j1 a0 a8 => ?_⟩
        refine (v6 j a j0 (by omega) a0 a8).cong ?_ ?_ (fun v v0 v1 => ?_) hP
        · rw [L 5 (by decide) (by decide) (by decide), l'6, m'4, show (s + 8 - (m 4 0 - 1) + j) % 8 = (lt 6 0 + 8 - m 4 0 + j) % 8 by omega]
        · rw [M 3 (by decide) (by decide) (by decide)]
        · rw [M 2 (by decide) (by decide) (by decide)]
    by_cases d : lt 6 0 = 0
    · rw [if_neg (by omega)]
      exact key 7 (by omega)
    · rw [if_pos d]
      exact key _ (by omega)
