/-! Keeping a version -/
theorem kv_loop {lt : Bd} {P : PL} (s0 : 0 ≤ lt 6 0) (s1 : lt 6 0 < 8) (hn : ∀ a, 0 ≤ a → a < 8 → lt 3 a = -1 ∨ (0 ≤ lt 3 a ∧ lt 3 a < (P.length : Int))) (k : Bd → Option Bd) : ∀ (f : Nat) (x : Int) (l1 : Bd), 8 - x < f → 0 ≤ x → x ≤ 8 → (∀ s : Nat, s ≠ 5 → l1 s = lt s) → (∀ i, l1 5 i = if 8 * lt 6 0 ≤ i ∧ i < 8 * lt 6 0 + x then lt 3 (i - 8 * lt 6 0) else lt 5 i) → ∃ l', (∀ s : Nat, s ≠ 5 → l' s = lt s) ∧ (∀ i, l' 5 i = if 8 * lt 6 0 ≤ i ∧ i < 8 * lt 6 0 + 8 then lt 3 (i - 8 * lt 6 0) else lt 5 i) ∧ f_X5_keepVersion_L2 P k f x l1 = k l' := by
  intro f
  induction f with
  | zero => intro x l1 h0 _ h2; omega
  | succ f ih =>
    intro x l1 h0 h1 h2 hfr hd
    rw [f_X5_keepVersion_L2, ck1_of (by omega) (by omega)]
    by_cases hx : 8 ≤ x
    · rw [if_pos hx]
      exact ⟨l1, hfr, fun i => by rw [hd i, show x = 8 by omega], rfl⟩
    · rw [if_neg hx, hfr 6 (by decide), hfr 3 (by decide), ckA_of h1 (by omega), ckA_of (by omega) (by omega), ckN_of (by have := hn x h1 (by omega); omega)]
      refine ih (x + 1) _ (by omega) (by omega) (by omega) (fun s hs => by rw [bS_ne _ _ hs]; exact hfr s hs) (fun i => ?_)
      rw [bS_eq]
      by_cases hi : i = lt 6 0 * 8 + x
      · rw [hi, aS_eq, if_pos (by omega), show lt 6 0 * 8 + x - 8 * lt 6 0 = x by omega]
      · rw [aS_ne _ _ hi, hd i]
        by_cases c : 8 * lt 6 0 ≤ i ∧ i < 8 * lt 6 0 + x
        · rw [if_pos c, if_pos (by omega)]
        · rw [if_neg c, if_neg (by omega)]
theorem kv_of {N : Nat} (hN : 4000 ≤ N) {lt m : Bd} {P : PL} (hV : RVer lt m P) (hM : RName lt m P) : ∃ l', f_X5_keepVersion N lt P = some l' ∧ (∀ s : Nat, s ≠ 5 → s ≠ 6 → s ≠ 7 → l' s = lt s) ∧ (∀ i, l' 5 i = if 8 * lt 6 0 ≤ i ∧ i < 8 * lt 6 0 + 8 then lt 3 (i - 8 * lt 6 0) else lt 5 i) ∧ l' 6 0 = (lt 6 0 + 1) % 8 ∧ l' 7 0 = min 8 (lt 7 0 + 1) := by
  obtain ⟨v1, v2, v3, v4, v5, _⟩ := hV
  unfold f_X5_keepVersion
  have key : ∀ (l1 : Bd) (s : Int), (∀ s : Nat, s ≠ 5 → l1 s = lt s) → (∀ i, l1 5 i = if 8 * lt 6 0 ≤ i ∧ i < 8 * lt 6 0 + 8 then lt 3 (i - 8 * lt 6 0) else lt 5 i) → s = (lt 6 0 + 1) % 8 → ∃ l', some (bs0 (bs0 l1 6 s) 7 (min 8 (l1 7 0 + 1))) = some l' ∧ (∀ s : Nat, s ≠ 5 → s ≠ 6 → s ≠ 7 → l' s = lt s) ∧ (∀ i, l' 5 i = if 8 * lt 6 0 ≤ i ∧ i < 8 * lt 6 0 + 8 then lt 3 (i - 8 * lt 6 0) else lt 5 i) ∧ l' 6 0 = (lt 6 0 + 1) % 8 ∧ l' 7 0 = min 8 (lt 7 0 + 1) := by
    intro l1 s hfr hd hs
    refine ⟨_, rfl, fun s a b c => by rw [bs0_ne _ _ c, bs0_ne _ _ b]; exact hfr s a, fun i => by rw [bs0_ne _ _ (by decide), bs0_ne _ _ (by decide)]; exact hd i, by rw [bs0_ne _ _ (by decide), bs0_eq]; exact hs, by rw [bs0_eq, hfr 7 (by decide)]⟩
  obtain ⟨l1, a, b, e⟩ := kv_loop v4 v5 (fun x x0 x1 => by rcases hM x x0 x1 with q | q; exact Or.inl q.1; exact Or.inr ⟨q.1, q.2.1⟩) (fun (lt_2 : Bd) =>
      jn (fun (s1_56 : Int) =>
          ck1 ((lt_2 7 0) + 1) <|
          some ((bs0 (bs0 lt_2 6 s1_56) 7 (min 8 ((lt_2 7 0) + 1))))) fun j56 =>
      ck1 ((lt_2 6 0) + 1) <|
      if ((lt_2 6 0) + 1) ≠ 8 then
        j56 ((lt_2 6 0) + 1)
      else
        j56 0) N 0 lt (by omega) (by omega) (by omega) (fun _ _ => rfl) (fun i => by rw [if_neg (by omega)])
  rw [e]
  try dsimp only
  have a7 : l1 7 0 = lt 7 0 := by rw [a 7 (by decide)]
  rw [jn_eq, a 6 (by decide), ck1_of (by omega) (by omega)]
  by_cases c : lt 6 0 + 1 = 8
  · rw [if_neg (by omega)]
    dsimp only
    rw [ck1_of (show -2147483648 ≤ l1 7 0 + 1 by omega) (by omega)]
    exact key l1 0 a b (by omega)
  · rw [if_pos c]
    dsimp only
    rw [ck1_of (show -2147483648 ≤ l1 7 0 + 1 by omega) (by omega)]
    exact key l1 _ a b (by omega)
theorem k81 {m : Bd} (n0 : 0 ≤ m 4 0) (n1 : m 4 0 < 8) (k : Bd → Option Bd) : ∀ (f : Nat) (x : Int) (l1 : Bd), 320 - x < f → 0 ≤ x → x ≤ 320 → (∀ s : Nat, s ≠ 2 → l1 s = m s) → (∀ i, l1 2 i = if 320 * m 4 0 ≤ i ∧ i < 320 * m 4 0 + x then m 1 (i - 320 * m 4 0) else m 2 i) → ∃ l', (∀ s : Nat, s ≠ 2 → l' s = m s) ∧ (∀ i, l' 2 i = if 320 * m 4 0 ≤ i ∧ i < 320 * m 4 0 + 320 then m 1 (i - 320 * m 4 0) else m 2 i) ∧ f_X6_keeps_L81 k f x l1 = k l' := by
  intro f
  induction f with
  | zero => intro x l1 h0 _ h2; omega
  | succ f ih =>
    intro x l1 h0 h1 h2 hfr hd
    rw [f_X6_keeps_L81, ck1_of (by omega) (by omega)]
    by_cases hx : 320 ≤ x
    · rw [if_pos hx]
      exact ⟨l1, hfr, fun i => by rw [hd i, show x = 320 by omega], rfl⟩
    · rw [if_neg hx, hfr 4 (by decide), hfr 1 (by decide), ckA_of h1 (by omega), ckA_of (by omega) (by omega)]
      refine ih (x + 1) _ (by omega) (by omega) (by omega) (fun s hs => by rw [bS_ne _ _ hs]; exact hfr s hs) (fun i => ?_)
      rw [bS_eq]
      by_cases hi : i = 320 * m 4 0 + x
      · rw [hi, aS_eq, if_pos (by omega), show 320 * m 4 0 + x - 320 * m 4 0 = x by omega]
      · rw [aS_ne _ _ hi, hd i]
        by_cases c : 320 * m 4 0 ≤ i ∧ i < 320 * m 4 0 + x
        · rw [if_pos c, if_pos (by omega)]
        · rw [if_neg c, if_neg (by omega)]
theorem k117 {m : Bd} (n0 : 0 ≤ m 4 0) (n1 : m 4 0 < 8) (k : Bd → Option Bd) : ∀ (f : Nat) (x : Int) (l1 : Bd), 8 - x < f → 0 ≤ x → x ≤ 8 → (∀ s : Nat, s ≠ 3 → l1 s = m s) → (∀ i, l1 3 i = if 8 * m 4 0 ≤ i ∧ i < 8 * m 4 0 + x then m 0 (i - 8 * m 4 0) else m 3 i) → ∃ l', (∀ s : Nat, s ≠ 3 → l' s = m s) ∧ (∀ i, l' 3 i = if 8 * m 4 0 ≤ i ∧ i < 8 * m 4 0 + 8 then m 0 (i - 8 * m 4 0) else m 3 i) ∧ f_X6_keeps_L117 k f x l1 = k l' := by
  intro f
  induction f with
  | zero => intro x l1 h0 _ h2; omega
  | succ f ih =>
    intro x l1 h0 h1 h2 hfr hd
    rw [f_X6_keeps_L117, ck1_of (by omega) (by omega)]
    by_cases hx : 8 ≤ x
    · rw [if_pos hx]
      exact ⟨l1, hfr, fun i => by rw [hd i, show x = 8 by omega], rfl⟩
    · rw [if_neg hx, hfr 4 (by decide), hfr 0 (by decide), ckA_of h1 (by omega), ckA_of (by omega) (by omega)]
      refine ih (x + 1) _ (by omega) (by omega) (by omega) (fun s hs => by rw [bS_ne _ _ hs]; exact hfr s hs) (fun i => ?_)
      rw [bS_eq]
      by_cases hi : i = 8 * m 4 0 + x
      · rw [hi, aS_eq, if_pos (by omega), show 8 * m 4 0 + x - 8 * m 4 0 = x by omega]
      · rw [aS_ne _ _ hi, hd i]
        by_cases c : 8 * m 4 0 ≤ i ∧ i < 8 * m 4 0 + x
        · rw [if_pos c, if_pos (by omega)]
        · rw [if_neg c, if_neg (by omega)]
theorem k11 {m : Bd} (k : Bd → Option Bd) : ∀ (f : Nat) (x : Int) (l1 : Bd), 2240 - x < f → 0 ≤ x → x ≤ 2240 → (∀ s : Nat, s ≠ 2 → l1 s = m s) → (∀ i, l1 2 i = if 0 ≤ i ∧ i < x then m 2 (i + 320) else m 2 i) → ∃ l', (∀ s : Nat, s ≠ 2 → l' s = m s) ∧ (∀ i, l' 2 i = if 0 ≤ i ∧ i < 2240 then m 2 (i + 320) else m 2 i) ∧ f_X6_keeps_L11 k f x l1 = k l' := by
  intro f
  induction f with
  | zero => intro x l1 h0 _ h2; omega
  | succ f ih =>
    intro x l1 h0 h1 h2 hfr hd
    rw [f_X6_keeps_L11, ck1_of (by omega) (by omega)]
    by_cases hx : 2240 ≤ x
    · rw [if_pos hx]
      exact ⟨l1, hfr, fun i => by rw [hd i, show x = 2240 by omega], rfl⟩
    · rw [if_neg hx, ckA_of (by omega) (by omega), ckA_of h1 (by omega)]
      refine ih (x + 1) _ (by omega) (by omega) (by omega) (fun s hs => by rw [bS_ne _ _ hs]; exact hfr s hs) (fun i => ?_)
      rw [bS_eq]
      by_cases hi : i = x
      · rw [hi, aS_eq, if_pos (by omega), hd (x + 320), if_neg (by omega)]
      · rw [aS_ne _ _ hi, hd i]
        by_cases c : 0 ≤ i ∧ i < x
        · rw [if_pos c, if_pos (by omega)]
        · rw [if_neg c, if_neg (by omega)]
theorem k42 {m : Bd} (k : Bd → Option Bd) : ∀ (f : Nat) (x : Int) (l1 : Bd), 56 - x < f → 0 ≤ x → x ≤ 56 → (∀ s : Nat, s ≠ 3 → l1 s = m s) → (∀ i, l1 3 i = if 0 ≤ i ∧ i < x then m 3 (i + 8) else m 3 i) → ∃ l', (∀ s : Nat, s ≠ 3 → l' s = m s) ∧ (∀ i, l' 3 i = if 0 ≤ i ∧ i < 56 then m 3 (i + 8) else m 3 i) ∧ f_X6_keeps_L42 k f x l1 = k l' := by
  intro f
  induction f with
  | zero => intro x l1 h0 _ h2; omega
  | succ f ih =>
    intro x l1 h0 h1 h2 hfr hd
    rw [f_X6_keeps_L42, ck1_of (by omega) (by omega)]
    by_cases hx : 56 ≤ x
    · rw [if_pos hx]
      exact ⟨l1, hfr, fun i => by rw [hd i, show x = 56 by omega], rfl⟩
    · rw [if_neg hx, ckA_of (by omega) (by omega), ckA_of h1 (by omega)]
      refine ih (x + 1) _ (by omega) (by omega) (by omega) (fun s hs => by rw [bS_ne _ _ hs]; exact hfr s hs) (fun i => ?_)
      rw [bS_eq]
      by_cases hi : i = x
      · rw [hi, aS_eq, if_pos (by omega), hd (x + 8), if_neg (by omega)]
      · rw [aS_ne _ _ hi, hd i]
        by_cases c : 0 ≤ i ∧ i < x
        · rw [if_pos c, if_pos (by omega)]
        · rw [if_neg c, if_neg (by omega)]
/-- keeps behind the shift -/
theorem keeps_tail {N : Nat} (hN : 4000 ≤ N) {m : Bd} (n0 : 0 ≤ m 4 0) (n1 : m 4 0 < 8) : ∃ m', (f_X6_keeps_L81 (fun (m_81 : Bd) => f_X6_keeps_L117 (fun (m_117 : Bd) => some ((bs0 m_117 4 ((m_117 4 0) + 1)))) N 0 m_81) N 0 m) = some m' ∧ (∀ s : Nat, s ≠ 2 → s ≠ 3 → s ≠ 4 → m' s = m s) ∧ m' 4 0 = m 4 0 + 1 ∧ (∀ i, m' 2 i = if 320 * m 4 0 ≤ i ∧ i < 320 * m 4 0 + 320 then m 1 (i - 320 * m 4 0) else m 2 i) ∧ (∀ i, m' 3 i = if 8 * m 4 0 ≤ i ∧ i < 8 * m 4 0 + 8 then m 0 (i - 8 * m 4 0) else m 3 i) := by
  obtain ⟨m1, a1, b1, e1⟩ := k81 n0 n1 (fun (m_81 : Bd) => f_X6_keeps_L117 (fun (m_117 : Bd) => some ((bs0 m_117 4 ((m_117 4 0) + 1)))) N 0 m_81) N 0 m (by omega) (by omega) (by omega) (fun _ _ => rfl) (fun i => by rw [if_neg (by omega)])
  have q4 := a1 4 (by decide)
  obtain ⟨m2, a2, b2, e2⟩ := k117 (m := m1) (by rw [q4]; exact n0) (by rw [q4]; exact n1) (fun (m_117 : Bd) => some ((bs0 m_117 4 ((m_117 4 0) + 1)))) N 0 m1 (by omega) (by omega) (by omega) (fun _ _ => rfl) (fun i => by rw [if_neg (by omega)])
  rw [q4, a1 0 (by decide), a1 3 (by decide)] at b2
  rw [e1, e2]
  refine ⟨_, rfl, fun s s2 s3 s4 => by rw [bs0_ne _ _ s4, a2 s s3, a1 s s2], by rw [bs0_eq, a2 4 (by decide), q4], fun i => by rw [bs0_ne _ _ (by decide), a2 2 (by decide)]; exact b1 i, fun i => by rw [bs0_ne _ _ (by decide)]; exact b2 i⟩
theorem SG.cong {P : PL} {h sz h' sz' o o' : Int} {T T' : Int → Int} (q : SG P h sz T o) (e1 : h' = h) (e2 : sz' = sz) (e3 : ∀ v, 0 ≤ v → v < 40 → T' (o' + v) = T (o + v)) (hP : POK P) : SG P h' sz' T' o' := by
  have r := q.rng hP
  rw [e1, e2]
  rcases q with a | ⟨a, b, c, d⟩
  · exact Or.inl a
  · exact Or.inr ⟨a, b, c, fun v v0 v1 => by rw [e3 v v0 (by omega)]; exact d v v0 v1⟩
/-- both keep the version: the ring and the shifting list agree -/
theorem keep_of {N : Nat} (hN : 4000 ≤ N) {lt m : Bd} {P : PL} (hP : POK P) (hV : RVer lt m P) (hM : RName lt m P) : ∃ l' m', f_X5_keepVersion N lt P = some l' ∧ f_X6_keeps N m = some m' ∧ (∀ s : Nat, s ≠ 5 → s ≠ 6 → s ≠ 7 → l' s = lt s) ∧ (∀ s : Nat, s ≠ 2 → s ≠ 3 → s ≠ 4 → m' s = m s) ∧ RVer l' m' P := by
  obtain ⟨l', e, f1, f2, f3, f4⟩ := kv_of hN hV hM
  obtain ⟨v1, v2, v3, v4, v5, v6⟩ := id hV
  have fin : ∀ (mm m' : Bd), (mm 4 0 = m 4 0 ∨ (m 4 0 = 8 ∧ mm 4 0 = 7)) → mm 4 0 < 8 → m' 4 0 = mm 4 0 + 1 → (∀ i, 0 ≤ i → i < 2560 → m' 2 i = if 320 * mm 4 0 ≤ i ∧ i < 320 * mm 4 0 + 320 then m 1 (i - 320 * mm 4 0) else if m 4 0 = 8 then m 2 (i + 320) else m 2 i) → (∀ i, 0 ≤ i → i < 64 → m' 3 i = if 8 * mm 4 0 ≤ i ∧ i < 8 * mm 4 0 + 8 then m 0 (i - 8 * mm 4 0) else if m 4 0 = 8 then m 3 (i + 8) else m 3 i) → RVer l' m' P := by
    intro mm m' c1 c2 c3 c4 c5
    have d7 : l' 7 0 = m' 4 0 := by rw [f4, c3, v1]; omega
    have d6 : 0 ≤ l' 6 0 ∧ l' 6 0 < 8 := by rw [f3]; omega
    refine ⟨d7, by omega, by omega, d6.1, d6.2, fun j a j0 j1 a0 a1 => ?_⟩
    by_cases hj : j = mm 4 0
    · have ei : (l' 6 0 + 8 - m' 4 0 + j) % 8 = lt 6 0 := by rw [f3, c3]; omega
      rw [ei]
      refine (hM a a0 a1).cong ?_ ?_ (fun v v0 v1 => ?_) hP
      · rw [f2, if_pos (by omega), show 8 * lt 6 0 + a - 8 * lt 6 0 = a by omega]
      · rw [c5 _ (by omega) (by omega), hj, if_pos (by omega), show 8 * mm 4 0 + a - 8 * mm 4 0 = a by omega]
      · rw [c4 _ (by omega) (by omega), hj, if_pos (by omega), show 320 * mm 4 0 + 40 * a + v - 320 * mm 4 0 = 40 * a + v by omega]
    · have ne : (l' 6 0 + 8 - m' 4 0 + j) % 8 ≠ lt 6 0 := by rw [f3, c3]; omega
      have lo : 0 ≤ (l' 6 0 + 8 - m' 4 0 + j) % 8 ∧ (l' 6 0 + 8 - m' 4 0 + j) % 8 < 8 := by omega
      rcases c1 with c1 | ⟨c1, c1'⟩
      · have ei : (l' 6 0 + 8 - m' 4 0 + j) % 8 = (lt 6 0 + 8 - m 4 0 + j) % 8 := by rw [f3, c3]; omega
        refine (v6 j a j0 (by omega) a0 a1).cong ?_ ?_ (fun v v0 v1 => ?_) hP
        · rw [f2, if_neg (by omega), ei]
        · rw [c5 _ (by omega) (by omega), if_neg (by omega), if_neg (by omega)]
        · rw [c4 _ (by omega) (by omega), if_neg (by omega), if_neg (by omega)]
      · have ei : (l' 6 0 + 8 - m' 4 0 + j) % 8 = (lt 6 0 + 8 - m 4 0 + (j + 1)) % 8 := by rw [f3, c3]; omega
        refine (v6 (j + 1) a (by omega) (by omega) a0 a1).cong ?_ ?_ (fun v v0 v1 => ?_) hP
        · rw [f2, if_neg (by omega), ei]
        · rw [c5 _ (by omega) (by omega), if_neg (by omega), if_pos c1, show 8 * j + a + 8 = 8 * (j + 1) + a by omega]
        · rw [c4 _ (by omega) (by omega), if_neg (by omega), if_pos c1, show 320 * j + 40 * a + v + 320 = 320 * (j + 1) + 40 * a + v by omega]
  unfold f_X6_keeps
  rw [jn_eq, ck1_of (by omega) (by omega)]
  by_cases c : m 4 0 = 8
  · rw [if_neg (by omega)]
    obtain ⟨m1, a1, b1, e1⟩ := k11 (m := m) (fun (m_11 : Bd) => f_X6_keeps_L42 (fun (m_42 : Bd) => f_X6_keeps_L81 (fun (m_81 : Bd) => f_X6_keeps_L117 (fun (m_117 : Bd) => some ((bs0 m_117 4 ((m_117 4 0) + 1)))) N 0 m_81) N 0 (bs0 m_42 4 ((m_42 4 0) - 1))) N 0 m_11) N 0 m (by omega) (by omega) (by omega) (fun _ _ => rfl) (fun i => by rw [if_neg (by omega)])
    obtain ⟨m2, a2, b2, e2⟩ := k42 (m := m1) (fun (m_42 : Bd) => f_X6_keeps_L81 (fun (m_81 : Bd) => f_X6_keeps_L117 (fun (m_117 : Bd) => some ((bs0 m_117 4 ((m_117 4 0) + 1)))) N 0 m_81) N 0 (bs0 m_42 4 ((m_42 4 0) - 1))) N 0 m1 (by omega) (by omega) (by omega) (fun _ _ => rfl) (fun i => by rw [if_neg (by omega)])
    have q4 : m2 4 0 = 8 := by rw [a2 4 (by decide), a1 4 (by decide)]; exact c
    generalize hm3 : bs0 m2 4 (m2 4 0 - 1) = m3
    have w4 : m3 4 0 = 7 := by rw [← hm3, bs0_eq]; omega
    have w : ∀ s : Nat, s ≠ 4 → m3 s = m2 s := fun s hs => by rw [← hm3, bs0_ne _ _ hs]
    obtain ⟨m4, e4, a4, n4, b4, b5⟩ := keeps_tail hN (m := m3) (by omega) (by omega)
    refine ⟨l', m4, e, ?_, f1, fun s s2 s3 s4 => by rw [a4 s s2 s3 s4, w s s4, a2 s s3, a1 s s2], fin m3 m4 (Or.inr ⟨c, w4⟩) (by omega) n4 (fun i i0 i1 => ?_) (fun i i0 i1 => ?_)⟩
    · rw [e1, e2, hm3]; exact e4
    · rw [b4 i, w 1 (by decide), a2 1 (by decide), a1 1 (by decide), if_pos c, w 2 (by decide), a2 2 (by decide), b1 i]
      by_cases d : 320 * m3 4 0 ≤ i ∧ i < 320 * m3 4 0 + 320
      · rw [if_pos d, if_pos d]
      · rw [if_neg d, if_neg d, if_pos (by omega)]
    · rw [b5 i, w 0 (by decide), a2 0 (by decide), a1 0 (by decide), if_pos c, w 3 (by decide), b2 i, a1 3 (by decide)]
      by_cases d : 8 * m3 4 0 ≤ i ∧ i < 8 * m3 4 0 + 8
      · rw [if_pos d, if_pos d]
      · rw [if_neg d, if_neg d, if_pos (by omega)]
  · rw [if_pos c]
    obtain ⟨m4, e4, a4, n4, b4, b5⟩ := keeps_tail hN (m := m) (by omega) (by omega)
    exact ⟨l', m4, e, e4, f1, a4, fin m m4 (Or.inl rfl) (by omega) n4 (fun i _ _ => by rw [b4 i, if_neg c]) (fun i _ _ => by rw [b5 i, if_neg c])⟩
