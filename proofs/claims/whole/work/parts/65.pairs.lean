/-! Pairs of nodes, numbered on both sides -/
def nu (s t a x y : Int) : Int := (a * s + x) * t + y
def en (s t a x y : Int) : Int := if a = 0 then (s + t) * x + (s + y) else (s + t) * (s + y) + x
def IN (s t a x y : Int) : Prop := (a = 0 ∨ a = 1) ∧ 0 ≤ x ∧ x < s ∧ 0 ≤ y ∧ y < t
theorem divmod {q d y : Int} (q0 : 0 ≤ q) (y0 : 0 ≤ y) (y1 : y < d) : Int.tdiv (q * d + y) d = q ∧ Int.tmod (q * d + y) d = y := by
  have h0 : 0 ≤ q * d := Int.mul_nonneg q0 (by omega)
  have e : q * d + y = y + q * d := Int.add_comm _ _
  rw [Int.tdiv_eq_ediv_of_nonneg (by omega), Int.tmod_eq_emod_of_nonneg (by omega), e, Int.add_mul_ediv_right _ _ (by omega), Int.add_mul_emod_self_right, Int.ediv_eq_zero_of_lt y0 y1, Int.emod_eq_of_lt y0 y1]
  exact ⟨by omega, rfl⟩
theorem nu_of {s t a x y : Int} (hs : s ≤ 40) (ht : t ≤ 40) (h : IN s t a x y) : 0 ≤ nu s t a x y ∧ nu s t a x y < 2 * s * t ∧ nu s t a x y < 3200 ∧ Int.tdiv (nu s t a x y) t = a * s + x ∧ Int.tmod (nu s t a x y) t = y ∧ (nu s t a x y < s * t ↔ a = 0) := by
  obtain ⟨ha, x0, x1, y0, y1⟩ := h
  have st : s * t ≤ 40 * 40 := Int.mul_le_mul hs ht (by omega) (by omega)
  have st2 : 2 * s * t = s * t + s * t := by rw [show 2 * s = s + s by omega, Int.add_mul]
  have u : (x + 1) * t ≤ s * t := Int.mul_le_mul_of_nonneg_right (by omega) (by omega)
  have u2 : (x + 1) * t = x * t + t := by rw [Int.add_mul, Int.one_mul]
  have u3 : 0 ≤ x * t := Int.mul_nonneg x0 (by omega)
  unfold nu
  rcases ha with rfl | rfl
  · rw [show (0 : Int) * s + x = x by omega]
    have d := divmod (q := x) (d := t) x0 y0 y1
    exact ⟨by omega, by omega, by omega, by rw [d.1], d.2, ⟨fun _ => rfl, fun _ => by omega⟩⟩
  · rw [show (1 : Int) * s + x = s + x by omega]
    have d := divmod (q := s + x) (d := t) (by omega) y0 y1
    have e : (s + x) * t = s * t + x * t := Int.add_mul _ _ _
    exact ⟨by omega, by omega, by omega, by rw [d.1], d.2, ⟨fun h => by omega, fun h => by omega⟩⟩
theorem nu_inj {s t a x y a' x' y' : Int} (hs : s ≤ 40) (ht : t ≤ 40) (h : IN s t a x y) (h' : IN s t a' x' y') (e : nu s t a x y = nu s t a' x' y') : a = a' ∧ x = x' ∧ y = y' := by
  have q := nu_of hs ht h
  have q' := nu_of hs ht h'
  rw [e] at q
  have e1 : a * s + x = a' * s + x' := q.2.2.2.1.symm.trans q'.2.2.2.1
  have e2 : y = y' := q.2.2.2.2.1.symm.trans q'.2.2.2.2.1
  have e3 : a = 0 ↔ a' = 0 := q.2.2.2.2.2.symm.trans q'.2.2.2.2.2
  obtain ⟨ha, x0, x1, -, -⟩ := h
  obtain ⟨ha', x0', x1', -, -⟩ := h'
  rcases ha with rfl | rfl <;> rcases ha' with rfl | rfl
  · exact ⟨rfl, by omega, e2⟩
  · exact absurd (e3.mp rfl) (by decide)
  · exact absurd (e3.mpr rfl) (by decide)
  · exact ⟨rfl, by omega, e2⟩
theorem en_of {s t a x y : Int} (hs : s ≤ 40) (ht : t ≤ 40) (h : IN s t a x y) : 0 ≤ en s t a x y ∧ en s t a x y < 6400 ∧ Int.tdiv (en s t a x y) (s + t) = (if a = 0 then x else s + y) ∧ Int.tmod (en s t a x y) (s + t) = (if a = 0 then s + y else x) := by
  obtain ⟨ha, x0, x1, y0, y1⟩ := h
  unfold en
  rcases ha with rfl | rfl
  · rw [if_pos rfl, if_pos rfl, if_pos rfl]
    have d := divmod (q := x) (d := s + t) (y := s + y) x0 (by omega) (by omega)
    have u : (x + 1) * (s + t) ≤ 40 * 80 := Int.mul_le_mul (by omega) (by omega) (by omega) (by omega)
    have u2 : (x + 1) * (s + t) = x * (s + t) + (s + t) := by rw [Int.add_mul, Int.one_mul]
    have u3 : 0 ≤ x * (s + t) := Int.mul_nonneg x0 (by omega)
    rw [Int.mul_comm (s + t) x]
    exact ⟨by omega, by omega, d.1, d.2⟩
  · rw [if_neg (by decide), if_neg (by decide), if_neg (by decide)]
    have d := divmod (q := s + y) (d := s + t) (y := x) (by omega) x0 (by omega)
    have u : (s + y + 1) * (s + t) ≤ 80 * 80 := Int.mul_le_mul (by omega) (by omega) (by omega) (by omega)
    have u2 : (s + y + 1) * (s + t) = (s + y) * (s + t) + (s + t) := by rw [Int.add_mul, Int.one_mul]
    have u3 : 0 ≤ (s + y) * (s + t) := Int.mul_nonneg (by omega) (by omega)
    rw [Int.mul_comm (s + t) (s + y)]
    exact ⟨by omega, by omega, d.1, d.2⟩
theorem en_inj {s t a x y a' x' y' : Int} (hs : s ≤ 40) (ht : t ≤ 40) (h : IN s t a x y) (h' : IN s t a' x' y') (e : en s t a x y = en s t a' x' y') : a = a' ∧ x = x' ∧ y = y' := by
  have q := en_of hs ht h
  have q' := en_of hs ht h'
  rw [e] at q
  have e1 := q.2.2.1.symm.trans q'.2.2.1
  have e2 := q.2.2.2.symm.trans q'.2.2.2
  obtain ⟨ha, x0, x1, y0, y1⟩ := h
  obtain ⟨ha', x0', x1', y0', y1'⟩ := h'
  rcases ha with rfl | rfl <;> rcases ha' with rfl | rfl
  · rw [if_pos rfl, if_pos rfl] at e1 e2; omega
  · rw [if_pos rfl, if_neg (by decide)] at e1 e2; omega
  · rw [if_neg (by decide), if_pos rfl] at e1 e2; omega
  · rw [if_neg (by decide), if_neg (by decide)] at e1 e2; omega
section CK
variable {P : PL} {c : Bd} {hx hy : Int}
/-- both graphs of the walk -/
def CG (P : PL) (c : Bd) (hx hy : Int) : Prop := c 0 0 = hx ∧ c 1 0 = hy ∧ 0 ≤ hx ∧ hx < (P.length : Int) ∧ 0 ≤ hy ∧ hy < (P.length : Int) ∧ GOK (gP P hx) ∧ GOK (gP P hy)
theorem CG.cong {c' : Bd} (h : CG P c hx hy) (e0 : c' 0 = c 0) (e1 : c' 1 = c 1) : CG P c' hx hy := by
  unfold CG
  rw [e0, e1]
  exact h
theorem numberOf_of (h : CG P c hx hy) {a x y : Int} (ha : a = 0 ∨ a = 1) : f_X1_numberOf c P x y a = some (nu (gP P hx).1 (gP P hy).1 a x y) := by
  obtain ⟨h0, h1, x0, x1, y0, y1, gx, gy⟩ := h
  unfold f_X1_numberOf nu
  rcases ha with rfl | rfl
  · simp (disch := omega) only [↓jn_eq, ↓ck1_of, ↓if_pos, ↓ckG_of, h1, Int.zero_mul]
  · simp (disch := omega) only [↓jn_eq, ↓ck1_of, ↓if_neg, ↓ckG_of, h0, h1, Int.one_mul]
theorem isAbout_of (h : CG P c hx hy) {a x y : Int} (hi : IN (gP P hx).1 (gP P hy).1 a x y) : f_X1_isAbout c P (nu (gP P hx).1 (gP P hy).1 a x y) = some a := by
  obtain ⟨h0, h1, x0, x1, y0, y1, gx, gy⟩ := h
  have q := nu_of gx.2 gy.2 hi
  have st : (gP P hx).1 * (gP P hy).1 ≤ 40 * 40 := Int.mul_le_mul gx.2 gy.2 (by have := gy.1.1; omega) (by omega)
  have st0 : 0 ≤ (gP P hx).1 * (gP P hy).1 := Int.mul_nonneg (by have := gx.1.1; omega) (by have := gy.1.1; omega)
  unfold f_X1_isAbout
  rw [ckG_of (by omega) (by omega), ckG_of (by omega) (by omega), h0, h1, ck1_of (by omega) (by omega), ck1_of (by omega) (by omega), jn_eq]
  rcases hi.1 with rfl | rfl
  · have c := q.2.2.2.2.2.mpr rfl
    simp (disch := omega) only [↓if_pos, ↓ckB_of]
  · have c : ¬ nu (gP P hx).1 (gP P hy).1 1 x y < (gP P hx).1 * (gP P hy).1 := fun h => absurd (q.2.2.2.2.2.mp h) (by decide)
    simp (disch := omega) only [↓if_neg, ↓ckB_of]
theorem leftOf_of (h : CG P c hx hy) {a x y : Int} (hi : IN (gP P hx).1 (gP P hy).1 a x y) : f_X1_leftOf c P (nu (gP P hx).1 (gP P hy).1 a x y) = some x := by
  obtain ⟨h0, h1, x0, x1, y0, y1, gx, gy⟩ := h
  have q := nu_of gx.2 gy.2 hi
  have gx1 := gx.1.1
  have gx2 := gx.2
  have gy1 := gy.1.1
  have gy2 := gy.2
  unfold f_X1_leftOf
  obtain ⟨ha, w0, w1, -, -⟩ := hi
  have q4 := q.2.2.2.1
  rcases ha with rfl | rfl
  · rw [show 0 * (gP P hx).1 + x = x by omega] at q4
    simp (disch := omega) only [↓jn_eq, ↓ckG_of, ↓ck1_of, ↓ckZ_of, ↓if_pos, h0, h1, q4]
  · rw [show 1 * (gP P hx).1 + x = (gP P hx).1 + x by omega] at q4
    simp (disch := omega) only [↓jn_eq, ↓ckG_of, ↓ck1_of, ↓ckZ_of, ↓if_pos, h0, h1, q4]
    rw [if_neg (by omega)]
    exact congrArg some (by omega)
theorem rightOf_of (h : CG P c hx hy) {a x y : Int} (hi : IN (gP P hx).1 (gP P hy).1 a x y) : f_X1_rightOf c P (nu (gP P hx).1 (gP P hy).1 a x y) = some y := by
  obtain ⟨h0, h1, x0, x1, y0, y1, gx, gy⟩ := h
  have q := nu_of gx.2 gy.2 hi
  have gy1 := gy.1.1
  have gy2 := gy.2
  unfold f_X1_rightOf
  rw [ckG_of (by omega) (by omega), h1, ck1_of (by omega) (by omega), if_pos (by omega), ck1_of (by omega) (by omega), ckZ_of (by omega), q.2.2.2.2.1]
theorem meet_new {n p x o : Int} (h3 : c 3 0 = n) (n0 : 0 ≤ n) (n1 : n < 3200) (p0 : 0 ≤ p) (p1 : p < 3200) (h5 : c 5 p = -1) : ∃ c', f_X1_meet c p x o = some c' ∧ c' 0 = c 0 ∧ c' 1 = c 1 ∧ c' 3 0 = n + 1 ∧ c' 2 = aS (c 2) n p ∧ c' 4 = aS (c 4) n o ∧ c' 5 = aS (c 5) p x := by
  unfold f_X1_meet
  rw [ck1_of (by omega) (by omega), if_neg (by omega), if_neg (by omega), h3, ck1_of (by omega) (by omega), if_neg (by omega), ckA_of p0 p1, ck1_of (by omega) (by omega), if_pos h5, ckA_of n0 n1]
  refine ⟨_, rfl, ?_, ?_, ?_, ?_, ?_, ?_⟩
  · rw [bS_ne _ _ (by decide), bS_ne _ _ (by decide), bs0_ne _ _ (by decide), bS_ne _ _ (by decide)]
  · rw [bS_ne _ _ (by decide), bS_ne _ _ (by decide), bs0_ne _ _ (by decide), bS_ne _ _ (by decide)]
  · rw [bS_ne _ _ (by decide), bS_ne _ _ (by decide), bs0_eq]
  · rw [bS_ne _ _ (by decide), bS_ne _ _ (by decide), bs0_ne _ _ (by decide), bS_eq]
  · rw [bS_ne _ _ (by decide), bS_eq]
  · rw [bS_eq]
theorem meet_old {n p x o : Int} (h3 : c 3 0 = n) (n0 : 0 ≤ n) (n1 : n ≤ 3200) (p0 : 0 ≤ p) (p1 : p < 3200) (h5 : c 5 p ≠ -1) (r : inR (c 5 p)) : f_X1_meet c p x o = some c := by
  unfold f_X1_meet
  rw [ck1_of (by omega) (by omega), if_neg (by omega), if_neg (by omega), h3, ck1_of (by omega) (by omega)]
  by_cases e : 3200 ≤ n
  · rw [if_pos e]
  · rw [if_neg e, ckA_of p0 p1, ck1_of r.1 r.2, if_neg h5]
theorem cstart_of {N : Nat} (hN : 20000 ≤ N) {c0 : Bd} (x0 : 0 ≤ hx) (x1 : hx < (P.length : Int)) (y0 : 0 ≤ hy) (y1 : hy < (P.length : Int)) (gx : GOK (gP P hx)) (gy : GOK (gP P hy)) : ∃ c, f_X1_start N c0 P hx hy = some c ∧ CG P c hx hy ∧ c 3 0 = 0 ∧ ∀ a x y, IN (gP P hx).1 (gP P hy).1 a x y → c 5 (nu (gP P hx).1 (gP P hy).1 a x y) = -1 := by
  have st : (gP P hx).1 * (gP P hy).1 ≤ 40 * 40 := Int.mul_le_mul gx.2 gy.2 (by have := gy.1.1; omega) (by omega)
  have st0 : 0 ≤ (gP P hx).1 * (gP P hy).1 := Int.mul_nonneg (by have := gx.1.1; omega) (by have := gy.1.1; omega)
  have st2 : 2 * (gP P hx).1 * (gP P hy).1 = (gP P hx).1 * (gP P hy).1 + (gP P hx).1 * (gP P hy).1 := by rw [show 2 * (gP P hx).1 = (gP P hx).1 + (gP P hx).1 by omega, Int.add_mul]
  obtain ⟨row, e1, e2, e3⟩ := fill_of (N := N) (row := c0 5) (ni := 3200) (x1 := 2 * (gP P hx).1 * (gP P hy).1) (x2 := -1) (by omega) (by omega) (by omega) (by omega)
  unfold f_X1_start
  rw [ckG_of x0 x1, ckG_of y0 y1, e1, bn_some]
  refine ⟨_, rfl, ⟨?_, ?_, x0, x1, y0, y1, gx, gy⟩, ?_, fun a x y hi => ?_⟩
  · rw [bS_ne _ _ (by decide), bs0_ne _ _ (by decide), bs0_ne _ _ (by decide), bs0_eq]
  · rw [bS_ne _ _ (by decide), bs0_ne _ _ (by decide), bs0_eq]
  · rw [bS_ne _ _ (by decide), bs0_eq]
  · have q := nu_of gx.2 gy.2 hi
    rw [bS_eq]
    exact e2 _ q.1 q.2.1
end CK
/-- both walks have come to the same pairs -/
def LK (P : PL) (hx hy : Int) (c : Bd) (Q M : Int → Int) (n : Int) : Prop := CG P c hx hy ∧ c 3 0 = n ∧ 1 ≤ n ∧
  (∀ k, 0 ≤ k → k < n → ∃ a x y, IN (gP P hx).1 (gP P hy).1 a x y ∧ c 2 k = nu (gP P hx).1 (gP P hy).1 a x y ∧ Q k = en (gP P hx).1 (gP P hy).1 a x y ∧ c 5 (nu (gP P hx).1 (gP P hy).1 a x y) = 1) ∧
  (∀ j k, 0 ≤ j → j < n → 0 ≤ k → k < n → c 2 j = c 2 k → j = k) ∧
  ∀ a x y, IN (gP P hx).1 (gP P hy).1 a x y → (c 5 (nu (gP P hx).1 (gP P hy).1 a x y) = -1 ∧ M (en (gP P hx).1 (gP P hy).1 a x y) = 0) ∨ (c 5 (nu (gP P hx).1 (gP P hy).1 a x y) = 1 ∧ M (en (gP P hx).1 (gP P hy).1 a x y) = 1)
theorem LK.le {P : PL} {hx hy : Int} {c : Bd} {Q M : Int → Int} {n : Int} (h : LK P hx hy c Q M n) : n ≤ 3200 := by
  obtain ⟨h1, h2, h3, h4, h5, h6⟩ := h
  refine few (r := c 2) (by omega) (fun k k0 k1 => ?_) h5
  obtain ⟨a, x, y, hi, e, -⟩ := h4 k k0 k1
  have q := nu_of h1.2.2.2.2.2.2.1.2 h1.2.2.2.2.2.2.2.2 hi
  rw [e]
  exact ⟨q.1, q.2.2.1⟩
theorem LK.lt {P : PL} {hx hy : Int} {c : Bd} {Q M : Int → Int} {n a x y : Int} (h : LK P hx hy c Q M n) (hi : IN (gP P hx).1 (gP P hy).1 a x y) (h0 : c 5 (nu (gP P hx).1 (gP P hy).1 a x y) = -1) : n < 3200 := by
  obtain ⟨h1, h2, h3, h4, h5, h6⟩ := h
  have ne : ∀ k, 0 ≤ k → k < n → c 2 k ≠ nu (gP P hx).1 (gP P hy).1 a x y := fun k k0 k1 e => by
    obtain ⟨a', x', y', -, e', -, e2⟩ := h4 k k0 k1
    rw [← e', e, h0] at e2
    exact absurd e2 (by decide)
  have := few (r := aS (c 2) n (nu (gP P hx).1 (gP P hy).1 a x y)) (n := n + 1) (cnt := 3200) (by omega) (fun k k0 k1 => by
    by_cases e : k = n
    · have q := nu_of h1.2.2.2.2.2.2.1.2 h1.2.2.2.2.2.2.2.2 hi
      rw [e, aS_eq]; exact ⟨q.1, q.2.2.1⟩
    · obtain ⟨a', x', y', hi', e', -⟩ := h4 k k0 (by omega)
      have q := nu_of h1.2.2.2.2.2.2.1.2 h1.2.2.2.2.2.2.2.2 hi'
      rw [aS_ne _ _ e, e']; exact ⟨q.1, q.2.2.1⟩) (fun j k j0 j1 k0 k1 e => by
    by_cases e1 : j = n
    · by_cases e2 : k = n
      · omega
      · rw [e1, aS_eq, aS_ne _ _ e2] at e
        exact absurd e.symm (ne k k0 (by omega))
    · by_cases e2 : k = n
      · rw [e2, aS_eq, aS_ne _ _ e1] at e
        exact absurd e (ne j j0 (by omega))
      · rw [aS_ne _ _ e1, aS_ne _ _ e2] at e
        exact h5 j k j0 (by omega) k0 (by omega) e)
  omega
theorem LK.new {P : PL} {hx hy : Int} {c c' : Bd} {Q M : Int → Int} {n a x y : Int} (h : LK P hx hy c Q M n) (hi : IN (gP P hx).1 (gP P hy).1 a x y) (h0 : c 5 (nu (gP P hx).1 (gP P hy).1 a x y) = -1) (c0 : c' 0 = c 0) (c1 : c' 1 = c 1) (c3 : c' 3 0 = n + 1) (c2 : c' 2 = aS (c 2) n (nu (gP P hx).1 (gP P hy).1 a x y)) (c5 : c' 5 = aS (c 5) (nu (gP P hx).1 (gP P hy).1 a x y) 1) : LK P hx hy c' (aS Q n (en (gP P hx).1 (gP P hy).1 a x y)) (aS M (en (gP P hx).1 (gP P hy).1 a x y) 1) (n + 1) := by
  obtain ⟨h1, h2, h3, h4, h5, h6⟩ := h
  have gx := h1.2.2.2.2.2.2.1.2
  have gy := h1.2.2.2.2.2.2.2.2
  have ne : ∀ k, 0 ≤ k → k < n → c 2 k ≠ nu (gP P hx).1 (gP P hy).1 a x y := fun k k0 k1 e => by
    obtain ⟨a', x', y', -, e', -, e2⟩ := h4 k k0 k1
    rw [← e', e, h0] at e2
    exact absurd e2 (by decide)
  refine ⟨h1.cong c0 c1, c3, by omega, fun k k0 k1 => ?_, fun j k j0 j1 k0 k1 e => ?_, fun a' x' y' hi' => ?_⟩
  · rw [c2, c5]
    by_cases e : k = n
    · rw [e, aS_eq, aS_eq]
      exact ⟨a, x, y, hi, rfl, rfl, aS_eq _ _ _⟩
    · rw [aS_ne _ _ e, aS_ne _ _ e]
      obtain ⟨a', x', y', hi', e1, e2, e3⟩ := h4 k k0 (by omega)
      refine ⟨a', x', y', hi', e1, e2, ?_⟩
      by_cases d : nu (gP P hx).1 (gP P hy).1 a' x' y' = nu (gP P hx).1 (gP P hy).1 a x y
      · rw [d, aS_eq]
      · rw [aS_ne _ _ d]; exact e3
  · rw [c2] at e
    by_cases e1 : j = n
    · by_cases e2 : k = n
      · omega
      · rw [e1, aS_eq, aS_ne _ _ e2] at e
        exact absurd e.symm (ne k k0 (by omega))
    · by_cases e2 : k = n
      · rw [e2, aS_eq, aS_ne _ _ e1] at e
        exact absurd e (ne j j0 (by omega))
      · rw [aS_ne _ _ e1, aS_ne _ _ e2] at e
        exact h5 j k j0 (by omega) k0 (by omega) e
  · rw [c5]
    by_cases e : nu (gP P hx).1 (gP P hy).1 a' x' y' = nu (gP P hx).1 (gP P hy).1 a x y
    · obtain ⟨rfl, rfl, rfl⟩ := nu_inj gx gy hi' hi e
      right
      rw [aS_eq, aS_eq]
      exact ⟨rfl, rfl⟩
    · have e2 : en (gP P hx).1 (gP P hy).1 a' x' y' ≠ en (gP P hx).1 (gP P hy).1 a x y := fun h => by
        obtain ⟨rfl, rfl, rfl⟩ := en_inj gx gy hi' hi h
        exact e rfl
      rw [aS_ne _ _ e, aS_ne _ _ e2]
      exact h6 a' x' y' hi'
/-- the words of both graphs -/
def WX (P : PL) (hx hy : Int) (w : Int → Int) : Prop := CM w 0 (gP P hx) (gP P hx).1 ∧ CM w (gP P hx).1 (gP P hy) (gP P hy).1
theorem WX.left {P : PL} {hx hy : Int} {w : Int → Int} (h : WX P hx hy w) {x : Int} (x0 : 0 ≤ x) (x1 : x < (gP P hx).1) : f_X6_headOf (w x) = some (GP (gP P hx) x 0) ∧ ∀ i, 0 ≤ i → i < 2 → f_X6_partOf (w x) i = some (GP (gP P hx) x (1 + i)) := by
  have d := h.1 x x0 x1
  rw [show 0 + x = x by omega, Int.zero_add, Int.zero_add] at d
  refine ⟨by rw [headOf_of d.1, d.2.1], fun i i0 i1 => ?_⟩
  rw [partOf_of d.1 i0 i1]
  exact congrArg some (two (Q := fun j => MG w x j = GP (gP P hx) x j) d.2.2.1 d.2.2.2 i0 i1)
theorem WX.right {P : PL} {hx hy : Int} {w : Int → Int} (h : WX P hx hy w) {y : Int} (y0 : 0 ≤ y) (y1 : y < (gP P hy).1) : f_X6_headOf (w ((gP P hx).1 + y)) = some (GP (gP P hy) y 0) ∧ ∀ i, 0 ≤ i → i < 2 → f_X6_partOf (w ((gP P hx).1 + y)) i = some ((gP P hx).1 + GP (gP P hy) y (1 + i)) := by
  have d := h.2 y y0 y1
  refine ⟨by rw [headOf_of d.1, d.2.1], fun i i0 i1 => ?_⟩
  rw [partOf_of d.1 i0 i1]
  exact congrArg some (two (Q := fun j => MG w ((gP P hx).1 + y) j = (gP P hx).1 + GP (gP P hy) y j) d.2.2.1 d.2.2.2 i0 i1)
