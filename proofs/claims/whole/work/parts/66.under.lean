/-! under, apart: both walks in step -/
def hgB : Option Int → Option Int → Int → Int → Bool
  | some z, some g, x, y => decide ((z = 0 ∨ z = 1) ∧ (z = 0 ↔ g = 0) ∧ 0 ≤ g ∧ g ≤ 2 ∧ (z = 1 → (g = 2 ↔ (x = y ∧ 0 < ar x))))
  | _, _, _, _ => false
theorem hg_all : ∀ x : Fin 7, ∀ y : Fin 7, ∀ k : Fin 5, hgB (f_X1_headsGo (x.val : Int) (y.val : Int) (k.val : Int)) (f_X6_goes (fun _ _ => (k.val : Int)) (x.val : Int) (y.val : Int)) (x.val : Int) (y.val : Int) = true := by decide +kernel
theorem hg_of {m : Bd} {x y k : Int} (hk : m 6 0 = k) (x0 : 0 ≤ x) (x1 : x ≤ 6) (y0 : 0 ≤ y) (y1 : y ≤ 6) (k0 : 0 ≤ k) (k1 : k ≤ 4) : ∃ z g, f_X1_headsGo x y k = some z ∧ f_X6_goes m x y = some g ∧ (z = 0 ∨ z = 1) ∧ (z = 0 ↔ g = 0) ∧ 0 ≤ g ∧ g ≤ 2 ∧ (z = 1 → (g = 2 ↔ (x = y ∧ 0 < ar x))) := by
  have h := hg_all ⟨x.toNat, by omega⟩ ⟨y.toNat, by omega⟩ ⟨k.toNat, by omega⟩
  have ex : ((x.toNat : Nat) : Int) = x := by omega
  have ey : ((y.toNat : Nat) : Int) = y := by omega
  have ek : ((k.toNat : Nat) : Int) = k := by omega
  dsimp only at h
  rw [ex, ey, ek] at h
  have eg : f_X6_goes m x y = f_X6_goes (fun _ _ => k) x y := by rw [← hk]; rfl
  rw [eg]
  generalize f_X1_headsGo x y k = o1 at *
  generalize f_X6_goes (fun _ _ => k) x y = o2 at *
  cases o1 with
  | none => exact absurd h (by simp [hgB])
  | some z =>
    cases o2 with
    | none => exact absurd h (by simp [hgB])
    | some g => exact ⟨z, g, rfl, rfl, of_decide_eq_true h⟩
def LO (O F S : Int → Int) (n : Int) : Prop := O 0 = -1 ∧ F 0 = -1 ∧ ∀ k, 1 ≤ k → k < n → 0 ≤ F k ∧ F k < k ∧ 0 ≤ S k ∧ S k < 2 ∧ O k = 2 * F k + S k
theorem LO.new {O F S : Int → Int} {n a i : Int} (h : LO O F S n) (hn : 1 ≤ n) (a0 : 0 ≤ a) (a1 : a < n) (i0 : 0 ≤ i) (i1 : i < 2) : LO (aS O n (2 * a + i)) (aS F n a) (aS S n i) (n + 1) := by
  obtain ⟨h1, h2, h3⟩ := h
  refine ⟨by rw [aS_ne _ _ (by omega)]; exact h1, by rw [aS_ne _ _ (by omega)]; exact h2, fun k k0 k1 => ?_⟩
  by_cases e : k = n
  · rw [e, aS_eq, aS_eq, aS_eq]
    exact ⟨a0, a1, i0, i1, rfl⟩
  · rw [aS_ne _ _ e, aS_ne _ _ e, aS_ne _ _ e]
    exact h3 k k0 (by omega)
def turnI (t i a : Int) : Int := if t ≠ 0 ∧ i = 0 then 1 - a else a
theorem mp_run {P : PL} {c1 : Bd} {hx hy : Int} (hG : CG P c1 hx hy) {a x y : Int} (hi : IN (gP P hx).1 (gP P hy).1 a x y) {t p : Int} (ht : t = 0 ∨ t = 1) (hp : 0 ≤ p ∧ p < 3200) {ari : Int} (ha : ari ≤ 2) (k : Bd → Option Bd) (f : Nat) {i : Int} (i0 : 0 ≤ i) (i1 : i < ari) : f_X1_meetParts_L35 P p t (nu (gP P hx).1 (gP P hy).1 a x y) x y ari k (f + 1) i c1 = bn (f_X1_meet c1 (nu (gP P hx).1 (gP P hy).1 (turnI t i a) (GP (gP P hx) x (1 + i)) (GP (gP P hy) y (1 + i))) 1 (2 * p + i)) fun c2 => f_X1_meetParts_L35 P p t (nu (gP P hx).1 (gP P hy).1 a x y) x y ari k f (i + 1) c2 := by
  have q0 := isAbout_of hG hi
  obtain ⟨e0, e1, x0, x1, y0, y1, gx, gy⟩ := id hG
  obtain ⟨ha', w0, w1, w2, w3⟩ := id hi
  have q1 := partAt_of (h := hx) gx.2 w0 w1 (i := i) i0 (by omega)
  have q2 := partAt_of (h := hy) gy.2 w2 w3 (i := i) i0 (by omega)
  have n0 := numberOf_of hG (x := GP (gP P hx) x (1 + i)) (y := GP (gP P hy) y (1 + i)) (a := 0) (Or.inl rfl)
  have n1 := numberOf_of hG (x := GP (gP P hx) x (1 + i)) (y := GP (gP P hy) y (1 + i)) (a := 1) (Or.inr rfl)
  rw [f_X1_meetParts_L35]
  rcases ht with rfl | rfl
  · have et : turnI 0 i a = a := by unfold turnI; rw [if_neg (by omega)]
    rw [et]
    rcases ha' with rfl | rfl
    · simp (disch := omega) only [↓ck1_of, ↓ckG_of, ↓if_pos, ↓if_neg, ↓jn_eq, q0, e0, e1, q1, q2, n0, n1, ↓bn_some]
    · simp (disch := omega) only [↓ck1_of, ↓ckG_of, ↓if_pos, ↓if_neg, ↓jn_eq, q0, e0, e1, q1, q2, n0, n1, ↓bn_some]
  · by_cases hi0 : i = 0
    · have et : turnI 1 i a = 1 - a := by unfold turnI; rw [if_pos ⟨by decide, hi0⟩]
      rw [et]
      rcases ha' with rfl | rfl
      · simp (disch := omega) only [↓ck1_of, ↓ckG_of, ↓if_pos, ↓if_neg, ↓jn_eq, q0, e0, e1, q1, q2, n0, n1, ↓bn_some]
        rfl
      · simp (disch := omega) only [↓ck1_of, ↓ckG_of, ↓if_pos, ↓if_neg, ↓jn_eq, q0, e0, e1, q1, q2, n0, n1, ↓bn_some]
        rfl
    · have et : turnI 1 i a = a := by unfold turnI; rw [if_neg (by omega)]
      rw [et]
      rcases ha' with rfl | rfl
      · simp (disch := omega) only [↓ck1_of, ↓ckG_of, ↓if_pos, ↓if_neg, ↓jn_eq, q0, e0, e1, q1, q2, n0, n1, ↓bn_some]
      · simp (disch := omega) only [↓ck1_of, ↓ckG_of, ↓if_pos, ↓if_neg, ↓jn_eq, q0, e0, e1, q1, q2, n0, n1, ↓bn_some]
/-- the words of a pair, first and second -/
def wf (P : PL) (hx : Int) (w : Int → Int) (a x y : Int) : Int := if a = 0 then w x else w ((gP P hx).1 + y)
def ws2 (P : PL) (hx : Int) (w : Int → Int) (a x y : Int) : Int := if a = 0 then w ((gP P hx).1 + y) else w x
theorem cl_run {P : PL} {m1 : Bd} {hx hy : Int} (gx : GOK (gP P hx)) (gy : GOK (gP P hy)) (hw : WX P hx hy (m1 9)) {a x y : Int} (hi : IN (gP P hx).1 (gP P hy).1 a x y) (he : GP (gP P hx) x 0 = GP (gP P hy) y 0) {t kd p n : Int} (hk : m1 6 0 = kd) (k0 : 0 ≤ kd) (k1 : kd ≤ 4) (ht : t = if GP (gP P hx) x 0 = 6 ∧ kd ≠ 2 ∧ kd ≠ 4 then 1 else 0) (hn : 0 ≤ n ∧ n < 3300) (k : Int → Bd → Option (Int × Bd)) (f : Nat) {i : Int} (i0 : 0 ≤ i) (i1 : i < ar (GP (gP P hx) x 0)) (hm : ∀ z, 0 ≤ z → z < 6400 → z = en (gP P hx).1 (gP P hy).1 (turnI t i a) (GP (gP P hx) x (1 + i)) (GP (gP P hy) y (1 + i)) → m1 18 z = 0 ∨ m1 18 z = 1) : f_X6_clash_L132 ((gP P hx).1 + (gP P hy).1) p (wf P hx (m1 9) a x y) (ws2 P hx (m1 9) a x y) 2 k (f + 1) n i m1 = if m1 18 (en (gP P hx).1 (gP P hy).1 (turnI t i a) (GP (gP P hx) x (1 + i)) (GP (gP P hy) y (1 + i))) ≠ 0 then f_X6_clash_L132 ((gP P hx).1 + (gP P hy).1) p (wf P hx (m1 9) a x y) (ws2 P hx (m1 9) a x y) 2 k f n (i + 1) m1 else f_X6_clash_L132 ((gP P hx).1 + (gP P hy).1) p (wf P hx (m1 9) a x y) (ws2 P hx (m1 9) a x y) 2 k f (n + 1) (i + 1) (bS (bS (bS (bS m1 18 (aS (m1 18) (en (gP P hx).1 (gP P hy).1 (turnI t i a) (GP (gP P hx) x (1 + i)) (GP (gP P hy) y (1 + i))) 1)) 19 (aS (m1 19) n (en (gP P hx).1 (gP P hy).1 (turnI t i a) (GP (gP P hx) x (1 + i)) (GP (gP P hy) y (1 + i))))) 20 (aS (m1 20) n p)) 21 (aS (m1 21) n i)) := by
  obtain ⟨ha', w0, w1, w2, w3⟩ := id hi
  have har := ar_le (GP (gP P hx) x 0)
  have rx := gx.node w0 w1
  have ry := gy.node w2 w3
  have l := hw.left w0 w1
  have r := hw.right w2 w3
  have l0 := l.2 i i0 (by omega)
  have r0 := r.2 i i0 (by omega)
  have px : 0 ≤ GP (gP P hx) x (1 + i) ∧ GP (gP P hx) x (1 + i) < (gP P hx).1 := two (Q := fun j => 0 ≤ GP (gP P hx) x j ∧ GP (gP P hx) x j < (gP P hx).1) ⟨rx.2.2.1, rx.2.2.2.1⟩ ⟨rx.2.2.2.2.1, rx.2.2.2.2.2⟩ i0 (by omega)
  have py : 0 ≤ GP (gP P hy) y (1 + i) ∧ GP (gP P hy) y (1 + i) < (gP P hy).1 := two (Q := fun j => 0 ≤ GP (gP P hy) y j ∧ GP (gP P hy) y j < (gP P hy).1) ⟨ry.2.2.1, ry.2.2.2.1⟩ ⟨ry.2.2.2.2.1, ry.2.2.2.2.2⟩ i0 (by omega)
  have ta : turnI t i a = 0 ∨ turnI t i a = 1 := by unfold turnI; split <;> omega
  have eq := en_of gx.2 gy.2 (s := (gP P hx).1) (t := (gP P hy).1) (a := turnI t i a) ⟨ta, px.1, px.2, py.1, py.2⟩
  have hm' := hm _ eq.1 eq.2.1 rfl
  generalize hz : en (gP P hx).1 (gP P hy).1 (turnI t i a) (GP (gP P hx) x (1 + i)) (GP (gP P hy) y (1 + i)) = z at *
  have qa := parts_ar (h := GP (gP P hx) x 0) (by omega) (by omega)
  have hf : f_X6_headOf (wf P hx (m1 9) a x y) = some (GP (gP P hx) x 0) := by
    unfold wf
    rcases ha' with rfl | rfl
    · rw [if_pos rfl]; exact l.1
    · rw [if_neg (by decide), he]; exact r.1
  have pf : f_X6_partOf (wf P hx (m1 9) a x y) i = some (if a = 0 then GP (gP P hx) x (1 + i) else (gP P hx).1 + GP (gP P hy) y (1 + i)) := by
    unfold wf
    rcases ha' with rfl | rfl
    · rw [if_pos rfl, if_pos rfl]; exact l0
    · rw [if_neg (by decide), if_neg (by decide)]; exact r0
  have ps : f_X6_partOf (ws2 P hx (m1 9) a x y) i = some (if a = 0 then (gP P hx).1 + GP (gP P hy) y (1 + i) else GP (gP P hx) x (1 + i)) := by
    unfold ws2
    rcases ha' with rfl | rfl
    · rw [if_pos rfl, if_pos rfl]; exact r0
    · rw [if_neg (by decide), if_neg (by decide)]; exact l0
  generalize wf P hx (m1 9) a x y = u1 at *
  generalize ws2 P hx (m1 9) a x y = u2 at *
  have fin : ∀ z', z' = z → (ckA z' 6400 <| ck1 (m1 18 z') <| if (m1 18 z') ≠ 0 then f_X6_clash_L132 ((gP P hx).1 + (gP P hy).1) p u1 u2 2 k f n (i + 1) m1 else ckA n 6400 <| f_X6_clash_L132 ((gP P hx).1 + (gP P hy).1) p u1 u2 2 k f (n + 1) (i + 1) (bS (bS (bS (bS m1 18 (aS (m1 18) z' 1)) 19 (aS (m1 19) n z')) 20 (aS (m1 20) n p)) 21 (aS (m1 21) n i))) = if m1 18 z ≠ 0 then f_X6_clash_L132 ((gP P hx).1 + (gP P hy).1) p u1 u2 2 k f n (i + 1) m1 else f_X6_clash_L132 ((gP P hx).1 + (gP P hy).1) p u1 u2 2 k f (n + 1) (i + 1) (bS (bS (bS (bS m1 18 (aS (m1 18) z 1)) 19 (aS (m1 19) n z)) 20 (aS (m1 20) n p)) 21 (aS (m1 21) n i)) := by
    rintro z' rfl
    rw [ckA_of eq.1 eq.2.1, ck1_of (by omega) (by omega), ckA_of (by omega) (by omega)]
  rw [f_X6_clash_L132, hf, bn_some, qa, bn_some, ck1_of (by omega) (by omega), ck1_of (by omega) (by omega), if_neg (by omega), ck1_of (by omega) (by omega), if_neg (by omega), bn_some, jn_eq, jn_eq, ck1_of (by omega) (by omega)]
  have nt : (t = 0 ∨ i ≠ 0) → turnI t i a = a := fun h => by unfold turnI; rw [if_neg (by omega)]
  have noturn : turnI t i a = a → (jn (fun (s0_231 : Int) => ckA s0_231 6400 <| ck1 (m1 18 s0_231) <| if (m1 18 s0_231) ≠ 0 then f_X6_clash_L132 ((gP P hx).1 + (gP P hy).1) p u1 u2 2 k f n (i + 1) m1 else ckA n 6400 <| f_X6_clash_L132 ((gP P hx).1 + (gP P hy).1) p u1 u2 2 k f (n + 1) (i + 1) (bS (bS (bS (bS m1 18 (aS (m1 18) s0_231 1)) 19 (aS (m1 19) n s0_231)) 20 (aS (m1 20) n p)) 21 (aS (m1 21) n i))) fun j231 => ck1 (0 : Int) <| if (0 : Int) = 0 then bn (f_X6_partOf u1 i) fun q219_34 => bn (f_X6_partOf u2 i) fun q227_35 => j231 ((((gP P hx).1 + (gP P hy).1) * q219_34) + q227_35) else bn (f_X6_partOf u2 i) fun q199_36 => bn (f_X6_partOf u1 i) fun q207_37 => j231 ((((gP P hx).1 + (gP P hy).1) * q199_36) + q207_37)) = if m1 18 z ≠ 0 then f_X6_clash_L132 ((gP P hx).1 + (gP P hy).1) p u1 u2 2 k f n (i + 1) m1 else f_X6_clash_L132 ((gP P hx).1 + (gP P hy).1) p u1 u2 2 k f (n + 1) (i + 1) (bS (bS (bS (bS m1 18 (aS (m1 18) z 1)) 19 (aS (m1 19) n z)) 20 (aS (m1 20) n p)) 21 (aS (m1 21) n i)) := by
    intro et
    rw [jn_eq, ck1_of (by omega) (by omega), if_pos rfl, pf, bn_some, ps, bn_some]
    refine fin _ ?_
    rw [← hz, et]
    unfold en
    rcases ha' with rfl | rfl
    · rw [if_pos rfl, if_pos rfl, if_pos rfl]
    · rw [if_neg (by decide), if_neg (by decide), if_neg (by decide)]
  by_cases c6 : GP (gP P hx) x 0 = 6
  · rw [if_neg (fun h => h c6)]
    by_cases ci : i = 0
    · rw [if_neg (fun h => h ci), hk, ck1_of (by omega) (by omega)]
      by_cases c2 : kd = 2
      · rw [if_pos c2]
        exact noturn (nt (Or.inl (by rw [ht, if_neg (by omega)])))
      · rw [if_neg c2]
        by_cases c4 : kd = 4
        · rw [if_pos c4]
          exact noturn (nt (Or.inl (by rw [ht, if_neg (by omega)])))
        · rw [if_neg c4]
          have t1 : t = 1 := by rw [ht, if_pos ⟨c6, c2, c4⟩]
          have et : turnI t i a = 1 - a := by unfold turnI; rw [if_pos ⟨by omega, ci⟩]
          try dsimp only
          rw [jn_eq, ck1_of (by omega) (by omega), if_neg (by decide), ps, bn_some, pf, bn_some]
          refine fin _ ?_
          rw [← hz, et]
          unfold en
          rcases ha' with rfl | rfl
          · rw [if_pos rfl, if_pos rfl, if_neg (by decide)]
          · rw [if_neg (by decide), if_neg (by decide), if_pos (by decide)]
    · rw [if_pos ci]
      exact noturn (by unfold turnI; rw [if_neg (by omega)])
  · rw [if_pos c6]
    exact noturn (nt (Or.inl (by rw [ht, if_neg (by omega)])))
