/-! read: one term on both sides -/
def TS (tx : Int → Int) (len : Int) (rd m : Bd) (p c o w a : Int) : Prop := TX tx len m ∧ NR tx len rd m c ∧ SK rd m c o w a ∧ rd 0 0 = (if a = 1 then 2 else 3) ∧ m 22 0 = p ∧ 0 ≤ p ∧ p ≤ len ∧ o + c ≤ p ∧ 0 ≤ rd 1 0 ∧ rd 1 0 < 8
def F5 (rd rd' : Bd) : Prop := rd' 1 = rd 1 ∧ rd' 10 = rd 10 ∧ rd' 11 = rd 11 ∧ rd' 13 = rd 13
def F6 (m m' : Bd) : Prop := ∀ s : Nat, s ≠ 9 → s ≠ 10 → s ≠ 22 → s ≠ 25 → s ≠ 26 → s ≠ 27 → s ≠ 28 → s ≠ 29 → s ≠ 30 → m' s = m s
theorem F6.trans' {m m1 m2 : Bd} (h : F6 m m1) (k : F6 m1 m2) : F6 m m2 := fun s a b c d e f g i j => by rw [k s a b c d e f g i j, h s a b c d e f g i j]
theorem F5.trans' {m m1 m2 : Bd} (h : F5 m m1) (k : F5 m1 m2) : F5 m m2 := ⟨by rw [k.1, h.1], by rw [k.2.1, h.2.1], by rw [k.2.2.1, h.2.2.1], by rw [k.2.2.2, h.2.2.2]⟩
theorem TX.f6 {tx : Int → Int} {len : Int} {m m' : Bd} (h : TX tx len m) (k : F6 m m') : TX tx len m' := ⟨by rw [k 8 (by decide) (by decide) (by decide) (by decide) (by decide) (by decide) (by decide) (by decide) (by decide)]; exact h.1, by rw [k 7 (by decide) (by decide) (by decide) (by decide) (by decide) (by decide) (by decide) (by decide) (by decide)]; exact h.2⟩
/-- what a term ends in -/
def OT (N : Nat) (lt : Bd) (tx : Int → Int) (len p : Int) (rd m : Bd) (x : Option (Int × Bd)) : Prop :=
  (∃ q rd' m', 0 ≤ q ∧ q < len ∧ (∀ k (g : Nat), len - p < g → f_X4_faultOf_L48 N lt len k g p rd = some (q, rd')) ∧ x = some (-1, m') ∧ m' 22 0 = q ∧ F6 m m') ∨
  (∃ rd' m', (rd' 0 0 = 2 ∨ rd' 0 0 = 3) ∧ (∀ k (g : Nat), len - p < g → f_X4_faultOf_L48 N lt len k g p rd = k rd') ∧ x = some (-1, m') ∧ m' 22 0 = len ∧ F6 m m') ∨
  (∃ (d : Nat) (rd' m' : Bd) (r c' : Int), p + d ≤ len ∧ 1 ≤ d ∧ (∀ k (g : Nat), f_X4_faultOf_L48 N lt len k (g + d) p rd = f_X4_faultOf_L48 N lt len k g (p + d) rd') ∧ x = some (r, m') ∧ m' 22 0 = p + d ∧ (rd' 0 0 = 0 ∧ rd' 7 0 = 0 ∧ rd' 9 0 = 0 ∧ rd 5 0 ≤ rd' 5 0) ∧ NR tx len rd' m' c' ∧ c' ≤ p + d ∧ 0 ≤ r ∧ r < c' ∧ rd' 12 = aS (rd 12) (rd 1 0) r ∧ F6 m m' ∧ F5 rd rd')
theorem OT.adv {N : Nat} {lt : Bd} {tx : Int → Int} {len p q : Int} {rd m rd1 m1 : Bd} {x : Option (Int × Bd)} {e : Nat} (h : OT N lt tx len q rd1 m1 x) (hq : q = p + e) (hs : ∀ k (g : Nat), f_X4_faultOf_L48 N lt len k (g + e) p rd = f_X4_faultOf_L48 N lt len k g q rd1) (f6 : F6 m m1) (f5 : F5 rd rd1) (e12 : rd1 12 = rd 12) (e5 : rd 5 0 ≤ rd1 5 0) : OT N lt tx len p rd m x := by
  subst hq
  rcases h with ⟨q, rd', m', h1, h2, h3, h4, h5, h6⟩ | ⟨rd', m', h1, h3, h4, h5, h6⟩ | ⟨d, rd', m', r, c', h1, h2, h3, h4, h5, h6, h7, h8, h9, h10, h11, h12, h13⟩
  · refine Or.inl ⟨q, rd', m', h1, h2, fun k g hg => ?_, h4, h5, f6.trans' h6⟩
    by_cases c : e ≤ g
    · rw [show g = (g - e) + e by omega, hs]
      exact h3 k _ (by omega)
    · -- too little fuel reaches the end of the text first
      exfalso
      by_cases d : len - (p + (e : Int)) < ((0 : Nat) : Int)
      · have z := h3 k 0 d
        rw [f_X4_faultOf_L48] at z
        cases z
      · omega
  · refine Or.inr (Or.inl ⟨rd', m', h1, fun k g hg => ?_, h4, h5, f6.trans' h6⟩)
    by_cases c : e ≤ g
    · rw [show g = (g - e) + e by omega, hs]
      exact h3 k _ (by omega)
    · exfalso
      by_cases d : len - (p + (e : Int)) < ((0 : Nat) : Int)
      · have z := h3 (fun r => some (0, r)) 0 d
        rw [f_X4_faultOf_L48] at z
        cases z
      · omega
  · refine Or.inr (Or.inr ⟨e + d, rd', m', r, c', by omega, by omega, fun k g => ?_, h4, by omega, ⟨h6.1, h6.2.1, h6.2.2.1, by omega⟩, h7, by omega, h9, h10, by rw [h11, e12, f5.1], f6.trans' h12, f5.trans' h13⟩)
    rw [show g + (e + d) = (g + d) + e by omega, hs, h3, show p + (e : Int) + (d : Int) = p + ((e + d : Nat) : Int) by omega]
theorem does_is {N : Nat} {m m' : Bd} {cl : Int} (h : ∀ k, f_X6_does_L0 cl k N m = k m') : f_X6_does N m cl = some m' := by
  unfold f_X6_does
  exact h _
theorem joinP_is {N : Nat} {rd rd' : Bd} (h : ∀ k, f_X4_joinPairs_L2 k N 0 rd = k rd') : f_X4_joinPairs N rd = some rd' := by
  unfold f_X4_joinPairs
  exact h _
theorem bracket_is {N : Nat} {rd m : Bd} {c o w a : Int} (hN : 4000 ≤ N) (hS : SK rd m c o w a) (ob : o ≤ 120) : f_X6_bracket N m = some (lbr (rd 8) o.toNat) := by
  unfold f_X6_bracket
  exact bracket_of hS ob N 0 (by omega) hS.2.2.1 (fun x => some x)
theorem lbr_rng {rd m : Bd} {c o w a : Int} (hS : SK rd m c o w a) : ∀ n : Nat, (n : Int) ≤ o → lbr (rd 8) n = 0 ∨ lbr (rd 8) n = 40 ∨ lbr (rd 8) n = 91 := by
  intro n
  induction n with
  | zero => intro _; exact Or.inl rfl
  | succ n ih =>
    intro h
    have el : lbr (rd 8) (n + 1) = if rd 8 n = 40 ∨ rd 8 n = 91 then rd 8 n else lbr (rd 8) n := rfl
    rw [el]
    by_cases c : rd 8 n = 40 ∨ rd 8 n = 91
    · rw [if_pos c]; exact Or.inr c
    · rw [if_neg c]; exact ih (by omega)
/-- all joined: what both sides see -/
theorem all_of {tx : Int → Int} {len : Int} {N : Nat} (hN : 4000 ≤ N) {rd m : Bd} {c o w : Int} (hb : o + c < 120) (hN' : NR tx len rd m c) (hS : SK rd m c o w 0) : ∃ rd' m' c' o' w', JD tx len rd m c o rd' m' c' o' w' 0 ∧ f_X4_joinAll N rd = some rd' ∧ f_X6_does N m 0 = some m' ∧ rd' 8 = rd 8 ∧ (o' = 0 ∨ (1 ≤ o' ∧ (rd 8 (o' - 1) = 40 ∨ rd 8 (o' - 1) = 91))) ∧ f_X6_bracket N m = some (if o' ≤ 0 then 0 else rd 8 (o' - 1)) := by
  have c0 := hN'.2.2.1
  have o0 := hS.2.2.1
  obtain ⟨rd', m', c', o', w', h1, h2, h3⟩ := joinA_lock (tx := tx) (len := len) N N 0 rd m c o w (by omega) (by omega) (Int.le_refl 0) (by omega) hb hN' hS
  have e8 : rd' 8 = rd 8 := h1.2.2.1.1 8 (by decide) (by decide) (by decide) (by decide) (by decide) (by decide) (by decide)
  have o'0 : 0 ≤ o' := h1.2.1.2.2.1
  have tp : o' = 0 ∨ (1 ≤ o' ∧ (rd 8 (o' - 1) = 40 ∨ rd 8 (o' - 1) = 91)) := by
    by_cases z : o' = 0
    · exact Or.inl z
    · have s8 := hS.2.2.2.2.2.2.2.1 (o' - 1) (by omega) (by have := h1.2.2.2.1; omega)
      have s7 := h1.2.2.2.2.2.2
      exact Or.inr ⟨by omega, by omega⟩
  refine ⟨rd', m', c', o', w', h1, ?_, does_is h3, e8, tp, ?_⟩
  · unfold f_X4_joinAll
    rw [top_of hS.1 o0 (by omega), bn_some]
    exact h2 _
  · rw [bracket_is hN hS (by omega), lbr_top o'0 h1.2.2.2.1 h1.2.2.2.2.2.1 (tp.imp (fun h => h) (fun h => h.2))]
