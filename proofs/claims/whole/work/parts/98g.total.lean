/-! THE LAW'S LOOP GOES TO ITS END (by program: mktotal.py) -/
section
variable {T : Int} {b m : Bd} {P : PL}
theorem go1 {p : Option (Int × Bd)} {q : Option (Int × Bd)} {g : Bd → Bd → Option Unit} (h : Step1 T b P p q) (K : ∀ l d, RR (T + 1) l b d P → g l d = some ()) : (bn p fun a => bn q fun d => ck1 a.1 <| ck1 d.1 <| if a.1 = d.1 then g a.2 d.2 else none) = some () := by
  obtain ⟨v, l, d, e1, e2, hv, r⟩ := h
  rw [e1, e2, bn_some, bn_some]
  dsimp only
  rw [ck1_of hv.1 hv.2, ck1_of hv.1 hv.2, if_pos rfl]
  exact K l d r
theorem goL {p : Option (Int × Bd)} {q : Option (Int × Bd)} {g : Bd → Bd → Option Unit} (h : StepL T b P p q) (K : ∀ l d, RR (T + 1) l b d P → g l d = some ()) : (bn p fun a => bn q fun d => if a.1 = d.1 then g a.2 d.2 else none) = some () := by
  obtain ⟨v, l, d, e1, e2, r⟩ := h
  rw [e1, e2, bn_some, bn_some]
  dsimp only
  rw [if_pos rfl]
  exact K l d r
theorem go1m {p : Option (Int × Bd × Bd)} {q : Option (Int × Bd)} {g : Bd → Bd → Bd → Option Unit} (h : Step1m T b P p q) (K : ∀ l x d, RR (T + 1) l b d P → g l x d = some ()) : (bn p fun a => bn q fun d => ck1 a.1 <| ck1 d.1 <| if a.1 = d.1 then g a.2.1 a.2.2 d.2 else none) = some () := by
  obtain ⟨v, l, x, d, e1, e2, hv, r⟩ := h
  rw [e1, e2, bn_some, bn_some]
  dsimp only
  rw [ck1_of hv.1 hv.2, ck1_of hv.1 hv.2, if_pos rfl]
  exact K l x d r
theorem go2 {p : Option (Int × Bd × Bd × PL)} {q : Option (Int × Bd)} {g : Bd → Bd → Bd → PL → Option Unit} (h : Step2 T p q) (K : ∀ l b' d P', RR (T + 1) l b' d P' → g l b' d P' = some ()) : (bn p fun a => bn q fun d => ck1 a.1 <| ck1 d.1 <| if a.1 = d.1 then g a.2.1 a.2.2.1 d.2 a.2.2.2 else none) = some () := by
  obtain ⟨v, l, b', P', d, e1, e2, hv, r⟩ := h
  rw [e1, e2, bn_some, bn_some]
  dsimp only
  rw [ck1_of hv.1 hv.2, ck1_of hv.1 hv.2, if_pos rfl]
  exact K l b' d P' r
theorem go2m {p : Option (Int × Bd × Bd × Bd × PL)} {q : Option (Int × Bd)} {g : Bd → Bd → Bd → Bd → PL → Option Unit} (h : Step2m T p q) (K : ∀ l b' x d P', RR (T + 1) l b' d P' → g l b' x d P' = some ()) : (bn p fun a => bn q fun d => ck1 a.1 <| ck1 d.1 <| if a.1 = d.1 then g a.2.1 a.2.2.1 a.2.2.2.1 d.2 a.2.2.2.2 else none) = some () := by
  obtain ⟨v, l, b', x, P', d, e1, e2, hv, r⟩ := h
  rw [e1, e2, bn_some, bn_some]
  dsimp only
  rw [ck1_of hv.1 hv.2, ck1_of hv.1 hv.2, if_pos rfl]
  exact K l b' x d P' r
end
theorem i_and_rng (x y : Int) : inR (i_and x y) := by
  have a := (Int32.ofInt x &&& Int32.ofInt y).le_toInt
  have c := (Int32.ofInt x &&& Int32.ofInt y).toInt_lt
  unfold i_and
  exact ⟨by simpa using a, by omega⟩
set_option maxRecDepth 100000 in
set_option maxHeartbeats 4000000 in
theorem law_go {N : Nat} (hN : 20000 ≤ N) {xs : Int → Int} {L : Int} (hL : L ≤ 2560) (hL0 : 0 ≤ L) (hx : ∀ i, inR (xs i)) : ∀ (n : Nat) (i T : Int) (lt b c ms rd m : Bd) (P : PL), L + 5 - i ≤ 5 * n → 0 ≤ i → i ≤ L + 4 → T ≤ i → RR T lt b m P → f_law N xs L n i lt b c ms rd m P = some () := by
  have hN4 : 4000 ≤ N := by omega
  intro n
  induction n with
  | zero =>
    intro i T lt b c ms rd m P h0 i0 i1 hT h
    exfalso
    omega
  | succ n ih =>
    intro i T lt b c ms rd m P h0 i0 i1 hT h
    rw [f_law, ck1_of (by omega) (by omega), ck1_of (by omega) (by omega)]
    by_cases hend : L - 5 < i
    · rw [if_pos hend]
    have hv := i_and_rng (xs i) 31
    rw [if_neg hend, ckA_of i0 (by omega), ck1_of hv.1 hv.2]
    have go : ∀ (lt b c ms rd m : Bd) (P : PL), RR (T + 1) lt b m P → f_law N xs L n (i + 5) lt b c ms rd m P = some () := fun lt b c ms rd m P r => ih (i + 5) (T + 1) lt b c ms rd m P (by omega) (by omega) (by omega) (by omega) r
    generalize i_and (xs i) 31 = v
    by_cases c0 : v = 0
    · rw [if_pos c0, ckA_of (show 0 ≤ i + 1 by omega) (by omega)]
      exact go1 (g := fun l d => f_law N xs L n (i + 5) l b c ms rd d P) (type_step h (hx _)) (fun l d r => go _ _ _ _ _ _ _ r)
    rw [if_neg c0]
    by_cases c1 : v = 1
    · rw [if_pos c1]
      exact go1 (g := fun l d => f_law N xs L n (i + 5) l b c ms rd d P) (clear_step h ) (fun l d r => go _ _ _ _ _ _ _ r)
    rw [if_neg c1]
    by_cases c2 : v = 2
    · rw [if_pos c2]
      exact go2m (g := fun l b' x d P' => f_law N xs L n (i + 5) l b' c ms x d P') (read_step hN4 h rd) (fun l b' x d P' r => go _ _ _ _ _ _ _ r)
    rw [if_neg c2]
    by_cases c3 : v = 3
    · rw [if_pos c3, ckA_of (show 0 ≤ i + 1 by omega) (by omega)]
      exact go1 (g := fun l d => f_law N xs L n (i + 5) l b c ms rd d P) (order_step h (hx _)) (fun l d r => go _ _ _ _ _ _ _ r)
    rw [if_neg c3]
    by_cases c4 : v = 4
    · rw [if_pos c4, ckA_of (show 0 ≤ i + 1 by omega) (by omega), ckA_of (show 0 ≤ i + 2 by omega) (by omega)]
      exact go1m (g := fun l x d => f_law N xs L n (i + 5) l b x ms rd d P) (under_step hN h (hx _) (hx _)) (fun l x d r => go _ _ _ _ _ _ _ r)
    rw [if_neg c4]
    by_cases c5 : v = 5
    · rw [if_pos c5, ckA_of (show 0 ≤ i + 1 by omega) (by omega), ckA_of (show 0 ≤ i + 2 by omega) (by omega)]
      exact go1 (g := fun l d => f_law N xs L n (i + 5) l b c ms rd d P) (alike_step hN4 h (hx _) (hx _)) (fun l d r => go _ _ _ _ _ _ _ r)
    rw [if_neg c5]
    by_cases c6 : v = 6
    · rw [if_pos c6, ckA_of (show 0 ≤ i + 1 by omega) (by omega), ckA_of (show 0 ≤ i + 2 by omega) (by omega), ckA_of (show 0 ≤ i + 3 by omega) (by omega)]
      exact go1m (g := fun l x d => f_law N xs L n (i + 5) l b x ms rd d P) (apart_step hN h (hx _) (hx _) (hx _)) (fun l x d r => go _ _ _ _ _ _ _ r)
    rw [if_neg c6]
    by_cases c7 : v = 7
    · rw [if_pos c7, ckA_of (show 0 ≤ i + 1 by omega) (by omega), ckA_of (show 0 ≤ i + 2 by omega) (by omega), ckA_of (show 0 ≤ i + 3 by omega) (by omega)]
      exact go1m (g := fun l x d => f_law N xs L n (i + 5) l b x ms rd d P) (near_step hN h (hx _) (hx _) (hx _)) (fun l x d r => go _ _ _ _ _ _ _ r)
    rw [if_neg c7]
    by_cases c8 : v = 8
    · rw [if_pos c8, ckA_of (show 0 ≤ i + 1 by omega) (by omega), ckA_of (show 0 ≤ i + 2 by omega) (by omega)]
      exact go1m (g := fun l x d => f_law N xs L n (i + 5) l b c x rd d P) (shared_step hN4 h (hx _) (hx _)) (fun l x d r => go _ _ _ _ _ _ _ r)
    rw [if_neg c8]
    by_cases c9 : v = 9
    · rw [if_pos c9, ckA_of (show 0 ≤ i + 1 by omega) (by omega), ckA_of (show 0 ≤ i + 2 by omega) (by omega)]
      exact go1m (g := fun l x d => f_law N xs L n (i + 5) l b c x rd d P) (way_step hN4 h (hx _) (hx _)) (fun l x d r => go _ _ _ _ _ _ _ r)
    rw [if_neg c9]
    by_cases c10 : v = 10
    · rw [if_pos c10, ckA_of (show 0 ≤ i + 1 by omega) (by omega)]
      exact go1 (g := fun l d => f_law N xs L n (i + 5) l b c ms rd d P) (size_step h (hx _)) (fun l d r => go _ _ _ _ _ _ _ r)
    rw [if_neg c10]
    by_cases c11 : v = 11
    · rw [if_pos c11, ckA_of (show 0 ≤ i + 1 by omega) (by omega)]
      exact go1 (g := fun l d => f_law N xs L n (i + 5) l b c ms rd d P) (head_step h (hx _)) (fun l d r => go _ _ _ _ _ _ _ r)
    rw [if_neg c11]
    by_cases c12 : v = 12
    · rw [if_pos c12, ckA_of (show 0 ≤ i + 1 by omega) (by omega)]
      exact goL (g := fun l d => f_law N xs L n (i + 5) l b c ms rd d P) (code_step hN4 h (hx _)) (fun l d r => go _ _ _ _ _ _ _ r)
    rw [if_neg c12]
    by_cases c13 : v = 13
    · rw [if_pos c13, ckA_of (show 0 ≤ i + 1 by omega) (by omega)]
      exact go1m (g := fun l x d => f_law N xs L n (i + 5) l b c x rd d P) (deep_step hN h (hx _)) (fun l x d r => go _ _ _ _ _ _ _ r)
    rw [if_neg c13]
    by_cases c14 : v = 14
    · rw [if_pos c14, ckA_of (show 0 ≤ i + 1 by omega) (by omega)]
      exact go1m (g := fun l x d => f_law N xs L n (i + 5) l b c x rd d P) (heads_step hN h (hx _)) (fun l x d r => go _ _ _ _ _ _ _ r)
    rw [if_neg c14]
    by_cases c15 : v = 15
    · rw [if_pos c15, ckA_of (show 0 ≤ i + 1 by omega) (by omega), ckA_of (show 0 ≤ i + 2 by omega) (by omega)]
      exact go1 (g := fun l d => f_law N xs L n (i + 5) l b c ms rd d P) (many_step hN4 h (hx _) (hx _)) (fun l d r => go _ _ _ _ _ _ _ r)
    rw [if_neg c15]
    by_cases c16 : v = 16
    · rw [if_pos c16, ckA_of (show 0 ≤ i + 1 by omega) (by omega)]
      exact go1m (g := fun l x d => f_law N xs L n (i + 5) l b c x rd d P) (looping_step hN h (hx _)) (fun l x d r => go _ _ _ _ _ _ _ r)
    rw [if_neg c16]
    by_cases c17 : v = 17
    · rw [if_pos c17, ckA_of (show 0 ≤ i + 1 by omega) (by omega)]
      exact go1m (g := fun l x d => f_law N xs L n (i + 5) l b c x rd d P) (filled_step hN h (hx _)) (fun l x d r => go _ _ _ _ _ _ _ r)
    rw [if_neg c17]
    by_cases c18 : v = 18
    · rw [if_pos c18, ckA_of (show 0 ≤ i + 1 by omega) (by omega)]
      exact go1m (g := fun l x d => f_law N xs L n (i + 5) l b c x rd d P) (least_step hN h (hx _)) (fun l x d r => go _ _ _ _ _ _ _ r)
    rw [if_neg c18]
    by_cases c19 : v = 19
    · rw [if_pos c19, ckA_of (show 0 ≤ i + 1 by omega) (by omega), ckA_of (show 0 ≤ i + 2 by omega) (by omega)]
      exact go1m (g := fun l x d => f_law N xs L n (i + 5) l b c x rd d P) (signs_step hN4 h (hx _) (hx _)) (fun l x d r => go _ _ _ _ _ _ _ r)
    rw [if_neg c19]
    by_cases c20 : v = 20
    · rw [if_pos c20, ckA_of (show 0 ≤ i + 1 by omega) (by omega), ckA_of (show 0 ≤ i + 2 by omega) (by omega)]
      exact go2 (g := fun l b' d P' => f_law N xs L n (i + 5) l b' c ms rd d P') (base_step hN4 h (hx _) (hx _)) (fun l b' d P' r => go _ _ _ _ _ _ _ r)
    rw [if_neg c20]
    by_cases c21 : v = 21
    · rw [if_pos c21, ckA_of (show 0 ≤ i + 1 by omega) (by omega), ckA_of (show 0 ≤ i + 2 by omega) (by omega), ckA_of (show 0 ≤ i + 3 by omega) (by omega), ckA_of (show 0 ≤ i + 4 by omega) (by omega)]
      exact go2 (g := fun l b' d P' => f_law N xs L n (i + 5) l b' c ms rd d P') (make_step hN4 h (hx _) (hx _) (hx _) (hx _)) (fun l b' d P' r => go _ _ _ _ _ _ _ r)
    rw [if_neg c21]
    by_cases c22 : v = 22
    · rw [if_pos c22, ckA_of (show 0 ≤ i + 1 by omega) (by omega), ckA_of (show 0 ≤ i + 2 by omega) (by omega), ckA_of (show 0 ≤ i + 3 by omega) (by omega)]
      exact go2 (g := fun l b' d P' => f_law N xs L n (i + 5) l b' c ms rd d P') (part_step hN4 h (hx _) (hx _) (hx _)) (fun l b' d P' r => go _ _ _ _ _ _ _ r)
    rw [if_neg c22]
    by_cases c23 : v = 23
    · rw [if_pos c23, ckA_of (show 0 ≤ i + 1 by omega) (by omega), ckA_of (show 0 ≤ i + 2 by omega) (by omega)]
      exact go1 (g := fun l d => f_law N xs L n (i + 5) l b c ms rd d P) (copy_step hN4 h (hx _) (hx _)) (fun l d r => go _ _ _ _ _ _ _ r)
    rw [if_neg c23]
    by_cases c24 : v = 24
    · rw [if_pos c24, ckA_of (show 0 ≤ i + 1 by omega) (by omega), ckA_of (show 0 ≤ i + 2 by omega) (by omega), ckA_of (show 0 ≤ i + 3 by omega) (by omega), ckA_of (show 0 ≤ i + 4 by omega) (by omega)]
      exact go2m (g := fun l b' x d P' => f_law N xs L n (i + 5) l b' x ms rd d P') (bound_step hN h (hx _) (hx _) (hx _) (hx _)) (fun l b' x d P' r => go _ _ _ _ _ _ _ r)
    rw [if_neg c24]
    by_cases c25 : v = 25
    · rw [if_pos c25, ckA_of (show 0 ≤ i + 1 by omega) (by omega), ckA_of (show 0 ≤ i + 2 by omega) (by omega), ckA_of (show 0 ≤ i + 3 by omega) (by omega), ckA_of (show 0 ≤ i + 4 by omega) (by omega)]
      exact go2m (g := fun l b' x d P' => f_law N xs L n (i + 5) l b' c x rd d P') (swap_step hN4 h (hx _) (hx _) (hx _) (hx _)) (fun l b' x d P' r => go _ _ _ _ _ _ _ r)
    rw [if_neg c25]
    by_cases c26 : v = 26
    · rw [if_pos c26, ckA_of (show 0 ≤ i + 1 by omega) (by omega), ckA_of (show 0 ≤ i + 2 by omega) (by omega), ckA_of (show 0 ≤ i + 3 by omega) (by omega)]
      exact go2 (g := fun l b' d P' => f_law N xs L n (i + 5) l b' c ms rd d P') (cutx_step hN4 h (hx _) (hx _) (hx _)) (fun l b' d P' r => go _ _ _ _ _ _ _ r)
    rw [if_neg c26]
    by_cases c27 : v = 27
    · rw [if_pos c27, ckA_of (show 0 ≤ i + 1 by omega) (by omega), ckA_of (show 0 ≤ i + 2 by omega) (by omega), ckA_of (show 0 ≤ i + 3 by omega) (by omega)]
      exact go2 (g := fun l b' d P' => f_law N xs L n (i + 5) l b' c ms rd d P') (turn_step hN4 h (hx _) (hx _) (hx _)) (fun l b' d P' r => go _ _ _ _ _ _ _ r)
    rw [if_neg c27]
    by_cases c28 : v = 28
    · rw [if_pos c28, ckA_of (show 0 ≤ i + 1 by omega) (by omega), ckA_of (show 0 ≤ i + 2 by omega) (by omega), ckA_of (show 0 ≤ i + 3 by omega) (by omega)]
      exact go2 (g := fun l b' d P' => f_law N xs L n (i + 5) l b' c ms rd d P') (draw_step hN4 h (hx _) (hx _) (hx _)) (fun l b' d P' r => go _ _ _ _ _ _ _ r)
    rw [if_neg c28]
    by_cases c29 : v = 29
    · rw [if_pos c29]
      exact go1 (g := fun l d => f_law N xs L n (i + 5) l b c ms rd d P) (back_step hN4 h ) (fun l d r => go _ _ _ _ _ _ _ r)
    rw [if_neg c29]
    by_cases c30 : v = 30
    · rw [if_pos c30, ckA_of (show 0 ≤ i + 1 by omega) (by omega)]
      exact go1 (g := fun l d => f_law N xs L n (i + 5) l b c ms rd d P) (told_step hN4 (by omega) h (hx _)) (fun l d r => go _ _ _ _ _ _ _ r)
    rw [if_neg c30]
    by_cases c31 : v = 31
    · rw [if_pos c31]
      obtain ⟨v', e1, e2⟩ := digest_of hN4 (by omega) h
      rw [e1, e2, bn_some, bn_some, if_pos rfl]
      exact go _ _ _ _ _ _ _ h.up
    rw [if_neg c31]
    exact go _ _ _ _ _ _ _ h.up
theorem init_row {N : Nat} (hN : 20000 ≤ N) : ∃ F, f_X5_init N = some F ∧ ∀ j, 0 ≤ j → j < 11200 → F j = -1 := by
  have up : ∀ (f : Nat) (i : Int) (F : Int → Int), 11200 - i < f → 0 ≤ i → i ≤ 11200 → (∀ j, 0 ≤ j → j < i → F j = -1) → ∃ F', f_X0_init_L86 f i F = some F' ∧ ∀ j, 0 ≤ j → j < 11200 → F' j = -1 := by
    intro f
    induction f with
    | zero => intro i F h0 _ h2; omega
    | succ f ih =>
      intro i F h0 i0 i1 hF
      rw [f_X0_init_L86, ck1_of (by omega) (by omega)]
      by_cases c : 11200 ≤ i
      · rw [if_pos c]
        exact ⟨F, rfl, fun j j0 j1 => hF j j0 (by omega)⟩
      · rw [if_neg c, ckA_of i0 (by omega)]
        refine ih (i + 1) _ (by omega) (by omega) (by omega) (fun j j0 j1 => ?_)
        by_cases e : j = i
        · rw [e, aS_eq]
        · rw [aS_ne _ _ e]
          exact hF j j0 (by omega)
  obtain ⟨F, e, h⟩ := up N 0 (fun _ => 0) (by omega) (by decide) (by decide) (fun j j0 j1 => by omega)
  refine ⟨F, ?_, h⟩
  unfold f_X5_init f_X0_init
  rw [e, bn_some, bn_some, bn_some, bn_some]
theorem law_total (xs : Int → Int) (L : Nat) (hL : L ≤ 2560) (hx : ∀ i, inR (xs i)) : ∃ N, f_start N xs (L : Int) = some () := by
  refine ⟨20000, ?_⟩
  obtain ⟨F, e, hF⟩ := init_row (N := 20000) (Nat.le_refl _)
  unfold f_start
  rw [e, bn_some, bn_some]
  refine law_go (N := 20000) (Nat.le_refl _) (by omega) (by omega) hx 20000 0 0 lt0 (bb0 F) cc0 zz0 zz0 zz0 [] (by omega) (by decide) (by omega) (by decide) ⟨⟨rfl, by decide, by decide, fun j j0 j1 => ?_⟩, ⟨rfl, by decide, by decide⟩, ⟨rfl, rfl, rfl, by decide, by decide, by decide, by decide, by decide, by decide⟩, fun a a0 a1 => Or.inl ⟨rfl, rfl⟩, ⟨rfl, by decide, by decide, by decide, by decide, fun j a j0 j1 a0 a1 => ?_⟩, fun h h0 h1 => ?_, fun s s0 s1 => ?_⟩
  · have z : zz0 8 0 = 0 := rfl
    omega
  · have z : zz0 4 0 = 0 := rfl
    omega
  · have z : (([] : PL).length : Int) = 0 := rfl
    omega
  · exact hF s s0 s1
