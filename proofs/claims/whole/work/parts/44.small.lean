/-! Bench.smallest: the least graph of a tree, or that it is too large -/
theorem zero_of (n : Int) (r : Int → Int) (hn : n ≤ 3280) (hr : ∀ j, 0 ≤ j → j < n → 0 ≤ r j ∧ r j < 3280) (k : Bd → Option (Int × Bd × PL)) : ∀ (m : Nat) (x : Int) (b1 : Bd), n - x < m → 0 ≤ x → x ≤ n → b1 4 = r → (∀ j, 0 ≤ j → j < x → b1 6 (r j) = 0) →
    ∃ b', (∀ s : Nat, s ≠ 6 → b' s = b1 s) ∧ (∀ j, 0 ≤ j → j < n → b' 6 (r j) = 0) ∧ f_X0_smallest_L22 n k m x b1 = k b' := by
  intro m
  induction m with
  | zero => intro x b1 h0 _ h2 _ _; omega
  | succ m ih =>
    intro x b1 hm h0 h1 h4 hz
    rw [f_X0_smallest_L22, ck1_of (by omega) (by omega), ck1_of (by omega) (by omega)]
    by_cases hx : n ≤ x
    · rw [if_pos hx]
      exact ⟨b1, fun _ _ => rfl, fun j j0 j1 => hz j j0 (by omega), rfl⟩
    · have q := hr x h0 (by omega)
      rw [if_neg hx, ckA_of (by omega) (by omega), h4, ckA_of q.1 q.2]
      obtain ⟨b', e1, e2, e3⟩ := ih (x + 1) (bS b1 6 (aS (b1 6) (r x) 0)) (by omega) (by omega) (by omega) (by rw [bS_ne _ _ (by decide)]; exact h4) (fun j j0 j1 => by
        rw [bS_eq]
        by_cases hj : r j = r x
        · rw [hj, aS_eq]
        · rw [aS_ne _ _ hj]
          by_cases hjx : j = x
          · exact absurd (by rw [hjx]) hj
          · exact hz j j0 (by omega))
      exact ⟨b', fun s hs => by rw [e1 s hs, bS_ne _ _ hs], e2, e3⟩
/-- what writeDown writes of class w -/
def WD (b : Bd) (n w : Int) (F : Int → Int) : Prop := ∃ j, 0 ≤ j ∧ j < n ∧ b 6 (b 4 j) = w ∧ F (3 * w) = b 0 (b 4 j) ∧ F (3 * w + 1) = gp (BG b) (b 6) (b 4 j) 0 ∧ F (3 * w + 2) = gp (BG b) (b 6) (b 4 j) 1
theorem write_loop {b : Bd} {n g : Int} (hL : Line b n) (hl : Low b n) (hg : g ≤ 40) (hF : FO (fun j => b 6 (b 4 j)) n g) (k : (Int → Int) → Option (Int × PL)) : ∀ (m : Nat) (x4 x5 : Int) (F : Int → Int), n - x5 < m → 0 ≤ x5 → x5 ≤ n → 0 ≤ x4 → x4 ≤ g → (∀ j, 0 ≤ j → j < x5 → b 6 (b 4 j) < x4) → (∀ w, 0 ≤ w → w < x4 → WD b n w F) →
    ∃ F', (∀ w, 0 ≤ w → w < g → WD b n w F') ∧ f_X0_writeDown_L12 b n g k m x4 x5 F = k F' := by
  have hn := hL.2.1
  intro m
  induction m with
  | zero => intro x4 x5 F h0 _ h2 _ _ _ _; omega
  | succ m ih =>
    intro x4 x5 F hm h0 h1 w0 w1 hlow hW
    rw [f_X0_writeDown_L12, ck1_of (by omega) (by omega), ck1_of (by omega) (by omega)]
    by_cases hx : n ≤ x5
    · rw [if_pos hx]
      refine ⟨F, fun w a b' => hW w a ?_, rfl⟩
      obtain ⟨j, j0, j1, j2⟩ := hF.2.1 w a b'
      have := hlow j j0 (by omega)
      have j2 : b 6 (b 4 j) = w := j2
      omega
    · rw [if_neg hx, ck1_of (by omega) (by omega), ck1_of (by omega) (by omega)]
      by_cases hxg : g ≤ x4
      · rw [if_pos hxg]
        exact ⟨F, fun w a b' => hW w a (by omega), rfl⟩
      · have q := hL.2.2.2 x5 h0 (by omega)
        have lo := hl x5 h0 (by omega)
        rw [if_neg hxg, ckA_of (by omega) (by omega), ckA_of q.1 q.2.1, ck1_of (by omega) (by omega)]
        by_cases hne : b 6 (b 4 x5) ≠ x4
        · rw [if_pos hne]
          refine ih x4 (x5 + 1) F (by omega) (by omega) (by omega) w0 w1 (fun j j0 j1 => ?_) hW
          by_cases hj : j = x5
          · subst hj
            rcases Int.lt_trichotomy (b 6 (b 4 j)) x4 with z | z | z
            · exact z
            · exact absurd z hne
            · obtain ⟨j', a0, a1, a2⟩ := hF.2.2 j j0 (by omega) x4 w0 z
              have := hlow j' a0 a1
              have a2 : b 6 (b 4 j') = x4 := a2
              omega
          · exact hlow j j0 (by omega)
        · have he : b 6 (b 4 x5) = x4 := by omega
          have g0 := line_gp hL hl h0 (by omega : x5 < n) (i := 0) (by omega)
          have g1 := line_gp hL hl h0 (by omega : x5 < n) (i := 1) (by omega)
          have hp : ∀ i, 0 ≤ i → i < ar (BG b (b 4 x5) 0) → 0 ≤ BG b (b 4 x5) (1 + i) ∧ BG b (b 4 x5) (1 + i) < 3280 := by
            intro i i0 i1
            obtain ⟨p, p0, p1, hp⟩ := q.2.2.2.2 i i0 i1
            rw [hp]
            have := hL.2.2.2 p p0 p1
            exact ⟨this.1, this.2.1⟩
          rw [if_neg hne, ckA_of (by omega) (by omega), groupOfPart_of q.1 q.2.1 (by omega) (by omega) q.2.2.1 q.2.2.2.1 (hp 0 (by omega)), bn_some, ckA_of (by omega) (by omega), groupOfPart_of q.1 q.2.1 (by omega) (by omega) q.2.2.1 q.2.2.2.1 (hp 1 (by omega)), bn_some, ckA_of (by omega) (by omega)]
          refine ih (x4 + 1) (x5 + 1) _ (by omega) (by omega) (by omega) (by omega) (by omega) (fun j j0 j1 => ?_) (fun w a0 a1 => ?_)
          · by_cases hj : j = x5
            · subst hj; omega
            · have := hlow j j0 (by omega); omega
          · by_cases hw : w = x4
            · subst hw
              refine ⟨x5, h0, by omega, he, ?_, ?_, ?_⟩
              · rw [aS_ne _ _ (by omega), aS_ne _ _ (by omega), aS_eq]
              · rw [aS_ne _ _ (by omega), aS_eq]
              · rw [aS_eq]
            · obtain ⟨j, c0, c1, c2, c3, c4, c5⟩ := hW w a0 (by omega)
              refine ⟨j, c0, c1, c2, ?_, ?_, ?_⟩
              · rw [aS_ne _ _ (by omega), aS_ne _ _ (by omega), aS_ne _ _ (by omega)]; exact c3
              · rw [aS_ne _ _ (by omega), aS_ne _ _ (by omega), aS_ne _ _ (by omega)]; exact c4
              · rw [aS_ne _ _ (by omega), aS_ne _ _ (by omega), aS_ne _ _ (by omega)]; exact c5
theorem write_of {N : Nat} (hN : 4000 ≤ N) {b : Bd} {P : PL} {n g : Int} (hL : Line b n) (hl : Low b n) (h0 : 0 ≤ g) (hg : g ≤ 40) (hF : FO (fun j => b 6 (b 4 j)) n g) : ∃ F, (∀ w, 0 ≤ w → w < g → WD b n w F) ∧ f_X0_writeDown N b P n g = some ((P.length : Int), P ++ [(g, F)]) := by
  have hn := hL.2.1
  unfold f_X0_writeDown
  rw [ckA_of (by omega) (by omega)]
  exact write_loop hL hl hg hF (fun F_12 => some ((P.length : Int), P ++ [(g, F_12)])) N 0 0 (fun _ => 0) (by have := hL.1; omega) (by omega) (by have := hL.1; omega) (by omega) h0 (fun j _ _ => by omega) (fun w _ _ => by omega)
/-- the outcome of a making: the least graph of the tree at root, or the tree is too large -/
def Made (G : GG) (root res : Int) (P P' : PL) : Prop := (∃ g, res = (P.length : Int) ∧ P' = P ++ [g] ∧ GOK g ∧ Eqv (GP g) 0 G root) ∨ (res = -1 ∧ P' = P ∧ Big G root)
section Rounds
variable {N : Nat} {b0 : Bd} {n root : Int} {B : GG}
/-- the place graph of a line of a bench -/
def PlaceG (b0 : Bd) (r : Int → Int) (n : Int) (B : GG) : Prop := (∀ k, 0 ≤ k → k < n → B k 0 = BG b0 (r k) 0 ∧ ∀ i, 0 ≤ i → i < ar (BG b0 (r k) 0) → 0 ≤ B k (1 + i) ∧ B k (1 + i) < n ∧ r (B k (1 + i)) = BG b0 (r k) (1 + i)) ∧ WG B n ∧ BF B n ∧ RE B n ∧ ∀ k, 0 ≤ k → k < n → Eqv B k (BG b0) (r k)
theorem rounds_of (hN : 4000 ≤ N) (P : PL) (r : Int → Int) (hB : PlaceG b0 r n B) (k : Int → Bd → Option (Int × Bd × PL)) : ∀ (m : Nat) (x3 x4 : Int) (b1 : Bd), 41 - x4 < m → 0 ≤ x4 → x4 ≤ 40 → x4 + 1 ≤ x3 → x3 ≤ 40 → (∀ s : Nat, s < 4 → b1 s = b0 s) → b1 4 = r → (∀ s, 0 ≤ s → s < 11200 → b1 8 s = -1) → Line b1 n → Low b1 n → FO (fun j => b1 6 (r j)) n x3 → Tell x4.toNat (fun j => b1 6 (r j)) B n →
    (∃ g b', 1 ≤ g ∧ g ≤ 40 ∧ (∀ s : Nat, s < 4 → b' s = b0 s) ∧ b' 4 = r ∧ (∀ s, 0 ≤ s → s < 11200 → b' 8 s = -1) ∧ Line b' n ∧ Low b' n ∧ FO (fun j => b' 6 (r j)) n g ∧ TellAll (fun j => b' 6 (r j)) B n ∧ f_X0_smallest_L50 N P n k m x3 x4 b1 = k g b') ∨
    (∃ b', (∀ s : Nat, s < 4 → b' s = b0 s) ∧ (∀ s, 0 ≤ s → s < 11200 → b' 8 s = -1) ∧ Big B 0 ∧ f_X0_smallest_L50 N P n k m x3 x4 b1 = some (-1, b', P)) := by
  obtain ⟨hBk, hW, hBF, hRE, hEq⟩ := hB
  intro m
  induction m with
  | zero => intro x3 x4 b1 h0 _ h2; omega
  | succ m ih =>
    intro x3 x4 b1 hm h0 h1 h3 h3' hfr h4 h8 hL hl hF hT
    rw [f_X0_smallest_L50, ck1_of (by omega) (by omega), if_neg (by omega)]
    obtain ⟨b', f1, f2, f3⟩ := split_of hN hL hl h8
    have hfr' : ∀ s : Nat, s < 4 → b' s = b0 s := fun s hs => by rw [f1 s (by omega) (by omega) (by omega) (by omega)]; exact hfr s hs
    have h4' : b' 4 = r := by rw [f1 4 (by decide) (by decide) (by decide) (by decide)]; exact h4
    have eB1 : BG b1 = BG b0 := BG_same (hfr 0 (by decide)) (hfr 1 (by decide)) (hfr 2 (by decide))
    -- what a signature tells
    have hsg : ∀ j k, 0 ≤ j → j < n → 0 ≤ k → k < n → (sg b1 (b1 4 j) = sg b1 (b1 4 k) ↔ EqL (x4.toNat + 1) B j B k) := by
      intro j k j0 j1 k0 k1
      rw [sg_iff hL hl j0 j1 k0 k1, EqL.step, h4, eB1]
      have qj := hBk j j0 j1
      have qk := hBk k k0 k1
      rw [qj.1, qk.1]
      constructor
      · rintro ⟨e, hi⟩
        refine ⟨e, fun i i0 i1 => ?_⟩
        have pj := qj.2 i i0 i1
        have pk := qk.2 i i0 (by rw [← e]; exact i1)
        refine (hT _ _ pj.1 pj.2.1 pk.1 pk.2.1).mp ?_
        show b1 6 (r _) = b1 6 (r _)
        rw [pj.2.2, pk.2.2]
        exact hi i i0 i1
      · rintro ⟨e, hi⟩
        refine ⟨e, fun i i0 i1 => ?_⟩
        have pj := qj.2 i i0 i1
        have pk := qk.2 i i0 (by rw [← e]; exact i1)
        have := (hT _ _ pj.1 pj.2.1 pk.1 pk.2.1).mpr (hi i i0 i1)
        have this : b1 6 (r (B j (1 + i))) = b1 6 (r (B k (1 + i))) := this
        rw [pj.2.2, pk.2.2] at this
        exact this
    rcases f3 with ⟨g, e, g1, g40, hFO, hiff⟩ | ⟨e, f, hf1, hf2⟩
    · rw [e, bn_some]
      dsimp only
      rw [ck1_of (by omega) (by omega), if_pos (by omega), ck1_of (by omega) (by omega)]
      rw [h4] at hFO hiff
      have hT' : Tell (x4.toNat + 1) (fun j => b' 6 (r j)) B n := by
        intro j k j0 j1 k0 k1
        have := hsg j k j0 j1 k0 k1
        rw [h4] at this
        exact (hiff j k j0 j1 k0 k1).trans this
      have hL' : Line b' n := by
        have eB' : BG b' = BG b1 := BG_same ((hfr' 0 (by decide)).trans (hfr 0 (by decide)).symm) ((hfr' 1 (by decide)).trans (hfr 1 (by decide)).symm) ((hfr' 2 (by decide)).trans (hfr 2 (by decide)).symm)
        unfold Line
        rw [h4', hfr' 0 (by decide), eB', ← h4, ← hfr 0 (by decide)]
        exact hL
      have hl' : Low b' n := by
        intro j j0 j1
        rw [h4']
        have := hFO.1 j j0 j1
        have this : 0 ≤ b' 6 (r j) ∧ b' 6 (r j) < g := this
        omega
      by_cases hg : g = x3
      · rw [if_neg (by omega)]
        subst hg
        left
        exact ⟨g, b', g1, g40, hfr', h4', f2, hL', hl', hFO, (Tell.all hW hF hFO hT hT').1, rfl⟩
      · rw [if_pos hg]
        have hmono := FO.mono hF hFO (hT.finer hT') (by omega)
        have hx4 : (x4 + 1).toNat = x4.toNat + 1 := by omega
        exact ih g (x4 + 1) b' (by omega) (by omega) (by omega) (by omega) g40 hfr' h4' f2 hL' hl' hFO (by rw [hx4]; exact hT')
    · rw [e, bn_some]
      dsimp only
      rw [ck1_of (by omega) (by omega), if_neg (by omega)]
      right
      refine ⟨b', hfr', f2, Big.of hL.1 hW hRE (x4.toNat + 1) f hf1 (fun a c hac hc hE => ?_), rfl⟩
      have q := hf2 a c hac hc
      exact q ((hsg _ _ (hf1 a (by omega)).1 (hf1 a (by omega)).2 (hf1 c hc).1 (hf1 c hc).2).mpr hE)
end Rounds
/-- smallest -/
theorem small_of {N : Nat} (hN : 4000 ≤ N) {b : Bd} {P : PL} {cnt root : Int} (hb : BW b cnt) (r0 : 0 ≤ root) (r1 : root < cnt) (h8 : ∀ s, 0 ≤ s → s < 11200 → b 8 s = -1) :
    ∃ res b' P', f_X0_smallest N b P root = some (res, b', P') ∧ (∀ s : Nat, s < 4 → b' s = b s) ∧ (∀ s, 0 ≤ s → s < 11200 → b' 8 s = -1) ∧ Made (BG b) root res P P' := by
  have hc := hb.2.2.1
  have hc1 := hb.2.1
  unfold f_X0_smallest
  rw [ck1_of (by omega) (by omega), if_neg (by omega), hb.1, ck1_of (by omega) (by omega), if_pos r1]
  obtain ⟨n, b1, e1, hfr, hBI, h00, hin, hseen⟩ := reach_of hN hb r0 r1
  rw [e1, bn_some]
  dsimp only
  have hn := few (by omega) hin hBI.2.1
  have hh : ∀ k, 0 ≤ k → k < n → 0 ≤ BG b (b1 4 k) 0 ∧ BG b (b1 4 k) 0 ≤ 6 := by
    intro k k0 k1
    have a := hin k k0 k1
    have := hb.2.2.2 _ a.1 a.2
    exact ⟨this.1, this.2.1⟩
  obtain ⟨B, hBk, hW, hBF, hRE, hEq⟩ := hBI.graph hh
  obtain ⟨b2, f1, f2, f3⟩ := zero_of n (b1 4) (by omega) (fun j j0 j1 => by have := hin j j0 j1; omega) (fun (b_22 : Bd) => f_X0_smallest_L50 N P n (fun (x3_50 : Int) (b_50 : Bd) => bn (f_X0_writeDown N b_50 P n x3_50) fun q94_18 => some (q94_18.1, b_50, q94_18.2)) N 1 0 b_22) N 0 b1 (by omega) (by omega) (by have := hBI.1; omega) rfl (fun j _ _ => by omega)
  rw [f3]
  have g4 : b2 4 = b1 4 := f1 4 (by decide)
  have gfr : ∀ s : Nat, s < 4 → b2 s = b s := fun s hs => by rw [f1 s (by omega)]; exact hfr s (by omega) (by omega)
  have gB : BG b2 = BG b := BG_same (gfr 0 (by decide)) (gfr 1 (by decide)) (gfr 2 (by decide))
  have hL : Line b2 n := by
    refine ⟨hBI.1, by omega, by rw [g4]; exact hBI.2.1, fun j j0 j1 => ?_⟩
    have a := hin j j0 j1
    have w := hh j j0 j1
    rw [g4, gfr 0 (by decide), gB]
    refine ⟨a.1, by omega, w.1, w.2, fun i i0 i1 => ?_⟩
    have q := (hBk j j0 j1).2 i i0 i1
    exact ⟨_, q.1, q.2.1, q.2.2.symm⟩
  have hl : Low b2 n := by
    intro j j0 j1
    rw [g4, f2 j j0 j1]
    omega
  have hF : FO (fun j => b2 6 (b1 4 j)) n 1 := by
    refine ⟨fun j j0 j1 => ?_, fun w w0 w1 => ⟨0, by omega, by have := hBI.1; omega, ?_⟩, fun j j0 j1 w w0 w1 => ?_⟩
    · show 0 ≤ b2 6 (b1 4 j) ∧ b2 6 (b1 4 j) < 1
      rw [f2 j j0 j1]; omega
    · show b2 6 (b1 4 0) = w
      rw [f2 0 (by omega) (by have := hBI.1; omega)]; omega
    · have w1 : w < b2 6 (b1 4 j) := w1
      rw [f2 j j0 j1] at w1; omega
  have hT : Tell (0 : Int).toNat (fun j => b2 6 (b1 4 j)) B n := by
    intro j k j0 j1 k0 k1
    refine ⟨fun _ => EqL.zero, fun _ => ?_⟩
    show b2 6 (b1 4 j) = b2 6 (b1 4 k)
    rw [f2 j j0 j1, f2 k k0 k1]
  have h8' : ∀ s, 0 ≤ s → s < 11200 → b2 8 s = -1 := fun s s0 s1 => by rw [f1 8 (by decide), hfr 8 (by decide) (by decide)]; exact h8 s s0 s1
  have root0 : Eqv B 0 (BG b) root := by
    have := hEq 0 (by omega) (by have := hBI.1; omega)
    rw [h00] at this
    exact this
  rcases rounds_of hN P (b1 4) ⟨hBk, hW, hBF, hRE, hEq⟩ (fun (x3_50 : Int) (b_50 : Bd) => bn (f_X0_writeDown N b_50 P n x3_50) fun q94_18 => some (q94_18.1, b_50, q94_18.2)) N 1 0 b2 (by omega) (by omega) (by omega) (by omega) (by omega) gfr g4 h8' hL hl hF hT with ⟨g, b3, g1, g40, hfr3, h43, h83, hL3, hl3, hFO3, hTA, e⟩ | ⟨b3, hfr3, h83, hBig, e⟩
  · rw [e]
    rw [← h43] at hFO3 hTA
    obtain ⟨F, hWD, eW⟩ := write_of hN (P := P) hL3 hl3 (by omega) g40 hFO3
    rw [eW, bn_some]
    dsimp only
    refine ⟨_, b3, _, rfl, hfr3, h83, Or.inl ⟨(g, F), rfl, rfl, ?_⟩⟩
    have eB3 : BG b3 = BG b := BG_same (hfr3 0 (by decide)) (hfr3 1 (by decide)) (hfr3 2 (by decide))
    have c : ∀ k, 0 ≤ k → k < n → GP (g, F) (b3 6 (b3 4 k)) 0 = B k 0 ∧ ∀ i, 0 ≤ i → i < ar (B k 0) → GP (g, F) (b3 6 (b3 4 k)) (1 + i) = b3 6 (b3 4 (B k (1 + i))) := by
      intro k k0 k1
      have lo := hFO3.1 k k0 k1
      obtain ⟨j, j0, j1, j2, d0, d1, d2⟩ := hWD _ lo.1 lo.2
      have hE := (hTA j k j0 j1 k0 k1).mp j2
      have hj := hBk j j0 j1
      have eh : GP (g, F) (b3 6 (b3 4 k)) 0 = B k 0 := by
        show F (3 * (b3 6 (b3 4 k)) + 0) = _
        rw [Int.add_zero, d0, ← hE.head, hj.1, h43, hfr3 0 (by decide)]
        rfl
      refine ⟨eh, fun i i0 i1 => ?_⟩
      have har := ar_le (B k 0)
      have hij : i < ar (BG b (b1 4 j) 0) := by rw [← hj.1, hE.head]; exact i1
      have pj := hj.2 i i0 hij
      have pk := (hBk k k0 k1).2 i i0 (by rw [← (hBk k k0 k1).1]; exact i1)
      have key : gp (BG b3) (b3 6) (b3 4 j) i = b3 6 (b3 4 (B k (1 + i))) := by
        unfold gp
        rw [eB3, h43, if_pos hij, ← pj.2.2, ← h43]
        have hP := hE.part ⟨i0, by rw [hE.head]; exact i1⟩
        exact (hTA _ _ pj.1 pj.2.1 pk.1 pk.2.1).mpr hP
      show F (3 * (b3 6 (b3 4 k)) + (1 + i)) = _
      by_cases hi : i = 0
      · subst hi
        rw [show 3 * b3 6 (b3 4 k) + (1 + 0) = 3 * b3 6 (b3 4 k) + 1 by omega, d1]
        exact key
      · have : i = 1 := by omega
        subst this
        rw [show 3 * b3 6 (b3 4 k) + (1 + 1) = 3 * b3 6 (b3 4 k) + 2 by omega, d2]
        exact key
    have hZ : Zer (GP (g, F)) g := by
      intro v i v0 v1 hai i2
      obtain ⟨j, j0, j1, j2, d0, d1, d2⟩ := hWD v v0 v1
      have eh : GP (g, F) v 0 = BG b3 (b3 4 j) 0 := by
        show F (3 * v + 0) = _
        rw [Int.add_zero, d0]; rfl
      rw [eh] at hai
      have har := ar_le (BG b3 (b3 4 j) 0)
      have z : gp (BG b3) (b3 6) (b3 4 j) i = 0 := by unfold gp; rw [if_neg (by omega)]
      show F (3 * v + (1 + i)) = 0
      by_cases hi : i = 0
      · subst hi
        rw [show 3 * v + (1 + 0) = 3 * v + 1 by omega, d1]; exact z
      · have : i = 1 := by omega
        subst this
        rw [show 3 * v + (1 + 1) = 3 * v + 2 by omega, d2]; exact z
    have hq := quo (C := GP (g, F)) hBI.1 hW hBF hRE hFO3 hTA c hZ
    refine ⟨⟨hq.1, g40⟩, ?_⟩
    have c0 : b3 6 (b3 4 0) = 0 := by
      have a := hFO3.1 0 (by omega) (by have := hBI.1; omega)
      have a : 0 ≤ b3 6 (b3 4 0) ∧ b3 6 (b3 4 0) < g := a
      rcases Int.lt_or_le 0 (b3 6 (b3 4 0)) with z | z
      · obtain ⟨j, j0, j1, _⟩ := hFO3.2.2 0 (by omega) (by have := hBI.1; omega) 0 (by omega) z
        omega
      · omega
    have := hq.2 0 (by omega) (by have := hBI.1; omega)
    have this : Eqv (GP (g, F)) (b3 6 (b3 4 0)) B 0 := this
    rw [c0] at this
    exact this.trans root0
  · rw [e]
    exact ⟨_, b3, P, rfl, hfr3, h83, Or.inr ⟨rfl, rfl, hBig.eqv root0⟩⟩
