/-! The reference: reaches, makes -/
/-- a set of good nodes, closed under parts -/
def MS (m : Bd) (S : Int → Prop) (cnt : Int) : Prop := m 10 0 = cnt ∧ 1 ≤ cnt ∧ cnt ≤ 3400 ∧ ∀ v, S v → 0 ≤ v ∧ v < cnt ∧ PW (m 9 v) ∧ MG (m 9) v 0 ≤ 6 ∧ ∀ i, 0 ≤ i → i < ar (MG (m 9) v 0) → S (MG (m 9) v (1 + i))
def RM (m m1 : Bd) (S : Int → Prop) (cnt root n u i : Int) : Prop :=
  (∀ s : Nat, s ≠ 11 → s ≠ 12 → m1 s = m s) ∧ BI (MG (m 9)) (m1 11) n u i ∧ m1 11 0 = root ∧ (∀ j, 0 ≤ j → j < n → S (m1 11 j)) ∧
  (∀ v, 0 ≤ v → v < cnt → (m1 12 v = -1 ∧ ∀ j, 0 ≤ j → j < n → m1 11 j ≠ v) ∨ ∃ p, 0 ≤ p ∧ p < n ∧ m1 12 v = p ∧ m1 11 p = v)
theorem mreach_in {m : Bd} {S : Int → Prop} {cnt root : Int} (hb : MS m S cnt) (u : Int) (u0 : 0 ≤ u) (v : Int) (k : Int → Bd → Option (Int × Bd)) : ∀ (f : Nat) (n i : Int) (m1 : Bd), ar (MG (m 9) v 0) - i < f → 0 ≤ i → i ≤ ar (MG (m 9) v 0) → u < n → m1 11 u = v → RM m m1 S cnt root n u i →
    ∃ n' m', RM m m' S cnt root n' u (ar (MG (m 9) v 0)) ∧ u < n' ∧ m' 11 u = v ∧ f_X6_reaches_L62 u (m 9 v) k f n i m1 = k n' m' := by
  have har := ar_le (MG (m 9) v 0)
  intro f
  induction f with
  | zero => intro n i m1 h0 _ h2; omega
  | succ f ih =>
    intro n i m1 hm i0 i1 un hv hR
    obtain ⟨hfr, hB, h00, hin, hpl⟩ := id hR
    have hr : ∀ j, 0 ≤ j → j < n → 0 ≤ m1 11 j ∧ m1 11 j < cnt := fun j j0 j1 => by have := hb.2.2.2 _ (hin j j0 j1); exact ⟨this.1, this.2.1⟩
    have hn := few (by have := hb.2.1; omega) hr hB.2.1
    have hc := hb.2.2.1
    have hSv : S v := by have := hin u u0 un; rw [hv] at this; exact this
    have hvv := hb.2.2.2 v hSv
    have hg := MG_rng hvv.2.2.1
    rw [f_X6_reaches_L62, headOf_of hvv.2.2.1, bn_some, parts_ar hg.1 hg.2.1, bn_some, ck1_of (by omega) (by omega), ck1_of (by omega) (by omega)]
    by_cases hx : ar (MG (m 9) v 0) ≤ i
    · have e : i = ar (MG (m 9) v 0) := by omega
      subst e
      rw [if_pos (Int.le_refl _)]
      exact ⟨n, m1, hR, un, hv, rfl⟩
    · have hSp := hvv.2.2.2.2 i i0 (by omega)
      have hp := hb.2.2.2 _ hSp
      rw [if_neg hx, partOf_of hvv.2.2.1 i0 (by omega), bn_some, ckA_of hp.1 (by omega)]
      rcases hpl _ hp.1 hp.2.1 with ⟨z, hnew⟩ | ⟨p, p0, p1, z, hp2⟩
      · rw [z, ck1_of (by omega) (by omega), if_neg (by omega)]
        have hB' : BI (MG (m 9)) (aS (m1 11) n (MG (m 9) v (1 + i))) (n + 1) u (i + 1) := hB.new u0 un (by rw [hv]) hnew i0 (by rw [hv]; omega)
        have old : ∀ p, p < n → aS (m1 11) n (MG (m 9) v (1 + i)) p = m1 11 p := fun p hp => aS_ne _ _ (by omega)
        have hin' : ∀ j, 0 ≤ j → j < n + 1 → S (aS (m1 11) n (MG (m 9) v (1 + i)) j) := by
          intro j j0 j1
          by_cases hj : j = n
          · subst hj; rw [aS_eq]; exact hSp
          · rw [old j (by omega)]; exact hin j j0 (by omega)
        have hn' := few (cnt := cnt) (by have := hb.2.1; omega) (fun j j0 j1 => by have := hb.2.2.2 _ (hin' j j0 j1); exact ⟨this.1, this.2.1⟩) hB'.2.1
        rw [ckA_of (by omega) (by omega)]
        generalize hm2 : bS (bS m1 11 (aS (m1 11) n (MG (m 9) v (1 + i)))) 12 (aS (m1 12) (MG (m 9) v (1 + i)) n) = m2
        have w11 : m2 11 = aS (m1 11) n (MG (m 9) v (1 + i)) := by rw [← hm2, bS_ne _ _ (by decide), bS_eq]
        have w12 : m2 12 = aS (m1 12) (MG (m 9) v (1 + i)) n := by rw [← hm2, bS_eq]
        have S' : RM m m2 S cnt root (n + 1) u (i + 1) := by
          refine ⟨fun s s4 s5 => by rw [← hm2, bS_ne _ _ s5, bS_ne _ _ s4]; exact hfr s s4 s5, by rw [w11]; exact hB', by rw [w11, old 0 (by omega)]; exact h00, by rw [w11]; exact hin', fun x x0 x1 => ?_⟩
          rw [w11, w12]
          by_cases hxv : x = MG (m 9) v (1 + i)
          · right
            rw [hxv, aS_eq]
            exact ⟨n, by omega, by omega, rfl, aS_eq _ _ _⟩
          · rw [aS_ne _ _ hxv]
            rcases hpl x x0 x1 with ⟨y, hy⟩ | ⟨q, q0, q1, y, q2⟩
            · left
              refine ⟨y, fun j j0 j1 => ?_⟩
              by_cases hj : j = n
              · subst hj; rw [aS_eq]; exact fun e => hxv e.symm
              · rw [old j (by omega)]; exact hy j j0 (by omega)
            · right
              exact ⟨q, q0, by omega, y, by rw [old q q1]; exact q2⟩
        exact ih (n + 1) (i + 1) m2 (by omega) (by omega) (by omega) (by omega) (by rw [w11, old u un]; exact hv) S'
      · rw [z, ck1_of (by omega) (by omega), if_pos p0]
        exact ih n (i + 1) m1 (by omega) (by omega) (by omega) un hv ⟨hfr, hB.old p0 p1 (by rw [hv]; exact hp2.symm) i0 (by omega), h00, hin, hpl⟩
theorem mreach_out {N : Nat} (hN : 4000 ≤ N) {m : Bd} {S : Int → Prop} {cnt root : Int} (hb : MS m S cnt) (k : Int → Bd → Option (Int × Bd)) : ∀ (f : Nat) (n u : Int) (m1 : Bd), cnt - u < f → 0 ≤ u → u ≤ n → RM m m1 S cnt root n u 0 →
    ∃ n' m', RM m m' S cnt root n' n' 0 ∧ f_X6_reaches_L41 N k f n u m1 = k n' m' := by
  intro f
  induction f with
  | zero =>
    intro n u m1 h0 u0 un hR
    have hr : ∀ j, 0 ≤ j → j < n → 0 ≤ m1 11 j ∧ m1 11 j < cnt := fun j j0 j1 => by have := hb.2.2.2 _ (hR.2.2.2.1 j j0 j1); exact ⟨this.1, this.2.1⟩
    have := few (by have := hb.2.1; omega) hr hR.2.1.2.1
    omega
  | succ f ih =>
    intro n u m1 hm u0 un hR
    obtain ⟨hfr, hB, h00, hin, hpl⟩ := id hR
    have hr : ∀ j, 0 ≤ j → j < n → 0 ≤ m1 11 j ∧ m1 11 j < cnt := fun j j0 j1 => by have := hb.2.2.2 _ (hin j j0 j1); exact ⟨this.1, this.2.1⟩
    have hn := few (by have := hb.2.1; omega) hr hB.2.1
    have hc := hb.2.2.1
    rw [f_X6_reaches_L41, ck1_of (by omega) (by omega), ck1_of (by omega) (by omega)]
    by_cases hx : n ≤ u
    · have e : u = n := by omega
      subst e
      rw [if_pos (Int.le_refl _)]
      exact ⟨u, m1, hR, rfl⟩
    · have hv := hb.2.2.2 _ (hin u u0 (by omega))
      have har := ar_le (MG (m 9) (m1 11 u) 0)
      rw [if_neg hx, ckA_of u0 (by omega), ckA_of hv.1 (by omega), hfr 9 (by decide) (by decide)]
      obtain ⟨n', m', hR', un', hv', e'⟩ := mreach_in hb u u0 (m1 11 u) (fun (x2_62 : Int) (m_62 : Bd) => f_X6_reaches_L41 N k f x2_62 (u + 1) m_62) N n 0 m1 (by omega) (by omega) (by omega) (by omega) rfl hR
      rw [e']
      have S' : RM m m' S cnt root n' (u + 1) 0 := ⟨hR'.1, hR'.2.1.next (by rw [hv']; exact Int.le_refl _) (by omega) (by omega), hR'.2.2⟩
      exact ih n' (u + 1) m' (by omega) (by omega) (by omega) S'
theorem mreach_init {m : Bd} {cnt : Int} (hc : cnt ≤ 3400) (h10 : m 10 0 = cnt) (x1 : Int) (k : Bd → Option (Int × Bd)) : ∀ (f : Nat) (x : Int) (m1 : Bd), cnt - x < f → 0 ≤ x → x ≤ cnt → (∀ s : Nat, s ≠ 12 → m1 s = m s) → (∀ j, 0 ≤ j → j < x → m1 12 j = -1) → ∃ m', (∀ s : Nat, s ≠ 12 → m' s = m s) ∧ (∀ j, 0 ≤ j → j < cnt → m' 12 j = -1) ∧ f_X6_reaches_L2 x1 k f x m1 = k m' := by
  intro f
  induction f with
  | zero => intro x m1 h0 _ h2; omega
  | succ f ih =>
    intro x m1 h0 h1 h2 hfr hd
    rw [f_X6_reaches_L2, hfr 10 (by decide), h10, ck1_of (by omega) (by omega), ck1_of (by omega) (by omega)]
    by_cases hx : cnt ≤ x
    · rw [if_pos hx]
      exact ⟨m1, hfr, fun j j0 j1 => hd j j0 (by omega), rfl⟩
    · rw [if_neg hx, ckA_of h1 (by omega)]
      refine ih (x + 1) _ (by omega) (by omega) (by omega) (fun s hs => by rw [bS_ne _ _ hs]; exact hfr s hs) (fun j j0 j1 => ?_)
      rw [bS_eq]
      by_cases hj : j = x
      · subst hj; rw [aS_eq]
      · rw [aS_ne _ _ hj]; exact hd j j0 (by omega)
/-- reaches: a line whose places make the graph of what is reached -/
theorem mreach_of {N : Nat} (hN : 4000 ≤ N) {m : Bd} {S : Int → Prop} {cnt root : Int} (hb : MS m S cnt) (hr : S root) : ∃ n m' B, f_X6_reaches N m root = some (n, m') ∧ (∀ s : Nat, s ≠ 11 → s ≠ 12 → m' s = m s) ∧ MLine m' n B ∧ BF B n ∧ RE B n ∧ Eqv B 0 (MG (m 9)) root := by
  have hc := hb.2.2.1
  have hc1 := hb.2.1
  have hrv := hb.2.2.2 root hr
  unfold f_X6_reaches
  obtain ⟨m1, f1, f2, f3⟩ := mreach_init hc hb.1 root (fun (m_2 : Bd) =>
      ckA root 3400 <|
      f_X6_reaches_L41 N (fun (x2_41 : Int) (m_41 : Bd) =>
          some (x2_41, m_41)) N 1 0 (bS (bS m_2 11 (aS (m_2 11) 0 root)) 12 (aS (m_2 12) root 0))) N 0 m (by omega) (by omega) (by omega) (fun _ _ => rfl) (fun j _ _ => by omega)
  rw [f3, ckA_of hrv.1 (by omega)]
  generalize hm2 : bS (bS m1 11 (aS (m1 11) 0 root)) 12 (aS (m1 12) root 0) = m2
  have w11 : m2 11 = aS (m1 11) 0 root := by rw [← hm2, bS_ne _ _ (by decide), bS_eq]
  have w12 : m2 12 = aS (m1 12) root 0 := by rw [← hm2, bS_eq]
  have S0 : RM m m2 S cnt root 1 0 0 := by
    refine ⟨fun s s4 s5 => by rw [← hm2, bS_ne _ _ s5, bS_ne _ _ s4]; exact f1 s s5, BI.init _ _, by rw [w11, aS_eq], fun j j0 j1 => ?_, fun v v0 v1 => ?_⟩
    · have : j = 0 := by omega
      subst this
      rw [w11, aS_eq]; exact hr
    · rw [w11, w12]
      by_cases hv : v = root
      · right; rw [hv, aS_eq]; exact ⟨0, by omega, by omega, rfl, aS_eq _ _ _⟩
      · left
        rw [aS_ne _ _ hv]
        refine ⟨f2 v v0 v1, fun j j0 j1 => ?_⟩
        have : j = 0 := by omega
        subst this
        rw [aS_eq]; exact fun e => hv e.symm
  obtain ⟨n, m', hR, e⟩ := mreach_out hN hb (fun (x2_41 : Int) (m_41 : Bd) => some (x2_41, m_41)) N 1 0 m2 (by omega) (by omega) (by omega) S0
  obtain ⟨hfr, hBI, h00, hin, hpl⟩ := hR
  have hnode : ∀ k, 0 ≤ k → k < n → 0 ≤ m' 11 k ∧ m' 11 k < cnt ∧ PW (m 9 (m' 11 k)) ∧ MG (m 9) (m' 11 k) 0 ≤ 6 ∧ ∀ i, 0 ≤ i → i < ar (MG (m 9) (m' 11 k) 0) → S (MG (m 9) (m' 11 k) (1 + i)) := fun k k0 k1 => hb.2.2.2 _ (hin k k0 k1)
  have hn := few (cnt := cnt) (by omega) (fun j j0 j1 => ⟨(hnode j j0 j1).1, (hnode j j0 j1).2.1⟩) hBI.2.1
  obtain ⟨B, hBk, hW, hBF, hRE, hEq⟩ := hBI.graph (fun k k0 k1 => ⟨(MG_rng (hnode k k0 k1).2.2.1).1, (hnode k k0 k1).2.2.2.1⟩)
  refine ⟨n, m', B, e, hfr, ⟨hBI.1, by omega, fun k k0 k1 => ?_⟩, hBF, hRE, ?_⟩
  · have q := hnode k k0 k1
    have b := hBk k k0 k1
    rw [hfr 9 (by decide) (by decide)]
    refine ⟨q.1, by omega, q.2.2.1, q.2.2.2.1, b.1, fun i i0 i1 => ?_⟩
    rw [b.1] at i1
    have p := b.2 i i0 i1
    have hS := hb.2.2.2 _ (q.2.2.2.2 i i0 i1)
    refine ⟨hS.1, by omega, ?_, p.1, p.2.1⟩
    rcases hpl _ hS.1 hS.2.1 with ⟨_, z⟩ | ⟨x, x0, x1, z, hx⟩
    · exact absurd p.2.2 (z _ p.1 p.2.1)
    · rw [z]
      exact hBI.2.1 _ _ p.1 p.2.1 x0 x1 (p.2.2.trans hx.symm)
  · have := hEq 0 (by omega) (by have := hBI.1; omega)
    rw [h00] at this
    exact this
/-- what makes writes of class c -/
def MW (m : Bd) (B : GG) (c w : Int) : Prop := w = pk (B (m 15 c) 0) (if 0 < ar (B (m 15 c) 0) then m 13 (B (m 15 c) 1) else 0) (if 1 < ar (B (m 15 c) 0) then m 13 (B (m 15 c) 2) else 0)
theorem makes_loop {m : Bd} {n g : Int} {B : GG} (h : MLine m n B) (h17 : m 17 0 = g) (hg : g ≤ 40) (hF : FO (m 13) n g) (hf : ∀ c, 0 ≤ c → c < g → 0 ≤ m 15 c ∧ m 15 c < n ∧ m 13 (m 15 c) = c) (k : Bd → Option (Int × Bd)) : ∀ (f : Nat) (x3 : Int) (m1 : Bd), g - x3 < f → 0 ≤ x3 → x3 ≤ g → (∀ s : Nat, s ≠ 16 → m1 s = m s) → (∀ c, 0 ≤ c → c < x3 → MW m B c (m1 16 c)) → ∃ m', (∀ s : Nat, s ≠ 16 → m' s = m s) ∧ (∀ c, 0 ≤ c → c < g → MW m B c (m' 16 c)) ∧ f_X6_makes_L19 k f x3 m1 = k m' := by
  have hn := h.2.1
  have hW := h.wg
  intro f
  induction f with
  | zero => intro x3 m1 h0 _ h2; omega
  | succ f ih =>
    intro x3 m1 h0 h1 h2 hfr hd
    rw [f_X6_makes_L19, hfr 17 (by decide), h17, ck1_of (by omega) (by omega), ck1_of (by omega) (by omega)]
    by_cases hx : g ≤ x3
    · rw [if_pos hx]
      exact ⟨m1, hfr, fun c c0 c1 => hd c c0 (by omega), rfl⟩
    · have qf := hf x3 h1 (by omega)
      have q := h.2.2 _ qf.1 qf.2.1
      have rr := MG_rng q.2.2.1
      have har := ar_le (B (m 15 x3) 0)
      have hL1 : MLine m1 n B := h.frame (hfr 9 (by decide)) (hfr 11 (by decide)) (hfr 12 (by decide))
      have rng : ∀ i, 0 ≤ i → i < ar (B (m 15 x3) 0) → 0 ≤ m 13 (B (m 15 x3) (1 + i)) ∧ m 13 (B (m 15 x3) (1 + i)) < 4096 := by
        intro i i0 i1
        have p := (hW _ qf.1 qf.2.1).2.2 i i0 i1
        have := hF.1 _ p.1 p.2
        omega
      have key : ∀ w, MW m B x3 w → ∃ m', (∀ s : Nat, s ≠ 16 → m' s = m s) ∧ (∀ c, 0 ≤ c → c < g → MW m B c (m' 16 c)) ∧ f_X6_makes_L19 k f (x3 + 1) (bS m1 16 (aS (m1 16) x3 w)) = k m' := by
        intro w hw
        refine ih (x3 + 1) _ (by omega) (by omega) (by omega) (fun s hs => by rw [bS_ne _ _ hs]; exact hfr s hs) (fun c c0 c1 => ?_)
        rw [bS_eq]
        by_cases hc : c = x3
        · subst hc; rw [aS_eq]; exact hw
        · rw [aS_ne _ _ hc]; exact hd c c0 (by omega)
      have har' := ar_le (MG (m 9) (m 11 (m 15 x3)) 0)
      rw [if_neg hx, if_neg (by omega), ckA_of h1 (by omega), hfr 15 (by decide), ckA_of qf.1 (by omega), hfr 11 (by decide), ckA_of q.1 q.2.1, hfr 9 (by decide), headOf_of q.2.2.1, bn_some, parts_ar rr.1 rr.2.1, bn_some, jn_eq, ck1_of (by omega) (by omega), ← q.2.2.2.2.1]
      have hb0 : 0 ≤ B (m 15 x3) 0 ∧ B (m 15 x3) 0 < 8 := by rw [q.2.2.2.2.1]; exact ⟨rr.1, rr.2.1⟩
      by_cases ha0 : ar (B (m 15 x3) 0) ≤ 0
      · rw [if_pos ha0]
        dsimp only
        rw [jn_eq, ck1_of (by omega) (by omega), if_pos (by omega)]
        dsimp only
        rw [pk_node hb0.1 hb0.2 (by omega) (by omega) (by omega) (by omega), bn_some, ckA_of h1 (by omega)]
        exact key _ (by unfold MW; rw [if_neg (by omega), if_neg (by omega)])
      · have r0 := rng 0 (by omega) (by omega)
        rw [if_neg ha0, classOf_of hL1 qf.1 qf.2.1 (by omega) (by omega), bn_some, hfr 13 (by decide)]
        dsimp only
        rw [jn_eq, ck1_of (by omega) (by omega)]
        by_cases ha1 : ar (B (m 15 x3) 0) ≤ 1
        · rw [if_pos ha1]
          dsimp only
          rw [pk_node hb0.1 hb0.2 r0.1 r0.2 (by omega) (by omega), bn_some, ckA_of h1 (by omega)]
          exact key _ (by unfold MW; rw [if_pos (by omega), if_neg (by omega)]; try rfl)
        · have r1 := rng 1 (by omega) (by omega)
          rw [if_neg ha1, classOf_of hL1 qf.1 qf.2.1 (by omega) (by omega), bn_some, hfr 13 (by decide)]
          dsimp only
          rw [pk_node hb0.1 hb0.2 r0.1 r0.2 r1.1 r1.2, bn_some, ckA_of h1 (by omega)]
          exact key _ (by unfold MW; rw [if_pos (by omega), if_pos (by omega)]; try rfl)
/-- the outcome of makes -/
def MMade (G : GG) (root : Int) (m' : Bd) (g : Int) : Prop := (1 ≤ g ∧ g ≤ 40 ∧ ∃ C : GG, Can C g ∧ Eqv C 0 G root ∧ ∀ c, 0 ≤ c → c < g → m' 16 c = pk (C c 0) (C c 1) (C c 2)) ∨ (g = 41 ∧ Big G root)
theorem makes_of {N : Nat} (hN : 4000 ≤ N) {m : Bd} {S : Int → Prop} {cnt root : Int} (hb : MS m S cnt) (hr : S root) : ∃ g m', f_X6_makes N m root = some (g, m') ∧ (∀ s : Nat, s < 11 ∨ 17 < s → m' s = m s) ∧ m' 17 0 = g ∧ MMade (MG (m 9)) root m' g := by
  unfold f_X6_makes
  obtain ⟨n, m1, B, e1, f1, hL, hBF, hRE, hEq⟩ := mreach_of hN hb hr
  rw [e1, bn_some]
  dsimp only
  obtain ⟨g, m2, e2, hfr, hT⟩ := tells_of hN hL (most := 40) (by omega) (by omega)
  rw [e2, bn_some]
  dsimp only
  have hW := hL.wg
  have fr2 : ∀ s : Nat, s < 11 ∨ 17 < s → m2 s = m s := fun s hs => by rw [hfr s (by omega) (by omega) (by omega)]; exact f1 s (by omega) (by omega)
  generalize hm3 : bs0 m2 17 g = m3
  have w17 : m3 17 0 = g := by rw [← hm3, bs0_eq]
  have fr3 : ∀ s : Nat, s ≠ 17 → m3 s = m2 s := fun s hs => by rw [← hm3, bs0_ne _ _ hs]
  have hL3 : MLine m3 n B := hL.frame (by rw [fr3 9 (by decide), hfr 9 (by decide) (by decide) (by decide)]) (by rw [fr3 11 (by decide), hfr 11 (by decide) (by decide) (by decide)]) (by rw [fr3 12 (by decide), hfr 12 (by decide) (by decide) (by decide)])
  rcases hT with ⟨g1, g2, hF, hA, hf⟩ | ⟨hg, t, f, hf1, hf2⟩
  · have e13 : m3 13 = m2 13 := fr3 13 (by decide)
    have e15 : m3 15 = m2 15 := fr3 15 (by decide)
    obtain ⟨m4, q1, q2, q3⟩ := makes_loop hL3 w17 g2 (by rw [e13]; exact hF) (by rw [e13, e15]; exact hf) (fun (m_19 : Bd) => some (m_19 17 0, m_19)) N 0 m3 (by omega) (by omega) (by omega) (fun _ _ => rfl) (fun c _ _ => by omega)
    rw [q3]
    try dsimp only
    rw [q1 17 (by decide), w17]
    refine ⟨g, m4, rfl, fun s hs => by rw [q1 s (by omega), fr3 s (by omega)]; exact fr2 s hs, by rw [q1 17 (by decide)]; exact w17, Or.inl ⟨g1, g2, fun v j => if j = 0 then B (m2 15 v) 0 else if j - 1 < ar (B (m2 15 v) 0) then m2 13 (B (m2 15 v) j) else 0, ?_⟩⟩
    generalize hC : (fun v j => if j = 0 then B (m2 15 v) 0 else if j - 1 < ar (B (m2 15 v) 0) then m2 13 (B (m2 15 v) j) else 0 : GG) = C
    have C0 : ∀ v, C v 0 = B (m2 15 v) 0 := fun v => by rw [← hC]; exact if_pos rfl
    have C1 : ∀ v i, 0 ≤ i → C v (1 + i) = if i < ar (B (m2 15 v) 0) then m2 13 (B (m2 15 v) (1 + i)) else 0 := fun v i hi => by
      rw [← hC]
      show (if 1 + i = 0 then _ else if 1 + i - 1 < _ then _ else _) = _
      rw [if_neg (by omega), show 1 + i - 1 = i by omega]
    have hq := quo (C := C) hL.1 hW hBF hRE hF hA (fun k k0 k1 => by
      have lo := hF.1 k k0 k1
      have ff := hf _ lo.1 lo.2
      have hE := (hA _ k ff.1 ff.2.1 k0 k1).mp ff.2.2
      refine ⟨by rw [C0]; exact hE.head, fun i i0 i1 => ?_⟩
      have hi : i < ar (B (m2 15 (m2 13 k)) 0) := by rw [hE.head]; exact i1
      rw [C1 _ i i0, if_pos hi]
      have pa := (hW _ ff.1 ff.2.1).2.2 i i0 hi
      have pb := (hW k k0 k1).2.2 i i0 i1
      exact (hA _ _ pa.1 pa.2 pb.1 pb.2).mpr (hE.part ⟨i0, hi⟩)) (fun v i v0 v1 hai i2 => by
      rw [C0] at hai
      have := ar_le (B (m2 15 v) 0)
      rw [C1 v i (by omega), if_neg (by omega)])
    refine ⟨hq.1, ?_, fun c c0 c1 => ?_⟩
    · have c0 : m2 13 0 = 0 := by
        have a := hF.1 0 (by omega) (by have := hL.1; omega)
        rcases Int.lt_or_le 0 (m2 13 0) with z | z
        · obtain ⟨j, j0, j1, _⟩ := hF.2.2 0 (by omega) (by have := hL.1; omega) 0 (by omega) z
          omega
        · omega
      have := hq.2 0 (by omega) (by have := hL.1; omega)
      rw [c0] at this
      exact this.trans hEq
    · have w := q2 c c0 c1
      unfold MW at w
      rw [e13, e15] at w
      rw [w, C0, show (1 : Int) = 1 + 0 by omega, C1 c 0 (by omega), show (2 : Int) = 1 + 1 by omega, C1 c 1 (by omega)]
      rfl
  · subst hg
    rw [show N = (N - 1) + 1 by omega, f_X6_makes_L19, w17, ck1_of (by omega) (by omega), ck1_of (by omega) (by omega), if_neg (by omega), if_pos (by omega)]
    exact ⟨_, m3, rfl, fun s hs => by rw [fr3 s (by omega)]; exact fr2 s hs, w17, Or.inr ⟨rfl, (Big.of hL.1 hW hRE t f (fun a ha => hf1 a (by omega)) (fun a b hab hb => hf2 a b hab (by omega))).eqv hEq⟩⟩
