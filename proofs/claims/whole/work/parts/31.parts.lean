/-! CLASSES: numbered as they come, refined, and the graph of classes -/
def FO (c : Int → Int) (n g : Int) : Prop := (∀ k, 0 ≤ k → k < n → 0 ≤ c k ∧ c k < g) ∧ (∀ w, 0 ≤ w → w < g → ∃ k, 0 ≤ k ∧ k < n ∧ c k = w) ∧ (∀ k, 0 ≤ k → k < n → ∀ w, 0 ≤ w → w < c k → ∃ j, 0 ≤ j ∧ j < k ∧ c j = w)
def Finer (c' c : Int → Int) (n : Int) : Prop := ∀ j k, 0 ≤ j → j < n → 0 ≤ k → k < n → c' j = c' k → c j = c k
def Fst (c : Int → Int) (n v k : Int) : Prop := 0 ≤ k ∧ k < n ∧ c k = v ∧ ∀ j, 0 ≤ j → j < k → c j ≠ v
theorem FO.fst {c : Int → Int} {n g v : Int} (h : FO c n g) (h0 : 0 ≤ v) (h1 : v < g) : ∃ k, Fst c n v k := by
  obtain ⟨k, a, b, e⟩ := h.2.1 v h0 h1
  obtain ⟨k', q0, ⟨q1, q2⟩, q3, q4⟩ := least_int (fun k => k < n ∧ c k = v) k a ⟨b, e⟩
  exact ⟨k', q0, q1, q2, fun j j0 j1 e => q4 j j0 j1 ⟨by omega, e⟩⟩
theorem Fst.next {c c' : Int → Int} {n g g' v k k2 : Int} (h : FO c n g) (h' : FO c' n g') (hf : Finer c' c n) (h0 : 0 ≤ v) (h1 : Fst c n v k) (h2 : Fst c n (v + 1) k2) : c' k < c' k2 := by
  obtain ⟨a0, a1, a2, a3⟩ := h1
  obtain ⟨b0, b1, b2, b3⟩ := h2
  have hk : k < k2 := by
    obtain ⟨j, j0, j1, j2⟩ := h.2.2 k2 b0 b1 v h0 (by omega)
    rcases Int.lt_or_le j k with q | q
    · exact absurd j2 (a3 j j0 q)
    · omega
  rcases Int.lt_trichotomy (c' k) (c' k2) with q | q | q
  · exact q
  · have := hf k k2 a0 a1 b0 b1 q
    omega
  · exfalso
    obtain ⟨j, j0, j1, j2⟩ := h'.2.2 k a0 a1 (c' k2) (h'.1 k2 b0 b1).1 q
    have := hf j k2 j0 (by omega) b0 b1 j2
    exact b3 j j0 (by omega) (by omega)
theorem Fst.far {c c' : Int → Int} {n g g' : Int} (h : FO c n g) (h' : FO c' n g') (hf : Finer c' c n) : ∀ (d : Nat) {v k k2 : Int}, 0 ≤ v → v + d < g → Fst c n v k → Fst c n (v + d) k2 → c' k + d ≤ c' k2 := by
  intro d
  induction d with
  | zero =>
    intro v k k2 h0 h1 q1 q2
    have e : k = k2 := by
      obtain ⟨a0, a1, a2, a3⟩ := q1
      obtain ⟨b0, b1, b2, b3⟩ := q2
      rcases Int.lt_trichotomy k k2 with q | q | q
      · exact absurd (by omega) (b3 k a0 q)
      · exact q
      · exact absurd (by omega) (a3 k2 b0 q)
    subst e
    omega
  | succ d ih =>
    intro v k k2 h0 h1 q1 q2
    obtain ⟨k3, q3⟩ := h.fst (v := v + d) (by omega) (by omega)
    have a := ih h0 (by omega) q1 q3
    have b := Fst.next h h' hf (by omega) q3 (by rw [show v + (d : Int) + 1 = v + ((d + 1 : Nat) : Int) by omega]; exact q2)
    omega
theorem FO.mono {c c' : Int → Int} {n g g' : Int} (h : FO c n g) (h' : FO c' n g') (hf : Finer c' c n) (hg : 1 ≤ g) : g ≤ g' := by
  obtain ⟨k, hk⟩ := h.fst (v := 0) (by omega) (by omega)
  obtain ⟨k2, hk2⟩ := h.fst (v := g - 1) (by omega) (by omega)
  have := Fst.far h h' hf (g - 1).toNat (v := 0) (by omega) (by omega) hk (by rw [show 0 + ((g - 1).toNat : Int) = g - 1 by omega]; exact hk2)
  have a := (h'.1 k hk.1 hk.2.1).1
  have b := (h'.1 k2 hk2.1 hk2.2.1).2
  omega
theorem FO.same {c c' : Int → Int} {n g : Int} (h : FO c n g) (h' : FO c' n g) (hf : Finer c' c n) : ∀ k, 0 ≤ k → k < n → c k = c' k := by
  have key : ∀ v k, 0 ≤ v → v < g → Fst c n v k → c' k = v := by
    intro v k v0 v1 hk
    obtain ⟨k0, hk0⟩ := h.fst (v := 0) (by omega) (by omega)
    obtain ⟨k2, hk2⟩ := h.fst (v := g - 1) (by omega) (by omega)
    have a := Fst.far h h' hf v.toNat (v := 0) (by omega) (by omega) hk0 (by rw [show 0 + (v.toNat : Int) = v by omega]; exact hk)
    have b := Fst.far h h' hf (g - 1 - v).toNat (v := v) (by omega) (by omega) hk (by rw [show v + ((g - 1 - v).toNat : Int) = g - 1 by omega]; exact hk2)
    have a' := (h'.1 k0 hk0.1 hk0.2.1).1
    have b' := (h'.1 k2 hk2.1 hk2.2.1).2
    omega
  intro k k0 k1
  have hw := h'.1 k k0 k1
  obtain ⟨kw, hkw⟩ := h.fst hw.1 hw.2
  have e := key _ kw hw.1 hw.2 hkw
  have := hf kw k hkw.1 hkw.2.1 k0 k1 e
  rw [hkw.2.2.1] at this
  exact this.symm
/-- the classes tell the trees up to a depth -/
def Tell (t : Nat) (c : Int → Int) (B : GG) (n : Int) : Prop := ∀ j k, 0 ≤ j → j < n → 0 ≤ k → k < n → (c j = c k ↔ EqL t B j B k)
def TellAll (c : Int → Int) (B : GG) (n : Int) : Prop := ∀ j k, 0 ≤ j → j < n → 0 ≤ k → k < n → (c j = c k ↔ Eqv B j B k)
theorem Tell.finer {t : Nat} {c c' : Int → Int} {B : GG} {n : Int} (h : Tell t c B n) (h' : Tell (t + 1) c' B n) : Finer c' c n := fun j k j0 j1 k0 k1 e => (h j k j0 j1 k0 k1).mpr (((h' j k j0 j1 k0 k1).mp e).mono (by omega))
theorem EqL.settle {t : Nat} {B : GG} {n : Int} (hW : WG B n) (h : ∀ j k, 0 ≤ j → j < n → 0 ≤ k → k < n → EqL t B j B k → EqL (t + 1) B j B k) : ∀ (s : Nat) (j k : Int), 0 ≤ j → j < n → 0 ≤ k → k < n → EqL t B j B k → EqL (t + s) B j B k := by
  intro s
  induction s with
  | zero => intro j k _ _ _ _ q; exact q
  | succ s ih =>
    intro j k j0 j1 k0 k1 q
    have q1 := EqL.step.mp (h j k j0 j1 k0 k1 q)
    rw [show t + (s + 1) = (t + s) + 1 by omega]
    refine EqL.step.mpr ⟨q1.1, fun i i0 i1 => ?_⟩
    have a := (hW j j0 j1).2.2 i i0 i1
    have b := (hW k k0 k1).2.2 i i0 (by rw [← q1.1]; exact i1)
    exact ih _ _ a.1 a.2 b.1 b.2 (q1.2 i i0 i1)
/-- as many classes as before: they tell the trees -/
theorem Tell.all {t : Nat} {c c' : Int → Int} {B : GG} {n g : Int} (hW : WG B n) (hc : FO c n g) (hc' : FO c' n g) (h : Tell t c B n) (h' : Tell (t + 1) c' B n) : TellAll c' B n ∧ ∀ k, 0 ≤ k → k < n → c k = c' k := by
  have hs := hc.same hc' (h.finer h')
  have hset : ∀ j k, 0 ≤ j → j < n → 0 ≤ k → k < n → EqL t B j B k → EqL (t + 1) B j B k := by
    intro j k j0 j1 k0 k1 q
    have := (h j k j0 j1 k0 k1).mpr q
    rw [hs j j0 j1, hs k k0 k1] at this
    exact (h' j k j0 j1 k0 k1).mp this
  refine ⟨fun j k j0 j1 k0 k1 => ⟨fun e p => ?_, fun e => ?_⟩, hs⟩
  · have q := ((h' j k j0 j1 k0 k1).mp e).mono (s := t) (by omega)
    exact EqL.settle hW hset (p.length + 1) j k j0 j1 k0 k1 q p (by omega)
  · exact (h' j k j0 j1 k0 k1).mpr (EqL.of_eqv e)
/-- the graph of the classes is the least one of the tree -/
theorem quo {B C : GG} {c : Int → Int} {n g : Int} (hn : 1 ≤ n) (hW : WG B n) (hB : BF B n) (hR : RE B n) (hc : FO c n g) (ht : TellAll c B n)
    (hC : ∀ k, 0 ≤ k → k < n → C (c k) 0 = B k 0 ∧ ∀ i, 0 ≤ i → i < ar (B k 0) → C (c k) (1 + i) = c (B k (1 + i))) (hZ : Zer C g) : Can C g ∧ ∀ k, 0 ≤ k → k < n → Eqv C (c k) B k := by
  have hE : ∀ k, 0 ≤ k → k < n → Eqv C (c k) B k := by
    intro k k0 k1
    refine Eqv.bisim (fun u v => 0 ≤ v ∧ v < n ∧ u = c v) ?_ ⟨k0, k1, rfl⟩
    rintro u v ⟨v0, v1, rfl⟩
    refine ⟨(hC v v0 v1).1, fun i i0 i1 => ?_⟩
    rw [(hC v v0 v1).1] at i1
    have a := (hW v v0 v1).2.2 i i0 i1
    exact ⟨a.1, a.2, (hC v v0 v1).2 i i0 i1⟩
  have c0 : c 0 = 0 := by
    have a := hc.1 0 (by omega) (by omega)
    rcases Int.lt_or_le 0 (c 0) with q | q
    · obtain ⟨j, j0, j1, _⟩ := hc.2.2 0 (by omega) (by omega) 0 (by omega) q
      omega
    · omega
  have g1 : 1 ≤ g := by have := hc.1 0 (by omega) (by omega); omega
  refine ⟨⟨g1, ?_, ?_, ?_, ?_, hZ⟩, hE⟩
  · intro v v0 v1
    obtain ⟨k, k0, k1, rfl⟩ := hc.2.1 v v0 v1
    have a := hW k k0 k1
    rw [(hC k k0 k1).1]
    refine ⟨a.1, a.2.1, fun i i0 i1 => ?_⟩
    rw [(hC k k0 k1).2 i i0 i1]
    have b := a.2.2 i i0 i1
    exact hc.1 _ b.1 b.2
  · intro u i u0 u1 i0 i1 w w0 w1
    obtain ⟨k, k0, k1, k2, k3⟩ := hc.fst u0 u1
    subst k2
    rw [(hC k k0 k1).1] at i1
    rw [(hC k k0 k1).2 i i0 i1] at w1
    have b := (hW k k0 k1).2.2 i i0 i1
    obtain ⟨j, j0, j1, j2⟩ := hc.2.2 _ b.1 b.2 w w0 w1
    rcases hB k i k0 k1 i0 i1 j j0 j1 with q | ⟨u', i', d1, d2, d3, d4, d5⟩
    · left; rw [← j2, q, c0]
    · right
      have hi2 := ar_le (B u' 0)
      have hi3 := ar_le (B k 0)
      have hu' : u' ≤ k := by omega
      refine ⟨c u', i', (hc.1 u' d1 (by omega)).1, d2, by rw [(hC u' d1 (by omega)).1]; exact d3, ?_, by rw [(hC u' d1 (by omega)).2 i' d2 d3, d5, j2]⟩
      rcases Int.lt_or_le u' k with q | q
      · rcases Int.lt_trichotomy (c u') (c k) with z | z | z
        · omega
        · exact absurd z (k3 u' d1 q)
        · obtain ⟨j', e0, e1, e2⟩ := hc.2.2 u' d1 (by omega) (c k) (hc.1 k k0 k1).1 z
          exact absurd e2 (k3 j' e0 (by omega))
      · have : u' = k := by omega
        subst this
        omega
  · intro v v0 v1
    obtain ⟨k, k0, k1, k2, k3⟩ := hc.fst (by omega) v1
    have kpos : 1 ≤ k := by
      rcases Int.lt_or_le k 1 with q | q
      · have : k = 0 := by omega
        subst this
        omega
      · exact q
    obtain ⟨u, i, d1, d2, d3, d4, d5⟩ := hR k kpos k1
    refine ⟨c u, i, (hc.1 u d1 (by omega)).1, ?_, d3, by rw [(hC u d1 (by omega)).1]; exact d4, by rw [(hC u d1 (by omega)).2 i d3 d4, d5, k2]⟩
    rcases Int.lt_trichotomy (c u) v with z | z | z
    · exact z
    · exact absurd z (k3 u d1 d2)
    · obtain ⟨j', e0, e1, e2⟩ := hc.2.2 u d1 (by omega) v (by omega) z
      exact absurd e2 (k3 j' e0 (by omega))
  · intro u v u0 u1 v0 v1 e
    obtain ⟨j, j0, j1, rfl⟩ := hc.2.1 u u0 u1
    obtain ⟨k, k0, k1, rfl⟩ := hc.2.1 v v0 v1
    exact (ht j k j0 j1 k0 k1).mpr ((hE j j0 j1).symm.trans (e.trans (hE k k0 k1)))
