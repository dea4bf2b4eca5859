/-! Bits of longs -/
def bt (v j : Int) : Bool := (Int64.ofInt v).toBitVec.getLsbD j.toNat
theorem sh_all : ∀ j : Fin 64, (((Int32.ofInt (j.val : Int)).toInt64 &&& 63).toBitVec.smod 64).toNat = j.val := by decide +kernel
theorem bt_get {v j : Int} (j0 : 0 ≤ j) (j1 : j < 64) : l_and (l_shr v j) 1 = if bt v j = true then 1 else 0 := by
  have hs := sh_all ⟨j.toNat, by omega⟩
  dsimp only at hs
  rw [show ((j.toNat : Nat) : Int) = j by omega] at hs
  unfold l_and l_shr bt
  rw [z_ol]
  generalize (Int32.ofInt j).toInt64 &&& 63 = sh at *
  have e0 : ((Int64.ofInt v >>> sh).toBitVec).getLsbD 0 = (Int64.ofInt v).toBitVec.getLsbD j.toNat := by
    rw [Int64.toBitVec_shiftRight, BitVec.getLsbD_sshiftRight', hs]
    have : j.toNat < 64 := by omega
    simp [this]
  have key : ((Int64.ofInt v >>> sh) &&& Int64.ofInt 1).toBitVec = BitVec.setWidth 64 (BitVec.ofBool ((Int64.ofInt v >>> sh).toBitVec.getLsbD 0)) := by
    rw [Int64.toBitVec_and, show (Int64.ofInt 1).toBitVec = 1#64 from rfl]
    exact BitVec.and_one_eq_setWidth_ofBool_getLsbD
  show ((Int64.ofInt v >>> sh) &&& Int64.ofInt 1).toBitVec.toInt = _
  rw [key, e0]
  cases (Int64.ofInt v).toBitVec.getLsbD j.toNat <;> decide
theorem bt_or (v w j : Int) : bt (l_or v w) j = (bt v j || bt w j) := by
  unfold bt l_or
  rw [z_ol, Int64.toBitVec_or, BitVec.getLsbD_or]
theorem bt_shl_all : ∀ p : Fin 40, ∀ j : Fin 40, bt (l_shl 1 (p.val : Int)) (j.val : Int) = decide (p = j) := by decide +kernel
theorem bt_shl {p j : Int} (p0 : 0 ≤ p) (p1 : p < 40) (j0 : 0 ≤ j) (j1 : j < 40) : bt (l_shl 1 p) j = true ↔ p = j := by
  have h := bt_shl_all ⟨p.toNat, by omega⟩ ⟨j.toNat, by omega⟩
  dsimp only at h
  rw [show ((p.toNat : Nat) : Int) = p by omega, show ((j.toNat : Nat) : Int) = j by omega] at h
  rw [h, decide_eq_true_iff]
  constructor
  · intro e
    have := congrArg Fin.val e
    dsimp only at this
    omega
  · intro e
    subst e
    rfl
theorem bt_zero (j : Int) : bt 0 j = false := by
  unfold bt
  rw [show (Int64.ofInt 0).toBitVec = 0#64 from rfl, BitVec.getLsbD_zero]
/-- the test of a bit, as both programs write it -/
theorem bt_test {α : Type} {v j : Int} (j0 : 0 ≤ j) (j1 : j < 40) (o1 o2 : Option α) : (ckL (l_and (l_shr v j) 1) <| ck1 (l_cmp (l_and (l_shr v j) 1) 1) <| if (l_cmp (l_and (l_shr v j) 1) 1) ≠ 0 then o1 else o2) = if bt v j = true then o2 else o1 := by
  rw [bt_get j0 (by omega)]
  by_cases c : bt v j = true
  · rw [if_pos c, if_pos c, ckL_of (by omega) (by omega), ck1_of (by decide) (by decide), if_neg (by decide)]
  · rw [if_neg c, if_neg c, ckL_of (by omega) (by omega), ck1_of (by decide) (by decide), if_pos (by decide)]
/-! What is reached by one step or more -/
def Eg (X : Gr) (u v : Int) : Prop := ∃ i, 0 ≤ i ∧ i < ar (GP X u 0) ∧ GP X u (1 + i) = v
def Vw (X : Gr) : Nat → Int → Int → Prop
  | 0, u, v => Eg X u v
  | b + 1, u, v => Vw X b u v ∨ (Vw X b u b ∧ Vw X b b v)
def Pr (X : Gr) (k : Int) : Nat → Int → Prop
  | 0, v => Eg X k v
  | n + 1, v => ∃ w, 0 ≤ w ∧ w < X.1 ∧ Pr X k n w ∧ Eg X w v
def Rc (X : Gr) (k v : Int) : Prop := ∃ n, Pr X k n v
theorem Eg.rng {X : Gr} (hX : GOK X) {u v : Int} (u0 : 0 ≤ u) (u1 : u < X.1) (h : Eg X u v) : 0 ≤ v ∧ v < X.1 := by
  obtain ⟨i, i0, i1, e⟩ := h
  have := (hX.1.2.1 u u0 u1).2.2 i i0 i1
  omega
theorem Pr.rng {X : Gr} (hX : GOK X) {k : Int} (k0 : 0 ≤ k) (k1 : k < X.1) : ∀ (n : Nat) {v : Int}, Pr X k n v → 0 ≤ v ∧ v < X.1 := by
  intro n
  cases n with
  | zero => intro v h; exact Eg.rng hX k0 k1 h
  | succ n =>
    rintro v ⟨w, w0, w1, _, h⟩
    exact Eg.rng hX w0 w1 h
theorem Rc.trans {X : Gr} {u w v : Int} (w0 : 0 ≤ w) (w1 : w < X.1) (h : Rc X u w) (k : Rc X w v) : Rc X u v := by
  obtain ⟨m, hm⟩ := h
  obtain ⟨n, hn⟩ := k
  induction n generalizing v with
  | zero => exact ⟨m + 1, w, w0, w1, hm, hn⟩
  | succ n ih =>
    obtain ⟨x, x0, x1, h1, h2⟩ := hn
    obtain ⟨j, hj⟩ := ih h1
    exact ⟨j + 1, x, x0, x1, hj, h2⟩
theorem Vw.mono {X : Gr} {u v : Int} : ∀ (c b : Nat), Vw X b u v → Vw X (b + c) u v := by
  intro c
  induction c with
  | zero => intro b h; exact h
  | succ c ih => intro b h; exact Or.inl (ih b h)
theorem Vw.sound {X : Gr} : ∀ (b : Nat), (b : Int) ≤ X.1 → ∀ u v, Vw X b u v → Rc X u v := by
  intro b
  induction b with
  | zero => intro _ u v h; exact ⟨0, h⟩
  | succ b ih =>
    intro hb u v h
    rcases h with h | ⟨h1, h2⟩
    · exact ih (by omega) u v h
    · exact (ih (by omega) u b h1).trans (by omega) (by omega) (ih (by omega) b v h2)
theorem Vw.tr {X : Gr} : ∀ (b : Nat) (u w v : Int), 0 ≤ w → w < b → Vw X b u w → Vw X b w v → Vw X b u v := by
  intro b
  induction b with
  | zero => intro u w v w0 w1; omega
  | succ b ih =>
    intro u w v w0 w1 h1 h2
    by_cases e : w = b
    · subst e
      have a1 : Vw X b u b := Or.elim h1 (fun h => h) (fun h => h.1)
      have a2 : Vw X b b v := Or.elim h2 (fun h => h) (fun h => h.2)
      exact Or.inr ⟨a1, a2⟩
    · have wb : w < b := by omega
      rcases h1 with h1 | ⟨h1, h1'⟩
      · rcases h2 with h2 | ⟨h2, h2'⟩
        · exact Or.inl (ih u w v w0 wb h1 h2)
        · exact Or.inr ⟨ih u w b w0 wb h1 h2, h2'⟩
      · rcases h2 with h2 | ⟨h2, h2'⟩
        · exact Or.inr ⟨h1, ih b w v w0 wb h1' h2⟩
        · exact Or.inr ⟨h1, h2'⟩
theorem Vw.all {X : Gr} (hX : GOK X) {u v : Int} : Vw X X.1.toNat u v ↔ Rc X u v := by
  have g1 := hX.1.1
  constructor
  · exact Vw.sound _ (by omega) u v
  · rintro ⟨n, hn⟩
    induction n generalizing v with
    | zero =>
      have := Vw.mono X.1.toNat 0 (show Vw X 0 u v from hn)
      rw [Nat.zero_add] at this
      exact this
    | succ n ih =>
      obtain ⟨w, w0, w1, h1, h2⟩ := hn
      have := Vw.mono X.1.toNat 0 (show Vw X 0 w v from h2)
      rw [Nat.zero_add] at this
      exact Vw.tr _ u w v w0 (by omega) (ih h1) this
/-- a family that grows by one's firsts out of another's: its firsts come early -/
def Frs (Q : Nat → Int → Prop) (n : Nat) (v : Int) : Prop := Q n v ∧ ∀ m, m < n → ¬ Q m v
theorem Frs.down {Q : Nat → Int → Prop} (h : ∀ n v, Frs Q (n + 1) v → ∃ w, Frs Q n w) : ∀ (d n : Nat) (v : Int), Frs Q (n + d) v → ∃ w, Frs Q n w := by
  intro d
  induction d with
  | zero => intro n v hv; exact ⟨v, hv⟩
  | succ d ih =>
    intro n v hv
    obtain ⟨w, hw⟩ := h (n + d) v hv
    exact ih n w hw
theorem Frs.lt {Q : Nat → Int → Prop} {s : Nat} (hr : ∀ n v, Q n v → 0 ≤ v ∧ v < s) (h : ∀ n v, Frs Q (n + 1) v → ∃ w, Frs Q n w) {n : Nat} {v : Int} (hv : Frs Q n v) : n < s := by
  rcases Nat.lt_or_ge n s with c | c
  · exact c
  · exfalso
    have hw : ∀ a : Nat, a ≤ s → ∃ w, Frs Q a w := fun a ha => Frs.down h (n - a) a v (by rw [show a + (n - a) = n by omega]; exact hv)
    have hf : ∀ a : Nat, ∃ w, a ≤ s → Frs Q a w := fun a => by
      by_cases c : a ≤ s
      · obtain ⟨w, w0⟩ := hw a c
        exact ⟨w, fun _ => w0⟩
      · exact ⟨0, fun h => absurd h c⟩
    obtain ⟨a, b, ab, b1, e⟩ := pig s (fun a => Classical.choose (hf a)) (fun a ha => hr a _ (Classical.choose_spec (hf a) ha).1)
    have e : Classical.choose (hf a) = Classical.choose (hf b) := e
    have ha := Classical.choose_spec (hf a) (by omega)
    have hb := Classical.choose_spec (hf b) b1
    rw [← e] at hb
    exact hb.2 a ab ha.1
theorem Frs.ex {Q : Nat → Int → Prop} {v : Int} : ∀ n : Nat, Q n v → ∃ m, m ≤ n ∧ Frs Q m v := by
  intro n
  induction n using Nat.strongRecOn with
  | _ n ih =>
    intro h
    by_cases c : ∃ m, m < n ∧ Q m v
    · obtain ⟨m, m0, m1⟩ := c
      obtain ⟨j, j0, j1⟩ := ih m m0 m1
      exact ⟨j, by omega, j1⟩
    · exact ⟨n, Nat.le_refl n, h, fun m m0 m1 => c ⟨m, m0, m1⟩⟩
theorem Pr.short {X : Gr} (hX : GOK X) {k : Int} (k0 : 0 ≤ k) (k1 : k < X.1) {v : Int} (h : Rc X k v) : ∃ n : Nat, (n : Int) < X.1 ∧ Pr X k n v := by
  obtain ⟨n, hn⟩ := h
  obtain ⟨m, m0, m1⟩ := Frs.ex (Q := Pr X k) n hn
  have := Frs.lt (Q := Pr X k) (s := X.1.toNat) (fun n v h => by have := Pr.rng hX k0 k1 n h; omega) (fun n v hv => by
    obtain ⟨w, w0, w1, h1, h2⟩ := hv.1
    exact ⟨w, h1, fun m m0 m1 => hv.2 (m + 1) (by omega) ⟨w, w0, w1, m1, h2⟩⟩) m1
  exact ⟨m, by omega, m1.1⟩
