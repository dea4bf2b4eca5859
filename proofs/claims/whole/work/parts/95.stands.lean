/-! read: what a node stands for -/
def cz (rd : Bd) : Nat → Int → Int
  | 0, x => x
  | n + 1, x => if rd 2 x ≠ 7 then x else if rd 12 (rd 3 x) = -1 then -1 - rd 3 x else cz rd n (rd 12 (rd 3 x))
def S5 (rd : Bd) (z : Int) : Int := if 0 ≤ z then rd 14 z else rd 15 (-1 - z)
def S6 (m : Bd) (z : Int) : Int := if 0 ≤ z then z else m 23 (-1 - z)
/-- the nodes of the text as the reference holds them -/
def MH (rd m : Bd) (c : Int) : Prop := ∀ v, 0 ≤ v → v < c → PW (m 9 v) ∧ MG (m 9) v 0 = rd 2 v ∧ (rd 2 v = 7 → MG (m 9) v 1 = rd 3 v)
section
variable {tx : Int → Int} {len : Int} {lt rd m : Bd} {c e : Int}
theorem ends8 (hR : RS tx len rd m len c e) (hB : ∀ u, 0 ≤ u → u < 8 → rd 13 u ≠ -1 → ¬Bk rd u) {l : Int} (l0 : 0 ≤ l) (l1 : l < 8) : itr (nx rd) 8 l = -1 := by
  have r8 := itr_rng hR (l := l) (by omega) l1 8
  by_cases z : itr (nx rd) 8 l = -1
  · exact z
  · exfalso
    have nn : ∀ n : Nat, n ≤ 8 → 0 ≤ itr (nx rd) n l ∧ itr (nx rd) n l < ((8 : Nat) : Int) := by
      intro n hn
      have r := itr_rng hR (l := l) (by omega) l1 n
      refine ⟨?_, by omega⟩
      by_cases y : itr (nx rd) n l = -1
      · exact absurd (itr_m1 rd y 8 hn) z
      · omega
    obtain ⟨a, b, ab, b8, hab⟩ := pig 8 (fun n => itr (nx rd) n l) nn
    have hab' : itr (nx rd) a l = itr (nx rd) b l := hab
    have na := nn a (by omega)
    have bk : Bk rd (itr (nx rd) a l) := by
      refine ⟨b - a, by omega, by omega, ?_⟩
      rw [← itr_add, show a + (b - a) = b by omega, hab']
    refine hB _ na.1 (by omega) (fun h13 => ?_) bk
    have h8 := hR.2.2.2.2.1 _ na.1 (by omega)
    have e1 : itr (nx rd) (a + 1) l = nx rd (itr (nx rd) a l) := rfl
    have n1 := nn (a + 1) (by omega)
    have hu : ∀ u, u ≠ -1 → rd 12 u = -1 → nx rd u = -1 := fun u u1 u2 => by
      unfold nx
      rw [if_neg u1, if_pos u2]
    have hn := hu (itr (nx rd) a l) (by omega) (by omega)
    omega
theorem cz_is (hR : RS tx len rd m len c e) (hS : ∀ u, 0 ≤ u → u < c → rd 2 u = 7 → rd 12 (rd 3 u) = -1 → 0 ≤ lt 3 (rd 3 u)) : ∀ (n : Nat) (x : Int), 0 ≤ x → x < c → (rd 2 x = 7 → itr (nx rd) n (rd 3 x) = -1) → (0 ≤ cz rd (n + 1) x ∧ cz rd (n + 1) x < c ∧ rd 2 (cz rd (n + 1) x) ≠ 7) ∨ (∃ l, 0 ≤ l ∧ l < 8 ∧ gl lt rd l ∧ cz rd (n + 1) x = -1 - l) := by
  intro n
  induction n with
  | zero =>
    intro x x0 x1 h
    have nv := hR.2.1.2.2.2.1 x x0 x1
    by_cases h7 : rd 2 x = 7
    · have := h h7
      have r3 : 0 ≤ rd 3 x := by rw [← nv.2.2.2.2.1]; exact (MG_rng nv.1).2.2.1
      have z : itr (nx rd) 0 (rd 3 x) = rd 3 x := rfl
      omega
    · have ez : cz rd (0 + 1) x = x := if_pos h7
      rw [ez]
      exact Or.inl ⟨x0, x1, h7⟩
  | succ n ih =>
    intro x x0 x1 h
    have nv := hR.2.1.2.2.2.1 x x0 x1
    have el : cz rd (n + 1 + 1) x = if rd 2 x ≠ 7 then x else if rd 12 (rd 3 x) = -1 then -1 - rd 3 x else cz rd (n + 1) (rd 12 (rd 3 x)) := rfl
    rw [el]
    by_cases h7 : rd 2 x = 7
    · have r3 : 0 ≤ rd 3 x := by rw [← nv.2.2.2.2.1]; exact (MG_rng nv.1).2.2.1
      have lg := nv.2.2.2.2.2.2 h7
      rw [if_neg (fun g => g h7)]
      by_cases h12 : rd 12 (rd 3 x) = -1
      · rw [if_pos h12]
        exact Or.inr ⟨rd 3 x, r3, lg.1, ⟨h12, hS x x0 x1 h7 h12⟩, rfl⟩
      · rw [if_neg h12]
        have h8 := hR.2.2.2.2.1 _ r3 lg.1
        refine ih (rd 12 (rd 3 x)) (by omega) (by omega) (fun h7' => ?_)
        have hn : nx rd (rd 3 x) = rd 3 (rd 12 (rd 3 x)) := by
          unfold nx
          rw [if_neg (by omega), if_neg h12, if_neg (fun g => g h7')]
        have := h h7
        rw [show n + 1 = 1 + n by omega, itr_add] at this
        have e1 : itr (nx rd) 1 (rd 3 x) = nx rd (rd 3 x) := rfl
        rw [e1, hn] at this
        exact this
    · rw [if_pos h7]
      exact Or.inl ⟨x0, x1, h7⟩
theorem cz5 (hR : RS tx len rd m len c e) (c120 : c ≤ 120) {rF : Bd} (hF : ∀ s : Nat, s ≠ 14 → s ≠ 15 → rF s = rd s) : ∀ (n : Nat) (x : Int), 0 ≤ x → x < c → (rd 2 x = 7 → itr (nx rd) n (rd 3 x) = -1) → ∀ (k : Option Int) (f : Nat) (j : Int), 0 ≤ j → j + n ≤ 8 → n < f → f_X4_standsFor_L4 rF k f x j = some (S5 rF (cz rd (n + 1) x)) := by
  have n1 := hR.2.1.1
  have f5 : rF 5 = rd 5 := hF 5 (by decide) (by decide)
  have f2 : rF 2 = rd 2 := hF 2 (by decide) (by decide)
  have f3 : rF 3 = rd 3 := hF 3 (by decide) (by decide)
  have f12 : rF 12 = rd 12 := hF 12 (by decide) (by decide)
  have stop : ∀ (x : Int), 0 ≤ x → x < c → rd 2 x ≠ 7 → ∀ (k : Option Int) (f : Nat) (j : Int), 0 ≤ j → j ≤ 8 → f_X4_standsFor_L4 rF k (f + 1) x j = some (rF 14 x) := fun x x0 x1 h7 k f j j0 j1 => by
    have nv := hR.2.1.2.2.2.1 x x0 x1
    rw [f_X4_standsFor_L4, ck1_of (by omega) (by omega), if_neg (by omega), ck1_of (by omega) (by omega), if_neg (by omega), f5, n1, ck1_of (by omega) (by omega), if_neg (by omega), ckA_of x0 (by omega), f2, ck1_of (by omega) (by omega), if_neg h7]
  intro n
  induction n with
  | zero =>
    intro x x0 x1 h k f j j0 j1 hf
    have nv := hR.2.1.2.2.2.1 x x0 x1
    obtain ⟨f, rfl⟩ : ∃ f', f = f' + 1 := ⟨f - 1, by omega⟩
    by_cases h7 : rd 2 x = 7
    · have := h h7
      have r3 : 0 ≤ rd 3 x := by rw [← nv.2.2.2.2.1]; exact (MG_rng nv.1).2.2.1
      have z : itr (nx rd) 0 (rd 3 x) = rd 3 x := rfl
      omega
    · have ez : cz rd (0 + 1) x = x := if_pos h7
      have es : S5 rF x = rF 14 x := if_pos x0
      rw [ez, es]
      exact stop x x0 x1 h7 k f j j0 (by omega)
  | succ n ih =>
    intro x x0 x1 h k f j j0 j1 hf
    obtain ⟨f, rfl⟩ : ∃ f', f = f' + 1 := ⟨f - 1, by omega⟩
    have nv := hR.2.1.2.2.2.1 x x0 x1
    have el : cz rd (n + 1 + 1) x = if rd 2 x ≠ 7 then x else if rd 12 (rd 3 x) = -1 then -1 - rd 3 x else cz rd (n + 1) (rd 12 (rd 3 x)) := rfl
    rw [el]
    by_cases h7 : rd 2 x = 7
    · have r3 : 0 ≤ rd 3 x := by rw [← nv.2.2.2.2.1]; exact (MG_rng nv.1).2.2.1
      have lg := nv.2.2.2.2.2.2 h7
      have h8 := hR.2.2.2.2.1 _ r3 lg.1
      rw [if_neg (fun g => g h7), f_X4_standsFor_L4, ck1_of (by omega) (by omega), if_neg (by omega), ck1_of (by omega) (by omega), if_neg (by omega), f5, n1, ck1_of (by omega) (by omega), if_neg (by omega), ckA_of x0 (by omega), f2, ck1_of (by omega) (by omega), if_pos h7, f3, ckA_of r3 lg.1, f12, ck1_of (by omega) (by omega)]
      by_cases h12 : rd 12 (rd 3 x) = -1
      · have es : S5 rF (-1 - rd 3 x) = rF 15 (rd 3 x) := by
          unfold S5
          rw [if_neg (by omega), show -1 - (-1 - rd 3 x) = rd 3 x by omega]
        rw [if_neg (fun g => g h12), if_pos h12, es]
      · rw [if_pos h12, if_neg h12]
        refine ih (rd 12 (rd 3 x)) (by omega) (by omega) (fun h7' => ?_) k f (j + 1) (by omega) (by omega) (by omega)
        have hn : nx rd (rd 3 x) = rd 3 (rd 12 (rd 3 x)) := by
          unfold nx
          rw [if_neg (by omega), if_neg h12, if_neg (fun g => g h7')]
        have := h h7
        rw [show n + 1 = 1 + n by omega, itr_add] at this
        have e1 : itr (nx rd) 1 (rd 3 x) = nx rd (rd 3 x) := rfl
        rw [e1, hn] at this
        exact this
    · have es : S5 rF x = rF 14 x := if_pos x0
      rw [if_pos h7, es]
      exact stop x x0 x1 h7 k f j j0 (by omega)
theorem cz6 (hR : RS tx len rd m len c e) (c120 : c ≤ 120) (hS : ∀ u, 0 ≤ u → u < c → rd 2 u = 7 → rd 12 (rd 3 u) = -1 → 0 ≤ lt 3 (rd 3 u)) {mF : Bd} (hH : MH rd mF c) (h23 : ∀ l, 0 ≤ l → l < 8 → rd 12 l ≠ -1 → mF 23 l = rd 12 l) (hG : ∀ l, 0 ≤ l → l < 8 → gl lt rd l → 0 ≤ mF 23 l ∧ mF 23 l < 3400 ∧ PW (mF 9 (mF 23 l)) ∧ MG (mF 9) (mF 23 l) 0 ≤ 6) : ∀ (n : Nat) (x : Int), 0 ≤ x → x < c → (rd 2 x = 7 → itr (nx rd) n (rd 3 x) = -1) → ∀ (k : Int → Option Int) (f : Nat), n + 1 < f → f_X6_meant_L2 mF k f x = k (S6 mF (cz rd (n + 1) x)) := by
  have stop : ∀ (x : Int), 0 ≤ x → x < 3400 → PW (mF 9 x) → MG (mF 9) x 0 ≠ 7 → ∀ (k : Int → Option Int) (f : Nat), f_X6_meant_L2 mF k (f + 1) x = k x := fun x x0 x1 hp h7 k f => by
    have r := MG_rng hp
    rw [f_X6_meant_L2, ckA_of x0 x1, headOf_of hp, bn_some, ck1_of (by omega) (by omega), if_pos h7]
  intro n
  induction n with
  | zero =>
    intro x x0 x1 h k f hf
    have nv := hR.2.1.2.2.2.1 x x0 x1
    have hv := hH x x0 x1
    obtain ⟨f, rfl⟩ : ∃ f', f = f' + 1 := ⟨f - 1, by omega⟩
    by_cases h7 : rd 2 x = 7
    · have := h h7
      have r3 : 0 ≤ rd 3 x := by rw [← nv.2.2.2.2.1]; exact (MG_rng nv.1).2.2.1
      have z : itr (nx rd) 0 (rd 3 x) = rd 3 x := rfl
      omega
    · have ez : cz rd (0 + 1) x = x := if_pos h7
      have es : S6 mF x = x := if_pos x0
      rw [ez, es]
      exact stop x x0 (by omega) hv.1 (by rw [hv.2.1]; exact h7) k f
  | succ n ih =>
    intro x x0 x1 h k f hf
    obtain ⟨f, rfl⟩ : ∃ f', f = f' + 1 := ⟨f - 1, by omega⟩
    have nv := hR.2.1.2.2.2.1 x x0 x1
    have hv := hH x x0 x1
    have el : cz rd (n + 1 + 1) x = if rd 2 x ≠ 7 then x else if rd 12 (rd 3 x) = -1 then -1 - rd 3 x else cz rd (n + 1) (rd 12 (rd 3 x)) := rfl
    rw [el]
    by_cases h7 : rd 2 x = 7
    · have r3 : 0 ≤ rd 3 x := by rw [← nv.2.2.2.2.1]; exact (MG_rng nv.1).2.2.1
      have lg := nv.2.2.2.2.2.2 h7
      have h8 := hR.2.2.2.2.1 _ r3 lg.1
      have hp := partOf_of hv.1 (i := 0) (by decide) (by decide)
      rw [show (1 : Int) + 0 = 1 by decide, hv.2.2 h7] at hp
      rw [if_neg (fun g => g h7), f_X6_meant_L2, ckA_of x0 (by omega), headOf_of hv.1, bn_some, hv.2.1, ck1_of (by omega) (by omega), if_neg (fun g => g h7), hp, bn_some, ckA_of r3 lg.1]
      by_cases h12 : rd 12 (rd 3 x) = -1
      · have g := hG (rd 3 x) r3 lg.1 ⟨h12, hS x x0 x1 h7 h12⟩
        have es : S6 mF (-1 - rd 3 x) = mF 23 (rd 3 x) := by
          unfold S6
          rw [if_neg (by omega), show -1 - (-1 - rd 3 x) = rd 3 x by omega]
        obtain ⟨f, rfl⟩ : ∃ f', f = f' + 1 := ⟨f - 1, by omega⟩
        rw [if_pos h12, es]
        exact stop _ g.1 g.2.1 g.2.2.1 (by omega) k f
      · rw [if_neg h12, h23 _ r3 lg.1 h12]
        refine ih (rd 12 (rd 3 x)) (by omega) (by omega) (fun h7' => ?_) k f (by omega)
        have hn : nx rd (rd 3 x) = rd 3 (rd 12 (rd 3 x)) := by
          unfold nx
          rw [if_neg (by omega), if_neg h12, if_neg (fun g => g h7')]
        have := h h7
        rw [show n + 1 = 1 + n by omega, itr_add] at this
        have e1 : itr (nx rd) 1 (rd 3 x) = nx rd (rd 3 x) := rfl
        rw [e1, hn] at this
        exact this
    · have es : S6 mF x = x := if_pos x0
      rw [if_pos h7, es]
      exact stop x x0 (by omega) hv.1 (by rw [hv.2.1]; exact h7) k f
end
