/-! read: letters that come back -/
def itr (F : Int → Int) : Nat → Int → Int
  | 0, l => l
  | n + 1, l => F (itr F n l)
theorem itr_add (F : Int → Int) (l : Int) : ∀ a b : Nat, itr F (a + b) l = itr F b (itr F a l) := by
  intro a b
  induction b with
  | zero => rfl
  | succ b ih =>
    show F (itr F (a + b) l) = F (itr F b (itr F a l))
    rw [ih]
/-- the letter behind a letter's equation -/
def nx (rd : Bd) (l : Int) : Int := if l = -1 then -1 else if rd 12 l = -1 then -1 else if rd 2 (rd 12 l) ≠ 7 then -1 else rd 3 (rd 12 l)
theorem nx_m1 (rd : Bd) : nx rd (-1) = -1 := if_pos rfl
theorem itr_m1 (rd : Bd) {l : Int} {a : Nat} (h : itr (nx rd) a l = -1) : ∀ b : Nat, a ≤ b → itr (nx rd) b l = -1 := by
  intro b hb
  obtain ⟨d, rfl⟩ : ∃ d, b = a + d := ⟨b - a, by omega⟩
  rw [itr_add, h]
  induction d with
  | zero => rfl
  | succ d ih =>
    show nx rd (itr (nx rd) d (-1)) = -1
    rw [ih (by omega)]
    exact nx_m1 rd
def Bk (rd : Bd) (l : Int) : Prop := ∃ n : Nat, 1 ≤ n ∧ n ≤ 8 ∧ itr (nx rd) n l = l
section
variable {tx : Int → Int} {len : Int} {rd m : Bd} {c e : Int}
theorem nx_rng (hR : RS tx len rd m len c e) {l : Int} (l0 : -1 ≤ l) (l1 : l < 8) : -1 ≤ nx rd l ∧ nx rd l < 8 := by
  obtain ⟨h1, ⟨n1, n2, n3, n4, n5, n6⟩, h3, ⟨h4, h5, h6, h7⟩, h8, h9, h10, h11⟩ := hR
  unfold nx
  by_cases a : l = -1
  · rw [if_pos a]; omega
  · rw [if_neg a]
    by_cases b : rd 12 l = -1
    · rw [if_pos b]; omega
    · rw [if_neg b]
      have r := h8 l (by omega) l1
      have nv := n4 (rd 12 l) (by omega) (by omega)
      by_cases d : rd 2 (rd 12 l) = 7
      · rw [if_neg (fun h => h d), ← nv.2.2.2.2.1]
        have := (MG_rng nv.1).2.2.1
        have := (nv.2.2.2.2.2.2 d).1
        omega
      · rw [if_pos d]; omega
theorem itr_rng (hR : RS tx len rd m len c e) {l : Int} (l0 : -1 ≤ l) (l1 : l < 8) : ∀ n : Nat, -1 ≤ itr (nx rd) n l ∧ itr (nx rd) n l < 8 := by
  intro n
  induction n with
  | zero => exact ⟨l0, l1⟩
  | succ n ih => exact nx_rng hR ih.1 ih.2
theorem nine (hR : RS tx len rd m len c e) {l : Int} (l0 : 0 ≤ l) (l1 : l < 8) (h : itr (nx rd) 9 l = l) : Bk rd l := by
  have nn : ∀ n : Nat, n ≤ 8 → 0 ≤ itr (nx rd) n l ∧ itr (nx rd) n l < ((8 : Nat) : Int) := by
    intro n hn
    have r := itr_rng hR (l := l) (by omega) l1 n
    refine ⟨?_, by omega⟩
    by_cases z : itr (nx rd) n l = -1
    · have := itr_m1 rd z 9 (by omega); omega
    · omega
  obtain ⟨a, b, ab, b8, hab⟩ := pig 8 (fun n => itr (nx rd) n l) nn
  refine ⟨a + (9 - b), by omega, by omega, ?_⟩
  rw [itr_add, show itr (nx rd) a l = itr (nx rd) b l from hab, ← itr_add, show b + (9 - b) = 9 by omega, h]
theorem behind_of (hR : RS tx len rd m len c e) (c120 : c ≤ 120) {l : Int} (l0 : 0 ≤ l) (l1 : l < 8) : f_X4_letterBehind rd l = some (nx rd l) := by
  obtain ⟨h1, ⟨n1, n2, n3, n4, n5, n6⟩, h3, ⟨h4, h5, h6, h7⟩, h8, h9, h10, h11⟩ := hR
  have r := h8 l l0 l1
  unfold f_X4_letterBehind nx
  rw [ckA_of l0 l1, ck1_of (by omega) (by omega), if_neg (show ¬(l = -1) by omega)]
  by_cases b : rd 12 l = -1
  · rw [if_pos b, if_pos b]
  · have nv := n4 (rd 12 l) (by omega) (by omega)
    rw [if_neg b, if_neg b, ckA_of (by omega) (by omega), ck1_of (by omega) (by omega)]
    by_cases d : rd 2 (rd 12 l) = 7
    · rw [if_neg (fun h => h d), if_neg (fun h => h d)]
    · rw [if_pos d, if_pos d]
/-- the program's walk -/
theorem walk5 (hR : RS tx len rd m len c e) (c120 : c ≤ 120) {l x1 : Int} (l0 : 0 ≤ l) (l1 : l < 8) : ∀ (f i : Nat), 8 < f + i → i ≤ 8 → ∃ y, (∀ k, f_X4_emptyLetter_L26 rd x1 l k f (itr (nx rd) (i + 1) l) i = k y) ∧ -1 ≤ y ∧ y < 8 ∧ (y = l ↔ ∃ n : Nat, i + 1 ≤ n ∧ n ≤ 9 ∧ itr (nx rd) n l = l) := by
  intro f
  induction f with
  | zero => intro i h0 h1; omega
  | succ f ih =>
    intro i h0 h1
    have r := itr_rng hR (l := l) (by omega) l1 (i + 1)
    by_cases e8 : i = 8
    · subst e8
      refine ⟨itr (nx rd) 9 l, fun k => ?_, r.1, r.2, fun h => ⟨9, by omega, by omega, h⟩, fun ⟨n, a, b, h⟩ => by rw [show n = 9 by omega] at h; exact h⟩
      rw [f_X4_emptyLetter_L26, ck1_of (by omega) (by omega), if_pos (by omega)]
    · by_cases em : itr (nx rd) (i + 1) l = -1
      · refine ⟨-1, fun k => ?_, by decide, by decide, fun h => by omega, fun ⟨n, a, b, h⟩ => by have := itr_m1 rd em n a; omega⟩
        rw [f_X4_emptyLetter_L26, ck1_of (by omega) (by omega), if_neg (by omega), em, ck1_of (by omega) (by omega), if_pos rfl]
      · by_cases el : itr (nx rd) (i + 1) l = l
        · refine ⟨l, fun k => ?_, by omega, l1, fun _ => ⟨i + 1, Nat.le_refl _, by omega, el⟩, fun _ => rfl⟩
          rw [f_X4_emptyLetter_L26, ck1_of (by omega) (by omega), if_neg (by omega), el, ck1_of (by omega) (by omega), if_neg (by omega), ck1_of (by omega) (by omega), if_pos rfl]
        · obtain ⟨y, y1, y2, y3, y4⟩ := ih (i + 1) (by omega) (by omega)
          refine ⟨y, fun k => ?_, y2, y3, fun h => ?_, fun ⟨n, a, b, h⟩ => y4.2 ⟨n, ?_, b, h⟩⟩
          · rw [f_X4_emptyLetter_L26, ck1_of (by omega) (by omega), if_neg (by omega), ck1_of (by omega) (by omega), if_neg em, ck1_of (by omega) (by omega), if_neg el, behind_of hR c120 (by omega) r.2, bn_some]
            exact y1 k
          · obtain ⟨n, a, b, h⟩ := y4.1 h
            exact ⟨n, by omega, b, h⟩
          · by_cases z : n = i + 1
            · rw [z] at h; exact absurd h el
            · omega
/-- the reference's walk -/
theorem walk6 (hR : RS tx len rd m len c e) (c120 : c ≤ 120) {l : Int} (l0 : 0 ≤ l) (l1 : l < 8) : ∀ (f i : Nat), 8 < f + i → i ≤ 8 → 0 ≤ itr (nx rd) i l → ∃ y, f_X6_comesBack_L4 m l (some 0) f (itr (nx rd) i l) i = some y ∧ (y = 0 ∨ y = 1) ∧ (y = 1 ↔ ∃ n : Nat, i + 1 ≤ n ∧ n ≤ 8 ∧ itr (nx rd) n l = l) := by
  obtain ⟨h1, ⟨n1, n2, n3, n4, n5, n6⟩, h3, ⟨h4, h5, h6, h7⟩, h8, h9, h10, h11⟩ := id hR
  intro f
  induction f with
  | zero => intro i h0 h1; omega
  | succ f ih =>
    intro i h0 h1 h2
    by_cases e8 : i = 8
    · subst e8
      refine ⟨0, ?_, Or.inl rfl, fun h => by omega, fun ⟨n, a, b, h⟩ => by omega⟩
      rw [f_X6_comesBack_L4, ck1_of (by omega) (by omega), if_pos (by omega)]
    · have r := itr_rng hR (l := l) (by omega) l1 i
      have e1 : itr (nx rd) (i + 1) l = nx rd (itr (nx rd) i l) := rfl
      generalize hu : itr (nx rd) i l = u at r h2 e1
      have q := h8 u h2 r.2
      have dead : nx rd u = -1 → ¬∃ n : Nat, i + 1 ≤ n ∧ n ≤ 8 ∧ itr (nx rd) n l = l := fun h ⟨n, a, b, g⟩ => by
        rw [h] at e1
        have := itr_m1 rd e1 n a
        omega
      by_cases b : rd 12 u = -1
      · have hn : nx rd u = -1 := by unfold nx; rw [if_neg (by omega), if_pos b]
        refine ⟨0, ?_, Or.inl rfl, fun h => by omega, fun h => absurd h (dead hn)⟩
        rw [f_X6_comesBack_L4, ck1_of (by omega) (by omega), if_neg (by omega), ckA_of h2 r.2, ck1_of (by omega) (by omega), if_pos (by omega)]
      · have nv := n4 (rd 12 u) (by omega) (by omega)
        have hh : f_X6_headOf (m 9 (rd 12 u)) = some (rd 2 (rd 12 u)) := by rw [← nv.2.2.2.1]; exact headOf_of nv.1
        have hp : f_X6_partOf (m 9 (rd 12 u)) 0 = some (rd 3 (rd 12 u)) := by
          rw [← nv.2.2.2.2.1]
          exact partOf_of nv.1 (i := 0) (by decide) (by decide)
        by_cases d : rd 2 (rd 12 u) = 7
        · have hn : nx rd u = rd 3 (rd 12 u) := by unfold nx; rw [if_neg (by omega), if_neg b, if_neg (fun h => h d)]
          have lg := nv.2.2.2.2.2.2 d
          have r3 : 0 ≤ rd 3 (rd 12 u) := by rw [← nv.2.2.2.2.1]; exact (MG_rng nv.1).2.2.1
          have pre : ∀ z, z = f_X6_comesBack_L4 m l (some 0) (f + 1) u i → z = if rd 3 (rd 12 u) ≠ l then f_X6_comesBack_L4 m l (some 0) f (rd 3 (rd 12 u)) ((i : Int) + 1) else some 1 := fun z hz => by
            rw [hz, f_X6_comesBack_L4, ck1_of (by omega) (by omega), if_neg (by omega), ckA_of h2 r.2, ck1_of (by omega) (by omega), if_neg (by omega), ckA_of (by omega) (by omega), show m 23 u = rd 12 u by omega, hh, bn_some, ck1_of (by omega) (by omega), if_pos d, hp, bn_some, ck1_of (by omega) (by omega), ck1_of (by omega) (by omega)]
          have pre' := pre _ rfl
          by_cases el : rd 3 (rd 12 u) = l
          · rw [if_neg (fun h => h el)] at pre'
            exact ⟨1, pre', Or.inr rfl, fun _ => ⟨i + 1, Nat.le_refl _, by omega, by rw [e1, hn, el]⟩, fun _ => rfl⟩
          · rw [if_pos el] at pre'
            rw [hn] at e1
            obtain ⟨y, y1, y2, y3⟩ := ih (i + 1) (by omega) (by omega) (by rw [e1]; exact r3)
            rw [e1, show ((i + 1 : Nat) : Int) = (i : Int) + 1 by omega] at y1
            refine ⟨y, by rw [pre']; exact y1, y2, fun h => ?_, fun ⟨n, a, b, h⟩ => y3.2 ⟨n, ?_, b, h⟩⟩
            · obtain ⟨n, a, b, h⟩ := y3.1 h
              exact ⟨n, by omega, b, h⟩
            · by_cases z : n = i + 1
              · rw [z, e1] at h; exact absurd h el
              · omega
        · have hn : nx rd u = -1 := by unfold nx; rw [if_neg (by omega), if_neg b, if_pos d]
          refine ⟨0, ?_, Or.inl rfl, fun h => by omega, fun h => absurd h (dead hn)⟩
          rw [f_X6_comesBack_L4, ck1_of (by omega) (by omega), if_neg (by omega), ckA_of h2 r.2, ck1_of (by omega) (by omega), if_neg (by omega), ckA_of (by omega) (by omega), show m 23 u = rd 12 u by omega, hh, bn_some, ck1_of (by omega) (by omega), if_neg d]
end
