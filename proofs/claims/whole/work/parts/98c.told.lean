/-! read: the bits of the letters with an equation -/
theorem tb_get : ∀ x : Fin 256, ∀ l : Fin 8, i_and (i_shr (x.val : Int) (l.val : Int)) 1 = ((x.val / 2 ^ l.val % 2 : Nat) : Int) := by decide +kernel
theorem tb_or : ∀ x : Fin 256, ∀ l : Fin 8, x.val < 2 ^ l.val → i_or (x.val : Int) (i_shl 1 (l.val : Int)) = ((x.val + 2 ^ l.val : Nat) : Int) := by decide +kernel
theorem tb_or0 : ∀ x : Fin 256, i_or (x.val : Int) 0 = (x.val : Int) := by decide +kernel
theorem tb_up : ∀ x : Fin 256, ∀ l : Fin 8, x.val < 2 ^ l.val → x.val + 2 ^ l.val < 2 ^ (l.val + 1) ∧ x.val + 2 ^ l.val < 256 ∧ (x.val + 2 ^ l.val) / 2 ^ l.val % 2 = 1 ∧ x.val < 2 ^ (l.val + 1) ∧ x.val / 2 ^ l.val % 2 = 0 ∧ ∀ j : Fin 8, j.val < l.val → (x.val + 2 ^ l.val) / 2 ^ j.val % 2 = x.val / 2 ^ j.val % 2 := by decide +kernel
theorem l19_lock {m : Bd} (h23 : ∀ l, 0 ≤ l → l < 8 → -1 ≤ m 23 l ∧ m 23 l ≤ 4000) : ∀ (f l x : Nat), 8 < f + l → l ≤ 8 → x < 2 ^ l → x < 256 → (∀ j : Nat, j < l → (x / 2 ^ j % 2 = 1 ↔ 0 ≤ m 23 (j : Int))) → ∃ y : Nat, y < 256 ∧ (∀ k, f_X6_read_L19 m k f (x : Int) (l : Int) = k (y : Int)) ∧ ∀ j : Nat, j < 8 → (y / 2 ^ j % 2 = 1 ↔ 0 ≤ m 23 (j : Int)) := by
  intro f
  induction f with
  | zero => intro l x h0 h1; omega
  | succ f ih =>
    intro l x h0 h1 hx h256 hj
    by_cases hend : l = 8
    · subst hend
      exact ⟨x, h256, fun k => by rw [f_X6_read_L19, ck1_of (by omega) (by omega), if_pos (by omega)], hj⟩
    · have r := h23 l (by omega) (by omega)
      have up := tb_up ⟨x, h256⟩ ⟨l, by omega⟩ hx
      dsimp only at up
      by_cases c : m 23 (l : Int) < 0
      · obtain ⟨y, y1, y2, y3⟩ := ih (l + 1) x (by omega) (by omega) up.2.2.2.1 h256 (fun j hjl => by
          by_cases e : j = l
          · rw [e, up.2.2.2.2.1]
            exact ⟨fun h => by omega, fun h => by omega⟩
          · exact hj j (by omega))
        refine ⟨y, y1, fun k => ?_, y3⟩
        have o0 : i_or (x : Int) 0 = (x : Int) := tb_or0 ⟨x, h256⟩
        rw [f_X6_read_L19, ck1_of (by omega) (by omega), if_neg (by omega), ckA_of (by omega) (by omega), ck1_of (by omega) (by omega), if_pos c, o0]
        exact y2 k
      · obtain ⟨y, y1, y2, y3⟩ := ih (l + 1) (x + 2 ^ l) (by omega) (by omega) up.1 up.2.1 (fun j hjl => by
          by_cases e : j = l
          · rw [e, up.2.2.1]
            exact ⟨fun _ => by omega, fun _ => rfl⟩
          · have := up.2.2.2.2.2 ⟨j, by omega⟩ (by dsimp only; omega)
            dsimp only at this
            rw [this]
            exact hj j (by omega))
        refine ⟨y, y1, fun k => ?_, y3⟩
        have o1 : i_or (x : Int) (i_shl 1 (l : Int)) = ((x + 2 ^ l : Nat) : Int) := tb_or ⟨x, h256⟩ ⟨l, by omega⟩ hx
        rw [f_X6_read_L19, ck1_of (by omega) (by omega), if_neg (by omega), ckA_of (by omega) (by omega), ck1_of (by omega) (by omega), if_neg c, o1]
        exact y2 k
/-- the test of a bit -/
theorem bit_of {m : Bd} {y : Nat} (y1 : y < 256) (y3 : ∀ j : Nat, j < 8 → (y / 2 ^ j % 2 = 1 ↔ 0 ≤ m 23 (j : Int))) {l : Int} (l0 : 0 ≤ l) (l1 : l < 8) : i_and (i_shr (y : Int) l) 1 = if 0 ≤ m 23 l then 1 else 0 := by
  obtain ⟨n, rfl⟩ : ∃ n : Nat, l = n := ⟨l.toNat, by omega⟩
  have e : i_and (i_shr (y : Int) (n : Int)) 1 = ((y / 2 ^ n % 2 : Nat) : Int) := tb_get ⟨y, y1⟩ ⟨n, by omega⟩
  rw [e]
  have t := y3 n (by omega)
  by_cases c : 0 ≤ m 23 (n : Int)
  · rw [if_pos c, t.2 c]; rfl
  · rw [if_neg c]
    have : y / 2 ^ n % 2 ≠ 1 := fun h => c (t.1 h)
    have : y / 2 ^ n % 2 < 2 := Nat.mod_lt _ (by decide)
    have z : y / 2 ^ n % 2 = 0 := by omega
    rw [z]; rfl
