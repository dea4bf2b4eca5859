/-! deep, heads: both sides -/
def upk (z : Int) (X : Gr) (S : Int → Int) (v : Int) : Int := if (0 < ar (GP X v 0) → 0 ≤ S (GP X v 1)) ∧ (1 < ar (GP X v 0) → 0 ≤ S (GP X v 2)) then cap (val z (ar (GP X v 0)) (S (GP X v 1)) (S (GP X v 2))) else -1
theorem cl_step {P : PL} {m : Bd} {a g : Int} (n : Nm P m a g) {u z : Int} (u0 : 0 ≤ u) (u1 : u < (gP P g).1) (hz : z = 0 ∨ z = 1) (x1 x3 x4 x5 : Int) {m1 : Bd} (k : Int → Int → Option (Int × Bd)) (f : Nat) {w v i : Int} (i0 : 0 ≤ i) (i1 : i < ar (GP (gP P g) u 0)) (hw : w = 0 ∨ w = 1) (v0 : -5 ≤ v) (v1 : v ≤ 3000000) (hr : -1 ≤ m1 34 (GP (gP P g) u (1 + i)) ∧ m1 34 (GP (gP P g) u (1 + i)) ≤ 1000000) : f_X6_climbs_L76 m1 x1 z x3 x4 x5 (pk (GP (gP P g) u 0) (GP (gP P g) u 1) (GP (gP P g) u 2)) k (f + 1) w v i = f_X6_climbs_L76 m1 x1 z x3 x4 x5 (pk (GP (gP P g) u 0) (GP (gP P g) u 1) (GP (gP P g) u 2)) k f (if w = 1 ∧ 0 ≤ m1 34 (GP (gP P g) u (1 + i)) then 1 else 0) (if z = 0 then (if m1 34 (GP (gP P g) u (1 + i)) + 1 ≤ v then v else m1 34 (GP (gP P g) u (1 + i)) + 1) else v + m1 34 (GP (gP P g) u (1 + i))) (i + 1) := by
  have har := ar_le (GP (gP P g) u 0)
  have s := n.sz
  have rg := n.rng u0 u1
  have pr := n.prt u0 u1 i0 (by omega)
  have q1 := n.head u0 u1
  have q2 := parts_ar (h := GP (gP P g) u 0) (by omega) (by omega)
  have q3 := n.part u0 u1 i0 (by omega)
  rw [f_X6_climbs_L76, q1, bn_some, q2, bn_some, ck1_of (by omega) (by omega), ck1_of (by omega) (by omega), if_neg (by omega), q3, bn_some, ckA_of (by omega) (by omega), jn_eq, jn_eq, ck1_of (by omega) (by omega)]
  generalize hp : m1 34 (GP (gP P g) u (1 + i)) = p at *
  have tail : ∀ s0 : Int, (ck1 z <| if z = 0 then ckL (p + 1) <| ckL v <| ck1 (l_cmp (p + 1) v) <| if (l_cmp (p + 1) v) ≤ 0 then f_X6_climbs_L76 m1 x1 z x3 x4 x5 (pk (GP (gP P g) u 0) (GP (gP P g) u 1) (GP (gP P g) u 2)) k f s0 v (i + 1) else f_X6_climbs_L76 m1 x1 z x3 x4 x5 (pk (GP (gP P g) u 0) (GP (gP P g) u 1) (GP (gP P g) u 2)) k f s0 (p + 1) (i + 1) else f_X6_climbs_L76 m1 x1 z x3 x4 x5 (pk (GP (gP P g) u 0) (GP (gP P g) u 1) (GP (gP P g) u 2)) k f s0 (v + p) (i + 1)) = f_X6_climbs_L76 m1 x1 z x3 x4 x5 (pk (GP (gP P g) u 0) (GP (gP P g) u 1) (GP (gP P g) u 2)) k f s0 (if z = 0 then (if p + 1 ≤ v then v else p + 1) else v + p) (i + 1) := by
    intro s0
    rw [ck1_of (by omega) (by omega)]
    by_cases c : z = 0
    · rw [if_pos c, if_pos c, ckL_of (by omega) (by omega), ckL_of (by omega) (by omega)]
      unfold l_cmp
      by_cases d : p + 1 < v
      · rw [if_pos d, if_pos (show p + 1 ≤ v by omega), ck1_of (by decide) (by decide), if_pos (by decide)]
      · rw [if_neg d]
        by_cases e : p + 1 = v
        · rw [if_pos e, if_pos (show p + 1 ≤ v by omega), ck1_of (by decide) (by decide), if_pos (by decide)]
        · rw [if_neg e, if_neg (show ¬ p + 1 ≤ v by omega), ck1_of (by decide) (by decide), if_neg (by decide)]
    · rw [if_neg c, if_neg c]
  by_cases c : w = 0
  · rw [if_pos c, if_neg (show ¬ (w = 1 ∧ 0 ≤ p) by omega)]
    exact tail 0
  · rw [if_neg c, ckL_of (by omega) (by omega)]
    unfold l_cmp at *
    by_cases d : p < 0
    · rw [if_pos d, ck1_of (by decide) (by decide), if_pos (by decide), if_neg (show ¬ (w = 1 ∧ 0 ≤ p) by omega)]
      exact tail 0
    · rw [if_neg d, if_pos (show w = 1 ∧ 0 ≤ p by omega)]
      by_cases e : p = 0
      · rw [if_pos e, ck1_of (by decide) (by decide), if_neg (by decide)]
        exact tail 1
      · rw [if_neg e, ck1_of (by decide) (by decide), if_neg (by decide)]
        exact tail 1
theorem cl_stop {P : PL} {m : Bd} {a g : Int} (n : Nm P m a g) {u z : Int} (u0 : 0 ≤ u) (u1 : u < (gP P g).1) (x1 x3 x4 x5 : Int) {m1 : Bd} (k : Int → Int → Option (Int × Bd)) (f : Nat) {w v i : Int} (i0 : 0 ≤ i) (i2 : i ≤ 2) (i1 : ar (GP (gP P g) u 0) ≤ i) : f_X6_climbs_L76 m1 x1 z x3 x4 x5 (pk (GP (gP P g) u 0) (GP (gP P g) u 1) (GP (gP P g) u 2)) k (f + 1) w v i = k w v := by
  have har := ar_le (GP (gP P g) u 0)
  have rg := n.rng u0 u1
  rw [f_X6_climbs_L76, n.head u0 u1, bn_some, parts_ar (by omega) (by omega), bn_some, ck1_of (by omega) (by omega), ck1_of (by omega) (by omega), if_pos i1]
theorem cl_node {N : Nat} (hN : 20000 ≤ N) {P : PL} {m m1 : Bd} {a g : Int} (n : Nm P m a g) {u z : Int} (u0 : 0 ≤ u) (u1 : u < (gP P g).1) (hz : z = 0 ∨ z = 1) (hm : ∀ s : Nat, s ≠ 34 → m1 s = m s) (hr : ∀ v, 0 ≤ v → v < (gP P g).1 → -1 ≤ m1 34 v ∧ m1 34 v ≤ 1000000) (t : Int) (k : Bd → Option (Int × Bd)) (f : Nat) : f_X6_climbs_L44 N a z (gP P g).1 t k (f + 1) u m1 = f_X6_climbs_L44 N a z (gP P g).1 t k f (u + 1) (bS m1 34 (aS (m1 34) u (upk z (gP P g) (m1 34) u))) := by
  have har := ar_le (GP (gP P g) u 0)
  have s := n.sz
  have rg := n.rng u0 u1
  have n1 : Nm P m1 a g := n.frame (hm 0 (by decide)) (hm 1 (by decide))
  have r1 := hr (GP (gP P g) u 1) rg.2.2.1 rg.2.2.2.1
  have r2 := hr (GP (gP P g) u 2) rg.2.2.2.2.1 rg.2.2.2.2.2
  rw [f_X6_climbs_L44, ck1_of (by omega) (by omega), ck1_of (by omega) (by omega), if_neg (by omega), n1.node u0 u1, bn_some, jn_eq, ck1_of (by omega) (by omega)]
  -- the end of a node
  have fin : ∀ w v : Int, (w = 0 ∨ w = 1) → -5 ≤ v → v ≤ 3000000 → (if w = 1 then cap v else -1) = upk z (gP P g) (m1 34) u → (ck1 w <| if w ≠ 0 then ckL v <| ck1 (l_cmp v 1000000) <| if (l_cmp v 1000000) ≤ 0 then ckA u 40 <| f_X6_climbs_L44 N a z (gP P g).1 t k f (u + 1) (bS m1 34 (aS (m1 34) u v)) else ckA u 40 <| f_X6_climbs_L44 N a z (gP P g).1 t k f (u + 1) (bS m1 34 (aS (m1 34) u 1000000)) else ckA u 40 <| f_X6_climbs_L44 N a z (gP P g).1 t k f (u + 1) (bS m1 34 (aS (m1 34) u (-1)))) = f_X6_climbs_L44 N a z (gP P g).1 t k f (u + 1) (bS m1 34 (aS (m1 34) u (upk z (gP P g) (m1 34) u))) := by
    intro w v hw v0 v1 e
    rw [← e, ck1_of (by omega) (by omega)]
    by_cases c : w = 0
    · rw [if_neg (fun h => h c), if_neg (show ¬ w = 1 by omega), ckA_of u0 (by omega)]
    · rw [if_pos c, if_pos (show w = 1 by omega), ckL_of (by omega) (by omega)]
      unfold l_cmp cap
      by_cases d : v < 1000000
      · rw [if_pos d, ck1_of (by decide) (by decide), if_pos (by decide), if_pos (show v ≤ 1000000 by omega), ckA_of u0 (by omega)]
      · rw [if_neg d]
        by_cases e : v = 1000000
        · rw [if_pos e, ck1_of (by decide) (by decide), if_pos (by decide), if_pos (show v ≤ 1000000 by omega), ckA_of u0 (by omega)]
        · rw [if_neg e, ck1_of (by decide) (by decide), if_neg (by decide), if_neg (show ¬ v ≤ 1000000 by omega), ckA_of u0 (by omega)]
  have go : ∀ v0 : Int, v0 = (if z = 0 then 0 else 1) → f_X6_climbs_L76 m1 a z (gP P g).1 t u (pk (GP (gP P g) u 0) (GP (gP P g) u 1) (GP (gP P g) u 2)) (fun (x7_76 : Int) (x8_76 : Int) => ck1 x7_76 <| if x7_76 ≠ 0 then ckL x8_76 <| ck1 (l_cmp x8_76 1000000) <| if (l_cmp x8_76 1000000) ≤ 0 then ckA u 40 <| f_X6_climbs_L44 N a z (gP P g).1 t k f (u + 1) (bS m1 34 (aS (m1 34) u x8_76)) else ckA u 40 <| f_X6_climbs_L44 N a z (gP P g).1 t k f (u + 1) (bS m1 34 (aS (m1 34) u 1000000)) else ckA u 40 <| f_X6_climbs_L44 N a z (gP P g).1 t k f (u + 1) (bS m1 34 (aS (m1 34) u (-1)))) N 1 v0 0 = f_X6_climbs_L44 N a z (gP P g).1 t k f (u + 1) (bS m1 34 (aS (m1 34) u (upk z (gP P g) (m1 34) u))) := by
    intro v0 ev0
    obtain ⟨M, rfl⟩ : ∃ M, N = M + 3 := ⟨N - 3, by omega⟩
    have v0r : 0 ≤ v0 ∧ v0 ≤ 1 := by rw [ev0]; split <;> omega
    by_cases c0 : ar (GP (gP P g) u 0) ≤ 0
    · rw [cl_stop n u0 u1 _ _ _ _ _ _ (Int.le_refl 0) (by omega) c0]
      refine fin 1 v0 (Or.inr rfl) (by omega) (by omega) ?_
      rw [if_pos rfl]
      unfold upk
      rw [if_pos ⟨fun h => by omega, fun h => by omega⟩, ev0]
      unfold val
      rw [if_pos c0, if_pos c0]
    · rw [cl_step n u0 u1 hz _ _ _ _ _ _ (Int.le_refl 0) (by omega) (Or.inr rfl) (by omega) (by omega) r1]
      have e10 : (1 : Int) + 0 = 1 := rfl
      rw [e10]
      generalize hS1 : m1 34 (GP (gP P g) u 1) = S1 at *
      obtain ⟨w1, hw1⟩ : ∃ w : Int, w = (if (1 : Int) = 1 ∧ 0 ≤ S1 then 1 else 0) := ⟨_, rfl⟩
      obtain ⟨v1, hv1⟩ : ∃ v : Int, v = (if z = 0 then (if S1 + 1 ≤ v0 then v0 else S1 + 1) else v0 + S1) := ⟨_, rfl⟩
      rw [← hw1, ← hv1]
      have fw : (w1 = 1 ∧ 0 ≤ S1) ∨ (w1 = 0 ∧ ¬ 0 ≤ S1) := by
        by_cases d : 0 ≤ S1
        · left; exact ⟨by rw [hw1, if_pos ⟨rfl, d⟩], d⟩
        · right; exact ⟨by rw [hw1, if_neg (fun h => d h.2)], d⟩
      have fv : (z = 0 → 0 ≤ S1 → v1 = S1 + 1) ∧ (z = 1 → v1 = 1 + S1) ∧ -5 ≤ v1 ∧ v1 ≤ 1500000 := by
        rcases hz with z0 | z0
        · have e : v1 = (if S1 + 1 ≤ v0 then v0 else S1 + 1) := by rw [hv1, if_pos z0]
          have e0 : v0 = 0 := by rw [ev0, if_pos z0]
          by_cases d : S1 + 1 ≤ v0
          · rw [if_pos d] at e; omega
          · rw [if_neg d] at e; omega
        · have e : v1 = v0 + S1 := by rw [hv1, if_neg (by omega)]
          have e0 : v0 = 1 := by rw [ev0, if_neg (by omega)]
          omega
      by_cases c1 : ar (GP (gP P g) u 0) ≤ 1
      · rw [cl_stop n u0 u1 _ _ _ _ _ _ (i := 0 + 1) (by omega) (by omega) (by omega)]
        refine fin w1 v1 (by omega) (by omega) (by omega) ?_
        unfold upk
        rw [hS1]
        rcases fw with ⟨f1, f2⟩ | ⟨f1, f2⟩
        · rw [if_pos f1, if_pos ⟨fun _ => f2, fun h => by omega⟩]
          refine congrArg cap ?_
          unfold val
          rcases hz with z0 | z0
          · rw [if_pos z0, if_neg c0, if_pos c1]; exact fv.1 z0 f2
          · rw [if_neg (by omega), if_neg c0, if_pos c1]; exact fv.2.1 z0
        · rw [if_neg (by omega), if_neg (fun h => f2 (h.1 (by omega)))]
      · rw [cl_step n u0 u1 hz _ _ _ _ _ _ (i := 0 + 1) (by omega) (by omega) (by omega) (by omega) (by omega) r2]
        rw [cl_stop n u0 u1 _ _ _ _ _ _ (i := 0 + 1 + 1) (by omega) (by omega) (by omega)]
        have e20 : (1 : Int) + (0 + 1) = 2 := rfl
        rw [e20]
        generalize hS2 : m1 34 (GP (gP P g) u 2) = S2 at *
        obtain ⟨w2, hw2⟩ : ∃ w : Int, w = (if w1 = 1 ∧ 0 ≤ S2 then 1 else 0) := ⟨_, rfl⟩
        obtain ⟨v2, hv2⟩ : ∃ v : Int, v = (if z = 0 then (if S2 + 1 ≤ v1 then v1 else S2 + 1) else v1 + S2) := ⟨_, rfl⟩
        rw [← hw2, ← hv2]
        have fw2 : (w2 = 1 ∧ 0 ≤ S1 ∧ 0 ≤ S2) ∨ (w2 = 0 ∧ ¬ (0 ≤ S1 ∧ 0 ≤ S2)) := by
          by_cases d : w1 = 1 ∧ 0 ≤ S2
          · left; exact ⟨by rw [hw2, if_pos d], by omega, d.2⟩
          · right; exact ⟨by rw [hw2, if_neg d], by omega⟩
        have fv2 : (z = 0 → 0 ≤ S1 → v2 = if S2 + 1 ≤ S1 + 1 then S1 + 1 else S2 + 1) ∧ (z = 1 → v2 = 1 + S1 + S2) ∧ -5 ≤ v2 ∧ v2 ≤ 3000000 := by
          rcases hz with z0 | z0
          · have e : v2 = (if S2 + 1 ≤ v1 then v1 else S2 + 1) := by rw [hv2, if_pos z0]
            refine ⟨fun _ h => by rw [e, fv.1 z0 h], fun h => by omega, ?_, ?_⟩
            · rw [e]; split <;> omega
            · rw [e]; split <;> omega
          · have e : v2 = v1 + S2 := by rw [hv2, if_neg (by omega)]
            have := fv.2.1 z0
            exact ⟨fun h => by omega, fun _ => by omega, by omega, by omega⟩
        refine fin w2 v2 (by omega) fv2.2.2.1 fv2.2.2.2 ?_
        unfold upk
        rw [hS1, hS2]
        rcases fw2 with ⟨f1, f2, f3⟩ | ⟨f1, f2⟩
        · rw [if_pos f1, if_pos ⟨fun _ => f2, fun _ => f3⟩]
          refine congrArg cap ?_
          unfold val
          rcases hz with z0 | z0
          · rw [if_pos z0, if_neg c0, if_neg c1]; exact fv2.1 z0 f2
          · rw [if_neg (by omega), if_neg c0, if_neg c1]; exact fv2.2.1 z0
        · rw [if_neg (by omega), if_neg (fun h => f2 ⟨h.1 (by omega), h.2 (by omega)⟩)]
  by_cases z0 : z = 0
  · rw [if_pos z0]
    exact go 0 (by rw [if_pos z0])
  · rw [if_neg z0]
    exact go 1 (by rw [if_neg z0])
/-- in round t, u nodes done: what is known of the values -/
def JS (z : Int) (X : Gr) (S : Int → Int) (t : Nat) (u : Int) : Prop := (∀ v, 0 ≤ v → v < X.1 → -1 ≤ S v ∧ S v ≤ 1000000) ∧ (∀ v, 0 ≤ v → v < X.1 → 0 ≤ S v → ∃ t', Kn z X t' v (S v)) ∧ (∀ v d, 0 ≤ v → v < X.1 → Kn z X t v d → S v = d) ∧ ∀ v d, 0 ≤ v → v < u → Kn z X (t + 1) v d → S v = d
theorem JS.next {z : Int} {X : Gr} (hX : GOK X) {S : Int → Int} {t : Nat} {u : Int} (h : JS z X S t u) (u0 : 0 ≤ u) (u1 : u < X.1) : JS z X (aS S u (upk z X S u)) t (u + 1) := by
  obtain ⟨h1, h2, h3, h4⟩ := h
  have rg := hX.node u0 u1
  have comp : ∀ d, Kn z X (t + 1) u d → upk z X S u = d := by
    rintro d ⟨p, q, a1, a2, rfl⟩
    have b1 : 0 < ar (GP X u 0) → S (GP X u 1) = p := fun a => h3 _ p rg.2.2.1 rg.2.2.2.1 (a1 a)
    have b2 : 1 < ar (GP X u 0) → S (GP X u 2) = q := fun a => h3 _ q rg.2.2.2.2.1 rg.2.2.2.2.2 (a2 a)
    have c1 : 0 < ar (GP X u 0) → 0 ≤ S (GP X u 1) := fun a => by rw [b1 a]; exact (Kn.rng _ _ _ (a1 a)).1
    have c2 : 1 < ar (GP X u 0) → 0 ≤ S (GP X u 2) := fun a => by rw [b2 a]; exact (Kn.rng _ _ _ (a2 a)).1
    unfold upk
    rw [if_pos ⟨c1, c2⟩, val_c b1 b2]
  have snd : 0 ≤ upk z X S u → ∃ t', Kn z X t' u (upk z X S u) := by
    intro hu
    unfold upk at *
    by_cases c : (0 < ar (GP X u 0) → 0 ≤ S (GP X u 1)) ∧ (1 < ar (GP X u 0) → 0 ≤ S (GP X u 2))
    · rw [if_pos c]
      have e1 : ∃ t1, 0 < ar (GP X u 0) → Kn z X t1 (GP X u 1) (S (GP X u 1)) := by
        by_cases a : 0 < ar (GP X u 0)
        · obtain ⟨t1, ht⟩ := h2 _ rg.2.2.1 rg.2.2.2.1 (c.1 a); exact ⟨t1, fun _ => ht⟩
        · exact ⟨0, fun h => absurd h a⟩
      have e2 : ∃ t2, 1 < ar (GP X u 0) → Kn z X t2 (GP X u 2) (S (GP X u 2)) := by
        by_cases a : 1 < ar (GP X u 0)
        · obtain ⟨t2, ht⟩ := h2 _ rg.2.2.2.2.1 rg.2.2.2.2.2 (c.2 a); exact ⟨t2, fun _ => ht⟩
        · exact ⟨0, fun h => absurd h a⟩
      obtain ⟨t1, k1⟩ := e1
      obtain ⟨t2, k2⟩ := e2
      exact Kn.mk k1 k2
    · rw [if_neg c] at hu
      exact absurd hu (by decide)
  have rng : -1 ≤ upk z X S u ∧ upk z X S u ≤ 1000000 := by
    by_cases c : 0 ≤ upk z X S u
    · obtain ⟨t', ht⟩ := snd c
      have := Kn.rng _ _ _ ht
      omega
    · unfold upk at *
      by_cases d : (0 < ar (GP X u 0) → 0 ≤ S (GP X u 1)) ∧ (1 < ar (GP X u 0) → 0 ≤ S (GP X u 2))
      · rw [if_pos d] at c ⊢
        unfold cap at *
        by_cases e : val z (ar (GP X u 0)) (S (GP X u 1)) (S (GP X u 2)) ≤ 1000000
        · rw [if_pos e] at c ⊢
          have r1 := h1 _ rg.2.2.1 rg.2.2.2.1
          have r2 := h1 _ rg.2.2.2.2.1 rg.2.2.2.2.2
          have har := ar_le (GP X u 0)
          refine ⟨?_, e⟩
          unfold val at *
          by_cases z0 : z = 0
          · rw [if_pos z0] at *
            by_cases a : ar (GP X u 0) ≤ 0
            · rw [if_pos a]; decide
            · rw [if_neg a] at *
              have := d.1 (by omega)
              by_cases b : ar (GP X u 0) ≤ 1
              · rw [if_pos b]; omega
              · rw [if_neg b]; split <;> omega
          · rw [if_neg z0] at *
            by_cases a : ar (GP X u 0) ≤ 0
            · rw [if_pos a]; decide
            · rw [if_neg a] at *
              have := d.1 (by omega)
              by_cases b : ar (GP X u 0) ≤ 1
              · rw [if_pos b]; omega
              · have := d.2 (by omega)
                rw [if_neg b]; omega
        · rw [if_neg e] at c
          exact absurd (show (0 : Int) ≤ 1000000 by decide) c
      · rw [if_neg d]; decide
  refine ⟨fun v v0 v1 => ?_, fun v v0 v1 hv => ?_, fun v d v0 v1 hk => ?_, fun v d v0 v1 hk => ?_⟩
  · by_cases e : v = u
    · rw [e, aS_eq]; exact rng
    · rw [aS_ne _ _ e]; exact h1 v v0 v1
  · by_cases e : v = u
    · rw [e, aS_eq] at hv ⊢; exact snd hv
    · rw [aS_ne _ _ e] at hv ⊢; exact h2 v v0 v1 hv
  · by_cases e : v = u
    · rw [e] at hk
      rw [e, aS_eq]; exact comp d (Kn.up _ _ _ hk)
    · rw [aS_ne _ _ e]; exact h3 v d v0 v1 hk
  · by_cases e : v = u
    · rw [e] at hk
      rw [e, aS_eq]; exact comp d hk
    · rw [aS_ne _ _ e]; exact h4 v d v0 (by omega) hk
theorem cl_row {N : Nat} (hN : 20000 ≤ N) {P : PL} {m : Bd} {a g : Int} (n : Nm P m a g) {z : Int} (hz : z = 0 ∨ z = 1) (tt : Int) {t : Nat} : ∀ (f : Nat) (u : Int) (m1 : Bd), (gP P g).1 - u < f → 0 ≤ u → u ≤ (gP P g).1 → (∀ s : Nat, s ≠ 34 → m1 s = m s) → JS z (gP P g) (m1 34) t u → ∃ m', (∀ s : Nat, s ≠ 34 → m' s = m s) ∧ JS z (gP P g) (m' 34) (t + 1) 0 ∧ ∀ k, f_X6_climbs_L44 N a z (gP P g).1 tt k f u m1 = k m' := by
  have s := n.sz
  have gg := n.2.2.2.2.1
  intro f
  induction f with
  | zero => intro i m1 h0 _ h2; omega
  | succ f ih =>
    intro u m1 h0 u0 u1 hf hJ
    by_cases hx : (gP P g).1 ≤ u
    · have e : u = (gP P g).1 := by omega
      obtain ⟨h1, h2, h3, h4⟩ := hJ
      refine ⟨m1, hf, ⟨h1, h2, fun v d v0 v1 hk => h4 v d v0 (by omega) hk, fun v d v0 v1 => by omega⟩, fun k => ?_⟩
      rw [f_X6_climbs_L44, ck1_of (by omega) (by omega), ck1_of (by omega) (by omega), if_pos hx]
    · obtain ⟨m', k1, k2, k3⟩ := ih (u + 1) (bS m1 34 (aS (m1 34) u (upk z (gP P g) (m1 34) u))) (by omega) (by omega) (by omega) (fun s hs => by rw [bS_ne _ _ hs]; exact hf s hs) (by rw [bS_eq]; exact hJ.next gg u0 (by omega))
      refine ⟨m', k1, k2, fun k => ?_⟩
      rw [cl_node hN n u0 (by omega) hz hf hJ.1 tt k f]
      exact k3 k
theorem cl_times {N : Nat} (hN : 20000 ≤ N) {P : PL} {m : Bd} {a g : Int} (n : Nm P m a g) {z : Int} (hz : z = 0 ∨ z = 1) : ∀ (f t : Nat) (m1 : Bd), (gP P g).1 - t < f → (t : Int) ≤ (gP P g).1 → (∀ s : Nat, s ≠ 34 → m1 s = m s) → JS z (gP P g) (m1 34) t 0 → ∃ m', (∀ s : Nat, s ≠ 34 → m' s = m s) ∧ JS z (gP P g) (m' 34) (gP P g).1.toNat 0 ∧ ∀ k, f_X6_climbs_L35 N a z (gP P g).1 k f t m1 = k m' := by
  have s := n.sz
  intro f
  induction f with
  | zero => intro i m1 h0 h2; omega
  | succ f ih =>
    intro t m1 h0 t1 hf hJ
    by_cases hx : (gP P g).1 ≤ t
    · refine ⟨m1, hf, by rw [show (gP P g).1.toNat = t by omega]; exact hJ, fun k => ?_⟩
      rw [f_X6_climbs_L35, ck1_of (by omega) (by omega), ck1_of (by omega) (by omega), if_pos hx]
    · obtain ⟨m2, l1, l2, l3⟩ := cl_row hN n hz t (t := t) N 0 m1 (by omega) (by omega) (by omega) hf hJ
      obtain ⟨m', k1, k2, k3⟩ := ih (t + 1) m2 (by omega) (by omega) l1 l2
      refine ⟨m', k1, k2, fun k => ?_⟩
      rw [f_X6_climbs_L35, ck1_of (by omega) (by omega), ck1_of (by omega) (by omega), if_neg hx, l3]
      exact k3 k
theorem cl_init {s : Int} (hs : s ≤ 40) {m : Bd} (x1 x2 : Int) : ∀ (f : Nat) (i : Int) (m1 : Bd), s - i < f → 0 ≤ i → i ≤ s → (∀ t : Nat, t ≠ 34 → m1 t = m t) → (∀ v, 0 ≤ v → v < i → m1 34 v = -1) → ∃ m', (∀ t : Nat, t ≠ 34 → m' t = m t) ∧ (∀ v, 0 ≤ v → v < s → m' 34 v = -1) ∧ ∀ k, f_X6_climbs_L10 x1 x2 s k f i m1 = k m' := by
  intro f
  induction f with
  | zero => intro i m1 h0 _ h2; omega
  | succ f ih =>
    intro i m1 h0 i0 i1 hf hd
    by_cases hx : s ≤ i
    · refine ⟨m1, hf, fun v v0 v1 => hd v v0 (by omega), fun k => ?_⟩
      rw [f_X6_climbs_L10, ck1_of (by omega) (by omega), ck1_of (by omega) (by omega), if_pos hx]
    · obtain ⟨m', k1, k2, k3⟩ := ih (i + 1) (bS m1 34 (aS (m1 34) i (-1))) (by omega) (by omega) (by omega) (fun t ht => by rw [bS_ne _ _ ht]; exact hf t ht) (fun v v0 v1 => by
        rw [bS_eq]
        by_cases c : v = i
        · rw [c, aS_eq]
        · rw [aS_ne _ _ c]; exact hd v v0 (by omega))
      refine ⟨m', k1, k2, fun k => ?_⟩
      rw [f_X6_climbs_L10, ck1_of (by omega) (by omega), ck1_of (by omega) (by omega), if_neg hx, ckA_of i0 (by omega)]
      exact k3 k
/-- climbs answers the first node's value, if it is known at all -/
theorem climbs_of {N : Nat} (hN : 20000 ≤ N) {P : PL} {m : Bd} {a g : Int} (n : Nm P m a g) {z : Int} (hz : z = 0 ∨ z = 1) : ∃ v m', f_X6_climbs N m a z = some (v, m') ∧ (∀ s : Nat, s ≠ 34 → m' s = m s) ∧ (∀ d, Kn z (gP P g) (gP P g).1.toNat 0 d → v = d) ∧ ((∀ t d, ¬ Kn z (gP P g) t 0 d) → v = -1) ∧ -1 ≤ v ∧ v ≤ 1000000 := by
  have s := n.sz
  obtain ⟨a0, a1, p0, p1, gg, e, -⟩ := id n
  obtain ⟨m1, k1, k2, k3⟩ := cl_init s.2 (m := m) a z N 0 m (by omega) (by omega) (by omega) (fun _ _ => rfl) (fun v v0 v1 => by omega)
  obtain ⟨m2, l1, l2, l3⟩ := cl_times hN n hz N 0 m1 (by omega) (by omega) k1 ⟨fun v v0 v1 => by rw [k2 v v0 v1]; decide, fun v v0 v1 h => by rw [k2 v v0 v1] at h; exact absurd h (by decide), fun v d v0 v1 h => absurd h (by intro h; exact h), fun v d v0 v1 => by omega⟩
  have l3 : ∀ k, f_X6_climbs_L35 N a z (gP P g).1 k N 0 m1 = k m2 := l3
  have r0 := l2.1 0 (by omega) (by omega)
  refine ⟨m2 34 0, m2, ?_, l1, fun d hd => l2.2.2.1 0 d (by omega) (by omega) hd, fun hn => ?_, r0.1, r0.2⟩
  · unfold f_X6_climbs
    rw [ckA_of a0 a1, e, k3, l3]
  · by_cases c : 0 ≤ m2 34 0
    · obtain ⟨t', ht⟩ := l2.2.1 0 (by omega) (by omega) c
      exact absurd ht (hn _ _)
    · omega
