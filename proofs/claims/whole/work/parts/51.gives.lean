/-! Giving a name what was made -/
theorem g23 {m : Bd} {g x : Int} (h17 : m 17 0 = g) (g0 : 0 ≤ g) (g1 : g ≤ 40) (x0 : 0 ≤ x) (x1 : x < 8) (k : Bd → Option (Int × Bd)) : ∀ (f : Nat) (i : Int) (l1 : Bd), g - i < f → 0 ≤ i → i ≤ g → (∀ s : Nat, s ≠ 1 → l1 s = m s) → (∀ j, l1 1 j = if 40 * x ≤ j ∧ j < 40 * x + i then m 16 (j - 40 * x) else m 1 j) → ∃ l', (∀ s : Nat, s ≠ 1 → l' s = m s) ∧ (∀ j, l' 1 j = if 40 * x ≤ j ∧ j < 40 * x + g then m 16 (j - 40 * x) else m 1 j) ∧ f_X6_gives_L23 x k f i l1 = k l' := by
  intro f
  induction f with
  | zero => intro i l1 h0 _ h2; omega
  | succ f ih =>
    intro i l1 h0 h1 h2 hfr hd
    rw [f_X6_gives_L23, hfr 17 (by decide), h17, ck1_of (by omega) (by omega), ck1_of (by omega) (by omega)]
    by_cases hx : g ≤ i
    · rw [if_pos hx]
      exact ⟨l1, hfr, fun j => by rw [hd j, show i = g by omega], rfl⟩
    · rw [if_neg hx, hfr 16 (by decide), ckA_of h1 (by omega), ckA_of (by omega) (by omega)]
      refine ih (i + 1) _ (by omega) (by omega) (by omega) (fun s hs => by rw [bS_ne _ _ hs]; exact hfr s hs) (fun j => ?_)
      rw [bS_eq]
      by_cases hi : j = 40 * x + i
      · rw [hi, aS_eq, if_pos (by omega), show 40 * x + i - 40 * x = i by omega]
      · rw [aS_ne _ _ hi, hd j]
        by_cases c : 40 * x ≤ j ∧ j < 40 * x + i
        · rw [if_pos c, if_pos (by omega)]
        · rw [if_neg c, if_neg (by omega)]
theorem POK.app {P : PL} {g : Gr} (h : POK P) (hg : GOK g) : POK (P ++ [g]) := by
  intro x x0 x1
  rw [List.length_append, List.length_singleton] at x1
  by_cases e : x = (P.length : Int)
  · rw [e, gP_new]; exact hg
  · rw [gP_app g x0 (by omega)]; exact h x x0 (by omega)
/-- the making tail: what both sides made of the same tree is given to the name x -/
theorem give_of {N : Nat} (hN : 4000 ≤ N) {T : Int} {lt b m m1 b' : Bd} {P P' : PL} {G : GG} {S : Int → Prop} {cnt root root2 res : Int} (h : RR T lt b m P) (hMd : Made G root res P P') (hb' : ∀ s, 0 ≤ s → s < 11200 → b' 8 s = -1) (hm : ∀ s : Nat, s < 9 → m1 s = m s) (hS : MS m1 S cnt) (hr : S root2) (hE : Eqv G root (MG (m1 9)) root2) {x : Int} (x0 : 0 ≤ x) (x1 : x < 8) : ∃ v lt' m', f_X5_give N lt P' x res = some (v, lt') ∧ f_X6_gives N m1 root2 x = some (v, m') ∧ inR v ∧ RR (T + 1) lt' b' m' P' := by
  obtain ⟨g, m2, e2, f2, w17, hMM⟩ := makes_of hN hS hr
  have fr : ∀ s : Nat, s < 9 → m2 s = m s := fun s hs => by rw [f2 s (by omega)]; exact hm s hs
  unfold f_X5_give f_X6_gives
  rw [e2, bn_some]
  dsimp only
  have hRR : RR T lt b m2 P := h.frame (fun _ _ _ => rfl) rfl fr
  rcases hMM with ⟨g0, g1, C, hC, hCE, hCw⟩ | ⟨g41, hBig⟩
  · rcases hMd with ⟨gr, hres, hP', hG, hGE⟩ | ⟨_, _, hB⟩
    · have hu := hC.unique hG.1 ((hCE.trans hE.symm).trans hGE.symm)
      obtain ⟨h1, h2, h3, hM, hV, hP, hB⟩ := id hRR
      have hP2 : POK P' := by rw [hP']; exact hP.app hG
      have hM' : RName lt m2 P' := fun a a0 a1 => by rw [hP']; exact (hM a a0 a1).app gr
      have hV' : RVer lt m2 P' := ⟨hV.1, hV.2.1, hV.2.2.1, hV.2.2.2.1, hV.2.2.2.2.1, fun j a j0 j1 a0 a1 => by rw [hP']; exact (hV.2.2.2.2.2 j a j0 j1 a0 a1).app gr⟩
      have hlen : (P'.length : Int) = (P.length : Int) + 1 := by rw [hP', List.length_append, List.length_singleton]; omega
      have hgP : gP P' res = gr := by rw [hP', hres, gP_new]
      obtain ⟨l', m3, k1, k2, lf, mf, hV3⟩ := keep_of hN hP2 hV' hM'
      rw [if_neg (by omega), k1, bn_some, ck1_of (by omega) (by omega), if_pos g1, k2, bn_some, ckA_of x0 x1, ckN_of (by omega), ckG_of (by omega) (by omega), hgP]
      have q17 : m3 17 0 = g := by rw [mf 17 (by decide) (by decide) (by decide)]; exact w17
      obtain ⟨m4, a1, a2, a3⟩ := g23 q17 (by omega) g1 x0 x1 (fun (m_23 : Bd) => ckA x 8 <| some (m_23 17 0, (bS m_23 0 (aS (m_23 0) x (m_23 17 0))))) N 0 m3 (by omega) (by omega) (by omega) (fun _ _ => rfl) (fun j => by rw [if_neg (by omega)])
      rw [a3]
      try dsimp only
      rw [ckA_of x0 x1]
      have r17 : m4 17 0 = g := by rw [a1 17 (by decide)]; exact q17
      rw [r17]
      refine ⟨g, _, _, by rw [← hu.1], rfl, ⟨by omega, by omega⟩, ?_, ?_, ?_, ?_, ?_, hP2, hb'⟩
      · unfold RText; rw [bS_ne _ _ (by decide), bS_ne _ _ (by decide), bS_ne _ _ (by decide), bS_ne _ _ (by decide), lf 0 (by decide) (by decide) (by decide), lf 1 (by decide) (by decide) (by decide), a1 7 (by decide), a1 8 (by decide), mf 7 (by decide) (by decide) (by decide), mf 8 (by decide) (by decide) (by decide)]; exact h1
      · unfold RKind; rw [bS_ne _ _ (by decide), bS_ne _ _ (by decide), lf 2 (by decide) (by decide) (by decide), a1 6 (by decide), mf 6 (by decide) (by decide) (by decide)]; exact h2
      · unfold RCnt; rw [bS_ne _ _ (by decide), bS_ne _ _ (by decide), bS_ne _ _ (by decide), bS_ne _ _ (by decide), lf 8 (by decide) (by decide) (by decide), lf 9 (by decide) (by decide) (by decide), lf 10 (by decide) (by decide) (by decide), a1 5 (by decide), mf 5 (by decide) (by decide) (by decide)]; exact hRR.up.2.2.1
      · intro a a0 a8
        rw [bS_eq, bS_eq, bS_ne _ _ (by decide), lf 3 (by decide) (by decide) (by decide), a1 0 (by decide), mf 0 (by decide) (by decide) (by decide)]
        by_cases c : a = x
        · rw [c, aS_eq, aS_eq]
          refine Or.inr ⟨by omega, by omega, by rw [hgP]; exact hu.1, fun v v0 v1 => ?_⟩
          rw [a2, if_pos (by omega), show 40 * x + v - 40 * x = v by omega, mf 16 (by decide) (by decide) (by decide), hCw v v0 v1, hgP, hu.2 v v0 v1 0 (by omega) (by omega), hu.2 v v0 v1 1 (by omega) (by omega), hu.2 v v0 v1 2 (by omega) (by omega)]
        · rw [aS_ne _ _ c, aS_ne _ _ c]
          refine (hM' a a0 a8).cong rfl rfl (fun v v0 v1 => ?_) hP2
          rw [a2, if_neg (by omega), mf 1 (by decide) (by decide) (by decide)]
      · unfold RVer
        rw [bS_ne _ _ (by decide), bS_ne _ _ (by decide), bS_ne _ _ (by decide), bS_ne _ _ (by decide), bS_ne _ _ (by decide), bS_ne _ _ (by decide), a1 2 (by decide), a1 3 (by decide), a1 4 (by decide)]
        exact hV3
    · exact absurd (hB.eqv (hE.trans hCE.symm)) (hC.small g1)
  · rcases hMd with ⟨gr, hres, hP', hG, hGE⟩ | ⟨hres, hP', _⟩
    · exact absurd (hBig.eqv (hE.symm.trans hGE.symm)) (hG.1.small hG.2)
    · rw [if_pos (by omega), ck1_of (by omega) (by omega), if_neg (by omega), hP']
      have hRR' : RR T lt b' m2 P := ⟨hRR.1, hRR.2.1, hRR.2.2.1, hRR.2.2.2.1, hRR.2.2.2.2.1, hRR.2.2.2.2.2.1, hb'⟩
      obtain ⟨lt', m', q1, q2, r⟩ := refFull hRR'
      rw [q1, q2, bn_some, bn_some]
      exact ⟨-4, lt', m', rfl, rfl, by decide, r⟩
