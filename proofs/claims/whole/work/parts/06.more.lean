/-! MORE ROWS: references put into fields, the argument list, fillRow by hand -/
theorem z_cat (r : Option Nat) : (va_rf r).category = 1 := by cases r <;> rfl
theorem z_catR (a : Nat) : (Value.ref a).category = 1 := rfl
theorem z_catI (a : Int32) : (Value.int a).category = 1 := rfl
theorem z_catL (a : Int64) : (Value.long a).category = 2 := rfl
theorem z_ite {α : Type} {c : Prop} [Decidable c] {a b : Int} (j : Int → Option α) : j (if c then a else b) = if c then j a else j b := by split <;> rfl
section More
variable {K : KT} {α β : Type} {Qf : α → State → Prop} {cl sl : Nat} {o : Option α} {pc : Nat} {lv lv' : List (Nat × Value)} {st : List Value} {ws ws' : va_W}
variable {cc : ByteArray} {own : String} {Ts : List Cond} {R0 : Room} {rt : Option FieldType} {nL : Nat}
theorem r_lv (h : lv = lv') (kk : Rn K Qf cl sl o pc lv' st ws) : Rn K Qf cl sl o pc lv st ws := h ▸ kk
theorem r_putG {idx b ci : Nat} {C : String} {T : u_T} {N : Nat} {fs : List Value} {r : Option Nat} {ty : FieldType} (X : Kok K cc own Ts R0 rt nL) (q0 k : Nat) (hin : ∀ w ∈ u_ws C T N, w ∈ Ts) (ty0 : Nat → FieldType) (hty : ∀ k, k < N → parseFieldDescriptor (T k).2.2.1 = some (ty0 k)) (hnm : ∀ a, a < N → ∀ b, b < N → a ≠ b → (T a).2.1 ≠ (T b).2.1) (he : ws[q0]? = some (b, .inr (ci, fs))) (hc : vwCl[ci]? = some (C, T, N)) (hk : k < N) (hlink : Cond.fieldLink own idx (T k).1 (T k).2.1 (T k).2.2.1 ∈ Ts) (hfin : (T k).2.2.2 = false) (hd2 : parseFieldDescriptor (T k).2.2.1 = some ty) (ht : ty = .object "LoopTypes$Graph") (hl0 : k < fs.length) (hw : ws.set q0 (b, .inr (ci, fs.set k (va_rf r))) = ws') (hd : decode cc pc = .ok (.putfield idx, 3)) (kk : Rn K Qf cl sl o (pc + 3) lv st ws') : Rn K Qf cl sl o pc lv (va_rf r :: .ref b :: st) ws := by
  subst ht
  refine r_put X q0 k hin ty0 hty hnm he hc hk hlink hfin hd2 ?_ ?_ hl0 hw hd kk
  · cases r <;> rfl
  · cases r <;> rfl
end More
def f_X5_fillRow_L10 (ni x3 x2 : Int) : Nat → Int → (Int → Int) → Option (Int → Int)
  | 0, _, _ => none
  | n + 1, x4, row =>
    ck1 x4 <|
    ck1 x3 <|
    if x3 ≤ x4 then
      some row
    else
      ckA x4 ni <|
      f_X5_fillRow_L10 ni x3 x2 n (x4 + 1) (aS row x4 x2)
def f_X5_fillRow (N : Nat) (row : Int → Int) (ni x1 x2 : Int) : Option (Int → Int) :=
  ck1 x1 <|
  ck1 ni <|
  f_X5_fillRow_L10 ni (min x1 ni) x2 N 0 row
abbrev Rm_fillRow : Room := { frames := 1, cells := 0, slots := 0, locals := 19 }
section FillRow
variable {K : KT} (Wf : (Int → Int) → va_W) (q0 bb n : Nat) (ni x1 x2 : Int)
set_option maxRecDepth 100000 in
set_option maxHeartbeats 4000000 in
theorem t_X5_fillRow_L10 (X : Kok K cX5_fillRow yX5_fillRow.cls lw_g Rm_fillRow none 5) (hn : n ≤ 2147483647 ∧ (n : Int) = ni) (hg : ∀ F, (Wf F)[q0]? = some (bb, .inl ((kE K).1, n, .inl (f32 F)))) (hs : ∀ F G, (Wf F).set q0 (bb, .inl ((kE K).1, n, .inl (f32 G))) = Wf G) (x3 : Int) : ∀ (k : Nat) (x4 : Int) (row : Int → Int), Rn K (Qm K Rm_fillRow (fun a : Int → Int => Wf a) (fun _ => none)) 0 0 (f_X5_fillRow_L10 ni x3 x2 k x4 row) 10 [(0, .ref bb), (1, vI x1), (2, vI x2), (3, vI x3), (4, vI x4)] [] (Wf row) := by
  intro k
  induction k with
  | zero =>
    intro x4 row
    rw [f_X5_fillRow_L10]
    exact r_none
  | succ k ih =>
    intro x4 row
    rw [f_X5_fillRow_L10]
    refine r_ck1 (fun h1 => ?_)
    refine r_ck1 (fun h2 => ?_)
    refine r_iload (pc := 10) X 4 dX5_fillRow_10 rfl ?_
    refine r_iload_n (pc := 12) X 3 dX5_fillRow_12 rfl rfl ?_
    refine r_icmp_ge (pc := 13) X h1 h2 dX5_fillRow_13 (tgt := 27) (by decide) (fun h3 => ?_) (fun h3 => ?_)
    · exact r_vret (pc := 27) X rfl rfl (by decide) dX5_fillRow_27
    · refine r_ckA (fun h4 => ?_)
      refine r_aload_n (pc := 16) X 0 dX5_fillRow_16 rfl rfl ?_
      refine r_iload (pc := 17) X 4 dX5_fillRow_17 rfl ?_
      refine r_iload_n (pc := 19) X 2 dX5_fillRow_19 rfl rfl ?_
      refine r_iast (pc := 20) (f := row) X q0 h4 hn (hg row) (hs row (aS row x4 x2)) dX5_fillRow_20 ?_
      refine r_iinc (pc := 21) (lv' := [(0, .ref bb), (1, vI x1), (2, vI x2), (3, vI x3), (4, vI (x4 + 1))]) X 4 [1, 2, 3, 4, 0] dX5_fillRow_21 rfl (by decide) rfl ?_
      refine r_goto (pc := 24) X dX5_fillRow_24 (tgt := 10) (by decide) ?_
      exact ih (x4 + 1) (aS row x4 x2)
set_option maxRecDepth 100000 in
set_option maxHeartbeats 4000000 in
theorem t_X5_fillRow (N : Nat) (row : Int → Int) (X : Kok K cX5_fillRow yX5_fillRow.cls lw_g Rm_fillRow none 5) (hn : n ≤ 2147483647 ∧ (n : Int) = ni) (hg : ∀ F, (Wf F)[q0]? = some (bb, .inl ((kE K).1, n, .inl (f32 F)))) (hs : ∀ F G, (Wf F).set q0 (bb, .inl ((kE K).1, n, .inl (f32 G))) = Wf G) : Rn K (Qm K Rm_fillRow (fun a : Int → Int => Wf a) (fun _ => none)) 0 0 (f_X5_fillRow N row ni x1 x2) 0 [(0, .ref bb), (1, vI x1), (2, vI x2)] [] (Wf row) := by
  unfold f_X5_fillRow
  refine r_ck1 (fun h1 => ?_)
  refine r_ck1 (fun h2 => ?_)
  refine r_iload_n (pc := 0) X 1 dX5_fillRow_0 rfl rfl ?_
  refine r_aload_n (pc := 1) X 0 dX5_fillRow_1 rfl rfl ?_
  refine r_alen (pc := 2) X q0 0 ni (hg row) rfl (by rw [← hn.2]; exact (Int32.ofInt_eq_ofNat).symm) dX5_fillRow_2 ?_
  refine r_min (pc := 3) X h1 h2 tl_X5_223 tt_min tn_math tc_min (by decide) dX5_fillRow_3 ?_
  refine r_istore_n (pc := 6) (lv' := [(0, .ref bb), (1, vI x1), (2, vI x2), (3, vI (min x1 ni))]) X [1, 2, 3, 0] dX5_fillRow_6 rfl (by decide) rfl ?_
  refine r_iconst (pc := 7) X 0 dX5_fillRow_7 (by decide) ?_
  refine r_istore (pc := 8) (lv' := [(0, .ref bb), (1, vI x1), (2, vI x2), (3, vI (min x1 ni)), (4, vI 0)]) X [1, 2, 3, 4, 0] dX5_fillRow_8 (by decide) rfl ?_
  exact t_X5_fillRow_L10 Wf q0 bb n ni x1 x2 X hn hg hs (min x1 ni) N 0 row
end FillRow
theorem c_X5_fillRow (N : Nat) (Wf : (Int → Int) → va_W) (q0 bb n : Nat) (ni : Int) (row : Int → Int) (x1 x2 : Int) (l : Launch) (D : va_G) (E : ET) (hn : n ≤ 2147483647 ∧ (n : Int) = ni) (hZ : ∀ F, Zd E.2.2.2 (Wf F)) (hg : ∀ F, (Wf F)[q0]? = some (bb, .inl (E.1, n, .inl (f32 F)))) (hs : ∀ F G, (Wf F).set q0 (bb, .inl (E.1, n, .inl (f32 G))) = Wf G) (a : Int → Int) (ha : f_X5_fillRow N row ni x1 x2 = some a) : Ct l yX5_fillRow (Cond.code yX5_fillRow cX5_fillRow 5 none :: lw_g) Rm_fillRow D E [.ref bb, vI x1, vI x2] (Wf row) (Wf a) none :=
  ct_at (av := [.ref bb, vI x1, vI x2]) (W0 := Wf row) (W1 := fun a => Wf a) (rw := fun _ => none) (by decide) rfl (hZ row) (by simp [lg_sl, Value.category]) (fun K X e _ => r_lv (by simp [lv_args, Value.category]) (t_X5_fillRow Wf q0 bb n ni x1 x2 N row X hn (by rw [e]; exact hg) (by rw [e]; exact hs))) l D a ha
