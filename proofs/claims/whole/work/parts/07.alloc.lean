/-! ROWS OF MAKING: arrays, objects, final fields, Object's own constructor, constructors' calls -/
section Alloc
variable {K : KT} {α β : Type} {Qf : α → State → Prop} {cl sl : Nat} {o : Option α} {pc : Nat} {lv lv' : List (Nat × Value)} {st rest : List Value} {ws ws' : va_W}
variable {cc : ByteArray} {own : String} {Ts : List Cond} {R0 : Room} {rt : Option FieldType} {nL : Nat}
theorem Zd.push {B n : Nat} {ws : va_W} (h : Zd B ws) (hn : ws.length = n) (e : va_E) : Zd B (ws ++ [(B + n, e)]) := by
  refine Zd_app h (fun k q hk => ?_)
  have hz : k < 1 := (List.getElem?_eq_some_iff.mp hk).1
  rw [show k = 0 by omega] at hk
  cases hk
  rw [hn]
  show B + n = B + (n + k)
  omega
theorem vaP_push {D : va_G} {ws : va_W} {q : Nat × va_E} {H H1 : Heap} (hP : va_P D vwCl ws H) (o1 : ∀ x : Nat, x < H.size → H1[x]? = H[x]?) (h : va_at D vwCl q H1) : va_P D vwCl (ws ++ [q]) H1 := by
  have hk : ∀ (k : Nat) (x : Nat × va_E), ws[k]? = some x → H1[x.1]? = H[x.1]? := fun k x hx => o1 x.1 ((hP k x hx).lt)
  refine (hP.kept hk).app (fun k x hx => ?_)
  have hz : k < 1 := (List.getElem?_eq_some_iff.mp hx).1
  rw [show k = 0 by omega] at hx
  cases hx
  exact h
theorem vaS_push {A : Nat → Prop} {H0 H H1 : Heap} {locs : List Loc} (hS : va_S A H0 H locs) (z1 : H1.size = H.size + 1) (o1 : ∀ x : Nat, x < H.size → H1[x]? = H[x]?) : va_S A H0 H1 locs :=
  ⟨Nat.le_trans hS.1 (by omega), fun x h1 h2 => (o1 x (Nat.lt_of_lt_of_le h1 hS.1)).trans (hS.2.1 x h1 h2), hS.2.2⟩
theorem r_newI {z : Int} (X : Kok K cc own Ts R0 rt nL) (n N' : Nat) (hz : 0 ≤ z ∧ z ≤ 100000) (hN : z.toNat = N') (hlen : ws.length = n) (hw : ws ++ [(kB K + n, .inl ((kE K).1, N', .inl (f32 (fun _ => 0))))] = ws') (harr : Cond.arrayClass .int ∈ Ts) (hcell : cl + 1 ≤ R0.cells ∧ sl + N' ≤ R0.slots) (hd : decode cc pc = .ok (.newarray .int, 2)) (kk : Rn K Qf (cl + 1) (sl + N') o (pc + 2) lv (.ref (kB K + n) :: st) ws') : Rn K Qf cl sl o pc lv (vI z :: st) ws := by
  subst hw
  intro a ha hZ H locs ls h1 hP hS hl
  have hR := X.2.2.2.2.2.2.2.2.1
  have ez : (Int32.ofInt z).toNatClampNeg = N' := (z_clamp hz.1 (by omega)).trans hN
  refine va_newaK (atype := .int) X.1 X.2.1 (X.2.2.2.2.1 _ harr) rfl hd rfl (fun q => by have := (z_ilt (x := z) (y := 0) ⟨by omega, by omega⟩ (by decide)).mp q; omega) ez (by show N' * 4 ≤ _; omega) (by rw [hR]; exact hcell.1) (by rw [hR]; exact hcell.2) (h := kB K + n) (by rw [h1, hlen]) fun H1 cA e1 z1 o1 hAr hNm => ?_
  have hcA : cA = (kE K).1 := Option.some.inj (hNm.symm.trans (X.2.2.2.2.2.1.2 0 _ rfl).2)
  subst hcA
  have hsz : H.size = kB K + n := by rw [h1, hlen]
  refine kk a ha (hZ.push hlen _) H1 locs ls (by rw [z1, List.length_append, hlen]; rfl) (vaP_push hP (fun x hx => o1 x (by omega)) ?_) (vaS_push hS (by omega) (fun x hx => o1 x (by omega))) hl
  exact e1
theorem r_newJ {z : Int} (X : Kok K cc own Ts R0 rt nL) (n N' : Nat) (hz : 0 ≤ z ∧ z ≤ 100000) (hN : z.toNat = N') (hlen : ws.length = n) (hw : ws ++ [(kB K + n, .inl ((kE K).2.1, N', .inr (.inl (f64 (fun _ => 0)))))] = ws') (harr : Cond.arrayClass .long ∈ Ts) (hcell : cl + 1 ≤ R0.cells ∧ sl + N' ≤ R0.slots) (hd : decode cc pc = .ok (.newarray .long, 2)) (kk : Rn K Qf (cl + 1) (sl + N') o (pc + 2) lv (.ref (kB K + n) :: st) ws') : Rn K Qf cl sl o pc lv (vI z :: st) ws := by
  subst hw
  intro a ha hZ H locs ls h1 hP hS hl
  have hR := X.2.2.2.2.2.2.2.2.1
  have ez : (Int32.ofInt z).toNatClampNeg = N' := (z_clamp hz.1 (by omega)).trans hN
  refine va_newaK (atype := .long) X.1 X.2.1 (X.2.2.2.2.1 _ harr) rfl hd rfl (fun q => by have := (z_ilt (x := z) (y := 0) ⟨by omega, by omega⟩ (by decide)).mp q; omega) ez (by show N' * 8 ≤ _; omega) (by rw [hR]; exact hcell.1) (by rw [hR]; exact hcell.2) (h := kB K + n) (by rw [h1, hlen]) fun H1 cA e1 z1 o1 hAr hNm => ?_
  have hcA : cA = (kE K).2.1 := Option.some.inj (hNm.symm.trans (X.2.2.2.2.2.1.2 1 _ rfl).2)
  subst hcA
  have hsz : H.size = kB K + n := by rw [h1, hlen]
  refine kk a ha (hZ.push hlen _) H1 locs ls (by rw [z1, List.length_append, hlen]; rfl) (vaP_push hP (fun x hx => o1 x (by omega)) ?_) (vaS_push hS (by omega) (fun x hx => o1 x (by omega))) hl
  exact e1
theorem r_newG {z : Int} {idx : Nat} (X : Kok K cc own Ts R0 rt nL) (n N' : Nat) (hz : 0 ≤ z ∧ z ≤ 100000) (hN : z.toNat = N') (hlen : ws.length = n) (hw : ws ++ [(kB K + n, .inl ((kE K).2.2.1, N', .inr (.inr (.inr (.inr (fGr (kB K) (fun _ => -1)))))))] = ws') (hlink : Cond.classLink own idx "LoopTypes$Graph" ∈ Ts) (hcell : cl + 1 ≤ R0.cells ∧ sl + N' ≤ R0.slots) (hd : decode cc pc = .ok (.anewarray idx, 3)) (kk : Rn K Qf (cl + 1) (sl + N') o (pc + 3) lv (.ref (kB K + n) :: st) ws') : Rn K Qf cl sl o pc lv (vI z :: st) ws := by
  subst hw
  intro a ha hZ H locs ls h1 hP hS hl
  have hR := X.2.2.2.2.2.2.2.2.1
  have ez : (Int32.ofInt z).toNatClampNeg = N' := (z_clamp hz.1 (by omega)).trans hN
  refine W.anew X.1 X.2.1 X.2.2.2.1 (X.2.2.2.2.1 _ hlink) (va_AO.use X.2.2.2.2.2.2.1.2) rfl hd rfl (fun q => by have := (z_ilt (x := z) (y := 0) ⟨by omega, by omega⟩ (by decide)).mp q; omega) (by rw [ez]; omega) (by rw [hR]; exact hcell.1) (by rw [hR, ez]; exact hcell.2) fun cA kA comp f1 f2 f3 f4 => ?_
  have hcA : cA = (kE K).2.2.1 := by
    obtain ⟨_, _, _, _, _, h4⟩ := (X.2.2.2.2.2.1.2 2 _ rfl).2
    exact Option.some.inj (f1.symm.trans h4)
  subst hcA
  generalize hH1 : H.push ({ cls := (kE K).2.2.1, slots := Array.replicate (Int32.ofInt z).toNatClampNeg .null, vm := .none } : Cell) = H1
  have z1 : H1.size = H.size + 1 := by rw [← hH1, Array.size_push]
  have e1 : H1[H.size]? = some (arrV (kE K).2.2.1 (Int32.ofInt z).toNatClampNeg (fun _ => .null)) := by rw [← hH1, Array.getElem?_push_size, ← arrV_new]
  have o1 : ∀ q : Nat, q < H.size → H1[q]? = H[q]? := fun q hq => by rw [← hH1, Array.getElem?_push, if_neg (Nat.ne_of_lt hq)]
  have hsz : H.size = kB K + n := by rw [h1, hlen]
  rw [hsz] at e1 ⊢
  rw [ez] at e1 ⊢
  refine kk a ha (hZ.push hlen _) H1 locs ls (by rw [z1, List.length_append, hlen, hsz]; rfl) (vaP_push hP o1 ?_) (vaS_push hS z1 o1) hl
  exact e1
theorem r_newO {idx N ci n : Nat} {C : String} {T : u_T} {fs : List Value} (X : Kok K cc own Ts R0 rt nL) (hlen : ws.length = n) (hin : ∀ w ∈ u_ws C T N, w ∈ Ts) (ty : Nat → FieldType) (hty : ∀ k, k < N → parseFieldDescriptor (T k).2.2.1 = some (ty k)) (hcl : Cond.classLink own idx C ∈ Ts) (hinst : Cond.instantiable C N ∈ Ts) (hini : Cond.initialized C ∈ Ts) (hc : vwCl[ci]? = some (C, T, N)) (hfs : ∀ j, j < N → defaultValue (ty j) = vp_V fs j) (hw : ws ++ [(kB K + n, .inr (ci, fs))] = ws') (hcell : cl + 1 ≤ R0.cells ∧ sl + N ≤ R0.slots) (hd : decode cc pc = .ok (.new idx, 3)) (kk : Rn K Qf (cl + 1) (sl + N) o (pc + 3) lv (.ref (kB K + n) :: st) ws') : Rn K Qf cl sl o pc lv st ws := by
  subst hw
  intro a ha hZ H locs ls h1 hP hS hl
  have hR := X.2.2.2.2.2.2.2.2.1
  have hts := X.2.2.2.2.1
  have hKn := X.2.2.2.2.2.1.1 ci _ hc
  have hsz : H.size = kB K + n := by rw [h1, hlen]
  refine W.newcK X.1 X.2.1 X.2.2.2.1 (hts _ hcl) (hts _ hinst) (hts _ hini) rfl hd (by rw [hR]; exact hcell.1) (by rw [hR]; exact hcell.2) hKn.2.1 (h := kB K + n) hsz fun H1 kC hkC e1 z1 o1 => ?_
  refine kk a ha (hZ.push hlen _) H1 locs ls (by rw [z1, List.length_append, hlen]; rfl) (vaP_push hP (fun x hx => o1 x (by omega)) ?_) (vaS_push hS (by omega) (fun x hx => o1 x (by omega))) hl
  exact ⟨_, hc, (u_born ty hts hin hKn hkC e1 hty).to hfs⟩
theorem r_putF {idx b ci : Nat} {C : String} {T : u_T} {N : Nat} {fs : List Value} {v : Value} {ty : FieldType} (X : Kok K cc own Ts R0 rt nL) (hnm0 : K.2.1.2.2.2.1.name = "<init>") (q0 k : Nat) (hin : ∀ w ∈ u_ws C T N, w ∈ Ts) (ty0 : Nat → FieldType) (hty : ∀ k, k < N → parseFieldDescriptor (T k).2.2.1 = some (ty0 k)) (hnm : ∀ a, a < N → ∀ b, b < N → a ≠ b → (T a).2.1 ≠ (T b).2.1) (he : ws[q0]? = some (b, .inr (ci, fs))) (hc : vwCl[ci]? = some (C, T, N)) (hk : k < N) (hlink : Cond.fieldLink own idx (T k).1 (T k).2.1 (T k).2.2.1 ∈ Ts) (hfin : (T k).2.2.2 = true) (hdecl : (T k).1 = own) (hd2 : parseFieldDescriptor (T k).2.2.1 = some ty) (hn : narrow ty v = v) (hfit : fits ty v = true) (hl0 : k < fs.length) (hw : ws.set q0 (b, .inr (ci, fs.set k v)) = ws') (hd : decode cc pc = .ok (.putfield idx, 3)) (kk : Rn K Qf cl sl o (pc + 3) lv st ws') : Rn K Qf cl sl o pc lv (v :: .ref b :: st) ws := by
  subst hw
  intro a ha hz H locs ls h1 hP hS0 hl
  have hK := X.2.2.2.2.2.1
  have hts := X.2.2.2.2.1
  have hown := X.2.2.2.1
  have hD := hz.D
  have hap := va_apart (own := own) hts hin ty0 hty hnm hK hc
  obtain ⟨r, g1, cell, q1, q2, q3, q4⟩ := hP q0 _ he
  have hr : r = (C, T, N) := Option.some.inj (g1.symm.trans hc)
  subst hr
  obtain ⟨hS, hfc, kC, hkC, hkind⟩ := hK.1 ci _ hc
  obtain ⟨cf, kf, fi, f, hi, hsl⟩ := hS k hk
  have hlay := hts _ (hin _ (u_in_lay hk))
  unfold u_lay at hlay
  rw [if_pos hfin] at hlay
  have hst := (u_facts hfc hkC (u_lays hts hin hk) hi).1
  have hcf : K.2.1.1.cls = cf := by
    obtain ⟨_, _, c', _, _, _, -, -, hf', -, -, -, hown2, -⟩ := Cond.laysFinal_spec hlay
    have e1 : c' = cf := by have := hi.symm.trans hf'; simp at this; exact this.1.symm
    rw [hdecl] at hown2
    rw [← e1]; exact Option.some.inj (hown.symm.trans hown2)
  have h6 := u_fits hfc hkC hkind (Or.inr hlay) hi hd2 hn hfit
  refine W.putFinK X.1 X.2.1 hown (hts _ hlink) hi hst hcf hnm0 (by rw [q2]; exact h6) q1 q3 (by rw [hsl]; exact k2_hasslot (q4 k hk)) rfl rfl hd fun H' e1 e2 e3 => ?_
  rw [hsl] at e1 ⊢
  exact kk a ha (hz.set he) H' _ ls (by rw [List.length_set, ← h1]; exact e2) (hP.set hD he ⟨_, hc, t_OB.to (V := updV (vp_V fs) k v) ⟨_, e1, q2, q3, t_set q4 hap hk v⟩ (fun j _ => vp_updV_set hl0 v j)⟩ e3) (hS0.put e2 e3 (hD.2 q0 _ he)) hl
theorem r_objInit {idx b : Nat} (X : Kok K cc own Ts R0 rt nL) (h1' : Cond.methodLink own idx Lib.objectInit ∈ Ts) (h2' : Cond.instanceMethod Lib.objectInit ∈ Ts) (h3' : Cond.code Lib.objectInit ⟨#[0xb1]⟩ 1 none ∈ Ts) (hd : decode cc pc = .ok (.invokespecial idx, 3)) (hR : 1 ≤ R0.frames ∧ (st.map fun v => v.category).sum + 12 ≤ R0.locals) (kk : Rn K Qf cl sl o (pc + 3) lv st ws) : Rn K Qf cl sl o pc lv (.ref b :: st) ws := by
  intro a ha hz H locs ls h1 h2 h3 hl
  have hts := X.2.2.2.2.1
  have hr := X.2.2.2.2.2.2.2.2.1
  exact W.objInit X.1 X.2.1 X.2.2.2.1 (hts _ h1') (hts _ h2') (hts _ h3') rfl (by rw [X.2.2.1]; exact hl.1) rfl hd (by rw [hr]; exact hR.1) (by rw [hr]; have := hR.2; show 2 * 0 + _ + 12 ≤ _; omega) (kk a ha hz H locs ls h1 h2 h3 hl)
variable {idx maxL n b : Nat} {y : MethodName} {bytes : ByteArray} {wsy wsr : List Cond} {rm : Room} {As : List Value} {g : Option β} {k : β → Option α} {W' : β → va_W}
theorem r_callI (X : Kok K cc own Ts R0 rt nL) (hd : decode cc pc = .ok (.invokespecial idx, 3)) (hst : st = As.reverse ++ .ref b :: rest)
    (hc : ∀ a, g = some a → Ct K.1.2.1 y wsy rm K.2.2.1.1 (kE K) (.ref b :: As) ws (W' a) none) (hZ : ∀ a, Zd (kB K) (W' a))
    (hg : GoodIn Ts wsy) (hw : wsy = Cond.code y bytes maxL none :: wsr) (hini : Cond.initialized y.cls ∈ Ts) (hlk : Cond.methodLink own idx y ∈ Ts) (hin : Cond.instanceMethod y ∈ Ts) (hy1 : y.name = "<init>") (hdd : y.cls ≠ "java/lang/invoke/MethodHandle" ∧ y.cls ≠ "java/lang/invoke/VarHandle" ∧ (parseMethodDescriptor y.desc).map (fun d => d.parameters.length) = some n) (hn : As.length = n)
    (hR : rm.frames + 1 ≤ R0.frames ∧ 8 + (maxL + 11) + rm.locals ≤ R0.locals ∧ cl + rm.cells ≤ R0.cells ∧ sl + rm.slots ≤ R0.slots) (hroom : (rest.map fun v => v.category).sum ≤ 8)
    (kk : ∀ a, g = some a → Rn K Qf (cl + rm.cells) (sl + rm.slots) (k a) (pc + 3) lv rest (W' a)) : Rn K Qf cl sl (bn g k) pc lv st ws := by
  refine r_call (av := (Value.ref b :: As).toArray) (rv := fun _ => none) (fun a _ => hZ a) (fun a ha H locs ls h1 h2 hl => ?_) kk
  have hts := X.2.2.2.2.1
  exact va_runI (As := As) (rest := rest) ⟨X.1, X.2.1, X.2.2.1, X.2.2.2.1, hts⟩ (hc a ha) (cwI n hts hg hw rfl rfl (hts _ hini) (hts _ hlk) (hts _ hin) hy1 hdd (by rw [X.2.2.2.2.2.2.2.2.1]; exact ⟨hR.1, hR.2.1⟩)) ⟨Po.blind, fun U hU hW => ⟨rfl, by rw [hU]; exact h1, by rw [hU]; exact h2, va_K.moved hW.alike X.2.2.2.2.2.1, X.2.2.2.2.2.2.1.moved hW⟩⟩ rfl hn hl.1 hst (lv_room (m := K.2.1.1) (pc := pc) (ls := ls) (rest := st) hroom) hd (by rw [X.2.2.2.2.2.2.2.2.1]; exact hR.2.2)
end Alloc
