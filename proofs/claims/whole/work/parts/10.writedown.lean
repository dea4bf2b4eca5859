/-! three methods over the world with a new row behind it; writeDown -/
abbrev Qx_X5_partsOf (K : KT) (lt b c ms rd m : Bd) (P : PL) (XT : ET → va_W) : (Int) → State → Prop := Qm K ({ frames := 0, cells := 0, slots := 0, locals := 0 } : Room) (fun a : Int => Zx (kE K) XT lt b c ms rd m P) (fun a => some (vI a))
set_option maxRecDepth 100000 in
set_option maxHeartbeats 4000000 in
theorem tx_X5_partsOf (N : Nat) (lt b c ms rd m : Bd) (P : PL) (XT : ET → va_W) (hXT : Zxd XT P) (x0 : Int) (K : KT) (X : Kok K cX5_partsOf yX5_partsOf.cls lw_g ({ frames := 0, cells := 0, slots := 0, locals := 0 } : Room) (some .int) 1) : Rn K (Qx_X5_partsOf K lt b c ms rd m P XT) 0 0 (f_X5_partsOf x0) 0 [(0, vI x0)] [] (Zx (kE K) XT lt b c ms rd m P) := by
  unfold f_X5_partsOf
  refine r_iload_n (pc := 0) X 0 dX5_partsOf_0 rfl rfl ?_
  refine r_iconst (pc := 1) X 4 dX5_partsOf_1 (by decide) ?_
  refine r_ck1 (fun h1 => ?_)
  refine r_icmp_ge (pc := 2) X h1 (by decide) dX5_partsOf_2 (tgt := 7) (by decide) (fun h2 => ?_) (fun h2 => ?_)
  · refine r_iload_n (pc := 7) X 0 dX5_partsOf_7 rfl rfl ?_
    refine r_iconst (pc := 8) X 4 dX5_partsOf_8 (by decide) ?_
    refine r_jn (J := fun j17 => ∀ (s_17 : Int), Rn K (Qx_X5_partsOf K lt b c ms rd m P XT) 0 0 (j17 s_17) 17 [(0, vI x0)] [vI s_17] (Zx (kE K) XT lt b c ms rd m P)) ?_ (fun j17 hj17 => ?_)
    · intro s_17
      exact r_iret (pc := 17) X rfl rfl (by decide) dX5_partsOf_17
    refine r_eq (z_ite j17) ?_
    refine r_icmp_ne (pc := 9) X h1 (by decide) dX5_partsOf_9 (tgt := 16) (by decide) (fun h3 => ?_) (fun h3 => ?_)
    · refine r_iconst (pc := 16) X 2 dX5_partsOf_16 (by decide) ?_
      exact hj17 2
    · refine r_iconst (pc := 12) X 1 dX5_partsOf_12 (by decide) ?_
      refine r_goto (pc := 13) X dX5_partsOf_13 (tgt := 17) (by decide) ?_
      exact hj17 1
  · refine r_iconst (pc := 5) X 0 dX5_partsOf_5 (by decide) ?_
    exact r_iret (pc := 6) X rfl rfl (by decide) dX5_partsOf_6
theorem cx_X5_partsOf (N : Nat) (lt b c ms rd m : Bd) (P : PL) (XT : ET → va_W) (hXT : Zxd XT P) (x0 : Int) (l : Launch) (D : va_G) (E : ET) (a : Int) (ha : f_X5_partsOf x0 = some a) : Ct l yX5_partsOf (Cond.code yX5_partsOf cX5_partsOf 1 (some .int) :: lw_g) ({ frames := 0, cells := 0, slots := 0, locals := 0 } : Room) D E [vI x0] (Zx E XT lt b c ms rd m P) (Zx E XT lt b c ms rd m P) (some (vI a)) :=
  ct_of (av := fun E => [vI x0]) (W0 := fun E => Zx E XT lt b c ms rd m P) (W1 := fun E (a : Int) => Zx E XT lt b c ms rd m P) (rw := fun E a => some (vI a)) (by decide) rfl (fun E => hXT E lt b c ms rd m) (fun E => by simp [lg_sl, z_cat, z_catR, z_catI, z_catL]) (fun K X => r_lv (by simp [lv_args, z_cat, z_catR, z_catI, z_catL]) (tx_X5_partsOf N lt b c ms rd m P XT hXT x0 K X)) l D E a ha
abbrev Qx_X0_linked (K : KT) (lt b c ms rd m : Bd) (P : PL) (XT : ET → va_W) : (Int) → State → Prop := Qm K ({ frames := 0, cells := 0, slots := 0, locals := 0 } : Room) (fun a : Int => Zx (kE K) XT lt b c ms rd m P) (fun a => some (vI a))
set_option maxRecDepth 100000 in
set_option maxHeartbeats 4000000 in
theorem tx_X0_linked (N : Nat) (lt b c ms rd m : Bd) (P : PL) (XT : ET → va_W) (hXT : Zxd XT P) (x1 x2 : Int) (K : KT) (X : Kok K cX0_linked yX0_linked.cls lw_g ({ frames := 0, cells := 0, slots := 0, locals := 0 } : Room) (some .int) 3) : Rn K (Qx_X0_linked K lt b c ms rd m P XT) 0 0 (f_X0_linked b x1 x2) 0 [(0, .ref (kB K + 5)), (1, vI x1), (2, vI x2)] [] (Zx (kE K) XT lt b c ms rd m P) := by
  unfold f_X0_linked
  refine r_iload_n (pc := 0) X 2 dX0_linked_0 rfl rfl ?_
  refine r_ck1 (fun h1 => ?_)
  refine r_ifne (pc := 1) X h1 dX0_linked_1 (tgt := 13) (by decide) (fun h2 => ?_) (fun h2 => ?_)
  · refine r_aload_n (pc := 13) X 0 dX0_linked_13 rfl rfl ?_
    refine r_get (pc := 14) (v := .ref (kB K + 8)) X 5 2 inX0 rfl rfl (by decide) tf_X0_18 rfl dX0_linked_14 ?_
    refine r_iload_n (pc := 17) X 1 dX0_linked_17 rfl rfl ?_
    refine r_ckA (fun h3 => ?_)
    refine r_iald (pc := 18) (f := b 2) X 8 h3 zl_3280 rfl dX0_linked_18 ?_
    exact r_iret (pc := 19) X rfl rfl (by decide) dX0_linked_19
  · refine r_aload_n (pc := 4) X 0 dX0_linked_4 rfl rfl ?_
    refine r_get (pc := 5) (v := .ref (kB K + 7)) X 5 1 inX0 rfl rfl (by decide) tf_X0_15 rfl dX0_linked_5 ?_
    refine r_iload_n (pc := 8) X 1 dX0_linked_8 rfl rfl ?_
    refine r_ckA (fun h4 => ?_)
    refine r_iald (pc := 9) (f := b 1) X 7 h4 zl_3280 rfl dX0_linked_9 ?_
    refine r_goto (pc := 10) X dX0_linked_10 (tgt := 19) (by decide) ?_
    exact r_iret (pc := 19) X rfl rfl (by decide) dX0_linked_19
theorem cx_X0_linked (N : Nat) (lt b c ms rd m : Bd) (P : PL) (XT : ET → va_W) (hXT : Zxd XT P) (x1 x2 : Int) (l : Launch) (D : va_G) (E : ET) (a : Int) (ha : f_X0_linked b x1 x2 = some a) : Ct l yX0_linked (Cond.code yX0_linked cX0_linked 3 (some .int) :: lw_g) ({ frames := 0, cells := 0, slots := 0, locals := 0 } : Room) D E [.ref (E.2.2.2 + 5), vI x1, vI x2] (Zx E XT lt b c ms rd m P) (Zx E XT lt b c ms rd m P) (some (vI a)) :=
  ct_of (av := fun E => [.ref (E.2.2.2 + 5), vI x1, vI x2]) (W0 := fun E => Zx E XT lt b c ms rd m P) (W1 := fun E (a : Int) => Zx E XT lt b c ms rd m P) (rw := fun E a => some (vI a)) (by decide) rfl (fun E => hXT E lt b c ms rd m) (fun E => by simp [lg_sl, z_cat, z_catR, z_catI, z_catL]) (fun K X => r_lv (by simp [lv_args, z_cat, z_catR, z_catI, z_catL]) (tx_X0_linked N lt b c ms rd m P XT hXT x1 x2 K X)) l D E a ha
abbrev Qx_X0_groupOfPart (K : KT) (lt b c ms rd m : Bd) (P : PL) (XT : ET → va_W) : (Int) → State → Prop := Qm K ({ frames := 1, cells := 0, slots := 0, locals := 22 } : Room) (fun a : Int => Zx (kE K) XT lt b c ms rd m P) (fun a => some (vI a))
set_option maxRecDepth 100000 in
set_option maxHeartbeats 4000000 in
theorem tx_X0_groupOfPart (N : Nat) (lt b c ms rd m : Bd) (P : PL) (XT : ET → va_W) (hXT : Zxd XT P) (x1 x2 : Int) (K : KT) (X : Kok K cX0_groupOfPart yX0_groupOfPart.cls lw_g ({ frames := 1, cells := 0, slots := 0, locals := 22 } : Room) (some .int) 3) : Rn K (Qx_X0_groupOfPart K lt b c ms rd m P XT) 0 0 (f_X0_groupOfPart b x1 x2) 0 [(0, .ref (kB K + 5)), (1, vI x1), (2, vI x2)] [] (Zx (kE K) XT lt b c ms rd m P) := by
  unfold f_X0_groupOfPart
  refine r_iload_n (pc := 0) X 2 dX0_groupOfPart_0 rfl rfl ?_
  refine r_aload_n (pc := 1) X 0 dX0_groupOfPart_1 rfl rfl ?_
  refine r_get (pc := 2) (v := .ref (kB K + 6)) X 5 0 inX0 rfl rfl (by decide) tf_X0_9 rfl dX0_groupOfPart_2 ?_
  refine r_iload_n (pc := 5) X 1 dX0_groupOfPart_5 rfl rfl ?_
  refine r_ckA (fun h1 => ?_)
  refine r_iald (pc := 6) (f := b 0) X 6 h1 zl_3280 rfl dX0_groupOfPart_6 ?_
  refine r_callN (pc := 7) (As := [vI (b 0 x1)]) (rest := [vI x2]) (W' := fun q7_2 => (Zx (kE K) XT lt b c ms rd m P)) (rv := fun q7_2 => some (vI q7_2)) X dX0_groupOfPart_7 rfl (fun a ha => cx_X5_partsOf N lt b c ms rd m P XT hXT (b 0 x1) K.1.2.1 K.2.2.1.1 (kE K) a ha) (fun a => hXT _ _ _ _ _ _ _) (gd_c tc_X5_partsOf) (by decide) tt_X5_partsOf tn_RX5 rfl (n := 1) (by decide) rfl (by decide) (by simp [z_cat, z_catR, z_catI, z_catL]) (fun q7_2 eq7_2 => ?_)
  show Rn K _ 0 0 _ 10 [(0, .ref (kB K + 5)), (1, vI x1), (2, vI x2)] [vI q7_2, vI x2] (Zx (kE K) XT lt b c ms rd m P)
  refine r_ck1 (fun h3 => ?_)
  refine r_ck1 (fun h4 => ?_)
  refine r_icmp_ge (pc := 10) X h3 h4 dX0_groupOfPart_10 (tgt := 27) (by decide) (fun h5 => ?_) (fun h5 => ?_)
  · refine r_iconst (pc := 27) X 0 dX0_groupOfPart_27 (by decide) ?_
    exact r_iret (pc := 28) X rfl rfl (by decide) dX0_groupOfPart_28
  · refine r_aload_n (pc := 13) X 0 dX0_groupOfPart_13 rfl rfl ?_
    refine r_get (pc := 14) (v := .ref (kB K + 11)) X 5 6 inX0 rfl rfl (by decide) tf_X0_27 rfl dX0_groupOfPart_14 ?_
    refine r_aload_n (pc := 17) X 0 dX0_groupOfPart_17 rfl rfl ?_
    refine r_iload_n (pc := 18) X 1 dX0_groupOfPart_18 rfl rfl ?_
    refine r_iload_n (pc := 19) X 2 dX0_groupOfPart_19 rfl rfl ?_
    refine r_callV (pc := 20) (q0 := 5) (ci := 0) (As := [vI x1, vI x2]) (rest := [.ref (kB K + 11)]) (W' := fun q20_6 => (Zx (kE K) XT lt b c ms rd m P)) (rv := fun q20_6 => some (vI q20_6)) X dX0_groupOfPart_20 rfl (fun a ha => cx_X0_linked N lt b c ms rd m P XT hXT x1 x2 K.1.2.1 K.2.2.1.1 (kE K) a ha) (fun a => hXT _ _ _ _ _ _ _) gd_X0_113 rfl (n := 2) (by decide) rfl (by decide) rfl rfl rfl (by simp [z_cat, z_catR, z_catI, z_catL]) (fun q20_6 eq20_6 => ?_)
    show Rn K _ 0 0 _ 23 [(0, .ref (kB K + 5)), (1, vI x1), (2, vI x2)] [vI q20_6, .ref (kB K + 11)] (Zx (kE K) XT lt b c ms rd m P)
    refine r_ckA (fun h7 => ?_)
    refine r_iald (pc := 23) (f := b 6) X 11 h7 zl_3280 rfl dX0_groupOfPart_23 ?_
    refine r_goto (pc := 24) X dX0_groupOfPart_24 (tgt := 28) (by decide) ?_
    exact r_iret (pc := 28) X rfl rfl (by decide) dX0_groupOfPart_28
theorem cx_X0_groupOfPart (N : Nat) (lt b c ms rd m : Bd) (P : PL) (XT : ET → va_W) (hXT : Zxd XT P) (x1 x2 : Int) (l : Launch) (D : va_G) (E : ET) (a : Int) (ha : f_X0_groupOfPart b x1 x2 = some a) : Ct l yX0_groupOfPart (Cond.code yX0_groupOfPart cX0_groupOfPart 3 (some .int) :: lw_g) ({ frames := 1, cells := 0, slots := 0, locals := 22 } : Room) D E [.ref (E.2.2.2 + 5), vI x1, vI x2] (Zx E XT lt b c ms rd m P) (Zx E XT lt b c ms rd m P) (some (vI a)) :=
  ct_of (av := fun E => [.ref (E.2.2.2 + 5), vI x1, vI x2]) (W0 := fun E => Zx E XT lt b c ms rd m P) (W1 := fun E (a : Int) => Zx E XT lt b c ms rd m P) (rw := fun E a => some (vI a)) (by decide) rfl (fun E => hXT E lt b c ms rd m) (fun E => by simp [lg_sl, z_cat, z_catR, z_catI, z_catL]) (fun K X => r_lv (by simp [lv_args, z_cat, z_catR, z_catI, z_catL]) (tx_X0_groupOfPart N lt b c ms rd m P XT hXT x1 x2 K X)) l D E a ha
theorem r_callI_one {K : KT} {α : Type} {Qf : α → State → Prop} {cl sl : Nat} {o : Option α} {pc : Nat} {lv : List (Nat × Value)} {st rest : List Value} {ws w1 : va_W} {cc : ByteArray} {own : String} {Ts : List Cond} {R0 : Room} {rt : Option FieldType} {nL : Nat} {idx maxL n b : Nat} {y : MethodName} {bytes : ByteArray} {wsy wsr : List Cond} {rm : Room} {As : List Value} (X : Kok K cc own Ts R0 rt nL) (hd : decode cc pc = .ok (.invokespecial idx, 3)) (hst : st = As.reverse ++ .ref b :: rest)
    (hc : ∀ a : Unit, some () = some a → Ct K.1.2.1 y wsy rm K.2.2.1.1 (kE K) (.ref b :: As) ws w1 none) (hZ : Zd (kB K) w1)
    (hg : GoodIn Ts wsy) (hw : wsy = Cond.code y bytes maxL none :: wsr) (hini : Cond.initialized y.cls ∈ Ts) (hlk : Cond.methodLink own idx y ∈ Ts) (hin : Cond.instanceMethod y ∈ Ts) (hy1 : y.name = "<init>") (hdd : y.cls ≠ "java/lang/invoke/MethodHandle" ∧ y.cls ≠ "java/lang/invoke/VarHandle" ∧ (parseMethodDescriptor y.desc).map (fun d => d.parameters.length) = some n) (hn : As.length = n)
    (hR : rm.frames + 1 ≤ R0.frames ∧ 8 + (maxL + 11) + rm.locals ≤ R0.locals ∧ cl + rm.cells ≤ R0.cells ∧ sl + rm.slots ≤ R0.slots) (hroom : (rest.map fun v => v.category).sum ≤ 8)
    (kk : Rn K Qf (cl + rm.cells) (sl + rm.slots) o (pc + 3) lv rest w1) : Rn K Qf cl sl o pc lv st ws :=
  r_callI (g := some ()) (k := fun _ => o) (W' := fun _ => w1) X hd hst (fun a h => hc a h) (fun _ => hZ) hg hw hini hlk hin hy1 hdd hn hR hroom (fun _ _ => kk)
abbrev Q_X0_writeDown (K : KT) (lt b c ms rd m : Bd) (P : PL) : (Int × PL) → State → Prop := Qm K ({ frames := 2, cells := 2, slots := 122, locals := 60 } : Room) (fun a : Int × PL => Zw (kE K) lt b c ms rd m a.2) (fun a => some (vG (kB K) a.1))
set_option maxRecDepth 100000 in
set_option maxHeartbeats 4000000 in
theorem t_wd_end (lt b c ms rd m : Bd) (P : PL) (x2 : Int) (K : KT) (X : Kok K cX0_writeDown yX0_writeDown.cls lw_g ({ frames := 2, cells := 2, slots := 122, locals := 60 } : Room) (some (.object "LoopTypes$Graph")) 7) (hNE : 0 ≤ 3 * x2 ∧ 3 * x2 < 121) {lv : List (Nat × Value)} (j : Nat) (hj : lv[j]? = some (3, .ref (kB K + (61 + 2 * P.length)))) (F : Int → Int) : Rn K (Q_X0_writeDown K lt b c ms rd m P) 1 120 (some ((P.length : Int), P ++ [(x2, F)])) 97 lv [] (Zx (kE K) (XA P (3 * x2) F) lt b c ms rd m P) := by
  have hlen : (Zx (kE K) (XA P (3 * x2) F) lt b c ms rd m P).length = 62 + 2 * P.length := by
    unfold Zx
    rw [List.length_append, Zw_len]
    show 61 + 2 * P.length + 1 = _
    omega
  have hZ1 : Zd (kB K) (Zx (kE K) (XA P (3 * x2) F) lt b c ms rd m P ++ [(kB K + (62 + 2 * P.length), .inr (2, [vI 0, .null]))]) := (Zx_d P (3 * x2) F (kE K) lt b c ms rd m).push hlen _
  have ho : (Zx (kE K) (XA P (3 * x2) F) lt b c ms rd m P ++ [(kB K + (62 + 2 * P.length), .inr (2, [vI 0, .null]))])[62 + 2 * P.length]? = some (kB K + (62 + 2 * P.length), .inr (2, [vI 0, .null])) := by
    rw [List.getElem?_append_right (by rw [hlen]; exact Nat.le_refl _), hlen, Nat.sub_self]
    rfl
  have ha : (Zx (kE K) (XA P (3 * x2) F) lt b c ms rd m P ++ [(kB K + (62 + 2 * P.length), .inr (2, [vI 0, .null]))])[61 + 2 * P.length]? = some (kB K + (61 + 2 * P.length), .inl ((kE K).1, (3 * x2).toNat, .inl (f32 F))) := by
    rw [List.getElem?_append_left (by rw [hlen]; omega)]
    exact Zx_at _ _ _ _ _ _ _ _ _ _
  have hw : (Zx (kE K) (XA P (3 * x2) F) lt b c ms rd m P ++ ([(kB K + (62 + 2 * P.length), Sum.inr (2, [vI 0, Value.null]))] : va_W)).set (62 + 2 * P.length) ((kB K + (62 + 2 * P.length), Sum.inr (2, [vI ((3 * x2).tdiv 3), .ref (kB K + (61 + 2 * P.length))])) : Nat × va_E) = Zw (kE K) lt b c ms rd m (P ++ [(x2, F)]) := by
    rw [List.set_append_right _ _ (by rw [hlen]; exact Nat.le_refl _), hlen, Nat.sub_self, ← Zw_push]
    rw [show (3 * x2).tdiv 3 = x2 by rw [Int.mul_comm]; exact Int.mul_tdiv_cancel x2 (by decide)]
    rfl
  refine r_newO (pc := 97) (fs := [vI 0, .null]) X (ci := 2) (C := RX2) (T := TX2) (n := 62 + 2 * P.length) hlen inX2 tyX2 tyX2_ok tcl_X0_48 tins_RX2 tn_RX2 rfl (fun j hj => by rcases (show j = 0 ∨ j = 1 by omega) with rfl | rfl <;> rfl) rfl (by decide) dX0_writeDown_97 ?_
  refine r_dup (pc := 100) X dX0_writeDown_100 rfl ?_
  refine r_aload_n (pc := 101) X j dX0_writeDown_101 rfl hj ?_
  refine r_callI_one (pc := 102) (As := [.ref (kB K + (61 + 2 * P.length))]) (rest := [.ref (kB K + (62 + 2 * P.length))]) (n := 1) X dX0_writeDown_102 rfl (fun a h => c_X2_init _ (62 + 2 * P.length) (61 + 2 * P.length) (kB K + (62 + 2 * P.length)) (kB K + (61 + 2 * P.length)) (3 * x2) F ⟨hNE.1, by omega⟩ (by omega) K.1.2.1 K.2.2.1.1 (kE K) hZ1 ho ha a h) (hZ1.set ho) (gd_c tc_X2_init) rfl tn_RX2 tl_X0_122 ti_X2_init rfl (by decide) rfl (by decide) (by simp [z_catR]) ?_
  refine r_ws hw ?_
  refine r_st (st' := [vG (kB K) (P.length : Int)]) (by rw [z_rf (B := kB K) (h := (P.length : Int)) (by omega), show kB K + 62 + 2 * (P.length : Int).toNat = kB K + (62 + 2 * P.length) by omega]) ?_
  exact r_gret (pc := 105) X rfl rfl (by decide) dX0_writeDown_105
set_option maxRecDepth 100000 in
set_option maxHeartbeats 4000000 in
theorem t_X0_writeDown_L12 (N : Nat) (lt b c ms rd m : Bd) (P : PL) (x1 x2 : Int) (hNE : 0 ≤ 3 * x2 ∧ 3 * x2 < 121) (K : KT) (X : Kok K cX0_writeDown yX0_writeDown.cls lw_g ({ frames := 2, cells := 2, slots := 122, locals := 60 } : Room) (some (.object "LoopTypes$Graph")) 7) (k : (Int → Int) → Option (Int × PL)) (hk : ∀ (F : (Int → Int)), Rn K (Q_X0_writeDown K lt b c ms rd m P) 1 120 (k F) 97 [(3, .ref (kB K + (61 + 2 * P.length)))] [] (Zx (kE K) (XA P (3 * x2) F) lt b c ms rd m P)) : ∀ (n : Nat) (x4 : Int) (x5 : Int) (F : (Int → Int)), Rn K (Q_X0_writeDown K lt b c ms rd m P) 1 120 (f_X0_writeDown_L12 b x1 x2 k n x4 x5 F) 12 [(0, .ref (kB K + 5)), (1, vI x1), (2, vI x2), (3, .ref (kB K + (61 + 2 * P.length))), (4, vI x4), (5, vI x5)] [] (Zx (kE K) (XA P (3 * x2) F) lt b c ms rd m P) := by
  intro n
  induction n with
  | zero =>
    intro x4 x5 F
    rw [f_X0_writeDown_L12]
    exact r_none
  | succ n ih =>
    intro x4 x5 F
    rw [f_X0_writeDown_L12]
    refine r_iload (pc := 12) X 5 dX0_writeDown_12 rfl ?_
    refine r_iload_n (pc := 14) X 1 dX0_writeDown_14 rfl rfl ?_
    refine r_ck1 (fun h1 => ?_)
    refine r_ck1 (fun h2 => ?_)
    refine r_icmp_ge (pc := 15) X h1 h2 dX0_writeDown_15 (tgt := 97) (by decide) (fun h3 => ?_) (fun h3 => ?_)
    · refine r_sub [3] rfl ?_
      exact hk F
    · refine r_iload (pc := 18) X 4 dX0_writeDown_18 rfl ?_
      refine r_iload_n (pc := 20) X 2 dX0_writeDown_20 rfl rfl ?_
      refine r_ck1 (fun h4 => ?_)
      refine r_ck1 (fun h5 => ?_)
      refine r_icmp_ge (pc := 21) X h4 h5 dX0_writeDown_21 (tgt := 97) (by decide) (fun h6 => ?_) (fun h6 => ?_)
      · refine r_sub [3] rfl ?_
        exact hk F
      · refine r_aload_n (pc := 24) X 0 dX0_writeDown_24 rfl rfl ?_
        refine r_get (pc := 25) (v := .ref (kB K + 9)) X 5 4 inX0 rfl rfl (by decide) tf_X0_21 rfl dX0_writeDown_25 ?_
        refine r_iload (pc := 28) X 5 dX0_writeDown_28 rfl ?_
        refine r_ckA (fun h7 => ?_)
        refine r_iald (pc := 30) (f := b 4) X 9 h7 zl_3280 rfl dX0_writeDown_30 ?_
        refine r_istore (pc := 31) (lv' := [(0, .ref (kB K + 5)), (1, vI x1), (2, vI x2), (3, .ref (kB K + (61 + 2 * P.length))), (4, vI x4), (5, vI x5), (6, vI (b 4 x5))]) X [1, 2, 3, 4, 5, 6, 0] dX0_writeDown_31 (by decide) rfl ?_
        refine r_aload_n (pc := 33) X 0 dX0_writeDown_33 rfl rfl ?_
        refine r_get (pc := 34) (v := .ref (kB K + 11)) X 5 6 inX0 rfl rfl (by decide) tf_X0_27 rfl dX0_writeDown_34 ?_
        refine r_iload (pc := 37) X 6 dX0_writeDown_37 rfl ?_
        refine r_ckA (fun h8 => ?_)
        refine r_iald (pc := 39) (f := b 6) X 11 h8 zl_3280 rfl dX0_writeDown_39 ?_
        refine r_iload (pc := 40) X 4 dX0_writeDown_40 rfl ?_
        refine r_ck1 (fun h9 => ?_)
        refine r_icmp_ne (pc := 42) X h9 h4 dX0_writeDown_42 (tgt := 91) (by decide) (fun h10 => ?_) (fun h10 => ?_)
        · refine r_iinc (pc := 91) (lv' := [(0, .ref (kB K + 5)), (1, vI x1), (2, vI x2), (3, .ref (kB K + (61 + 2 * P.length))), (4, vI x4), (5, vI (x5 + 1)), (6, vI (b 4 x5))]) X 5 [1, 2, 3, 4, 5, 0, 6] dX0_writeDown_91 rfl (by decide) rfl ?_
          refine r_goto (pc := 94) X dX0_writeDown_94 (tgt := 12) (by decide) ?_
          refine r_sub [0, 1, 2, 3, 4, 5] rfl ?_
          exact ih x4 (x5 + 1) F
        · refine r_aload_n (pc := 45) X 3 dX0_writeDown_45 rfl rfl ?_
          refine r_iconst (pc := 46) X 3 dX0_writeDown_46 (by decide) ?_
          refine r_iload (pc := 47) X 4 dX0_writeDown_47 rfl ?_
          refine r_imul (pc := 49) X dX0_writeDown_49 ?_
          refine r_aload_n (pc := 50) X 0 dX0_writeDown_50 rfl rfl ?_
          refine r_get (pc := 51) (v := .ref (kB K + 6)) X 5 0 inX0 rfl rfl (by decide) tf_X0_9 rfl dX0_writeDown_51 ?_
          refine r_iload (pc := 54) X 6 dX0_writeDown_54 rfl ?_
          refine r_iald (pc := 56) (f := b 0) X 6 h8 zl_3280 rfl dX0_writeDown_56 ?_
          refine r_ckA (fun h11 => ?_)
          refine r_iast (pc := 57) (f := F) (ws' := (Zx (kE K) (XA P (3 * x2) (aS F (3 * x4) (b 0 (b 4 x5)))) lt b c ms rd m P)) X (n := (3 * x2).toNat) (61 + 2 * P.length) h11 ⟨by omega, by omega⟩ (Zx_at _ _ _ _ _ _ _ _ _ _) (Zx_set _ _ _ _ _ _ _ _ _ _ _) dX0_writeDown_57 ?_
          refine r_aload_n (pc := 58) X 3 dX0_writeDown_58 rfl rfl ?_
          refine r_iconst (pc := 59) X 3 dX0_writeDown_59 (by decide) ?_
          refine r_iload (pc := 60) X 4 dX0_writeDown_60 rfl ?_
          refine r_imul (pc := 62) X dX0_writeDown_62 ?_
          refine r_iconst (pc := 63) X 1 dX0_writeDown_63 (by decide) ?_
          refine r_iadd (pc := 64) X dX0_writeDown_64 ?_
          refine r_aload_n (pc := 65) X 0 dX0_writeDown_65 rfl rfl ?_
          refine r_iload (pc := 66) X 6 dX0_writeDown_66 rfl ?_
          refine r_iconst (pc := 68) X 0 dX0_writeDown_68 (by decide) ?_
          refine r_callV (pc := 69) (q0 := 5) (ci := 0) (As := [vI (b 4 x5), vI 0]) (rest := [vI ((3 * x4) + 1), .ref (kB K + (61 + 2 * P.length))]) (W' := fun q69_12 => (Zx (kE K) (XA P (3 * x2) (aS F (3 * x4) (b 0 (b 4 x5)))) lt b c ms rd m P)) (rv := fun q69_12 => some (vI q69_12)) X dX0_writeDown_69 rfl (fun a ha => cx_X0_groupOfPart N lt b c ms rd m P (XA P (3 * x2) (aS F (3 * x4) (b 0 (b 4 x5)))) (Zx_d _ _ _) (b 4 x5) 0 K.1.2.1 K.2.2.1.1 (kE K) a ha) (fun a => Zx_d _ _ _ _ _ _ _ _ _ _) gd_X0_119 rfl (n := 2) (by decide) rfl (by decide) rfl rfl rfl (by simp [z_cat, z_catR, z_catI, z_catL]) (fun q69_12 eq69_12 => ?_)
          show Rn K _ 1 120 _ 72 [(0, .ref (kB K + 5)), (1, vI x1), (2, vI x2), (3, .ref (kB K + (61 + 2 * P.length))), (4, vI x4), (5, vI x5), (6, vI (b 4 x5))] [vI q69_12, vI ((3 * x4) + 1), .ref (kB K + (61 + 2 * P.length))] (Zx (kE K) (XA P (3 * x2) (aS F (3 * x4) (b 0 (b 4 x5)))) lt b c ms rd m P)
          refine r_ckA (fun h13 => ?_)
          refine r_iast (pc := 72) (f := (aS F (3 * x4) (b 0 (b 4 x5)))) (ws' := (Zx (kE K) (XA P (3 * x2) (aS (aS F (3 * x4) (b 0 (b 4 x5))) ((3 * x4) + 1) q69_12)) lt b c ms rd m P)) X (n := (3 * x2).toNat) (61 + 2 * P.length) h13 ⟨by omega, by omega⟩ (Zx_at _ _ _ _ _ _ _ _ _ _) (Zx_set _ _ _ _ _ _ _ _ _ _ _) dX0_writeDown_72 ?_
          refine r_aload_n (pc := 73) X 3 dX0_writeDown_73 rfl rfl ?_
          refine r_iconst (pc := 74) X 3 dX0_writeDown_74 (by decide) ?_
          refine r_iload (pc := 75) X 4 dX0_writeDown_75 rfl ?_
          refine r_imul (pc := 77) X dX0_writeDown_77 ?_
          refine r_iconst (pc := 78) X 2 dX0_writeDown_78 (by decide) ?_
          refine r_iadd (pc := 79) X dX0_writeDown_79 ?_
          refine r_aload_n (pc := 80) X 0 dX0_writeDown_80 rfl rfl ?_
          refine r_iload (pc := 81) X 6 dX0_writeDown_81 rfl ?_
          refine r_iconst (pc := 83) X 1 dX0_writeDown_83 (by decide) ?_
          refine r_callV (pc := 84) (q0 := 5) (ci := 0) (As := [vI (b 4 x5), vI 1]) (rest := [vI ((3 * x4) + 2), .ref (kB K + (61 + 2 * P.length))]) (W' := fun q84_14 => (Zx (kE K) (XA P (3 * x2) (aS (aS F (3 * x4) (b 0 (b 4 x5))) ((3 * x4) + 1) q69_12)) lt b c ms rd m P)) (rv := fun q84_14 => some (vI q84_14)) X dX0_writeDown_84 rfl (fun a ha => cx_X0_groupOfPart N lt b c ms rd m P (XA P (3 * x2) (aS (aS F (3 * x4) (b 0 (b 4 x5))) ((3 * x4) + 1) q69_12)) (Zx_d _ _ _) (b 4 x5) 1 K.1.2.1 K.2.2.1.1 (kE K) a ha) (fun a => Zx_d _ _ _ _ _ _ _ _ _ _) gd_X0_119 rfl (n := 2) (by decide) rfl (by decide) rfl rfl rfl (by simp [z_cat, z_catR, z_catI, z_catL]) (fun q84_14 eq84_14 => ?_)
          show Rn K _ 1 120 _ 87 [(0, .ref (kB K + 5)), (1, vI x1), (2, vI x2), (3, .ref (kB K + (61 + 2 * P.length))), (4, vI x4), (5, vI x5), (6, vI (b 4 x5))] [vI q84_14, vI ((3 * x4) + 2), .ref (kB K + (61 + 2 * P.length))] (Zx (kE K) (XA P (3 * x2) (aS (aS F (3 * x4) (b 0 (b 4 x5))) ((3 * x4) + 1) q69_12)) lt b c ms rd m P)
          refine r_ckA (fun h15 => ?_)
          refine r_iast (pc := 87) (f := (aS (aS F (3 * x4) (b 0 (b 4 x5))) ((3 * x4) + 1) q69_12)) (ws' := (Zx (kE K) (XA P (3 * x2) (aS (aS (aS F (3 * x4) (b 0 (b 4 x5))) ((3 * x4) + 1) q69_12) ((3 * x4) + 2) q84_14)) lt b c ms rd m P)) X (n := (3 * x2).toNat) (61 + 2 * P.length) h15 ⟨by omega, by omega⟩ (Zx_at _ _ _ _ _ _ _ _ _ _) (Zx_set _ _ _ _ _ _ _ _ _ _ _) dX0_writeDown_87 ?_
          refine r_iinc (pc := 88) (lv' := [(0, .ref (kB K + 5)), (1, vI x1), (2, vI x2), (3, .ref (kB K + (61 + 2 * P.length))), (4, vI (x4 + 1)), (5, vI x5), (6, vI (b 4 x5))]) X 4 [1, 2, 3, 4, 0, 5, 6] dX0_writeDown_88 rfl (by decide) rfl ?_
          refine r_iinc (pc := 91) (lv' := [(0, .ref (kB K + 5)), (1, vI x1), (2, vI x2), (3, .ref (kB K + (61 + 2 * P.length))), (4, vI (x4 + 1)), (5, vI (x5 + 1)), (6, vI (b 4 x5))]) X 5 [1, 2, 3, 4, 5, 0, 6] dX0_writeDown_91 rfl (by decide) rfl ?_
          refine r_goto (pc := 94) X dX0_writeDown_94 (tgt := 12) (by decide) ?_
          refine r_sub [0, 1, 2, 3, 4, 5] rfl ?_
          exact ih (x4 + 1) (x5 + 1) (aS (aS (aS F (3 * x4) (b 0 (b 4 x5))) ((3 * x4) + 1) q69_12) ((3 * x4) + 2) q84_14)
set_option maxRecDepth 100000 in
set_option maxHeartbeats 4000000 in
theorem t_X0_writeDown (N : Nat) (lt b c ms rd m : Bd) (P : PL) (x1 x2 : Int) (K : KT) (X : Kok K cX0_writeDown yX0_writeDown.cls lw_g ({ frames := 2, cells := 2, slots := 122, locals := 60 } : Room) (some (.object "LoopTypes$Graph")) 7) : Rn K (Q_X0_writeDown K lt b c ms rd m P) 0 0 (f_X0_writeDown N b P x1 x2) 0 [(0, .ref (kB K + 5)), (1, vI x1), (2, vI x2)] [] (Zw (kE K) lt b c ms rd m P) := by
  unfold f_X0_writeDown
  refine r_iconst (pc := 0) X 3 dX0_writeDown_0 (by decide) ?_
  refine r_iload_n (pc := 1) X 2 dX0_writeDown_1 rfl rfl ?_
  refine r_imul (pc := 2) X dX0_writeDown_2 ?_
  refine r_ckA (fun hNE => ?_)
  refine r_newR (pc := 3) X hNE (by decide) dX0_writeDown_3 ?_
  show Rn K _ 1 120 _ 5 [(0, .ref (kB K + 5)), (1, vI x1), (2, vI x2)] [.ref (kB K + (61 + 2 * P.length))] (Zx (kE K) (XA P (3 * x2) (fun _ => 0)) lt b c ms rd m P)
  refine r_astore_n (pc := 5) (lv' := [(0, .ref (kB K + 5)), (1, vI x1), (2, vI x2), (3, .ref (kB K + (61 + 2 * P.length)))]) X [1, 2, 3, 0] dX0_writeDown_5 rfl (by decide) rfl ?_
  refine r_iconst (pc := 6) X 0 dX0_writeDown_6 (by decide) ?_
  refine r_istore (pc := 7) (lv' := [(0, .ref (kB K + 5)), (1, vI x1), (2, vI x2), (3, .ref (kB K + (61 + 2 * P.length))), (4, vI 0)]) X [1, 2, 3, 4, 0] dX0_writeDown_7 (by decide) rfl ?_
  refine r_iconst (pc := 9) X 0 dX0_writeDown_9 (by decide) ?_
  refine r_istore (pc := 10) (lv' := [(0, .ref (kB K + 5)), (1, vI x1), (2, vI x2), (3, .ref (kB K + (61 + 2 * P.length))), (4, vI 0), (5, vI 0)]) X [1, 2, 3, 4, 5, 0] dX0_writeDown_10 (by decide) rfl ?_
  refine t_X0_writeDown_L12 N lt b c ms rd m P x1 x2 hNE K X _ ?_ N 0 0 (fun _ => 0)
  intro F_12
  exact t_wd_end lt b c ms rd m P x2 K X hNE 0 rfl F_12
theorem c_X0_writeDown (N : Nat) (lt b c ms rd m : Bd) (P : PL) (x1 x2 : Int) (l : Launch) (D : va_G) (E : ET) (a : Int × PL) (ha : f_X0_writeDown N b P x1 x2 = some a) : Ct l yX0_writeDown (Cond.code yX0_writeDown cX0_writeDown 7 (some (.object "LoopTypes$Graph")) :: lw_g) ({ frames := 2, cells := 2, slots := 122, locals := 60 } : Room) D E [.ref (E.2.2.2 + 5), vI x1, vI x2] (Zw E lt b c ms rd m P) (Zw E lt b c ms rd m a.2) (some (vG E.2.2.2 a.1)) :=
  ct_of (av := fun E => [.ref (E.2.2.2 + 5), vI x1, vI x2]) (W0 := fun E => Zw E lt b c ms rd m P) (W1 := fun E (a : Int × PL) => Zw E lt b c ms rd m a.2) (rw := fun E a => some (vG E.2.2.2 a.1)) (by decide) rfl (fun E => Zw_d E lt b c ms rd m P) (fun E => by simp [lg_sl, z_cat, z_catR, z_catI, z_catL]) (fun K X => r_lv (by simp [lv_args, z_cat, z_catR, z_catI, z_catL]) (t_X0_writeDown N lt b c ms rd m P x1 x2 K X)) l D E a ha
