abbrev Q_X4_isLetter (K : KT) (lt b c ms rd m : Bd) (P : PL) : (Int) → State → Prop := Qm K ({ frames := 0, cells := 0, slots := 0, locals := 0 } : Room) (fun a : Int => Zw (kE K) lt b c ms rd m P) (fun a => some (vI a))
set_option maxRecDepth 100000 in
set_option maxHeartbeats 4000000 in
theorem t_X4_isLetter (N : Nat) (lt b c ms rd m : Bd) (P : PL) (x0 : Int) (K : KT) (X : Kok K cX4_isLetter yX4_isLetter.cls lw_g ({ frames := 0, cells := 0, slots := 0, locals := 0 } : Room) (some .boolean) 1) : Rn K (Q_X4_isLetter K lt b c ms rd m P) 0 0 (f_X4_isLetter x0) 0 [(0, vI x0)] [] (Zw (kE K) lt b c ms rd m P) := by
  unfold f_X4_isLetter
  refine r_iload_n (pc := 0) X 0 dX4_isLetter_0 rfl rfl ?_
  refine r_bipush (pc := 1) X 97 dX4_isLetter_1 (by decide) ?_
  refine r_ck1 (fun h1 => ?_)
  refine r_icmp_lt (pc := 3) X h1 (by decide) dX4_isLetter_3 (tgt := 16) (by decide) (fun h2 => ?_) (fun h2 => ?_)
  · refine r_iconst (pc := 16) X 0 dX4_isLetter_16 (by decide) ?_
    exact r_zret (pc := 17) X (by decide) rfl rfl (by decide) dX4_isLetter_17
  · refine r_iload_n (pc := 6) X 0 dX4_isLetter_6 rfl rfl ?_
    refine r_bipush (pc := 7) X 104 dX4_isLetter_7 (by decide) ?_
    refine r_icmp_gt (pc := 9) X h1 (by decide) dX4_isLetter_9 (tgt := 16) (by decide) (fun h3 => ?_) (fun h3 => ?_)
    · refine r_iconst (pc := 16) X 0 dX4_isLetter_16 (by decide) ?_
      exact r_zret (pc := 17) X (by decide) rfl rfl (by decide) dX4_isLetter_17
    · refine r_iconst (pc := 12) X 1 dX4_isLetter_12 (by decide) ?_
      refine r_goto (pc := 13) X dX4_isLetter_13 (tgt := 17) (by decide) ?_
      exact r_zret (pc := 17) X (by decide) rfl rfl (by decide) dX4_isLetter_17
theorem c_X4_isLetter (N : Nat) (lt b c ms rd m : Bd) (P : PL) (x0 : Int) (l : Launch) (D : va_G) (E : ET) (a : Int) (ha : f_X4_isLetter x0 = some a) : Ct l yX4_isLetter (Cond.code yX4_isLetter cX4_isLetter 1 (some .boolean) :: lw_g) ({ frames := 0, cells := 0, slots := 0, locals := 0 } : Room) D E [vI x0] (Zw E lt b c ms rd m P) (Zw E lt b c ms rd m P) (some (vI a)) :=
  ct_of (av := fun E => [vI x0]) (W0 := fun E => Zw E lt b c ms rd m P) (W1 := fun E (a : Int) => Zw E lt b c ms rd m P) (rw := fun E a => some (vI a)) (by decide) rfl (fun E => Zw_d E lt b c ms rd m P) (fun E => by simp [lg_sl, z_cat, z_catR, z_catI, z_catL]) (fun K X => r_lv (by simp [lv_args, z_cat, z_catR, z_catI, z_catL]) (t_X4_isLetter N lt b c ms rd m P x0 K X)) l D E a ha
abbrev Q_X4_takesLetter (K : KT) (lt b c ms rd m : Bd) (P : PL) : (Int × Bd) → State → Prop := Qm K ({ frames := 1, cells := 0, slots := 0, locals := 20 } : Room) (fun a : Int × Bd => Zw (kE K) lt b c ms a.2 m P) (fun a => some (vI a.1))
set_option maxRecDepth 100000 in
set_option maxHeartbeats 4000000 in
theorem t_X4_takesLetter (N : Nat) (lt b c ms rd m : Bd) (P : PL) (x1 x2 : Int) (K : KT) (X : Kok K cX4_takesLetter yX4_takesLetter.cls lw_g ({ frames := 1, cells := 0, slots := 0, locals := 20 } : Room) (some .boolean) 3) : Rn K (Q_X4_takesLetter K lt b c ms rd m P) 0 0 (f_X4_takesLetter rd x1 x2) 0 [(0, .ref (kB K + 24)), (1, vI x1), (2, vI x2)] [] (Zw (kE K) lt b c ms rd m P) := by
  unfold f_X4_takesLetter
  refine r_iload_n (pc := 0) X 1 dX4_takesLetter_0 rfl rfl ?_
  refine r_callS (pc := 1) (As := [vI x1]) (rest := []) (W' := fun q1_1 => (Zw (kE K) lt b c ms rd m P)) (rv := fun q1_1 => some (vI q1_1)) X dX4_takesLetter_1 rfl (fun a ha => c_X4_isLetter N lt b c ms rd m P x1 K.1.2.1 K.2.2.1.1 (kE K) a ha) (fun a => Zw_d _ _ _ _ _ _ _ _) gd_X4_84 rfl (n := 1) (by decide) rfl (by decide) (Nat.zero_le _) (fun q1_1 eq1_1 => ?_)
  show Rn K _ 0 0 _ 4 [(0, .ref (kB K + 24)), (1, vI x1), (2, vI x2)] [vI q1_1] (Zw (kE K) lt b c ms rd m P)
  refine r_ck1 (fun h2 => ?_)
  refine r_ifeq (pc := 4) X h2 dX4_takesLetter_4 (tgt := 29) (by decide) (fun h3 => ?_) (fun h3 => ?_)
  · refine r_iconst (pc := 29) X 0 dX4_takesLetter_29 (by decide) ?_
    exact r_zret (pc := 30) X (by decide) rfl rfl (by decide) dX4_takesLetter_30
  · refine r_aload_n (pc := 7) X 0 dX4_takesLetter_7 rfl rfl ?_
    refine r_get (pc := 8) (v := .ref (kB K + 32)) X 24 13 inX4 rfl rfl (by decide) tf_X4_33 rfl dX4_takesLetter_8 ?_
    refine r_iload_n (pc := 11) X 1 dX4_takesLetter_11 rfl rfl ?_
    refine r_bipush (pc := 12) X 97 dX4_takesLetter_12 (by decide) ?_
    refine r_isub (pc := 14) X dX4_takesLetter_14 ?_
    refine r_ckA (fun h4 => ?_)
    refine r_iald (pc := 15) (f := rd 13) X 32 h4 zl_8 rfl dX4_takesLetter_15 ?_
    refine r_iconst (pc := 16) X (-1) dX4_takesLetter_16 (by decide) ?_
    refine r_ck1 (fun h5 => ?_)
    refine r_icmp_ne (pc := 17) X h5 (by decide) dX4_takesLetter_17 (tgt := 29) (by decide) (fun h6 => ?_) (fun h6 => ?_)
    · refine r_iconst (pc := 29) X 0 dX4_takesLetter_29 (by decide) ?_
      exact r_zret (pc := 30) X (by decide) rfl rfl (by decide) dX4_takesLetter_30
    · refine r_aload_n (pc := 20) X 0 dX4_takesLetter_20 rfl rfl ?_
      refine r_get (pc := 21) (v := vI (rd 11 0)) X 24 11 inX4 rfl rfl (by decide) tf_X4_42 rfl dX4_takesLetter_21 ?_
      refine r_bipush (pc := 24) X 8 dX4_takesLetter_24 (by decide) ?_
      refine r_ck1 (fun h7 => ?_)
      refine r_icmp_lt (pc := 26) X h7 (by decide) dX4_takesLetter_26 (tgt := 31) (by decide) (fun h8 => ?_) (fun h8 => ?_)
      · refine r_aload_n (pc := 31) X 0 dX4_takesLetter_31 rfl rfl ?_
        refine r_iload_n (pc := 32) X 1 dX4_takesLetter_32 rfl rfl ?_
        refine r_bipush (pc := 33) X 97 dX4_takesLetter_33 (by decide) ?_
        refine r_isub (pc := 35) X dX4_takesLetter_35 ?_
        refine r_put (pc := 36) (ws' := (Zw (kE K) lt b c ms (bs0 rd 1 (x1 - 97)) m P)) X 24 1 inX4 tyX4 tyX4_ok nmX4 rfl rfl (by decide) tf_X4_87 rfl (tyX4_ok 1 (by decide)) rfl rfl (Nat.le_of_ble_eq_true rfl) rfl dX4_takesLetter_36 ?_
        refine r_aload_n (pc := 39) X 0 dX4_takesLetter_39 rfl rfl ?_
        refine r_get (pc := 40) (v := .ref (kB K + 32)) X 24 13 inX4 rfl rfl (by decide) tf_X4_33 rfl dX4_takesLetter_40 ?_
        refine r_aload_n (pc := 43) X 0 dX4_takesLetter_43 rfl rfl ?_
        refine r_get (pc := 44) (v := vI (x1 - 97)) X 24 1 inX4 rfl rfl (by decide) tf_X4_87 rfl dX4_takesLetter_44 ?_
        refine r_iload_n (pc := 47) X 2 dX4_takesLetter_47 rfl rfl ?_
        refine r_iast (pc := 48) (f := rd 13) (ws' := (Zw (kE K) lt b c ms (bS (bs0 rd 1 (x1 - 97)) 13 (aS (rd 13) (x1 - 97) x2)) m P)) X 32 h4 zl_8 rfl rfl dX4_takesLetter_48 ?_
        refine r_aload_n (pc := 49) X 0 dX4_takesLetter_49 rfl rfl ?_
        refine r_get (pc := 50) (v := .ref (kB K + 30)) X 24 10 inX4 rfl rfl (by decide) tf_X4_27 rfl dX4_takesLetter_50 ?_
        refine r_aload_n (pc := 53) X 0 dX4_takesLetter_53 rfl rfl ?_
        refine r_get (pc := 54) (v := vI (rd 11 0)) X 24 11 inX4 rfl rfl (by decide) tf_X4_42 rfl dX4_takesLetter_54 ?_
        refine r_aload_n (pc := 57) X 0 dX4_takesLetter_57 rfl rfl ?_
        refine r_get (pc := 58) (v := vI (x1 - 97)) X 24 1 inX4 rfl rfl (by decide) tf_X4_87 rfl dX4_takesLetter_58 ?_
        refine r_ckA (fun h9 => ?_)
        refine r_iast (pc := 61) (f := rd 10) (ws' := (Zw (kE K) lt b c ms (bS (bS (bs0 rd 1 (x1 - 97)) 10 (aS (rd 10) (rd 11 0) (x1 - 97))) 13 (aS (rd 13) (x1 - 97) x2)) m P)) X 30 h9 zl_8 rfl rfl dX4_takesLetter_61 ?_
        refine r_aload_n (pc := 62) X 0 dX4_takesLetter_62 rfl rfl ?_
        refine r_dup (pc := 63) X dX4_takesLetter_63 rfl ?_
        refine r_get (pc := 64) (v := vI (rd 11 0)) X 24 11 inX4 rfl rfl (by decide) tf_X4_42 rfl dX4_takesLetter_64 ?_
        refine r_iconst (pc := 67) X 1 dX4_takesLetter_67 (by decide) ?_
        refine r_iadd (pc := 68) X dX4_takesLetter_68 ?_
        refine r_put (pc := 69) (ws' := (Zw (kE K) lt b c ms (bS (bs0 (bS (bs0 rd 1 (x1 - 97)) 10 (aS (rd 10) (rd 11 0) (x1 - 97))) 11 ((rd 11 0) + 1)) 13 (aS (rd 13) (x1 - 97) x2)) m P)) X 24 11 inX4 tyX4 tyX4_ok nmX4 rfl rfl (by decide) tf_X4_42 rfl (tyX4_ok 11 (by decide)) rfl rfl (Nat.le_of_ble_eq_true rfl) rfl dX4_takesLetter_69 ?_
        refine r_aload_n (pc := 72) X 0 dX4_takesLetter_72 rfl rfl ?_
        refine r_iconst (pc := 73) X 1 dX4_takesLetter_73 (by decide) ?_
        refine r_put (pc := 74) (ws' := (Zw (kE K) lt b c ms (bS (bs0 (bS (bs0 (bs0 rd 0 1) 1 (x1 - 97)) 10 (aS (rd 10) (rd 11 0) (x1 - 97))) 11 ((rd 11 0) + 1)) 13 (aS (rd 13) (x1 - 97) x2)) m P)) X 24 0 inX4 tyX4 tyX4_ok nmX4 rfl rfl (by decide) tf_X4_46 rfl (tyX4_ok 0 (by decide)) rfl rfl (Nat.le_of_ble_eq_true rfl) rfl dX4_takesLetter_74 ?_
        refine r_iconst (pc := 77) X 1 dX4_takesLetter_77 (by decide) ?_
        exact r_zret (pc := 78) X (by decide) rfl rfl (by decide) dX4_takesLetter_78
      · refine r_iconst (pc := 29) X 0 dX4_takesLetter_29 (by decide) ?_
        exact r_zret (pc := 30) X (by decide) rfl rfl (by decide) dX4_takesLetter_30
theorem c_X4_takesLetter (N : Nat) (lt b c ms rd m : Bd) (P : PL) (x1 x2 : Int) (l : Launch) (D : va_G) (E : ET) (a : Int × Bd) (ha : f_X4_takesLetter rd x1 x2 = some a) : Ct l yX4_takesLetter (Cond.code yX4_takesLetter cX4_takesLetter 3 (some .boolean) :: lw_g) ({ frames := 1, cells := 0, slots := 0, locals := 20 } : Room) D E [.ref (E.2.2.2 + 24), vI x1, vI x2] (Zw E lt b c ms rd m P) (Zw E lt b c ms a.2 m P) (some (vI a.1)) :=
  ct_of (av := fun E => [.ref (E.2.2.2 + 24), vI x1, vI x2]) (W0 := fun E => Zw E lt b c ms rd m P) (W1 := fun E (a : Int × Bd) => Zw E lt b c ms a.2 m P) (rw := fun E a => some (vI a.1)) (by decide) rfl (fun E => Zw_d E lt b c ms rd m P) (fun E => by simp [lg_sl, z_cat, z_catR, z_catI, z_catL]) (fun K X => r_lv (by simp [lv_args, z_cat, z_catR, z_catI, z_catL]) (t_X4_takesLetter N lt b c ms rd m P x1 x2 K X)) l D E a ha
abbrev Q_X4_pushOperator (K : KT) (lt b c ms rd m : Bd) (P : PL) : (Int × Bd) → State → Prop := Qm K ({ frames := 0, cells := 0, slots := 0, locals := 0 } : Room) (fun a : Int × Bd => Zw (kE K) lt b c ms a.2 m P) (fun a => some (vI a.1))
set_option maxRecDepth 100000 in
set_option maxHeartbeats 4000000 in
theorem t_X4_pushOperator (N : Nat) (lt b c ms rd m : Bd) (P : PL) (x1 : Int) (K : KT) (X : Kok K cX4_pushOperator yX4_pushOperator.cls lw_g ({ frames := 0, cells := 0, slots := 0, locals := 0 } : Room) (some .boolean) 2) : Rn K (Q_X4_pushOperator K lt b c ms rd m P) 0 0 (f_X4_pushOperator rd x1) 0 [(0, .ref (kB K + 24)), (1, vI x1)] [] (Zw (kE K) lt b c ms rd m P) := by
  unfold f_X4_pushOperator
  refine r_aload_n (pc := 0) X 0 dX4_pushOperator_0 rfl rfl ?_
  refine r_get (pc := 1) (v := vI (rd 9 0)) X 24 9 inX4 rfl rfl (by decide) tf_X4_55 rfl dX4_pushOperator_1 ?_
  refine r_bipush (pc := 4) X 120 dX4_pushOperator_4 (by decide) ?_
  refine r_ck1 (fun h1 => ?_)
  refine r_icmp_lt (pc := 6) X h1 (by decide) dX4_pushOperator_6 (tgt := 11) (by decide) (fun h2 => ?_) (fun h2 => ?_)
  · refine r_aload_n (pc := 11) X 0 dX4_pushOperator_11 rfl rfl ?_
    refine r_get (pc := 12) (v := .ref (kB K + 29)) X 24 8 inX4 rfl rfl (by decide) tf_X4_24 rfl dX4_pushOperator_12 ?_
    refine r_aload_n (pc := 15) X 0 dX4_pushOperator_15 rfl rfl ?_
    refine r_get (pc := 16) (v := vI (rd 9 0)) X 24 9 inX4 rfl rfl (by decide) tf_X4_55 rfl dX4_pushOperator_16 ?_
    refine r_iload_n (pc := 19) X 1 dX4_pushOperator_19 rfl rfl ?_
    refine r_ckA (fun h3 => ?_)
    refine r_iast (pc := 20) (f := rd 8) (ws' := (Zw (kE K) lt b c ms (bS rd 8 (aS (rd 8) (rd 9 0) x1)) m P)) X 29 h3 zl_120 rfl rfl dX4_pushOperator_20 ?_
    refine r_aload_n (pc := 21) X 0 dX4_pushOperator_21 rfl rfl ?_
    refine r_dup (pc := 22) X dX4_pushOperator_22 rfl ?_
    refine r_get (pc := 23) (v := vI (rd 9 0)) X 24 9 inX4 rfl rfl (by decide) tf_X4_55 rfl dX4_pushOperator_23 ?_
    refine r_iconst (pc := 26) X 1 dX4_pushOperator_26 (by decide) ?_
    refine r_iadd (pc := 27) X dX4_pushOperator_27 ?_
    refine r_put (pc := 28) (ws' := (Zw (kE K) lt b c ms (bs0 (bS rd 8 (aS (rd 8) (rd 9 0) x1)) 9 ((rd 9 0) + 1)) m P)) X 24 9 inX4 tyX4 tyX4_ok nmX4 rfl rfl (by decide) tf_X4_55 rfl (tyX4_ok 9 (by decide)) rfl rfl (Nat.le_of_ble_eq_true rfl) rfl dX4_pushOperator_28 ?_
    refine r_iconst (pc := 31) X 1 dX4_pushOperator_31 (by decide) ?_
    exact r_zret (pc := 32) X (by decide) rfl rfl (by decide) dX4_pushOperator_32
  · refine r_iconst (pc := 9) X 0 dX4_pushOperator_9 (by decide) ?_
    exact r_zret (pc := 10) X (by decide) rfl rfl (by decide) dX4_pushOperator_10
theorem c_X4_pushOperator (N : Nat) (lt b c ms rd m : Bd) (P : PL) (x1 : Int) (l : Launch) (D : va_G) (E : ET) (a : Int × Bd) (ha : f_X4_pushOperator rd x1 = some a) : Ct l yX4_pushOperator (Cond.code yX4_pushOperator cX4_pushOperator 2 (some .boolean) :: lw_g) ({ frames := 0, cells := 0, slots := 0, locals := 0 } : Room) D E [.ref (E.2.2.2 + 24), vI x1] (Zw E lt b c ms rd m P) (Zw E lt b c ms a.2 m P) (some (vI a.1)) :=
  ct_of (av := fun E => [.ref (E.2.2.2 + 24), vI x1]) (W0 := fun E => Zw E lt b c ms rd m P) (W1 := fun E (a : Int × Bd) => Zw E lt b c ms a.2 m P) (rw := fun E a => some (vI a.1)) (by decide) rfl (fun E => Zw_d E lt b c ms rd m P) (fun E => by simp [lg_sl, z_cat, z_catR, z_catI, z_catL]) (fun K X => r_lv (by simp [lv_args, z_cat, z_catR, z_catI, z_catL]) (t_X4_pushOperator N lt b c ms rd m P x1 K X)) l D E a ha
abbrev Q_X4_newNode (K : KT) (lt b c ms rd m : Bd) (P : PL) : (Int × Bd) → State → Prop := Qm K ({ frames := 0, cells := 0, slots := 0, locals := 0 } : Room) (fun a : Int × Bd => Zw (kE K) lt b c ms a.2 m P) (fun a => some (vI a.1))
set_option maxRecDepth 100000 in
set_option maxHeartbeats 4000000 in
theorem t_X4_newNode (N : Nat) (lt b c ms rd m : Bd) (P : PL) (x1 x2 x3 : Int) (K : KT) (X : Kok K cX4_newNode yX4_newNode.cls lw_g ({ frames := 0, cells := 0, slots := 0, locals := 0 } : Room) (some .int) 5) : Rn K (Q_X4_newNode K lt b c ms rd m P) 0 0 (f_X4_newNode rd x1 x2 x3) 0 [(0, .ref (kB K + 24)), (1, vI x1), (2, vI x2), (3, vI x3)] [] (Zw (kE K) lt b c ms rd m P) := by
  unfold f_X4_newNode
  refine r_aload_n (pc := 0) X 0 dX4_newNode_0 rfl rfl ?_
  refine r_get (pc := 1) (v := vI (rd 5 0)) X 24 5 inX4 rfl rfl (by decide) tf_X4_49 rfl dX4_newNode_1 ?_
  refine r_bipush (pc := 4) X 120 dX4_newNode_4 (by decide) ?_
  refine r_ck1 (fun h1 => ?_)
  refine r_icmp_lt (pc := 6) X h1 (by decide) dX4_newNode_6 (tgt := 11) (by decide) (fun h2 => ?_) (fun h2 => ?_)
  · refine r_aload_n (pc := 11) X 0 dX4_newNode_11 rfl rfl ?_
    refine r_get (pc := 12) (v := vI (rd 5 0)) X 24 5 inX4 rfl rfl (by decide) tf_X4_49 rfl dX4_newNode_12 ?_
    refine r_istore (pc := 15) (lv' := [(0, .ref (kB K + 24)), (1, vI x1), (2, vI x2), (3, vI x3), (4, vI (rd 5 0))]) X [1, 2, 3, 4, 0] dX4_newNode_15 (by decide) rfl ?_
    refine r_aload_n (pc := 17) X 0 dX4_newNode_17 rfl rfl ?_
    refine r_get (pc := 18) (v := .ref (kB K + 25)) X 24 2 inX4 rfl rfl (by decide) tf_X4_9 rfl dX4_newNode_18 ?_
    refine r_iload (pc := 21) X 4 dX4_newNode_21 rfl ?_
    refine r_iload_n (pc := 23) X 1 dX4_newNode_23 rfl rfl ?_
    refine r_ckA (fun h3 => ?_)
    refine r_iast (pc := 24) (f := rd 2) (ws' := (Zw (kE K) lt b c ms (bS rd 2 (aS (rd 2) (rd 5 0) x1)) m P)) X 25 h3 zl_120 rfl rfl dX4_newNode_24 ?_
    refine r_aload_n (pc := 25) X 0 dX4_newNode_25 rfl rfl ?_
    refine r_get (pc := 26) (v := .ref (kB K + 26)) X 24 3 inX4 rfl rfl (by decide) tf_X4_15 rfl dX4_newNode_26 ?_
    refine r_iload (pc := 29) X 4 dX4_newNode_29 rfl ?_
    refine r_iload_n (pc := 31) X 2 dX4_newNode_31 rfl rfl ?_
    refine r_iast (pc := 32) (f := rd 3) (ws' := (Zw (kE K) lt b c ms (bS (bS rd 2 (aS (rd 2) (rd 5 0) x1)) 3 (aS (rd 3) (rd 5 0) x2)) m P)) X 26 h3 zl_120 rfl rfl dX4_newNode_32 ?_
    refine r_aload_n (pc := 33) X 0 dX4_newNode_33 rfl rfl ?_
    refine r_get (pc := 34) (v := .ref (kB K + 27)) X 24 4 inX4 rfl rfl (by decide) tf_X4_18 rfl dX4_newNode_34 ?_
    refine r_iload (pc := 37) X 4 dX4_newNode_37 rfl ?_
    refine r_iload_n (pc := 39) X 3 dX4_newNode_39 rfl rfl ?_
    refine r_iast (pc := 40) (f := rd 4) (ws' := (Zw (kE K) lt b c ms (bS (bS (bS rd 2 (aS (rd 2) (rd 5 0) x1)) 3 (aS (rd 3) (rd 5 0) x2)) 4 (aS (rd 4) (rd 5 0) x3)) m P)) X 27 h3 zl_120 rfl rfl dX4_newNode_40 ?_
    refine r_aload_n (pc := 41) X 0 dX4_newNode_41 rfl rfl ?_
    refine r_dup (pc := 42) X dX4_newNode_42 rfl ?_
    refine r_get (pc := 43) (v := vI (rd 5 0)) X 24 5 inX4 rfl rfl (by decide) tf_X4_49 rfl dX4_newNode_43 ?_
    refine r_iconst (pc := 46) X 1 dX4_newNode_46 (by decide) ?_
    refine r_iadd (pc := 47) X dX4_newNode_47 ?_
    refine r_put (pc := 48) (ws' := (Zw (kE K) lt b c ms (bs0 (bS (bS (bS rd 2 (aS (rd 2) (rd 5 0) x1)) 3 (aS (rd 3) (rd 5 0) x2)) 4 (aS (rd 4) (rd 5 0) x3)) 5 ((rd 5 0) + 1)) m P)) X 24 5 inX4 tyX4 tyX4_ok nmX4 rfl rfl (by decide) tf_X4_49 rfl (tyX4_ok 5 (by decide)) rfl rfl (Nat.le_of_ble_eq_true rfl) rfl dX4_newNode_48 ?_
    refine r_iload (pc := 51) X 4 dX4_newNode_51 rfl ?_
    exact r_iret (pc := 53) X rfl rfl (by decide) dX4_newNode_53
  · refine r_iconst (pc := 9) X 0 dX4_newNode_9 (by decide) ?_
    exact r_iret (pc := 10) X rfl rfl (by decide) dX4_newNode_10
theorem c_X4_newNode (N : Nat) (lt b c ms rd m : Bd) (P : PL) (x1 x2 x3 : Int) (l : Launch) (D : va_G) (E : ET) (a : Int × Bd) (ha : f_X4_newNode rd x1 x2 x3 = some a) : Ct l yX4_newNode (Cond.code yX4_newNode cX4_newNode 5 (some .int) :: lw_g) ({ frames := 0, cells := 0, slots := 0, locals := 0 } : Room) D E [.ref (E.2.2.2 + 24), vI x1, vI x2, vI x3] (Zw E lt b c ms rd m P) (Zw E lt b c ms a.2 m P) (some (vI a.1)) :=
  ct_of (av := fun E => [.ref (E.2.2.2 + 24), vI x1, vI x2, vI x3]) (W0 := fun E => Zw E lt b c ms rd m P) (W1 := fun E (a : Int × Bd) => Zw E lt b c ms a.2 m P) (rw := fun E a => some (vI a.1)) (by decide) rfl (fun E => Zw_d E lt b c ms rd m P) (fun E => by simp [lg_sl, z_cat, z_catR, z_catI, z_catL]) (fun K X => r_lv (by simp [lv_args, z_cat, z_catR, z_catI, z_catL]) (t_X4_newNode N lt b c ms rd m P x1 x2 x3 K X)) l D E a ha
abbrev Q_X4_pushOperand (K : KT) (lt b c ms rd m : Bd) (P : PL) : (Int × Bd) → State → Prop := Qm K ({ frames := 0, cells := 0, slots := 0, locals := 0 } : Room) (fun a : Int × Bd => Zw (kE K) lt b c ms a.2 m P) (fun a => some (vI a.1))
set_option maxRecDepth 100000 in
set_option maxHeartbeats 4000000 in
theorem t_X4_pushOperand (N : Nat) (lt b c ms rd m : Bd) (P : PL) (x1 : Int) (K : KT) (X : Kok K cX4_pushOperand yX4_pushOperand.cls lw_g ({ frames := 0, cells := 0, slots := 0, locals := 0 } : Room) (some .boolean) 2) : Rn K (Q_X4_pushOperand K lt b c ms rd m P) 0 0 (f_X4_pushOperand rd x1) 0 [(0, .ref (kB K + 24)), (1, vI x1)] [] (Zw (kE K) lt b c ms rd m P) := by
  unfold f_X4_pushOperand
  refine r_aload_n (pc := 0) X 0 dX4_pushOperand_0 rfl rfl ?_
  refine r_get (pc := 1) (v := vI (rd 7 0)) X 24 7 inX4 rfl rfl (by decide) tf_X4_52 rfl dX4_pushOperand_1 ?_
  refine r_bipush (pc := 4) X 120 dX4_pushOperand_4 (by decide) ?_
  refine r_ck1 (fun h1 => ?_)
  refine r_icmp_lt (pc := 6) X h1 (by decide) dX4_pushOperand_6 (tgt := 11) (by decide) (fun h2 => ?_) (fun h2 => ?_)
  · refine r_aload_n (pc := 11) X 0 dX4_pushOperand_11 rfl rfl ?_
    refine r_get (pc := 12) (v := .ref (kB K + 28)) X 24 6 inX4 rfl rfl (by decide) tf_X4_21 rfl dX4_pushOperand_12 ?_
    refine r_aload_n (pc := 15) X 0 dX4_pushOperand_15 rfl rfl ?_
    refine r_get (pc := 16) (v := vI (rd 7 0)) X 24 7 inX4 rfl rfl (by decide) tf_X4_52 rfl dX4_pushOperand_16 ?_
    refine r_iload_n (pc := 19) X 1 dX4_pushOperand_19 rfl rfl ?_
    refine r_ckA (fun h3 => ?_)
    refine r_iast (pc := 20) (f := rd 6) (ws' := (Zw (kE K) lt b c ms (bS rd 6 (aS (rd 6) (rd 7 0) x1)) m P)) X 28 h3 zl_120 rfl rfl dX4_pushOperand_20 ?_
    refine r_aload_n (pc := 21) X 0 dX4_pushOperand_21 rfl rfl ?_
    refine r_dup (pc := 22) X dX4_pushOperand_22 rfl ?_
    refine r_get (pc := 23) (v := vI (rd 7 0)) X 24 7 inX4 rfl rfl (by decide) tf_X4_52 rfl dX4_pushOperand_23 ?_
    refine r_iconst (pc := 26) X 1 dX4_pushOperand_26 (by decide) ?_
    refine r_iadd (pc := 27) X dX4_pushOperand_27 ?_
    refine r_put (pc := 28) (ws' := (Zw (kE K) lt b c ms (bs0 (bS rd 6 (aS (rd 6) (rd 7 0) x1)) 7 ((rd 7 0) + 1)) m P)) X 24 7 inX4 tyX4 tyX4_ok nmX4 rfl rfl (by decide) tf_X4_52 rfl (tyX4_ok 7 (by decide)) rfl rfl (Nat.le_of_ble_eq_true rfl) rfl dX4_pushOperand_28 ?_
    refine r_iconst (pc := 31) X 1 dX4_pushOperand_31 (by decide) ?_
    exact r_zret (pc := 32) X (by decide) rfl rfl (by decide) dX4_pushOperand_32
  · refine r_iconst (pc := 9) X 0 dX4_pushOperand_9 (by decide) ?_
    exact r_zret (pc := 10) X (by decide) rfl rfl (by decide) dX4_pushOperand_10
theorem c_X4_pushOperand (N : Nat) (lt b c ms rd m : Bd) (P : PL) (x1 : Int) (l : Launch) (D : va_G) (E : ET) (a : Int × Bd) (ha : f_X4_pushOperand rd x1 = some a) : Ct l yX4_pushOperand (Cond.code yX4_pushOperand cX4_pushOperand 2 (some .boolean) :: lw_g) ({ frames := 0, cells := 0, slots := 0, locals := 0 } : Room) D E [.ref (E.2.2.2 + 24), vI x1] (Zw E lt b c ms rd m P) (Zw E lt b c ms a.2 m P) (some (vI a.1)) :=
  ct_of (av := fun E => [.ref (E.2.2.2 + 24), vI x1]) (W0 := fun E => Zw E lt b c ms rd m P) (W1 := fun E (a : Int × Bd) => Zw E lt b c ms a.2 m P) (rw := fun E a => some (vI a.1)) (by decide) rfl (fun E => Zw_d E lt b c ms rd m P) (fun E => by simp [lg_sl, z_cat, z_catR, z_catI, z_catL]) (fun K X => r_lv (by simp [lv_args, z_cat, z_catR, z_catI, z_catL]) (t_X4_pushOperand N lt b c ms rd m P x1 K X)) l D E a ha
abbrev Q_X4_takesAtom (K : KT) (lt b c ms rd m : Bd) (P : PL) : (Int × Bd) → State → Prop := Qm K ({ frames := 1, cells := 0, slots := 0, locals := 24 } : Room) (fun a : Int × Bd => Zw (kE K) lt b c ms a.2 m P) (fun a => some (vI a.1))
set_option maxRecDepth 100000 in
set_option maxHeartbeats 4000000 in
theorem t_X4_takesAtom (N : Nat) (lt b c ms rd m : Bd) (P : PL) (x1 x2 : Int) (K : KT) (X : Kok K cX4_takesAtom yX4_takesAtom.cls lw_g ({ frames := 1, cells := 0, slots := 0, locals := 24 } : Room) (some .boolean) 3) : Rn K (Q_X4_takesAtom K lt b c ms rd m P) 0 0 (f_X4_takesAtom rd x1 x2) 0 [(0, .ref (kB K + 24)), (1, vI x1), (2, vI x2)] [] (Zw (kE K) lt b c ms rd m P) := by
  unfold f_X4_takesAtom
  refine r_iload_n (pc := 0) X 1 dX4_takesAtom_0 rfl rfl ?_
  refine r_bipush (pc := 1) X 91 dX4_takesAtom_1 (by decide) ?_
  refine r_jn (J := fun j12 => Rn K (Q_X4_takesAtom K lt b c ms rd m P) 0 0 j12 12 [(0, .ref (kB K + 24)), (1, vI x1)] [] (Zw (kE K) lt b c ms rd m P)) ?_ (fun j12 hj12 => ?_)
  · skip
    refine r_aload_n (pc := 12) X 0 dX4_takesAtom_12 rfl rfl ?_
    refine r_iload_n (pc := 13) X 1 dX4_takesAtom_13 rfl rfl ?_
    refine r_callV (pc := 14) (q0 := 24) (ci := 4) (As := [vI x1]) (rest := []) (W' := fun q14_1 => (Zw (kE K) lt b c ms q14_1.2 m P)) (rv := fun q14_1 => some (vI q14_1.1)) X dX4_takesAtom_14 rfl (fun a ha => c_X4_pushOperator N lt b c ms rd m P x1 K.1.2.1 K.2.2.1.1 (kE K) a ha) (fun a => Zw_d _ _ _ _ _ _ _ _) gd_X4_90 rfl (n := 1) (by decide) rfl (by decide) rfl rfl rfl (Nat.zero_le _) (fun q14_1 eq14_1 => ?_)
    show Rn K _ 0 0 _ 17 [(0, .ref (kB K + 24)), (1, vI x1)] [vI q14_1.1] (Zw (kE K) lt b c ms q14_1.2 m P)
    refine r_ckB (fun h2 => ?_)
    exact r_zret (pc := 17) X h2 rfl rfl (by decide) dX4_takesAtom_17
  refine r_ck1 (fun h3 => ?_)
  refine r_icmp_eq (pc := 3) X h3 (by decide) dX4_takesAtom_3 (tgt := 12) (by decide) (fun h4 => ?_) (fun h4 => ?_)
  · refine r_sub [0, 1] rfl ?_
    exact hj12
  · refine r_iload_n (pc := 6) X 1 dX4_takesAtom_6 rfl rfl ?_
    refine r_bipush (pc := 7) X 40 dX4_takesAtom_7 (by decide) ?_
    refine r_icmp_ne (pc := 9) X h3 (by decide) dX4_takesAtom_9 (tgt := 18) (by decide) (fun h5 => ?_) (fun h5 => ?_)
    · refine r_aload_n (pc := 18) X 0 dX4_takesAtom_18 rfl rfl ?_
      refine r_iconst (pc := 19) X 3 dX4_takesAtom_19 (by decide) ?_
      refine r_put (pc := 20) (ws' := (Zw (kE K) lt b c ms (bs0 rd 0 3) m P)) X 24 0 inX4 tyX4 tyX4_ok nmX4 rfl rfl (by decide) tf_X4_46 rfl (tyX4_ok 0 (by decide)) rfl rfl (Nat.le_of_ble_eq_true rfl) rfl dX4_takesAtom_20 ?_
      refine r_iload_n (pc := 23) X 1 dX4_takesAtom_23 rfl rfl ?_
      refine r_bipush (pc := 24) X 48 dX4_takesAtom_24 (by decide) ?_
      refine r_jn (J := fun j50 => Rn K (Q_X4_takesAtom K lt b c ms rd m P) 0 0 j50 50 [(0, .ref (kB K + 24)), (1, vI x1), (2, vI x2)] [] (Zw (kE K) lt b c ms (bs0 rd 0 3) m P)) ?_ (fun j50 hj50 => ?_)
      · skip
        refine r_iload_n (pc := 50) X 1 dX4_takesAtom_50 rfl rfl ?_
        refine r_callS (pc := 51) (As := [vI x1]) (rest := []) (W' := fun q51_6 => (Zw (kE K) lt b c ms (bs0 rd 0 3) m P)) (rv := fun q51_6 => some (vI q51_6)) X dX4_takesAtom_51 rfl (fun a ha => c_X4_isLetter N lt b c ms (bs0 rd 0 3) m P x1 K.1.2.1 K.2.2.1.1 (kE K) a ha) (fun a => Zw_d _ _ _ _ _ _ _ _) gd_X4_84 rfl (n := 1) (by decide) rfl (by decide) (Nat.zero_le _) (fun q51_6 eq51_6 => ?_)
        show Rn K _ 0 0 _ 54 [(0, .ref (kB K + 24)), (1, vI x1), (2, vI x2)] [vI q51_6] (Zw (kE K) lt b c ms (bs0 rd 0 3) m P)
        refine r_ck1 (fun h7 => ?_)
        refine r_ifeq (pc := 54) X h7 dX4_takesAtom_54 (tgt := 79) (by decide) (fun h8 => ?_) (fun h8 => ?_)
        · refine r_iconst (pc := 79) X 0 dX4_takesAtom_79 (by decide) ?_
          exact r_zret (pc := 80) X (by decide) rfl rfl (by decide) dX4_takesAtom_80
        · refine r_aload_n (pc := 57) X 0 dX4_takesAtom_57 rfl rfl ?_
          refine r_aload_n (pc := 58) X 0 dX4_takesAtom_58 rfl rfl ?_
          refine r_bipush (pc := 59) X 7 dX4_takesAtom_59 (by decide) ?_
          refine r_iload_n (pc := 61) X 1 dX4_takesAtom_61 rfl rfl ?_
          refine r_bipush (pc := 62) X 97 dX4_takesAtom_62 (by decide) ?_
          refine r_isub (pc := 64) X dX4_takesAtom_64 ?_
          refine r_iload_n (pc := 65) X 2 dX4_takesAtom_65 rfl rfl ?_
          refine r_callV (pc := 66) (q0 := 24) (ci := 4) (As := [vI 7, vI (x1 - 97), vI x2]) (rest := [.ref (kB K + 24)]) (W' := fun q66_9 => (Zw (kE K) lt b c ms q66_9.2 m P)) (rv := fun q66_9 => some (vI q66_9.1)) X dX4_takesAtom_66 rfl (fun a ha => c_X4_newNode N lt b c ms (bs0 rd 0 3) m P 7 (x1 - 97) x2 K.1.2.1 K.2.2.1.1 (kE K) a ha) (fun a => Zw_d _ _ _ _ _ _ _ _) gd_X4_93 rfl (n := 3) (by decide) rfl (by decide) rfl rfl rfl (by simp [z_cat, z_catR, z_catI, z_catL]) (fun q66_9 eq66_9 => ?_)
          show Rn K _ 0 0 _ 69 [(0, .ref (kB K + 24)), (1, vI x1), (2, vI x2)] [vI q66_9.1, .ref (kB K + 24)] (Zw (kE K) lt b c ms q66_9.2 m P)
          refine r_callV (pc := 69) (q0 := 24) (ci := 4) (As := [vI q66_9.1]) (rest := []) (W' := fun q69_10 => (Zw (kE K) lt b c ms q69_10.2 m P)) (rv := fun q69_10 => some (vI q69_10.1)) X dX4_takesAtom_69 rfl (fun a ha => c_X4_pushOperand N lt b c ms q66_9.2 m P q66_9.1 K.1.2.1 K.2.2.1.1 (kE K) a ha) (fun a => Zw_d _ _ _ _ _ _ _ _) gd_X4_97 rfl (n := 1) (by decide) rfl (by decide) rfl rfl rfl (Nat.zero_le _) (fun q69_10 eq69_10 => ?_)
          show Rn K _ 0 0 _ 72 [(0, .ref (kB K + 24)), (1, vI x1), (2, vI x2)] [vI q69_10.1] (Zw (kE K) lt b c ms q69_10.2 m P)
          refine r_ck1 (fun h11 => ?_)
          refine r_ifeq (pc := 72) X h11 dX4_takesAtom_72 (tgt := 79) (by decide) (fun h12 => ?_) (fun h12 => ?_)
          · refine r_iconst (pc := 79) X 0 dX4_takesAtom_79 (by decide) ?_
            exact r_zret (pc := 80) X (by decide) rfl rfl (by decide) dX4_takesAtom_80
          · refine r_iconst (pc := 75) X 1 dX4_takesAtom_75 (by decide) ?_
            refine r_goto (pc := 76) X dX4_takesAtom_76 (tgt := 80) (by decide) ?_
            exact r_zret (pc := 80) X (by decide) rfl rfl (by decide) dX4_takesAtom_80
      refine r_icmp_lt (pc := 26) X h3 (by decide) dX4_takesAtom_26 (tgt := 50) (by decide) (fun h13 => ?_) (fun h13 => ?_)
      · exact hj50
      · refine r_iload_n (pc := 29) X 1 dX4_takesAtom_29 rfl rfl ?_
        refine r_bipush (pc := 30) X 51 dX4_takesAtom_30 (by decide) ?_
        refine r_icmp_gt (pc := 32) X h3 (by decide) dX4_takesAtom_32 (tgt := 50) (by decide) (fun h14 => ?_) (fun h14 => ?_)
        · exact hj50
        · refine r_aload_n (pc := 35) X 0 dX4_takesAtom_35 rfl rfl ?_
          refine r_aload_n (pc := 36) X 0 dX4_takesAtom_36 rfl rfl ?_
          refine r_iload_n (pc := 37) X 1 dX4_takesAtom_37 rfl rfl ?_
          refine r_bipush (pc := 38) X 48 dX4_takesAtom_38 (by decide) ?_
          refine r_isub (pc := 40) X dX4_takesAtom_40 ?_
          refine r_iconst (pc := 41) X 0 dX4_takesAtom_41 (by decide) ?_
          refine r_iconst (pc := 42) X 0 dX4_takesAtom_42 (by decide) ?_
          refine r_callV (pc := 43) (q0 := 24) (ci := 4) (As := [vI (x1 - 48), vI 0, vI 0]) (rest := [.ref (kB K + 24)]) (W' := fun q43_15 => (Zw (kE K) lt b c ms q43_15.2 m P)) (rv := fun q43_15 => some (vI q43_15.1)) X dX4_takesAtom_43 rfl (fun a ha => c_X4_newNode N lt b c ms (bs0 rd 0 3) m P (x1 - 48) 0 0 K.1.2.1 K.2.2.1.1 (kE K) a ha) (fun a => Zw_d _ _ _ _ _ _ _ _) gd_X4_93 rfl (n := 3) (by decide) rfl (by decide) rfl rfl rfl (by simp [z_cat, z_catR, z_catI, z_catL]) (fun q43_15 eq43_15 => ?_)
          show Rn K _ 0 0 _ 46 [(0, .ref (kB K + 24)), (1, vI x1), (2, vI x2)] [vI q43_15.1, .ref (kB K + 24)] (Zw (kE K) lt b c ms q43_15.2 m P)
          refine r_callV (pc := 46) (q0 := 24) (ci := 4) (As := [vI q43_15.1]) (rest := []) (W' := fun q46_16 => (Zw (kE K) lt b c ms q46_16.2 m P)) (rv := fun q46_16 => some (vI q46_16.1)) X dX4_takesAtom_46 rfl (fun a ha => c_X4_pushOperand N lt b c ms q43_15.2 m P q43_15.1 K.1.2.1 K.2.2.1.1 (kE K) a ha) (fun a => Zw_d _ _ _ _ _ _ _ _) gd_X4_97 rfl (n := 1) (by decide) rfl (by decide) rfl rfl rfl (Nat.zero_le _) (fun q46_16 eq46_16 => ?_)
          show Rn K _ 0 0 _ 49 [(0, .ref (kB K + 24)), (1, vI x1), (2, vI x2)] [vI q46_16.1] (Zw (kE K) lt b c ms q46_16.2 m P)
          refine r_ckB (fun h17 => ?_)
          exact r_zret (pc := 49) X h17 rfl rfl (by decide) dX4_takesAtom_49
    · refine r_sub [0, 1] rfl ?_
      exact hj12
theorem c_X4_takesAtom (N : Nat) (lt b c ms rd m : Bd) (P : PL) (x1 x2 : Int) (l : Launch) (D : va_G) (E : ET) (a : Int × Bd) (ha : f_X4_takesAtom rd x1 x2 = some a) : Ct l yX4_takesAtom (Cond.code yX4_takesAtom cX4_takesAtom 3 (some .boolean) :: lw_g) ({ frames := 1, cells := 0, slots := 0, locals := 24 } : Room) D E [.ref (E.2.2.2 + 24), vI x1, vI x2] (Zw E lt b c ms rd m P) (Zw E lt b c ms a.2 m P) (some (vI a.1)) :=
  ct_of (av := fun E => [.ref (E.2.2.2 + 24), vI x1, vI x2]) (W0 := fun E => Zw E lt b c ms rd m P) (W1 := fun E (a : Int × Bd) => Zw E lt b c ms a.2 m P) (rw := fun E a => some (vI a.1)) (by decide) rfl (fun E => Zw_d E lt b c ms rd m P) (fun E => by simp [lg_sl, z_cat, z_catR, z_catI, z_catL]) (fun K X => r_lv (by simp [lv_args, z_cat, z_catR, z_catI, z_catL]) (t_X4_takesAtom N lt b c ms rd m P x1 x2 K X)) l D E a ha
abbrev Q_X4_topOperator (K : KT) (lt b c ms rd m : Bd) (P : PL) : (Int) → State → Prop := Qm K ({ frames := 0, cells := 0, slots := 0, locals := 0 } : Room) (fun a : Int => Zw (kE K) lt b c ms rd m P) (fun a => some (vI a))
set_option maxRecDepth 100000 in
set_option maxHeartbeats 4000000 in
theorem t_X4_topOperator (N : Nat) (lt b c ms rd m : Bd) (P : PL) (K : KT) (X : Kok K cX4_topOperator yX4_topOperator.cls lw_g ({ frames := 0, cells := 0, slots := 0, locals := 0 } : Room) (some .int) 1) : Rn K (Q_X4_topOperator K lt b c ms rd m P) 0 0 (f_X4_topOperator rd) 0 [(0, .ref (kB K + 24))] [] (Zw (kE K) lt b c ms rd m P) := by
  unfold f_X4_topOperator
  refine r_aload_n (pc := 0) X 0 dX4_topOperator_0 rfl rfl ?_
  refine r_get (pc := 1) (v := vI (rd 9 0)) X 24 9 inX4 rfl rfl (by decide) tf_X4_55 rfl dX4_topOperator_1 ?_
  refine r_ck1 (fun h1 => ?_)
  refine r_ifle (pc := 4) X h1 dX4_topOperator_4 (tgt := 21) (by decide) (fun h2 => ?_) (fun h2 => ?_)
  · refine r_iconst (pc := 21) X (-1) dX4_topOperator_21 (by decide) ?_
    exact r_iret (pc := 22) X rfl rfl (by decide) dX4_topOperator_22
  · refine r_aload_n (pc := 7) X 0 dX4_topOperator_7 rfl rfl ?_
    refine r_get (pc := 8) (v := .ref (kB K + 29)) X 24 8 inX4 rfl rfl (by decide) tf_X4_24 rfl dX4_topOperator_8 ?_
    refine r_aload_n (pc := 11) X 0 dX4_topOperator_11 rfl rfl ?_
    refine r_get (pc := 12) (v := vI (rd 9 0)) X 24 9 inX4 rfl rfl (by decide) tf_X4_55 rfl dX4_topOperator_12 ?_
    refine r_iconst (pc := 15) X 1 dX4_topOperator_15 (by decide) ?_
    refine r_isub (pc := 16) X dX4_topOperator_16 ?_
    refine r_ckA (fun h3 => ?_)
    refine r_iald (pc := 17) (f := rd 8) X 29 h3 zl_120 rfl dX4_topOperator_17 ?_
    refine r_goto (pc := 18) X dX4_topOperator_18 (tgt := 22) (by decide) ?_
    exact r_iret (pc := 22) X rfl rfl (by decide) dX4_topOperator_22
theorem c_X4_topOperator (N : Nat) (lt b c ms rd m : Bd) (P : PL) (l : Launch) (D : va_G) (E : ET) (a : Int) (ha : f_X4_topOperator rd = some a) : Ct l yX4_topOperator (Cond.code yX4_topOperator cX4_topOperator 1 (some .int) :: lw_g) ({ frames := 0, cells := 0, slots := 0, locals := 0 } : Room) D E [.ref (E.2.2.2 + 24)] (Zw E lt b c ms rd m P) (Zw E lt b c ms rd m P) (some (vI a)) :=
  ct_of (av := fun E => [.ref (E.2.2.2 + 24)]) (W0 := fun E => Zw E lt b c ms rd m P) (W1 := fun E (a : Int) => Zw E lt b c ms rd m P) (rw := fun E a => some (vI a)) (by decide) rfl (fun E => Zw_d E lt b c ms rd m P) (fun E => by simp [lg_sl, z_cat, z_catR, z_catI, z_catL]) (fun K X => r_lv (by simp [lv_args, z_cat, z_catR, z_catI, z_catL]) (t_X4_topOperator N lt b c ms rd m P  K X)) l D E a ha
abbrev Q_X4_popOperand (K : KT) (lt b c ms rd m : Bd) (P : PL) : (Int × Bd) → State → Prop := Qm K ({ frames := 0, cells := 0, slots := 0, locals := 0 } : Room) (fun a : Int × Bd => Zw (kE K) lt b c ms a.2 m P) (fun a => some (vI a.1))
set_option maxRecDepth 100000 in
set_option maxHeartbeats 4000000 in
theorem t_X4_popOperand (N : Nat) (lt b c ms rd m : Bd) (P : PL) (K : KT) (X : Kok K cX4_popOperand yX4_popOperand.cls lw_g ({ frames := 0, cells := 0, slots := 0, locals := 0 } : Room) (some .int) 1) : Rn K (Q_X4_popOperand K lt b c ms rd m P) 0 0 (f_X4_popOperand rd) 0 [(0, .ref (kB K + 24))] [] (Zw (kE K) lt b c ms rd m P) := by
  unfold f_X4_popOperand
  refine r_aload_n (pc := 0) X 0 dX4_popOperand_0 rfl rfl ?_
  refine r_get (pc := 1) (v := vI (rd 7 0)) X 24 7 inX4 rfl rfl (by decide) tf_X4_52 rfl dX4_popOperand_1 ?_
  refine r_ck1 (fun h1 => ?_)
  refine r_ifne (pc := 4) X h1 dX4_popOperand_4 (tgt := 9) (by decide) (fun h2 => ?_) (fun h2 => ?_)
  · refine r_aload_n (pc := 9) X 0 dX4_popOperand_9 rfl rfl ?_
    refine r_dup (pc := 10) X dX4_popOperand_10 rfl ?_
    refine r_get (pc := 11) (v := vI (rd 7 0)) X 24 7 inX4 rfl rfl (by decide) tf_X4_52 rfl dX4_popOperand_11 ?_
    refine r_iconst (pc := 14) X 1 dX4_popOperand_14 (by decide) ?_
    refine r_isub (pc := 15) X dX4_popOperand_15 ?_
    refine r_put (pc := 16) (ws' := (Zw (kE K) lt b c ms (bs0 rd 7 ((rd 7 0) - 1)) m P)) X 24 7 inX4 tyX4 tyX4_ok nmX4 rfl rfl (by decide) tf_X4_52 rfl (tyX4_ok 7 (by decide)) rfl rfl (Nat.le_of_ble_eq_true rfl) rfl dX4_popOperand_16 ?_
    refine r_aload_n (pc := 19) X 0 dX4_popOperand_19 rfl rfl ?_
    refine r_get (pc := 20) (v := .ref (kB K + 28)) X 24 6 inX4 rfl rfl (by decide) tf_X4_21 rfl dX4_popOperand_20 ?_
    refine r_aload_n (pc := 23) X 0 dX4_popOperand_23 rfl rfl ?_
    refine r_get (pc := 24) (v := vI ((rd 7 0) - 1)) X 24 7 inX4 rfl rfl (by decide) tf_X4_52 rfl dX4_popOperand_24 ?_
    refine r_ckA (fun h3 => ?_)
    refine r_iald (pc := 27) (f := rd 6) X 28 h3 zl_120 rfl dX4_popOperand_27 ?_
    exact r_iret (pc := 28) X rfl rfl (by decide) dX4_popOperand_28
  · refine r_iconst (pc := 7) X 0 dX4_popOperand_7 (by decide) ?_
    exact r_iret (pc := 8) X rfl rfl (by decide) dX4_popOperand_8
theorem c_X4_popOperand (N : Nat) (lt b c ms rd m : Bd) (P : PL) (l : Launch) (D : va_G) (E : ET) (a : Int × Bd) (ha : f_X4_popOperand rd = some a) : Ct l yX4_popOperand (Cond.code yX4_popOperand cX4_popOperand 1 (some .int) :: lw_g) ({ frames := 0, cells := 0, slots := 0, locals := 0 } : Room) D E [.ref (E.2.2.2 + 24)] (Zw E lt b c ms rd m P) (Zw E lt b c ms a.2 m P) (some (vI a.1)) :=
  ct_of (av := fun E => [.ref (E.2.2.2 + 24)]) (W0 := fun E => Zw E lt b c ms rd m P) (W1 := fun E (a : Int × Bd) => Zw E lt b c ms a.2 m P) (rw := fun E a => some (vI a.1)) (by decide) rfl (fun E => Zw_d E lt b c ms rd m P) (fun E => by simp [lg_sl, z_cat, z_catR, z_catI, z_catL]) (fun K X => r_lv (by simp [lv_args, z_cat, z_catR, z_catI, z_catL]) (t_X4_popOperand N lt b c ms rd m P  K X)) l D E a ha
abbrev Q_X4_joinTwo (K : KT) (lt b c ms rd m : Bd) (P : PL) : (Bd) → State → Prop := Qm K ({ frames := 1, cells := 0, slots := 0, locals := 24 } : Room) (fun a : Bd => Zw (kE K) lt b c ms a m P) (fun a => none)
set_option maxRecDepth 100000 in
set_option maxHeartbeats 4000000 in
theorem t_X4_joinTwo (N : Nat) (lt b c ms rd m : Bd) (P : PL) (x1 : Int) (K : KT) (X : Kok K cX4_joinTwo yX4_joinTwo.cls lw_g ({ frames := 1, cells := 0, slots := 0, locals := 24 } : Room) none 4) : Rn K (Q_X4_joinTwo K lt b c ms rd m P) 0 0 (f_X4_joinTwo rd x1) 0 [(0, .ref (kB K + 24)), (1, vI x1)] [] (Zw (kE K) lt b c ms rd m P) := by
  unfold f_X4_joinTwo
  refine r_aload_n (pc := 0) X 0 dX4_joinTwo_0 rfl rfl ?_
  refine r_dup (pc := 1) X dX4_joinTwo_1 rfl ?_
  refine r_get (pc := 2) (v := vI (rd 9 0)) X 24 9 inX4 rfl rfl (by decide) tf_X4_55 rfl dX4_joinTwo_2 ?_
  refine r_iconst (pc := 5) X 1 dX4_joinTwo_5 (by decide) ?_
  refine r_isub (pc := 6) X dX4_joinTwo_6 ?_
  refine r_put (pc := 7) (ws' := (Zw (kE K) lt b c ms (bs0 rd 9 ((rd 9 0) - 1)) m P)) X 24 9 inX4 tyX4 tyX4_ok nmX4 rfl rfl (by decide) tf_X4_55 rfl (tyX4_ok 9 (by decide)) rfl rfl (Nat.le_of_ble_eq_true rfl) rfl dX4_joinTwo_7 ?_
  refine r_aload_n (pc := 10) X 0 dX4_joinTwo_10 rfl rfl ?_
  refine r_callV (pc := 11) (q0 := 24) (ci := 4) (As := []) (rest := []) (W' := fun q11_1 => (Zw (kE K) lt b c ms q11_1.2 m P)) (rv := fun q11_1 => some (vI q11_1.1)) X dX4_joinTwo_11 rfl (fun a ha => c_X4_popOperand N lt b c ms (bs0 rd 9 ((rd 9 0) - 1)) m P K.1.2.1 K.2.2.1.1 (kE K) a ha) (fun a => Zw_d _ _ _ _ _ _ _ _) gd_X4_109 rfl (n := 0) (by decide) rfl (by decide) rfl rfl rfl (Nat.zero_le _) (fun q11_1 eq11_1 => ?_)
  show Rn K _ 0 0 _ 14 [(0, .ref (kB K + 24)), (1, vI x1)] [vI q11_1.1] (Zw (kE K) lt b c ms q11_1.2 m P)
  refine r_istore_n (pc := 14) (lv' := [(0, .ref (kB K + 24)), (1, vI x1), (2, vI q11_1.1)]) X [1, 2, 0] dX4_joinTwo_14 rfl (by decide) rfl ?_
  refine r_aload_n (pc := 15) X 0 dX4_joinTwo_15 rfl rfl ?_
  refine r_callV (pc := 16) (q0 := 24) (ci := 4) (As := []) (rest := []) (W' := fun q16_2 => (Zw (kE K) lt b c ms q16_2.2 m P)) (rv := fun q16_2 => some (vI q16_2.1)) X dX4_joinTwo_16 rfl (fun a ha => c_X4_popOperand N lt b c ms q11_1.2 m P K.1.2.1 K.2.2.1.1 (kE K) a ha) (fun a => Zw_d _ _ _ _ _ _ _ _) gd_X4_109 rfl (n := 0) (by decide) rfl (by decide) rfl rfl rfl (Nat.zero_le _) (fun q16_2 eq16_2 => ?_)
  show Rn K _ 0 0 _ 19 [(0, .ref (kB K + 24)), (1, vI x1), (2, vI q11_1.1)] [vI q16_2.1] (Zw (kE K) lt b c ms q16_2.2 m P)
  refine r_istore_n (pc := 19) (lv' := [(0, .ref (kB K + 24)), (1, vI x1), (2, vI q11_1.1), (3, vI q16_2.1)]) X [1, 2, 3, 0] dX4_joinTwo_19 rfl (by decide) rfl ?_
  refine r_aload_n (pc := 20) X 0 dX4_joinTwo_20 rfl rfl ?_
  refine r_aload_n (pc := 21) X 0 dX4_joinTwo_21 rfl rfl ?_
  refine r_iload_n (pc := 22) X 1 dX4_joinTwo_22 rfl rfl ?_
  refine r_iload_n (pc := 23) X 3 dX4_joinTwo_23 rfl rfl ?_
  refine r_iload_n (pc := 24) X 2 dX4_joinTwo_24 rfl rfl ?_
  refine r_callV (pc := 25) (q0 := 24) (ci := 4) (As := [vI x1, vI q16_2.1, vI q11_1.1]) (rest := [.ref (kB K + 24)]) (W' := fun q25_3 => (Zw (kE K) lt b c ms q25_3.2 m P)) (rv := fun q25_3 => some (vI q25_3.1)) X dX4_joinTwo_25 rfl (fun a ha => c_X4_newNode N lt b c ms q16_2.2 m P x1 q16_2.1 q11_1.1 K.1.2.1 K.2.2.1.1 (kE K) a ha) (fun a => Zw_d _ _ _ _ _ _ _ _) gd_X4_93 rfl (n := 3) (by decide) rfl (by decide) rfl rfl rfl (by simp [z_cat, z_catR, z_catI, z_catL]) (fun q25_3 eq25_3 => ?_)
  show Rn K _ 0 0 _ 28 [(0, .ref (kB K + 24)), (1, vI x1), (2, vI q11_1.1), (3, vI q16_2.1)] [vI q25_3.1, .ref (kB K + 24)] (Zw (kE K) lt b c ms q25_3.2 m P)
  refine r_callV (pc := 28) (q0 := 24) (ci := 4) (As := [vI q25_3.1]) (rest := []) (W' := fun q28_4 => (Zw (kE K) lt b c ms q28_4.2 m P)) (rv := fun q28_4 => some (vI q28_4.1)) X dX4_joinTwo_28 rfl (fun a ha => c_X4_pushOperand N lt b c ms q25_3.2 m P q25_3.1 K.1.2.1 K.2.2.1.1 (kE K) a ha) (fun a => Zw_d _ _ _ _ _ _ _ _) gd_X4_97 rfl (n := 1) (by decide) rfl (by decide) rfl rfl rfl (Nat.zero_le _) (fun q28_4 eq28_4 => ?_)
  show Rn K _ 0 0 _ 31 [(0, .ref (kB K + 24)), (1, vI x1), (2, vI q11_1.1), (3, vI q16_2.1)] [vI q28_4.1] (Zw (kE K) lt b c ms q28_4.2 m P)
  refine r_pop (pc := 31) X dX4_joinTwo_31 rfl ?_
  exact r_vret (pc := 32) X rfl rfl (by decide) dX4_joinTwo_32
theorem c_X4_joinTwo (N : Nat) (lt b c ms rd m : Bd) (P : PL) (x1 : Int) (l : Launch) (D : va_G) (E : ET) (a : Bd) (ha : f_X4_joinTwo rd x1 = some a) : Ct l yX4_joinTwo (Cond.code yX4_joinTwo cX4_joinTwo 4 none :: lw_g) ({ frames := 1, cells := 0, slots := 0, locals := 24 } : Room) D E [.ref (E.2.2.2 + 24), vI x1] (Zw E lt b c ms rd m P) (Zw E lt b c ms a m P) (none) :=
  ct_of (av := fun E => [.ref (E.2.2.2 + 24), vI x1]) (W0 := fun E => Zw E lt b c ms rd m P) (W1 := fun E (a : Bd) => Zw E lt b c ms a m P) (rw := fun E a => none) (by decide) rfl (fun E => Zw_d E lt b c ms rd m P) (fun E => by simp [lg_sl, z_cat, z_catR, z_catI, z_catL]) (fun K X => r_lv (by simp [lv_args, z_cat, z_catR, z_catI, z_catL]) (t_X4_joinTwo N lt b c ms rd m P x1 K X)) l D E a ha
abbrev Q_X4_joinPairs (K : KT) (lt b c ms rd m : Bd) (P : PL) : (Bd) → State → Prop := Qm K ({ frames := 2, cells := 0, slots := 0, locals := 47 } : Room) (fun a : Bd => Zw (kE K) lt b c ms a m P) (fun a => none)
set_option maxRecDepth 100000 in
set_option maxHeartbeats 4000000 in
theorem t_X4_joinPairs_L2 (N : Nat) (lt b c ms rd m : Bd) (P : PL) (K : KT) (X : Kok K cX4_joinPairs yX4_joinPairs.cls lw_g ({ frames := 2, cells := 0, slots := 0, locals := 47 } : Room) none 2) (k : Bd → Option (Bd)) (hk : ∀ (rd1 : Bd), Rn K (Q_X4_joinPairs K lt b c ms rd m P) 0 0 (k rd1) 28 [] [] (Zw (kE K) lt b c ms rd1 m P)) : ∀ (n : Nat) (x1 : Int) (rd1 : Bd), Rn K (Q_X4_joinPairs K lt b c ms rd m P) 0 0 (f_X4_joinPairs_L2 k n x1 rd1) 2 [(0, .ref (kB K + 24)), (1, vI x1)] [] (Zw (kE K) lt b c ms rd1 m P) := by
  intro n
  induction n with
  | zero =>
    intro x1 rd1
    rw [f_X4_joinPairs_L2]
    exact r_none
  | succ n ih =>
    intro x1 rd1
    rw [f_X4_joinPairs_L2]
    refine r_iload_n (pc := 2) X 1 dX4_joinPairs_2 rfl rfl ?_
    refine r_bipush (pc := 3) X 120 dX4_joinPairs_3 (by decide) ?_
    refine r_ck1 (fun h1 => ?_)
    refine r_icmp_ge (pc := 5) X h1 (by decide) dX4_joinPairs_5 (tgt := 28) (by decide) (fun h2 => ?_) (fun h2 => ?_)
    · refine r_sub [] rfl ?_
      exact hk rd1
    · refine r_aload_n (pc := 8) X 0 dX4_joinPairs_8 rfl rfl ?_
      refine r_callV (pc := 9) (q0 := 24) (ci := 4) (As := []) (rest := []) (W' := fun q9_3 => (Zw (kE K) lt b c ms rd1 m P)) (rv := fun q9_3 => some (vI q9_3)) X dX4_joinPairs_9 rfl (fun a ha => c_X4_topOperator N lt b c ms rd1 m P K.1.2.1 K.2.2.1.1 (kE K) a ha) (fun a => Zw_d _ _ _ _ _ _ _ _) gd_X4_116 rfl (n := 0) (by decide) rfl (by decide) rfl rfl rfl (Nat.zero_le _) (fun q9_3 eq9_3 => ?_)
      show Rn K _ 0 0 _ 12 [(0, .ref (kB K + 24)), (1, vI x1)] [vI q9_3] (Zw (kE K) lt b c ms rd1 m P)
      refine r_bipush (pc := 12) X 42 dX4_joinPairs_12 (by decide) ?_
      refine r_ck1 (fun h4 => ?_)
      refine r_icmp_ne (pc := 14) X h4 (by decide) dX4_joinPairs_14 (tgt := 28) (by decide) (fun h5 => ?_) (fun h5 => ?_)
      · refine r_sub [] rfl ?_
        exact hk rd1
      · refine r_aload_n (pc := 17) X 0 dX4_joinPairs_17 rfl rfl ?_
        refine r_iconst (pc := 18) X 5 dX4_joinPairs_18 (by decide) ?_
        refine r_callV (pc := 19) (q0 := 24) (ci := 4) (As := [vI 5]) (rest := []) (W' := fun q19_6 => (Zw (kE K) lt b c ms q19_6 m P)) (rv := fun q19_6 => none) X dX4_joinPairs_19 rfl (fun a ha => c_X4_joinTwo N lt b c ms rd1 m P 5 K.1.2.1 K.2.2.1.1 (kE K) a ha) (fun a => Zw_d _ _ _ _ _ _ _ _) gd_X4_119 rfl (n := 1) (by decide) rfl (by decide) rfl rfl rfl (Nat.zero_le _) (fun q19_6 eq19_6 => ?_)
        show Rn K _ 0 0 _ 22 [(0, .ref (kB K + 24)), (1, vI x1)] [] (Zw (kE K) lt b c ms q19_6 m P)
        refine r_iinc (pc := 22) (lv' := [(0, .ref (kB K + 24)), (1, vI (x1 + 1))]) X 1 [1, 0] dX4_joinPairs_22 rfl (by decide) rfl ?_
        refine r_goto (pc := 25) X dX4_joinPairs_25 (tgt := 2) (by decide) ?_
        exact ih (x1 + 1) q19_6
set_option maxRecDepth 100000 in
set_option maxHeartbeats 4000000 in
theorem t_X4_joinPairs (N : Nat) (lt b c ms rd m : Bd) (P : PL) (K : KT) (X : Kok K cX4_joinPairs yX4_joinPairs.cls lw_g ({ frames := 2, cells := 0, slots := 0, locals := 47 } : Room) none 2) : Rn K (Q_X4_joinPairs K lt b c ms rd m P) 0 0 (f_X4_joinPairs N rd) 0 [(0, .ref (kB K + 24))] [] (Zw (kE K) lt b c ms rd m P) := by
  unfold f_X4_joinPairs
  refine r_iconst (pc := 0) X 0 dX4_joinPairs_0 (by decide) ?_
  refine r_istore_n (pc := 1) (lv' := [(0, .ref (kB K + 24)), (1, vI 0)]) X [1, 0] dX4_joinPairs_1 rfl (by decide) rfl ?_
  refine t_X4_joinPairs_L2 N lt b c ms rd m P   K X _ ?_ N 0 rd
  intro rd_2
  exact r_vret (pc := 28) X rfl rfl (by decide) dX4_joinPairs_28
theorem c_X4_joinPairs (N : Nat) (lt b c ms rd m : Bd) (P : PL) (l : Launch) (D : va_G) (E : ET) (a : Bd) (ha : f_X4_joinPairs N rd = some a) : Ct l yX4_joinPairs (Cond.code yX4_joinPairs cX4_joinPairs 2 none :: lw_g) ({ frames := 2, cells := 0, slots := 0, locals := 47 } : Room) D E [.ref (E.2.2.2 + 24)] (Zw E lt b c ms rd m P) (Zw E lt b c ms a m P) (none) :=
  ct_of (av := fun E => [.ref (E.2.2.2 + 24)]) (W0 := fun E => Zw E lt b c ms rd m P) (W1 := fun E (a : Bd) => Zw E lt b c ms a m P) (rw := fun E a => none) (by decide) rfl (fun E => Zw_d E lt b c ms rd m P) (fun E => by simp [lg_sl, z_cat, z_catR, z_catI, z_catL]) (fun K X => r_lv (by simp [lv_args, z_cat, z_catR, z_catI, z_catL]) (t_X4_joinPairs N lt b c ms rd m P  K X)) l D E a ha
abbrev Q_X4_joinAll (K : KT) (lt b c ms rd m : Bd) (P : PL) : (Bd) → State → Prop := Qm K ({ frames := 2, cells := 0, slots := 0, locals := 47 } : Room) (fun a : Bd => Zw (kE K) lt b c ms a m P) (fun a => none)
set_option maxRecDepth 100000 in
set_option maxHeartbeats 4000000 in
theorem t_X4_joinAll_L7 (N : Nat) (lt b c ms rd m : Bd) (P : PL) (K : KT) (X : Kok K cX4_joinAll yX4_joinAll.cls lw_g ({ frames := 2, cells := 0, slots := 0, locals := 47 } : Room) none 3) (k : Bd → Option (Bd)) (hk : ∀ (rd1 : Bd), Rn K (Q_X4_joinAll K lt b c ms rd m P) 0 0 (k rd1) 52 [] [] (Zw (kE K) lt b c ms rd1 m P)) : ∀ (n : Nat) (x1 : Int) (x2 : Int) (rd1 : Bd), Rn K (Q_X4_joinAll K lt b c ms rd m P) 0 0 (f_X4_joinAll_L7 k n x1 x2 rd1) 7 [(0, .ref (kB K + 24)), (1, vI x1), (2, vI x2)] [] (Zw (kE K) lt b c ms rd1 m P) := by
  intro n
  induction n with
  | zero =>
    intro x1 x2 rd1
    rw [f_X4_joinAll_L7]
    exact r_none
  | succ n ih =>
    intro x1 x2 rd1
    rw [f_X4_joinAll_L7]
    refine r_iload_n (pc := 7) X 2 dX4_joinAll_7 rfl rfl ?_
    refine r_bipush (pc := 8) X 120 dX4_joinAll_8 (by decide) ?_
    refine r_ck1 (fun h2 => ?_)
    refine r_icmp_ge (pc := 10) X h2 (by decide) dX4_joinAll_10 (tgt := 52) (by decide) (fun h3 => ?_) (fun h3 => ?_)
    · refine r_sub [] rfl ?_
      exact hk rd1
    · refine r_iload_n (pc := 13) X 1 dX4_joinAll_13 rfl rfl ?_
      refine r_bipush (pc := 14) X 42 dX4_joinAll_14 (by decide) ?_
      refine r_jn (J := fun j25 => Rn K (Q_X4_joinAll K lt b c ms rd m P) 0 0 j25 25 [(0, .ref (kB K + 24)), (1, vI x1), (2, vI x2)] [] (Zw (kE K) lt b c ms rd1 m P)) ?_ (fun j25 hj25 => ?_)
      · skip
        refine r_aload_n (pc := 25) X 0 dX4_joinAll_25 rfl rfl ?_
        refine r_iload_n (pc := 26) X 1 dX4_joinAll_26 rfl rfl ?_
        refine r_bipush (pc := 27) X 42 dX4_joinAll_27 (by decide) ?_
        refine r_jn (J := fun j38 => ∀ (s1_38 : Int), Rn K (Q_X4_joinAll K lt b c ms rd m P) 0 0 (j38 s1_38) 38 [(0, .ref (kB K + 24)), (2, vI x2)] [vI s1_38, .ref (kB K + 24)] (Zw (kE K) lt b c ms rd1 m P)) ?_ (fun j38 hj38 => ?_)
        · intro s1_38
          refine r_callV (pc := 38) (q0 := 24) (ci := 4) (As := [vI s1_38]) (rest := []) (W' := fun q38_4 => (Zw (kE K) lt b c ms q38_4 m P)) (rv := fun q38_4 => none) X dX4_joinAll_38 rfl (fun a ha => c_X4_joinTwo N lt b c ms rd1 m P s1_38 K.1.2.1 K.2.2.1.1 (kE K) a ha) (fun a => Zw_d _ _ _ _ _ _ _ _) gd_X4_119 rfl (n := 1) (by decide) rfl (by decide) rfl rfl rfl (Nat.zero_le _) (fun q38_4 eq38_4 => ?_)
          show Rn K _ 0 0 _ 41 [(0, .ref (kB K + 24)), (2, vI x2)] [] (Zw (kE K) lt b c ms q38_4 m P)
          refine r_aload_n (pc := 41) X 0 dX4_joinAll_41 rfl rfl ?_
          refine r_callV (pc := 42) (q0 := 24) (ci := 4) (As := []) (rest := []) (W' := fun q42_5 => (Zw (kE K) lt b c ms q38_4 m P)) (rv := fun q42_5 => some (vI q42_5)) X dX4_joinAll_42 rfl (fun a ha => c_X4_topOperator N lt b c ms q38_4 m P K.1.2.1 K.2.2.1.1 (kE K) a ha) (fun a => Zw_d _ _ _ _ _ _ _ _) gd_X4_116 rfl (n := 0) (by decide) rfl (by decide) rfl rfl rfl (Nat.zero_le _) (fun q42_5 eq42_5 => ?_)
          show Rn K _ 0 0 _ 45 [(0, .ref (kB K + 24)), (2, vI x2)] [vI q42_5] (Zw (kE K) lt b c ms q38_4 m P)
          refine r_istore_n (pc := 45) (lv' := [(0, .ref (kB K + 24)), (1, vI q42_5), (2, vI x2)]) X [1, 0, 2] dX4_joinAll_45 rfl (by decide) rfl ?_
          refine r_iinc (pc := 46) (lv' := [(0, .ref (kB K + 24)), (1, vI q42_5), (2, vI (x2 + 1))]) X 2 [1, 2, 0] dX4_joinAll_46 rfl (by decide) rfl ?_
          refine r_goto (pc := 49) X dX4_joinAll_49 (tgt := 7) (by decide) ?_
          exact ih q42_5 (x2 + 1) q38_4
        refine r_ck1 (fun h6 => ?_)
        refine r_icmp_ne (pc := 29) X h6 (by decide) dX4_joinAll_29 (tgt := 36) (by decide) (fun h7 => ?_) (fun h7 => ?_)
        · refine r_bipush (pc := 36) X 6 dX4_joinAll_36 (by decide) ?_
          refine r_sub [0, 2] rfl ?_
          exact hj38 6
        · refine r_iconst (pc := 32) X 5 dX4_joinAll_32 (by decide) ?_
          refine r_goto (pc := 33) X dX4_joinAll_33 (tgt := 38) (by decide) ?_
          refine r_sub [0, 2] rfl ?_
          exact hj38 5
      refine r_ck1 (fun h8 => ?_)
      refine r_icmp_eq (pc := 16) X h8 (by decide) dX4_joinAll_16 (tgt := 25) (by decide) (fun h9 => ?_) (fun h9 => ?_)
      · exact hj25
      · refine r_iload_n (pc := 19) X 1 dX4_joinAll_19 rfl rfl ?_
        refine r_bipush (pc := 20) X 62 dX4_joinAll_20 (by decide) ?_
        refine r_icmp_ne (pc := 22) X h8 (by decide) dX4_joinAll_22 (tgt := 52) (by decide) (fun h10 => ?_) (fun h10 => ?_)
        · refine r_sub [] rfl ?_
          exact hk rd1
        · exact hj25
set_option maxRecDepth 100000 in
set_option maxHeartbeats 4000000 in
theorem t_X4_joinAll (N : Nat) (lt b c ms rd m : Bd) (P : PL) (K : KT) (X : Kok K cX4_joinAll yX4_joinAll.cls lw_g ({ frames := 2, cells := 0, slots := 0, locals := 47 } : Room) none 3) : Rn K (Q_X4_joinAll K lt b c ms rd m P) 0 0 (f_X4_joinAll N rd) 0 [(0, .ref (kB K + 24))] [] (Zw (kE K) lt b c ms rd m P) := by
  unfold f_X4_joinAll
  refine r_aload_n (pc := 0) X 0 dX4_joinAll_0 rfl rfl ?_
  refine r_callV (pc := 1) (q0 := 24) (ci := 4) (As := []) (rest := []) (W' := fun q1_1 => (Zw (kE K) lt b c ms rd m P)) (rv := fun q1_1 => some (vI q1_1)) X dX4_joinAll_1 rfl (fun a ha => c_X4_topOperator N lt b c ms rd m P K.1.2.1 K.2.2.1.1 (kE K) a ha) (fun a => Zw_d _ _ _ _ _ _ _ _) gd_X4_116 rfl (n := 0) (by decide) rfl (by decide) rfl rfl rfl (Nat.zero_le _) (fun q1_1 eq1_1 => ?_)
  show Rn K _ 0 0 _ 4 [(0, .ref (kB K + 24))] [vI q1_1] (Zw (kE K) lt b c ms rd m P)
  refine r_istore_n (pc := 4) (lv' := [(0, .ref (kB K + 24)), (1, vI q1_1)]) X [1, 0] dX4_joinAll_4 rfl (by decide) rfl ?_
  refine r_iconst (pc := 5) X 0 dX4_joinAll_5 (by decide) ?_
  refine r_istore_n (pc := 6) (lv' := [(0, .ref (kB K + 24)), (1, vI q1_1), (2, vI 0)]) X [1, 2, 0] dX4_joinAll_6 rfl (by decide) rfl ?_
  refine t_X4_joinAll_L7 N lt b c ms rd m P   K X _ ?_ N q1_1 0 rd
  intro rd_7
  exact r_vret (pc := 52) X rfl rfl (by decide) dX4_joinAll_52
theorem c_X4_joinAll (N : Nat) (lt b c ms rd m : Bd) (P : PL) (l : Launch) (D : va_G) (E : ET) (a : Bd) (ha : f_X4_joinAll N rd = some a) : Ct l yX4_joinAll (Cond.code yX4_joinAll cX4_joinAll 3 none :: lw_g) ({ frames := 2, cells := 0, slots := 0, locals := 47 } : Room) D E [.ref (E.2.2.2 + 24)] (Zw E lt b c ms rd m P) (Zw E lt b c ms a m P) (none) :=
  ct_of (av := fun E => [.ref (E.2.2.2 + 24)]) (W0 := fun E => Zw E lt b c ms rd m P) (W1 := fun E (a : Bd) => Zw E lt b c ms a m P) (rw := fun E a => none) (by decide) rfl (fun E => Zw_d E lt b c ms rd m P) (fun E => by simp [lg_sl, z_cat, z_catR, z_catI, z_catL]) (fun K X => r_lv (by simp [lv_args, z_cat, z_catR, z_catI, z_catL]) (t_X4_joinAll N lt b c ms rd m P  K X)) l D E a ha
abbrev Q_X4_popOperator (K : KT) (lt b c ms rd m : Bd) (P : PL) : (Int × Bd) → State → Prop := Qm K ({ frames := 1, cells := 0, slots := 0, locals := 20 } : Room) (fun a : Int × Bd => Zw (kE K) lt b c ms a.2 m P) (fun a => some (vI a.1))
set_option maxRecDepth 100000 in
set_option maxHeartbeats 4000000 in
theorem t_X4_popOperator (N : Nat) (lt b c ms rd m : Bd) (P : PL) (x1 : Int) (K : KT) (X : Kok K cX4_popOperator yX4_popOperator.cls lw_g ({ frames := 1, cells := 0, slots := 0, locals := 20 } : Room) (some .boolean) 2) : Rn K (Q_X4_popOperator K lt b c ms rd m P) 0 0 (f_X4_popOperator rd x1) 0 [(0, .ref (kB K + 24)), (1, vI x1)] [] (Zw (kE K) lt b c ms rd m P) := by
  unfold f_X4_popOperator
  refine r_aload_n (pc := 0) X 0 dX4_popOperator_0 rfl rfl ?_
  refine r_callV (pc := 1) (q0 := 24) (ci := 4) (As := []) (rest := []) (W' := fun q1_1 => (Zw (kE K) lt b c ms rd m P)) (rv := fun q1_1 => some (vI q1_1)) X dX4_popOperator_1 rfl (fun a ha => c_X4_topOperator N lt b c ms rd m P K.1.2.1 K.2.2.1.1 (kE K) a ha) (fun a => Zw_d _ _ _ _ _ _ _ _) gd_X4_116 rfl (n := 0) (by decide) rfl (by decide) rfl rfl rfl (Nat.zero_le _) (fun q1_1 eq1_1 => ?_)
  show Rn K _ 0 0 _ 4 [(0, .ref (kB K + 24)), (1, vI x1)] [vI q1_1] (Zw (kE K) lt b c ms rd m P)
  refine r_iload_n (pc := 4) X 1 dX4_popOperator_4 rfl rfl ?_
  refine r_ck1 (fun h2 => ?_)
  refine r_ck1 (fun h3 => ?_)
  refine r_icmp_eq (pc := 5) X h2 h3 dX4_popOperator_5 (tgt := 10) (by decide) (fun h4 => ?_) (fun h4 => ?_)
  · refine r_aload_n (pc := 10) X 0 dX4_popOperator_10 rfl rfl ?_
    refine r_dup (pc := 11) X dX4_popOperator_11 rfl ?_
    refine r_get (pc := 12) (v := vI (rd 9 0)) X 24 9 inX4 rfl rfl (by decide) tf_X4_55 rfl dX4_popOperator_12 ?_
    refine r_iconst (pc := 15) X 1 dX4_popOperator_15 (by decide) ?_
    refine r_isub (pc := 16) X dX4_popOperator_16 ?_
    refine r_put (pc := 17) (ws' := (Zw (kE K) lt b c ms (bs0 rd 9 ((rd 9 0) - 1)) m P)) X 24 9 inX4 tyX4 tyX4_ok nmX4 rfl rfl (by decide) tf_X4_55 rfl (tyX4_ok 9 (by decide)) rfl rfl (Nat.le_of_ble_eq_true rfl) rfl dX4_popOperator_17 ?_
    refine r_iconst (pc := 20) X 1 dX4_popOperator_20 (by decide) ?_
    exact r_zret (pc := 21) X (by decide) rfl rfl (by decide) dX4_popOperator_21
  · refine r_iconst (pc := 8) X 0 dX4_popOperator_8 (by decide) ?_
    exact r_zret (pc := 9) X (by decide) rfl rfl (by decide) dX4_popOperator_9
theorem c_X4_popOperator (N : Nat) (lt b c ms rd m : Bd) (P : PL) (x1 : Int) (l : Launch) (D : va_G) (E : ET) (a : Int × Bd) (ha : f_X4_popOperator rd x1 = some a) : Ct l yX4_popOperator (Cond.code yX4_popOperator cX4_popOperator 2 (some .boolean) :: lw_g) ({ frames := 1, cells := 0, slots := 0, locals := 20 } : Room) D E [.ref (E.2.2.2 + 24), vI x1] (Zw E lt b c ms rd m P) (Zw E lt b c ms a.2 m P) (some (vI a.1)) :=
  ct_of (av := fun E => [.ref (E.2.2.2 + 24), vI x1]) (W0 := fun E => Zw E lt b c ms rd m P) (W1 := fun E (a : Int × Bd) => Zw E lt b c ms a.2 m P) (rw := fun E a => some (vI a.1)) (by decide) rfl (fun E => Zw_d E lt b c ms rd m P) (fun E => by simp [lg_sl, z_cat, z_catR, z_catI, z_catL]) (fun K X => r_lv (by simp [lv_args, z_cat, z_catR, z_catI, z_catL]) (t_X4_popOperator N lt b c ms rd m P x1 K X)) l D E a ha
abbrev Q_X4_endEquation (K : KT) (lt b c ms rd m : Bd) (P : PL) : (Int × Bd) → State → Prop := Qm K ({ frames := 1, cells := 0, slots := 0, locals := 20 } : Room) (fun a : Int × Bd => Zw (kE K) lt b c ms a.2 m P) (fun a => some (vI a.1))
set_option maxRecDepth 100000 in
set_option maxHeartbeats 4000000 in
theorem t_X4_endEquation (N : Nat) (lt b c ms rd m : Bd) (P : PL) (K : KT) (X : Kok K cX4_endEquation yX4_endEquation.cls lw_g ({ frames := 1, cells := 0, slots := 0, locals := 20 } : Room) (some .boolean) 1) : Rn K (Q_X4_endEquation K lt b c ms rd m P) 0 0 (f_X4_endEquation rd) 0 [(0, .ref (kB K + 24))] [] (Zw (kE K) lt b c ms rd m P) := by
  unfold f_X4_endEquation
  refine r_aload_n (pc := 0) X 0 dX4_endEquation_0 rfl rfl ?_
  refine r_get (pc := 1) (v := vI (rd 9 0)) X 24 9 inX4 rfl rfl (by decide) tf_X4_55 rfl dX4_endEquation_1 ?_
  refine r_ck1 (fun h1 => ?_)
  refine r_ifne (pc := 4) X h1 dX4_endEquation_4 (tgt := 15) (by decide) (fun h2 => ?_) (fun h2 => ?_)
  · refine r_iconst (pc := 15) X 0 dX4_endEquation_15 (by decide) ?_
    exact r_zret (pc := 16) X (by decide) rfl rfl (by decide) dX4_endEquation_16
  · refine r_aload_n (pc := 7) X 0 dX4_endEquation_7 rfl rfl ?_
    refine r_get (pc := 8) (v := vI (rd 7 0)) X 24 7 inX4 rfl rfl (by decide) tf_X4_52 rfl dX4_endEquation_8 ?_
    refine r_iconst (pc := 11) X 1 dX4_endEquation_11 (by decide) ?_
    refine r_ck1 (fun h3 => ?_)
    refine r_icmp_eq (pc := 12) X h3 (by decide) dX4_endEquation_12 (tgt := 17) (by decide) (fun h4 => ?_) (fun h4 => ?_)
    · refine r_aload_n (pc := 17) X 0 dX4_endEquation_17 rfl rfl ?_
      refine r_get (pc := 18) (v := .ref (kB K + 31)) X 24 12 inX4 rfl rfl (by decide) tf_X4_30 rfl dX4_endEquation_18 ?_
      refine r_aload_n (pc := 21) X 0 dX4_endEquation_21 rfl rfl ?_
      refine r_get (pc := 22) (v := vI (rd 1 0)) X 24 1 inX4 rfl rfl (by decide) tf_X4_87 rfl dX4_endEquation_22 ?_
      refine r_aload_n (pc := 25) X 0 dX4_endEquation_25 rfl rfl ?_
      refine r_callV (pc := 26) (q0 := 24) (ci := 4) (As := []) (rest := [vI (rd 1 0), .ref (kB K + 31)]) (W' := fun q26_5 => (Zw (kE K) lt b c ms q26_5.2 m P)) (rv := fun q26_5 => some (vI q26_5.1)) X dX4_endEquation_26 rfl (fun a ha => c_X4_popOperand N lt b c ms rd m P K.1.2.1 K.2.2.1.1 (kE K) a ha) (fun a => Zw_d _ _ _ _ _ _ _ _) gd_X4_109 rfl (n := 0) (by decide) rfl (by decide) rfl rfl rfl (by simp [z_cat, z_catR, z_catI, z_catL]) (fun q26_5 eq26_5 => ?_)
      show Rn K _ 0 0 _ 29 [(0, .ref (kB K + 24))] [vI q26_5.1, vI (rd 1 0), .ref (kB K + 31)] (Zw (kE K) lt b c ms q26_5.2 m P)
      refine r_ckA (fun h6 => ?_)
      refine r_iast (pc := 29) (f := q26_5.2 12) (ws' := (Zw (kE K) lt b c ms (bS q26_5.2 12 (aS (q26_5.2 12) (rd 1 0) q26_5.1)) m P)) X 31 h6 zl_8 rfl rfl dX4_endEquation_29 ?_
      refine r_aload_n (pc := 30) X 0 dX4_endEquation_30 rfl rfl ?_
      refine r_iconst (pc := 31) X 0 dX4_endEquation_31 (by decide) ?_
      refine r_put (pc := 32) (ws' := (Zw (kE K) lt b c ms (bS (bs0 q26_5.2 0 0) 12 (aS (q26_5.2 12) (rd 1 0) q26_5.1)) m P)) X 24 0 inX4 tyX4 tyX4_ok nmX4 rfl rfl (by decide) tf_X4_46 rfl (tyX4_ok 0 (by decide)) rfl rfl (Nat.le_of_ble_eq_true rfl) rfl dX4_endEquation_32 ?_
      refine r_iconst (pc := 35) X 1 dX4_endEquation_35 (by decide) ?_
      exact r_zret (pc := 36) X (by decide) rfl rfl (by decide) dX4_endEquation_36
    · refine r_iconst (pc := 15) X 0 dX4_endEquation_15 (by decide) ?_
      exact r_zret (pc := 16) X (by decide) rfl rfl (by decide) dX4_endEquation_16
theorem c_X4_endEquation (N : Nat) (lt b c ms rd m : Bd) (P : PL) (l : Launch) (D : va_G) (E : ET) (a : Int × Bd) (ha : f_X4_endEquation rd = some a) : Ct l yX4_endEquation (Cond.code yX4_endEquation cX4_endEquation 1 (some .boolean) :: lw_g) ({ frames := 1, cells := 0, slots := 0, locals := 20 } : Room) D E [.ref (E.2.2.2 + 24)] (Zw E lt b c ms rd m P) (Zw E lt b c ms a.2 m P) (some (vI a.1)) :=
  ct_of (av := fun E => [.ref (E.2.2.2 + 24)]) (W0 := fun E => Zw E lt b c ms rd m P) (W1 := fun E (a : Int × Bd) => Zw E lt b c ms a.2 m P) (rw := fun E a => some (vI a.1)) (by decide) rfl (fun E => Zw_d E lt b c ms rd m P) (fun E => by simp [lg_sl, z_cat, z_catR, z_catI, z_catL]) (fun K X => r_lv (by simp [lv_args, z_cat, z_catR, z_catI, z_catL]) (t_X4_endEquation N lt b c ms rd m P  K X)) l D E a ha
abbrev Q_X4_takesBehind (K : KT) (lt b c ms rd m : Bd) (P : PL) : (Int × Bd) → State → Prop := Qm K ({ frames := 3, cells := 0, slots := 0, locals := 69 } : Room) (fun a : Int × Bd => Zw (kE K) lt b c ms a.2 m P) (fun a => some (vI a.1))
set_option maxRecDepth 100000 in
set_option maxHeartbeats 4000000 in
theorem t_X4_takesBehind (N : Nat) (lt b c ms rd m : Bd) (P : PL) (x1 : Int) (K : KT) (X : Kok K cX4_takesBehind yX4_takesBehind.cls lw_g ({ frames := 3, cells := 0, slots := 0, locals := 69 } : Room) (some .boolean) 2) : Rn K (Q_X4_takesBehind K lt b c ms rd m P) 0 0 (f_X4_takesBehind N rd x1) 0 [(0, .ref (kB K + 24)), (1, vI x1)] [] (Zw (kE K) lt b c ms rd m P) := by
  unfold f_X4_takesBehind
  refine r_iload_n (pc := 0) X 1 dX4_takesBehind_0 rfl rfl ?_
  refine r_ck1 (fun h1 => ?_)
  refine r_case (fun h3 => ?_) (fun h3 => ?_)
  · refine r_lookup (pc := 1) X h1 dX4_takesBehind_1 (by decide) (off := 66) (by rw [h3]; decide) (tgt := 67) (by decide) ?_
    refine r_aload_n (pc := 67) X 0 dX4_takesBehind_67 rfl rfl ?_
    refine r_callV (pc := 68) (q0 := 24) (ci := 4) (As := []) (rest := []) (W' := fun q68_4 => (Zw (kE K) lt b c ms q68_4 m P)) (rv := fun q68_4 => none) X dX4_takesBehind_68 rfl (fun a ha => c_X4_joinAll N lt b c ms rd m P K.1.2.1 K.2.2.1.1 (kE K) a ha) (fun a => Zw_d _ _ _ _ _ _ _ _) gd_X4_103 rfl (n := 0) (by decide) rfl (by decide) rfl rfl rfl (Nat.zero_le _) (fun q68_4 eq68_4 => ?_)
    show Rn K _ 0 0 _ 71 [(0, .ref (kB K + 24)), (1, vI x1)] [] (Zw (kE K) lt b c ms q68_4 m P)
    refine r_aload_n (pc := 71) X 0 dX4_takesBehind_71 rfl rfl ?_
    refine r_bipush (pc := 72) X 40 dX4_takesBehind_72 (by decide) ?_
    refine r_callV (pc := 74) (q0 := 24) (ci := 4) (As := [vI 40]) (rest := []) (W' := fun q74_5 => (Zw (kE K) lt b c ms q74_5.2 m P)) (rv := fun q74_5 => some (vI q74_5.1)) X dX4_takesBehind_74 rfl (fun a ha => c_X4_popOperator N lt b c ms q68_4 m P 40 K.1.2.1 K.2.2.1.1 (kE K) a ha) (fun a => Zw_d _ _ _ _ _ _ _ _) gd_X4_106 rfl (n := 1) (by decide) rfl (by decide) rfl rfl rfl (Nat.zero_le _) (fun q74_5 eq74_5 => ?_)
    show Rn K _ 0 0 _ 77 [(0, .ref (kB K + 24)), (1, vI x1)] [vI q74_5.1] (Zw (kE K) lt b c ms q74_5.2 m P)
    refine r_ckB (fun h6 => ?_)
    exact r_zret (pc := 77) X h6 rfl rfl (by decide) dX4_takesBehind_77
  refine r_case (fun h7 => ?_) (fun h7 => ?_)
  · refine r_lookup (pc := 1) X h1 dX4_takesBehind_1 (by decide) (off := 51) (by rw [h7]; decide) (tgt := 52) (by decide) ?_
    refine r_aload_n (pc := 52) X 0 dX4_takesBehind_52 rfl rfl ?_
    refine r_callV (pc := 53) (q0 := 24) (ci := 4) (As := []) (rest := []) (W' := fun q53_8 => (Zw (kE K) lt b c ms q53_8 m P)) (rv := fun q53_8 => none) X dX4_takesBehind_53 rfl (fun a ha => c_X4_joinPairs N lt b c ms rd m P K.1.2.1 K.2.2.1.1 (kE K) a ha) (fun a => Zw_d _ _ _ _ _ _ _ _) gd_X4_100 rfl (n := 0) (by decide) rfl (by decide) rfl rfl rfl (Nat.zero_le _) (fun q53_8 eq53_8 => ?_)
    show Rn K _ 0 0 _ 56 [(0, .ref (kB K + 24)), (1, vI x1)] [] (Zw (kE K) lt b c ms q53_8 m P)
    refine r_aload_n (pc := 56) X 0 dX4_takesBehind_56 rfl rfl ?_
    refine r_iconst (pc := 57) X 2 dX4_takesBehind_57 (by decide) ?_
    refine r_put (pc := 58) (ws' := (Zw (kE K) lt b c ms (bs0 q53_8 0 2) m P)) X 24 0 inX4 tyX4 tyX4_ok nmX4 rfl rfl (by decide) tf_X4_46 rfl (tyX4_ok 0 (by decide)) rfl rfl (Nat.le_of_ble_eq_true rfl) rfl dX4_takesBehind_58 ?_
    refine r_aload_n (pc := 61) X 0 dX4_takesBehind_61 rfl rfl ?_
    refine r_iload_n (pc := 62) X 1 dX4_takesBehind_62 rfl rfl ?_
    refine r_callV (pc := 63) (q0 := 24) (ci := 4) (As := [vI x1]) (rest := []) (W' := fun q63_9 => (Zw (kE K) lt b c ms q63_9.2 m P)) (rv := fun q63_9 => some (vI q63_9.1)) X dX4_takesBehind_63 rfl (fun a ha => c_X4_pushOperator N lt b c ms (bs0 q53_8 0 2) m P x1 K.1.2.1 K.2.2.1.1 (kE K) a ha) (fun a => Zw_d _ _ _ _ _ _ _ _) gd_X4_90 rfl (n := 1) (by decide) rfl (by decide) rfl rfl rfl (Nat.zero_le _) (fun q63_9 eq63_9 => ?_)
    show Rn K _ 0 0 _ 66 [(0, .ref (kB K + 24)), (1, vI x1)] [vI q63_9.1] (Zw (kE K) lt b c ms q63_9.2 m P)
    refine r_ckB (fun h10 => ?_)
    exact r_zret (pc := 66) X h10 rfl rfl (by decide) dX4_takesBehind_66
  refine r_case (fun h11 => ?_) (fun h11 => ?_)
  · refine r_lookup (pc := 1) X h1 dX4_takesBehind_1 (by decide) (off := 113) (by rw [h11]; decide) (tgt := 114) (by decide) ?_
    refine r_aload_n (pc := 114) X 0 dX4_takesBehind_114 rfl rfl ?_
    refine r_callV (pc := 115) (q0 := 24) (ci := 4) (As := []) (rest := []) (W' := fun q115_12 => (Zw (kE K) lt b c ms q115_12 m P)) (rv := fun q115_12 => none) X dX4_takesBehind_115 rfl (fun a ha => c_X4_joinAll N lt b c ms rd m P K.1.2.1 K.2.2.1.1 (kE K) a ha) (fun a => Zw_d _ _ _ _ _ _ _ _) gd_X4_103 rfl (n := 0) (by decide) rfl (by decide) rfl rfl rfl (Nat.zero_le _) (fun q115_12 eq115_12 => ?_)
    show Rn K _ 0 0 _ 118 [(0, .ref (kB K + 24)), (1, vI x1)] [] (Zw (kE K) lt b c ms q115_12 m P)
    refine r_aload_n (pc := 118) X 0 dX4_takesBehind_118 rfl rfl ?_
    refine r_callV (pc := 119) (q0 := 24) (ci := 4) (As := []) (rest := []) (W' := fun q119_13 => (Zw (kE K) lt b c ms q119_13.2 m P)) (rv := fun q119_13 => some (vI q119_13.1)) X dX4_takesBehind_119 rfl (fun a ha => c_X4_endEquation N lt b c ms q115_12 m P K.1.2.1 K.2.2.1.1 (kE K) a ha) (fun a => Zw_d _ _ _ _ _ _ _ _) gd_X4_112 rfl (n := 0) (by decide) rfl (by decide) rfl rfl rfl (Nat.zero_le _) (fun q119_13 eq119_13 => ?_)
    show Rn K _ 0 0 _ 122 [(0, .ref (kB K + 24)), (1, vI x1)] [vI q119_13.1] (Zw (kE K) lt b c ms q119_13.2 m P)
    refine r_ckB (fun h14 => ?_)
    exact r_zret (pc := 122) X h14 rfl rfl (by decide) dX4_takesBehind_122
  refine r_case (fun h15 => ?_) (fun h15 => ?_)
  · refine r_lookup (pc := 1) X h1 dX4_takesBehind_1 (by decide) (off := 51) (by rw [h15]; decide) (tgt := 52) (by decide) ?_
    refine r_aload_n (pc := 52) X 0 dX4_takesBehind_52 rfl rfl ?_
    refine r_callV (pc := 53) (q0 := 24) (ci := 4) (As := []) (rest := []) (W' := fun q53_16 => (Zw (kE K) lt b c ms q53_16 m P)) (rv := fun q53_16 => none) X dX4_takesBehind_53 rfl (fun a ha => c_X4_joinPairs N lt b c ms rd m P K.1.2.1 K.2.2.1.1 (kE K) a ha) (fun a => Zw_d _ _ _ _ _ _ _ _) gd_X4_100 rfl (n := 0) (by decide) rfl (by decide) rfl rfl rfl (Nat.zero_le _) (fun q53_16 eq53_16 => ?_)
    show Rn K _ 0 0 _ 56 [(0, .ref (kB K + 24)), (1, vI x1)] [] (Zw (kE K) lt b c ms q53_16 m P)
    refine r_aload_n (pc := 56) X 0 dX4_takesBehind_56 rfl rfl ?_
    refine r_iconst (pc := 57) X 2 dX4_takesBehind_57 (by decide) ?_
    refine r_put (pc := 58) (ws' := (Zw (kE K) lt b c ms (bs0 q53_16 0 2) m P)) X 24 0 inX4 tyX4 tyX4_ok nmX4 rfl rfl (by decide) tf_X4_46 rfl (tyX4_ok 0 (by decide)) rfl rfl (Nat.le_of_ble_eq_true rfl) rfl dX4_takesBehind_58 ?_
    refine r_aload_n (pc := 61) X 0 dX4_takesBehind_61 rfl rfl ?_
    refine r_iload_n (pc := 62) X 1 dX4_takesBehind_62 rfl rfl ?_
    refine r_callV (pc := 63) (q0 := 24) (ci := 4) (As := [vI x1]) (rest := []) (W' := fun q63_17 => (Zw (kE K) lt b c ms q63_17.2 m P)) (rv := fun q63_17 => some (vI q63_17.1)) X dX4_takesBehind_63 rfl (fun a ha => c_X4_pushOperator N lt b c ms (bs0 q53_16 0 2) m P x1 K.1.2.1 K.2.2.1.1 (kE K) a ha) (fun a => Zw_d _ _ _ _ _ _ _ _) gd_X4_90 rfl (n := 1) (by decide) rfl (by decide) rfl rfl rfl (Nat.zero_le _) (fun q63_17 eq63_17 => ?_)
    show Rn K _ 0 0 _ 66 [(0, .ref (kB K + 24)), (1, vI x1)] [vI q63_17.1] (Zw (kE K) lt b c ms q63_17.2 m P)
    refine r_ckB (fun h18 => ?_)
    exact r_zret (pc := 66) X h18 rfl rfl (by decide) dX4_takesBehind_66
  refine r_case (fun h19 => ?_) (fun h19 => ?_)
  · refine r_lookup (pc := 1) X h1 dX4_takesBehind_1 (by decide) (off := 77) (by rw [h19]; decide) (tgt := 78) (by decide) ?_
    refine r_aload_n (pc := 78) X 0 dX4_takesBehind_78 rfl rfl ?_
    refine r_callV (pc := 79) (q0 := 24) (ci := 4) (As := []) (rest := []) (W' := fun q79_20 => (Zw (kE K) lt b c ms q79_20 m P)) (rv := fun q79_20 => none) X dX4_takesBehind_79 rfl (fun a ha => c_X4_joinAll N lt b c ms rd m P K.1.2.1 K.2.2.1.1 (kE K) a ha) (fun a => Zw_d _ _ _ _ _ _ _ _) gd_X4_103 rfl (n := 0) (by decide) rfl (by decide) rfl rfl rfl (Nat.zero_le _) (fun q79_20 eq79_20 => ?_)
    show Rn K _ 0 0 _ 82 [(0, .ref (kB K + 24)), (1, vI x1)] [] (Zw (kE K) lt b c ms q79_20 m P)
    refine r_aload_n (pc := 82) X 0 dX4_takesBehind_82 rfl rfl ?_
    refine r_bipush (pc := 83) X 91 dX4_takesBehind_83 (by decide) ?_
    refine r_callV (pc := 85) (q0 := 24) (ci := 4) (As := [vI 91]) (rest := []) (W' := fun q85_21 => (Zw (kE K) lt b c ms q85_21.2 m P)) (rv := fun q85_21 => some (vI q85_21.1)) X dX4_takesBehind_85 rfl (fun a ha => c_X4_popOperator N lt b c ms q79_20 m P 91 K.1.2.1 K.2.2.1.1 (kE K) a ha) (fun a => Zw_d _ _ _ _ _ _ _ _) gd_X4_106 rfl (n := 1) (by decide) rfl (by decide) rfl rfl rfl (Nat.zero_le _) (fun q85_21 eq85_21 => ?_)
    show Rn K _ 0 0 _ 88 [(0, .ref (kB K + 24)), (1, vI x1)] [vI q85_21.1] (Zw (kE K) lt b c ms q85_21.2 m P)
    refine r_ck1 (fun h22 => ?_)
    refine r_ifeq (pc := 88) X h22 dX4_takesBehind_88 (tgt := 112) (by decide) (fun h23 => ?_) (fun h23 => ?_)
    · refine r_iconst (pc := 112) X 0 dX4_takesBehind_112 (by decide) ?_
      exact r_zret (pc := 113) X (by decide) rfl rfl (by decide) dX4_takesBehind_113
    · refine r_aload_n (pc := 91) X 0 dX4_takesBehind_91 rfl rfl ?_
      refine r_aload_n (pc := 92) X 0 dX4_takesBehind_92 rfl rfl ?_
      refine r_iconst (pc := 93) X 4 dX4_takesBehind_93 (by decide) ?_
      refine r_aload_n (pc := 94) X 0 dX4_takesBehind_94 rfl rfl ?_
      refine r_callV (pc := 95) (q0 := 24) (ci := 4) (As := []) (rest := [vI 4, .ref (kB K + 24), .ref (kB K + 24)]) (W' := fun q95_24 => (Zw (kE K) lt b c ms q95_24.2 m P)) (rv := fun q95_24 => some (vI q95_24.1)) X dX4_takesBehind_95 rfl (fun a ha => c_X4_popOperand N lt b c ms q85_21.2 m P K.1.2.1 K.2.2.1.1 (kE K) a ha) (fun a => Zw_d _ _ _ _ _ _ _ _) gd_X4_109 rfl (n := 0) (by decide) rfl (by decide) rfl rfl rfl (by simp [z_cat, z_catR, z_catI, z_catL]) (fun q95_24 eq95_24 => ?_)
      show Rn K _ 0 0 _ 98 [(0, .ref (kB K + 24)), (1, vI x1)] [vI q95_24.1, vI 4, .ref (kB K + 24), .ref (kB K + 24)] (Zw (kE K) lt b c ms q95_24.2 m P)
      refine r_iconst (pc := 98) X 0 dX4_takesBehind_98 (by decide) ?_
      refine r_callV (pc := 99) (q0 := 24) (ci := 4) (As := [vI 4, vI q95_24.1, vI 0]) (rest := [.ref (kB K + 24)]) (W' := fun q99_25 => (Zw (kE K) lt b c ms q99_25.2 m P)) (rv := fun q99_25 => some (vI q99_25.1)) X dX4_takesBehind_99 rfl (fun a ha => c_X4_newNode N lt b c ms q95_24.2 m P 4 q95_24.1 0 K.1.2.1 K.2.2.1.1 (kE K) a ha) (fun a => Zw_d _ _ _ _ _ _ _ _) gd_X4_93 rfl (n := 3) (by decide) rfl (by decide) rfl rfl rfl (by simp [z_cat, z_catR, z_catI, z_catL]) (fun q99_25 eq99_25 => ?_)
      show Rn K _ 0 0 _ 102 [(0, .ref (kB K + 24)), (1, vI x1)] [vI q99_25.1, .ref (kB K + 24)] (Zw (kE K) lt b c ms q99_25.2 m P)
      refine r_callV (pc := 102) (q0 := 24) (ci := 4) (As := [vI q99_25.1]) (rest := []) (W' := fun q102_26 => (Zw (kE K) lt b c ms q102_26.2 m P)) (rv := fun q102_26 => some (vI q102_26.1)) X dX4_takesBehind_102 rfl (fun a ha => c_X4_pushOperand N lt b c ms q99_25.2 m P q99_25.1 K.1.2.1 K.2.2.1.1 (kE K) a ha) (fun a => Zw_d _ _ _ _ _ _ _ _) gd_X4_97 rfl (n := 1) (by decide) rfl (by decide) rfl rfl rfl (Nat.zero_le _) (fun q102_26 eq102_26 => ?_)
      show Rn K _ 0 0 _ 105 [(0, .ref (kB K + 24)), (1, vI x1)] [vI q102_26.1] (Zw (kE K) lt b c ms q102_26.2 m P)
      refine r_ck1 (fun h27 => ?_)
      refine r_ifeq (pc := 105) X h27 dX4_takesBehind_105 (tgt := 112) (by decide) (fun h28 => ?_) (fun h28 => ?_)
      · refine r_iconst (pc := 112) X 0 dX4_takesBehind_112 (by decide) ?_
        exact r_zret (pc := 113) X (by decide) rfl rfl (by decide) dX4_takesBehind_113
      · refine r_iconst (pc := 108) X 1 dX4_takesBehind_108 (by decide) ?_
        refine r_goto (pc := 109) X dX4_takesBehind_109 (tgt := 113) (by decide) ?_
        exact r_zret (pc := 113) X (by decide) rfl rfl (by decide) dX4_takesBehind_113
  refine r_lookup (pc := 1) X h1 dX4_takesBehind_1 (by decide) (off := 122) (by simp only [Jvm.Op.lookupswitch.offset, if_neg (Ne.symm h3), if_neg (Ne.symm h7), if_neg (Ne.symm h11), if_neg (Ne.symm h15), if_neg (Ne.symm h19)]) (tgt := 123) (by decide) ?_
  refine r_iconst (pc := 123) X 0 dX4_takesBehind_123 (by decide) ?_
  exact r_zret (pc := 124) X (by decide) rfl rfl (by decide) dX4_takesBehind_124
theorem c_X4_takesBehind (N : Nat) (lt b c ms rd m : Bd) (P : PL) (x1 : Int) (l : Launch) (D : va_G) (E : ET) (a : Int × Bd) (ha : f_X4_takesBehind N rd x1 = some a) : Ct l yX4_takesBehind (Cond.code yX4_takesBehind cX4_takesBehind 2 (some .boolean) :: lw_g) ({ frames := 3, cells := 0, slots := 0, locals := 69 } : Room) D E [.ref (E.2.2.2 + 24), vI x1] (Zw E lt b c ms rd m P) (Zw E lt b c ms a.2 m P) (some (vI a.1)) :=
  ct_of (av := fun E => [.ref (E.2.2.2 + 24), vI x1]) (W0 := fun E => Zw E lt b c ms rd m P) (W1 := fun E (a : Int × Bd) => Zw E lt b c ms a.2 m P) (rw := fun E a => some (vI a.1)) (by decide) rfl (fun E => Zw_d E lt b c ms rd m P) (fun E => by simp [lg_sl, z_cat, z_catR, z_catI, z_catL]) (fun K X => r_lv (by simp [lv_args, z_cat, z_catR, z_catI, z_catL]) (t_X4_takesBehind N lt b c ms rd m P x1 K X)) l D E a ha
abbrev Q_X4_takes (K : KT) (lt b c ms rd m : Bd) (P : PL) : (Int × Bd) → State → Prop := Qm K ({ frames := 4, cells := 0, slots := 0, locals := 90 } : Room) (fun a : Int × Bd => Zw (kE K) lt b c ms a.2 m P) (fun a => some (vI a.1))
set_option maxRecDepth 100000 in
set_option maxHeartbeats 4000000 in
theorem t_X4_takes (N : Nat) (lt b c ms rd m : Bd) (P : PL) (x1 x2 : Int) (K : KT) (X : Kok K cX4_takes yX4_takes.cls lw_g ({ frames := 4, cells := 0, slots := 0, locals := 90 } : Room) (some .boolean) 3) : Rn K (Q_X4_takes K lt b c ms rd m P) 0 0 (f_X4_takes N rd x1 x2) 0 [(0, .ref (kB K + 24)), (1, vI x1), (2, vI x2)] [] (Zw (kE K) lt b c ms rd m P) := by
  unfold f_X4_takes
  refine r_aload_n (pc := 0) X 0 dX4_takes_0 rfl rfl ?_
  refine r_get (pc := 1) (v := vI (rd 0 0)) X 24 0 inX4 rfl rfl (by decide) tf_X4_46 rfl dX4_takes_1 ?_
  refine r_ck1 (fun h1 => ?_)
  refine r_case (fun h3 => ?_) (fun h3 => ?_)
  · refine r_tableIn (pc := 4) X 0 h3 (by decide) dX4_takes_4 (by decide) rfl (tgt := 32) (by decide) ?_
    refine r_aload_n (pc := 32) X 0 dX4_takes_32 rfl rfl ?_
    refine r_iload_n (pc := 33) X 1 dX4_takes_33 rfl rfl ?_
    refine r_iload_n (pc := 34) X 2 dX4_takes_34 rfl rfl ?_
    refine r_callV (pc := 35) (q0 := 24) (ci := 4) (As := [vI x1, vI x2]) (rest := []) (W' := fun q35_4 => (Zw (kE K) lt b c ms q35_4.2 m P)) (rv := fun q35_4 => some (vI q35_4.1)) X dX4_takes_35 rfl (fun a ha => c_X4_takesLetter N lt b c ms rd m P x1 x2 K.1.2.1 K.2.2.1.1 (kE K) a ha) (fun a => Zw_d _ _ _ _ _ _ _ _) gd_X4_74 rfl (n := 2) (by decide) rfl (by decide) rfl rfl rfl (Nat.zero_le _) (fun q35_4 eq35_4 => ?_)
    show Rn K _ 0 0 _ 38 [(0, .ref (kB K + 24)), (1, vI x1), (2, vI x2)] [vI q35_4.1] (Zw (kE K) lt b c ms q35_4.2 m P)
    refine r_ckB (fun h5 => ?_)
    exact r_zret (pc := 38) X h5 rfl rfl (by decide) dX4_takes_38
  refine r_case (fun h6 => ?_) (fun h6 => ?_)
  · refine r_tableIn (pc := 4) X 1 h6 (by decide) dX4_takes_4 (by decide) rfl (tgt := 39) (by decide) ?_
    refine r_aload_n (pc := 39) X 0 dX4_takes_39 rfl rfl ?_
    refine r_iconst (pc := 40) X 2 dX4_takes_40 (by decide) ?_
    refine r_put (pc := 41) (ws' := (Zw (kE K) lt b c ms (bs0 rd 0 2) m P)) X 24 0 inX4 tyX4 tyX4_ok nmX4 rfl rfl (by decide) tf_X4_46 rfl (tyX4_ok 0 (by decide)) rfl rfl (Nat.le_of_ble_eq_true rfl) rfl dX4_takes_41 ?_
    refine r_iload_n (pc := 44) X 1 dX4_takes_44 rfl rfl ?_
    refine r_bipush (pc := 45) X 61 dX4_takes_45 (by decide) ?_
    refine r_ck1 (fun h7 => ?_)
    refine r_jn (J := fun j55 => ∀ (s_55 : Int), Rn K (Q_X4_takes K lt b c ms rd m P) 0 0 (j55 s_55) 55 [(0, .ref (kB K + 24)), (1, vI x1), (2, vI x2)] [vI s_55] (Zw (kE K) lt b c ms (bs0 rd 0 2) m P)) ?_ (fun j55 hj55 => ?_)
    · intro s_55
      refine r_ckB (fun h9 => ?_)
      exact r_zret (pc := 55) X h9 rfl rfl (by decide) dX4_takes_55
    refine r_eq (z_ite j55) ?_
    refine r_icmp_ne (pc := 47) X h7 (by decide) dX4_takes_47 (tgt := 54) (by decide) (fun h8 => ?_) (fun h8 => ?_)
    · refine r_iconst (pc := 54) X 0 dX4_takes_54 (by decide) ?_
      exact hj55 0
    · refine r_iconst (pc := 50) X 1 dX4_takes_50 (by decide) ?_
      refine r_goto (pc := 51) X dX4_takes_51 (tgt := 55) (by decide) ?_
      exact hj55 1
  refine r_case (fun h10 => ?_) (fun h10 => ?_)
  · refine r_tableIn (pc := 4) X 2 h10 (by decide) dX4_takes_4 (by decide) rfl (tgt := 56) (by decide) ?_
    refine r_aload_n (pc := 56) X 0 dX4_takes_56 rfl rfl ?_
    refine r_iload_n (pc := 57) X 1 dX4_takes_57 rfl rfl ?_
    refine r_iload_n (pc := 58) X 2 dX4_takes_58 rfl rfl ?_
    refine r_callV (pc := 59) (q0 := 24) (ci := 4) (As := [vI x1, vI x2]) (rest := []) (W' := fun q59_11 => (Zw (kE K) lt b c ms q59_11.2 m P)) (rv := fun q59_11 => some (vI q59_11.1)) X dX4_takes_59 rfl (fun a ha => c_X4_takesAtom N lt b c ms rd m P x1 x2 K.1.2.1 K.2.2.1.1 (kE K) a ha) (fun a => Zw_d _ _ _ _ _ _ _ _) gd_X4_77 rfl (n := 2) (by decide) rfl (by decide) rfl rfl rfl (Nat.zero_le _) (fun q59_11 eq59_11 => ?_)
    show Rn K _ 0 0 _ 62 [(0, .ref (kB K + 24)), (1, vI x1), (2, vI x2)] [vI q59_11.1] (Zw (kE K) lt b c ms q59_11.2 m P)
    refine r_ckB (fun h12 => ?_)
    exact r_zret (pc := 62) X h12 rfl rfl (by decide) dX4_takes_62
  refine r_tableOut (pc := 4) X h1 dX4_takes_4 (by omega) (tgt := 63) (by decide) ?_
  refine r_aload_n (pc := 63) X 0 dX4_takes_63 rfl rfl ?_
  refine r_iload_n (pc := 64) X 1 dX4_takes_64 rfl rfl ?_
  refine r_callV (pc := 65) (q0 := 24) (ci := 4) (As := [vI x1]) (rest := []) (W' := fun q65_13 => (Zw (kE K) lt b c ms q65_13.2 m P)) (rv := fun q65_13 => some (vI q65_13.1)) X dX4_takes_65 rfl (fun a ha => c_X4_takesBehind N lt b c ms rd m P x1 K.1.2.1 K.2.2.1.1 (kE K) a ha) (fun a => Zw_d _ _ _ _ _ _ _ _) gd_X4_80 rfl (n := 1) (by decide) rfl (by decide) rfl rfl rfl (Nat.zero_le _) (fun q65_13 eq65_13 => ?_)
  show Rn K _ 0 0 _ 68 [(0, .ref (kB K + 24)), (1, vI x1), (2, vI x2)] [vI q65_13.1] (Zw (kE K) lt b c ms q65_13.2 m P)
  refine r_ckB (fun h14 => ?_)
  exact r_zret (pc := 68) X h14 rfl rfl (by decide) dX4_takes_68
theorem c_X4_takes (N : Nat) (lt b c ms rd m : Bd) (P : PL) (x1 x2 : Int) (l : Launch) (D : va_G) (E : ET) (a : Int × Bd) (ha : f_X4_takes N rd x1 x2 = some a) : Ct l yX4_takes (Cond.code yX4_takes cX4_takes 3 (some .boolean) :: lw_g) ({ frames := 4, cells := 0, slots := 0, locals := 90 } : Room) D E [.ref (E.2.2.2 + 24), vI x1, vI x2] (Zw E lt b c ms rd m P) (Zw E lt b c ms a.2 m P) (some (vI a.1)) :=
  ct_of (av := fun E => [.ref (E.2.2.2 + 24), vI x1, vI x2]) (W0 := fun E => Zw E lt b c ms rd m P) (W1 := fun E (a : Int × Bd) => Zw E lt b c ms a.2 m P) (rw := fun E a => some (vI a.1)) (by decide) rfl (fun E => Zw_d E lt b c ms rd m P) (fun E => by simp [lg_sl, z_cat, z_catR, z_catI, z_catL]) (fun K X => r_lv (by simp [lv_args, z_cat, z_catR, z_catI, z_catL]) (t_X4_takes N lt b c ms rd m P x1 x2 K X)) l D E a ha
abbrev Q_X4_strangeLetter (K : KT) (lt b c ms rd m : Bd) (P : PL) : (Int) → State → Prop := Qm K ({ frames := 0, cells := 0, slots := 0, locals := 0 } : Room) (fun a : Int => Zw (kE K) lt b c ms rd m P) (fun a => some (vI a))
set_option maxRecDepth 100000 in
set_option maxHeartbeats 4000000 in
theorem t_X4_strangeLetter_L2 (N : Nat) (lt b c ms rd m : Bd) (P : PL) (K : KT) (X : Kok K cX4_strangeLetter yX4_strangeLetter.cls lw_g ({ frames := 0, cells := 0, slots := 0, locals := 0 } : Room) (some .int) 4) (k : Option (Int)) (hk : Rn K (Q_X4_strangeLetter K lt b c ms rd m P) 0 0 k 57 [] [] (Zw (kE K) lt b c ms rd m P)) : ∀ (n : Nat) (x2 : Int), Rn K (Q_X4_strangeLetter K lt b c ms rd m P) 0 0 (f_X4_strangeLetter_L2 lt rd k n x2) 2 [(0, .ref (kB K + 24)), (1, .ref (kB K + 2)), (2, vI x2)] [] (Zw (kE K) lt b c ms rd m P) := by
  intro n
  induction n with
  | zero =>
    intro x2
    rw [f_X4_strangeLetter_L2]
    exact r_none
  | succ n ih =>
    intro x2
    rw [f_X4_strangeLetter_L2]
    refine r_iload_n (pc := 2) X 2 dX4_strangeLetter_2 rfl rfl ?_
    refine r_aload_n (pc := 3) X 0 dX4_strangeLetter_3 rfl rfl ?_
    refine r_get (pc := 4) (v := vI (rd 5 0)) X 24 5 inX4 rfl rfl (by decide) tf_X4_49 rfl dX4_strangeLetter_4 ?_
    refine r_ck1 (fun h1 => ?_)
    refine r_ck1 (fun h2 => ?_)
    refine r_icmp_ge (pc := 7) X h1 h2 dX4_strangeLetter_7 (tgt := 57) (by decide) (fun h3 => ?_) (fun h3 => ?_)
    · refine r_sub [] rfl ?_
      exact hk
    · refine r_aload_n (pc := 10) X 0 dX4_strangeLetter_10 rfl rfl ?_
      refine r_get (pc := 11) (v := .ref (kB K + 25)) X 24 2 inX4 rfl rfl (by decide) tf_X4_9 rfl dX4_strangeLetter_11 ?_
      refine r_iload_n (pc := 14) X 2 dX4_strangeLetter_14 rfl rfl ?_
      refine r_ckA (fun h4 => ?_)
      refine r_iald (pc := 15) (f := rd 2) X 25 h4 zl_120 rfl dX4_strangeLetter_15 ?_
      refine r_bipush (pc := 16) X 7 dX4_strangeLetter_16 (by decide) ?_
      refine r_ck1 (fun h5 => ?_)
      refine r_icmp_ne (pc := 18) X h5 (by decide) dX4_strangeLetter_18 (tgt := 51) (by decide) (fun h6 => ?_) (fun h6 => ?_)
      · refine r_iinc (pc := 51) (lv' := [(0, .ref (kB K + 24)), (1, .ref (kB K + 2)), (2, vI (x2 + 1))]) X 2 [1, 2, 0] dX4_strangeLetter_51 rfl (by decide) rfl ?_
        refine r_goto (pc := 54) X dX4_strangeLetter_54 (tgt := 2) (by decide) ?_
        exact ih (x2 + 1)
      · refine r_aload_n (pc := 21) X 0 dX4_strangeLetter_21 rfl rfl ?_
        refine r_get (pc := 22) (v := .ref (kB K + 26)) X 24 3 inX4 rfl rfl (by decide) tf_X4_15 rfl dX4_strangeLetter_22 ?_
        refine r_iload_n (pc := 25) X 2 dX4_strangeLetter_25 rfl rfl ?_
        refine r_iald (pc := 26) (f := rd 3) X 26 h4 zl_120 rfl dX4_strangeLetter_26 ?_
        refine r_istore_n (pc := 27) (lv' := [(0, .ref (kB K + 24)), (1, .ref (kB K + 2)), (2, vI x2), (3, vI (rd 3 x2))]) X [1, 2, 3, 0] dX4_strangeLetter_27 rfl (by decide) rfl ?_
        refine r_aload_n (pc := 28) X 0 dX4_strangeLetter_28 rfl rfl ?_
        refine r_get (pc := 29) (v := .ref (kB K + 31)) X 24 12 inX4 rfl rfl (by decide) tf_X4_30 rfl dX4_strangeLetter_29 ?_
        refine r_iload_n (pc := 32) X 3 dX4_strangeLetter_32 rfl rfl ?_
        refine r_ckA (fun h7 => ?_)
        refine r_iald (pc := 33) (f := rd 12) X 31 h7 zl_8 rfl dX4_strangeLetter_33 ?_
        refine r_iconst (pc := 34) X (-1) dX4_strangeLetter_34 (by decide) ?_
        refine r_ck1 (fun h8 => ?_)
        refine r_icmp_ne (pc := 35) X h8 (by decide) dX4_strangeLetter_35 (tgt := 51) (by decide) (fun h9 => ?_) (fun h9 => ?_)
        · refine r_iinc (pc := 51) (lv' := [(0, .ref (kB K + 24)), (1, .ref (kB K + 2)), (2, vI (x2 + 1)), (3, vI (rd 3 x2))]) X 2 [1, 2, 0, 3] dX4_strangeLetter_51 rfl (by decide) rfl ?_
          refine r_goto (pc := 54) X dX4_strangeLetter_54 (tgt := 2) (by decide) ?_
          refine r_sub [0, 1, 2] rfl ?_
          exact ih (x2 + 1)
        · refine r_aload_n (pc := 38) X 1 dX4_strangeLetter_38 rfl rfl ?_
          refine r_iload_n (pc := 39) X 3 dX4_strangeLetter_39 rfl rfl ?_
          refine r_aald (pc := 40) (f := lt 3) X 2 h7 zl_8 rfl dX4_strangeLetter_40 ?_
          refine r_ifnonnull (pc := 41) X dX4_strangeLetter_41 (tgt := 51) (by decide) (fun h10 => ?_) (fun h10 => ?_)
          · refine r_aload_n (pc := 44) X 0 dX4_strangeLetter_44 rfl rfl ?_
            refine r_get (pc := 45) (v := .ref (kB K + 27)) X 24 4 inX4 rfl rfl (by decide) tf_X4_18 rfl dX4_strangeLetter_45 ?_
            refine r_iload_n (pc := 48) X 2 dX4_strangeLetter_48 rfl rfl ?_
            refine r_iald (pc := 49) (f := rd 4) X 27 h4 zl_120 rfl dX4_strangeLetter_49 ?_
            exact r_iret (pc := 50) X rfl rfl (by decide) dX4_strangeLetter_50
          · refine r_iinc (pc := 51) (lv' := [(0, .ref (kB K + 24)), (1, .ref (kB K + 2)), (2, vI (x2 + 1)), (3, vI (rd 3 x2))]) X 2 [1, 2, 0, 3] dX4_strangeLetter_51 rfl (by decide) rfl ?_
            refine r_goto (pc := 54) X dX4_strangeLetter_54 (tgt := 2) (by decide) ?_
            refine r_sub [0, 1, 2] rfl ?_
            exact ih (x2 + 1)
set_option maxRecDepth 100000 in
set_option maxHeartbeats 4000000 in
theorem t_X4_strangeLetter (N : Nat) (lt b c ms rd m : Bd) (P : PL) (K : KT) (X : Kok K cX4_strangeLetter yX4_strangeLetter.cls lw_g ({ frames := 0, cells := 0, slots := 0, locals := 0 } : Room) (some .int) 4) : Rn K (Q_X4_strangeLetter K lt b c ms rd m P) 0 0 (f_X4_strangeLetter N lt rd) 0 [(0, .ref (kB K + 24)), (1, .ref (kB K + 2))] [] (Zw (kE K) lt b c ms rd m P) := by
  unfold f_X4_strangeLetter
  refine r_iconst (pc := 0) X 0 dX4_strangeLetter_0 (by decide) ?_
  refine r_istore_n (pc := 1) (lv' := [(0, .ref (kB K + 24)), (1, .ref (kB K + 2)), (2, vI 0)]) X [1, 2, 0] dX4_strangeLetter_1 rfl (by decide) rfl ?_
  refine t_X4_strangeLetter_L2 N lt b c ms rd m P   K X _ ?_ N 0
  refine r_iconst (pc := 57) X (-1) dX4_strangeLetter_57 (by decide) ?_
  exact r_iret (pc := 58) X rfl rfl (by decide) dX4_strangeLetter_58
theorem c_X4_strangeLetter (N : Nat) (lt b c ms rd m : Bd) (P : PL) (l : Launch) (D : va_G) (E : ET) (a : Int) (ha : f_X4_strangeLetter N lt rd = some a) : Ct l yX4_strangeLetter (Cond.code yX4_strangeLetter cX4_strangeLetter 4 (some .int) :: lw_g) ({ frames := 0, cells := 0, slots := 0, locals := 0 } : Room) D E [.ref (E.2.2.2 + 24), .ref (E.2.2.2 + 2)] (Zw E lt b c ms rd m P) (Zw E lt b c ms rd m P) (some (vI a)) :=
  ct_of (av := fun E => [.ref (E.2.2.2 + 24), .ref (E.2.2.2 + 2)]) (W0 := fun E => Zw E lt b c ms rd m P) (W1 := fun E (a : Int) => Zw E lt b c ms rd m P) (rw := fun E a => some (vI a)) (by decide) rfl (fun E => Zw_d E lt b c ms rd m P) (fun E => by simp [lg_sl, z_cat, z_catR, z_catI, z_catL]) (fun K X => r_lv (by simp [lv_args, z_cat, z_catR, z_catI, z_catL]) (t_X4_strangeLetter N lt b c ms rd m P  K X)) l D E a ha
abbrev Q_X4_letterBehind (K : KT) (lt b c ms rd m : Bd) (P : PL) : (Int) → State → Prop := Qm K ({ frames := 0, cells := 0, slots := 0, locals := 0 } : Room) (fun a : Int => Zw (kE K) lt b c ms rd m P) (fun a => some (vI a))
set_option maxRecDepth 100000 in
set_option maxHeartbeats 4000000 in
theorem t_X4_letterBehind (N : Nat) (lt b c ms rd m : Bd) (P : PL) (x1 : Int) (K : KT) (X : Kok K cX4_letterBehind yX4_letterBehind.cls lw_g ({ frames := 0, cells := 0, slots := 0, locals := 0 } : Room) (some .int) 3) : Rn K (Q_X4_letterBehind K lt b c ms rd m P) 0 0 (f_X4_letterBehind rd x1) 0 [(0, .ref (kB K + 24)), (1, vI x1)] [] (Zw (kE K) lt b c ms rd m P) := by
  unfold f_X4_letterBehind
  refine r_aload_n (pc := 0) X 0 dX4_letterBehind_0 rfl rfl ?_
  refine r_get (pc := 1) (v := .ref (kB K + 31)) X 24 12 inX4 rfl rfl (by decide) tf_X4_30 rfl dX4_letterBehind_1 ?_
  refine r_iload_n (pc := 4) X 1 dX4_letterBehind_4 rfl rfl ?_
  refine r_ckA (fun h1 => ?_)
  refine r_iald (pc := 5) (f := rd 12) X 31 h1 zl_8 rfl dX4_letterBehind_5 ?_
  refine r_istore_n (pc := 6) (lv' := [(0, .ref (kB K + 24)), (1, vI x1), (2, vI (rd 12 x1))]) X [1, 2, 0] dX4_letterBehind_6 rfl (by decide) rfl ?_
  refine r_iload_n (pc := 7) X 2 dX4_letterBehind_7 rfl rfl ?_
  refine r_iconst (pc := 8) X (-1) dX4_letterBehind_8 (by decide) ?_
  refine r_ck1 (fun h2 => ?_)
  refine r_icmp_eq (pc := 9) X h2 (by decide) dX4_letterBehind_9 (tgt := 32) (by decide) (fun h3 => ?_) (fun h3 => ?_)
  · refine r_iconst (pc := 32) X (-1) dX4_letterBehind_32 (by decide) ?_
    exact r_iret (pc := 33) X rfl rfl (by decide) dX4_letterBehind_33
  · refine r_aload_n (pc := 12) X 0 dX4_letterBehind_12 rfl rfl ?_
    refine r_get (pc := 13) (v := .ref (kB K + 25)) X 24 2 inX4 rfl rfl (by decide) tf_X4_9 rfl dX4_letterBehind_13 ?_
    refine r_iload_n (pc := 16) X 2 dX4_letterBehind_16 rfl rfl ?_
    refine r_ckA (fun h4 => ?_)
    refine r_iald (pc := 17) (f := rd 2) X 25 h4 zl_120 rfl dX4_letterBehind_17 ?_
    refine r_bipush (pc := 18) X 7 dX4_letterBehind_18 (by decide) ?_
    refine r_ck1 (fun h5 => ?_)
    refine r_icmp_ne (pc := 20) X h5 (by decide) dX4_letterBehind_20 (tgt := 32) (by decide) (fun h6 => ?_) (fun h6 => ?_)
    · refine r_iconst (pc := 32) X (-1) dX4_letterBehind_32 (by decide) ?_
      exact r_iret (pc := 33) X rfl rfl (by decide) dX4_letterBehind_33
    · refine r_aload_n (pc := 23) X 0 dX4_letterBehind_23 rfl rfl ?_
      refine r_get (pc := 24) (v := .ref (kB K + 26)) X 24 3 inX4 rfl rfl (by decide) tf_X4_15 rfl dX4_letterBehind_24 ?_
      refine r_iload_n (pc := 27) X 2 dX4_letterBehind_27 rfl rfl ?_
      refine r_iald (pc := 28) (f := rd 3) X 26 h4 zl_120 rfl dX4_letterBehind_28 ?_
      refine r_goto (pc := 29) X dX4_letterBehind_29 (tgt := 33) (by decide) ?_
      exact r_iret (pc := 33) X rfl rfl (by decide) dX4_letterBehind_33
theorem c_X4_letterBehind (N : Nat) (lt b c ms rd m : Bd) (P : PL) (x1 : Int) (l : Launch) (D : va_G) (E : ET) (a : Int) (ha : f_X4_letterBehind rd x1 = some a) : Ct l yX4_letterBehind (Cond.code yX4_letterBehind cX4_letterBehind 3 (some .int) :: lw_g) ({ frames := 0, cells := 0, slots := 0, locals := 0 } : Room) D E [.ref (E.2.2.2 + 24), vI x1] (Zw E lt b c ms rd m P) (Zw E lt b c ms rd m P) (some (vI a)) :=
  ct_of (av := fun E => [.ref (E.2.2.2 + 24), vI x1]) (W0 := fun E => Zw E lt b c ms rd m P) (W1 := fun E (a : Int) => Zw E lt b c ms rd m P) (rw := fun E a => some (vI a)) (by decide) rfl (fun E => Zw_d E lt b c ms rd m P) (fun E => by simp [lg_sl, z_cat, z_catR, z_catI, z_catL]) (fun K X => r_lv (by simp [lv_args, z_cat, z_catR, z_catI, z_catL]) (t_X4_letterBehind N lt b c ms rd m P x1 K X)) l D E a ha
abbrev Q_X4_emptyLetter (K : KT) (lt b c ms rd m : Bd) (P : PL) : (Int) → State → Prop := Qm K ({ frames := 1, cells := 0, slots := 0, locals := 22 } : Room) (fun a : Int => Zw (kE K) lt b c ms rd m P) (fun a => some (vI a))
set_option maxRecDepth 100000 in
set_option maxHeartbeats 4000000 in
theorem t_X4_emptyLetter_L26 (N : Nat) (lt b c ms rd m : Bd) (P : PL) (x1 x2 : Int) (K : KT) (X : Kok K cX4_emptyLetter yX4_emptyLetter.cls lw_g ({ frames := 1, cells := 0, slots := 0, locals := 22 } : Room) (some .int) 5) (k : Int → Option (Int)) (hk : ∀ (x3 : Int), Rn K (Q_X4_emptyLetter K lt b c ms rd m P) 0 0 (k x3) 55 [(0, .ref (kB K + 24)), (1, vI x1), (2, vI x2), (3, vI x3)] [] (Zw (kE K) lt b c ms rd m P)) : ∀ (n : Nat) (x3 : Int) (x4 : Int), Rn K (Q_X4_emptyLetter K lt b c ms rd m P) 0 0 (f_X4_emptyLetter_L26 rd x1 x2 k n x3 x4) 26 [(0, .ref (kB K + 24)), (1, vI x1), (2, vI x2), (3, vI x3), (4, vI x4)] [] (Zw (kE K) lt b c ms rd m P) := by
  intro n
  induction n with
  | zero =>
    intro x3 x4
    rw [f_X4_emptyLetter_L26]
    exact r_none
  | succ n ih =>
    intro x3 x4
    rw [f_X4_emptyLetter_L26]
    refine r_iload (pc := 26) X 4 dX4_emptyLetter_26 rfl ?_
    refine r_bipush (pc := 28) X 8 dX4_emptyLetter_28 (by decide) ?_
    refine r_ck1 (fun h6 => ?_)
    refine r_icmp_ge (pc := 30) X h6 (by decide) dX4_emptyLetter_30 (tgt := 55) (by decide) (fun h7 => ?_) (fun h7 => ?_)
    · refine r_sub [0, 1, 2, 3] rfl ?_
      exact hk x3
    · refine r_iload_n (pc := 33) X 3 dX4_emptyLetter_33 rfl rfl ?_
      refine r_iconst (pc := 34) X (-1) dX4_emptyLetter_34 (by decide) ?_
      refine r_ck1 (fun h8 => ?_)
      refine r_icmp_eq (pc := 35) X h8 (by decide) dX4_emptyLetter_35 (tgt := 55) (by decide) (fun h9 => ?_) (fun h9 => ?_)
      · refine r_sub [0, 1, 2, 3] rfl ?_
        exact hk x3
      · refine r_iload_n (pc := 38) X 3 dX4_emptyLetter_38 rfl rfl ?_
        refine r_iload_n (pc := 39) X 2 dX4_emptyLetter_39 rfl rfl ?_
        refine r_ck1 (fun h10 => ?_)
        refine r_icmp_eq (pc := 40) X h8 h10 dX4_emptyLetter_40 (tgt := 55) (by decide) (fun h11 => ?_) (fun h11 => ?_)
        · refine r_sub [0, 1, 2, 3] rfl ?_
          exact hk x3
        · refine r_aload_n (pc := 43) X 0 dX4_emptyLetter_43 rfl rfl ?_
          refine r_iload_n (pc := 44) X 3 dX4_emptyLetter_44 rfl rfl ?_
          refine r_callV (pc := 45) (q0 := 24) (ci := 4) (As := [vI x3]) (rest := []) (W' := fun q45_12 => (Zw (kE K) lt b c ms rd m P)) (rv := fun q45_12 => some (vI q45_12)) X dX4_emptyLetter_45 rfl (fun a ha => c_X4_letterBehind N lt b c ms rd m P x3 K.1.2.1 K.2.2.1.1 (kE K) a ha) (fun a => Zw_d _ _ _ _ _ _ _ _) gd_X4_123 rfl (n := 1) (by decide) rfl (by decide) rfl rfl rfl (Nat.zero_le _) (fun q45_12 eq45_12 => ?_)
          show Rn K _ 0 0 _ 48 [(0, .ref (kB K + 24)), (1, vI x1), (2, vI x2), (3, vI x3), (4, vI x4)] [vI q45_12] (Zw (kE K) lt b c ms rd m P)
          refine r_istore_n (pc := 48) (lv' := [(0, .ref (kB K + 24)), (1, vI x1), (2, vI x2), (3, vI q45_12), (4, vI x4)]) X [1, 2, 3, 0, 4] dX4_emptyLetter_48 rfl (by decide) rfl ?_
          refine r_iinc (pc := 49) (lv' := [(0, .ref (kB K + 24)), (1, vI x1), (2, vI x2), (3, vI q45_12), (4, vI (x4 + 1))]) X 4 [1, 2, 3, 4, 0] dX4_emptyLetter_49 rfl (by decide) rfl ?_
          refine r_goto (pc := 52) X dX4_emptyLetter_52 (tgt := 26) (by decide) ?_
          exact ih q45_12 (x4 + 1)
set_option maxRecDepth 100000 in
set_option maxHeartbeats 4000000 in
theorem t_X4_emptyLetter_L2 (N : Nat) (lt b c ms rd m : Bd) (P : PL) (K : KT) (X : Kok K cX4_emptyLetter yX4_emptyLetter.cls lw_g ({ frames := 1, cells := 0, slots := 0, locals := 22 } : Room) (some .int) 5) (k : Option (Int)) (hk : Rn K (Q_X4_emptyLetter K lt b c ms rd m P) 0 0 k 73 [] [] (Zw (kE K) lt b c ms rd m P)) : ∀ (n : Nat) (x1 : Int), Rn K (Q_X4_emptyLetter K lt b c ms rd m P) 0 0 (f_X4_emptyLetter_L2 N rd k n x1) 2 [(0, .ref (kB K + 24)), (1, vI x1)] [] (Zw (kE K) lt b c ms rd m P) := by
  intro n
  induction n with
  | zero =>
    intro x1
    rw [f_X4_emptyLetter_L2]
    exact r_none
  | succ n ih =>
    intro x1
    rw [f_X4_emptyLetter_L2]
    refine r_iload_n (pc := 2) X 1 dX4_emptyLetter_2 rfl rfl ?_
    refine r_aload_n (pc := 3) X 0 dX4_emptyLetter_3 rfl rfl ?_
    refine r_get (pc := 4) (v := vI (rd 11 0)) X 24 11 inX4 rfl rfl (by decide) tf_X4_42 rfl dX4_emptyLetter_4 ?_
    refine r_ck1 (fun h1 => ?_)
    refine r_ck1 (fun h2 => ?_)
    refine r_icmp_ge (pc := 7) X h1 h2 dX4_emptyLetter_7 (tgt := 73) (by decide) (fun h3 => ?_) (fun h3 => ?_)
    · refine r_sub [] rfl ?_
      exact hk
    · refine r_aload_n (pc := 10) X 0 dX4_emptyLetter_10 rfl rfl ?_
      refine r_get (pc := 11) (v := .ref (kB K + 30)) X 24 10 inX4 rfl rfl (by decide) tf_X4_27 rfl dX4_emptyLetter_11 ?_
      refine r_iload_n (pc := 14) X 1 dX4_emptyLetter_14 rfl rfl ?_
      refine r_ckA (fun h4 => ?_)
      refine r_iald (pc := 15) (f := rd 10) X 30 h4 zl_8 rfl dX4_emptyLetter_15 ?_
      refine r_istore_n (pc := 16) (lv' := [(0, .ref (kB K + 24)), (1, vI x1), (2, vI (rd 10 x1))]) X [1, 2, 0] dX4_emptyLetter_16 rfl (by decide) rfl ?_
      refine r_aload_n (pc := 17) X 0 dX4_emptyLetter_17 rfl rfl ?_
      refine r_iload_n (pc := 18) X 2 dX4_emptyLetter_18 rfl rfl ?_
      refine r_callV (pc := 19) (q0 := 24) (ci := 4) (As := [vI (rd 10 x1)]) (rest := []) (W' := fun q19_5 => (Zw (kE K) lt b c ms rd m P)) (rv := fun q19_5 => some (vI q19_5)) X dX4_emptyLetter_19 rfl (fun a ha => c_X4_letterBehind N lt b c ms rd m P (rd 10 x1) K.1.2.1 K.2.2.1.1 (kE K) a ha) (fun a => Zw_d _ _ _ _ _ _ _ _) gd_X4_123 rfl (n := 1) (by decide) rfl (by decide) rfl rfl rfl (Nat.zero_le _) (fun q19_5 eq19_5 => ?_)
      show Rn K _ 0 0 _ 22 [(0, .ref (kB K + 24)), (1, vI x1), (2, vI (rd 10 x1))] [vI q19_5] (Zw (kE K) lt b c ms rd m P)
      refine r_istore_n (pc := 22) (lv' := [(0, .ref (kB K + 24)), (1, vI x1), (2, vI (rd 10 x1)), (3, vI q19_5)]) X [1, 2, 3, 0] dX4_emptyLetter_22 rfl (by decide) rfl ?_
      refine r_iconst (pc := 23) X 0 dX4_emptyLetter_23 (by decide) ?_
      refine r_istore (pc := 24) (lv' := [(0, .ref (kB K + 24)), (1, vI x1), (2, vI (rd 10 x1)), (3, vI q19_5), (4, vI 0)]) X [1, 2, 3, 4, 0] dX4_emptyLetter_24 (by decide) rfl ?_
      refine t_X4_emptyLetter_L26 N lt b c ms rd m P  x1 (rd 10 x1) K X _ ?_ N q19_5 0
      intro x3_26
      refine r_iload_n (pc := 55) X 3 dX4_emptyLetter_55 rfl rfl ?_
      refine r_iload_n (pc := 56) X 2 dX4_emptyLetter_56 rfl rfl ?_
      refine r_ck1 (fun h13 => ?_)
      refine r_ck1 (fun h14 => ?_)
      refine r_icmp_ne (pc := 57) X h13 h14 dX4_emptyLetter_57 (tgt := 67) (by decide) (fun h15 => ?_) (fun h15 => ?_)
      · refine r_iinc (pc := 67) (lv' := [(0, .ref (kB K + 24)), (1, vI (x1 + 1)), (2, vI (rd 10 x1)), (3, vI x3_26)]) X 1 [1, 0, 2, 3] dX4_emptyLetter_67 rfl (by decide) rfl ?_
        refine r_goto (pc := 70) X dX4_emptyLetter_70 (tgt := 2) (by decide) ?_
        refine r_sub [0, 1] rfl ?_
        exact ih (x1 + 1)
      · refine r_aload_n (pc := 60) X 0 dX4_emptyLetter_60 rfl rfl ?_
        refine r_get (pc := 61) (v := .ref (kB K + 32)) X 24 13 inX4 rfl rfl (by decide) tf_X4_33 rfl dX4_emptyLetter_61 ?_
        refine r_iload_n (pc := 64) X 2 dX4_emptyLetter_64 rfl rfl ?_
        refine r_ckA (fun h16 => ?_)
        refine r_iald (pc := 65) (f := rd 13) X 32 h16 zl_8 rfl dX4_emptyLetter_65 ?_
        exact r_iret (pc := 66) X rfl rfl (by decide) dX4_emptyLetter_66
set_option maxRecDepth 100000 in
set_option maxHeartbeats 4000000 in
theorem t_X4_emptyLetter (N : Nat) (lt b c ms rd m : Bd) (P : PL) (K : KT) (X : Kok K cX4_emptyLetter yX4_emptyLetter.cls lw_g ({ frames := 1, cells := 0, slots := 0, locals := 22 } : Room) (some .int) 5) : Rn K (Q_X4_emptyLetter K lt b c ms rd m P) 0 0 (f_X4_emptyLetter N rd) 0 [(0, .ref (kB K + 24))] [] (Zw (kE K) lt b c ms rd m P) := by
  unfold f_X4_emptyLetter
  refine r_iconst (pc := 0) X 0 dX4_emptyLetter_0 (by decide) ?_
  refine r_istore_n (pc := 1) (lv' := [(0, .ref (kB K + 24)), (1, vI 0)]) X [1, 0] dX4_emptyLetter_1 rfl (by decide) rfl ?_
  refine t_X4_emptyLetter_L2 N lt b c ms rd m P   K X _ ?_ N 0
  refine r_iconst (pc := 73) X (-1) dX4_emptyLetter_73 (by decide) ?_
  exact r_iret (pc := 74) X rfl rfl (by decide) dX4_emptyLetter_74
theorem c_X4_emptyLetter (N : Nat) (lt b c ms rd m : Bd) (P : PL) (l : Launch) (D : va_G) (E : ET) (a : Int) (ha : f_X4_emptyLetter N rd = some a) : Ct l yX4_emptyLetter (Cond.code yX4_emptyLetter cX4_emptyLetter 5 (some .int) :: lw_g) ({ frames := 1, cells := 0, slots := 0, locals := 22 } : Room) D E [.ref (E.2.2.2 + 24)] (Zw E lt b c ms rd m P) (Zw E lt b c ms rd m P) (some (vI a)) :=
  ct_of (av := fun E => [.ref (E.2.2.2 + 24)]) (W0 := fun E => Zw E lt b c ms rd m P) (W1 := fun E (a : Int) => Zw E lt b c ms rd m P) (rw := fun E a => some (vI a)) (by decide) rfl (fun E => Zw_d E lt b c ms rd m P) (fun E => by simp [lg_sl, z_cat, z_catR, z_catI, z_catL]) (fun K X => r_lv (by simp [lv_args, z_cat, z_catR, z_catI, z_catL]) (t_X4_emptyLetter N lt b c ms rd m P  K X)) l D E a ha
abbrev Q_X4_faultOf (K : KT) (lt b c ms rd m : Bd) (P : PL) : (Int × Bd) → State → Prop := Qm K ({ frames := 5, cells := 0, slots := 0, locals := 112 } : Room) (fun a : Int × Bd => Zw (kE K) lt b c ms a.2 m P) (fun a => some (vI a.1))
set_option maxRecDepth 100000 in
set_option maxHeartbeats 4000000 in
theorem t_X4_faultOf_L48 (N : Nat) (lt b c ms rd m : Bd) (P : PL) (x2 : Int) (K : KT) (X : Kok K cX4_faultOf yX4_faultOf.cls lw_g ({ frames := 5, cells := 0, slots := 0, locals := 112 } : Room) (some .int) 5) (k : Bd → Option (Int × Bd)) (hk : ∀ (rd1 : Bd), Rn K (Q_X4_faultOf K lt b c ms rd m P) 0 0 (k rd1) 92 [(0, .ref (kB K + 24)), (2, vI x2), (3, .ref (kB K + 2))] [] (Zw (kE K) lt b c ms rd1 m P)) : ∀ (n : Nat) (x4 : Int) (rd1 : Bd), Rn K (Q_X4_faultOf K lt b c ms rd m P) 0 0 (f_X4_faultOf_L48 N lt x2 k n x4 rd1) 48 [(0, .ref (kB K + 24)), (1, .ref (kB K + 1)), (2, vI x2), (3, .ref (kB K + 2)), (4, vI x4)] [] (Zw (kE K) lt b c ms rd1 m P) := by
  intro n
  induction n with
  | zero =>
    intro x4 rd1
    rw [f_X4_faultOf_L48]
    exact r_none
  | succ n ih =>
    intro x4 rd1
    rw [f_X4_faultOf_L48]
    refine r_iload (pc := 48) X 4 dX4_faultOf_48 rfl ?_
    refine r_iload_n (pc := 50) X 2 dX4_faultOf_50 rfl rfl ?_
    refine r_ck1 (fun h3 => ?_)
    refine r_ck1 (fun h4 => ?_)
    refine r_icmp_ge (pc := 51) X h3 h4 dX4_faultOf_51 (tgt := 92) (by decide) (fun h5 => ?_) (fun h5 => ?_)
    · refine r_sub [0, 2, 3] rfl ?_
      exact hk rd1
    · refine r_iload (pc := 54) X 4 dX4_faultOf_54 rfl ?_
      refine r_aload_n (pc := 56) X 1 dX4_faultOf_56 rfl rfl ?_
      refine r_alen (pc := 57) X 1 0 120 rfl rfl rfl dX4_faultOf_57 ?_
      refine r_icmp_ge (pc := 58) X h3 (by decide) dX4_faultOf_58 (tgt := 92) (by decide) (fun h6 => ?_) (fun h6 => ?_)
      · refine r_sub [0, 2, 3] rfl ?_
        exact hk rd1
      · refine r_aload_n (pc := 61) X 1 dX4_faultOf_61 rfl rfl ?_
        refine r_iload (pc := 62) X 4 dX4_faultOf_62 rfl ?_
        refine r_ckA (fun h7 => ?_)
        refine r_iald (pc := 64) (f := lt 0) X 1 h7 zl_120 rfl dX4_faultOf_64 ?_
        refine r_bipush (pc := 65) X 32 dX4_faultOf_65 (by decide) ?_
        refine r_ck1 (fun h8 => ?_)
        refine r_icmp_eq (pc := 67) X h8 (by decide) dX4_faultOf_67 (tgt := 86) (by decide) (fun h9 => ?_) (fun h9 => ?_)
        · refine r_iinc (pc := 86) (lv' := [(0, .ref (kB K + 24)), (1, .ref (kB K + 1)), (2, vI x2), (3, .ref (kB K + 2)), (4, vI (x4 + 1))]) X 4 [1, 2, 3, 4, 0] dX4_faultOf_86 rfl (by decide) rfl ?_
          refine r_goto (pc := 89) X dX4_faultOf_89 (tgt := 48) (by decide) ?_
          exact ih (x4 + 1) rd1
        · refine r_aload_n (pc := 70) X 0 dX4_faultOf_70 rfl rfl ?_
          refine r_aload_n (pc := 71) X 1 dX4_faultOf_71 rfl rfl ?_
          refine r_iload (pc := 72) X 4 dX4_faultOf_72 rfl ?_
          refine r_iald (pc := 74) (f := lt 0) X 1 h7 zl_120 rfl dX4_faultOf_74 ?_
          refine r_iload (pc := 75) X 4 dX4_faultOf_75 rfl ?_
          refine r_callV (pc := 77) (q0 := 24) (ci := 4) (As := [vI (lt 0 x4), vI x4]) (rest := []) (W' := fun q77_10 => (Zw (kE K) lt b c ms q77_10.2 m P)) (rv := fun q77_10 => some (vI q77_10.1)) X dX4_faultOf_77 rfl (fun a ha => c_X4_takes N lt b c ms rd1 m P (lt 0 x4) x4 K.1.2.1 K.2.2.1.1 (kE K) a ha) (fun a => Zw_d _ _ _ _ _ _ _ _) gd_X4_62 rfl (n := 2) (by decide) rfl (by decide) rfl rfl rfl (Nat.zero_le _) (fun q77_10 eq77_10 => ?_)
          show Rn K _ 0 0 _ 80 [(0, .ref (kB K + 24)), (1, .ref (kB K + 1)), (2, vI x2), (3, .ref (kB K + 2)), (4, vI x4)] [vI q77_10.1] (Zw (kE K) lt b c ms q77_10.2 m P)
          refine r_ck1 (fun h11 => ?_)
          refine r_ifne (pc := 80) X h11 dX4_faultOf_80 (tgt := 86) (by decide) (fun h12 => ?_) (fun h12 => ?_)
          · refine r_iinc (pc := 86) (lv' := [(0, .ref (kB K + 24)), (1, .ref (kB K + 1)), (2, vI x2), (3, .ref (kB K + 2)), (4, vI (x4 + 1))]) X 4 [1, 2, 3, 4, 0] dX4_faultOf_86 rfl (by decide) rfl ?_
            refine r_goto (pc := 89) X dX4_faultOf_89 (tgt := 48) (by decide) ?_
            exact ih (x4 + 1) q77_10.2
          · refine r_iload (pc := 83) X 4 dX4_faultOf_83 rfl ?_
            exact r_iret (pc := 85) X rfl rfl (by decide) dX4_faultOf_85
set_option maxRecDepth 100000 in
set_option maxHeartbeats 4000000 in
theorem t_X4_faultOf (N : Nat) (lt b c ms rd m : Bd) (P : PL) (x2 : Int) (K : KT) (X : Kok K cX4_faultOf yX4_faultOf.cls lw_g ({ frames := 5, cells := 0, slots := 0, locals := 112 } : Room) (some .int) 5) : Rn K (Q_X4_faultOf K lt b c ms rd m P) 0 0 (f_X4_faultOf N lt rd x2) 0 [(0, .ref (kB K + 24)), (1, .ref (kB K + 1)), (2, vI x2), (3, .ref (kB K + 2))] [] (Zw (kE K) lt b c ms rd m P) := by
  unfold f_X4_faultOf
  refine r_aload_n (pc := 0) X 0 dX4_faultOf_0 rfl rfl ?_
  refine r_iconst (pc := 1) X 0 dX4_faultOf_1 (by decide) ?_
  refine r_put (pc := 2) (ws' := (Zw (kE K) lt b c ms (bs0 rd 0 0) m P)) X 24 0 inX4 tyX4 tyX4_ok nmX4 rfl rfl (by decide) tf_X4_46 rfl (tyX4_ok 0 (by decide)) rfl rfl (Nat.le_of_ble_eq_true rfl) rfl dX4_faultOf_2 ?_
  refine r_aload_n (pc := 5) X 0 dX4_faultOf_5 rfl rfl ?_
  refine r_iconst (pc := 6) X 0 dX4_faultOf_6 (by decide) ?_
  refine r_put (pc := 7) (ws' := (Zw (kE K) lt b c ms (bs0 (bs0 rd 0 0) 5 0) m P)) X 24 5 inX4 tyX4 tyX4_ok nmX4 rfl rfl (by decide) tf_X4_49 rfl (tyX4_ok 5 (by decide)) rfl rfl (Nat.le_of_ble_eq_true rfl) rfl dX4_faultOf_7 ?_
  refine r_aload_n (pc := 10) X 0 dX4_faultOf_10 rfl rfl ?_
  refine r_iconst (pc := 11) X 0 dX4_faultOf_11 (by decide) ?_
  refine r_put (pc := 12) (ws' := (Zw (kE K) lt b c ms (bs0 (bs0 (bs0 rd 0 0) 5 0) 7 0) m P)) X 24 7 inX4 tyX4 tyX4_ok nmX4 rfl rfl (by decide) tf_X4_52 rfl (tyX4_ok 7 (by decide)) rfl rfl (Nat.le_of_ble_eq_true rfl) rfl dX4_faultOf_12 ?_
  refine r_aload_n (pc := 15) X 0 dX4_faultOf_15 rfl rfl ?_
  refine r_iconst (pc := 16) X 0 dX4_faultOf_16 (by decide) ?_
  refine r_put (pc := 17) (ws' := (Zw (kE K) lt b c ms (bs0 (bs0 (bs0 (bs0 rd 0 0) 5 0) 7 0) 9 0) m P)) X 24 9 inX4 tyX4 tyX4_ok nmX4 rfl rfl (by decide) tf_X4_55 rfl (tyX4_ok 9 (by decide)) rfl rfl (Nat.le_of_ble_eq_true rfl) rfl dX4_faultOf_17 ?_
  refine r_aload_n (pc := 20) X 0 dX4_faultOf_20 rfl rfl ?_
  refine r_iconst (pc := 21) X 0 dX4_faultOf_21 (by decide) ?_
  refine r_put (pc := 22) (ws' := (Zw (kE K) lt b c ms (bs0 (bs0 (bs0 (bs0 (bs0 rd 0 0) 5 0) 7 0) 9 0) 11 0) m P)) X 24 11 inX4 tyX4 tyX4_ok nmX4 rfl rfl (by decide) tf_X4_42 rfl (tyX4_ok 11 (by decide)) rfl rfl (Nat.le_of_ble_eq_true rfl) rfl dX4_faultOf_22 ?_
  refine r_aload_n (pc := 25) X 0 dX4_faultOf_25 rfl rfl ?_
  refine r_get (pc := 26) (v := .ref (kB K + 31)) X 24 12 inX4 rfl rfl (by decide) tf_X4_30 rfl dX4_faultOf_26 ?_
  refine r_bipush (pc := 29) X 8 dX4_faultOf_29 (by decide) ?_
  refine r_iconst (pc := 31) X (-1) dX4_faultOf_31 (by decide) ?_
  refine r_callN (pc := 32) (As := [.ref (kB K + 31), vI 8, vI (-1)]) (rest := []) (W' := fun q32_1 => (Zw (kE K) lt b c ms (bS (bs0 (bs0 (bs0 (bs0 (bs0 rd 0 0) 5 0) 7 0) 9 0) 11 0) 12 q32_1) m P)) (rv := fun _ => none) X dX4_faultOf_32 rfl (fun a ha => c_X5_fillRow N (fun F0 => (Zw (kE K) lt b c ms (bS (bs0 (bs0 (bs0 (bs0 (bs0 rd 0 0) 5 0) 7 0) 9 0) 11 0) 12 F0) m P)) 31 (kB K + 31) 8 8 (rd 12) 8 (-1) K.1.2.1 K.2.2.1.1 (kE K) zl_8 (fun F0 => Zw_d _ _ _ _ _ _ _ _) (fun _ => rfl) (fun _ _ => rfl) a ha) (fun a => Zw_d _ _ _ _ _ _ _ _) (gd_c tc_X5_fillRow) (by decide) tt_X5_fillRow tn_RX5 rfl (n := 3) (by decide) rfl (by decide) (Nat.zero_le _) (fun q32_1 eq32_1 => ?_)
  show Rn K _ 0 0 _ 35 [(0, .ref (kB K + 24)), (1, .ref (kB K + 1)), (2, vI x2), (3, .ref (kB K + 2))] [] (Zw (kE K) lt b c ms (bS (bs0 (bs0 (bs0 (bs0 (bs0 rd 0 0) 5 0) 7 0) 9 0) 11 0) 12 q32_1) m P)
  refine r_aload_n (pc := 35) X 0 dX4_faultOf_35 rfl rfl ?_
  refine r_get (pc := 36) (v := .ref (kB K + 32)) X 24 13 inX4 rfl rfl (by decide) tf_X4_33 rfl dX4_faultOf_36 ?_
  refine r_bipush (pc := 39) X 8 dX4_faultOf_39 (by decide) ?_
  refine r_iconst (pc := 41) X (-1) dX4_faultOf_41 (by decide) ?_
  refine r_callN (pc := 42) (As := [.ref (kB K + 32), vI 8, vI (-1)]) (rest := []) (W' := fun q42_2 => (Zw (kE K) lt b c ms (bS (bS (bs0 (bs0 (bs0 (bs0 (bs0 rd 0 0) 5 0) 7 0) 9 0) 11 0) 12 q32_1) 13 q42_2) m P)) (rv := fun _ => none) X dX4_faultOf_42 rfl (fun a ha => c_X5_fillRow N (fun F0 => (Zw (kE K) lt b c ms (bS (bS (bs0 (bs0 (bs0 (bs0 (bs0 rd 0 0) 5 0) 7 0) 9 0) 11 0) 12 q32_1) 13 F0) m P)) 32 (kB K + 32) 8 8 (rd 13) 8 (-1) K.1.2.1 K.2.2.1.1 (kE K) zl_8 (fun F0 => Zw_d _ _ _ _ _ _ _ _) (fun _ => rfl) (fun _ _ => rfl) a ha) (fun a => Zw_d _ _ _ _ _ _ _ _) (gd_c tc_X5_fillRow) (by decide) tt_X5_fillRow tn_RX5 rfl (n := 3) (by decide) rfl (by decide) (Nat.zero_le _) (fun q42_2 eq42_2 => ?_)
  show Rn K _ 0 0 _ 45 [(0, .ref (kB K + 24)), (1, .ref (kB K + 1)), (2, vI x2), (3, .ref (kB K + 2))] [] (Zw (kE K) lt b c ms (bS (bS (bs0 (bs0 (bs0 (bs0 (bs0 rd 0 0) 5 0) 7 0) 9 0) 11 0) 12 q32_1) 13 q42_2) m P)
  refine r_iconst (pc := 45) X 0 dX4_faultOf_45 (by decide) ?_
  refine r_istore (pc := 46) (lv' := [(0, .ref (kB K + 24)), (1, .ref (kB K + 1)), (2, vI x2), (3, .ref (kB K + 2)), (4, vI 0)]) X [1, 2, 3, 4, 0] dX4_faultOf_46 (by decide) rfl ?_
  refine t_X4_faultOf_L48 N lt b c ms rd m P  x2 K X _ ?_ N 0 (bS (bS (bs0 (bs0 (bs0 (bs0 (bs0 rd 0 0) 5 0) 7 0) 9 0) 11 0) 12 q32_1) 13 q42_2)
  intro rd_48
  refine r_aload_n (pc := 92) X 0 dX4_faultOf_92 rfl rfl ?_
  refine r_get (pc := 93) (v := vI (rd_48 0 0)) X 24 0 inX4 rfl rfl (by decide) tf_X4_46 rfl dX4_faultOf_93 ?_
  refine r_ck1 (fun h13 => ?_)
  refine r_ifne (pc := 96) X h13 dX4_faultOf_96 (tgt := 106) (by decide) (fun h14 => ?_) (fun h14 => ?_)
  · refine r_iload_n (pc := 106) X 1 dX4_faultOf_106 rfl rfl ?_
    exact r_iret (pc := 107) X rfl rfl (by decide) dX4_faultOf_107
  · refine r_aload_n (pc := 99) X 0 dX4_faultOf_99 rfl rfl ?_
    refine r_get (pc := 100) (v := vI (rd_48 11 0)) X 24 11 inX4 rfl rfl (by decide) tf_X4_42 rfl dX4_faultOf_100 ?_
    refine r_ck1 (fun h15 => ?_)
    refine r_ifne (pc := 103) X h15 dX4_faultOf_103 (tgt := 108) (by decide) (fun h16 => ?_) (fun h16 => ?_)
    · refine r_aload_n (pc := 108) X 0 dX4_faultOf_108 rfl rfl ?_
      refine r_aload_n (pc := 109) X 2 dX4_faultOf_109 rfl rfl ?_
      refine r_callV (pc := 110) (q0 := 24) (ci := 4) (As := [.ref (kB K + 2)]) (rest := []) (W' := fun q110_17 => (Zw (kE K) lt b c ms rd_48 m P)) (rv := fun q110_17 => some (vI q110_17)) X dX4_faultOf_110 rfl (fun a ha => c_X4_strangeLetter N lt b c ms rd_48 m P K.1.2.1 K.2.2.1.1 (kE K) a ha) (fun a => Zw_d _ _ _ _ _ _ _ _) gd_X4_66 rfl (n := 1) (by decide) rfl (by decide) rfl rfl rfl (Nat.zero_le _) (fun q110_17 eq110_17 => ?_)
      show Rn K _ 0 0 _ 113 [(0, .ref (kB K + 24)), (2, vI x2), (3, .ref (kB K + 2))] [vI q110_17] (Zw (kE K) lt b c ms rd_48 m P)
      refine r_istore (pc := 113) (lv' := [(0, .ref (kB K + 24)), (2, vI x2), (3, .ref (kB K + 2)), (4, vI q110_17)]) X [1, 2, 3, 0] dX4_faultOf_113 (by decide) rfl ?_
      refine r_iload (pc := 115) X 3 dX4_faultOf_115 rfl ?_
      refine r_iconst (pc := 117) X (-1) dX4_faultOf_117 (by decide) ?_
      refine r_ck1 (fun h18 => ?_)
      refine r_icmp_eq (pc := 118) X h18 (by decide) dX4_faultOf_118 (tgt := 126) (by decide) (fun h19 => ?_) (fun h19 => ?_)
      · refine r_aload_n (pc := 126) X 0 dX4_faultOf_126 rfl rfl ?_
        refine r_callV (pc := 127) (q0 := 24) (ci := 4) (As := []) (rest := []) (W' := fun q127_20 => (Zw (kE K) lt b c ms rd_48 m P)) (rv := fun q127_20 => some (vI q127_20)) X dX4_faultOf_127 rfl (fun a ha => c_X4_emptyLetter N lt b c ms rd_48 m P K.1.2.1 K.2.2.1.1 (kE K) a ha) (fun a => Zw_d _ _ _ _ _ _ _ _) gd_X4_70 rfl (n := 0) (by decide) rfl (by decide) rfl rfl rfl (Nat.zero_le _) (fun q127_20 eq127_20 => ?_)
        show Rn K _ 0 0 _ 130 [(0, .ref (kB K + 24)), (2, vI x2), (3, .ref (kB K + 2)), (4, vI q110_17)] [vI q127_20] (Zw (kE K) lt b c ms rd_48 m P)
        exact r_iret (pc := 130) X rfl rfl (by decide) dX4_faultOf_130
      · refine r_iload (pc := 121) X 3 dX4_faultOf_121 rfl ?_
        refine r_goto (pc := 123) X dX4_faultOf_123 (tgt := 130) (by decide) ?_
        exact r_iret (pc := 130) X rfl rfl (by decide) dX4_faultOf_130
    · refine r_iload_n (pc := 106) X 1 dX4_faultOf_106 rfl rfl ?_
      exact r_iret (pc := 107) X rfl rfl (by decide) dX4_faultOf_107
theorem c_X4_faultOf (N : Nat) (lt b c ms rd m : Bd) (P : PL) (x2 : Int) (l : Launch) (D : va_G) (E : ET) (a : Int × Bd) (ha : f_X4_faultOf N lt rd x2 = some a) : Ct l yX4_faultOf (Cond.code yX4_faultOf cX4_faultOf 5 (some .int) :: lw_g) ({ frames := 5, cells := 0, slots := 0, locals := 112 } : Room) D E [.ref (E.2.2.2 + 24), .ref (E.2.2.2 + 1), vI x2, .ref (E.2.2.2 + 2)] (Zw E lt b c ms rd m P) (Zw E lt b c ms a.2 m P) (some (vI a.1)) :=
  ct_of (av := fun E => [.ref (E.2.2.2 + 24), .ref (E.2.2.2 + 1), vI x2, .ref (E.2.2.2 + 2)]) (W0 := fun E => Zw E lt b c ms rd m P) (W1 := fun E (a : Int × Bd) => Zw E lt b c ms a.2 m P) (rw := fun E a => some (vI a.1)) (by decide) rfl (fun E => Zw_d E lt b c ms rd m P) (fun E => by simp [lg_sl, z_cat, z_catR, z_catI, z_catL]) (fun K X => r_lv (by simp [lv_args, z_cat, z_catR, z_catI, z_catL]) (t_X4_faultOf N lt b c ms rd m P x2 K X)) l D E a ha
abbrev Q_X4_standsFor (K : KT) (lt b c ms rd m : Bd) (P : PL) : (Int) → State → Prop := Qm K ({ frames := 0, cells := 0, slots := 0, locals := 0 } : Room) (fun a : Int => Zw (kE K) lt b c ms rd m P) (fun a => some (vI a))
set_option maxRecDepth 100000 in
set_option maxHeartbeats 4000000 in
theorem t_X4_standsFor_L4 (N : Nat) (lt b c ms rd m : Bd) (P : PL) (K : KT) (X : Kok K cX4_standsFor yX4_standsFor.cls lw_g ({ frames := 0, cells := 0, slots := 0, locals := 0 } : Room) (some .int) 5) (k : Option (Int)) (hk : Rn K (Q_X4_standsFor K lt b c ms rd m P) 0 0 k 81 [] [] (Zw (kE K) lt b c ms rd m P)) : ∀ (n : Nat) (x2 : Int) (x3 : Int), Rn K (Q_X4_standsFor K lt b c ms rd m P) 0 0 (f_X4_standsFor_L4 rd k n x2 x3) 4 [(0, .ref (kB K + 24)), (2, vI x2), (3, vI x3)] [] (Zw (kE K) lt b c ms rd m P) := by
  intro n
  induction n with
  | zero =>
    intro x2 x3
    rw [f_X4_standsFor_L4]
    exact r_none
  | succ n ih =>
    intro x2 x3
    rw [f_X4_standsFor_L4]
    refine r_iload_n (pc := 4) X 2 dX4_standsFor_4 rfl rfl ?_
    refine r_bipush (pc := 5) X 8 dX4_standsFor_5 (by decide) ?_
    refine r_ck1 (fun h1 => ?_)
    refine r_icmp_gt (pc := 7) X h1 (by decide) dX4_standsFor_7 (tgt := 81) (by decide) (fun h2 => ?_) (fun h2 => ?_)
    · refine r_sub [] rfl ?_
      exact hk
    · refine r_iload_n (pc := 10) X 1 dX4_standsFor_10 rfl rfl ?_
      refine r_ck1 (fun h3 => ?_)
      refine r_iflt (pc := 11) X h3 dX4_standsFor_11 (tgt := 81) (by decide) (fun h4 => ?_) (fun h4 => ?_)
      · refine r_sub [] rfl ?_
        exact hk
      · refine r_iload_n (pc := 14) X 1 dX4_standsFor_14 rfl rfl ?_
        refine r_aload_n (pc := 15) X 0 dX4_standsFor_15 rfl rfl ?_
        refine r_get (pc := 16) (v := vI (rd 5 0)) X 24 5 inX4 rfl rfl (by decide) tf_X4_49 rfl dX4_standsFor_16 ?_
        refine r_ck1 (fun h5 => ?_)
        refine r_icmp_ge (pc := 19) X h3 h5 dX4_standsFor_19 (tgt := 81) (by decide) (fun h6 => ?_) (fun h6 => ?_)
        · refine r_sub [] rfl ?_
          exact hk
        · refine r_aload_n (pc := 22) X 0 dX4_standsFor_22 rfl rfl ?_
          refine r_get (pc := 23) (v := .ref (kB K + 25)) X 24 2 inX4 rfl rfl (by decide) tf_X4_9 rfl dX4_standsFor_23 ?_
          refine r_iload_n (pc := 26) X 1 dX4_standsFor_26 rfl rfl ?_
          refine r_ckA (fun h7 => ?_)
          refine r_iald (pc := 27) (f := rd 2) X 25 h7 zl_120 rfl dX4_standsFor_27 ?_
          refine r_bipush (pc := 28) X 7 dX4_standsFor_28 (by decide) ?_
          refine r_ck1 (fun h8 => ?_)
          refine r_icmp_eq (pc := 30) X h8 (by decide) dX4_standsFor_30 (tgt := 40) (by decide) (fun h9 => ?_) (fun h9 => ?_)
          · refine r_aload_n (pc := 40) X 0 dX4_standsFor_40 rfl rfl ?_
            refine r_get (pc := 41) (v := .ref (kB K + 26)) X 24 3 inX4 rfl rfl (by decide) tf_X4_15 rfl dX4_standsFor_41 ?_
            refine r_iload_n (pc := 44) X 1 dX4_standsFor_44 rfl rfl ?_
            refine r_iald (pc := 45) (f := rd 3) X 26 h7 zl_120 rfl dX4_standsFor_45 ?_
            refine r_istore (pc := 46) (lv' := [(0, .ref (kB K + 24)), (2, vI x2), (3, vI x3), (4, vI (rd 3 x2))]) X [1, 2, 3, 0] dX4_standsFor_46 (by decide) rfl ?_
            refine r_aload_n (pc := 48) X 0 dX4_standsFor_48 rfl rfl ?_
            refine r_get (pc := 49) (v := .ref (kB K + 31)) X 24 12 inX4 rfl rfl (by decide) tf_X4_30 rfl dX4_standsFor_49 ?_
            refine r_iload (pc := 52) X 3 dX4_standsFor_52 rfl ?_
            refine r_ckA (fun h10 => ?_)
            refine r_iald (pc := 54) (f := rd 12) X 31 h10 zl_8 rfl dX4_standsFor_54 ?_
            refine r_iconst (pc := 55) X (-1) dX4_standsFor_55 (by decide) ?_
            refine r_ck1 (fun h11 => ?_)
            refine r_icmp_ne (pc := 56) X h11 (by decide) dX4_standsFor_56 (tgt := 67) (by decide) (fun h12 => ?_) (fun h12 => ?_)
            · refine r_aload_n (pc := 67) X 0 dX4_standsFor_67 rfl rfl ?_
              refine r_get (pc := 68) (v := .ref (kB K + 31)) X 24 12 inX4 rfl rfl (by decide) tf_X4_30 rfl dX4_standsFor_68 ?_
              refine r_iload (pc := 71) X 3 dX4_standsFor_71 rfl ?_
              refine r_iald (pc := 73) (f := rd 12) X 31 h10 zl_8 rfl dX4_standsFor_73 ?_
              refine r_istore_n (pc := 74) (lv' := [(0, .ref (kB K + 24)), (2, vI (rd 12 (rd 3 x2))), (3, vI x3), (4, vI (rd 3 x2))]) X [1, 0, 2, 3] dX4_standsFor_74 rfl (by decide) rfl ?_
              refine r_iinc (pc := 75) (lv' := [(0, .ref (kB K + 24)), (2, vI (rd 12 (rd 3 x2))), (3, vI (x3 + 1)), (4, vI (rd 3 x2))]) X 2 [1, 2, 0, 3] dX4_standsFor_75 rfl (by decide) rfl ?_
              refine r_goto (pc := 78) X dX4_standsFor_78 (tgt := 4) (by decide) ?_
              refine r_sub [0, 1, 2] rfl ?_
              exact ih (rd 12 (rd 3 x2)) (x3 + 1)
            · refine r_aload_n (pc := 59) X 0 dX4_standsFor_59 rfl rfl ?_
              refine r_get (pc := 60) (v := .ref (kB K + 34)) X 24 15 inX4 rfl rfl (by decide) tf_X4_39 rfl dX4_standsFor_60 ?_
              refine r_iload (pc := 63) X 3 dX4_standsFor_63 rfl ?_
              refine r_iald (pc := 65) (f := rd 15) X 34 h10 zl_8 rfl dX4_standsFor_65 ?_
              exact r_iret (pc := 66) X rfl rfl (by decide) dX4_standsFor_66
          · refine r_aload_n (pc := 33) X 0 dX4_standsFor_33 rfl rfl ?_
            refine r_get (pc := 34) (v := .ref (kB K + 33)) X 24 14 inX4 rfl rfl (by decide) tf_X4_36 rfl dX4_standsFor_34 ?_
            refine r_iload_n (pc := 37) X 1 dX4_standsFor_37 rfl rfl ?_
            refine r_iald (pc := 38) (f := rd 14) X 33 h7 zl_120 rfl dX4_standsFor_38 ?_
            exact r_iret (pc := 39) X rfl rfl (by decide) dX4_standsFor_39
set_option maxRecDepth 100000 in
set_option maxHeartbeats 4000000 in
theorem t_X4_standsFor (N : Nat) (lt b c ms rd m : Bd) (P : PL) (x1 : Int) (K : KT) (X : Kok K cX4_standsFor yX4_standsFor.cls lw_g ({ frames := 0, cells := 0, slots := 0, locals := 0 } : Room) (some .int) 5) : Rn K (Q_X4_standsFor K lt b c ms rd m P) 0 0 (f_X4_standsFor N rd x1) 0 [(0, .ref (kB K + 24)), (1, vI x1)] [] (Zw (kE K) lt b c ms rd m P) := by
  unfold f_X4_standsFor
  refine r_iload_n (pc := 0) X 1 dX4_standsFor_0 rfl rfl ?_
  refine r_istore_n (pc := 1) (lv' := [(0, .ref (kB K + 24)), (1, vI x1), (2, vI x1)]) X [1, 2, 0] dX4_standsFor_1 rfl (by decide) rfl ?_
  refine r_iconst (pc := 2) X 0 dX4_standsFor_2 (by decide) ?_
  refine r_istore_n (pc := 3) (lv' := [(0, .ref (kB K + 24)), (1, vI x1), (2, vI x1), (3, vI 0)]) X [1, 2, 3, 0] dX4_standsFor_3 rfl (by decide) rfl ?_
  refine r_sub [0, 2, 3] rfl ?_
  refine t_X4_standsFor_L4 N lt b c ms rd m P   K X _ ?_ N x1 0
  refine r_iconst (pc := 81) X (-1) dX4_standsFor_81 (by decide) ?_
  exact r_iret (pc := 82) X rfl rfl (by decide) dX4_standsFor_82
theorem c_X4_standsFor (N : Nat) (lt b c ms rd m : Bd) (P : PL) (x1 : Int) (l : Launch) (D : va_G) (E : ET) (a : Int) (ha : f_X4_standsFor N rd x1 = some a) : Ct l yX4_standsFor (Cond.code yX4_standsFor cX4_standsFor 5 (some .int) :: lw_g) ({ frames := 0, cells := 0, slots := 0, locals := 0 } : Room) D E [.ref (E.2.2.2 + 24), vI x1] (Zw E lt b c ms rd m P) (Zw E lt b c ms rd m P) (some (vI a)) :=
  ct_of (av := fun E => [.ref (E.2.2.2 + 24), vI x1]) (W0 := fun E => Zw E lt b c ms rd m P) (W1 := fun E (a : Int) => Zw E lt b c ms rd m P) (rw := fun E a => some (vI a)) (by decide) rfl (fun E => Zw_d E lt b c ms rd m P) (fun E => by simp [lg_sl, z_cat, z_catR, z_catI, z_catL]) (fun K X => r_lv (by simp [lv_args, z_cat, z_catR, z_catI, z_catL]) (t_X4_standsFor N lt b c ms rd m P x1 K X)) l D E a ha
abbrev Q_X4_layOut (K : KT) (lt b c ms rd m : Bd) (P : PL) : (Bd × Bd) → State → Prop := Qm K ({ frames := 3, cells := 0, slots := 0, locals := 67 } : Room) (fun a : Bd × Bd => Zw (kE K) lt a.1 c ms a.2 m P) (fun a => none)
set_option maxRecDepth 100000 in
set_option maxHeartbeats 4000000 in
theorem t_X4_layOut_L6 (N : Nat) (lt b c ms rd m : Bd) (P : PL) (K : KT) (X : Kok K cX4_layOut yX4_layOut.cls lw_g ({ frames := 3, cells := 0, slots := 0, locals := 67 } : Room) none 6) (k : Bd → Bd → Option (Bd × Bd)) (hk : ∀ (b1 : Bd) (rd1 : Bd), Rn K (Q_X4_layOut K lt b c ms rd m P) 0 0 (k b1 rd1) 63 [(0, .ref (kB K + 24)), (1, .ref (kB K + 5))] [] (Zw (kE K) lt b1 c ms rd1 m P)) : ∀ (n : Nat) (x3 : Int) (b1 : Bd) (rd1 : Bd), Rn K (Q_X4_layOut K lt b c ms rd m P) 0 0 (f_X4_layOut_L6 N lt P k n x3 b1 rd1) 6 [(0, .ref (kB K + 24)), (1, .ref (kB K + 5)), (2, .ref (kB K + 2)), (3, vI x3)] [] (Zw (kE K) lt b1 c ms rd1 m P) := by
  intro n
  induction n with
  | zero =>
    intro x3 b1 rd1
    rw [f_X4_layOut_L6]
    exact r_none
  | succ n ih =>
    intro x3 b1 rd1
    rw [f_X4_layOut_L6]
    refine r_iload_n (pc := 6) X 3 dX4_layOut_6 rfl rfl ?_
    refine r_bipush (pc := 7) X 8 dX4_layOut_7 (by decide) ?_
    refine r_ck1 (fun h2 => ?_)
    refine r_icmp_ge (pc := 9) X h2 (by decide) dX4_layOut_9 (tgt := 63) (by decide) (fun h3 => ?_) (fun h3 => ?_)
    · refine r_sub [0, 1] rfl ?_
      exact hk b1 rd1
    · refine r_aload_n (pc := 12) X 0 dX4_layOut_12 rfl rfl ?_
      refine r_get (pc := 13) (v := .ref (kB K + 31)) X 24 12 inX4 rfl rfl (by decide) tf_X4_30 rfl dX4_layOut_13 ?_
      refine r_iload_n (pc := 16) X 3 dX4_layOut_16 rfl rfl ?_
      refine r_ckA (fun h4 => ?_)
      refine r_iald (pc := 17) (f := rd1 12) X 31 h4 zl_8 rfl dX4_layOut_17 ?_
      refine r_iconst (pc := 18) X (-1) dX4_layOut_18 (by decide) ?_
      refine r_jn (J := fun j33 => ∀ (s0_33 : Int), Rn K (Q_X4_layOut K lt b c ms rd m P) 0 0 (j33 s0_33) 33 [(0, .ref (kB K + 24)), (1, .ref (kB K + 5)), (2, .ref (kB K + 2)), (3, vI x3)] [vI s0_33] (Zw (kE K) lt b1 c ms rd1 m P)) ?_ (fun j33 hj33 => ?_)
      · intro s0_33
        refine r_istore (pc := 33) (lv' := [(0, .ref (kB K + 24)), (1, .ref (kB K + 5)), (2, .ref (kB K + 2)), (3, vI x3), (4, vI s0_33)]) X [1, 2, 3, 4, 0] dX4_layOut_33 (by decide) rfl ?_
        refine r_aload_n (pc := 35) X 0 dX4_layOut_35 rfl rfl ?_
        refine r_get (pc := 36) (v := .ref (kB K + 34)) X 24 15 inX4 rfl rfl (by decide) tf_X4_39 rfl dX4_layOut_36 ?_
        refine r_iload_n (pc := 39) X 3 dX4_layOut_39 rfl rfl ?_
        refine r_iload (pc := 40) X 4 dX4_layOut_40 rfl ?_
        refine r_ck1 (fun h5 => ?_)
        refine r_ifeq (pc := 42) X h5 dX4_layOut_42 (tgt := 55) (by decide) (fun h6 => ?_) (fun h6 => ?_)
        · refine r_iconst (pc := 55) X (-1) dX4_layOut_55 (by decide) ?_
          refine r_iast (pc := 56) (f := rd1 15) (ws' := (Zw (kE K) lt b1 c ms (bS rd1 15 (aS (rd1 15) x3 (-1))) m P)) X 34 h4 zl_8 rfl rfl dX4_layOut_56 ?_
          refine r_iinc (pc := 57) (lv' := [(0, .ref (kB K + 24)), (1, .ref (kB K + 5)), (2, .ref (kB K + 2)), (3, vI (x3 + 1)), (4, vI s0_33)]) X 3 [1, 2, 3, 0, 4] dX4_layOut_57 rfl (by decide) rfl ?_
          refine r_goto (pc := 60) X dX4_layOut_60 (tgt := 6) (by decide) ?_
          refine r_sub [0, 1, 2, 3] rfl ?_
          exact ih (x3 + 1) b1 (bS rd1 15 (aS (rd1 15) x3 (-1)))
        · refine r_aload_n (pc := 45) X 1 dX4_layOut_45 rfl rfl ?_
          refine r_aload_n (pc := 46) X 2 dX4_layOut_46 rfl rfl ?_
          refine r_iload_n (pc := 47) X 3 dX4_layOut_47 rfl rfl ?_
          refine r_aald (pc := 48) (f := lt 3) X 2 h4 zl_8 rfl dX4_layOut_48 ?_
          refine r_callV (pc := 49) (q0 := 5) (ci := 0) (As := [vG (kB K) (lt 3 x3)]) (rest := [vI x3, .ref (kB K + 34)]) (W' := fun q49_7 => (Zw (kE K) lt q49_7.2 c ms rd1 m P)) (rv := fun q49_7 => some (vI q49_7.1)) X dX4_layOut_49 rfl (fun a ha => c_X0_putAll N lt b1 c ms rd1 m P (lt 3 x3) K.1.2.1 K.2.2.1.1 (kE K) a ha) (fun a => Zw_d _ _ _ _ _ _ _ _) gd_X4_132 rfl (n := 1) (by decide) rfl (by decide) rfl rfl rfl (by simp [z_cat, z_catR, z_catI, z_catL]) (fun q49_7 eq49_7 => ?_)
          show Rn K _ 0 0 _ 52 [(0, .ref (kB K + 24)), (1, .ref (kB K + 5)), (2, .ref (kB K + 2)), (3, vI x3), (4, vI s0_33)] [vI q49_7.1, vI x3, .ref (kB K + 34)] (Zw (kE K) lt q49_7.2 c ms rd1 m P)
          refine r_goto (pc := 52) X dX4_layOut_52 (tgt := 56) (by decide) ?_
          refine r_iast (pc := 56) (f := rd1 15) (ws' := (Zw (kE K) lt q49_7.2 c ms (bS rd1 15 (aS (rd1 15) x3 q49_7.1)) m P)) X 34 h4 zl_8 rfl rfl dX4_layOut_56 ?_
          refine r_iinc (pc := 57) (lv' := [(0, .ref (kB K + 24)), (1, .ref (kB K + 5)), (2, .ref (kB K + 2)), (3, vI (x3 + 1)), (4, vI s0_33)]) X 3 [1, 2, 3, 0, 4] dX4_layOut_57 rfl (by decide) rfl ?_
          refine r_goto (pc := 60) X dX4_layOut_60 (tgt := 6) (by decide) ?_
          refine r_sub [0, 1, 2, 3] rfl ?_
          exact ih (x3 + 1) q49_7.2 (bS rd1 15 (aS (rd1 15) x3 q49_7.1))
      refine r_jn (J := fun j32 => Rn K (Q_X4_layOut K lt b c ms rd m P) 0 0 j32 32 [(0, .ref (kB K + 24)), (1, .ref (kB K + 5)), (2, .ref (kB K + 2)), (3, vI x3)] [] (Zw (kE K) lt b1 c ms rd1 m P)) ?_ (fun j32 hj32 => ?_)
      · skip
        refine r_iconst (pc := 32) X 0 dX4_layOut_32 (by decide) ?_
        exact hj33 0
      refine r_ck1 (fun h8 => ?_)
      refine r_icmp_ne (pc := 19) X h8 (by decide) dX4_layOut_19 (tgt := 32) (by decide) (fun h9 => ?_) (fun h9 => ?_)
      · exact hj32
      · refine r_aload_n (pc := 22) X 2 dX4_layOut_22 rfl rfl ?_
        refine r_iload_n (pc := 23) X 3 dX4_layOut_23 rfl rfl ?_
        refine r_aald (pc := 24) (f := lt 3) X 2 h4 zl_8 rfl dX4_layOut_24 ?_
        refine r_ifnull (pc := 25) X dX4_layOut_25 (tgt := 32) (by decide) (fun h10 => ?_) (fun h10 => ?_)
        · exact hj32
        · refine r_iconst (pc := 28) X 1 dX4_layOut_28 (by decide) ?_
          refine r_goto (pc := 29) X dX4_layOut_29 (tgt := 33) (by decide) ?_
          exact hj33 1
set_option maxRecDepth 100000 in
set_option maxHeartbeats 4000000 in
theorem t_X4_layOut_L65 (N : Nat) (lt b c ms rd m : Bd) (P : PL) (K : KT) (X : Kok K cX4_layOut yX4_layOut.cls lw_g ({ frames := 3, cells := 0, slots := 0, locals := 67 } : Room) none 6) (k : Bd → Bd → Option (Bd × Bd)) (hk : ∀ (b1 : Bd) (rd1 : Bd), Rn K (Q_X4_layOut K lt b c ms rd m P) 0 0 (k b1 rd1) 112 [(0, .ref (kB K + 24)), (1, .ref (kB K + 5))] [] (Zw (kE K) lt b1 c ms rd1 m P)) : ∀ (n : Nat) (x3 : Int) (b1 : Bd) (rd1 : Bd), Rn K (Q_X4_layOut K lt b c ms rd m P) 0 0 (f_X4_layOut_L65 k n x3 b1 rd1) 65 [(0, .ref (kB K + 24)), (1, .ref (kB K + 5)), (3, vI x3)] [] (Zw (kE K) lt b1 c ms rd1 m P) := by
  intro n
  induction n with
  | zero =>
    intro x3 b1 rd1
    rw [f_X4_layOut_L65]
    exact r_none
  | succ n ih =>
    intro x3 b1 rd1
    rw [f_X4_layOut_L65]
    refine r_iload_n (pc := 65) X 2 dX4_layOut_65 rfl rfl ?_
    refine r_aload_n (pc := 66) X 0 dX4_layOut_66 rfl rfl ?_
    refine r_get (pc := 67) (v := vI (rd1 5 0)) X 24 5 inX4 rfl rfl (by decide) tf_X4_49 rfl dX4_layOut_67 ?_
    refine r_ck1 (fun h11 => ?_)
    refine r_ck1 (fun h12 => ?_)
    refine r_icmp_ge (pc := 70) X h11 h12 dX4_layOut_70 (tgt := 112) (by decide) (fun h13 => ?_) (fun h13 => ?_)
    · refine r_sub [0, 1] rfl ?_
      exact hk b1 rd1
    · refine r_aload_n (pc := 73) X 0 dX4_layOut_73 rfl rfl ?_
      refine r_get (pc := 74) (v := .ref (kB K + 33)) X 24 14 inX4 rfl rfl (by decide) tf_X4_36 rfl dX4_layOut_74 ?_
      refine r_iload_n (pc := 77) X 2 dX4_layOut_77 rfl rfl ?_
      refine r_aload_n (pc := 78) X 0 dX4_layOut_78 rfl rfl ?_
      refine r_get (pc := 79) (v := .ref (kB K + 25)) X 24 2 inX4 rfl rfl (by decide) tf_X4_9 rfl dX4_layOut_79 ?_
      refine r_iload_n (pc := 82) X 2 dX4_layOut_82 rfl rfl ?_
      refine r_ckA (fun h14 => ?_)
      refine r_iald (pc := 83) (f := rd1 2) X 25 h14 zl_120 rfl dX4_layOut_83 ?_
      refine r_bipush (pc := 84) X 7 dX4_layOut_84 (by decide) ?_
      refine r_ck1 (fun h15 => ?_)
      refine r_icmp_ne (pc := 86) X h15 (by decide) dX4_layOut_86 (tgt := 93) (by decide) (fun h16 => ?_) (fun h16 => ?_)
      · refine r_aload_n (pc := 93) X 1 dX4_layOut_93 rfl rfl ?_
        refine r_aload_n (pc := 94) X 0 dX4_layOut_94 rfl rfl ?_
        refine r_get (pc := 95) (v := .ref (kB K + 25)) X 24 2 inX4 rfl rfl (by decide) tf_X4_9 rfl dX4_layOut_95 ?_
        refine r_iload_n (pc := 98) X 2 dX4_layOut_98 rfl rfl ?_
        refine r_iald (pc := 99) (f := rd1 2) X 25 h14 zl_120 rfl dX4_layOut_99 ?_
        refine r_iconst (pc := 100) X 0 dX4_layOut_100 (by decide) ?_
        refine r_iconst (pc := 101) X 0 dX4_layOut_101 (by decide) ?_
        refine r_callV (pc := 102) (q0 := 5) (ci := 0) (As := [vI (rd1 2 x3), vI 0, vI 0]) (rest := [vI x3, .ref (kB K + 33)]) (W' := fun q102_17 => (Zw (kE K) lt q102_17.2 c ms rd1 m P)) (rv := fun q102_17 => some (vI q102_17.1)) X dX4_layOut_102 rfl (fun a ha => c_X0_put N lt b1 c ms rd1 m P (rd1 2 x3) 0 0 K.1.2.1 K.2.2.1.1 (kE K) a ha) (fun a => Zw_d _ _ _ _ _ _ _ _) gd_X4_136 rfl (n := 3) (by decide) rfl (by decide) rfl rfl rfl (by simp [z_cat, z_catR, z_catI, z_catL]) (fun q102_17 eq102_17 => ?_)
        show Rn K _ 0 0 _ 105 [(0, .ref (kB K + 24)), (1, .ref (kB K + 5)), (3, vI x3)] [vI q102_17.1, vI x3, .ref (kB K + 33)] (Zw (kE K) lt q102_17.2 c ms rd1 m P)
        refine r_iast (pc := 105) (f := rd1 14) (ws' := (Zw (kE K) lt q102_17.2 c ms (bS rd1 14 (aS (rd1 14) x3 q102_17.1)) m P)) X 33 h14 zl_120 rfl rfl dX4_layOut_105 ?_
        refine r_iinc (pc := 106) (lv' := [(0, .ref (kB K + 24)), (1, .ref (kB K + 5)), (3, vI (x3 + 1))]) X 2 [1, 2, 0] dX4_layOut_106 rfl (by decide) rfl ?_
        refine r_goto (pc := 109) X dX4_layOut_109 (tgt := 65) (by decide) ?_
        exact ih (x3 + 1) q102_17.2 (bS rd1 14 (aS (rd1 14) x3 q102_17.1))
      · refine r_iconst (pc := 89) X (-1) dX4_layOut_89 (by decide) ?_
        refine r_goto (pc := 90) X dX4_layOut_90 (tgt := 105) (by decide) ?_
        refine r_iast (pc := 105) (f := rd1 14) (ws' := (Zw (kE K) lt b1 c ms (bS rd1 14 (aS (rd1 14) x3 (-1))) m P)) X 33 h14 zl_120 rfl rfl dX4_layOut_105 ?_
        refine r_iinc (pc := 106) (lv' := [(0, .ref (kB K + 24)), (1, .ref (kB K + 5)), (3, vI (x3 + 1))]) X 2 [1, 2, 0] dX4_layOut_106 rfl (by decide) rfl ?_
        refine r_goto (pc := 109) X dX4_layOut_109 (tgt := 65) (by decide) ?_
        exact ih (x3 + 1) b1 (bS rd1 14 (aS (rd1 14) x3 (-1)))
set_option maxRecDepth 100000 in
set_option maxHeartbeats 4000000 in
theorem t_X4_layOut_L151 (N : Nat) (lt b c ms rd m : Bd) (P : PL) (rd1 : Bd) (x3 x4 : Int) (K : KT) (X : Kok K cX4_layOut yX4_layOut.cls lw_g ({ frames := 3, cells := 0, slots := 0, locals := 67 } : Room) none 6) (k : Bd → Option (Bd × Bd)) (hk : ∀ (b1 : Bd), Rn K (Q_X4_layOut K lt b c ms rd m P) 0 0 (k b1) 200 [(0, .ref (kB K + 24)), (1, .ref (kB K + 5)), (3, vI x3)] [] (Zw (kE K) lt b1 c ms rd1 m P)) : ∀ (n : Nat) (x5 : Int) (b1 : Bd), Rn K (Q_X4_layOut K lt b c ms rd m P) 0 0 (f_X4_layOut_L151 N rd1 x3 x4 k n x5 b1) 151 [(0, .ref (kB K + 24)), (1, .ref (kB K + 5)), (3, vI x3), (4, vI x4), (5, vI x5)] [] (Zw (kE K) lt b1 c ms rd1 m P) := by
  intro n
  induction n with
  | zero =>
    intro x5 b1
    rw [f_X4_layOut_L151]
    exact r_none
  | succ n ih =>
    intro x5 b1
    rw [f_X4_layOut_L151]
    refine r_iload (pc := 151) X 4 dX4_layOut_151 rfl ?_
    refine r_iload (pc := 153) X 3 dX4_layOut_153 rfl ?_
    refine r_ck1 (fun h22 => ?_)
    refine r_ck1 (fun h23 => ?_)
    refine r_icmp_ge (pc := 155) X h22 h23 dX4_layOut_155 (tgt := 200) (by decide) (fun h24 => ?_) (fun h24 => ?_)
    · refine r_sub [0, 1, 2] rfl ?_
      exact hk b1
    · refine r_aload_n (pc := 158) X 1 dX4_layOut_158 rfl rfl ?_
      refine r_aload_n (pc := 159) X 0 dX4_layOut_159 rfl rfl ?_
      refine r_get (pc := 160) (v := .ref (kB K + 33)) X 24 14 inX4 rfl rfl (by decide) tf_X4_36 rfl dX4_layOut_160 ?_
      refine r_iload_n (pc := 163) X 2 dX4_layOut_163 rfl rfl ?_
      refine r_ckA (fun h25 => ?_)
      refine r_iald (pc := 164) (f := rd1 14) X 33 h25 zl_120 rfl dX4_layOut_164 ?_
      refine r_iload (pc := 165) X 4 dX4_layOut_165 rfl ?_
      refine r_aload_n (pc := 167) X 0 dX4_layOut_167 rfl rfl ?_
      refine r_iload (pc := 168) X 4 dX4_layOut_168 rfl ?_
      refine r_jn (J := fun j188 => ∀ (s4_188 : Int), Rn K (Q_X4_layOut K lt b c ms rd m P) 0 0 (j188 s4_188) 188 [(0, .ref (kB K + 24)), (1, .ref (kB K + 5)), (3, vI x3), (4, vI x4), (5, vI x5)] [vI s4_188, .ref (kB K + 24), vI x5, vI (rd1 14 x3), .ref (kB K + 5)] (Zw (kE K) lt b1 c ms rd1 m P)) ?_ (fun j188 hj188 => ?_)
      · intro s4_188
        refine r_callV (pc := 188) (q0 := 24) (ci := 4) (As := [vI s4_188]) (rest := [vI x5, vI (rd1 14 x3), .ref (kB K + 5)]) (W' := fun q188_26 => (Zw (kE K) lt b1 c ms rd1 m P)) (rv := fun q188_26 => some (vI q188_26)) X dX4_layOut_188 rfl (fun a ha => c_X4_standsFor N lt b1 c ms rd1 m P s4_188 K.1.2.1 K.2.2.1.1 (kE K) a ha) (fun a => Zw_d _ _ _ _ _ _ _ _) gd_X4_142 rfl (n := 1) (by decide) rfl (by decide) rfl rfl rfl (by simp [z_cat, z_catR, z_catI, z_catL]) (fun q188_26 eq188_26 => ?_)
        show Rn K _ 0 0 _ 191 [(0, .ref (kB K + 24)), (1, .ref (kB K + 5)), (3, vI x3), (4, vI x4), (5, vI x5)] [vI q188_26, vI x5, vI (rd1 14 x3), .ref (kB K + 5)] (Zw (kE K) lt b1 c ms rd1 m P)
        refine r_callV (pc := 191) (q0 := 5) (ci := 0) (As := [vI (rd1 14 x3), vI x5, vI q188_26]) (rest := []) (W' := fun q191_27 => (Zw (kE K) lt q191_27 c ms rd1 m P)) (rv := fun q191_27 => none) X dX4_layOut_191 rfl (fun a ha => c_X0_link N lt b1 c ms rd1 m P (rd1 14 x3) x5 q188_26 K.1.2.1 K.2.2.1.1 (kE K) a ha) (fun a => Zw_d _ _ _ _ _ _ _ _) gd_X4_145 rfl (n := 3) (by decide) rfl (by decide) rfl rfl rfl (Nat.zero_le _) (fun q191_27 eq191_27 => ?_)
        show Rn K _ 0 0 _ 194 [(0, .ref (kB K + 24)), (1, .ref (kB K + 5)), (3, vI x3), (4, vI x4), (5, vI x5)] [] (Zw (kE K) lt q191_27 c ms rd1 m P)
        refine r_iinc (pc := 194) (lv' := [(0, .ref (kB K + 24)), (1, .ref (kB K + 5)), (3, vI x3), (4, vI x4), (5, vI (x5 + 1))]) X 4 [1, 2, 3, 4, 0] dX4_layOut_194 rfl (by decide) rfl ?_
        refine r_goto (pc := 197) X dX4_layOut_197 (tgt := 151) (by decide) ?_
        exact ih (x5 + 1) q191_27
      refine r_ifne (pc := 170) X h22 dX4_layOut_170 (tgt := 182) (by decide) (fun h28 => ?_) (fun h28 => ?_)
      · refine r_aload_n (pc := 182) X 0 dX4_layOut_182 rfl rfl ?_
        refine r_get (pc := 183) (v := .ref (kB K + 27)) X 24 4 inX4 rfl rfl (by decide) tf_X4_18 rfl dX4_layOut_183 ?_
        refine r_iload_n (pc := 186) X 2 dX4_layOut_186 rfl rfl ?_
        refine r_iald (pc := 187) (f := rd1 4) X 27 h25 zl_120 rfl dX4_layOut_187 ?_
        exact hj188 (rd1 4 x3)
      · refine r_aload_n (pc := 173) X 0 dX4_layOut_173 rfl rfl ?_
        refine r_get (pc := 174) (v := .ref (kB K + 26)) X 24 3 inX4 rfl rfl (by decide) tf_X4_15 rfl dX4_layOut_174 ?_
        refine r_iload_n (pc := 177) X 2 dX4_layOut_177 rfl rfl ?_
        refine r_iald (pc := 178) (f := rd1 3) X 26 h25 zl_120 rfl dX4_layOut_178 ?_
        refine r_goto (pc := 179) X dX4_layOut_179 (tgt := 188) (by decide) ?_
        exact hj188 (rd1 3 x3)
set_option maxRecDepth 100000 in
set_option maxHeartbeats 4000000 in
theorem t_X4_layOut_L114 (N : Nat) (lt b c ms rd m : Bd) (P : PL) (rd1 : Bd) (K : KT) (X : Kok K cX4_layOut yX4_layOut.cls lw_g ({ frames := 3, cells := 0, slots := 0, locals := 67 } : Room) none 6) (k : Bd → Option (Bd × Bd)) (hk : ∀ (b1 : Bd), Rn K (Q_X4_layOut K lt b c ms rd m P) 0 0 (k b1) 206 [] [] (Zw (kE K) lt b1 c ms rd1 m P)) : ∀ (n : Nat) (x3 : Int) (b1 : Bd), Rn K (Q_X4_layOut K lt b c ms rd m P) 0 0 (f_X4_layOut_L114 N rd1 k n x3 b1) 114 [(0, .ref (kB K + 24)), (1, .ref (kB K + 5)), (3, vI x3)] [] (Zw (kE K) lt b1 c ms rd1 m P) := by
  intro n
  induction n with
  | zero =>
    intro x3 b1
    rw [f_X4_layOut_L114]
    exact r_none
  | succ n ih =>
    intro x3 b1
    rw [f_X4_layOut_L114]
    refine r_iload_n (pc := 114) X 2 dX4_layOut_114 rfl rfl ?_
    refine r_aload_n (pc := 115) X 0 dX4_layOut_115 rfl rfl ?_
    refine r_get (pc := 116) (v := vI (rd1 5 0)) X 24 5 inX4 rfl rfl (by decide) tf_X4_49 rfl dX4_layOut_116 ?_
    refine r_ck1 (fun h18 => ?_)
    refine r_ck1 (fun h19 => ?_)
    refine r_icmp_ge (pc := 119) X h18 h19 dX4_layOut_119 (tgt := 206) (by decide) (fun h20 => ?_) (fun h20 => ?_)
    · refine r_sub [] rfl ?_
      exact hk b1
    · refine r_aload_n (pc := 122) X 0 dX4_layOut_122 rfl rfl ?_
      refine r_get (pc := 123) (v := .ref (kB K + 25)) X 24 2 inX4 rfl rfl (by decide) tf_X4_9 rfl dX4_layOut_123 ?_
      refine r_iload_n (pc := 126) X 2 dX4_layOut_126 rfl rfl ?_
      refine r_ckA (fun h21 => ?_)
      refine r_iald (pc := 127) (f := rd1 2) X 25 h21 zl_120 rfl dX4_layOut_127 ?_
      refine r_bipush (pc := 128) X 7 dX4_layOut_128 (by decide) ?_
      refine r_jn (J := fun j146 => ∀ (s0_146 : Int), Rn K (Q_X4_layOut K lt b c ms rd m P) 0 0 (j146 s0_146) 146 [(0, .ref (kB K + 24)), (1, .ref (kB K + 5)), (3, vI x3)] [vI s0_146] (Zw (kE K) lt b1 c ms rd1 m P)) ?_ (fun j146 hj146 => ?_)
      · intro s0_146
        refine r_istore (pc := 146) (lv' := [(0, .ref (kB K + 24)), (1, .ref (kB K + 5)), (3, vI x3), (4, vI s0_146)]) X [1, 2, 3, 0] dX4_layOut_146 (by decide) rfl ?_
        refine r_iconst (pc := 148) X 0 dX4_layOut_148 (by decide) ?_
        refine r_istore (pc := 149) (lv' := [(0, .ref (kB K + 24)), (1, .ref (kB K + 5)), (3, vI x3), (4, vI s0_146), (5, vI 0)]) X [1, 2, 3, 4, 0] dX4_layOut_149 (by decide) rfl ?_
        refine t_X4_layOut_L151 N lt b c ms rd m P rd1 x3 s0_146 K X _ ?_ N 0 b1
        intro b_151
        refine r_iinc (pc := 200) (lv' := [(0, .ref (kB K + 24)), (1, .ref (kB K + 5)), (3, vI (x3 + 1))]) X 2 [1, 2, 0] dX4_layOut_200 rfl (by decide) rfl ?_
        refine r_goto (pc := 203) X dX4_layOut_203 (tgt := 114) (by decide) ?_
        exact ih (x3 + 1) b_151
      refine r_ck1 (fun h29 => ?_)
      refine r_icmp_ne (pc := 130) X h29 (by decide) dX4_layOut_130 (tgt := 137) (by decide) (fun h30 => ?_) (fun h30 => ?_)
      · refine r_aload_n (pc := 137) X 0 dX4_layOut_137 rfl rfl ?_
        refine r_get (pc := 138) (v := .ref (kB K + 25)) X 24 2 inX4 rfl rfl (by decide) tf_X4_9 rfl dX4_layOut_138 ?_
        refine r_iload_n (pc := 141) X 2 dX4_layOut_141 rfl rfl ?_
        refine r_iald (pc := 142) (f := rd1 2) X 25 h21 zl_120 rfl dX4_layOut_142 ?_
        refine r_callN (pc := 143) (As := [vI (rd1 2 x3)]) (rest := []) (W' := fun q143_31 => (Zw (kE K) lt b1 c ms rd1 m P)) (rv := fun q143_31 => some (vI q143_31)) X dX4_layOut_143 rfl (fun a ha => c_X5_partsOf N lt b1 c ms rd1 m P (rd1 2 x3) K.1.2.1 K.2.2.1.1 (kE K) a ha) (fun a => Zw_d _ _ _ _ _ _ _ _) (gd_c tc_X5_partsOf) (by decide) tt_X5_partsOf tn_RX5 rfl (n := 1) (by decide) rfl (by decide) (Nat.zero_le _) (fun q143_31 eq143_31 => ?_)
        show Rn K _ 0 0 _ 146 [(0, .ref (kB K + 24)), (1, .ref (kB K + 5)), (3, vI x3)] [vI q143_31] (Zw (kE K) lt b1 c ms rd1 m P)
        exact hj146 q143_31
      · refine r_iconst (pc := 133) X 0 dX4_layOut_133 (by decide) ?_
        refine r_goto (pc := 134) X dX4_layOut_134 (tgt := 146) (by decide) ?_
        exact hj146 0
set_option maxRecDepth 100000 in
set_option maxHeartbeats 4000000 in
theorem t_X4_layOut (N : Nat) (lt b c ms rd m : Bd) (P : PL) (K : KT) (X : Kok K cX4_layOut yX4_layOut.cls lw_g ({ frames := 3, cells := 0, slots := 0, locals := 67 } : Room) none 6) : Rn K (Q_X4_layOut K lt b c ms rd m P) 0 0 (f_X4_layOut N lt b rd P) 0 [(0, .ref (kB K + 24)), (1, .ref (kB K + 5)), (2, .ref (kB K + 2))] [] (Zw (kE K) lt b c ms rd m P) := by
  unfold f_X4_layOut
  refine r_aload_n (pc := 0) X 1 dX4_layOut_0 rfl rfl ?_
  refine r_callV (pc := 1) (q0 := 5) (ci := 0) (As := []) (rest := []) (W' := fun q1_1 => (Zw (kE K) lt q1_1 c ms rd m P)) (rv := fun q1_1 => none) X dX4_layOut_1 rfl (fun a ha => c_X0_start N lt b c ms rd m P K.1.2.1 K.2.2.1.1 (kE K) a ha) (fun a => Zw_d _ _ _ _ _ _ _ _) gd_X4_127 rfl (n := 0) (by decide) rfl (by decide) rfl rfl rfl (Nat.zero_le _) (fun q1_1 eq1_1 => ?_)
  show Rn K _ 0 0 _ 4 [(0, .ref (kB K + 24)), (1, .ref (kB K + 5)), (2, .ref (kB K + 2))] [] (Zw (kE K) lt q1_1 c ms rd m P)
  refine r_iconst (pc := 4) X 0 dX4_layOut_4 (by decide) ?_
  refine r_istore_n (pc := 5) (lv' := [(0, .ref (kB K + 24)), (1, .ref (kB K + 5)), (2, .ref (kB K + 2)), (3, vI 0)]) X [1, 2, 3, 0] dX4_layOut_5 rfl (by decide) rfl ?_
  refine t_X4_layOut_L6 N lt b c ms rd m P   K X _ ?_ N 0 q1_1 rd
  intro b_6 rd_6
  refine r_iconst (pc := 63) X 0 dX4_layOut_63 (by decide) ?_
  refine r_istore_n (pc := 64) (lv' := [(0, .ref (kB K + 24)), (1, .ref (kB K + 5)), (3, vI 0)]) X [1, 2, 0] dX4_layOut_64 rfl (by decide) rfl ?_
  refine t_X4_layOut_L65 N lt b c ms rd m P   K X _ ?_ N 0 b_6 rd_6
  intro b_65 rd_65
  refine r_iconst (pc := 112) X 0 dX4_layOut_112 (by decide) ?_
  refine r_istore_n (pc := 113) (lv' := [(0, .ref (kB K + 24)), (1, .ref (kB K + 5)), (3, vI 0)]) X [1, 2, 0] dX4_layOut_113 rfl (by decide) rfl ?_
  refine t_X4_layOut_L114 N lt b c ms rd m P rd_65  K X _ ?_ N 0 b_65
  intro b_114
  exact r_vret (pc := 206) X rfl rfl (by decide) dX4_layOut_206
theorem c_X4_layOut (N : Nat) (lt b c ms rd m : Bd) (P : PL) (l : Launch) (D : va_G) (E : ET) (a : Bd × Bd) (ha : f_X4_layOut N lt b rd P = some a) : Ct l yX4_layOut (Cond.code yX4_layOut cX4_layOut 6 none :: lw_g) ({ frames := 3, cells := 0, slots := 0, locals := 67 } : Room) D E [.ref (E.2.2.2 + 24), .ref (E.2.2.2 + 5), .ref (E.2.2.2 + 2)] (Zw E lt b c ms rd m P) (Zw E lt a.1 c ms a.2 m P) (none) :=
  ct_of (av := fun E => [.ref (E.2.2.2 + 24), .ref (E.2.2.2 + 5), .ref (E.2.2.2 + 2)]) (W0 := fun E => Zw E lt b c ms rd m P) (W1 := fun E (a : Bd × Bd) => Zw E lt a.1 c ms a.2 m P) (rw := fun E a => none) (by decide) rfl (fun E => Zw_d E lt b c ms rd m P) (fun E => by simp [lg_sl, z_cat, z_catR, z_catI, z_catL]) (fun K X => r_lv (by simp [lv_args, z_cat, z_catR, z_catI, z_catL]) (t_X4_layOut N lt b c ms rd m P  K X)) l D E a ha
abbrev Q_X4_equationCount (K : KT) (lt b c ms rd m : Bd) (P : PL) : (Int) → State → Prop := Qm K ({ frames := 0, cells := 0, slots := 0, locals := 0 } : Room) (fun a : Int => Zw (kE K) lt b c ms rd m P) (fun a => some (vI a))
set_option maxRecDepth 100000 in
set_option maxHeartbeats 4000000 in
theorem t_X4_equationCount (N : Nat) (lt b c ms rd m : Bd) (P : PL) (K : KT) (X : Kok K cX4_equationCount yX4_equationCount.cls lw_g ({ frames := 0, cells := 0, slots := 0, locals := 0 } : Room) (some .int) 1) : Rn K (Q_X4_equationCount K lt b c ms rd m P) 0 0 (f_X4_equationCount rd) 0 [(0, .ref (kB K + 24))] [] (Zw (kE K) lt b c ms rd m P) := by
  unfold f_X4_equationCount
  refine r_aload_n (pc := 0) X 0 dX4_equationCount_0 rfl rfl ?_
  refine r_get (pc := 1) (v := vI (rd 11 0)) X 24 11 inX4 rfl rfl (by decide) tf_X4_42 rfl dX4_equationCount_1 ?_
  exact r_iret (pc := 4) X rfl rfl (by decide) dX4_equationCount_4
theorem c_X4_equationCount (N : Nat) (lt b c ms rd m : Bd) (P : PL) (l : Launch) (D : va_G) (E : ET) (a : Int) (ha : f_X4_equationCount rd = some a) : Ct l yX4_equationCount (Cond.code yX4_equationCount cX4_equationCount 1 (some .int) :: lw_g) ({ frames := 0, cells := 0, slots := 0, locals := 0 } : Room) D E [.ref (E.2.2.2 + 24)] (Zw E lt b c ms rd m P) (Zw E lt b c ms rd m P) (some (vI a)) :=
  ct_of (av := fun E => [.ref (E.2.2.2 + 24)]) (W0 := fun E => Zw E lt b c ms rd m P) (W1 := fun E (a : Int) => Zw E lt b c ms rd m P) (rw := fun E a => some (vI a)) (by decide) rfl (fun E => Zw_d E lt b c ms rd m P) (fun E => by simp [lg_sl, z_cat, z_catR, z_catI, z_catL]) (fun K X => r_lv (by simp [lv_args, z_cat, z_catR, z_catI, z_catL]) (t_X4_equationCount N lt b c ms rd m P  K X)) l D E a ha
abbrev Q_X4_letterOf (K : KT) (lt b c ms rd m : Bd) (P : PL) : (Int) → State → Prop := Qm K ({ frames := 0, cells := 0, slots := 0, locals := 0 } : Room) (fun a : Int => Zw (kE K) lt b c ms rd m P) (fun a => some (vI a))
set_option maxRecDepth 100000 in
set_option maxHeartbeats 4000000 in
theorem t_X4_letterOf (N : Nat) (lt b c ms rd m : Bd) (P : PL) (x1 : Int) (K : KT) (X : Kok K cX4_letterOf yX4_letterOf.cls lw_g ({ frames := 0, cells := 0, slots := 0, locals := 0 } : Room) (some .int) 2) : Rn K (Q_X4_letterOf K lt b c ms rd m P) 0 0 (f_X4_letterOf rd x1) 0 [(0, .ref (kB K + 24)), (1, vI x1)] [] (Zw (kE K) lt b c ms rd m P) := by
  unfold f_X4_letterOf
  refine r_iload_n (pc := 0) X 1 dX4_letterOf_0 rfl rfl ?_
  refine r_ck1 (fun h1 => ?_)
  refine r_iflt (pc := 1) X h1 dX4_letterOf_1 (tgt := 21) (by decide) (fun h2 => ?_) (fun h2 => ?_)
  · refine r_iconst (pc := 21) X 0 dX4_letterOf_21 (by decide) ?_
    exact r_iret (pc := 22) X rfl rfl (by decide) dX4_letterOf_22
  · refine r_iload_n (pc := 4) X 1 dX4_letterOf_4 rfl rfl ?_
    refine r_aload_n (pc := 5) X 0 dX4_letterOf_5 rfl rfl ?_
    refine r_get (pc := 6) (v := vI (rd 11 0)) X 24 11 inX4 rfl rfl (by decide) tf_X4_42 rfl dX4_letterOf_6 ?_
    refine r_ck1 (fun h3 => ?_)
    refine r_icmp_ge (pc := 9) X h1 h3 dX4_letterOf_9 (tgt := 21) (by decide) (fun h4 => ?_) (fun h4 => ?_)
    · refine r_iconst (pc := 21) X 0 dX4_letterOf_21 (by decide) ?_
      exact r_iret (pc := 22) X rfl rfl (by decide) dX4_letterOf_22
    · refine r_aload_n (pc := 12) X 0 dX4_letterOf_12 rfl rfl ?_
      refine r_get (pc := 13) (v := .ref (kB K + 30)) X 24 10 inX4 rfl rfl (by decide) tf_X4_27 rfl dX4_letterOf_13 ?_
      refine r_iload_n (pc := 16) X 1 dX4_letterOf_16 rfl rfl ?_
      refine r_ckA (fun h5 => ?_)
      refine r_iald (pc := 17) (f := rd 10) X 30 h5 zl_8 rfl dX4_letterOf_17 ?_
      refine r_goto (pc := 18) X dX4_letterOf_18 (tgt := 22) (by decide) ?_
      exact r_iret (pc := 22) X rfl rfl (by decide) dX4_letterOf_22
theorem c_X4_letterOf (N : Nat) (lt b c ms rd m : Bd) (P : PL) (x1 : Int) (l : Launch) (D : va_G) (E : ET) (a : Int) (ha : f_X4_letterOf rd x1 = some a) : Ct l yX4_letterOf (Cond.code yX4_letterOf cX4_letterOf 2 (some .int) :: lw_g) ({ frames := 0, cells := 0, slots := 0, locals := 0 } : Room) D E [.ref (E.2.2.2 + 24), vI x1] (Zw E lt b c ms rd m P) (Zw E lt b c ms rd m P) (some (vI a)) :=
  ct_of (av := fun E => [.ref (E.2.2.2 + 24), vI x1]) (W0 := fun E => Zw E lt b c ms rd m P) (W1 := fun E (a : Int) => Zw E lt b c ms rd m P) (rw := fun E a => some (vI a)) (by decide) rfl (fun E => Zw_d E lt b c ms rd m P) (fun E => by simp [lg_sl, z_cat, z_catR, z_catI, z_catL]) (fun K X => r_lv (by simp [lv_args, z_cat, z_catR, z_catI, z_catL]) (t_X4_letterOf N lt b c ms rd m P x1 K X)) l D E a ha
abbrev Q_X4_rootOf (K : KT) (lt b c ms rd m : Bd) (P : PL) : (Int) → State → Prop := Qm K ({ frames := 1, cells := 0, slots := 0, locals := 24 } : Room) (fun a : Int => Zw (kE K) lt b c ms rd m P) (fun a => some (vI a))
set_option maxRecDepth 100000 in
set_option maxHeartbeats 4000000 in
theorem t_X4_rootOf (N : Nat) (lt b c ms rd m : Bd) (P : PL) (x1 : Int) (K : KT) (X : Kok K cX4_rootOf yX4_rootOf.cls lw_g ({ frames := 1, cells := 0, slots := 0, locals := 24 } : Room) (some .int) 2) : Rn K (Q_X4_rootOf K lt b c ms rd m P) 0 0 (f_X4_rootOf N rd x1) 0 [(0, .ref (kB K + 24)), (1, vI x1)] [] (Zw (kE K) lt b c ms rd m P) := by
  unfold f_X4_rootOf
  refine r_aload_n (pc := 0) X 0 dX4_rootOf_0 rfl rfl ?_
  refine r_aload_n (pc := 1) X 0 dX4_rootOf_1 rfl rfl ?_
  refine r_get (pc := 2) (v := .ref (kB K + 31)) X 24 12 inX4 rfl rfl (by decide) tf_X4_30 rfl dX4_rootOf_2 ?_
  refine r_aload_n (pc := 5) X 0 dX4_rootOf_5 rfl rfl ?_
  refine r_iload_n (pc := 6) X 1 dX4_rootOf_6 rfl rfl ?_
  refine r_callV (pc := 7) (q0 := 24) (ci := 4) (As := [vI x1]) (rest := [.ref (kB K + 31), .ref (kB K + 24)]) (W' := fun q7_1 => (Zw (kE K) lt b c ms rd m P)) (rv := fun q7_1 => some (vI q7_1)) X dX4_rootOf_7 rfl (fun a ha => c_X4_letterOf N lt b c ms rd m P x1 K.1.2.1 K.2.2.1.1 (kE K) a ha) (fun a => Zw_d _ _ _ _ _ _ _ _) gd_X4_149 rfl (n := 1) (by decide) rfl (by decide) rfl rfl rfl (by simp [z_cat, z_catR, z_catI, z_catL]) (fun q7_1 eq7_1 => ?_)
  show Rn K _ 0 0 _ 10 [(0, .ref (kB K + 24)), (1, vI x1)] [vI q7_1, .ref (kB K + 31), .ref (kB K + 24)] (Zw (kE K) lt b c ms rd m P)
  refine r_ckA (fun h2 => ?_)
  refine r_iald (pc := 10) (f := rd 12) X 31 h2 zl_8 rfl dX4_rootOf_10 ?_
  refine r_callV (pc := 11) (q0 := 24) (ci := 4) (As := [vI (rd 12 q7_1)]) (rest := []) (W' := fun q11_3 => (Zw (kE K) lt b c ms rd m P)) (rv := fun q11_3 => some (vI q11_3)) X dX4_rootOf_11 rfl (fun a ha => c_X4_standsFor N lt b c ms rd m P (rd 12 q7_1) K.1.2.1 K.2.2.1.1 (kE K) a ha) (fun a => Zw_d _ _ _ _ _ _ _ _) gd_X4_142 rfl (n := 1) (by decide) rfl (by decide) rfl rfl rfl (Nat.zero_le _) (fun q11_3 eq11_3 => ?_)
  show Rn K _ 0 0 _ 14 [(0, .ref (kB K + 24)), (1, vI x1)] [vI q11_3] (Zw (kE K) lt b c ms rd m P)
  exact r_iret (pc := 14) X rfl rfl (by decide) dX4_rootOf_14
theorem c_X4_rootOf (N : Nat) (lt b c ms rd m : Bd) (P : PL) (x1 : Int) (l : Launch) (D : va_G) (E : ET) (a : Int) (ha : f_X4_rootOf N rd x1 = some a) : Ct l yX4_rootOf (Cond.code yX4_rootOf cX4_rootOf 2 (some .int) :: lw_g) ({ frames := 1, cells := 0, slots := 0, locals := 24 } : Room) D E [.ref (E.2.2.2 + 24), vI x1] (Zw E lt b c ms rd m P) (Zw E lt b c ms rd m P) (some (vI a)) :=
  ct_of (av := fun E => [.ref (E.2.2.2 + 24), vI x1]) (W0 := fun E => Zw E lt b c ms rd m P) (W1 := fun E (a : Int) => Zw E lt b c ms rd m P) (rw := fun E a => some (vI a)) (by decide) rfl (fun E => Zw_d E lt b c ms rd m P) (fun E => by simp [lg_sl, z_cat, z_catR, z_catI, z_catL]) (fun K X => r_lv (by simp [lv_args, z_cat, z_catR, z_catI, z_catL]) (t_X4_rootOf N lt b c ms rd m P x1 K X)) l D E a ha
