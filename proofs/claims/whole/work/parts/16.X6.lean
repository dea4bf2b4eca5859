abbrev Q_X6_in (K : KT) (lt b c ms rd m : Bd) (P : PL) : (Int) → State → Prop := Qm K ({ frames := 0, cells := 0, slots := 0, locals := 0 } : Room) (fun a : Int => Zw (kE K) lt b c ms rd m P) (fun a => some (vI a))
set_option maxRecDepth 100000 in
set_option maxHeartbeats 4000000 in
theorem t_X6_in (N : Nat) (lt b c ms rd m : Bd) (P : PL) (x0 x1 x2 : Int) (K : KT) (X : Kok K cX6_in yX6_in.cls lw_g ({ frames := 0, cells := 0, slots := 0, locals := 0 } : Room) (some .boolean) 3) : Rn K (Q_X6_in K lt b c ms rd m P) 0 0 (f_X6_in x0 x1 x2) 0 [(0, vI x0), (1, vI x1), (2, vI x2)] [] (Zw (kE K) lt b c ms rd m P) := by
  unfold f_X6_in
  refine r_iload_n (pc := 0) X 0 dX6_in_0 rfl rfl ?_
  refine r_iload_n (pc := 1) X 1 dX6_in_1 rfl rfl ?_
  refine r_ck1 (fun h1 => ?_)
  refine r_ck1 (fun h2 => ?_)
  refine r_icmp_lt (pc := 2) X h1 h2 dX6_in_2 (tgt := 14) (by decide) (fun h3 => ?_) (fun h3 => ?_)
  · refine r_iconst (pc := 14) X 0 dX6_in_14 (by decide) ?_
    exact r_zret (pc := 15) X (by decide) rfl rfl (by decide) dX6_in_15
  · refine r_iload_n (pc := 5) X 0 dX6_in_5 rfl rfl ?_
    refine r_iload_n (pc := 6) X 2 dX6_in_6 rfl rfl ?_
    refine r_ck1 (fun h4 => ?_)
    refine r_icmp_gt (pc := 7) X h1 h4 dX6_in_7 (tgt := 14) (by decide) (fun h5 => ?_) (fun h5 => ?_)
    · refine r_iconst (pc := 14) X 0 dX6_in_14 (by decide) ?_
      exact r_zret (pc := 15) X (by decide) rfl rfl (by decide) dX6_in_15
    · refine r_iconst (pc := 10) X 1 dX6_in_10 (by decide) ?_
      refine r_goto (pc := 11) X dX6_in_11 (tgt := 15) (by decide) ?_
      exact r_zret (pc := 15) X (by decide) rfl rfl (by decide) dX6_in_15
theorem c_X6_in (N : Nat) (lt b c ms rd m : Bd) (P : PL) (x0 x1 x2 : Int) (l : Launch) (D : va_G) (E : ET) (a : Int) (ha : f_X6_in x0 x1 x2 = some a) : Ct l yX6_in (Cond.code yX6_in cX6_in 3 (some .boolean) :: lw_g) ({ frames := 0, cells := 0, slots := 0, locals := 0 } : Room) D E [vI x0, vI x1, vI x2] (Zw E lt b c ms rd m P) (Zw E lt b c ms rd m P) (some (vI a)) :=
  ct_of (av := fun E => [vI x0, vI x1, vI x2]) (W0 := fun E => Zw E lt b c ms rd m P) (W1 := fun E (a : Int) => Zw E lt b c ms rd m P) (rw := fun E a => some (vI a)) (by decide) rfl (fun E => Zw_d E lt b c ms rd m P) (fun E => by simp [lg_sl, z_cat, z_catR, z_catI, z_catL]) (fun K X => r_lv (by simp [lv_args, z_cat, z_catR, z_catI, z_catL]) (t_X6_in N lt b c ms rd m P x0 x1 x2 K X)) l D E a ha
abbrev Q_X6_refuses (K : KT) (lt b c ms rd m : Bd) (P : PL) : (Int × Bd) → State → Prop := Qm K ({ frames := 0, cells := 0, slots := 0, locals := 0 } : Room) (fun a : Int × Bd => Zw (kE K) lt b c ms rd a.2 P) (fun a => some (vI a.1))
set_option maxRecDepth 100000 in
set_option maxHeartbeats 4000000 in
theorem t_X6_refuses (N : Nat) (lt b c ms rd m : Bd) (P : PL) (x1 : Int) (K : KT) (X : Kok K cX6_refuses yX6_refuses.cls lw_g ({ frames := 0, cells := 0, slots := 0, locals := 0 } : Room) (some .int) 2) : Rn K (Q_X6_refuses K lt b c ms rd m P) 0 0 (f_X6_refuses m x1) 0 [(0, .ref (kB K + 35)), (1, vI x1)] [] (Zw (kE K) lt b c ms rd m P) := by
  unfold f_X6_refuses
  refine r_aload_n (pc := 0) X 0 dX6_refuses_0 rfl rfl ?_
  refine r_get (pc := 1) (v := .ref (kB K + 40)) X 35 5 inX6 rfl rfl (by decide) tf_X6_22 rfl dX6_refuses_1 ?_
  refine r_bipush (pc := 4) X (-2) dX6_refuses_4 (by decide) ?_
  refine r_iload_n (pc := 6) X 1 dX6_refuses_6 rfl rfl ?_
  refine r_isub (pc := 7) X dX6_refuses_7 ?_
  refine r_dup2 (pc := 8) X dX6_refuses_8 rfl rfl ?_
  refine r_ckA (fun h1 => ?_)
  refine r_iald (pc := 9) (f := m 5) X 40 h1 zl_3 rfl dX6_refuses_9 ?_
  refine r_iconst (pc := 10) X 1 dX6_refuses_10 (by decide) ?_
  refine r_iadd (pc := 11) X dX6_refuses_11 ?_
  refine r_iast (pc := 12) (f := m 5) (ws' := (Zw (kE K) lt b c ms rd (bS m 5 (aS (m 5) ((-2) - x1) ((m 5 ((-2) - x1)) + 1))) P)) X 40 h1 zl_3 rfl rfl dX6_refuses_12 ?_
  refine r_iload_n (pc := 13) X 1 dX6_refuses_13 rfl rfl ?_
  exact r_iret (pc := 14) X rfl rfl (by decide) dX6_refuses_14
theorem c_X6_refuses (N : Nat) (lt b c ms rd m : Bd) (P : PL) (x1 : Int) (l : Launch) (D : va_G) (E : ET) (a : Int × Bd) (ha : f_X6_refuses m x1 = some a) : Ct l yX6_refuses (Cond.code yX6_refuses cX6_refuses 2 (some .int) :: lw_g) ({ frames := 0, cells := 0, slots := 0, locals := 0 } : Room) D E [.ref (E.2.2.2 + 35), vI x1] (Zw E lt b c ms rd m P) (Zw E lt b c ms rd a.2 P) (some (vI a.1)) :=
  ct_of (av := fun E => [.ref (E.2.2.2 + 35), vI x1]) (W0 := fun E => Zw E lt b c ms rd m P) (W1 := fun E (a : Int × Bd) => Zw E lt b c ms rd a.2 P) (rw := fun E a => some (vI a.1)) (by decide) rfl (fun E => Zw_d E lt b c ms rd m P) (fun E => by simp [lg_sl, z_cat, z_catR, z_catI, z_catL]) (fun K X => r_lv (by simp [lv_args, z_cat, z_catR, z_catI, z_catL]) (t_X6_refuses N lt b c ms rd m P x1 K X)) l D E a ha
abbrev Q_X6_type (K : KT) (lt b c ms rd m : Bd) (P : PL) : (Int × Bd) → State → Prop := Qm K ({ frames := 1, cells := 0, slots := 0, locals := 22 } : Room) (fun a : Int × Bd => Zw (kE K) lt b c ms rd a.2 P) (fun a => some (vI a.1))
set_option maxRecDepth 100000 in
set_option maxHeartbeats 4000000 in
theorem t_X6_type (N : Nat) (lt b c ms rd m : Bd) (P : PL) (x1 : Int) (K : KT) (X : Kok K cX6_type yX6_type.cls lw_g ({ frames := 1, cells := 0, slots := 0, locals := 22 } : Room) (some .int) 2) : Rn K (Q_X6_type K lt b c ms rd m P) 0 0 (f_X6_type m x1) 0 [(0, .ref (kB K + 35)), (1, vI x1)] [] (Zw (kE K) lt b c ms rd m P) := by
  unfold f_X6_type
  refine r_iload_n (pc := 0) X 1 dX6_type_0 rfl rfl ?_
  refine r_iconst (pc := 1) X 0 dX6_type_1 (by decide) ?_
  refine r_bipush (pc := 2) X 127 dX6_type_2 (by decide) ?_
  refine r_callS (pc := 4) (As := [vI x1, vI 0, vI 127]) (rest := []) (W' := fun q4_1 => (Zw (kE K) lt b c ms rd m P)) (rv := fun q4_1 => some (vI q4_1)) X dX6_type_4 rfl (fun a ha => c_X6_in N lt b c ms rd m P x1 0 127 K.1.2.1 K.2.2.1.1 (kE K) a ha) (fun a => Zw_d _ _ _ _ _ _ _ _) gd_X6_86 rfl (n := 3) (by decide) rfl (by decide) (Nat.zero_le _) (fun q4_1 eq4_1 => ?_)
  show Rn K _ 0 0 _ 7 [(0, .ref (kB K + 35)), (1, vI x1)] [vI q4_1] (Zw (kE K) lt b c ms rd m P)
  refine r_ck1 (fun h2 => ?_)
  refine r_ifne (pc := 7) X h2 dX6_type_7 (tgt := 17) (by decide) (fun h3 => ?_) (fun h3 => ?_)
  · refine r_aload_n (pc := 17) X 0 dX6_type_17 rfl rfl ?_
    refine r_get (pc := 18) (v := vI (m 8 0)) X 35 8 inX6 rfl rfl (by decide) tf_X6_144 rfl dX6_type_18 ?_
    refine r_bipush (pc := 21) X 120 dX6_type_21 (by decide) ?_
    refine r_ck1 (fun h4 => ?_)
    refine r_icmp_ne (pc := 23) X h4 (by decide) dX6_type_23 (tgt := 33) (by decide) (fun h5 => ?_) (fun h5 => ?_)
    · refine r_aload_n (pc := 33) X 0 dX6_type_33 rfl rfl ?_
      refine r_get (pc := 34) (v := .ref (kB K + 41)) X 35 7 inX6 rfl rfl (by decide) tf_X6_25 rfl dX6_type_34 ?_
      refine r_aload_n (pc := 37) X 0 dX6_type_37 rfl rfl ?_
      refine r_get (pc := 38) (v := vI (m 8 0)) X 35 8 inX6 rfl rfl (by decide) tf_X6_144 rfl dX6_type_38 ?_
      refine r_iload_n (pc := 41) X 1 dX6_type_41 rfl rfl ?_
      refine r_ckA (fun h6 => ?_)
      refine r_iast (pc := 42) (f := m 7) (ws' := (Zw (kE K) lt b c ms rd (bS m 7 (aS (m 7) (m 8 0) x1)) P)) X 41 h6 zl_120 rfl rfl dX6_type_42 ?_
      refine r_aload_n (pc := 43) X 0 dX6_type_43 rfl rfl ?_
      refine r_dup (pc := 44) X dX6_type_44 rfl ?_
      refine r_get (pc := 45) (v := vI (m 8 0)) X 35 8 inX6 rfl rfl (by decide) tf_X6_144 rfl dX6_type_45 ?_
      refine r_iconst (pc := 48) X 1 dX6_type_48 (by decide) ?_
      refine r_iadd (pc := 49) X dX6_type_49 ?_
      refine r_put (pc := 50) (ws' := (Zw (kE K) lt b c ms rd (bs0 (bS m 7 (aS (m 7) (m 8 0) x1)) 8 ((m 8 0) + 1)) P)) X 35 8 inX6 tyX6 tyX6_ok nmX6 rfl rfl (by decide) tf_X6_144 rfl (tyX6_ok 8 (by decide)) rfl rfl (Nat.le_of_ble_eq_true rfl) rfl dX6_type_50 ?_
      refine r_aload_n (pc := 53) X 0 dX6_type_53 rfl rfl ?_
      refine r_get (pc := 54) (v := vI ((m 8 0) + 1)) X 35 8 inX6 rfl rfl (by decide) tf_X6_144 rfl dX6_type_54 ?_
      exact r_iret (pc := 57) X rfl rfl (by decide) dX6_type_57
    · refine r_aload_n (pc := 26) X 0 dX6_type_26 rfl rfl ?_
      refine r_bipush (pc := 27) X (-4) dX6_type_27 (by decide) ?_
      refine r_callV (pc := 29) (q0 := 35) (ci := 6) (As := [vI (-4)]) (rest := []) (W' := fun q29_7 => (Zw (kE K) lt b c ms rd q29_7.2 P)) (rv := fun q29_7 => some (vI q29_7.1)) X dX6_type_29 rfl (fun a ha => c_X6_refuses N lt b c ms rd m P (-4) K.1.2.1 K.2.2.1.1 (kE K) a ha) (fun a => Zw_d _ _ _ _ _ _ _ _) gd_X6_138 rfl (n := 1) (by decide) rfl (by decide) rfl rfl rfl (Nat.zero_le _) (fun q29_7 eq29_7 => ?_)
      show Rn K _ 0 0 _ 32 [(0, .ref (kB K + 35)), (1, vI x1)] [vI q29_7.1] (Zw (kE K) lt b c ms rd q29_7.2 P)
      exact r_iret (pc := 32) X rfl rfl (by decide) dX6_type_32
  · refine r_aload_n (pc := 10) X 0 dX6_type_10 rfl rfl ?_
    refine r_bipush (pc := 11) X (-2) dX6_type_11 (by decide) ?_
    refine r_callV (pc := 13) (q0 := 35) (ci := 6) (As := [vI (-2)]) (rest := []) (W' := fun q13_8 => (Zw (kE K) lt b c ms rd q13_8.2 P)) (rv := fun q13_8 => some (vI q13_8.1)) X dX6_type_13 rfl (fun a ha => c_X6_refuses N lt b c ms rd m P (-2) K.1.2.1 K.2.2.1.1 (kE K) a ha) (fun a => Zw_d _ _ _ _ _ _ _ _) gd_X6_138 rfl (n := 1) (by decide) rfl (by decide) rfl rfl rfl (Nat.zero_le _) (fun q13_8 eq13_8 => ?_)
    show Rn K _ 0 0 _ 16 [(0, .ref (kB K + 35)), (1, vI x1)] [vI q13_8.1] (Zw (kE K) lt b c ms rd q13_8.2 P)
    exact r_iret (pc := 16) X rfl rfl (by decide) dX6_type_16
theorem c_X6_type (N : Nat) (lt b c ms rd m : Bd) (P : PL) (x1 : Int) (l : Launch) (D : va_G) (E : ET) (a : Int × Bd) (ha : f_X6_type m x1 = some a) : Ct l yX6_type (Cond.code yX6_type cX6_type 2 (some .int) :: lw_g) ({ frames := 1, cells := 0, slots := 0, locals := 22 } : Room) D E [.ref (E.2.2.2 + 35), vI x1] (Zw E lt b c ms rd m P) (Zw E lt b c ms rd a.2 P) (some (vI a.1)) :=
  ct_of (av := fun E => [.ref (E.2.2.2 + 35), vI x1]) (W0 := fun E => Zw E lt b c ms rd m P) (W1 := fun E (a : Int × Bd) => Zw E lt b c ms rd a.2 P) (rw := fun E a => some (vI a.1)) (by decide) rfl (fun E => Zw_d E lt b c ms rd m P) (fun E => by simp [lg_sl, z_cat, z_catR, z_catI, z_catL]) (fun K X => r_lv (by simp [lv_args, z_cat, z_catR, z_catI, z_catL]) (t_X6_type N lt b c ms rd m P x1 K X)) l D E a ha
abbrev Q_X6_clear (K : KT) (lt b c ms rd m : Bd) (P : PL) : (Int × Bd) → State → Prop := Qm K ({ frames := 0, cells := 0, slots := 0, locals := 0 } : Room) (fun a : Int × Bd => Zw (kE K) lt b c ms rd a.2 P) (fun a => some (vI a.1))
set_option maxRecDepth 100000 in
set_option maxHeartbeats 4000000 in
theorem t_X6_clear (N : Nat) (lt b c ms rd m : Bd) (P : PL) (K : KT) (X : Kok K cX6_clear yX6_clear.cls lw_g ({ frames := 0, cells := 0, slots := 0, locals := 0 } : Room) (some .int) 2) : Rn K (Q_X6_clear K lt b c ms rd m P) 0 0 (f_X6_clear m) 0 [(0, .ref (kB K + 35))] [] (Zw (kE K) lt b c ms rd m P) := by
  unfold f_X6_clear
  refine r_aload_n (pc := 0) X 0 dX6_clear_0 rfl rfl ?_
  refine r_get (pc := 1) (v := vI (m 8 0)) X 35 8 inX6 rfl rfl (by decide) tf_X6_144 rfl dX6_clear_1 ?_
  refine r_istore_n (pc := 4) (lv' := [(0, .ref (kB K + 35)), (1, vI (m 8 0))]) X [1, 0] dX6_clear_4 rfl (by decide) rfl ?_
  refine r_aload_n (pc := 5) X 0 dX6_clear_5 rfl rfl ?_
  refine r_iconst (pc := 6) X 0 dX6_clear_6 (by decide) ?_
  refine r_put (pc := 7) (ws' := (Zw (kE K) lt b c ms rd (bs0 m 8 0) P)) X 35 8 inX6 tyX6 tyX6_ok nmX6 rfl rfl (by decide) tf_X6_144 rfl (tyX6_ok 8 (by decide)) rfl rfl (Nat.le_of_ble_eq_true rfl) rfl dX6_clear_7 ?_
  refine r_iload_n (pc := 10) X 1 dX6_clear_10 rfl rfl ?_
  exact r_iret (pc := 11) X rfl rfl (by decide) dX6_clear_11
theorem c_X6_clear (N : Nat) (lt b c ms rd m : Bd) (P : PL) (l : Launch) (D : va_G) (E : ET) (a : Int × Bd) (ha : f_X6_clear m = some a) : Ct l yX6_clear (Cond.code yX6_clear cX6_clear 2 (some .int) :: lw_g) ({ frames := 0, cells := 0, slots := 0, locals := 0 } : Room) D E [.ref (E.2.2.2 + 35)] (Zw E lt b c ms rd m P) (Zw E lt b c ms rd a.2 P) (some (vI a.1)) :=
  ct_of (av := fun E => [.ref (E.2.2.2 + 35)]) (W0 := fun E => Zw E lt b c ms rd m P) (W1 := fun E (a : Int × Bd) => Zw E lt b c ms rd a.2 P) (rw := fun E a => some (vI a.1)) (by decide) rfl (fun E => Zw_d E lt b c ms rd m P) (fun E => by simp [lg_sl, z_cat, z_catR, z_catI, z_catL]) (fun K X => r_lv (by simp [lv_args, z_cat, z_catR, z_catI, z_catL]) (t_X6_clear N lt b c ms rd m P  K X)) l D E a ha
abbrev Q_X6_byteAt (K : KT) (lt b c ms rd m : Bd) (P : PL) : (Int) → State → Prop := Qm K ({ frames := 0, cells := 0, slots := 0, locals := 0 } : Room) (fun a : Int => Zw (kE K) lt b c ms rd m P) (fun a => some (vI a))
set_option maxRecDepth 100000 in
set_option maxHeartbeats 4000000 in
theorem t_X6_byteAt (N : Nat) (lt b c ms rd m : Bd) (P : PL) (x1 : Int) (K : KT) (X : Kok K cX6_byteAt yX6_byteAt.cls lw_g ({ frames := 0, cells := 0, slots := 0, locals := 0 } : Room) (some .int) 2) : Rn K (Q_X6_byteAt K lt b c ms rd m P) 0 0 (f_X6_byteAt m x1) 0 [(0, .ref (kB K + 35)), (1, vI x1)] [] (Zw (kE K) lt b c ms rd m P) := by
  unfold f_X6_byteAt
  refine r_iload_n (pc := 0) X 1 dX6_byteAt_0 rfl rfl ?_
  refine r_aload_n (pc := 1) X 0 dX6_byteAt_1 rfl rfl ?_
  refine r_get (pc := 2) (v := vI (m 8 0)) X 35 8 inX6 rfl rfl (by decide) tf_X6_144 rfl dX6_byteAt_2 ?_
  refine r_ck1 (fun h1 => ?_)
  refine r_ck1 (fun h2 => ?_)
  refine r_icmp_ge (pc := 5) X h1 h2 dX6_byteAt_5 (tgt := 17) (by decide) (fun h3 => ?_) (fun h3 => ?_)
  · refine r_iconst (pc := 17) X (-1) dX6_byteAt_17 (by decide) ?_
    exact r_iret (pc := 18) X rfl rfl (by decide) dX6_byteAt_18
  · refine r_aload_n (pc := 8) X 0 dX6_byteAt_8 rfl rfl ?_
    refine r_get (pc := 9) (v := .ref (kB K + 41)) X 35 7 inX6 rfl rfl (by decide) tf_X6_25 rfl dX6_byteAt_9 ?_
    refine r_iload_n (pc := 12) X 1 dX6_byteAt_12 rfl rfl ?_
    refine r_ckA (fun h4 => ?_)
    refine r_iald (pc := 13) (f := m 7) X 41 h4 zl_120 rfl dX6_byteAt_13 ?_
    refine r_goto (pc := 14) X dX6_byteAt_14 (tgt := 18) (by decide) ?_
    exact r_iret (pc := 18) X rfl rfl (by decide) dX6_byteAt_18
theorem c_X6_byteAt (N : Nat) (lt b c ms rd m : Bd) (P : PL) (x1 : Int) (l : Launch) (D : va_G) (E : ET) (a : Int) (ha : f_X6_byteAt m x1 = some a) : Ct l yX6_byteAt (Cond.code yX6_byteAt cX6_byteAt 2 (some .int) :: lw_g) ({ frames := 0, cells := 0, slots := 0, locals := 0 } : Room) D E [.ref (E.2.2.2 + 35), vI x1] (Zw E lt b c ms rd m P) (Zw E lt b c ms rd m P) (some (vI a)) :=
  ct_of (av := fun E => [.ref (E.2.2.2 + 35), vI x1]) (W0 := fun E => Zw E lt b c ms rd m P) (W1 := fun E (a : Int) => Zw E lt b c ms rd m P) (rw := fun E a => some (vI a)) (by decide) rfl (fun E => Zw_d E lt b c ms rd m P) (fun E => by simp [lg_sl, z_cat, z_catR, z_catI, z_catL]) (fun K X => r_lv (by simp [lv_args, z_cat, z_catR, z_catI, z_catL]) (t_X6_byteAt N lt b c ms rd m P x1 K X)) l D E a ha
abbrev Q_X6_skips (K : KT) (lt b c ms rd m : Bd) (P : PL) : (Bd) → State → Prop := Qm K ({ frames := 1, cells := 0, slots := 0, locals := 21 } : Room) (fun a : Bd => Zw (kE K) lt b c ms rd a P) (fun a => none)
set_option maxRecDepth 100000 in
set_option maxHeartbeats 4000000 in
theorem t_X6_skips_L0 (N : Nat) (lt b c ms rd m : Bd) (P : PL) (K : KT) (X : Kok K cX6_skips yX6_skips.cls lw_g ({ frames := 1, cells := 0, slots := 0, locals := 21 } : Room) none 1) (k : Bd → Option (Bd)) (hk : ∀ (m1 : Bd), Rn K (Q_X6_skips K lt b c ms rd m P) 0 0 (k m1) 26 [] [] (Zw (kE K) lt b c ms rd m1 P)) : ∀ (n : Nat) (m1 : Bd), Rn K (Q_X6_skips K lt b c ms rd m P) 0 0 (f_X6_skips_L0 k n m1) 0 [(0, .ref (kB K + 35))] [] (Zw (kE K) lt b c ms rd m1 P) := by
  intro n
  induction n with
  | zero =>
    intro m1
    rw [f_X6_skips_L0]
    exact r_none
  | succ n ih =>
    intro m1
    rw [f_X6_skips_L0]
    refine r_aload_n (pc := 0) X 0 dX6_skips_0 rfl rfl ?_
    refine r_aload_n (pc := 1) X 0 dX6_skips_1 rfl rfl ?_
    refine r_get (pc := 2) (v := vI (m1 22 0)) X 35 22 inX6 rfl rfl (by decide) tf_X6_147 rfl dX6_skips_2 ?_
    refine r_callV (pc := 5) (q0 := 35) (ci := 6) (As := [vI (m1 22 0)]) (rest := []) (W' := fun q5_1 => (Zw (kE K) lt b c ms rd m1 P)) (rv := fun q5_1 => some (vI q5_1)) X dX6_skips_5 rfl (fun a ha => c_X6_byteAt N lt b c ms rd m1 P (m1 22 0) K.1.2.1 K.2.2.1.1 (kE K) a ha) (fun a => Zw_d _ _ _ _ _ _ _ _) gd_X6_150 rfl (n := 1) (by decide) rfl (by decide) rfl rfl rfl (Nat.zero_le _) (fun q5_1 eq5_1 => ?_)
    show Rn K _ 0 0 _ 8 [(0, .ref (kB K + 35))] [vI q5_1] (Zw (kE K) lt b c ms rd m1 P)
    refine r_bipush (pc := 8) X 32 dX6_skips_8 (by decide) ?_
    refine r_ck1 (fun h2 => ?_)
    refine r_icmp_ne (pc := 10) X h2 (by decide) dX6_skips_10 (tgt := 26) (by decide) (fun h3 => ?_) (fun h3 => ?_)
    · refine r_sub [] rfl ?_
      exact hk m1
    · refine r_aload_n (pc := 13) X 0 dX6_skips_13 rfl rfl ?_
      refine r_dup (pc := 14) X dX6_skips_14 rfl ?_
      refine r_get (pc := 15) (v := vI (m1 22 0)) X 35 22 inX6 rfl rfl (by decide) tf_X6_147 rfl dX6_skips_15 ?_
      refine r_iconst (pc := 18) X 1 dX6_skips_18 (by decide) ?_
      refine r_iadd (pc := 19) X dX6_skips_19 ?_
      refine r_put (pc := 20) (ws' := (Zw (kE K) lt b c ms rd (bs0 m1 22 ((m1 22 0) + 1)) P)) X 35 22 inX6 tyX6 tyX6_ok nmX6 rfl rfl (by decide) tf_X6_147 rfl (tyX6_ok 22 (by decide)) rfl rfl (Nat.le_of_ble_eq_true rfl) rfl dX6_skips_20 ?_
      refine r_goto (pc := 23) X dX6_skips_23 (tgt := 0) (by decide) ?_
      exact ih (bs0 m1 22 ((m1 22 0) + 1))
set_option maxRecDepth 100000 in
set_option maxHeartbeats 4000000 in
theorem t_X6_skips (N : Nat) (lt b c ms rd m : Bd) (P : PL) (K : KT) (X : Kok K cX6_skips yX6_skips.cls lw_g ({ frames := 1, cells := 0, slots := 0, locals := 21 } : Room) none 1) : Rn K (Q_X6_skips K lt b c ms rd m P) 0 0 (f_X6_skips N m) 0 [(0, .ref (kB K + 35))] [] (Zw (kE K) lt b c ms rd m P) := by
  unfold f_X6_skips
  refine t_X6_skips_L0 N lt b c ms rd m P   K X _ ?_ N m
  intro m_0
  exact r_vret (pc := 26) X rfl rfl (by decide) dX6_skips_26
theorem c_X6_skips (N : Nat) (lt b c ms rd m : Bd) (P : PL) (l : Launch) (D : va_G) (E : ET) (a : Bd) (ha : f_X6_skips N m = some a) : Ct l yX6_skips (Cond.code yX6_skips cX6_skips 1 none :: lw_g) ({ frames := 1, cells := 0, slots := 0, locals := 21 } : Room) D E [.ref (E.2.2.2 + 35)] (Zw E lt b c ms rd m P) (Zw E lt b c ms rd a P) (none) :=
  ct_of (av := fun E => [.ref (E.2.2.2 + 35)]) (W0 := fun E => Zw E lt b c ms rd m P) (W1 := fun E (a : Bd) => Zw E lt b c ms rd a P) (rw := fun E a => none) (by decide) rfl (fun E => Zw_d E lt b c ms rd m P) (fun E => by simp [lg_sl, z_cat, z_catR, z_catI, z_catL]) (fun K X => r_lv (by simp [lv_args, z_cat, z_catR, z_catI, z_catL]) (t_X6_skips N lt b c ms rd m P  K X)) l D E a ha
abbrev Q_X6_node (K : KT) (lt b c ms rd m : Bd) (P : PL) : (Int) → State → Prop := Qm K ({ frames := 0, cells := 0, slots := 0, locals := 0 } : Room) (fun a : Int => Zw (kE K) lt b c ms rd m P) (fun a => some (vI a))
set_option maxRecDepth 100000 in
set_option maxHeartbeats 4000000 in
theorem t_X6_node (N : Nat) (lt b c ms rd m : Bd) (P : PL) (x0 x1 x2 : Int) (K : KT) (X : Kok K cX6_node yX6_node.cls lw_g ({ frames := 0, cells := 0, slots := 0, locals := 0 } : Room) (some .int) 3) : Rn K (Q_X6_node K lt b c ms rd m P) 0 0 (f_X6_node x0 x1 x2) 0 [(0, vI x0), (1, vI x1), (2, vI x2)] [] (Zw (kE K) lt b c ms rd m P) := by
  unfold f_X6_node
  refine r_iload_n (pc := 0) X 0 dX6_node_0 rfl rfl ?_
  refine r_iload_n (pc := 1) X 1 dX6_node_1 rfl rfl ?_
  refine r_iconst (pc := 2) X 3 dX6_node_2 (by decide) ?_
  refine r_ishl (pc := 3) X dX6_node_3 ?_
  refine r_ior (pc := 4) X dX6_node_4 ?_
  refine r_iload_n (pc := 5) X 2 dX6_node_5 rfl rfl ?_
  refine r_bipush (pc := 6) X 15 dX6_node_6 (by decide) ?_
  refine r_ishl (pc := 8) X dX6_node_8 ?_
  refine r_ior (pc := 9) X dX6_node_9 ?_
  exact r_iret (pc := 10) X rfl rfl (by decide) dX6_node_10
theorem c_X6_node (N : Nat) (lt b c ms rd m : Bd) (P : PL) (x0 x1 x2 : Int) (l : Launch) (D : va_G) (E : ET) (a : Int) (ha : f_X6_node x0 x1 x2 = some a) : Ct l yX6_node (Cond.code yX6_node cX6_node 3 (some .int) :: lw_g) ({ frames := 0, cells := 0, slots := 0, locals := 0 } : Room) D E [vI x0, vI x1, vI x2] (Zw E lt b c ms rd m P) (Zw E lt b c ms rd m P) (some (vI a)) :=
  ct_of (av := fun E => [vI x0, vI x1, vI x2]) (W0 := fun E => Zw E lt b c ms rd m P) (W1 := fun E (a : Int) => Zw E lt b c ms rd m P) (rw := fun E a => some (vI a)) (by decide) rfl (fun E => Zw_d E lt b c ms rd m P) (fun E => by simp [lg_sl, z_cat, z_catR, z_catI, z_catL]) (fun K X => r_lv (by simp [lv_args, z_cat, z_catR, z_catI, z_catL]) (t_X6_node N lt b c ms rd m P x0 x1 x2 K X)) l D E a ha
abbrev Q_X6_adds (K : KT) (lt b c ms rd m : Bd) (P : PL) : (Int × Bd) → State → Prop := Qm K ({ frames := 1, cells := 0, slots := 0, locals := 22 } : Room) (fun a : Int × Bd => Zw (kE K) lt b c ms rd a.2 P) (fun a => some (vI a.1))
set_option maxRecDepth 100000 in
set_option maxHeartbeats 4000000 in
theorem t_X6_adds (N : Nat) (lt b c ms rd m : Bd) (P : PL) (x1 x2 x3 : Int) (K : KT) (X : Kok K cX6_adds yX6_adds.cls lw_g ({ frames := 1, cells := 0, slots := 0, locals := 22 } : Room) (some .int) 4) : Rn K (Q_X6_adds K lt b c ms rd m P) 0 0 (f_X6_adds m x1 x2 x3) 0 [(0, .ref (kB K + 35)), (1, vI x1), (2, vI x2), (3, vI x3)] [] (Zw (kE K) lt b c ms rd m P) := by
  unfold f_X6_adds
  refine r_aload_n (pc := 0) X 0 dX6_adds_0 rfl rfl ?_
  refine r_get (pc := 1) (v := .ref (kB K + 42)) X 35 9 inX6 rfl rfl (by decide) tf_X6_28 rfl dX6_adds_1 ?_
  refine r_aload_n (pc := 4) X 0 dX6_adds_4 rfl rfl ?_
  refine r_get (pc := 5) (v := vI (m 10 0)) X 35 10 inX6 rfl rfl (by decide) tf_X6_94 rfl dX6_adds_5 ?_
  refine r_iload_n (pc := 8) X 1 dX6_adds_8 rfl rfl ?_
  refine r_iload_n (pc := 9) X 2 dX6_adds_9 rfl rfl ?_
  refine r_iload_n (pc := 10) X 3 dX6_adds_10 rfl rfl ?_
  refine r_callS (pc := 11) (As := [vI x1, vI x2, vI x3]) (rest := [vI (m 10 0), .ref (kB K + 42)]) (W' := fun q11_1 => (Zw (kE K) lt b c ms rd m P)) (rv := fun q11_1 => some (vI q11_1)) X dX6_adds_11 rfl (fun a ha => c_X6_node N lt b c ms rd m P x1 x2 x3 K.1.2.1 K.2.2.1.1 (kE K) a ha) (fun a => Zw_d _ _ _ _ _ _ _ _) gd_X6_98 rfl (n := 3) (by decide) rfl (by decide) (by simp [z_cat, z_catR, z_catI, z_catL]) (fun q11_1 eq11_1 => ?_)
  show Rn K _ 0 0 _ 14 [(0, .ref (kB K + 35)), (1, vI x1), (2, vI x2), (3, vI x3)] [vI q11_1, vI (m 10 0), .ref (kB K + 42)] (Zw (kE K) lt b c ms rd m P)
  refine r_ckA (fun h2 => ?_)
  refine r_iast (pc := 14) (f := m 9) (ws' := (Zw (kE K) lt b c ms rd (bS m 9 (aS (m 9) (m 10 0) q11_1)) P)) X 42 h2 zl_3400 rfl rfl dX6_adds_14 ?_
  refine r_aload_n (pc := 15) X 0 dX6_adds_15 rfl rfl ?_
  refine r_dup (pc := 16) X dX6_adds_16 rfl ?_
  refine r_get (pc := 17) (v := vI (m 10 0)) X 35 10 inX6 rfl rfl (by decide) tf_X6_94 rfl dX6_adds_17 ?_
  refine r_iconst (pc := 20) X 1 dX6_adds_20 (by decide) ?_
  refine r_iadd (pc := 21) X dX6_adds_21 ?_
  refine r_put (pc := 22) (ws' := (Zw (kE K) lt b c ms rd (bs0 (bS m 9 (aS (m 9) (m 10 0) q11_1)) 10 ((m 10 0) + 1)) P)) X 35 10 inX6 tyX6 tyX6_ok nmX6 rfl rfl (by decide) tf_X6_94 rfl (tyX6_ok 10 (by decide)) rfl rfl (Nat.le_of_ble_eq_true rfl) rfl dX6_adds_22 ?_
  refine r_aload_n (pc := 25) X 0 dX6_adds_25 rfl rfl ?_
  refine r_get (pc := 26) (v := vI ((m 10 0) + 1)) X 35 10 inX6 rfl rfl (by decide) tf_X6_94 rfl dX6_adds_26 ?_
  refine r_iconst (pc := 29) X 1 dX6_adds_29 (by decide) ?_
  refine r_isub (pc := 30) X dX6_adds_30 ?_
  exact r_iret (pc := 31) X rfl rfl (by decide) dX6_adds_31
theorem c_X6_adds (N : Nat) (lt b c ms rd m : Bd) (P : PL) (x1 x2 x3 : Int) (l : Launch) (D : va_G) (E : ET) (a : Int × Bd) (ha : f_X6_adds m x1 x2 x3 = some a) : Ct l yX6_adds (Cond.code yX6_adds cX6_adds 4 (some .int) :: lw_g) ({ frames := 1, cells := 0, slots := 0, locals := 22 } : Room) D E [.ref (E.2.2.2 + 35), vI x1, vI x2, vI x3] (Zw E lt b c ms rd m P) (Zw E lt b c ms rd a.2 P) (some (vI a.1)) :=
  ct_of (av := fun E => [.ref (E.2.2.2 + 35), vI x1, vI x2, vI x3]) (W0 := fun E => Zw E lt b c ms rd m P) (W1 := fun E (a : Int × Bd) => Zw E lt b c ms rd a.2 P) (rw := fun E a => some (vI a.1)) (by decide) rfl (fun E => Zw_d E lt b c ms rd m P) (fun E => by simp [lg_sl, z_cat, z_catR, z_catI, z_catL]) (fun K X => r_lv (by simp [lv_args, z_cat, z_catR, z_catI, z_catL]) (t_X6_adds N lt b c ms rd m P x1 x2 x3 K X)) l D E a ha
abbrev Q_X6_waits (K : KT) (lt b c ms rd m : Bd) (P : PL) : (Bd) → State → Prop := Qm K ({ frames := 0, cells := 0, slots := 0, locals := 0 } : Room) (fun a : Bd => Zw (kE K) lt b c ms rd a P) (fun a => none)
set_option maxRecDepth 100000 in
set_option maxHeartbeats 4000000 in
theorem t_X6_waits (N : Nat) (lt b c ms rd m : Bd) (P : PL) (x1 : Int) (K : KT) (X : Kok K cX6_waits yX6_waits.cls lw_g ({ frames := 0, cells := 0, slots := 0, locals := 0 } : Room) none 2) : Rn K (Q_X6_waits K lt b c ms rd m P) 0 0 (f_X6_waits m x1) 0 [(0, .ref (kB K + 35)), (1, vI x1)] [] (Zw (kE K) lt b c ms rd m P) := by
  unfold f_X6_waits
  refine r_aload_n (pc := 0) X 0 dX6_waits_0 rfl rfl ?_
  refine r_get (pc := 1) (v := .ref (kB K + 57)) X 35 29 inX6 rfl rfl (by decide) tf_X6_73 rfl dX6_waits_1 ?_
  refine r_aload_n (pc := 4) X 0 dX6_waits_4 rfl rfl ?_
  refine r_get (pc := 5) (v := vI (m 30 0)) X 35 30 inX6 rfl rfl (by decide) tf_X6_156 rfl dX6_waits_5 ?_
  refine r_iload_n (pc := 8) X 1 dX6_waits_8 rfl rfl ?_
  refine r_ckA (fun h1 => ?_)
  refine r_iast (pc := 9) (f := m 29) (ws' := (Zw (kE K) lt b c ms rd (bS m 29 (aS (m 29) (m 30 0) x1)) P)) X 57 h1 zl_130 rfl rfl dX6_waits_9 ?_
  refine r_aload_n (pc := 10) X 0 dX6_waits_10 rfl rfl ?_
  refine r_dup (pc := 11) X dX6_waits_11 rfl ?_
  refine r_get (pc := 12) (v := vI (m 30 0)) X 35 30 inX6 rfl rfl (by decide) tf_X6_156 rfl dX6_waits_12 ?_
  refine r_iconst (pc := 15) X 1 dX6_waits_15 (by decide) ?_
  refine r_iadd (pc := 16) X dX6_waits_16 ?_
  refine r_put (pc := 17) (ws' := (Zw (kE K) lt b c ms rd (bs0 (bS m 29 (aS (m 29) (m 30 0) x1)) 30 ((m 30 0) + 1)) P)) X 35 30 inX6 tyX6 tyX6_ok nmX6 rfl rfl (by decide) tf_X6_156 rfl (tyX6_ok 30 (by decide)) rfl rfl (Nat.le_of_ble_eq_true rfl) rfl dX6_waits_17 ?_
  exact r_vret (pc := 20) X rfl rfl (by decide) dX6_waits_20
theorem c_X6_waits (N : Nat) (lt b c ms rd m : Bd) (P : PL) (x1 : Int) (l : Launch) (D : va_G) (E : ET) (a : Bd) (ha : f_X6_waits m x1 = some a) : Ct l yX6_waits (Cond.code yX6_waits cX6_waits 2 none :: lw_g) ({ frames := 0, cells := 0, slots := 0, locals := 0 } : Room) D E [.ref (E.2.2.2 + 35), vI x1] (Zw E lt b c ms rd m P) (Zw E lt b c ms rd a P) (none) :=
  ct_of (av := fun E => [.ref (E.2.2.2 + 35), vI x1]) (W0 := fun E => Zw E lt b c ms rd m P) (W1 := fun E (a : Bd) => Zw E lt b c ms rd a P) (rw := fun E a => none) (by decide) rfl (fun E => Zw_d E lt b c ms rd m P) (fun E => by simp [lg_sl, z_cat, z_catR, z_catI, z_catL]) (fun K X => r_lv (by simp [lv_args, z_cat, z_catR, z_catI, z_catL]) (t_X6_waits N lt b c ms rd m P x1 K X)) l D E a ha
abbrev Q_X6_opens (K : KT) (lt b c ms rd m : Bd) (P : PL) : (Bd) → State → Prop := Qm K ({ frames := 0, cells := 0, slots := 0, locals := 0 } : Room) (fun a : Bd => Zw (kE K) lt b c ms rd a P) (fun a => none)
set_option maxRecDepth 100000 in
set_option maxHeartbeats 4000000 in
theorem t_X6_opens (N : Nat) (lt b c ms rd m : Bd) (P : PL) (x1 : Int) (K : KT) (X : Kok K cX6_opens yX6_opens.cls lw_g ({ frames := 0, cells := 0, slots := 0, locals := 0 } : Room) none 2) : Rn K (Q_X6_opens K lt b c ms rd m P) 0 0 (f_X6_opens m x1) 0 [(0, .ref (kB K + 35)), (1, vI x1)] [] (Zw (kE K) lt b c ms rd m P) := by
  unfold f_X6_opens
  refine r_aload_n (pc := 0) X 0 dX6_opens_0 rfl rfl ?_
  refine r_get (pc := 1) (v := .ref (kB K + 56)) X 35 27 inX6 rfl rfl (by decide) tf_X6_70 rfl dX6_opens_1 ?_
  refine r_aload_n (pc := 4) X 0 dX6_opens_4 rfl rfl ?_
  refine r_get (pc := 5) (v := vI (m 28 0)) X 35 28 inX6 rfl rfl (by decide) tf_X6_153 rfl dX6_opens_5 ?_
  refine r_iload_n (pc := 8) X 1 dX6_opens_8 rfl rfl ?_
  refine r_ckA (fun h1 => ?_)
  refine r_iast (pc := 9) (f := m 27) (ws' := (Zw (kE K) lt b c ms rd (bS m 27 (aS (m 27) (m 28 0) x1)) P)) X 56 h1 zl_130 rfl rfl dX6_opens_9 ?_
  refine r_aload_n (pc := 10) X 0 dX6_opens_10 rfl rfl ?_
  refine r_dup (pc := 11) X dX6_opens_11 rfl ?_
  refine r_get (pc := 12) (v := vI (m 28 0)) X 35 28 inX6 rfl rfl (by decide) tf_X6_153 rfl dX6_opens_12 ?_
  refine r_iconst (pc := 15) X 1 dX6_opens_15 (by decide) ?_
  refine r_iadd (pc := 16) X dX6_opens_16 ?_
  refine r_put (pc := 17) (ws' := (Zw (kE K) lt b c ms rd (bs0 (bS m 27 (aS (m 27) (m 28 0) x1)) 28 ((m 28 0) + 1)) P)) X 35 28 inX6 tyX6 tyX6_ok nmX6 rfl rfl (by decide) tf_X6_153 rfl (tyX6_ok 28 (by decide)) rfl rfl (Nat.le_of_ble_eq_true rfl) rfl dX6_opens_17 ?_
  exact r_vret (pc := 20) X rfl rfl (by decide) dX6_opens_20
theorem c_X6_opens (N : Nat) (lt b c ms rd m : Bd) (P : PL) (x1 : Int) (l : Launch) (D : va_G) (E : ET) (a : Bd) (ha : f_X6_opens m x1 = some a) : Ct l yX6_opens (Cond.code yX6_opens cX6_opens 2 none :: lw_g) ({ frames := 0, cells := 0, slots := 0, locals := 0 } : Room) D E [.ref (E.2.2.2 + 35), vI x1] (Zw E lt b c ms rd m P) (Zw E lt b c ms rd a P) (none) :=
  ct_of (av := fun E => [.ref (E.2.2.2 + 35), vI x1]) (W0 := fun E => Zw E lt b c ms rd m P) (W1 := fun E (a : Bd) => Zw E lt b c ms rd a P) (rw := fun E a => none) (by decide) rfl (fun E => Zw_d E lt b c ms rd m P) (fun E => by simp [lg_sl, z_cat, z_catR, z_catI, z_catL]) (fun K X => r_lv (by simp [lv_args, z_cat, z_catR, z_catI, z_catL]) (t_X6_opens N lt b c ms rd m P x1 K X)) l D E a ha
abbrev Q_X6_does (K : KT) (lt b c ms rd m : Bd) (P : PL) : (Bd) → State → Prop := Qm K ({ frames := 2, cells := 0, slots := 0, locals := 45 } : Room) (fun a : Bd => Zw (kE K) lt b c ms rd a P) (fun a => none)
set_option maxRecDepth 100000 in
set_option maxHeartbeats 4000000 in
theorem t_X6_does_L0 (N : Nat) (lt b c ms rd m : Bd) (P : PL) (x1 : Int) (K : KT) (X : Kok K cX6_does yX6_does.cls lw_g ({ frames := 2, cells := 0, slots := 0, locals := 45 } : Room) none 2) (k : Bd → Option (Bd)) (hk : ∀ (m1 : Bd), Rn K (Q_X6_does K lt b c ms rd m P) 0 0 (k m1) 121 [] [] (Zw (kE K) lt b c ms rd m1 P)) : ∀ (n : Nat) (m1 : Bd), Rn K (Q_X6_does K lt b c ms rd m P) 0 0 (f_X6_does_L0 x1 k n m1) 0 [(0, .ref (kB K + 35)), (1, vI x1)] [] (Zw (kE K) lt b c ms rd m1 P) := by
  intro n
  induction n with
  | zero =>
    intro m1
    rw [f_X6_does_L0]
    exact r_none
  | succ n ih =>
    intro m1
    rw [f_X6_does_L0]
    refine r_aload_n (pc := 0) X 0 dX6_does_0 rfl rfl ?_
    refine r_get (pc := 1) (v := vI (m1 28 0)) X 35 28 inX6 rfl rfl (by decide) tf_X6_153 rfl dX6_does_1 ?_
    refine r_ck1 (fun h1 => ?_)
    refine r_ifle (pc := 4) X h1 dX6_does_4 (tgt := 121) (by decide) (fun h2 => ?_) (fun h2 => ?_)
    · refine r_sub [] rfl ?_
      exact hk m1
    · refine r_aload_n (pc := 7) X 0 dX6_does_7 rfl rfl ?_
      refine r_get (pc := 8) (v := .ref (kB K + 56)) X 35 27 inX6 rfl rfl (by decide) tf_X6_70 rfl dX6_does_8 ?_
      refine r_aload_n (pc := 11) X 0 dX6_does_11 rfl rfl ?_
      refine r_get (pc := 12) (v := vI (m1 28 0)) X 35 28 inX6 rfl rfl (by decide) tf_X6_153 rfl dX6_does_12 ?_
      refine r_iconst (pc := 15) X 1 dX6_does_15 (by decide) ?_
      refine r_isub (pc := 16) X dX6_does_16 ?_
      refine r_ckA (fun h3 => ?_)
      refine r_iald (pc := 17) (f := m1 27) X 56 h3 zl_130 rfl dX6_does_17 ?_
      refine r_bipush (pc := 18) X 42 dX6_does_18 (by decide) ?_
      refine r_jn (J := fun j43 => Rn K (Q_X6_does K lt b c ms rd m P) 0 0 j43 43 [(0, .ref (kB K + 35)), (1, vI x1)] [] (Zw (kE K) lt b c ms rd m1 P)) ?_ (fun j43 hj43 => ?_)
      · skip
        refine r_aload_n (pc := 43) X 0 dX6_does_43 rfl rfl ?_
        refine r_dup (pc := 44) X dX6_does_44 rfl ?_
        refine r_get (pc := 45) (v := vI (m1 28 0)) X 35 28 inX6 rfl rfl (by decide) tf_X6_153 rfl dX6_does_45 ?_
        refine r_iconst (pc := 48) X 1 dX6_does_48 (by decide) ?_
        refine r_isub (pc := 49) X dX6_does_49 ?_
        refine r_put (pc := 50) (ws' := (Zw (kE K) lt b c ms rd (bs0 m1 28 ((m1 28 0) - 1)) P)) X 35 28 inX6 tyX6 tyX6_ok nmX6 rfl rfl (by decide) tf_X6_153 rfl (tyX6_ok 28 (by decide)) rfl rfl (Nat.le_of_ble_eq_true rfl) rfl dX6_does_50 ?_
        refine r_aload_n (pc := 53) X 0 dX6_does_53 rfl rfl ?_
        refine r_dup (pc := 54) X dX6_does_54 rfl ?_
        refine r_get (pc := 55) (v := vI (m1 30 0)) X 35 30 inX6 rfl rfl (by decide) tf_X6_156 rfl dX6_does_55 ?_
        refine r_iconst (pc := 58) X 1 dX6_does_58 (by decide) ?_
        refine r_isub (pc := 59) X dX6_does_59 ?_
        refine r_put (pc := 60) (ws' := (Zw (kE K) lt b c ms rd (bs0 (bs0 m1 28 ((m1 28 0) - 1)) 30 ((m1 30 0) - 1)) P)) X 35 30 inX6 tyX6 tyX6_ok nmX6 rfl rfl (by decide) tf_X6_156 rfl (tyX6_ok 30 (by decide)) rfl rfl (Nat.le_of_ble_eq_true rfl) rfl dX6_does_60 ?_
        refine r_aload_n (pc := 63) X 0 dX6_does_63 rfl rfl ?_
        refine r_get (pc := 64) (v := .ref (kB K + 57)) X 35 29 inX6 rfl rfl (by decide) tf_X6_73 rfl dX6_does_64 ?_
        refine r_aload_n (pc := 67) X 0 dX6_does_67 rfl rfl ?_
        refine r_get (pc := 68) (v := vI ((m1 30 0) - 1)) X 35 30 inX6 rfl rfl (by decide) tf_X6_156 rfl dX6_does_68 ?_
        refine r_iconst (pc := 71) X 1 dX6_does_71 (by decide) ?_
        refine r_isub (pc := 72) X dX6_does_72 ?_
        refine r_aload_n (pc := 73) X 0 dX6_does_73 rfl rfl ?_
        refine r_aload_n (pc := 74) X 0 dX6_does_74 rfl rfl ?_
        refine r_get (pc := 75) (v := .ref (kB K + 56)) X 35 27 inX6 rfl rfl (by decide) tf_X6_70 rfl dX6_does_75 ?_
        refine r_aload_n (pc := 78) X 0 dX6_does_78 rfl rfl ?_
        refine r_get (pc := 79) (v := vI ((m1 28 0) - 1)) X 35 28 inX6 rfl rfl (by decide) tf_X6_153 rfl dX6_does_79 ?_
        refine r_iald (pc := 82) (f := m1 27) X 56 h3 zl_130 rfl dX6_does_82 ?_
        refine r_bipush (pc := 83) X 42 dX6_does_83 (by decide) ?_
        refine r_jn (J := fun j94 => ∀ (s3_94 : Int), Rn K (Q_X6_does K lt b c ms rd m P) 0 0 (j94 s3_94) 94 [(0, .ref (kB K + 35)), (1, vI x1)] [vI s3_94, .ref (kB K + 35), vI (((m1 30 0) - 1) - 1), .ref (kB K + 57)] (Zw (kE K) lt b c ms rd (bs0 (bs0 m1 28 ((m1 28 0) - 1)) 30 ((m1 30 0) - 1)) P)) ?_ (fun j94 hj94 => ?_)
        · intro s3_94
          refine r_aload_n (pc := 94) X 0 dX6_does_94 rfl rfl ?_
          refine r_get (pc := 95) (v := .ref (kB K + 57)) X 35 29 inX6 rfl rfl (by decide) tf_X6_73 rfl dX6_does_95 ?_
          refine r_aload_n (pc := 98) X 0 dX6_does_98 rfl rfl ?_
          refine r_get (pc := 99) (v := vI ((m1 30 0) - 1)) X 35 30 inX6 rfl rfl (by decide) tf_X6_156 rfl dX6_does_99 ?_
          refine r_iconst (pc := 102) X 1 dX6_does_102 (by decide) ?_
          refine r_isub (pc := 103) X dX6_does_103 ?_
          refine r_ckA (fun h4 => ?_)
          refine r_iald (pc := 104) (f := m1 29) X 57 h4 zl_130 rfl dX6_does_104 ?_
          refine r_aload_n (pc := 105) X 0 dX6_does_105 rfl rfl ?_
          refine r_get (pc := 106) (v := .ref (kB K + 57)) X 35 29 inX6 rfl rfl (by decide) tf_X6_73 rfl dX6_does_106 ?_
          refine r_aload_n (pc := 109) X 0 dX6_does_109 rfl rfl ?_
          refine r_get (pc := 110) (v := vI ((m1 30 0) - 1)) X 35 30 inX6 rfl rfl (by decide) tf_X6_156 rfl dX6_does_110 ?_
          refine r_ckA (fun h5 => ?_)
          refine r_iald (pc := 113) (f := m1 29) X 57 h5 zl_130 rfl dX6_does_113 ?_
          refine r_callV (pc := 114) (q0 := 35) (ci := 6) (As := [vI s3_94, vI (m1 29 (((m1 30 0) - 1) - 1)), vI (m1 29 ((m1 30 0) - 1))]) (rest := [vI (((m1 30 0) - 1) - 1), .ref (kB K + 57)]) (W' := fun q114_6 => (Zw (kE K) lt b c ms rd q114_6.2 P)) (rv := fun q114_6 => some (vI q114_6.1)) X dX6_does_114 rfl (fun a ha => c_X6_adds N lt b c ms rd (bs0 (bs0 m1 28 ((m1 28 0) - 1)) 30 ((m1 30 0) - 1)) P s3_94 (m1 29 (((m1 30 0) - 1) - 1)) (m1 29 ((m1 30 0) - 1)) K.1.2.1 K.2.2.1.1 (kE K) a ha) (fun a => Zw_d _ _ _ _ _ _ _ _) gd_X6_110 rfl (n := 3) (by decide) rfl (by decide) rfl rfl rfl (by simp [z_cat, z_catR, z_catI, z_catL]) (fun q114_6 eq114_6 => ?_)
          show Rn K _ 0 0 _ 117 [(0, .ref (kB K + 35)), (1, vI x1)] [vI q114_6.1, vI (((m1 30 0) - 1) - 1), .ref (kB K + 57)] (Zw (kE K) lt b c ms rd q114_6.2 P)
          refine r_iast (pc := 117) (f := q114_6.2 29) (ws' := (Zw (kE K) lt b c ms rd (bS q114_6.2 29 (aS (q114_6.2 29) (((m1 30 0) - 1) - 1) q114_6.1)) P)) X 57 h4 zl_130 rfl rfl dX6_does_117 ?_
          refine r_goto (pc := 118) X dX6_does_118 (tgt := 0) (by decide) ?_
          exact ih (bS q114_6.2 29 (aS (q114_6.2 29) (((m1 30 0) - 1) - 1) q114_6.1))
        refine r_ck1 (fun h7 => ?_)
        refine r_icmp_ne (pc := 85) X h7 (by decide) dX6_does_85 (tgt := 92) (by decide) (fun h8 => ?_) (fun h8 => ?_)
        · refine r_bipush (pc := 92) X 6 dX6_does_92 (by decide) ?_
          exact hj94 6
        · refine r_iconst (pc := 88) X 5 dX6_does_88 (by decide) ?_
          refine r_goto (pc := 89) X dX6_does_89 (tgt := 94) (by decide) ?_
          exact hj94 5
      refine r_ck1 (fun h9 => ?_)
      refine r_icmp_eq (pc := 20) X h9 (by decide) dX6_does_20 (tgt := 43) (by decide) (fun h10 => ?_) (fun h10 => ?_)
      · exact hj43
      · refine r_iload_n (pc := 23) X 1 dX6_does_23 rfl rfl ?_
        refine r_ck1 (fun h11 => ?_)
        refine r_ifne (pc := 24) X h11 dX6_does_24 (tgt := 121) (by decide) (fun h12 => ?_) (fun h12 => ?_)
        · refine r_sub [] rfl ?_
          exact hk m1
        · refine r_aload_n (pc := 27) X 0 dX6_does_27 rfl rfl ?_
          refine r_get (pc := 28) (v := .ref (kB K + 56)) X 35 27 inX6 rfl rfl (by decide) tf_X6_70 rfl dX6_does_28 ?_
          refine r_aload_n (pc := 31) X 0 dX6_does_31 rfl rfl ?_
          refine r_get (pc := 32) (v := vI (m1 28 0)) X 35 28 inX6 rfl rfl (by decide) tf_X6_153 rfl dX6_does_32 ?_
          refine r_iconst (pc := 35) X 1 dX6_does_35 (by decide) ?_
          refine r_isub (pc := 36) X dX6_does_36 ?_
          refine r_iald (pc := 37) (f := m1 27) X 56 h3 zl_130 rfl dX6_does_37 ?_
          refine r_bipush (pc := 38) X 62 dX6_does_38 (by decide) ?_
          refine r_icmp_ne (pc := 40) X h9 (by decide) dX6_does_40 (tgt := 121) (by decide) (fun h13 => ?_) (fun h13 => ?_)
          · refine r_sub [] rfl ?_
            exact hk m1
          · exact hj43
set_option maxRecDepth 100000 in
set_option maxHeartbeats 4000000 in
theorem t_X6_does (N : Nat) (lt b c ms rd m : Bd) (P : PL) (x1 : Int) (K : KT) (X : Kok K cX6_does yX6_does.cls lw_g ({ frames := 2, cells := 0, slots := 0, locals := 45 } : Room) none 2) : Rn K (Q_X6_does K lt b c ms rd m P) 0 0 (f_X6_does N m x1) 0 [(0, .ref (kB K + 35)), (1, vI x1)] [] (Zw (kE K) lt b c ms rd m P) := by
  unfold f_X6_does
  refine t_X6_does_L0 N lt b c ms rd m P  x1 K X _ ?_ N m
  intro m_0
  exact r_vret (pc := 121) X rfl rfl (by decide) dX6_does_121
theorem c_X6_does (N : Nat) (lt b c ms rd m : Bd) (P : PL) (x1 : Int) (l : Launch) (D : va_G) (E : ET) (a : Bd) (ha : f_X6_does N m x1 = some a) : Ct l yX6_does (Cond.code yX6_does cX6_does 2 none :: lw_g) ({ frames := 2, cells := 0, slots := 0, locals := 45 } : Room) D E [.ref (E.2.2.2 + 35), vI x1] (Zw E lt b c ms rd m P) (Zw E lt b c ms rd a P) (none) :=
  ct_of (av := fun E => [.ref (E.2.2.2 + 35), vI x1]) (W0 := fun E => Zw E lt b c ms rd m P) (W1 := fun E (a : Bd) => Zw E lt b c ms rd a P) (rw := fun E a => none) (by decide) rfl (fun E => Zw_d E lt b c ms rd m P) (fun E => by simp [lg_sl, z_cat, z_catR, z_catI, z_catL]) (fun K X => r_lv (by simp [lv_args, z_cat, z_catR, z_catI, z_catL]) (t_X6_does N lt b c ms rd m P x1 K X)) l D E a ha
abbrev Q_X6_bracket (K : KT) (lt b c ms rd m : Bd) (P : PL) : (Int) → State → Prop := Qm K ({ frames := 0, cells := 0, slots := 0, locals := 0 } : Room) (fun a : Int => Zw (kE K) lt b c ms rd m P) (fun a => some (vI a))
set_option maxRecDepth 100000 in
set_option maxHeartbeats 4000000 in
theorem t_X6_bracket_L4 (N : Nat) (lt b c ms rd m : Bd) (P : PL) (K : KT) (X : Kok K cX6_bracket yX6_bracket.cls lw_g ({ frames := 0, cells := 0, slots := 0, locals := 0 } : Room) (some .int) 3) (k : Int → Option (Int)) (hk : ∀ (x1 : Int), Rn K (Q_X6_bracket K lt b c ms rd m P) 0 0 (k x1) 51 [(1, vI x1)] [] (Zw (kE K) lt b c ms rd m P)) : ∀ (n : Nat) (x1 : Int) (x2 : Int), Rn K (Q_X6_bracket K lt b c ms rd m P) 0 0 (f_X6_bracket_L4 m k n x1 x2) 4 [(0, .ref (kB K + 35)), (1, vI x1), (2, vI x2)] [] (Zw (kE K) lt b c ms rd m P) := by
  intro n
  induction n with
  | zero =>
    intro x1 x2
    rw [f_X6_bracket_L4]
    exact r_none
  | succ n ih =>
    intro x1 x2
    rw [f_X6_bracket_L4]
    refine r_iload_n (pc := 4) X 2 dX6_bracket_4 rfl rfl ?_
    refine r_aload_n (pc := 5) X 0 dX6_bracket_5 rfl rfl ?_
    refine r_get (pc := 6) (v := vI (m 28 0)) X 35 28 inX6 rfl rfl (by decide) tf_X6_153 rfl dX6_bracket_6 ?_
    refine r_ck1 (fun h1 => ?_)
    refine r_ck1 (fun h2 => ?_)
    refine r_icmp_ge (pc := 9) X h1 h2 dX6_bracket_9 (tgt := 51) (by decide) (fun h3 => ?_) (fun h3 => ?_)
    · refine r_sub [1] rfl ?_
      exact hk x1
    · refine r_aload_n (pc := 12) X 0 dX6_bracket_12 rfl rfl ?_
      refine r_get (pc := 13) (v := .ref (kB K + 56)) X 35 27 inX6 rfl rfl (by decide) tf_X6_70 rfl dX6_bracket_13 ?_
      refine r_iload_n (pc := 16) X 2 dX6_bracket_16 rfl rfl ?_
      refine r_ckA (fun h4 => ?_)
      refine r_iald (pc := 17) (f := m 27) X 56 h4 zl_130 rfl dX6_bracket_17 ?_
      refine r_bipush (pc := 18) X 40 dX6_bracket_18 (by decide) ?_
      refine r_jn (J := fun j34 => Rn K (Q_X6_bracket K lt b c ms rd m P) 0 0 j34 34 [(0, .ref (kB K + 35)), (2, vI x2)] [] (Zw (kE K) lt b c ms rd m P)) ?_ (fun j34 hj34 => ?_)
      · skip
        refine r_aload_n (pc := 34) X 0 dX6_bracket_34 rfl rfl ?_
        refine r_get (pc := 35) (v := .ref (kB K + 56)) X 35 27 inX6 rfl rfl (by decide) tf_X6_70 rfl dX6_bracket_35 ?_
        refine r_iload_n (pc := 38) X 1 dX6_bracket_38 rfl rfl ?_
        refine r_iald (pc := 39) (f := m 27) X 56 h4 zl_130 rfl dX6_bracket_39 ?_
        refine r_goto (pc := 40) X dX6_bracket_40 (tgt := 44) (by decide) ?_
        refine r_istore_n (pc := 44) (lv' := [(0, .ref (kB K + 35)), (1, vI (m 27 x2)), (2, vI x2)]) X [1, 0, 2] dX6_bracket_44 rfl (by decide) rfl ?_
        refine r_iinc (pc := 45) (lv' := [(0, .ref (kB K + 35)), (1, vI (m 27 x2)), (2, vI (x2 + 1))]) X 2 [1, 2, 0] dX6_bracket_45 rfl (by decide) rfl ?_
        refine r_goto (pc := 48) X dX6_bracket_48 (tgt := 4) (by decide) ?_
        exact ih (m 27 x2) (x2 + 1)
      refine r_ck1 (fun h5 => ?_)
      refine r_icmp_eq (pc := 20) X h5 (by decide) dX6_bracket_20 (tgt := 34) (by decide) (fun h6 => ?_) (fun h6 => ?_)
      · refine r_sub [0, 2] rfl ?_
        exact hj34
      · refine r_aload_n (pc := 23) X 0 dX6_bracket_23 rfl rfl ?_
        refine r_get (pc := 24) (v := .ref (kB K + 56)) X 35 27 inX6 rfl rfl (by decide) tf_X6_70 rfl dX6_bracket_24 ?_
        refine r_iload_n (pc := 27) X 2 dX6_bracket_27 rfl rfl ?_
        refine r_iald (pc := 28) (f := m 27) X 56 h4 zl_130 rfl dX6_bracket_28 ?_
        refine r_bipush (pc := 29) X 91 dX6_bracket_29 (by decide) ?_
        refine r_icmp_ne (pc := 31) X h5 (by decide) dX6_bracket_31 (tgt := 43) (by decide) (fun h7 => ?_) (fun h7 => ?_)
        · refine r_iload_n (pc := 43) X 1 dX6_bracket_43 rfl rfl ?_
          refine r_istore_n (pc := 44) (lv' := [(0, .ref (kB K + 35)), (1, vI x1), (2, vI x2)]) X [1, 0, 2] dX6_bracket_44 rfl (by decide) rfl ?_
          refine r_iinc (pc := 45) (lv' := [(0, .ref (kB K + 35)), (1, vI x1), (2, vI (x2 + 1))]) X 2 [1, 2, 0] dX6_bracket_45 rfl (by decide) rfl ?_
          refine r_goto (pc := 48) X dX6_bracket_48 (tgt := 4) (by decide) ?_
          exact ih x1 (x2 + 1)
        · refine r_sub [0, 2] rfl ?_
          exact hj34
set_option maxRecDepth 100000 in
set_option maxHeartbeats 4000000 in
theorem t_X6_bracket (N : Nat) (lt b c ms rd m : Bd) (P : PL) (K : KT) (X : Kok K cX6_bracket yX6_bracket.cls lw_g ({ frames := 0, cells := 0, slots := 0, locals := 0 } : Room) (some .int) 3) : Rn K (Q_X6_bracket K lt b c ms rd m P) 0 0 (f_X6_bracket N m) 0 [(0, .ref (kB K + 35))] [] (Zw (kE K) lt b c ms rd m P) := by
  unfold f_X6_bracket
  refine r_iconst (pc := 0) X 0 dX6_bracket_0 (by decide) ?_
  refine r_istore_n (pc := 1) (lv' := [(0, .ref (kB K + 35)), (1, vI 0)]) X [1, 0] dX6_bracket_1 rfl (by decide) rfl ?_
  refine r_iconst (pc := 2) X 0 dX6_bracket_2 (by decide) ?_
  refine r_istore_n (pc := 3) (lv' := [(0, .ref (kB K + 35)), (1, vI 0), (2, vI 0)]) X [1, 2, 0] dX6_bracket_3 rfl (by decide) rfl ?_
  refine t_X6_bracket_L4 N lt b c ms rd m P   K X _ ?_ N 0 0
  intro x1_4
  refine r_iload_n (pc := 51) X 0 dX6_bracket_51 rfl rfl ?_
  exact r_iret (pc := 52) X rfl rfl (by decide) dX6_bracket_52
theorem c_X6_bracket (N : Nat) (lt b c ms rd m : Bd) (P : PL) (l : Launch) (D : va_G) (E : ET) (a : Int) (ha : f_X6_bracket N m = some a) : Ct l yX6_bracket (Cond.code yX6_bracket cX6_bracket 3 (some .int) :: lw_g) ({ frames := 0, cells := 0, slots := 0, locals := 0 } : Room) D E [.ref (E.2.2.2 + 35)] (Zw E lt b c ms rd m P) (Zw E lt b c ms rd m P) (some (vI a)) :=
  ct_of (av := fun E => [.ref (E.2.2.2 + 35)]) (W0 := fun E => Zw E lt b c ms rd m P) (W1 := fun E (a : Int) => Zw E lt b c ms rd m P) (rw := fun E a => some (vI a)) (by decide) rfl (fun E => Zw_d E lt b c ms rd m P) (fun E => by simp [lg_sl, z_cat, z_catR, z_catI, z_catL]) (fun K X => r_lv (by simp [lv_args, z_cat, z_catR, z_catI, z_catL]) (t_X6_bracket N lt b c ms rd m P  K X)) l D E a ha
abbrev Q_X6_readsTerm (K : KT) (lt b c ms rd m : Bd) (P : PL) : (Int × Bd) → State → Prop := Qm K ({ frames := 3, cells := 0, slots := 0, locals := 66 } : Room) (fun a : Int × Bd => Zw (kE K) lt b c ms rd a.2 P) (fun a => some (vI a.1))
set_option maxRecDepth 100000 in
set_option maxHeartbeats 4000000 in
theorem t_X6_readsTerm_L12 (N : Nat) (lt b c ms rd m : Bd) (P : PL) (K : KT) (X : Kok K cX6_readsTerm yX6_readsTerm.cls lw_g ({ frames := 3, cells := 0, slots := 0, locals := 66 } : Room) (some .int) 3) : ∀ (n : Nat) (x1 : Int) (m1 : Bd), Rn K (Q_X6_readsTerm K lt b c ms rd m P) 0 0 (f_X6_readsTerm_L12 N n x1 m1) 12 [(0, .ref (kB K + 35)), (1, vI x1)] [] (Zw (kE K) lt b c ms rd m1 P) := by
  intro n
  induction n with
  | zero =>
    intro x1 m1
    rw [f_X6_readsTerm_L12]
    exact r_none
  | succ n ih =>
    intro x1 m1
    rw [f_X6_readsTerm_L12]
    refine r_aload_n (pc := 12) X 0 dX6_readsTerm_12 rfl rfl ?_
    refine r_callV (pc := 13) (q0 := 35) (ci := 6) (As := []) (rest := []) (W' := fun q13_1 => (Zw (kE K) lt b c ms rd q13_1 P)) (rv := fun q13_1 => none) X dX6_readsTerm_13 rfl (fun a ha => c_X6_skips N lt b c ms rd m1 P K.1.2.1 K.2.2.1.1 (kE K) a ha) (fun a => Zw_d _ _ _ _ _ _ _ _) gd_X6_159 rfl (n := 0) (by decide) rfl (by decide) rfl rfl rfl (Nat.zero_le _) (fun q13_1 eq13_1 => ?_)
    show Rn K _ 0 0 _ 16 [(0, .ref (kB K + 35)), (1, vI x1)] [] (Zw (kE K) lt b c ms rd q13_1 P)
    refine r_aload_n (pc := 16) X 0 dX6_readsTerm_16 rfl rfl ?_
    refine r_aload_n (pc := 17) X 0 dX6_readsTerm_17 rfl rfl ?_
    refine r_get (pc := 18) (v := vI (q13_1 22 0)) X 35 22 inX6 rfl rfl (by decide) tf_X6_147 rfl dX6_readsTerm_18 ?_
    refine r_callV (pc := 21) (q0 := 35) (ci := 6) (As := [vI (q13_1 22 0)]) (rest := []) (W' := fun q21_2 => (Zw (kE K) lt b c ms rd q13_1 P)) (rv := fun q21_2 => some (vI q21_2)) X dX6_readsTerm_21 rfl (fun a ha => c_X6_byteAt N lt b c ms rd q13_1 P (q13_1 22 0) K.1.2.1 K.2.2.1.1 (kE K) a ha) (fun a => Zw_d _ _ _ _ _ _ _ _) gd_X6_150 rfl (n := 1) (by decide) rfl (by decide) rfl rfl rfl (Nat.zero_le _) (fun q21_2 eq21_2 => ?_)
    show Rn K _ 0 0 _ 24 [(0, .ref (kB K + 35)), (1, vI x1)] [vI q21_2] (Zw (kE K) lt b c ms rd q13_1 P)
    refine r_istore_n (pc := 24) (lv' := [(0, .ref (kB K + 35)), (1, vI x1), (2, vI q21_2)]) X [1, 2, 0] dX6_readsTerm_24 rfl (by decide) rfl ?_
    refine r_iload_n (pc := 25) X 1 dX6_readsTerm_25 rfl rfl ?_
    refine r_jn (J := fun j59 => Rn K (Q_X6_readsTerm K lt b c ms rd m P) 0 0 j59 59 [(0, .ref (kB K + 35)), (1, vI x1), (2, vI q21_2)] [] (Zw (kE K) lt b c ms rd q13_1 P)) ?_ (fun j59 hj59 => ?_)
    · skip
      refine r_iload_n (pc := 59) X 1 dX6_readsTerm_59 rfl rfl ?_
      refine r_jn (J := fun j117 => Rn K (Q_X6_readsTerm K lt b c ms rd m P) 0 0 j117 117 [(0, .ref (kB K + 35)), (1, vI x1), (2, vI q21_2)] [] (Zw (kE K) lt b c ms rd q13_1 P)) ?_ (fun j117 hj117 => ?_)
      · skip
        refine r_iload_n (pc := 117) X 1 dX6_readsTerm_117 rfl rfl ?_
        refine r_jn (J := fun j141 => Rn K (Q_X6_readsTerm K lt b c ms rd m P) 0 0 j141 141 [(0, .ref (kB K + 35)), (1, vI x1), (2, vI q21_2)] [] (Zw (kE K) lt b c ms rd q13_1 P)) ?_ (fun j141 hj141 => ?_)
        · skip
          refine r_iload_n (pc := 141) X 1 dX6_readsTerm_141 rfl rfl ?_
          refine r_jn (J := fun j166 => Rn K (Q_X6_readsTerm K lt b c ms rd m P) 0 0 j166 166 [(0, .ref (kB K + 35)), (1, vI x1), (2, vI q21_2)] [] (Zw (kE K) lt b c ms rd q13_1 P)) ?_ (fun j166 hj166 => ?_)
          · skip
            refine r_iload_n (pc := 166) X 1 dX6_readsTerm_166 rfl rfl ?_
            refine r_jn (J := fun j191 => Rn K (Q_X6_readsTerm K lt b c ms rd m P) 0 0 j191 191 [(0, .ref (kB K + 35)), (1, vI x1), (2, vI q21_2)] [] (Zw (kE K) lt b c ms rd q13_1 P)) ?_ (fun j191 hj191 => ?_)
            · skip
              refine r_iload_n (pc := 191) X 1 dX6_readsTerm_191 rfl rfl ?_
              refine r_jn (J := fun j228 => Rn K (Q_X6_readsTerm K lt b c ms rd m P) 0 0 j228 228 [(0, .ref (kB K + 35)), (1, vI x1), (2, vI q21_2)] [] (Zw (kE K) lt b c ms rd q13_1 P)) ?_ (fun j228 hj228 => ?_)
              · skip
                refine r_iload_n (pc := 228) X 1 dX6_readsTerm_228 rfl rfl ?_
                refine r_jn (J := fun j293 => Rn K (Q_X6_readsTerm K lt b c ms rd m P) 0 0 j293 293 [(0, .ref (kB K + 35)), (1, vI x1), (2, vI q21_2)] [] (Zw (kE K) lt b c ms rd q13_1 P)) ?_ (fun j293 hj293 => ?_)
                · skip
                  refine r_iload_n (pc := 293) X 1 dX6_readsTerm_293 rfl rfl ?_
                  refine r_ck1 (fun h3 => ?_)
                  refine r_ifne (pc := 294) X h3 dX6_readsTerm_294 (tgt := 332) (by decide) (fun h4 => ?_) (fun h4 => ?_)
                  · refine r_iconst (pc := 332) X (-1) dX6_readsTerm_332 (by decide) ?_
                    exact r_iret (pc := 333) X rfl rfl (by decide) dX6_readsTerm_333
                  · refine r_iload_n (pc := 297) X 2 dX6_readsTerm_297 rfl rfl ?_
                    refine r_bipush (pc := 298) X 59 dX6_readsTerm_298 (by decide) ?_
                    refine r_ck1 (fun h5 => ?_)
                    refine r_icmp_ne (pc := 300) X h5 (by decide) dX6_readsTerm_300 (tgt := 332) (by decide) (fun h6 => ?_) (fun h6 => ?_)
                    · refine r_iconst (pc := 332) X (-1) dX6_readsTerm_332 (by decide) ?_
                      exact r_iret (pc := 333) X rfl rfl (by decide) dX6_readsTerm_333
                    · refine r_aload_n (pc := 303) X 0 dX6_readsTerm_303 rfl rfl ?_
                      refine r_callV (pc := 304) (q0 := 35) (ci := 6) (As := []) (rest := []) (W' := fun q304_7 => (Zw (kE K) lt b c ms rd q13_1 P)) (rv := fun q304_7 => some (vI q304_7)) X dX6_readsTerm_304 rfl (fun a ha => c_X6_bracket N lt b c ms rd q13_1 P K.1.2.1 K.2.2.1.1 (kE K) a ha) (fun a => Zw_d _ _ _ _ _ _ _ _) gd_X6_176 rfl (n := 0) (by decide) rfl (by decide) rfl rfl rfl (Nat.zero_le _) (fun q304_7 eq304_7 => ?_)
                      show Rn K _ 0 0 _ 307 [(0, .ref (kB K + 35)), (1, vI x1), (2, vI q21_2)] [vI q304_7] (Zw (kE K) lt b c ms rd q13_1 P)
                      refine r_ck1 (fun h8 => ?_)
                      refine r_ifne (pc := 307) X h8 dX6_readsTerm_307 (tgt := 332) (by decide) (fun h9 => ?_) (fun h9 => ?_)
                      · refine r_iconst (pc := 332) X (-1) dX6_readsTerm_332 (by decide) ?_
                        exact r_iret (pc := 333) X rfl rfl (by decide) dX6_readsTerm_333
                      · refine r_aload_n (pc := 310) X 0 dX6_readsTerm_310 rfl rfl ?_
                        refine r_iconst (pc := 311) X 0 dX6_readsTerm_311 (by decide) ?_
                        refine r_callV (pc := 312) (q0 := 35) (ci := 6) (As := [vI 0]) (rest := []) (W' := fun q312_10 => (Zw (kE K) lt b c ms rd q312_10 P)) (rv := fun q312_10 => none) X dX6_readsTerm_312 rfl (fun a ha => c_X6_does N lt b c ms rd q13_1 P 0 K.1.2.1 K.2.2.1.1 (kE K) a ha) (fun a => Zw_d _ _ _ _ _ _ _ _) gd_X6_172 rfl (n := 1) (by decide) rfl (by decide) rfl rfl rfl (Nat.zero_le _) (fun q312_10 eq312_10 => ?_)
                        show Rn K _ 0 0 _ 315 [(0, .ref (kB K + 35)), (1, vI x1), (2, vI q21_2)] [] (Zw (kE K) lt b c ms rd q312_10 P)
                        refine r_aload_n (pc := 315) X 0 dX6_readsTerm_315 rfl rfl ?_
                        refine r_dup (pc := 316) X dX6_readsTerm_316 rfl ?_
                        refine r_get (pc := 317) (v := vI (q312_10 22 0)) X 35 22 inX6 rfl rfl (by decide) tf_X6_147 rfl dX6_readsTerm_317 ?_
                        refine r_iconst (pc := 320) X 1 dX6_readsTerm_320 (by decide) ?_
                        refine r_iadd (pc := 321) X dX6_readsTerm_321 ?_
                        refine r_put (pc := 322) (ws' := (Zw (kE K) lt b c ms rd (bs0 q312_10 22 ((q312_10 22 0) + 1)) P)) X 35 22 inX6 tyX6 tyX6_ok nmX6 rfl rfl (by decide) tf_X6_147 rfl (tyX6_ok 22 (by decide)) rfl rfl (Nat.le_of_ble_eq_true rfl) rfl dX6_readsTerm_322 ?_
                        refine r_aload_n (pc := 325) X 0 dX6_readsTerm_325 rfl rfl ?_
                        refine r_get (pc := 326) (v := .ref (kB K + 57)) X 35 29 inX6 rfl rfl (by decide) tf_X6_73 rfl dX6_readsTerm_326 ?_
                        refine r_iconst (pc := 329) X 0 dX6_readsTerm_329 (by decide) ?_
                        refine r_iald (pc := 330) (f := q312_10 29) X 57 (by decide) zl_130 rfl dX6_readsTerm_330 ?_
                        exact r_iret (pc := 331) X rfl rfl (by decide) dX6_readsTerm_331
                refine r_ck1 (fun h11 => ?_)
                refine r_ifne (pc := 229) X h11 dX6_readsTerm_229 (tgt := 293) (by decide) (fun h12 => ?_) (fun h12 => ?_)
                · exact hj293
                · refine r_iload_n (pc := 232) X 2 dX6_readsTerm_232 rfl rfl ?_
                  refine r_bipush (pc := 233) X 93 dX6_readsTerm_233 (by decide) ?_
                  refine r_ck1 (fun h13 => ?_)
                  refine r_icmp_ne (pc := 235) X h13 (by decide) dX6_readsTerm_235 (tgt := 293) (by decide) (fun h14 => ?_) (fun h14 => ?_)
                  · exact hj293
                  · refine r_aload_n (pc := 238) X 0 dX6_readsTerm_238 rfl rfl ?_
                    refine r_callV (pc := 239) (q0 := 35) (ci := 6) (As := []) (rest := []) (W' := fun q239_15 => (Zw (kE K) lt b c ms rd q13_1 P)) (rv := fun q239_15 => some (vI q239_15)) X dX6_readsTerm_239 rfl (fun a ha => c_X6_bracket N lt b c ms rd q13_1 P K.1.2.1 K.2.2.1.1 (kE K) a ha) (fun a => Zw_d _ _ _ _ _ _ _ _) gd_X6_176 rfl (n := 0) (by decide) rfl (by decide) rfl rfl rfl (Nat.zero_le _) (fun q239_15 eq239_15 => ?_)
                    show Rn K _ 0 0 _ 242 [(0, .ref (kB K + 35)), (1, vI x1), (2, vI q21_2)] [vI q239_15] (Zw (kE K) lt b c ms rd q13_1 P)
                    refine r_bipush (pc := 242) X 91 dX6_readsTerm_242 (by decide) ?_
                    refine r_ck1 (fun h16 => ?_)
                    refine r_icmp_ne (pc := 244) X h16 (by decide) dX6_readsTerm_244 (tgt := 293) (by decide) (fun h17 => ?_) (fun h17 => ?_)
                    · exact hj293
                    · refine r_aload_n (pc := 247) X 0 dX6_readsTerm_247 rfl rfl ?_
                      refine r_iconst (pc := 248) X 0 dX6_readsTerm_248 (by decide) ?_
                      refine r_callV (pc := 249) (q0 := 35) (ci := 6) (As := [vI 0]) (rest := []) (W' := fun q249_18 => (Zw (kE K) lt b c ms rd q249_18 P)) (rv := fun q249_18 => none) X dX6_readsTerm_249 rfl (fun a ha => c_X6_does N lt b c ms rd q13_1 P 0 K.1.2.1 K.2.2.1.1 (kE K) a ha) (fun a => Zw_d _ _ _ _ _ _ _ _) gd_X6_172 rfl (n := 1) (by decide) rfl (by decide) rfl rfl rfl (Nat.zero_le _) (fun q249_18 eq249_18 => ?_)
                      show Rn K _ 0 0 _ 252 [(0, .ref (kB K + 35)), (1, vI x1), (2, vI q21_2)] [] (Zw (kE K) lt b c ms rd q249_18 P)
                      refine r_aload_n (pc := 252) X 0 dX6_readsTerm_252 rfl rfl ?_
                      refine r_dup (pc := 253) X dX6_readsTerm_253 rfl ?_
                      refine r_get (pc := 254) (v := vI (q249_18 28 0)) X 35 28 inX6 rfl rfl (by decide) tf_X6_153 rfl dX6_readsTerm_254 ?_
                      refine r_iconst (pc := 257) X 1 dX6_readsTerm_257 (by decide) ?_
                      refine r_isub (pc := 258) X dX6_readsTerm_258 ?_
                      refine r_put (pc := 259) (ws' := (Zw (kE K) lt b c ms rd (bs0 q249_18 28 ((q249_18 28 0) - 1)) P)) X 35 28 inX6 tyX6 tyX6_ok nmX6 rfl rfl (by decide) tf_X6_153 rfl (tyX6_ok 28 (by decide)) rfl rfl (Nat.le_of_ble_eq_true rfl) rfl dX6_readsTerm_259 ?_
                      refine r_aload_n (pc := 262) X 0 dX6_readsTerm_262 rfl rfl ?_
                      refine r_get (pc := 263) (v := .ref (kB K + 57)) X 35 29 inX6 rfl rfl (by decide) tf_X6_73 rfl dX6_readsTerm_263 ?_
                      refine r_aload_n (pc := 266) X 0 dX6_readsTerm_266 rfl rfl ?_
                      refine r_get (pc := 267) (v := vI (q249_18 30 0)) X 35 30 inX6 rfl rfl (by decide) tf_X6_156 rfl dX6_readsTerm_267 ?_
                      refine r_iconst (pc := 270) X 1 dX6_readsTerm_270 (by decide) ?_
                      refine r_isub (pc := 271) X dX6_readsTerm_271 ?_
                      refine r_aload_n (pc := 272) X 0 dX6_readsTerm_272 rfl rfl ?_
                      refine r_iconst (pc := 273) X 4 dX6_readsTerm_273 (by decide) ?_
                      refine r_aload_n (pc := 274) X 0 dX6_readsTerm_274 rfl rfl ?_
                      refine r_get (pc := 275) (v := .ref (kB K + 57)) X 35 29 inX6 rfl rfl (by decide) tf_X6_73 rfl dX6_readsTerm_275 ?_
                      refine r_aload_n (pc := 278) X 0 dX6_readsTerm_278 rfl rfl ?_
                      refine r_get (pc := 279) (v := vI (q249_18 30 0)) X 35 30 inX6 rfl rfl (by decide) tf_X6_156 rfl dX6_readsTerm_279 ?_
                      refine r_iconst (pc := 282) X 1 dX6_readsTerm_282 (by decide) ?_
                      refine r_isub (pc := 283) X dX6_readsTerm_283 ?_
                      refine r_ckA (fun h19 => ?_)
                      refine r_iald (pc := 284) (f := q249_18 29) X 57 h19 zl_130 rfl dX6_readsTerm_284 ?_
                      refine r_iconst (pc := 285) X 0 dX6_readsTerm_285 (by decide) ?_
                      refine r_callV (pc := 286) (q0 := 35) (ci := 6) (As := [vI 4, vI (q249_18 29 ((q249_18 30 0) - 1)), vI 0]) (rest := [vI ((q249_18 30 0) - 1), .ref (kB K + 57)]) (W' := fun q286_20 => (Zw (kE K) lt b c ms rd q286_20.2 P)) (rv := fun q286_20 => some (vI q286_20.1)) X dX6_readsTerm_286 rfl (fun a ha => c_X6_adds N lt b c ms rd (bs0 q249_18 28 ((q249_18 28 0) - 1)) P 4 (q249_18 29 ((q249_18 30 0) - 1)) 0 K.1.2.1 K.2.2.1.1 (kE K) a ha) (fun a => Zw_d _ _ _ _ _ _ _ _) gd_X6_110 rfl (n := 3) (by decide) rfl (by decide) rfl rfl rfl (by simp [z_cat, z_catR, z_catI, z_catL]) (fun q286_20 eq286_20 => ?_)
                      show Rn K _ 0 0 _ 289 [(0, .ref (kB K + 35)), (1, vI x1), (2, vI q21_2)] [vI q286_20.1, vI ((q249_18 30 0) - 1), .ref (kB K + 57)] (Zw (kE K) lt b c ms rd q286_20.2 P)
                      refine r_iast (pc := 289) (f := q286_20.2 29) (ws' := (Zw (kE K) lt b c ms rd (bS q286_20.2 29 (aS (q286_20.2 29) ((q249_18 30 0) - 1) q286_20.1)) P)) X 57 h19 zl_130 rfl rfl dX6_readsTerm_289 ?_
                      refine r_goto (pc := 290) X dX6_readsTerm_290 (tgt := 334) (by decide) ?_
                      refine r_aload_n (pc := 334) X 0 dX6_readsTerm_334 rfl rfl ?_
                      refine r_dup (pc := 335) X dX6_readsTerm_335 rfl ?_
                      refine r_get (pc := 336) (v := vI (q286_20.2 22 0)) X 35 22 inX6 rfl rfl (by decide) tf_X6_147 rfl dX6_readsTerm_336 ?_
                      refine r_iconst (pc := 339) X 1 dX6_readsTerm_339 (by decide) ?_
                      refine r_iadd (pc := 340) X dX6_readsTerm_340 ?_
                      refine r_put (pc := 341) (ws' := (Zw (kE K) lt b c ms rd (bS (bs0 q286_20.2 22 ((q286_20.2 22 0) + 1)) 29 (aS (q286_20.2 29) ((q249_18 30 0) - 1) q286_20.1)) P)) X 35 22 inX6 tyX6 tyX6_ok nmX6 rfl rfl (by decide) tf_X6_147 rfl (tyX6_ok 22 (by decide)) rfl rfl (Nat.le_of_ble_eq_true rfl) rfl dX6_readsTerm_341 ?_
                      refine r_goto (pc := 344) X dX6_readsTerm_344 (tgt := 12) (by decide) ?_
                      refine r_sub [0, 1] rfl ?_
                      exact ih x1 (bS (bs0 q286_20.2 22 ((q286_20.2 22 0) + 1)) 29 (aS (q286_20.2 29) ((q249_18 30 0) - 1) q286_20.1))
              refine r_ck1 (fun h21 => ?_)
              refine r_ifne (pc := 192) X h21 dX6_readsTerm_192 (tgt := 228) (by decide) (fun h22 => ?_) (fun h22 => ?_)
              · exact hj228
              · refine r_iload_n (pc := 195) X 2 dX6_readsTerm_195 rfl rfl ?_
                refine r_bipush (pc := 196) X 41 dX6_readsTerm_196 (by decide) ?_
                refine r_ck1 (fun h23 => ?_)
                refine r_icmp_ne (pc := 198) X h23 (by decide) dX6_readsTerm_198 (tgt := 228) (by decide) (fun h24 => ?_) (fun h24 => ?_)
                · exact hj228
                · refine r_aload_n (pc := 201) X 0 dX6_readsTerm_201 rfl rfl ?_
                  refine r_callV (pc := 202) (q0 := 35) (ci := 6) (As := []) (rest := []) (W' := fun q202_25 => (Zw (kE K) lt b c ms rd q13_1 P)) (rv := fun q202_25 => some (vI q202_25)) X dX6_readsTerm_202 rfl (fun a ha => c_X6_bracket N lt b c ms rd q13_1 P K.1.2.1 K.2.2.1.1 (kE K) a ha) (fun a => Zw_d _ _ _ _ _ _ _ _) gd_X6_176 rfl (n := 0) (by decide) rfl (by decide) rfl rfl rfl (Nat.zero_le _) (fun q202_25 eq202_25 => ?_)
                  show Rn K _ 0 0 _ 205 [(0, .ref (kB K + 35)), (1, vI x1), (2, vI q21_2)] [vI q202_25] (Zw (kE K) lt b c ms rd q13_1 P)
                  refine r_bipush (pc := 205) X 40 dX6_readsTerm_205 (by decide) ?_
                  refine r_ck1 (fun h26 => ?_)
                  refine r_icmp_ne (pc := 207) X h26 (by decide) dX6_readsTerm_207 (tgt := 228) (by decide) (fun h27 => ?_) (fun h27 => ?_)
                  · exact hj228
                  · refine r_aload_n (pc := 210) X 0 dX6_readsTerm_210 rfl rfl ?_
                    refine r_iconst (pc := 211) X 0 dX6_readsTerm_211 (by decide) ?_
                    refine r_callV (pc := 212) (q0 := 35) (ci := 6) (As := [vI 0]) (rest := []) (W' := fun q212_28 => (Zw (kE K) lt b c ms rd q212_28 P)) (rv := fun q212_28 => none) X dX6_readsTerm_212 rfl (fun a ha => c_X6_does N lt b c ms rd q13_1 P 0 K.1.2.1 K.2.2.1.1 (kE K) a ha) (fun a => Zw_d _ _ _ _ _ _ _ _) gd_X6_172 rfl (n := 1) (by decide) rfl (by decide) rfl rfl rfl (Nat.zero_le _) (fun q212_28 eq212_28 => ?_)
                    show Rn K _ 0 0 _ 215 [(0, .ref (kB K + 35)), (1, vI x1), (2, vI q21_2)] [] (Zw (kE K) lt b c ms rd q212_28 P)
                    refine r_aload_n (pc := 215) X 0 dX6_readsTerm_215 rfl rfl ?_
                    refine r_dup (pc := 216) X dX6_readsTerm_216 rfl ?_
                    refine r_get (pc := 217) (v := vI (q212_28 28 0)) X 35 28 inX6 rfl rfl (by decide) tf_X6_153 rfl dX6_readsTerm_217 ?_
                    refine r_iconst (pc := 220) X 1 dX6_readsTerm_220 (by decide) ?_
                    refine r_isub (pc := 221) X dX6_readsTerm_221 ?_
                    refine r_put (pc := 222) (ws' := (Zw (kE K) lt b c ms rd (bs0 q212_28 28 ((q212_28 28 0) - 1)) P)) X 35 28 inX6 tyX6 tyX6_ok nmX6 rfl rfl (by decide) tf_X6_153 rfl (tyX6_ok 28 (by decide)) rfl rfl (Nat.le_of_ble_eq_true rfl) rfl dX6_readsTerm_222 ?_
                    refine r_goto (pc := 225) X dX6_readsTerm_225 (tgt := 334) (by decide) ?_
                    refine r_aload_n (pc := 334) X 0 dX6_readsTerm_334 rfl rfl ?_
                    refine r_dup (pc := 335) X dX6_readsTerm_335 rfl ?_
                    refine r_get (pc := 336) (v := vI (q212_28 22 0)) X 35 22 inX6 rfl rfl (by decide) tf_X6_147 rfl dX6_readsTerm_336 ?_
                    refine r_iconst (pc := 339) X 1 dX6_readsTerm_339 (by decide) ?_
                    refine r_iadd (pc := 340) X dX6_readsTerm_340 ?_
                    refine r_put (pc := 341) (ws' := (Zw (kE K) lt b c ms rd (bs0 (bs0 q212_28 22 ((q212_28 22 0) + 1)) 28 ((q212_28 28 0) - 1)) P)) X 35 22 inX6 tyX6 tyX6_ok nmX6 rfl rfl (by decide) tf_X6_147 rfl (tyX6_ok 22 (by decide)) rfl rfl (Nat.le_of_ble_eq_true rfl) rfl dX6_readsTerm_341 ?_
                    refine r_goto (pc := 344) X dX6_readsTerm_344 (tgt := 12) (by decide) ?_
                    refine r_sub [0, 1] rfl ?_
                    exact ih x1 (bs0 (bs0 q212_28 22 ((q212_28 22 0) + 1)) 28 ((q212_28 28 0) - 1))
            refine r_ck1 (fun h29 => ?_)
            refine r_ifne (pc := 167) X h29 dX6_readsTerm_167 (tgt := 191) (by decide) (fun h30 => ?_) (fun h30 => ?_)
            · exact hj191
            · refine r_iload_n (pc := 170) X 2 dX6_readsTerm_170 rfl rfl ?_
              refine r_bipush (pc := 171) X 62 dX6_readsTerm_171 (by decide) ?_
              refine r_ck1 (fun h31 => ?_)
              refine r_icmp_ne (pc := 173) X h31 (by decide) dX6_readsTerm_173 (tgt := 191) (by decide) (fun h32 => ?_) (fun h32 => ?_)
              · exact hj191
              · refine r_aload_n (pc := 176) X 0 dX6_readsTerm_176 rfl rfl ?_
                refine r_iconst (pc := 177) X 1 dX6_readsTerm_177 (by decide) ?_
                refine r_callV (pc := 178) (q0 := 35) (ci := 6) (As := [vI 1]) (rest := []) (W' := fun q178_33 => (Zw (kE K) lt b c ms rd q178_33 P)) (rv := fun q178_33 => none) X dX6_readsTerm_178 rfl (fun a ha => c_X6_does N lt b c ms rd q13_1 P 1 K.1.2.1 K.2.2.1.1 (kE K) a ha) (fun a => Zw_d _ _ _ _ _ _ _ _) gd_X6_172 rfl (n := 1) (by decide) rfl (by decide) rfl rfl rfl (Nat.zero_le _) (fun q178_33 eq178_33 => ?_)
                show Rn K _ 0 0 _ 181 [(0, .ref (kB K + 35)), (1, vI x1), (2, vI q21_2)] [] (Zw (kE K) lt b c ms rd q178_33 P)
                refine r_aload_n (pc := 181) X 0 dX6_readsTerm_181 rfl rfl ?_
                refine r_iload_n (pc := 182) X 2 dX6_readsTerm_182 rfl rfl ?_
                refine r_callV (pc := 183) (q0 := 35) (ci := 6) (As := [vI q21_2]) (rest := []) (W' := fun q183_34 => (Zw (kE K) lt b c ms rd q183_34 P)) (rv := fun q183_34 => none) X dX6_readsTerm_183 rfl (fun a ha => c_X6_opens N lt b c ms rd q178_33 P q21_2 K.1.2.1 K.2.2.1.1 (kE K) a ha) (fun a => Zw_d _ _ _ _ _ _ _ _) gd_X6_169 rfl (n := 1) (by decide) rfl (by decide) rfl rfl rfl (Nat.zero_le _) (fun q183_34 eq183_34 => ?_)
                show Rn K _ 0 0 _ 186 [(0, .ref (kB K + 35)), (1, vI x1), (2, vI q21_2)] [] (Zw (kE K) lt b c ms rd q183_34 P)
                refine r_iconst (pc := 186) X 1 dX6_readsTerm_186 (by decide) ?_
                refine r_istore_n (pc := 187) (lv' := [(0, .ref (kB K + 35)), (1, vI 1), (2, vI q21_2)]) X [1, 0, 2] dX6_readsTerm_187 rfl (by decide) rfl ?_
                refine r_goto (pc := 188) X dX6_readsTerm_188 (tgt := 334) (by decide) ?_
                refine r_aload_n (pc := 334) X 0 dX6_readsTerm_334 rfl rfl ?_
                refine r_dup (pc := 335) X dX6_readsTerm_335 rfl ?_
                refine r_get (pc := 336) (v := vI (q183_34 22 0)) X 35 22 inX6 rfl rfl (by decide) tf_X6_147 rfl dX6_readsTerm_336 ?_
                refine r_iconst (pc := 339) X 1 dX6_readsTerm_339 (by decide) ?_
                refine r_iadd (pc := 340) X dX6_readsTerm_340 ?_
                refine r_put (pc := 341) (ws' := (Zw (kE K) lt b c ms rd (bs0 q183_34 22 ((q183_34 22 0) + 1)) P)) X 35 22 inX6 tyX6 tyX6_ok nmX6 rfl rfl (by decide) tf_X6_147 rfl (tyX6_ok 22 (by decide)) rfl rfl (Nat.le_of_ble_eq_true rfl) rfl dX6_readsTerm_341 ?_
                refine r_goto (pc := 344) X dX6_readsTerm_344 (tgt := 12) (by decide) ?_
                refine r_sub [0, 1] rfl ?_
                exact ih 1 (bs0 q183_34 22 ((q183_34 22 0) + 1))
          refine r_ck1 (fun h35 => ?_)
          refine r_ifne (pc := 142) X h35 dX6_readsTerm_142 (tgt := 166) (by decide) (fun h36 => ?_) (fun h36 => ?_)
          · exact hj166
          · refine r_iload_n (pc := 145) X 2 dX6_readsTerm_145 rfl rfl ?_
            refine r_bipush (pc := 146) X 42 dX6_readsTerm_146 (by decide) ?_
            refine r_ck1 (fun h37 => ?_)
            refine r_icmp_ne (pc := 148) X h37 (by decide) dX6_readsTerm_148 (tgt := 166) (by decide) (fun h38 => ?_) (fun h38 => ?_)
            · exact hj166
            · refine r_aload_n (pc := 151) X 0 dX6_readsTerm_151 rfl rfl ?_
              refine r_iconst (pc := 152) X 1 dX6_readsTerm_152 (by decide) ?_
              refine r_callV (pc := 153) (q0 := 35) (ci := 6) (As := [vI 1]) (rest := []) (W' := fun q153_39 => (Zw (kE K) lt b c ms rd q153_39 P)) (rv := fun q153_39 => none) X dX6_readsTerm_153 rfl (fun a ha => c_X6_does N lt b c ms rd q13_1 P 1 K.1.2.1 K.2.2.1.1 (kE K) a ha) (fun a => Zw_d _ _ _ _ _ _ _ _) gd_X6_172 rfl (n := 1) (by decide) rfl (by decide) rfl rfl rfl (Nat.zero_le _) (fun q153_39 eq153_39 => ?_)
              show Rn K _ 0 0 _ 156 [(0, .ref (kB K + 35)), (1, vI x1), (2, vI q21_2)] [] (Zw (kE K) lt b c ms rd q153_39 P)
              refine r_aload_n (pc := 156) X 0 dX6_readsTerm_156 rfl rfl ?_
              refine r_iload_n (pc := 157) X 2 dX6_readsTerm_157 rfl rfl ?_
              refine r_callV (pc := 158) (q0 := 35) (ci := 6) (As := [vI q21_2]) (rest := []) (W' := fun q158_40 => (Zw (kE K) lt b c ms rd q158_40 P)) (rv := fun q158_40 => none) X dX6_readsTerm_158 rfl (fun a ha => c_X6_opens N lt b c ms rd q153_39 P q21_2 K.1.2.1 K.2.2.1.1 (kE K) a ha) (fun a => Zw_d _ _ _ _ _ _ _ _) gd_X6_169 rfl (n := 1) (by decide) rfl (by decide) rfl rfl rfl (Nat.zero_le _) (fun q158_40 eq158_40 => ?_)
              show Rn K _ 0 0 _ 161 [(0, .ref (kB K + 35)), (1, vI x1), (2, vI q21_2)] [] (Zw (kE K) lt b c ms rd q158_40 P)
              refine r_iconst (pc := 161) X 1 dX6_readsTerm_161 (by decide) ?_
              refine r_istore_n (pc := 162) (lv' := [(0, .ref (kB K + 35)), (1, vI 1), (2, vI q21_2)]) X [1, 0, 2] dX6_readsTerm_162 rfl (by decide) rfl ?_
              refine r_goto (pc := 163) X dX6_readsTerm_163 (tgt := 334) (by decide) ?_
              refine r_aload_n (pc := 334) X 0 dX6_readsTerm_334 rfl rfl ?_
              refine r_dup (pc := 335) X dX6_readsTerm_335 rfl ?_
              refine r_get (pc := 336) (v := vI (q158_40 22 0)) X 35 22 inX6 rfl rfl (by decide) tf_X6_147 rfl dX6_readsTerm_336 ?_
              refine r_iconst (pc := 339) X 1 dX6_readsTerm_339 (by decide) ?_
              refine r_iadd (pc := 340) X dX6_readsTerm_340 ?_
              refine r_put (pc := 341) (ws' := (Zw (kE K) lt b c ms rd (bs0 q158_40 22 ((q158_40 22 0) + 1)) P)) X 35 22 inX6 tyX6 tyX6_ok nmX6 rfl rfl (by decide) tf_X6_147 rfl (tyX6_ok 22 (by decide)) rfl rfl (Nat.le_of_ble_eq_true rfl) rfl dX6_readsTerm_341 ?_
              refine r_goto (pc := 344) X dX6_readsTerm_344 (tgt := 12) (by decide) ?_
              refine r_sub [0, 1] rfl ?_
              exact ih 1 (bs0 q158_40 22 ((q158_40 22 0) + 1))
        refine r_ck1 (fun h41 => ?_)
        refine r_ifeq (pc := 118) X h41 dX6_readsTerm_118 (tgt := 141) (by decide) (fun h42 => ?_) (fun h42 => ?_)
        · exact hj141
        · refine r_iload_n (pc := 121) X 2 dX6_readsTerm_121 rfl rfl ?_
          refine r_bipush (pc := 122) X 40 dX6_readsTerm_122 (by decide) ?_
          refine r_jn (J := fun j133 => Rn K (Q_X6_readsTerm K lt b c ms rd m P) 0 0 j133 133 [(0, .ref (kB K + 35)), (1, vI x1), (2, vI q21_2)] [] (Zw (kE K) lt b c ms rd q13_1 P)) ?_ (fun j133 hj133 => ?_)
          · skip
            refine r_aload_n (pc := 133) X 0 dX6_readsTerm_133 rfl rfl ?_
            refine r_iload_n (pc := 134) X 2 dX6_readsTerm_134 rfl rfl ?_
            refine r_callV (pc := 135) (q0 := 35) (ci := 6) (As := [vI q21_2]) (rest := []) (W' := fun q135_43 => (Zw (kE K) lt b c ms rd q135_43 P)) (rv := fun q135_43 => none) X dX6_readsTerm_135 rfl (fun a ha => c_X6_opens N lt b c ms rd q13_1 P q21_2 K.1.2.1 K.2.2.1.1 (kE K) a ha) (fun a => Zw_d _ _ _ _ _ _ _ _) gd_X6_169 rfl (n := 1) (by decide) rfl (by decide) rfl rfl rfl (Nat.zero_le _) (fun q135_43 eq135_43 => ?_)
            show Rn K _ 0 0 _ 138 [(0, .ref (kB K + 35)), (1, vI x1), (2, vI q21_2)] [] (Zw (kE K) lt b c ms rd q135_43 P)
            refine r_goto (pc := 138) X dX6_readsTerm_138 (tgt := 334) (by decide) ?_
            refine r_aload_n (pc := 334) X 0 dX6_readsTerm_334 rfl rfl ?_
            refine r_dup (pc := 335) X dX6_readsTerm_335 rfl ?_
            refine r_get (pc := 336) (v := vI (q135_43 22 0)) X 35 22 inX6 rfl rfl (by decide) tf_X6_147 rfl dX6_readsTerm_336 ?_
            refine r_iconst (pc := 339) X 1 dX6_readsTerm_339 (by decide) ?_
            refine r_iadd (pc := 340) X dX6_readsTerm_340 ?_
            refine r_put (pc := 341) (ws' := (Zw (kE K) lt b c ms rd (bs0 q135_43 22 ((q135_43 22 0) + 1)) P)) X 35 22 inX6 tyX6 tyX6_ok nmX6 rfl rfl (by decide) tf_X6_147 rfl (tyX6_ok 22 (by decide)) rfl rfl (Nat.le_of_ble_eq_true rfl) rfl dX6_readsTerm_341 ?_
            refine r_goto (pc := 344) X dX6_readsTerm_344 (tgt := 12) (by decide) ?_
            refine r_sub [0, 1] rfl ?_
            exact ih x1 (bs0 q135_43 22 ((q135_43 22 0) + 1))
          refine r_ck1 (fun h44 => ?_)
          refine r_icmp_eq (pc := 124) X h44 (by decide) dX6_readsTerm_124 (tgt := 133) (by decide) (fun h45 => ?_) (fun h45 => ?_)
          · exact hj133
          · refine r_iload_n (pc := 127) X 2 dX6_readsTerm_127 rfl rfl ?_
            refine r_bipush (pc := 128) X 91 dX6_readsTerm_128 (by decide) ?_
            refine r_icmp_ne (pc := 130) X h44 (by decide) dX6_readsTerm_130 (tgt := 141) (by decide) (fun h46 => ?_) (fun h46 => ?_)
            · exact hj141
            · exact hj133
      refine r_ck1 (fun h47 => ?_)
      refine r_ifeq (pc := 60) X h47 dX6_readsTerm_60 (tgt := 117) (by decide) (fun h48 => ?_) (fun h48 => ?_)
      · exact hj117
      · refine r_iload_n (pc := 63) X 2 dX6_readsTerm_63 rfl rfl ?_
        refine r_bipush (pc := 64) X 97 dX6_readsTerm_64 (by decide) ?_
        refine r_bipush (pc := 66) X 104 dX6_readsTerm_66 (by decide) ?_
        refine r_callS (pc := 68) (As := [vI q21_2, vI 97, vI 104]) (rest := []) (W' := fun q68_49 => (Zw (kE K) lt b c ms rd q13_1 P)) (rv := fun q68_49 => some (vI q68_49)) X dX6_readsTerm_68 rfl (fun a ha => c_X6_in N lt b c ms rd q13_1 P q21_2 97 104 K.1.2.1 K.2.2.1.1 (kE K) a ha) (fun a => Zw_d _ _ _ _ _ _ _ _) gd_X6_86 rfl (n := 3) (by decide) rfl (by decide) (Nat.zero_le _) (fun q68_49 eq68_49 => ?_)
        show Rn K _ 0 0 _ 71 [(0, .ref (kB K + 35)), (1, vI x1), (2, vI q21_2)] [vI q68_49] (Zw (kE K) lt b c ms rd q13_1 P)
        refine r_ck1 (fun h50 => ?_)
        refine r_ifeq (pc := 71) X h50 dX6_readsTerm_71 (tgt := 117) (by decide) (fun h51 => ?_) (fun h51 => ?_)
        · exact hj117
        · refine r_aload_n (pc := 74) X 0 dX6_readsTerm_74 rfl rfl ?_
          refine r_aload_n (pc := 75) X 0 dX6_readsTerm_75 rfl rfl ?_
          refine r_bipush (pc := 76) X 7 dX6_readsTerm_76 (by decide) ?_
          refine r_iload_n (pc := 78) X 2 dX6_readsTerm_78 rfl rfl ?_
          refine r_bipush (pc := 79) X 97 dX6_readsTerm_79 (by decide) ?_
          refine r_isub (pc := 81) X dX6_readsTerm_81 ?_
          refine r_iconst (pc := 82) X 0 dX6_readsTerm_82 (by decide) ?_
          refine r_callV (pc := 83) (q0 := 35) (ci := 6) (As := [vI 7, vI (q21_2 - 97), vI 0]) (rest := [.ref (kB K + 35)]) (W' := fun q83_52 => (Zw (kE K) lt b c ms rd q83_52.2 P)) (rv := fun q83_52 => some (vI q83_52.1)) X dX6_readsTerm_83 rfl (fun a ha => c_X6_adds N lt b c ms rd q13_1 P 7 (q21_2 - 97) 0 K.1.2.1 K.2.2.1.1 (kE K) a ha) (fun a => Zw_d _ _ _ _ _ _ _ _) gd_X6_110 rfl (n := 3) (by decide) rfl (by decide) rfl rfl rfl (by simp [z_cat, z_catR, z_catI, z_catL]) (fun q83_52 eq83_52 => ?_)
          show Rn K _ 0 0 _ 86 [(0, .ref (kB K + 35)), (1, vI x1), (2, vI q21_2)] [vI q83_52.1, .ref (kB K + 35)] (Zw (kE K) lt b c ms rd q83_52.2 P)
          refine r_callV (pc := 86) (q0 := 35) (ci := 6) (As := [vI q83_52.1]) (rest := []) (W' := fun q86_53 => (Zw (kE K) lt b c ms rd q86_53 P)) (rv := fun q86_53 => none) X dX6_readsTerm_86 rfl (fun a ha => c_X6_waits N lt b c ms rd q83_52.2 P q83_52.1 K.1.2.1 K.2.2.1.1 (kE K) a ha) (fun a => Zw_d _ _ _ _ _ _ _ _) gd_X6_162 rfl (n := 1) (by decide) rfl (by decide) rfl rfl rfl (Nat.zero_le _) (fun q86_53 eq86_53 => ?_)
          show Rn K _ 0 0 _ 89 [(0, .ref (kB K + 35)), (1, vI x1), (2, vI q21_2)] [] (Zw (kE K) lt b c ms rd q86_53 P)
          refine r_aload_n (pc := 89) X 0 dX6_readsTerm_89 rfl rfl ?_
          refine r_get (pc := 90) (v := .ref (kB K + 55)) X 35 25 inX6 rfl rfl (by decide) tf_X6_67 rfl dX6_readsTerm_90 ?_
          refine r_aload_n (pc := 93) X 0 dX6_readsTerm_93 rfl rfl ?_
          refine r_get (pc := 94) (v := vI (q86_53 26 0)) X 35 26 inX6 rfl rfl (by decide) tf_X6_166 rfl dX6_readsTerm_94 ?_
          refine r_aload_n (pc := 97) X 0 dX6_readsTerm_97 rfl rfl ?_
          refine r_get (pc := 98) (v := vI (q86_53 22 0)) X 35 22 inX6 rfl rfl (by decide) tf_X6_147 rfl dX6_readsTerm_98 ?_
          refine r_ckA (fun h54 => ?_)
          refine r_iast (pc := 101) (f := q86_53 25) (ws' := (Zw (kE K) lt b c ms rd (bS q86_53 25 (aS (q86_53 25) (q86_53 26 0) (q86_53 22 0))) P)) X 55 h54 zl_130 rfl rfl dX6_readsTerm_101 ?_
          refine r_aload_n (pc := 102) X 0 dX6_readsTerm_102 rfl rfl ?_
          refine r_dup (pc := 103) X dX6_readsTerm_103 rfl ?_
          refine r_get (pc := 104) (v := vI (q86_53 26 0)) X 35 26 inX6 rfl rfl (by decide) tf_X6_166 rfl dX6_readsTerm_104 ?_
          refine r_iconst (pc := 107) X 1 dX6_readsTerm_107 (by decide) ?_
          refine r_iadd (pc := 108) X dX6_readsTerm_108 ?_
          refine r_put (pc := 109) (ws' := (Zw (kE K) lt b c ms rd (bs0 (bS q86_53 25 (aS (q86_53 25) (q86_53 26 0) (q86_53 22 0))) 26 ((q86_53 26 0) + 1)) P)) X 35 26 inX6 tyX6 tyX6_ok nmX6 rfl rfl (by decide) tf_X6_166 rfl (tyX6_ok 26 (by decide)) rfl rfl (Nat.le_of_ble_eq_true rfl) rfl dX6_readsTerm_109 ?_
          refine r_iconst (pc := 112) X 0 dX6_readsTerm_112 (by decide) ?_
          refine r_istore_n (pc := 113) (lv' := [(0, .ref (kB K + 35)), (1, vI 0), (2, vI q21_2)]) X [1, 0, 2] dX6_readsTerm_113 rfl (by decide) rfl ?_
          refine r_goto (pc := 114) X dX6_readsTerm_114 (tgt := 334) (by decide) ?_
          refine r_aload_n (pc := 334) X 0 dX6_readsTerm_334 rfl rfl ?_
          refine r_dup (pc := 335) X dX6_readsTerm_335 rfl ?_
          refine r_get (pc := 336) (v := vI (q86_53 22 0)) X 35 22 inX6 rfl rfl (by decide) tf_X6_147 rfl dX6_readsTerm_336 ?_
          refine r_iconst (pc := 339) X 1 dX6_readsTerm_339 (by decide) ?_
          refine r_iadd (pc := 340) X dX6_readsTerm_340 ?_
          refine r_put (pc := 341) (ws' := (Zw (kE K) lt b c ms rd (bs0 (bS (bs0 q86_53 22 ((q86_53 22 0) + 1)) 25 (aS (q86_53 25) (q86_53 26 0) (q86_53 22 0))) 26 ((q86_53 26 0) + 1)) P)) X 35 22 inX6 tyX6 tyX6_ok nmX6 rfl rfl (by decide) tf_X6_147 rfl (tyX6_ok 22 (by decide)) rfl rfl (Nat.le_of_ble_eq_true rfl) rfl dX6_readsTerm_341 ?_
          refine r_goto (pc := 344) X dX6_readsTerm_344 (tgt := 12) (by decide) ?_
          refine r_sub [0, 1] rfl ?_
          exact ih 0 (bs0 (bS (bs0 q86_53 22 ((q86_53 22 0) + 1)) 25 (aS (q86_53 25) (q86_53 26 0) (q86_53 22 0))) 26 ((q86_53 26 0) + 1))
    refine r_ck1 (fun h55 => ?_)
    refine r_ifeq (pc := 26) X h55 dX6_readsTerm_26 (tgt := 59) (by decide) (fun h56 => ?_) (fun h56 => ?_)
    · exact hj59
    · refine r_iload_n (pc := 29) X 2 dX6_readsTerm_29 rfl rfl ?_
      refine r_bipush (pc := 30) X 48 dX6_readsTerm_30 (by decide) ?_
      refine r_bipush (pc := 32) X 51 dX6_readsTerm_32 (by decide) ?_
      refine r_callS (pc := 34) (As := [vI q21_2, vI 48, vI 51]) (rest := []) (W' := fun q34_57 => (Zw (kE K) lt b c ms rd q13_1 P)) (rv := fun q34_57 => some (vI q34_57)) X dX6_readsTerm_34 rfl (fun a ha => c_X6_in N lt b c ms rd q13_1 P q21_2 48 51 K.1.2.1 K.2.2.1.1 (kE K) a ha) (fun a => Zw_d _ _ _ _ _ _ _ _) gd_X6_86 rfl (n := 3) (by decide) rfl (by decide) (Nat.zero_le _) (fun q34_57 eq34_57 => ?_)
      show Rn K _ 0 0 _ 37 [(0, .ref (kB K + 35)), (1, vI x1), (2, vI q21_2)] [vI q34_57] (Zw (kE K) lt b c ms rd q13_1 P)
      refine r_ck1 (fun h58 => ?_)
      refine r_ifeq (pc := 37) X h58 dX6_readsTerm_37 (tgt := 59) (by decide) (fun h59 => ?_) (fun h59 => ?_)
      · exact hj59
      · refine r_aload_n (pc := 40) X 0 dX6_readsTerm_40 rfl rfl ?_
        refine r_aload_n (pc := 41) X 0 dX6_readsTerm_41 rfl rfl ?_
        refine r_iload_n (pc := 42) X 2 dX6_readsTerm_42 rfl rfl ?_
        refine r_bipush (pc := 43) X 48 dX6_readsTerm_43 (by decide) ?_
        refine r_isub (pc := 45) X dX6_readsTerm_45 ?_
        refine r_iconst (pc := 46) X 0 dX6_readsTerm_46 (by decide) ?_
        refine r_iconst (pc := 47) X 0 dX6_readsTerm_47 (by decide) ?_
        refine r_callV (pc := 48) (q0 := 35) (ci := 6) (As := [vI (q21_2 - 48), vI 0, vI 0]) (rest := [.ref (kB K + 35)]) (W' := fun q48_60 => (Zw (kE K) lt b c ms rd q48_60.2 P)) (rv := fun q48_60 => some (vI q48_60.1)) X dX6_readsTerm_48 rfl (fun a ha => c_X6_adds N lt b c ms rd q13_1 P (q21_2 - 48) 0 0 K.1.2.1 K.2.2.1.1 (kE K) a ha) (fun a => Zw_d _ _ _ _ _ _ _ _) gd_X6_110 rfl (n := 3) (by decide) rfl (by decide) rfl rfl rfl (by simp [z_cat, z_catR, z_catI, z_catL]) (fun q48_60 eq48_60 => ?_)
        show Rn K _ 0 0 _ 51 [(0, .ref (kB K + 35)), (1, vI x1), (2, vI q21_2)] [vI q48_60.1, .ref (kB K + 35)] (Zw (kE K) lt b c ms rd q48_60.2 P)
        refine r_callV (pc := 51) (q0 := 35) (ci := 6) (As := [vI q48_60.1]) (rest := []) (W' := fun q51_61 => (Zw (kE K) lt b c ms rd q51_61 P)) (rv := fun q51_61 => none) X dX6_readsTerm_51 rfl (fun a ha => c_X6_waits N lt b c ms rd q48_60.2 P q48_60.1 K.1.2.1 K.2.2.1.1 (kE K) a ha) (fun a => Zw_d _ _ _ _ _ _ _ _) gd_X6_162 rfl (n := 1) (by decide) rfl (by decide) rfl rfl rfl (Nat.zero_le _) (fun q51_61 eq51_61 => ?_)
        show Rn K _ 0 0 _ 54 [(0, .ref (kB K + 35)), (1, vI x1), (2, vI q21_2)] [] (Zw (kE K) lt b c ms rd q51_61 P)
        refine r_iconst (pc := 54) X 0 dX6_readsTerm_54 (by decide) ?_
        refine r_istore_n (pc := 55) (lv' := [(0, .ref (kB K + 35)), (1, vI 0), (2, vI q21_2)]) X [1, 0, 2] dX6_readsTerm_55 rfl (by decide) rfl ?_
        refine r_goto (pc := 56) X dX6_readsTerm_56 (tgt := 334) (by decide) ?_
        refine r_aload_n (pc := 334) X 0 dX6_readsTerm_334 rfl rfl ?_
        refine r_dup (pc := 335) X dX6_readsTerm_335 rfl ?_
        refine r_get (pc := 336) (v := vI (q51_61 22 0)) X 35 22 inX6 rfl rfl (by decide) tf_X6_147 rfl dX6_readsTerm_336 ?_
        refine r_iconst (pc := 339) X 1 dX6_readsTerm_339 (by decide) ?_
        refine r_iadd (pc := 340) X dX6_readsTerm_340 ?_
        refine r_put (pc := 341) (ws' := (Zw (kE K) lt b c ms rd (bs0 q51_61 22 ((q51_61 22 0) + 1)) P)) X 35 22 inX6 tyX6 tyX6_ok nmX6 rfl rfl (by decide) tf_X6_147 rfl (tyX6_ok 22 (by decide)) rfl rfl (Nat.le_of_ble_eq_true rfl) rfl dX6_readsTerm_341 ?_
        refine r_goto (pc := 344) X dX6_readsTerm_344 (tgt := 12) (by decide) ?_
        refine r_sub [0, 1] rfl ?_
        exact ih 0 (bs0 q51_61 22 ((q51_61 22 0) + 1))
set_option maxRecDepth 100000 in
set_option maxHeartbeats 4000000 in
theorem t_X6_readsTerm (N : Nat) (lt b c ms rd m : Bd) (P : PL) (K : KT) (X : Kok K cX6_readsTerm yX6_readsTerm.cls lw_g ({ frames := 3, cells := 0, slots := 0, locals := 66 } : Room) (some .int) 3) : Rn K (Q_X6_readsTerm K lt b c ms rd m P) 0 0 (f_X6_readsTerm N m) 0 [(0, .ref (kB K + 35))] [] (Zw (kE K) lt b c ms rd m P) := by
  unfold f_X6_readsTerm
  refine r_aload_n (pc := 0) X 0 dX6_readsTerm_0 rfl rfl ?_
  refine r_iconst (pc := 1) X 0 dX6_readsTerm_1 (by decide) ?_
  refine r_put (pc := 2) (ws' := (Zw (kE K) lt b c ms rd (bs0 m 28 0) P)) X 35 28 inX6 tyX6 tyX6_ok nmX6 rfl rfl (by decide) tf_X6_153 rfl (tyX6_ok 28 (by decide)) rfl rfl (Nat.le_of_ble_eq_true rfl) rfl dX6_readsTerm_2 ?_
  refine r_aload_n (pc := 5) X 0 dX6_readsTerm_5 rfl rfl ?_
  refine r_iconst (pc := 6) X 0 dX6_readsTerm_6 (by decide) ?_
  refine r_put (pc := 7) (ws' := (Zw (kE K) lt b c ms rd (bs0 (bs0 m 28 0) 30 0) P)) X 35 30 inX6 tyX6 tyX6_ok nmX6 rfl rfl (by decide) tf_X6_156 rfl (tyX6_ok 30 (by decide)) rfl rfl (Nat.le_of_ble_eq_true rfl) rfl dX6_readsTerm_7 ?_
  refine r_iconst (pc := 10) X 1 dX6_readsTerm_10 (by decide) ?_
  refine r_istore_n (pc := 11) (lv' := [(0, .ref (kB K + 35)), (1, vI 1)]) X [1, 0] dX6_readsTerm_11 rfl (by decide) rfl ?_
  exact t_X6_readsTerm_L12 N lt b c ms rd m P   K X N 1 (bs0 (bs0 m 28 0) 30 0)
theorem c_X6_readsTerm (N : Nat) (lt b c ms rd m : Bd) (P : PL) (l : Launch) (D : va_G) (E : ET) (a : Int × Bd) (ha : f_X6_readsTerm N m = some a) : Ct l yX6_readsTerm (Cond.code yX6_readsTerm cX6_readsTerm 3 (some .int) :: lw_g) ({ frames := 3, cells := 0, slots := 0, locals := 66 } : Room) D E [.ref (E.2.2.2 + 35)] (Zw E lt b c ms rd m P) (Zw E lt b c ms rd a.2 P) (some (vI a.1)) :=
  ct_of (av := fun E => [.ref (E.2.2.2 + 35)]) (W0 := fun E => Zw E lt b c ms rd m P) (W1 := fun E (a : Int × Bd) => Zw E lt b c ms rd a.2 P) (rw := fun E a => some (vI a.1)) (by decide) rfl (fun E => Zw_d E lt b c ms rd m P) (fun E => by simp [lg_sl, z_cat, z_catR, z_catI, z_catL]) (fun K X => r_lv (by simp [lv_args, z_cat, z_catR, z_catI, z_catL]) (t_X6_readsTerm N lt b c ms rd m P  K X)) l D E a ha
abbrev Q_X6_headOf (K : KT) (lt b c ms rd m : Bd) (P : PL) : (Int) → State → Prop := Qm K ({ frames := 0, cells := 0, slots := 0, locals := 0 } : Room) (fun a : Int => Zw (kE K) lt b c ms rd m P) (fun a => some (vI a))
set_option maxRecDepth 100000 in
set_option maxHeartbeats 4000000 in
theorem t_X6_headOf (N : Nat) (lt b c ms rd m : Bd) (P : PL) (x0 : Int) (K : KT) (X : Kok K cX6_headOf yX6_headOf.cls lw_g ({ frames := 0, cells := 0, slots := 0, locals := 0 } : Room) (some .int) 1) : Rn K (Q_X6_headOf K lt b c ms rd m P) 0 0 (f_X6_headOf x0) 0 [(0, vI x0)] [] (Zw (kE K) lt b c ms rd m P) := by
  unfold f_X6_headOf
  refine r_iload_n (pc := 0) X 0 dX6_headOf_0 rfl rfl ?_
  refine r_bipush (pc := 1) X 7 dX6_headOf_1 (by decide) ?_
  refine r_iand (pc := 3) X dX6_headOf_3 ?_
  exact r_iret (pc := 4) X rfl rfl (by decide) dX6_headOf_4
theorem c_X6_headOf (N : Nat) (lt b c ms rd m : Bd) (P : PL) (x0 : Int) (l : Launch) (D : va_G) (E : ET) (a : Int) (ha : f_X6_headOf x0 = some a) : Ct l yX6_headOf (Cond.code yX6_headOf cX6_headOf 1 (some .int) :: lw_g) ({ frames := 0, cells := 0, slots := 0, locals := 0 } : Room) D E [vI x0] (Zw E lt b c ms rd m P) (Zw E lt b c ms rd m P) (some (vI a)) :=
  ct_of (av := fun E => [vI x0]) (W0 := fun E => Zw E lt b c ms rd m P) (W1 := fun E (a : Int) => Zw E lt b c ms rd m P) (rw := fun E a => some (vI a)) (by decide) rfl (fun E => Zw_d E lt b c ms rd m P) (fun E => by simp [lg_sl, z_cat, z_catR, z_catI, z_catL]) (fun K X => r_lv (by simp [lv_args, z_cat, z_catR, z_catI, z_catL]) (t_X6_headOf N lt b c ms rd m P x0 K X)) l D E a ha
abbrev Q_X6_partOf (K : KT) (lt b c ms rd m : Bd) (P : PL) : (Int) → State → Prop := Qm K ({ frames := 0, cells := 0, slots := 0, locals := 0 } : Room) (fun a : Int => Zw (kE K) lt b c ms rd m P) (fun a => some (vI a))
set_option maxRecDepth 100000 in
set_option maxHeartbeats 4000000 in
theorem t_X6_partOf (N : Nat) (lt b c ms rd m : Bd) (P : PL) (x0 x1 : Int) (K : KT) (X : Kok K cX6_partOf yX6_partOf.cls lw_g ({ frames := 0, cells := 0, slots := 0, locals := 0 } : Room) (some .int) 2) : Rn K (Q_X6_partOf K lt b c ms rd m P) 0 0 (f_X6_partOf x0 x1) 0 [(0, vI x0), (1, vI x1)] [] (Zw (kE K) lt b c ms rd m P) := by
  unfold f_X6_partOf
  refine r_iload_n (pc := 0) X 1 dX6_partOf_0 rfl rfl ?_
  refine r_ck1 (fun h1 => ?_)
  refine r_ifne (pc := 1) X h1 dX6_partOf_1 (tgt := 14) (by decide) (fun h2 => ?_) (fun h2 => ?_)
  · refine r_iload_n (pc := 14) X 0 dX6_partOf_14 rfl rfl ?_
    refine r_bipush (pc := 15) X 15 dX6_partOf_15 (by decide) ?_
    refine r_ishr (pc := 17) X dX6_partOf_17 ?_
    refine r_sipush (pc := 18) X 4095 dX6_partOf_18 (by decide) ?_
    refine r_iand (pc := 21) X dX6_partOf_21 ?_
    exact r_iret (pc := 22) X rfl rfl (by decide) dX6_partOf_22
  · refine r_iload_n (pc := 4) X 0 dX6_partOf_4 rfl rfl ?_
    refine r_iconst (pc := 5) X 3 dX6_partOf_5 (by decide) ?_
    refine r_ishr (pc := 6) X dX6_partOf_6 ?_
    refine r_sipush (pc := 7) X 4095 dX6_partOf_7 (by decide) ?_
    refine r_iand (pc := 10) X dX6_partOf_10 ?_
    refine r_goto (pc := 11) X dX6_partOf_11 (tgt := 22) (by decide) ?_
    exact r_iret (pc := 22) X rfl rfl (by decide) dX6_partOf_22
theorem c_X6_partOf (N : Nat) (lt b c ms rd m : Bd) (P : PL) (x0 x1 : Int) (l : Launch) (D : va_G) (E : ET) (a : Int) (ha : f_X6_partOf x0 x1 = some a) : Ct l yX6_partOf (Cond.code yX6_partOf cX6_partOf 2 (some .int) :: lw_g) ({ frames := 0, cells := 0, slots := 0, locals := 0 } : Room) D E [vI x0, vI x1] (Zw E lt b c ms rd m P) (Zw E lt b c ms rd m P) (some (vI a)) :=
  ct_of (av := fun E => [vI x0, vI x1]) (W0 := fun E => Zw E lt b c ms rd m P) (W1 := fun E (a : Int) => Zw E lt b c ms rd m P) (rw := fun E a => some (vI a)) (by decide) rfl (fun E => Zw_d E lt b c ms rd m P) (fun E => by simp [lg_sl, z_cat, z_catR, z_catI, z_catL]) (fun K X => r_lv (by simp [lv_args, z_cat, z_catR, z_catI, z_catL]) (t_X6_partOf N lt b c ms rd m P x0 x1 K X)) l D E a ha
abbrev Q_X6_comesBack (K : KT) (lt b c ms rd m : Bd) (P : PL) : (Int) → State → Prop := Qm K ({ frames := 1, cells := 0, slots := 0, locals := 21 } : Room) (fun a : Int => Zw (kE K) lt b c ms rd m P) (fun a => some (vI a))
set_option maxRecDepth 100000 in
set_option maxHeartbeats 4000000 in
theorem t_X6_comesBack_L4 (N : Nat) (lt b c ms rd m : Bd) (P : PL) (x1 : Int) (K : KT) (X : Kok K cX6_comesBack yX6_comesBack.cls lw_g ({ frames := 1, cells := 0, slots := 0, locals := 21 } : Room) (some .boolean) 4) (k : Option (Int)) (hk : Rn K (Q_X6_comesBack K lt b c ms rd m P) 0 0 k 69 [] [] (Zw (kE K) lt b c ms rd m P)) : ∀ (n : Nat) (x2 : Int) (x3 : Int), Rn K (Q_X6_comesBack K lt b c ms rd m P) 0 0 (f_X6_comesBack_L4 m x1 k n x2 x3) 4 [(0, .ref (kB K + 35)), (1, vI x1), (2, vI x2), (3, vI x3)] [] (Zw (kE K) lt b c ms rd m P) := by
  intro n
  induction n with
  | zero =>
    intro x2 x3
    rw [f_X6_comesBack_L4]
    exact r_none
  | succ n ih =>
    intro x2 x3
    rw [f_X6_comesBack_L4]
    refine r_iload_n (pc := 4) X 3 dX6_comesBack_4 rfl rfl ?_
    refine r_bipush (pc := 5) X 8 dX6_comesBack_5 (by decide) ?_
    refine r_ck1 (fun h1 => ?_)
    refine r_icmp_ge (pc := 7) X h1 (by decide) dX6_comesBack_7 (tgt := 69) (by decide) (fun h2 => ?_) (fun h2 => ?_)
    · refine r_sub [] rfl ?_
      exact hk
    · refine r_aload_n (pc := 10) X 0 dX6_comesBack_10 rfl rfl ?_
      refine r_get (pc := 11) (v := .ref (kB K + 53)) X 35 23 inX6 rfl rfl (by decide) tf_X6_61 rfl dX6_comesBack_11 ?_
      refine r_iload_n (pc := 14) X 2 dX6_comesBack_14 rfl rfl ?_
      refine r_ckA (fun h3 => ?_)
      refine r_iald (pc := 15) (f := m 23) X 53 h3 zl_8 rfl dX6_comesBack_15 ?_
      refine r_ck1 (fun h4 => ?_)
      refine r_iflt (pc := 16) X h4 dX6_comesBack_16 (tgt := 38) (by decide) (fun h5 => ?_) (fun h5 => ?_)
      · refine r_iconst (pc := 38) X 0 dX6_comesBack_38 (by decide) ?_
        exact r_zret (pc := 39) X (by decide) rfl rfl (by decide) dX6_comesBack_39
      · refine r_aload_n (pc := 19) X 0 dX6_comesBack_19 rfl rfl ?_
        refine r_get (pc := 20) (v := .ref (kB K + 42)) X 35 9 inX6 rfl rfl (by decide) tf_X6_28 rfl dX6_comesBack_20 ?_
        refine r_aload_n (pc := 23) X 0 dX6_comesBack_23 rfl rfl ?_
        refine r_get (pc := 24) (v := .ref (kB K + 53)) X 35 23 inX6 rfl rfl (by decide) tf_X6_61 rfl dX6_comesBack_24 ?_
        refine r_iload_n (pc := 27) X 2 dX6_comesBack_27 rfl rfl ?_
        refine r_iald (pc := 28) (f := m 23) X 53 h3 zl_8 rfl dX6_comesBack_28 ?_
        refine r_ckA (fun h6 => ?_)
        refine r_iald (pc := 29) (f := m 9) X 42 h6 zl_3400 rfl dX6_comesBack_29 ?_
        refine r_callS (pc := 30) (As := [vI (m 9 (m 23 x2))]) (rest := []) (W' := fun q30_7 => (Zw (kE K) lt b c ms rd m P)) (rv := fun q30_7 => some (vI q30_7)) X dX6_comesBack_30 rfl (fun a ha => c_X6_headOf N lt b c ms rd m P (m 9 (m 23 x2)) K.1.2.1 K.2.2.1.1 (kE K) a ha) (fun a => Zw_d _ _ _ _ _ _ _ _) gd_X6_102 rfl (n := 1) (by decide) rfl (by decide) (Nat.zero_le _) (fun q30_7 eq30_7 => ?_)
        show Rn K _ 0 0 _ 33 [(0, .ref (kB K + 35)), (1, vI x1), (2, vI x2), (3, vI x3)] [vI q30_7] (Zw (kE K) lt b c ms rd m P)
        refine r_bipush (pc := 33) X 7 dX6_comesBack_33 (by decide) ?_
        refine r_ck1 (fun h8 => ?_)
        refine r_icmp_eq (pc := 35) X h8 (by decide) dX6_comesBack_35 (tgt := 40) (by decide) (fun h9 => ?_) (fun h9 => ?_)
        · refine r_aload_n (pc := 40) X 0 dX6_comesBack_40 rfl rfl ?_
          refine r_get (pc := 41) (v := .ref (kB K + 42)) X 35 9 inX6 rfl rfl (by decide) tf_X6_28 rfl dX6_comesBack_41 ?_
          refine r_aload_n (pc := 44) X 0 dX6_comesBack_44 rfl rfl ?_
          refine r_get (pc := 45) (v := .ref (kB K + 53)) X 35 23 inX6 rfl rfl (by decide) tf_X6_61 rfl dX6_comesBack_45 ?_
          refine r_iload_n (pc := 48) X 2 dX6_comesBack_48 rfl rfl ?_
          refine r_iald (pc := 49) (f := m 23) X 53 h3 zl_8 rfl dX6_comesBack_49 ?_
          refine r_iald (pc := 50) (f := m 9) X 42 h6 zl_3400 rfl dX6_comesBack_50 ?_
          refine r_iconst (pc := 51) X 0 dX6_comesBack_51 (by decide) ?_
          refine r_callS (pc := 52) (As := [vI (m 9 (m 23 x2)), vI 0]) (rest := []) (W' := fun q52_10 => (Zw (kE K) lt b c ms rd m P)) (rv := fun q52_10 => some (vI q52_10)) X dX6_comesBack_52 rfl (fun a ha => c_X6_partOf N lt b c ms rd m P (m 9 (m 23 x2)) 0 K.1.2.1 K.2.2.1.1 (kE K) a ha) (fun a => Zw_d _ _ _ _ _ _ _ _) gd_X6_106 rfl (n := 2) (by decide) rfl (by decide) (Nat.zero_le _) (fun q52_10 eq52_10 => ?_)
          show Rn K _ 0 0 _ 55 [(0, .ref (kB K + 35)), (1, vI x1), (2, vI x2), (3, vI x3)] [vI q52_10] (Zw (kE K) lt b c ms rd m P)
          refine r_istore_n (pc := 55) (lv' := [(0, .ref (kB K + 35)), (1, vI x1), (2, vI q52_10), (3, vI x3)]) X [1, 2, 0, 3] dX6_comesBack_55 rfl (by decide) rfl ?_
          refine r_iload_n (pc := 56) X 2 dX6_comesBack_56 rfl rfl ?_
          refine r_iload_n (pc := 57) X 1 dX6_comesBack_57 rfl rfl ?_
          refine r_ck1 (fun h11 => ?_)
          refine r_ck1 (fun h12 => ?_)
          refine r_icmp_ne (pc := 58) X h11 h12 dX6_comesBack_58 (tgt := 63) (by decide) (fun h13 => ?_) (fun h13 => ?_)
          · refine r_iinc (pc := 63) (lv' := [(0, .ref (kB K + 35)), (1, vI x1), (2, vI q52_10), (3, vI (x3 + 1))]) X 3 [1, 2, 3, 0] dX6_comesBack_63 rfl (by decide) rfl ?_
            refine r_goto (pc := 66) X dX6_comesBack_66 (tgt := 4) (by decide) ?_
            exact ih q52_10 (x3 + 1)
          · refine r_iconst (pc := 61) X 1 dX6_comesBack_61 (by decide) ?_
            exact r_zret (pc := 62) X (by decide) rfl rfl (by decide) dX6_comesBack_62
        · refine r_iconst (pc := 38) X 0 dX6_comesBack_38 (by decide) ?_
          exact r_zret (pc := 39) X (by decide) rfl rfl (by decide) dX6_comesBack_39
set_option maxRecDepth 100000 in
set_option maxHeartbeats 4000000 in
theorem t_X6_comesBack (N : Nat) (lt b c ms rd m : Bd) (P : PL) (x1 : Int) (K : KT) (X : Kok K cX6_comesBack yX6_comesBack.cls lw_g ({ frames := 1, cells := 0, slots := 0, locals := 21 } : Room) (some .boolean) 4) : Rn K (Q_X6_comesBack K lt b c ms rd m P) 0 0 (f_X6_comesBack N m x1) 0 [(0, .ref (kB K + 35)), (1, vI x1)] [] (Zw (kE K) lt b c ms rd m P) := by
  unfold f_X6_comesBack
  refine r_iload_n (pc := 0) X 1 dX6_comesBack_0 rfl rfl ?_
  refine r_istore_n (pc := 1) (lv' := [(0, .ref (kB K + 35)), (1, vI x1), (2, vI x1)]) X [1, 2, 0] dX6_comesBack_1 rfl (by decide) rfl ?_
  refine r_iconst (pc := 2) X 0 dX6_comesBack_2 (by decide) ?_
  refine r_istore_n (pc := 3) (lv' := [(0, .ref (kB K + 35)), (1, vI x1), (2, vI x1), (3, vI 0)]) X [1, 2, 3, 0] dX6_comesBack_3 rfl (by decide) rfl ?_
  refine t_X6_comesBack_L4 N lt b c ms rd m P  x1 K X _ ?_ N x1 0
  refine r_iconst (pc := 69) X 0 dX6_comesBack_69 (by decide) ?_
  exact r_zret (pc := 70) X (by decide) rfl rfl (by decide) dX6_comesBack_70
theorem c_X6_comesBack (N : Nat) (lt b c ms rd m : Bd) (P : PL) (x1 : Int) (l : Launch) (D : va_G) (E : ET) (a : Int) (ha : f_X6_comesBack N m x1 = some a) : Ct l yX6_comesBack (Cond.code yX6_comesBack cX6_comesBack 4 (some .boolean) :: lw_g) ({ frames := 1, cells := 0, slots := 0, locals := 21 } : Room) D E [.ref (E.2.2.2 + 35), vI x1] (Zw E lt b c ms rd m P) (Zw E lt b c ms rd m P) (some (vI a)) :=
  ct_of (av := fun E => [.ref (E.2.2.2 + 35), vI x1]) (W0 := fun E => Zw E lt b c ms rd m P) (W1 := fun E (a : Int) => Zw E lt b c ms rd m P) (rw := fun E a => some (vI a)) (by decide) rfl (fun E => Zw_d E lt b c ms rd m P) (fun E => by simp [lg_sl, z_cat, z_catR, z_catI, z_catL]) (fun K X => r_lv (by simp [lv_args, z_cat, z_catR, z_catI, z_catL]) (t_X6_comesBack N lt b c ms rd m P x1 K X)) l D E a ha
abbrev Q_X6_readsAll (K : KT) (lt b c ms rd m : Bd) (P : PL) : (Int × Bd) → State → Prop := Qm K ({ frames := 4, cells := 0, slots := 0, locals := 88 } : Room) (fun a : Int × Bd => Zw (kE K) lt b c ms rd a.2 P) (fun a => some (vI a.1))
set_option maxRecDepth 100000 in
set_option maxHeartbeats 4000000 in
theorem t_X6_readsAll_L22 (N : Nat) (lt b c ms rd m : Bd) (P : PL) (K : KT) (X : Kok K cX6_readsAll yX6_readsAll.cls lw_g ({ frames := 4, cells := 0, slots := 0, locals := 88 } : Room) (some .int) 3) (k : Bd → Option (Int × Bd)) (hk : ∀ (m1 : Bd), Rn K (Q_X6_readsAll K lt b c ms rd m P) 0 0 (k m1) 41 [(0, .ref (kB K + 35))] [] (Zw (kE K) lt b c ms rd m1 P)) : ∀ (n : Nat) (x1 : Int) (m1 : Bd), Rn K (Q_X6_readsAll K lt b c ms rd m P) 0 0 (f_X6_readsAll_L22 k n x1 m1) 22 [(0, .ref (kB K + 35)), (1, vI x1)] [] (Zw (kE K) lt b c ms rd m1 P) := by
  intro n
  induction n with
  | zero =>
    intro x1 m1
    rw [f_X6_readsAll_L22]
    exact r_none
  | succ n ih =>
    intro x1 m1
    rw [f_X6_readsAll_L22]
    refine r_iload_n (pc := 22) X 1 dX6_readsAll_22 rfl rfl ?_
    refine r_bipush (pc := 23) X 8 dX6_readsAll_23 (by decide) ?_
    refine r_ck1 (fun h1 => ?_)
    refine r_icmp_ge (pc := 25) X h1 (by decide) dX6_readsAll_25 (tgt := 41) (by decide) (fun h2 => ?_) (fun h2 => ?_)
    · refine r_sub [0] rfl ?_
      exact hk m1
    · refine r_aload_n (pc := 28) X 0 dX6_readsAll_28 rfl rfl ?_
      refine r_get (pc := 29) (v := .ref (kB K + 53)) X 35 23 inX6 rfl rfl (by decide) tf_X6_61 rfl dX6_readsAll_29 ?_
      refine r_iload_n (pc := 32) X 1 dX6_readsAll_32 rfl rfl ?_
      refine r_iconst (pc := 33) X (-1) dX6_readsAll_33 (by decide) ?_
      refine r_ckA (fun h3 => ?_)
      refine r_iast (pc := 34) (f := m1 23) (ws' := (Zw (kE K) lt b c ms rd (bS m1 23 (aS (m1 23) x1 (-1))) P)) X 53 h3 zl_8 rfl rfl dX6_readsAll_34 ?_
      refine r_iinc (pc := 35) (lv' := [(0, .ref (kB K + 35)), (1, vI (x1 + 1))]) X 1 [1, 0] dX6_readsAll_35 rfl (by decide) rfl ?_
      refine r_goto (pc := 38) X dX6_readsAll_38 (tgt := 22) (by decide) ?_
      exact ih (x1 + 1) (bS m1 23 (aS (m1 23) x1 (-1)))
set_option maxRecDepth 100000 in
set_option maxHeartbeats 4000000 in
theorem t_X6_readsAll_L45 (N : Nat) (lt b c ms rd m : Bd) (P : PL) (K : KT) (X : Kok K cX6_readsAll yX6_readsAll.cls lw_g ({ frames := 4, cells := 0, slots := 0, locals := 88 } : Room) (some .int) 3) (k : Bd → Option (Int × Bd)) (hk : ∀ (m1 : Bd), Rn K (Q_X6_readsAll K lt b c ms rd m P) 0 0 (k m1) 196 [(0, .ref (kB K + 35))] [] (Zw (kE K) lt b c ms rd m1 P)) : ∀ (n : Nat) (m1 : Bd), Rn K (Q_X6_readsAll K lt b c ms rd m P) 0 0 (f_X6_readsAll_L45 N k n m1) 45 [(0, .ref (kB K + 35))] [] (Zw (kE K) lt b c ms rd m1 P) := by
  intro n
  induction n with
  | zero =>
    intro m1
    rw [f_X6_readsAll_L45]
    exact r_none
  | succ n ih =>
    intro m1
    rw [f_X6_readsAll_L45]
    refine r_aload_n (pc := 45) X 0 dX6_readsAll_45 rfl rfl ?_
    refine r_get (pc := 46) (v := vI (m1 22 0)) X 35 22 inX6 rfl rfl (by decide) tf_X6_147 rfl dX6_readsAll_46 ?_
    refine r_aload_n (pc := 49) X 0 dX6_readsAll_49 rfl rfl ?_
    refine r_get (pc := 50) (v := vI (m1 8 0)) X 35 8 inX6 rfl rfl (by decide) tf_X6_144 rfl dX6_readsAll_50 ?_
    refine r_jn (J := fun j63 => Rn K (Q_X6_readsAll K lt b c ms rd m P) 0 0 j63 63 [(0, .ref (kB K + 35))] [] (Zw (kE K) lt b c ms rd m1 P)) ?_ (fun j63 hj63 => ?_)
    · skip
      refine r_aload_n (pc := 63) X 0 dX6_readsAll_63 rfl rfl ?_
      refine r_aload_n (pc := 64) X 0 dX6_readsAll_64 rfl rfl ?_
      refine r_get (pc := 65) (v := vI (m1 22 0)) X 35 22 inX6 rfl rfl (by decide) tf_X6_147 rfl dX6_readsAll_65 ?_
      refine r_callV (pc := 68) (q0 := 35) (ci := 6) (As := [vI (m1 22 0)]) (rest := []) (W' := fun q68_5 => (Zw (kE K) lt b c ms rd m1 P)) (rv := fun q68_5 => some (vI q68_5)) X dX6_readsAll_68 rfl (fun a ha => c_X6_byteAt N lt b c ms rd m1 P (m1 22 0) K.1.2.1 K.2.2.1.1 (kE K) a ha) (fun a => Zw_d _ _ _ _ _ _ _ _) gd_X6_150 rfl (n := 1) (by decide) rfl (by decide) rfl rfl rfl (Nat.zero_le _) (fun q68_5 eq68_5 => ?_)
      show Rn K _ 0 0 _ 71 [(0, .ref (kB K + 35))] [vI q68_5] (Zw (kE K) lt b c ms rd m1 P)
      refine r_istore_n (pc := 71) (lv' := [(0, .ref (kB K + 35)), (1, vI q68_5)]) X [1, 0] dX6_readsAll_71 rfl (by decide) rfl ?_
      refine r_iload_n (pc := 72) X 1 dX6_readsAll_72 rfl rfl ?_
      refine r_bipush (pc := 73) X 97 dX6_readsAll_73 (by decide) ?_
      refine r_bipush (pc := 75) X 104 dX6_readsAll_75 (by decide) ?_
      refine r_callS (pc := 77) (As := [vI q68_5, vI 97, vI 104]) (rest := []) (W' := fun q77_6 => (Zw (kE K) lt b c ms rd m1 P)) (rv := fun q77_6 => some (vI q77_6)) X dX6_readsAll_77 rfl (fun a ha => c_X6_in N lt b c ms rd m1 P q68_5 97 104 K.1.2.1 K.2.2.1.1 (kE K) a ha) (fun a => Zw_d _ _ _ _ _ _ _ _) gd_X6_86 rfl (n := 3) (by decide) rfl (by decide) (Nat.zero_le _) (fun q77_6 eq77_6 => ?_)
      show Rn K _ 0 0 _ 80 [(0, .ref (kB K + 35)), (1, vI q68_5)] [vI q77_6] (Zw (kE K) lt b c ms rd m1 P)
      refine r_ck1 (fun h7 => ?_)
      refine r_ifeq (pc := 80) X h7 dX6_readsAll_80 (tgt := 95) (by decide) (fun h8 => ?_) (fun h8 => ?_)
      · refine r_aload_n (pc := 95) X 0 dX6_readsAll_95 rfl rfl ?_
        refine r_get (pc := 96) (v := vI (m1 22 0)) X 35 22 inX6 rfl rfl (by decide) tf_X6_147 rfl dX6_readsAll_96 ?_
        exact r_iret (pc := 99) X rfl rfl (by decide) dX6_readsAll_99
      · refine r_aload_n (pc := 83) X 0 dX6_readsAll_83 rfl rfl ?_
        refine r_get (pc := 84) (v := .ref (kB K + 53)) X 35 23 inX6 rfl rfl (by decide) tf_X6_61 rfl dX6_readsAll_84 ?_
        refine r_iload_n (pc := 87) X 1 dX6_readsAll_87 rfl rfl ?_
        refine r_bipush (pc := 88) X 97 dX6_readsAll_88 (by decide) ?_
        refine r_isub (pc := 90) X dX6_readsAll_90 ?_
        refine r_ckA (fun h9 => ?_)
        refine r_iald (pc := 91) (f := m1 23) X 53 h9 zl_8 rfl dX6_readsAll_91 ?_
        refine r_ck1 (fun h10 => ?_)
        refine r_iflt (pc := 92) X h10 dX6_readsAll_92 (tgt := 100) (by decide) (fun h11 => ?_) (fun h11 => ?_)
        · refine r_aload_n (pc := 100) X 0 dX6_readsAll_100 rfl rfl ?_
          refine r_get (pc := 101) (v := .ref (kB K + 54)) X 35 24 inX6 rfl rfl (by decide) tf_X6_64 rfl dX6_readsAll_101 ?_
          refine r_iload_n (pc := 104) X 1 dX6_readsAll_104 rfl rfl ?_
          refine r_bipush (pc := 105) X 97 dX6_readsAll_105 (by decide) ?_
          refine r_isub (pc := 107) X dX6_readsAll_107 ?_
          refine r_aload_n (pc := 108) X 0 dX6_readsAll_108 rfl rfl ?_
          refine r_get (pc := 109) (v := vI (m1 22 0)) X 35 22 inX6 rfl rfl (by decide) tf_X6_147 rfl dX6_readsAll_109 ?_
          refine r_iast (pc := 112) (f := m1 24) (ws' := (Zw (kE K) lt b c ms rd (bS m1 24 (aS (m1 24) (q68_5 - 97) (m1 22 0))) P)) X 54 h9 zl_8 rfl rfl dX6_readsAll_112 ?_
          refine r_aload_n (pc := 113) X 0 dX6_readsAll_113 rfl rfl ?_
          refine r_dup (pc := 114) X dX6_readsAll_114 rfl ?_
          refine r_get (pc := 115) (v := vI (m1 22 0)) X 35 22 inX6 rfl rfl (by decide) tf_X6_147 rfl dX6_readsAll_115 ?_
          refine r_iconst (pc := 118) X 1 dX6_readsAll_118 (by decide) ?_
          refine r_iadd (pc := 119) X dX6_readsAll_119 ?_
          refine r_put (pc := 120) (ws' := (Zw (kE K) lt b c ms rd (bS (bs0 m1 22 ((m1 22 0) + 1)) 24 (aS (m1 24) (q68_5 - 97) (m1 22 0))) P)) X 35 22 inX6 tyX6 tyX6_ok nmX6 rfl rfl (by decide) tf_X6_147 rfl (tyX6_ok 22 (by decide)) rfl rfl (Nat.le_of_ble_eq_true rfl) rfl dX6_readsAll_120 ?_
          refine r_aload_n (pc := 123) X 0 dX6_readsAll_123 rfl rfl ?_
          refine r_callV (pc := 124) (q0 := 35) (ci := 6) (As := []) (rest := []) (W' := fun q124_12 => (Zw (kE K) lt b c ms rd q124_12 P)) (rv := fun q124_12 => none) X dX6_readsAll_124 rfl (fun a ha => c_X6_skips N lt b c ms rd (bS (bs0 m1 22 ((m1 22 0) + 1)) 24 (aS (m1 24) (q68_5 - 97) (m1 22 0))) P K.1.2.1 K.2.2.1.1 (kE K) a ha) (fun a => Zw_d _ _ _ _ _ _ _ _) gd_X6_159 rfl (n := 0) (by decide) rfl (by decide) rfl rfl rfl (Nat.zero_le _) (fun q124_12 eq124_12 => ?_)
          show Rn K _ 0 0 _ 127 [(0, .ref (kB K + 35)), (1, vI q68_5)] [] (Zw (kE K) lt b c ms rd q124_12 P)
          refine r_aload_n (pc := 127) X 0 dX6_readsAll_127 rfl rfl ?_
          refine r_aload_n (pc := 128) X 0 dX6_readsAll_128 rfl rfl ?_
          refine r_get (pc := 129) (v := vI (q124_12 22 0)) X 35 22 inX6 rfl rfl (by decide) tf_X6_147 rfl dX6_readsAll_129 ?_
          refine r_callV (pc := 132) (q0 := 35) (ci := 6) (As := [vI (q124_12 22 0)]) (rest := []) (W' := fun q132_13 => (Zw (kE K) lt b c ms rd q124_12 P)) (rv := fun q132_13 => some (vI q132_13)) X dX6_readsAll_132 rfl (fun a ha => c_X6_byteAt N lt b c ms rd q124_12 P (q124_12 22 0) K.1.2.1 K.2.2.1.1 (kE K) a ha) (fun a => Zw_d _ _ _ _ _ _ _ _) gd_X6_150 rfl (n := 1) (by decide) rfl (by decide) rfl rfl rfl (Nat.zero_le _) (fun q132_13 eq132_13 => ?_)
          show Rn K _ 0 0 _ 135 [(0, .ref (kB K + 35)), (1, vI q68_5)] [vI q132_13] (Zw (kE K) lt b c ms rd q124_12 P)
          refine r_bipush (pc := 135) X 61 dX6_readsAll_135 (by decide) ?_
          refine r_ck1 (fun h14 => ?_)
          refine r_icmp_eq (pc := 137) X h14 (by decide) dX6_readsAll_137 (tgt := 145) (by decide) (fun h15 => ?_) (fun h15 => ?_)
          · refine r_aload_n (pc := 145) X 0 dX6_readsAll_145 rfl rfl ?_
            refine r_dup (pc := 146) X dX6_readsAll_146 rfl ?_
            refine r_get (pc := 147) (v := vI (q124_12 22 0)) X 35 22 inX6 rfl rfl (by decide) tf_X6_147 rfl dX6_readsAll_147 ?_
            refine r_iconst (pc := 150) X 1 dX6_readsAll_150 (by decide) ?_
            refine r_iadd (pc := 151) X dX6_readsAll_151 ?_
            refine r_put (pc := 152) (ws' := (Zw (kE K) lt b c ms rd (bs0 q124_12 22 ((q124_12 22 0) + 1)) P)) X 35 22 inX6 tyX6 tyX6_ok nmX6 rfl rfl (by decide) tf_X6_147 rfl (tyX6_ok 22 (by decide)) rfl rfl (Nat.le_of_ble_eq_true rfl) rfl dX6_readsAll_152 ?_
            refine r_aload_n (pc := 155) X 0 dX6_readsAll_155 rfl rfl ?_
            refine r_callV (pc := 156) (q0 := 35) (ci := 6) (As := []) (rest := []) (W' := fun q156_16 => (Zw (kE K) lt b c ms rd q156_16.2 P)) (rv := fun q156_16 => some (vI q156_16.1)) X dX6_readsAll_156 rfl (fun a ha => c_X6_readsTerm N lt b c ms rd (bs0 q124_12 22 ((q124_12 22 0) + 1)) P K.1.2.1 K.2.2.1.1 (kE K) a ha) (fun a => Zw_d _ _ _ _ _ _ _ _) gd_X6_183 rfl (n := 0) (by decide) rfl (by decide) rfl rfl rfl (Nat.zero_le _) (fun q156_16 eq156_16 => ?_)
            show Rn K _ 0 0 _ 159 [(0, .ref (kB K + 35)), (1, vI q68_5)] [vI q156_16.1] (Zw (kE K) lt b c ms rd q156_16.2 P)
            refine r_istore_n (pc := 159) (lv' := [(0, .ref (kB K + 35)), (1, vI q68_5), (2, vI q156_16.1)]) X [1, 2, 0] dX6_readsAll_159 rfl (by decide) rfl ?_
            refine r_iload_n (pc := 160) X 2 dX6_readsAll_160 rfl rfl ?_
            refine r_ck1 (fun h17 => ?_)
            refine r_ifge (pc := 161) X h17 dX6_readsAll_161 (tgt := 169) (by decide) (fun h18 => ?_) (fun h18 => ?_)
            · refine r_aload_n (pc := 169) X 0 dX6_readsAll_169 rfl rfl ?_
              refine r_get (pc := 170) (v := .ref (kB K + 53)) X 35 23 inX6 rfl rfl (by decide) tf_X6_61 rfl dX6_readsAll_170 ?_
              refine r_iload_n (pc := 173) X 1 dX6_readsAll_173 rfl rfl ?_
              refine r_bipush (pc := 174) X 97 dX6_readsAll_174 (by decide) ?_
              refine r_isub (pc := 176) X dX6_readsAll_176 ?_
              refine r_iload_n (pc := 177) X 2 dX6_readsAll_177 rfl rfl ?_
              refine r_iast (pc := 178) (f := q156_16.2 23) (ws' := (Zw (kE K) lt b c ms rd (bS q156_16.2 23 (aS (q156_16.2 23) (q68_5 - 97) q156_16.1)) P)) X 53 h9 zl_8 rfl rfl dX6_readsAll_178 ?_
              refine r_aload_n (pc := 179) X 0 dX6_readsAll_179 rfl rfl ?_
              refine r_dup (pc := 180) X dX6_readsAll_180 rfl ?_
              refine r_get (pc := 181) (v := vI (q156_16.2 33 0)) X 35 33 inX6 rfl rfl (by decide) tf_X6_180 rfl dX6_readsAll_181 ?_
              refine r_iconst (pc := 184) X 1 dX6_readsAll_184 (by decide) ?_
              refine r_iadd (pc := 185) X dX6_readsAll_185 ?_
              refine r_put (pc := 186) (ws' := (Zw (kE K) lt b c ms rd (bs0 (bS q156_16.2 23 (aS (q156_16.2 23) (q68_5 - 97) q156_16.1)) 33 ((q156_16.2 33 0) + 1)) P)) X 35 33 inX6 tyX6 tyX6_ok nmX6 rfl rfl (by decide) tf_X6_180 rfl (tyX6_ok 33 (by decide)) rfl rfl (Nat.le_of_ble_eq_true rfl) rfl dX6_readsAll_186 ?_
              refine r_aload_n (pc := 189) X 0 dX6_readsAll_189 rfl rfl ?_
              refine r_callV (pc := 190) (q0 := 35) (ci := 6) (As := []) (rest := []) (W' := fun q190_19 => (Zw (kE K) lt b c ms rd q190_19 P)) (rv := fun q190_19 => none) X dX6_readsAll_190 rfl (fun a ha => c_X6_skips N lt b c ms rd (bs0 (bS q156_16.2 23 (aS (q156_16.2 23) (q68_5 - 97) q156_16.1)) 33 ((q156_16.2 33 0) + 1)) P K.1.2.1 K.2.2.1.1 (kE K) a ha) (fun a => Zw_d _ _ _ _ _ _ _ _) gd_X6_159 rfl (n := 0) (by decide) rfl (by decide) rfl rfl rfl (Nat.zero_le _) (fun q190_19 eq190_19 => ?_)
              show Rn K _ 0 0 _ 193 [(0, .ref (kB K + 35)), (1, vI q68_5), (2, vI q156_16.1)] [] (Zw (kE K) lt b c ms rd q190_19 P)
              refine r_goto (pc := 193) X dX6_readsAll_193 (tgt := 45) (by decide) ?_
              refine r_sub [0] rfl ?_
              exact ih q190_19
            · refine r_aload_n (pc := 164) X 0 dX6_readsAll_164 rfl rfl ?_
              refine r_get (pc := 165) (v := vI (q156_16.2 22 0)) X 35 22 inX6 rfl rfl (by decide) tf_X6_147 rfl dX6_readsAll_165 ?_
              exact r_iret (pc := 168) X rfl rfl (by decide) dX6_readsAll_168
          · refine r_aload_n (pc := 140) X 0 dX6_readsAll_140 rfl rfl ?_
            refine r_get (pc := 141) (v := vI (q124_12 22 0)) X 35 22 inX6 rfl rfl (by decide) tf_X6_147 rfl dX6_readsAll_141 ?_
            exact r_iret (pc := 144) X rfl rfl (by decide) dX6_readsAll_144
        · refine r_aload_n (pc := 95) X 0 dX6_readsAll_95 rfl rfl ?_
          refine r_get (pc := 96) (v := vI (m1 22 0)) X 35 22 inX6 rfl rfl (by decide) tf_X6_147 rfl dX6_readsAll_96 ?_
          exact r_iret (pc := 99) X rfl rfl (by decide) dX6_readsAll_99
    refine r_ck1 (fun h20 => ?_)
    refine r_ck1 (fun h21 => ?_)
    refine r_icmp_lt (pc := 53) X h20 h21 dX6_readsAll_53 (tgt := 63) (by decide) (fun h22 => ?_) (fun h22 => ?_)
    · exact hj63
    · refine r_aload_n (pc := 56) X 0 dX6_readsAll_56 rfl rfl ?_
      refine r_get (pc := 57) (v := vI (m1 33 0)) X 35 33 inX6 rfl rfl (by decide) tf_X6_180 rfl dX6_readsAll_57 ?_
      refine r_ck1 (fun h23 => ?_)
      refine r_ifne (pc := 60) X h23 dX6_readsAll_60 (tgt := 196) (by decide) (fun h24 => ?_) (fun h24 => ?_)
      · exact hk m1
      · exact hj63
set_option maxRecDepth 100000 in
set_option maxHeartbeats 4000000 in
theorem t_X6_readsAll_L198 (N : Nat) (lt b c ms rd m : Bd) (P : PL) (m1 : Bd) (K : KT) (X : Kok K cX6_readsAll yX6_readsAll.cls lw_g ({ frames := 4, cells := 0, slots := 0, locals := 88 } : Room) (some .int) 3) (k : Option (Int × Bd)) (hk : Rn K (Q_X6_readsAll K lt b c ms rd m P) 0 0 k 252 [(0, .ref (kB K + 35))] [] (Zw (kE K) lt b c ms rd m1 P)) : ∀ (n : Nat) (x1 : Int), Rn K (Q_X6_readsAll K lt b c ms rd m P) 0 0 (f_X6_readsAll_L198 m1 k n x1) 198 [(0, .ref (kB K + 35)), (1, vI x1)] [] (Zw (kE K) lt b c ms rd m1 P) := by
  intro n
  induction n with
  | zero =>
    intro x1
    rw [f_X6_readsAll_L198]
    exact r_none
  | succ n ih =>
    intro x1
    rw [f_X6_readsAll_L198]
    refine r_iload_n (pc := 198) X 1 dX6_readsAll_198 rfl rfl ?_
    refine r_aload_n (pc := 199) X 0 dX6_readsAll_199 rfl rfl ?_
    refine r_get (pc := 200) (v := vI (m1 26 0)) X 35 26 inX6 rfl rfl (by decide) tf_X6_166 rfl dX6_readsAll_200 ?_
    refine r_ck1 (fun h25 => ?_)
    refine r_ck1 (fun h26 => ?_)
    refine r_icmp_ge (pc := 203) X h25 h26 dX6_readsAll_203 (tgt := 252) (by decide) (fun h27 => ?_) (fun h27 => ?_)
    · refine r_sub [0] rfl ?_
      exact hk
    · refine r_aload_n (pc := 206) X 0 dX6_readsAll_206 rfl rfl ?_
      refine r_get (pc := 207) (v := .ref (kB K + 41)) X 35 7 inX6 rfl rfl (by decide) tf_X6_25 rfl dX6_readsAll_207 ?_
      refine r_aload_n (pc := 210) X 0 dX6_readsAll_210 rfl rfl ?_
      refine r_get (pc := 211) (v := .ref (kB K + 55)) X 35 25 inX6 rfl rfl (by decide) tf_X6_67 rfl dX6_readsAll_211 ?_
      refine r_iload_n (pc := 214) X 1 dX6_readsAll_214 rfl rfl ?_
      refine r_ckA (fun h28 => ?_)
      refine r_iald (pc := 215) (f := m1 25) X 55 h28 zl_130 rfl dX6_readsAll_215 ?_
      refine r_ckA (fun h29 => ?_)
      refine r_iald (pc := 216) (f := m1 7) X 41 h29 zl_120 rfl dX6_readsAll_216 ?_
      refine r_bipush (pc := 217) X 97 dX6_readsAll_217 (by decide) ?_
      refine r_isub (pc := 219) X dX6_readsAll_219 ?_
      refine r_istore_n (pc := 220) (lv' := [(0, .ref (kB K + 35)), (1, vI x1), (2, vI ((m1 7 (m1 25 x1)) - 97))]) X [1, 2, 0] dX6_readsAll_220 rfl (by decide) rfl ?_
      refine r_aload_n (pc := 221) X 0 dX6_readsAll_221 rfl rfl ?_
      refine r_get (pc := 222) (v := .ref (kB K + 53)) X 35 23 inX6 rfl rfl (by decide) tf_X6_61 rfl dX6_readsAll_222 ?_
      refine r_iload_n (pc := 225) X 2 dX6_readsAll_225 rfl rfl ?_
      refine r_ckA (fun h30 => ?_)
      refine r_iald (pc := 226) (f := m1 23) X 53 h30 zl_8 rfl dX6_readsAll_226 ?_
      refine r_ck1 (fun h31 => ?_)
      refine r_ifge (pc := 227) X h31 dX6_readsAll_227 (tgt := 246) (by decide) (fun h32 => ?_) (fun h32 => ?_)
      · refine r_iinc (pc := 246) (lv' := [(0, .ref (kB K + 35)), (1, vI (x1 + 1)), (2, vI ((m1 7 (m1 25 x1)) - 97))]) X 1 [1, 0, 2] dX6_readsAll_246 rfl (by decide) rfl ?_
        refine r_goto (pc := 249) X dX6_readsAll_249 (tgt := 198) (by decide) ?_
        refine r_sub [0, 1] rfl ?_
        exact ih (x1 + 1)
      · refine r_aload_n (pc := 230) X 0 dX6_readsAll_230 rfl rfl ?_
        refine r_get (pc := 231) (v := .ref (kB K + 36)) X 35 0 inX6 rfl rfl (by decide) tf_X6_7 rfl dX6_readsAll_231 ?_
        refine r_iload_n (pc := 234) X 2 dX6_readsAll_234 rfl rfl ?_
        refine r_iald (pc := 235) (f := m1 0) X 36 h30 zl_8 rfl dX6_readsAll_235 ?_
        refine r_ck1 (fun h33 => ?_)
        refine r_ifne (pc := 236) X h33 dX6_readsAll_236 (tgt := 246) (by decide) (fun h34 => ?_) (fun h34 => ?_)
        · refine r_iinc (pc := 246) (lv' := [(0, .ref (kB K + 35)), (1, vI (x1 + 1)), (2, vI ((m1 7 (m1 25 x1)) - 97))]) X 1 [1, 0, 2] dX6_readsAll_246 rfl (by decide) rfl ?_
          refine r_goto (pc := 249) X dX6_readsAll_249 (tgt := 198) (by decide) ?_
          refine r_sub [0, 1] rfl ?_
          exact ih (x1 + 1)
        · refine r_aload_n (pc := 239) X 0 dX6_readsAll_239 rfl rfl ?_
          refine r_get (pc := 240) (v := .ref (kB K + 55)) X 35 25 inX6 rfl rfl (by decide) tf_X6_67 rfl dX6_readsAll_240 ?_
          refine r_iload_n (pc := 243) X 1 dX6_readsAll_243 rfl rfl ?_
          refine r_iald (pc := 244) (f := m1 25) X 55 h28 zl_130 rfl dX6_readsAll_244 ?_
          exact r_iret (pc := 245) X rfl rfl (by decide) dX6_readsAll_245
set_option maxRecDepth 100000 in
set_option maxHeartbeats 4000000 in
theorem t_X6_readsAll_L256 (N : Nat) (lt b c ms rd m : Bd) (P : PL) (m1 : Bd) (K : KT) (X : Kok K cX6_readsAll yX6_readsAll.cls lw_g ({ frames := 4, cells := 0, slots := 0, locals := 88 } : Room) (some .int) 3) (k : Int → Option (Int × Bd)) (hk : ∀ (x1 : Int), Rn K (Q_X6_readsAll K lt b c ms rd m P) 0 0 (k x1) 311 [(1, vI x1)] [] (Zw (kE K) lt b c ms rd m1 P)) : ∀ (n : Nat) (x1 : Int) (x2 : Int), Rn K (Q_X6_readsAll K lt b c ms rd m P) 0 0 (f_X6_readsAll_L256 N m1 k n x1 x2) 256 [(0, .ref (kB K + 35)), (1, vI x1), (2, vI x2)] [] (Zw (kE K) lt b c ms rd m1 P) := by
  intro n
  induction n with
  | zero =>
    intro x1 x2
    rw [f_X6_readsAll_L256]
    exact r_none
  | succ n ih =>
    intro x1 x2
    rw [f_X6_readsAll_L256]
    refine r_iload_n (pc := 256) X 2 dX6_readsAll_256 rfl rfl ?_
    refine r_bipush (pc := 257) X 8 dX6_readsAll_257 (by decide) ?_
    refine r_ck1 (fun h35 => ?_)
    refine r_icmp_ge (pc := 259) X h35 (by decide) dX6_readsAll_259 (tgt := 311) (by decide) (fun h36 => ?_) (fun h36 => ?_)
    · refine r_sub [1] rfl ?_
      exact hk x1
    · refine r_aload_n (pc := 262) X 0 dX6_readsAll_262 rfl rfl ?_
      refine r_get (pc := 263) (v := .ref (kB K + 53)) X 35 23 inX6 rfl rfl (by decide) tf_X6_61 rfl dX6_readsAll_263 ?_
      refine r_iload_n (pc := 266) X 2 dX6_readsAll_266 rfl rfl ?_
      refine r_ckA (fun h37 => ?_)
      refine r_iald (pc := 267) (f := m1 23) X 53 h37 zl_8 rfl dX6_readsAll_267 ?_
      refine r_ck1 (fun h38 => ?_)
      refine r_iflt (pc := 268) X h38 dX6_readsAll_268 (tgt := 303) (by decide) (fun h39 => ?_) (fun h39 => ?_)
      · refine r_iload_n (pc := 303) X 1 dX6_readsAll_303 rfl rfl ?_
        refine r_istore_n (pc := 304) (lv' := [(0, .ref (kB K + 35)), (1, vI x1), (2, vI x2)]) X [1, 0, 2] dX6_readsAll_304 rfl (by decide) rfl ?_
        refine r_iinc (pc := 305) (lv' := [(0, .ref (kB K + 35)), (1, vI x1), (2, vI (x2 + 1))]) X 2 [1, 2, 0] dX6_readsAll_305 rfl (by decide) rfl ?_
        refine r_goto (pc := 308) X dX6_readsAll_308 (tgt := 256) (by decide) ?_
        exact ih x1 (x2 + 1)
      · refine r_aload_n (pc := 271) X 0 dX6_readsAll_271 rfl rfl ?_
        refine r_iload_n (pc := 272) X 2 dX6_readsAll_272 rfl rfl ?_
        refine r_callV (pc := 273) (q0 := 35) (ci := 6) (As := [vI x2]) (rest := []) (W' := fun q273_40 => (Zw (kE K) lt b c ms rd m1 P)) (rv := fun q273_40 => some (vI q273_40)) X dX6_readsAll_273 rfl (fun a ha => c_X6_comesBack N lt b c ms rd m1 P x2 K.1.2.1 K.2.2.1.1 (kE K) a ha) (fun a => Zw_d _ _ _ _ _ _ _ _) gd_X6_186 rfl (n := 1) (by decide) rfl (by decide) rfl rfl rfl (Nat.zero_le _) (fun q273_40 eq273_40 => ?_)
        show Rn K _ 0 0 _ 276 [(0, .ref (kB K + 35)), (1, vI x1), (2, vI x2)] [vI q273_40] (Zw (kE K) lt b c ms rd m1 P)
        refine r_ck1 (fun h41 => ?_)
        refine r_ifeq (pc := 276) X h41 dX6_readsAll_276 (tgt := 303) (by decide) (fun h42 => ?_) (fun h42 => ?_)
        · refine r_iload_n (pc := 303) X 1 dX6_readsAll_303 rfl rfl ?_
          refine r_istore_n (pc := 304) (lv' := [(0, .ref (kB K + 35)), (1, vI x1), (2, vI x2)]) X [1, 0, 2] dX6_readsAll_304 rfl (by decide) rfl ?_
          refine r_iinc (pc := 305) (lv' := [(0, .ref (kB K + 35)), (1, vI x1), (2, vI (x2 + 1))]) X 2 [1, 2, 0] dX6_readsAll_305 rfl (by decide) rfl ?_
          refine r_goto (pc := 308) X dX6_readsAll_308 (tgt := 256) (by decide) ?_
          exact ih x1 (x2 + 1)
        · refine r_iload_n (pc := 279) X 1 dX6_readsAll_279 rfl rfl ?_
          refine r_iconst (pc := 280) X (-1) dX6_readsAll_280 (by decide) ?_
          refine r_jn (J := fun j294 => Rn K (Q_X6_readsAll K lt b c ms rd m P) 0 0 j294 294 [(0, .ref (kB K + 35)), (2, vI x2)] [] (Zw (kE K) lt b c ms rd m1 P)) ?_ (fun j294 hj294 => ?_)
          · skip
            refine r_aload_n (pc := 294) X 0 dX6_readsAll_294 rfl rfl ?_
            refine r_get (pc := 295) (v := .ref (kB K + 54)) X 35 24 inX6 rfl rfl (by decide) tf_X6_64 rfl dX6_readsAll_295 ?_
            refine r_iload_n (pc := 298) X 1 dX6_readsAll_298 rfl rfl ?_
            refine r_iald (pc := 299) (f := m1 24) X 54 h37 zl_8 rfl dX6_readsAll_299 ?_
            refine r_goto (pc := 300) X dX6_readsAll_300 (tgt := 304) (by decide) ?_
            refine r_istore_n (pc := 304) (lv' := [(0, .ref (kB K + 35)), (1, vI (m1 24 x2)), (2, vI x2)]) X [1, 0, 2] dX6_readsAll_304 rfl (by decide) rfl ?_
            refine r_iinc (pc := 305) (lv' := [(0, .ref (kB K + 35)), (1, vI (m1 24 x2)), (2, vI (x2 + 1))]) X 2 [1, 2, 0] dX6_readsAll_305 rfl (by decide) rfl ?_
            refine r_goto (pc := 308) X dX6_readsAll_308 (tgt := 256) (by decide) ?_
            exact ih (m1 24 x2) (x2 + 1)
          refine r_ck1 (fun h43 => ?_)
          refine r_icmp_eq (pc := 281) X h43 (by decide) dX6_readsAll_281 (tgt := 294) (by decide) (fun h44 => ?_) (fun h44 => ?_)
          · refine r_sub [0, 2] rfl ?_
            exact hj294
          · refine r_aload_n (pc := 284) X 0 dX6_readsAll_284 rfl rfl ?_
            refine r_get (pc := 285) (v := .ref (kB K + 54)) X 35 24 inX6 rfl rfl (by decide) tf_X6_64 rfl dX6_readsAll_285 ?_
            refine r_iload_n (pc := 288) X 2 dX6_readsAll_288 rfl rfl ?_
            refine r_iald (pc := 289) (f := m1 24) X 54 h37 zl_8 rfl dX6_readsAll_289 ?_
            refine r_iload_n (pc := 290) X 1 dX6_readsAll_290 rfl rfl ?_
            refine r_ck1 (fun h45 => ?_)
            refine r_icmp_ge (pc := 291) X h45 h43 dX6_readsAll_291 (tgt := 303) (by decide) (fun h46 => ?_) (fun h46 => ?_)
            · refine r_iload_n (pc := 303) X 1 dX6_readsAll_303 rfl rfl ?_
              refine r_istore_n (pc := 304) (lv' := [(0, .ref (kB K + 35)), (1, vI x1), (2, vI x2)]) X [1, 0, 2] dX6_readsAll_304 rfl (by decide) rfl ?_
              refine r_iinc (pc := 305) (lv' := [(0, .ref (kB K + 35)), (1, vI x1), (2, vI (x2 + 1))]) X 2 [1, 2, 0] dX6_readsAll_305 rfl (by decide) rfl ?_
              refine r_goto (pc := 308) X dX6_readsAll_308 (tgt := 256) (by decide) ?_
              exact ih x1 (x2 + 1)
            · refine r_sub [0, 2] rfl ?_
              exact hj294
set_option maxRecDepth 100000 in
set_option maxHeartbeats 4000000 in
theorem t_X6_readsAll (N : Nat) (lt b c ms rd m : Bd) (P : PL) (K : KT) (X : Kok K cX6_readsAll yX6_readsAll.cls lw_g ({ frames := 4, cells := 0, slots := 0, locals := 88 } : Room) (some .int) 3) : Rn K (Q_X6_readsAll K lt b c ms rd m P) 0 0 (f_X6_readsAll N m) 0 [(0, .ref (kB K + 35))] [] (Zw (kE K) lt b c ms rd m P) := by
  unfold f_X6_readsAll
  refine r_aload_n (pc := 0) X 0 dX6_readsAll_0 rfl rfl ?_
  refine r_iconst (pc := 1) X 0 dX6_readsAll_1 (by decide) ?_
  refine r_put (pc := 2) (ws' := (Zw (kE K) lt b c ms rd (bs0 m 10 0) P)) X 35 10 inX6 tyX6 tyX6_ok nmX6 rfl rfl (by decide) tf_X6_94 rfl (tyX6_ok 10 (by decide)) rfl rfl (Nat.le_of_ble_eq_true rfl) rfl dX6_readsAll_2 ?_
  refine r_aload_n (pc := 5) X 0 dX6_readsAll_5 rfl rfl ?_
  refine r_iconst (pc := 6) X 0 dX6_readsAll_6 (by decide) ?_
  refine r_put (pc := 7) (ws' := (Zw (kE K) lt b c ms rd (bs0 (bs0 m 10 0) 26 0) P)) X 35 26 inX6 tyX6 tyX6_ok nmX6 rfl rfl (by decide) tf_X6_166 rfl (tyX6_ok 26 (by decide)) rfl rfl (Nat.le_of_ble_eq_true rfl) rfl dX6_readsAll_7 ?_
  refine r_aload_n (pc := 10) X 0 dX6_readsAll_10 rfl rfl ?_
  refine r_iconst (pc := 11) X 0 dX6_readsAll_11 (by decide) ?_
  refine r_put (pc := 12) (ws' := (Zw (kE K) lt b c ms rd (bs0 (bs0 (bs0 m 10 0) 26 0) 33 0) P)) X 35 33 inX6 tyX6 tyX6_ok nmX6 rfl rfl (by decide) tf_X6_180 rfl (tyX6_ok 33 (by decide)) rfl rfl (Nat.le_of_ble_eq_true rfl) rfl dX6_readsAll_12 ?_
  refine r_aload_n (pc := 15) X 0 dX6_readsAll_15 rfl rfl ?_
  refine r_iconst (pc := 16) X 0 dX6_readsAll_16 (by decide) ?_
  refine r_put (pc := 17) (ws' := (Zw (kE K) lt b c ms rd (bs0 (bs0 (bs0 (bs0 m 10 0) 22 0) 26 0) 33 0) P)) X 35 22 inX6 tyX6 tyX6_ok nmX6 rfl rfl (by decide) tf_X6_147 rfl (tyX6_ok 22 (by decide)) rfl rfl (Nat.le_of_ble_eq_true rfl) rfl dX6_readsAll_17 ?_
  refine r_iconst (pc := 20) X 0 dX6_readsAll_20 (by decide) ?_
  refine r_istore_n (pc := 21) (lv' := [(0, .ref (kB K + 35)), (1, vI 0)]) X [1, 0] dX6_readsAll_21 rfl (by decide) rfl ?_
  refine t_X6_readsAll_L22 N lt b c ms rd m P   K X _ ?_ N 0 (bs0 (bs0 (bs0 (bs0 m 10 0) 22 0) 26 0) 33 0)
  intro m_22
  refine r_aload_n (pc := 41) X 0 dX6_readsAll_41 rfl rfl ?_
  refine r_callV (pc := 42) (q0 := 35) (ci := 6) (As := []) (rest := []) (W' := fun q42_4 => (Zw (kE K) lt b c ms rd q42_4 P)) (rv := fun q42_4 => none) X dX6_readsAll_42 rfl (fun a ha => c_X6_skips N lt b c ms rd m_22 P K.1.2.1 K.2.2.1.1 (kE K) a ha) (fun a => Zw_d _ _ _ _ _ _ _ _) gd_X6_159 rfl (n := 0) (by decide) rfl (by decide) rfl rfl rfl (Nat.zero_le _) (fun q42_4 eq42_4 => ?_)
  show Rn K _ 0 0 _ 45 [(0, .ref (kB K + 35))] [] (Zw (kE K) lt b c ms rd q42_4 P)
  refine t_X6_readsAll_L45 N lt b c ms rd m P   K X _ ?_ N q42_4
  intro m_45
  refine r_iconst (pc := 196) X 0 dX6_readsAll_196 (by decide) ?_
  refine r_istore_n (pc := 197) (lv' := [(0, .ref (kB K + 35)), (1, vI 0)]) X [1, 0] dX6_readsAll_197 rfl (by decide) rfl ?_
  refine t_X6_readsAll_L198 N lt b c ms rd m P m_45  K X _ ?_ N 0
  refine r_iconst (pc := 252) X (-1) dX6_readsAll_252 (by decide) ?_
  refine r_istore_n (pc := 253) (lv' := [(0, .ref (kB K + 35)), (1, vI (-1))]) X [1, 0] dX6_readsAll_253 rfl (by decide) rfl ?_
  refine r_iconst (pc := 254) X 0 dX6_readsAll_254 (by decide) ?_
  refine r_istore_n (pc := 255) (lv' := [(0, .ref (kB K + 35)), (1, vI (-1)), (2, vI 0)]) X [1, 2, 0] dX6_readsAll_255 rfl (by decide) rfl ?_
  refine t_X6_readsAll_L256 N lt b c ms rd m P m_45  K X _ ?_ N (-1) 0
  intro x1_256
  refine r_iload_n (pc := 311) X 0 dX6_readsAll_311 rfl rfl ?_
  exact r_iret (pc := 312) X rfl rfl (by decide) dX6_readsAll_312
theorem c_X6_readsAll (N : Nat) (lt b c ms rd m : Bd) (P : PL) (l : Launch) (D : va_G) (E : ET) (a : Int × Bd) (ha : f_X6_readsAll N m = some a) : Ct l yX6_readsAll (Cond.code yX6_readsAll cX6_readsAll 3 (some .int) :: lw_g) ({ frames := 4, cells := 0, slots := 0, locals := 88 } : Room) D E [.ref (E.2.2.2 + 35)] (Zw E lt b c ms rd m P) (Zw E lt b c ms rd a.2 P) (some (vI a.1)) :=
  ct_of (av := fun E => [.ref (E.2.2.2 + 35)]) (W0 := fun E => Zw E lt b c ms rd m P) (W1 := fun E (a : Int × Bd) => Zw E lt b c ms rd a.2 P) (rw := fun E a => some (vI a.1)) (by decide) rfl (fun E => Zw_d E lt b c ms rd m P) (fun E => by simp [lg_sl, z_cat, z_catR, z_catI, z_catL]) (fun K X => r_lv (by simp [lv_args, z_cat, z_catR, z_catI, z_catL]) (t_X6_readsAll N lt b c ms rd m P  K X)) l D E a ha
abbrev Q_X6_loads (K : KT) (lt b c ms rd m : Bd) (P : PL) : (Int × Bd) → State → Prop := Qm K ({ frames := 2, cells := 0, slots := 0, locals := 45 } : Room) (fun a : Int × Bd => Zw (kE K) lt b c ms rd a.2 P) (fun a => some (vI a.1))
set_option maxRecDepth 100000 in
set_option maxHeartbeats 4000000 in
theorem t_X6_loads_L7 (N : Nat) (lt b c ms rd m : Bd) (P : PL) (x1 x2 : Int) (K : KT) (X : Kok K cX6_loads yX6_loads.cls lw_g ({ frames := 2, cells := 0, slots := 0, locals := 45 } : Room) (some .int) 5) (k : Bd → Option (Int × Bd)) (hk : ∀ (m1 : Bd), Rn K (Q_X6_loads K lt b c ms rd m P) 0 0 (k m1) 62 [(2, vI x2)] [] (Zw (kE K) lt b c ms rd m1 P)) : ∀ (n : Nat) (x3 : Int) (m1 : Bd), Rn K (Q_X6_loads K lt b c ms rd m P) 0 0 (f_X6_loads_L7 x1 x2 k n x3 m1) 7 [(0, .ref (kB K + 35)), (1, vI x1), (2, vI x2), (3, vI x3)] [] (Zw (kE K) lt b c ms rd m1 P) := by
  intro n
  induction n with
  | zero =>
    intro x3 m1
    rw [f_X6_loads_L7]
    exact r_none
  | succ n ih =>
    intro x3 m1
    rw [f_X6_loads_L7]
    refine r_iload_n (pc := 7) X 3 dX6_loads_7 rfl rfl ?_
    refine r_aload_n (pc := 8) X 0 dX6_loads_8 rfl rfl ?_
    refine r_get (pc := 9) (v := .ref (kB K + 36)) X 35 0 inX6 rfl rfl (by decide) tf_X6_7 rfl dX6_loads_9 ?_
    refine r_iload_n (pc := 12) X 1 dX6_loads_12 rfl rfl ?_
    refine r_ckA (fun h1 => ?_)
    refine r_iald (pc := 13) (f := m1 0) X 36 h1 zl_8 rfl dX6_loads_13 ?_
    refine r_ck1 (fun h2 => ?_)
    refine r_ck1 (fun h3 => ?_)
    refine r_icmp_ge (pc := 14) X h2 h3 dX6_loads_14 (tgt := 62) (by decide) (fun h4 => ?_) (fun h4 => ?_)
    · refine r_sub [2] rfl ?_
      exact hk m1
    · refine r_aload_n (pc := 17) X 0 dX6_loads_17 rfl rfl ?_
      refine r_get (pc := 18) (v := .ref (kB K + 37)) X 35 1 inX6 rfl rfl (by decide) tf_X6_13 rfl dX6_loads_18 ?_
      refine r_bipush (pc := 21) X 40 dX6_loads_21 (by decide) ?_
      refine r_iload_n (pc := 23) X 1 dX6_loads_23 rfl rfl ?_
      refine r_imul (pc := 24) X dX6_loads_24 ?_
      refine r_iload_n (pc := 25) X 3 dX6_loads_25 rfl rfl ?_
      refine r_iadd (pc := 26) X dX6_loads_26 ?_
      refine r_ckA (fun h5 => ?_)
      refine r_iald (pc := 27) (f := m1 1) X 37 h5 zl_320 rfl dX6_loads_27 ?_
      refine r_istore (pc := 28) (lv' := [(0, .ref (kB K + 35)), (1, vI x1), (2, vI x2), (3, vI x3), (4, vI (m1 1 ((40 * x1) + x3)))]) X [1, 2, 3, 4, 0] dX6_loads_28 (by decide) rfl ?_
      refine r_aload_n (pc := 30) X 0 dX6_loads_30 rfl rfl ?_
      refine r_iload (pc := 31) X 4 dX6_loads_31 rfl ?_
      refine r_callS (pc := 33) (As := [vI (m1 1 ((40 * x1) + x3))]) (rest := [.ref (kB K + 35)]) (W' := fun q33_6 => (Zw (kE K) lt b c ms rd m1 P)) (rv := fun q33_6 => some (vI q33_6)) X dX6_loads_33 rfl (fun a ha => c_X6_headOf N lt b c ms rd m1 P (m1 1 ((40 * x1) + x3)) K.1.2.1 K.2.2.1.1 (kE K) a ha) (fun a => Zw_d _ _ _ _ _ _ _ _) gd_X6_102 rfl (n := 1) (by decide) rfl (by decide) (by simp [z_cat, z_catR, z_catI, z_catL]) (fun q33_6 eq33_6 => ?_)
      show Rn K _ 0 0 _ 36 [(0, .ref (kB K + 35)), (1, vI x1), (2, vI x2), (3, vI x3), (4, vI (m1 1 ((40 * x1) + x3)))] [vI q33_6, .ref (kB K + 35)] (Zw (kE K) lt b c ms rd m1 P)
      refine r_iload_n (pc := 36) X 2 dX6_loads_36 rfl rfl ?_
      refine r_iload (pc := 37) X 4 dX6_loads_37 rfl ?_
      refine r_iconst (pc := 39) X 0 dX6_loads_39 (by decide) ?_
      refine r_callS (pc := 40) (As := [vI (m1 1 ((40 * x1) + x3)), vI 0]) (rest := [vI x2, vI q33_6, .ref (kB K + 35)]) (W' := fun q40_7 => (Zw (kE K) lt b c ms rd m1 P)) (rv := fun q40_7 => some (vI q40_7)) X dX6_loads_40 rfl (fun a ha => c_X6_partOf N lt b c ms rd m1 P (m1 1 ((40 * x1) + x3)) 0 K.1.2.1 K.2.2.1.1 (kE K) a ha) (fun a => Zw_d _ _ _ _ _ _ _ _) gd_X6_106 rfl (n := 2) (by decide) rfl (by decide) (by simp [z_cat, z_catR, z_catI, z_catL]) (fun q40_7 eq40_7 => ?_)
      show Rn K _ 0 0 _ 43 [(0, .ref (kB K + 35)), (1, vI x1), (2, vI x2), (3, vI x3), (4, vI (m1 1 ((40 * x1) + x3)))] [vI q40_7, vI x2, vI q33_6, .ref (kB K + 35)] (Zw (kE K) lt b c ms rd m1 P)
      refine r_iadd (pc := 43) X dX6_loads_43 ?_
      refine r_iload_n (pc := 44) X 2 dX6_loads_44 rfl rfl ?_
      refine r_iload (pc := 45) X 4 dX6_loads_45 rfl ?_
      refine r_iconst (pc := 47) X 1 dX6_loads_47 (by decide) ?_
      refine r_callS (pc := 48) (As := [vI (m1 1 ((40 * x1) + x3)), vI 1]) (rest := [vI x2, vI (x2 + q40_7), vI q33_6, .ref (kB K + 35)]) (W' := fun q48_8 => (Zw (kE K) lt b c ms rd m1 P)) (rv := fun q48_8 => some (vI q48_8)) X dX6_loads_48 rfl (fun a ha => c_X6_partOf N lt b c ms rd m1 P (m1 1 ((40 * x1) + x3)) 1 K.1.2.1 K.2.2.1.1 (kE K) a ha) (fun a => Zw_d _ _ _ _ _ _ _ _) gd_X6_106 rfl (n := 2) (by decide) rfl (by decide) (by simp [z_cat, z_catR, z_catI, z_catL]) (fun q48_8 eq48_8 => ?_)
      show Rn K _ 0 0 _ 51 [(0, .ref (kB K + 35)), (1, vI x1), (2, vI x2), (3, vI x3), (4, vI (m1 1 ((40 * x1) + x3)))] [vI q48_8, vI x2, vI (x2 + q40_7), vI q33_6, .ref (kB K + 35)] (Zw (kE K) lt b c ms rd m1 P)
      refine r_iadd (pc := 51) X dX6_loads_51 ?_
      refine r_callV (pc := 52) (q0 := 35) (ci := 6) (As := [vI q33_6, vI (x2 + q40_7), vI (x2 + q48_8)]) (rest := []) (W' := fun q52_9 => (Zw (kE K) lt b c ms rd q52_9.2 P)) (rv := fun q52_9 => some (vI q52_9.1)) X dX6_loads_52 rfl (fun a ha => c_X6_adds N lt b c ms rd m1 P q33_6 (x2 + q40_7) (x2 + q48_8) K.1.2.1 K.2.2.1.1 (kE K) a ha) (fun a => Zw_d _ _ _ _ _ _ _ _) gd_X6_110 rfl (n := 3) (by decide) rfl (by decide) rfl rfl rfl (Nat.zero_le _) (fun q52_9 eq52_9 => ?_)
      show Rn K _ 0 0 _ 55 [(0, .ref (kB K + 35)), (1, vI x1), (2, vI x2), (3, vI x3), (4, vI (m1 1 ((40 * x1) + x3)))] [vI q52_9.1] (Zw (kE K) lt b c ms rd q52_9.2 P)
      refine r_pop (pc := 55) X dX6_loads_55 rfl ?_
      refine r_iinc (pc := 56) (lv' := [(0, .ref (kB K + 35)), (1, vI x1), (2, vI x2), (3, vI (x3 + 1)), (4, vI (m1 1 ((40 * x1) + x3)))]) X 3 [1, 2, 3, 0, 4] dX6_loads_56 rfl (by decide) rfl ?_
      refine r_goto (pc := 59) X dX6_loads_59 (tgt := 7) (by decide) ?_
      refine r_sub [0, 1, 2, 3] rfl ?_
      exact ih (x3 + 1) q52_9.2
set_option maxRecDepth 100000 in
set_option maxHeartbeats 4000000 in
theorem t_X6_loads (N : Nat) (lt b c ms rd m : Bd) (P : PL) (x1 : Int) (K : KT) (X : Kok K cX6_loads yX6_loads.cls lw_g ({ frames := 2, cells := 0, slots := 0, locals := 45 } : Room) (some .int) 5) : Rn K (Q_X6_loads K lt b c ms rd m P) 0 0 (f_X6_loads N m x1) 0 [(0, .ref (kB K + 35)), (1, vI x1)] [] (Zw (kE K) lt b c ms rd m P) := by
  unfold f_X6_loads
  refine r_aload_n (pc := 0) X 0 dX6_loads_0 rfl rfl ?_
  refine r_get (pc := 1) (v := vI (m 10 0)) X 35 10 inX6 rfl rfl (by decide) tf_X6_94 rfl dX6_loads_1 ?_
  refine r_istore_n (pc := 4) (lv' := [(0, .ref (kB K + 35)), (1, vI x1), (2, vI (m 10 0))]) X [1, 2, 0] dX6_loads_4 rfl (by decide) rfl ?_
  refine r_iconst (pc := 5) X 0 dX6_loads_5 (by decide) ?_
  refine r_istore_n (pc := 6) (lv' := [(0, .ref (kB K + 35)), (1, vI x1), (2, vI (m 10 0)), (3, vI 0)]) X [1, 2, 3, 0] dX6_loads_6 rfl (by decide) rfl ?_
  refine t_X6_loads_L7 N lt b c ms rd m P  x1 (m 10 0) K X _ ?_ N 0 m
  intro m_7
  refine r_iload_n (pc := 62) X 0 dX6_loads_62 rfl rfl ?_
  exact r_iret (pc := 63) X rfl rfl (by decide) dX6_loads_63
theorem c_X6_loads (N : Nat) (lt b c ms rd m : Bd) (P : PL) (x1 : Int) (l : Launch) (D : va_G) (E : ET) (a : Int × Bd) (ha : f_X6_loads N m x1 = some a) : Ct l yX6_loads (Cond.code yX6_loads cX6_loads 5 (some .int) :: lw_g) ({ frames := 2, cells := 0, slots := 0, locals := 45 } : Room) D E [.ref (E.2.2.2 + 35), vI x1] (Zw E lt b c ms rd m P) (Zw E lt b c ms rd a.2 P) (some (vI a.1)) :=
  ct_of (av := fun E => [.ref (E.2.2.2 + 35), vI x1]) (W0 := fun E => Zw E lt b c ms rd m P) (W1 := fun E (a : Int × Bd) => Zw E lt b c ms rd a.2 P) (rw := fun E a => some (vI a.1)) (by decide) rfl (fun E => Zw_d E lt b c ms rd m P) (fun E => by simp [lg_sl, z_cat, z_catR, z_catI, z_catL]) (fun K X => r_lv (by simp [lv_args, z_cat, z_catR, z_catI, z_catL]) (t_X6_loads N lt b c ms rd m P x1 K X)) l D E a ha
abbrev Q_X6_parts (K : KT) (lt b c ms rd m : Bd) (P : PL) : (Int) → State → Prop := Qm K ({ frames := 0, cells := 0, slots := 0, locals := 0 } : Room) (fun a : Int => Zw (kE K) lt b c ms rd m P) (fun a => some (vI a))
set_option maxRecDepth 100000 in
set_option maxHeartbeats 4000000 in
theorem t_X6_parts (N : Nat) (lt b c ms rd m : Bd) (P : PL) (x0 : Int) (K : KT) (X : Kok K cX6_parts yX6_parts.cls lw_g ({ frames := 0, cells := 0, slots := 0, locals := 0 } : Room) (some .int) 1) : Rn K (Q_X6_parts K lt b c ms rd m P) 0 0 (f_X6_parts x0) 0 [(0, vI x0)] [] (Zw (kE K) lt b c ms rd m P) := by
  unfold f_X6_parts
  refine r_iload_n (pc := 0) X 0 dX6_parts_0 rfl rfl ?_
  refine r_iconst (pc := 1) X 4 dX6_parts_1 (by decide) ?_
  refine r_ck1 (fun h1 => ?_)
  refine r_icmp_ne (pc := 2) X h1 (by decide) dX6_parts_2 (tgt := 9) (by decide) (fun h2 => ?_) (fun h2 => ?_)
  · refine r_iload_n (pc := 9) X 0 dX6_parts_9 rfl rfl ?_
    refine r_iconst (pc := 10) X 5 dX6_parts_10 (by decide) ?_
    refine r_icmp_eq (pc := 11) X h1 (by decide) dX6_parts_11 (tgt := 20) (by decide) (fun h3 => ?_) (fun h3 => ?_)
    · refine r_iconst (pc := 20) X 2 dX6_parts_20 (by decide) ?_
      refine r_goto (pc := 21) X dX6_parts_21 (tgt := 25) (by decide) ?_
      exact r_iret (pc := 25) X rfl rfl (by decide) dX6_parts_25
    · refine r_iload_n (pc := 14) X 0 dX6_parts_14 rfl rfl ?_
      refine r_bipush (pc := 15) X 6 dX6_parts_15 (by decide) ?_
      refine r_icmp_ne (pc := 17) X h1 (by decide) dX6_parts_17 (tgt := 24) (by decide) (fun h4 => ?_) (fun h4 => ?_)
      · refine r_iconst (pc := 24) X 0 dX6_parts_24 (by decide) ?_
        exact r_iret (pc := 25) X rfl rfl (by decide) dX6_parts_25
      · refine r_iconst (pc := 20) X 2 dX6_parts_20 (by decide) ?_
        refine r_goto (pc := 21) X dX6_parts_21 (tgt := 25) (by decide) ?_
        exact r_iret (pc := 25) X rfl rfl (by decide) dX6_parts_25
  · refine r_iconst (pc := 5) X 1 dX6_parts_5 (by decide) ?_
    refine r_goto (pc := 6) X dX6_parts_6 (tgt := 25) (by decide) ?_
    exact r_iret (pc := 25) X rfl rfl (by decide) dX6_parts_25
theorem c_X6_parts (N : Nat) (lt b c ms rd m : Bd) (P : PL) (x0 : Int) (l : Launch) (D : va_G) (E : ET) (a : Int) (ha : f_X6_parts x0 = some a) : Ct l yX6_parts (Cond.code yX6_parts cX6_parts 1 (some .int) :: lw_g) ({ frames := 0, cells := 0, slots := 0, locals := 0 } : Room) D E [vI x0] (Zw E lt b c ms rd m P) (Zw E lt b c ms rd m P) (some (vI a)) :=
  ct_of (av := fun E => [vI x0]) (W0 := fun E => Zw E lt b c ms rd m P) (W1 := fun E (a : Int) => Zw E lt b c ms rd m P) (rw := fun E a => some (vI a)) (by decide) rfl (fun E => Zw_d E lt b c ms rd m P) (fun E => by simp [lg_sl, z_cat, z_catR, z_catI, z_catL]) (fun K X => r_lv (by simp [lv_args, z_cat, z_catR, z_catI, z_catL]) (t_X6_parts N lt b c ms rd m P x0 K X)) l D E a ha
abbrev Q_X6_meant (K : KT) (lt b c ms rd m : Bd) (P : PL) : (Int) → State → Prop := Qm K ({ frames := 1, cells := 0, slots := 0, locals := 21 } : Room) (fun a : Int => Zw (kE K) lt b c ms rd m P) (fun a => some (vI a))
set_option maxRecDepth 100000 in
set_option maxHeartbeats 4000000 in
theorem t_X6_meant_L2 (N : Nat) (lt b c ms rd m : Bd) (P : PL) (K : KT) (X : Kok K cX6_meant yX6_meant.cls lw_g ({ frames := 1, cells := 0, slots := 0, locals := 21 } : Room) (some .int) 3) (k : Int → Option (Int)) (hk : ∀ (x2 : Int), Rn K (Q_X6_meant K lt b c ms rd m P) 0 0 (k x2) 35 [(2, vI x2)] [] (Zw (kE K) lt b c ms rd m P)) : ∀ (n : Nat) (x2 : Int), Rn K (Q_X6_meant K lt b c ms rd m P) 0 0 (f_X6_meant_L2 m k n x2) 2 [(0, .ref (kB K + 35)), (2, vI x2)] [] (Zw (kE K) lt b c ms rd m P) := by
  intro n
  induction n with
  | zero =>
    intro x2
    rw [f_X6_meant_L2]
    exact r_none
  | succ n ih =>
    intro x2
    rw [f_X6_meant_L2]
    refine r_aload_n (pc := 2) X 0 dX6_meant_2 rfl rfl ?_
    refine r_get (pc := 3) (v := .ref (kB K + 42)) X 35 9 inX6 rfl rfl (by decide) tf_X6_28 rfl dX6_meant_3 ?_
    refine r_iload_n (pc := 6) X 1 dX6_meant_6 rfl rfl ?_
    refine r_ckA (fun h1 => ?_)
    refine r_iald (pc := 7) (f := m 9) X 42 h1 zl_3400 rfl dX6_meant_7 ?_
    refine r_callS (pc := 8) (As := [vI (m 9 x2)]) (rest := []) (W' := fun q8_2 => (Zw (kE K) lt b c ms rd m P)) (rv := fun q8_2 => some (vI q8_2)) X dX6_meant_8 rfl (fun a ha => c_X6_headOf N lt b c ms rd m P (m 9 x2) K.1.2.1 K.2.2.1.1 (kE K) a ha) (fun a => Zw_d _ _ _ _ _ _ _ _) gd_X6_102 rfl (n := 1) (by decide) rfl (by decide) (Nat.zero_le _) (fun q8_2 eq8_2 => ?_)
    show Rn K _ 0 0 _ 11 [(0, .ref (kB K + 35)), (2, vI x2)] [vI q8_2] (Zw (kE K) lt b c ms rd m P)
    refine r_bipush (pc := 11) X 7 dX6_meant_11 (by decide) ?_
    refine r_ck1 (fun h3 => ?_)
    refine r_icmp_ne (pc := 13) X h3 (by decide) dX6_meant_13 (tgt := 35) (by decide) (fun h4 => ?_) (fun h4 => ?_)
    · refine r_sub [1] rfl ?_
      exact hk x2
    · refine r_aload_n (pc := 16) X 0 dX6_meant_16 rfl rfl ?_
      refine r_get (pc := 17) (v := .ref (kB K + 53)) X 35 23 inX6 rfl rfl (by decide) tf_X6_61 rfl dX6_meant_17 ?_
      refine r_aload_n (pc := 20) X 0 dX6_meant_20 rfl rfl ?_
      refine r_get (pc := 21) (v := .ref (kB K + 42)) X 35 9 inX6 rfl rfl (by decide) tf_X6_28 rfl dX6_meant_21 ?_
      refine r_iload_n (pc := 24) X 1 dX6_meant_24 rfl rfl ?_
      refine r_iald (pc := 25) (f := m 9) X 42 h1 zl_3400 rfl dX6_meant_25 ?_
      refine r_iconst (pc := 26) X 0 dX6_meant_26 (by decide) ?_
      refine r_callS (pc := 27) (As := [vI (m 9 x2), vI 0]) (rest := [.ref (kB K + 53)]) (W' := fun q27_5 => (Zw (kE K) lt b c ms rd m P)) (rv := fun q27_5 => some (vI q27_5)) X dX6_meant_27 rfl (fun a ha => c_X6_partOf N lt b c ms rd m P (m 9 x2) 0 K.1.2.1 K.2.2.1.1 (kE K) a ha) (fun a => Zw_d _ _ _ _ _ _ _ _) gd_X6_106 rfl (n := 2) (by decide) rfl (by decide) (by simp [z_cat, z_catR, z_catI, z_catL]) (fun q27_5 eq27_5 => ?_)
      show Rn K _ 0 0 _ 30 [(0, .ref (kB K + 35)), (2, vI x2)] [vI q27_5, .ref (kB K + 53)] (Zw (kE K) lt b c ms rd m P)
      refine r_ckA (fun h6 => ?_)
      refine r_iald (pc := 30) (f := m 23) X 53 h6 zl_8 rfl dX6_meant_30 ?_
      refine r_istore_n (pc := 31) (lv' := [(0, .ref (kB K + 35)), (2, vI (m 23 q27_5))]) X [1, 0] dX6_meant_31 rfl (by decide) rfl ?_
      refine r_goto (pc := 32) X dX6_meant_32 (tgt := 2) (by decide) ?_
      exact ih (m 23 q27_5)
set_option maxRecDepth 100000 in
set_option maxHeartbeats 4000000 in
theorem t_X6_meant (N : Nat) (lt b c ms rd m : Bd) (P : PL) (x1 : Int) (K : KT) (X : Kok K cX6_meant yX6_meant.cls lw_g ({ frames := 1, cells := 0, slots := 0, locals := 21 } : Room) (some .int) 3) : Rn K (Q_X6_meant K lt b c ms rd m P) 0 0 (f_X6_meant N m x1) 0 [(0, .ref (kB K + 35)), (1, vI x1)] [] (Zw (kE K) lt b c ms rd m P) := by
  unfold f_X6_meant
  refine r_iload_n (pc := 0) X 1 dX6_meant_0 rfl rfl ?_
  refine r_istore_n (pc := 1) (lv' := [(0, .ref (kB K + 35)), (1, vI x1), (2, vI x1)]) X [1, 2, 0] dX6_meant_1 rfl (by decide) rfl ?_
  refine r_sub [0, 2] rfl ?_
  refine t_X6_meant_L2 N lt b c ms rd m P   K X _ ?_ N x1
  intro x2_2
  refine r_iload_n (pc := 35) X 0 dX6_meant_35 rfl rfl ?_
  exact r_iret (pc := 36) X rfl rfl (by decide) dX6_meant_36
theorem c_X6_meant (N : Nat) (lt b c ms rd m : Bd) (P : PL) (x1 : Int) (l : Launch) (D : va_G) (E : ET) (a : Int) (ha : f_X6_meant N m x1 = some a) : Ct l yX6_meant (Cond.code yX6_meant cX6_meant 3 (some .int) :: lw_g) ({ frames := 1, cells := 0, slots := 0, locals := 21 } : Room) D E [.ref (E.2.2.2 + 35), vI x1] (Zw E lt b c ms rd m P) (Zw E lt b c ms rd m P) (some (vI a)) :=
  ct_of (av := fun E => [.ref (E.2.2.2 + 35), vI x1]) (W0 := fun E => Zw E lt b c ms rd m P) (W1 := fun E (a : Int) => Zw E lt b c ms rd m P) (rw := fun E a => some (vI a)) (by decide) rfl (fun E => Zw_d E lt b c ms rd m P) (fun E => by simp [lg_sl, z_cat, z_catR, z_catI, z_catL]) (fun K X => r_lv (by simp [lv_args, z_cat, z_catR, z_catI, z_catL]) (t_X6_meant N lt b c ms rd m P x1 K X)) l D E a ha
abbrev Q_X6_reaches (K : KT) (lt b c ms rd m : Bd) (P : PL) : (Int × Bd) → State → Prop := Qm K ({ frames := 1, cells := 0, slots := 0, locals := 21 } : Room) (fun a : Int × Bd => Zw (kE K) lt b c ms rd a.2 P) (fun a => some (vI a.1))
set_option maxRecDepth 100000 in
set_option maxHeartbeats 4000000 in
theorem t_X6_reaches_L2 (N : Nat) (lt b c ms rd m : Bd) (P : PL) (x1 : Int) (K : KT) (X : Kok K cX6_reaches yX6_reaches.cls lw_g ({ frames := 1, cells := 0, slots := 0, locals := 21 } : Room) (some .int) 7) (k : Bd → Option (Int × Bd)) (hk : ∀ (m1 : Bd), Rn K (Q_X6_reaches K lt b c ms rd m P) 0 0 (k m1) 23 [(0, .ref (kB K + 35)), (1, vI x1)] [] (Zw (kE K) lt b c ms rd m1 P)) : ∀ (n : Nat) (x2 : Int) (m1 : Bd), Rn K (Q_X6_reaches K lt b c ms rd m P) 0 0 (f_X6_reaches_L2 x1 k n x2 m1) 2 [(0, .ref (kB K + 35)), (1, vI x1), (2, vI x2)] [] (Zw (kE K) lt b c ms rd m1 P) := by
  intro n
  induction n with
  | zero =>
    intro x2 m1
    rw [f_X6_reaches_L2]
    exact r_none
  | succ n ih =>
    intro x2 m1
    rw [f_X6_reaches_L2]
    refine r_iload_n (pc := 2) X 2 dX6_reaches_2 rfl rfl ?_
    refine r_aload_n (pc := 3) X 0 dX6_reaches_3 rfl rfl ?_
    refine r_get (pc := 4) (v := vI (m1 10 0)) X 35 10 inX6 rfl rfl (by decide) tf_X6_94 rfl dX6_reaches_4 ?_
    refine r_ck1 (fun h1 => ?_)
    refine r_ck1 (fun h2 => ?_)
    refine r_icmp_ge (pc := 7) X h1 h2 dX6_reaches_7 (tgt := 23) (by decide) (fun h3 => ?_) (fun h3 => ?_)
    · refine r_sub [0, 1] rfl ?_
      exact hk m1
    · refine r_aload_n (pc := 10) X 0 dX6_reaches_10 rfl rfl ?_
      refine r_get (pc := 11) (v := .ref (kB K + 44)) X 35 12 inX6 rfl rfl (by decide) tf_X6_34 rfl dX6_reaches_11 ?_
      refine r_iload_n (pc := 14) X 2 dX6_reaches_14 rfl rfl ?_
      refine r_iconst (pc := 15) X (-1) dX6_reaches_15 (by decide) ?_
      refine r_ckA (fun h4 => ?_)
      refine r_iast (pc := 16) (f := m1 12) (ws' := (Zw (kE K) lt b c ms rd (bS m1 12 (aS (m1 12) x2 (-1))) P)) X 44 h4 zl_3400 rfl rfl dX6_reaches_16 ?_
      refine r_iinc (pc := 17) (lv' := [(0, .ref (kB K + 35)), (1, vI x1), (2, vI (x2 + 1))]) X 2 [1, 2, 0] dX6_reaches_17 rfl (by decide) rfl ?_
      refine r_goto (pc := 20) X dX6_reaches_20 (tgt := 2) (by decide) ?_
      exact ih (x2 + 1) (bS m1 12 (aS (m1 12) x2 (-1)))
set_option maxRecDepth 100000 in
set_option maxHeartbeats 4000000 in
theorem t_X6_reaches_L62 (N : Nat) (lt b c ms rd m : Bd) (P : PL) (x3 x4 : Int) (K : KT) (X : Kok K cX6_reaches yX6_reaches.cls lw_g ({ frames := 1, cells := 0, slots := 0, locals := 21 } : Room) (some .int) 7) (k : Int → Bd → Option (Int × Bd)) (hk : ∀ (x2 : Int) (m1 : Bd), Rn K (Q_X6_reaches K lt b c ms rd m P) 0 0 (k x2 m1) 119 [(0, .ref (kB K + 35)), (2, vI x2), (3, vI x3)] [] (Zw (kE K) lt b c ms rd m1 P)) : ∀ (n : Nat) (x2 : Int) (x5 : Int) (m1 : Bd), Rn K (Q_X6_reaches K lt b c ms rd m P) 0 0 (f_X6_reaches_L62 x3 x4 k n x2 x5 m1) 62 [(0, .ref (kB K + 35)), (2, vI x2), (3, vI x3), (4, vI x4), (5, vI x5)] [] (Zw (kE K) lt b c ms rd m1 P) := by
  intro n
  induction n with
  | zero =>
    intro x2 x5 m1
    rw [f_X6_reaches_L62]
    exact r_none
  | succ n ih =>
    intro x2 x5 m1
    rw [f_X6_reaches_L62]
    refine r_iload (pc := 62) X 4 dX6_reaches_62 rfl ?_
    refine r_iload (pc := 64) X 3 dX6_reaches_64 rfl ?_
    refine r_callS (pc := 66) (As := [vI x4]) (rest := [vI x5]) (W' := fun q66_11 => (Zw (kE K) lt b c ms rd m1 P)) (rv := fun q66_11 => some (vI q66_11)) X dX6_reaches_66 rfl (fun a ha => c_X6_headOf N lt b c ms rd m1 P x4 K.1.2.1 K.2.2.1.1 (kE K) a ha) (fun a => Zw_d _ _ _ _ _ _ _ _) gd_X6_102 rfl (n := 1) (by decide) rfl (by decide) (by simp [z_cat, z_catR, z_catI, z_catL]) (fun q66_11 eq66_11 => ?_)
    show Rn K _ 0 0 _ 69 [(0, .ref (kB K + 35)), (2, vI x2), (3, vI x3), (4, vI x4), (5, vI x5)] [vI q66_11, vI x5] (Zw (kE K) lt b c ms rd m1 P)
    refine r_callS (pc := 69) (As := [vI q66_11]) (rest := [vI x5]) (W' := fun q69_12 => (Zw (kE K) lt b c ms rd m1 P)) (rv := fun q69_12 => some (vI q69_12)) X dX6_reaches_69 rfl (fun a ha => c_X6_parts N lt b c ms rd m1 P q66_11 K.1.2.1 K.2.2.1.1 (kE K) a ha) (fun a => Zw_d _ _ _ _ _ _ _ _) gd_X6_113 rfl (n := 1) (by decide) rfl (by decide) (by simp [z_cat, z_catR, z_catI, z_catL]) (fun q69_12 eq69_12 => ?_)
    show Rn K _ 0 0 _ 72 [(0, .ref (kB K + 35)), (2, vI x2), (3, vI x3), (4, vI x4), (5, vI x5)] [vI q69_12, vI x5] (Zw (kE K) lt b c ms rd m1 P)
    refine r_ck1 (fun h13 => ?_)
    refine r_ck1 (fun h14 => ?_)
    refine r_icmp_ge (pc := 72) X h13 h14 dX6_reaches_72 (tgt := 119) (by decide) (fun h15 => ?_) (fun h15 => ?_)
    · refine r_sub [0, 1, 2] rfl ?_
      exact hk x2 m1
    · refine r_iload (pc := 75) X 3 dX6_reaches_75 rfl ?_
      refine r_iload (pc := 77) X 4 dX6_reaches_77 rfl ?_
      refine r_callS (pc := 79) (As := [vI x4, vI x5]) (rest := []) (W' := fun q79_16 => (Zw (kE K) lt b c ms rd m1 P)) (rv := fun q79_16 => some (vI q79_16)) X dX6_reaches_79 rfl (fun a ha => c_X6_partOf N lt b c ms rd m1 P x4 x5 K.1.2.1 K.2.2.1.1 (kE K) a ha) (fun a => Zw_d _ _ _ _ _ _ _ _) gd_X6_106 rfl (n := 2) (by decide) rfl (by decide) (Nat.zero_le _) (fun q79_16 eq79_16 => ?_)
      show Rn K _ 0 0 _ 82 [(0, .ref (kB K + 35)), (2, vI x2), (3, vI x3), (4, vI x4), (5, vI x5)] [vI q79_16] (Zw (kE K) lt b c ms rd m1 P)
      refine r_istore (pc := 82) (lv' := [(0, .ref (kB K + 35)), (2, vI x2), (3, vI x3), (4, vI x4), (5, vI x5), (6, vI q79_16)]) X [1, 2, 3, 4, 5, 0] dX6_reaches_82 (by decide) rfl ?_
      refine r_aload_n (pc := 84) X 0 dX6_reaches_84 rfl rfl ?_
      refine r_get (pc := 85) (v := .ref (kB K + 44)) X 35 12 inX6 rfl rfl (by decide) tf_X6_34 rfl dX6_reaches_85 ?_
      refine r_iload (pc := 88) X 5 dX6_reaches_88 rfl ?_
      refine r_ckA (fun h17 => ?_)
      refine r_iald (pc := 90) (f := m1 12) X 44 h17 zl_3400 rfl dX6_reaches_90 ?_
      refine r_ck1 (fun h18 => ?_)
      refine r_ifge (pc := 91) X h18 dX6_reaches_91 (tgt := 113) (by decide) (fun h19 => ?_) (fun h19 => ?_)
      · refine r_iinc (pc := 113) (lv' := [(0, .ref (kB K + 35)), (2, vI x2), (3, vI x3), (4, vI x4), (5, vI (x5 + 1)), (6, vI q79_16)]) X 4 [1, 2, 3, 4, 0, 5] dX6_reaches_113 rfl (by decide) rfl ?_
        refine r_goto (pc := 116) X dX6_reaches_116 (tgt := 62) (by decide) ?_
        refine r_sub [0, 1, 2, 3, 4] rfl ?_
        exact ih x2 (x5 + 1) m1
      · refine r_aload_n (pc := 94) X 0 dX6_reaches_94 rfl rfl ?_
        refine r_get (pc := 95) (v := .ref (kB K + 44)) X 35 12 inX6 rfl rfl (by decide) tf_X6_34 rfl dX6_reaches_95 ?_
        refine r_iload (pc := 98) X 5 dX6_reaches_98 rfl ?_
        refine r_iload_n (pc := 100) X 1 dX6_reaches_100 rfl rfl ?_
        refine r_iast (pc := 101) (f := m1 12) (ws' := (Zw (kE K) lt b c ms rd (bS m1 12 (aS (m1 12) q79_16 x2)) P)) X 44 h17 zl_3400 rfl rfl dX6_reaches_101 ?_
        refine r_aload_n (pc := 102) X 0 dX6_reaches_102 rfl rfl ?_
        refine r_get (pc := 103) (v := .ref (kB K + 43)) X 35 11 inX6 rfl rfl (by decide) tf_X6_31 rfl dX6_reaches_103 ?_
        refine r_iload_n (pc := 106) X 1 dX6_reaches_106 rfl rfl ?_
        refine r_iload (pc := 107) X 5 dX6_reaches_107 rfl ?_
        refine r_ckA (fun h20 => ?_)
        refine r_iast (pc := 109) (f := m1 11) (ws' := (Zw (kE K) lt b c ms rd (bS (bS m1 11 (aS (m1 11) x2 q79_16)) 12 (aS (m1 12) q79_16 x2)) P)) X 43 h20 zl_3400 rfl rfl dX6_reaches_109 ?_
        refine r_iinc (pc := 110) (lv' := [(0, .ref (kB K + 35)), (2, vI (x2 + 1)), (3, vI x3), (4, vI x4), (5, vI x5), (6, vI q79_16)]) X 1 [1, 0, 2, 3, 4, 5] dX6_reaches_110 rfl (by decide) rfl ?_
        refine r_iinc (pc := 113) (lv' := [(0, .ref (kB K + 35)), (2, vI (x2 + 1)), (3, vI x3), (4, vI x4), (5, vI (x5 + 1)), (6, vI q79_16)]) X 4 [1, 2, 3, 4, 0, 5] dX6_reaches_113 rfl (by decide) rfl ?_
        refine r_goto (pc := 116) X dX6_reaches_116 (tgt := 62) (by decide) ?_
        refine r_sub [0, 1, 2, 3, 4] rfl ?_
        exact ih (x2 + 1) (x5 + 1) (bS (bS m1 11 (aS (m1 11) x2 q79_16)) 12 (aS (m1 12) q79_16 x2))
set_option maxRecDepth 100000 in
set_option maxHeartbeats 4000000 in
theorem t_X6_reaches_L41 (N : Nat) (lt b c ms rd m : Bd) (P : PL) (K : KT) (X : Kok K cX6_reaches yX6_reaches.cls lw_g ({ frames := 1, cells := 0, slots := 0, locals := 21 } : Room) (some .int) 7) (k : Int → Bd → Option (Int × Bd)) (hk : ∀ (x2 : Int) (m1 : Bd), Rn K (Q_X6_reaches K lt b c ms rd m P) 0 0 (k x2 m1) 125 [(2, vI x2)] [] (Zw (kE K) lt b c ms rd m1 P)) : ∀ (n : Nat) (x2 : Int) (x3 : Int) (m1 : Bd), Rn K (Q_X6_reaches K lt b c ms rd m P) 0 0 (f_X6_reaches_L41 N k n x2 x3 m1) 41 [(0, .ref (kB K + 35)), (2, vI x2), (3, vI x3)] [] (Zw (kE K) lt b c ms rd m1 P) := by
  intro n
  induction n with
  | zero =>
    intro x2 x3 m1
    rw [f_X6_reaches_L41]
    exact r_none
  | succ n ih =>
    intro x2 x3 m1
    rw [f_X6_reaches_L41]
    refine r_iload_n (pc := 41) X 2 dX6_reaches_41 rfl rfl ?_
    refine r_iload_n (pc := 42) X 1 dX6_reaches_42 rfl rfl ?_
    refine r_ck1 (fun h6 => ?_)
    refine r_ck1 (fun h7 => ?_)
    refine r_icmp_ge (pc := 43) X h6 h7 dX6_reaches_43 (tgt := 125) (by decide) (fun h8 => ?_) (fun h8 => ?_)
    · refine r_sub [1] rfl ?_
      exact hk x2 m1
    · refine r_aload_n (pc := 46) X 0 dX6_reaches_46 rfl rfl ?_
      refine r_get (pc := 47) (v := .ref (kB K + 42)) X 35 9 inX6 rfl rfl (by decide) tf_X6_28 rfl dX6_reaches_47 ?_
      refine r_aload_n (pc := 50) X 0 dX6_reaches_50 rfl rfl ?_
      refine r_get (pc := 51) (v := .ref (kB K + 43)) X 35 11 inX6 rfl rfl (by decide) tf_X6_31 rfl dX6_reaches_51 ?_
      refine r_iload_n (pc := 54) X 2 dX6_reaches_54 rfl rfl ?_
      refine r_ckA (fun h9 => ?_)
      refine r_iald (pc := 55) (f := m1 11) X 43 h9 zl_3400 rfl dX6_reaches_55 ?_
      refine r_ckA (fun h10 => ?_)
      refine r_iald (pc := 56) (f := m1 9) X 42 h10 zl_3400 rfl dX6_reaches_56 ?_
      refine r_istore (pc := 57) (lv' := [(0, .ref (kB K + 35)), (2, vI x2), (3, vI x3), (4, vI (m1 9 (m1 11 x3)))]) X [1, 2, 3, 0] dX6_reaches_57 (by decide) rfl ?_
      refine r_iconst (pc := 59) X 0 dX6_reaches_59 (by decide) ?_
      refine r_istore (pc := 60) (lv' := [(0, .ref (kB K + 35)), (2, vI x2), (3, vI x3), (4, vI (m1 9 (m1 11 x3))), (5, vI 0)]) X [1, 2, 3, 4, 0] dX6_reaches_60 (by decide) rfl ?_
      refine t_X6_reaches_L62 N lt b c ms rd m P  x3 (m1 9 (m1 11 x3)) K X _ ?_ N x2 0 m1
      intro x2_62 m_62
      refine r_iinc (pc := 119) (lv' := [(0, .ref (kB K + 35)), (2, vI x2_62), (3, vI (x3 + 1))]) X 2 [1, 2, 0] dX6_reaches_119 rfl (by decide) rfl ?_
      refine r_goto (pc := 122) X dX6_reaches_122 (tgt := 41) (by decide) ?_
      exact ih x2_62 (x3 + 1) m_62
set_option maxRecDepth 100000 in
set_option maxHeartbeats 4000000 in
theorem t_X6_reaches (N : Nat) (lt b c ms rd m : Bd) (P : PL) (x1 : Int) (K : KT) (X : Kok K cX6_reaches yX6_reaches.cls lw_g ({ frames := 1, cells := 0, slots := 0, locals := 21 } : Room) (some .int) 7) : Rn K (Q_X6_reaches K lt b c ms rd m P) 0 0 (f_X6_reaches N m x1) 0 [(0, .ref (kB K + 35)), (1, vI x1)] [] (Zw (kE K) lt b c ms rd m P) := by
  unfold f_X6_reaches
  refine r_iconst (pc := 0) X 0 dX6_reaches_0 (by decide) ?_
  refine r_istore_n (pc := 1) (lv' := [(0, .ref (kB K + 35)), (1, vI x1), (2, vI 0)]) X [1, 2, 0] dX6_reaches_1 rfl (by decide) rfl ?_
  refine t_X6_reaches_L2 N lt b c ms rd m P  x1 K X _ ?_ N 0 m
  intro m_2
  refine r_aload_n (pc := 23) X 0 dX6_reaches_23 rfl rfl ?_
  refine r_get (pc := 24) (v := .ref (kB K + 43)) X 35 11 inX6 rfl rfl (by decide) tf_X6_31 rfl dX6_reaches_24 ?_
  refine r_iconst (pc := 27) X 0 dX6_reaches_27 (by decide) ?_
  refine r_iload_n (pc := 28) X 1 dX6_reaches_28 rfl rfl ?_
  refine r_iast (pc := 29) (f := m_2 11) (ws' := (Zw (kE K) lt b c ms rd (bS m_2 11 (aS (m_2 11) 0 x1)) P)) X 43 (by decide) zl_3400 rfl rfl dX6_reaches_29 ?_
  refine r_aload_n (pc := 30) X 0 dX6_reaches_30 rfl rfl ?_
  refine r_get (pc := 31) (v := .ref (kB K + 44)) X 35 12 inX6 rfl rfl (by decide) tf_X6_34 rfl dX6_reaches_31 ?_
  refine r_iload_n (pc := 34) X 1 dX6_reaches_34 rfl rfl ?_
  refine r_iconst (pc := 35) X 0 dX6_reaches_35 (by decide) ?_
  refine r_ckA (fun h5 => ?_)
  refine r_iast (pc := 36) (f := m_2 12) (ws' := (Zw (kE K) lt b c ms rd (bS (bS m_2 11 (aS (m_2 11) 0 x1)) 12 (aS (m_2 12) x1 0)) P)) X 44 h5 zl_3400 rfl rfl dX6_reaches_36 ?_
  refine r_iconst (pc := 37) X 1 dX6_reaches_37 (by decide) ?_
  refine r_istore_n (pc := 38) (lv' := [(0, .ref (kB K + 35)), (1, vI x1), (2, vI 1)]) X [1, 2, 0] dX6_reaches_38 rfl (by decide) rfl ?_
  refine r_iconst (pc := 39) X 0 dX6_reaches_39 (by decide) ?_
  refine r_istore_n (pc := 40) (lv' := [(0, .ref (kB K + 35)), (1, vI x1), (2, vI 1), (3, vI 0)]) X [1, 2, 3, 0] dX6_reaches_40 rfl (by decide) rfl ?_
  refine r_sub [0, 2, 3] rfl ?_
  refine t_X6_reaches_L41 N lt b c ms rd m P   K X _ ?_ N 1 0 (bS (bS m_2 11 (aS (m_2 11) 0 x1)) 12 (aS (m_2 12) x1 0))
  intro x2_41 m_41
  refine r_iload_n (pc := 125) X 0 dX6_reaches_125 rfl rfl ?_
  exact r_iret (pc := 126) X rfl rfl (by decide) dX6_reaches_126
theorem c_X6_reaches (N : Nat) (lt b c ms rd m : Bd) (P : PL) (x1 : Int) (l : Launch) (D : va_G) (E : ET) (a : Int × Bd) (ha : f_X6_reaches N m x1 = some a) : Ct l yX6_reaches (Cond.code yX6_reaches cX6_reaches 7 (some .int) :: lw_g) ({ frames := 1, cells := 0, slots := 0, locals := 21 } : Room) D E [.ref (E.2.2.2 + 35), vI x1] (Zw E lt b c ms rd m P) (Zw E lt b c ms rd a.2 P) (some (vI a.1)) :=
  ct_of (av := fun E => [.ref (E.2.2.2 + 35), vI x1]) (W0 := fun E => Zw E lt b c ms rd m P) (W1 := fun E (a : Int × Bd) => Zw E lt b c ms rd a.2 P) (rw := fun E a => some (vI a.1)) (by decide) rfl (fun E => Zw_d E lt b c ms rd m P) (fun E => by simp [lg_sl, z_cat, z_catR, z_catI, z_catL]) (fun K X => r_lv (by simp [lv_args, z_cat, z_catR, z_catI, z_catL]) (t_X6_reaches N lt b c ms rd m P x1 K X)) l D E a ha
abbrev Q_X6_classOf (K : KT) (lt b c ms rd m : Bd) (P : PL) : (Int) → State → Prop := Qm K ({ frames := 1, cells := 0, slots := 0, locals := 21 } : Room) (fun a : Int => Zw (kE K) lt b c ms rd m P) (fun a => some (vI a))
set_option maxRecDepth 100000 in
set_option maxHeartbeats 4000000 in
theorem t_X6_classOf (N : Nat) (lt b c ms rd m : Bd) (P : PL) (x1 x2 : Int) (K : KT) (X : Kok K cX6_classOf yX6_classOf.cls lw_g ({ frames := 1, cells := 0, slots := 0, locals := 21 } : Room) (some .int) 3) : Rn K (Q_X6_classOf K lt b c ms rd m P) 0 0 (f_X6_classOf m x1 x2) 0 [(0, .ref (kB K + 35)), (1, vI x1), (2, vI x2)] [] (Zw (kE K) lt b c ms rd m P) := by
  unfold f_X6_classOf
  refine r_aload_n (pc := 0) X 0 dX6_classOf_0 rfl rfl ?_
  refine r_get (pc := 1) (v := .ref (kB K + 45)) X 35 13 inX6 rfl rfl (by decide) tf_X6_37 rfl dX6_classOf_1 ?_
  refine r_aload_n (pc := 4) X 0 dX6_classOf_4 rfl rfl ?_
  refine r_get (pc := 5) (v := .ref (kB K + 44)) X 35 12 inX6 rfl rfl (by decide) tf_X6_34 rfl dX6_classOf_5 ?_
  refine r_aload_n (pc := 8) X 0 dX6_classOf_8 rfl rfl ?_
  refine r_get (pc := 9) (v := .ref (kB K + 42)) X 35 9 inX6 rfl rfl (by decide) tf_X6_28 rfl dX6_classOf_9 ?_
  refine r_aload_n (pc := 12) X 0 dX6_classOf_12 rfl rfl ?_
  refine r_get (pc := 13) (v := .ref (kB K + 43)) X 35 11 inX6 rfl rfl (by decide) tf_X6_31 rfl dX6_classOf_13 ?_
  refine r_iload_n (pc := 16) X 1 dX6_classOf_16 rfl rfl ?_
  refine r_ckA (fun h1 => ?_)
  refine r_iald (pc := 17) (f := m 11) X 43 h1 zl_3400 rfl dX6_classOf_17 ?_
  refine r_ckA (fun h2 => ?_)
  refine r_iald (pc := 18) (f := m 9) X 42 h2 zl_3400 rfl dX6_classOf_18 ?_
  refine r_iload_n (pc := 19) X 2 dX6_classOf_19 rfl rfl ?_
  refine r_callS (pc := 20) (As := [vI (m 9 (m 11 x1)), vI x2]) (rest := [.ref (kB K + 44), .ref (kB K + 45)]) (W' := fun q20_3 => (Zw (kE K) lt b c ms rd m P)) (rv := fun q20_3 => some (vI q20_3)) X dX6_classOf_20 rfl (fun a ha => c_X6_partOf N lt b c ms rd m P (m 9 (m 11 x1)) x2 K.1.2.1 K.2.2.1.1 (kE K) a ha) (fun a => Zw_d _ _ _ _ _ _ _ _) gd_X6_106 rfl (n := 2) (by decide) rfl (by decide) (by simp [z_cat, z_catR, z_catI, z_catL]) (fun q20_3 eq20_3 => ?_)
  show Rn K _ 0 0 _ 23 [(0, .ref (kB K + 35)), (1, vI x1), (2, vI x2)] [vI q20_3, .ref (kB K + 44), .ref (kB K + 45)] (Zw (kE K) lt b c ms rd m P)
  refine r_ckA (fun h4 => ?_)
  refine r_iald (pc := 23) (f := m 12) X 44 h4 zl_3400 rfl dX6_classOf_23 ?_
  refine r_ckA (fun h5 => ?_)
  refine r_iald (pc := 24) (f := m 13) X 45 h5 zl_3400 rfl dX6_classOf_24 ?_
  exact r_iret (pc := 25) X rfl rfl (by decide) dX6_classOf_25
theorem c_X6_classOf (N : Nat) (lt b c ms rd m : Bd) (P : PL) (x1 x2 : Int) (l : Launch) (D : va_G) (E : ET) (a : Int) (ha : f_X6_classOf m x1 x2 = some a) : Ct l yX6_classOf (Cond.code yX6_classOf cX6_classOf 3 (some .int) :: lw_g) ({ frames := 1, cells := 0, slots := 0, locals := 21 } : Room) D E [.ref (E.2.2.2 + 35), vI x1, vI x2] (Zw E lt b c ms rd m P) (Zw E lt b c ms rd m P) (some (vI a)) :=
  ct_of (av := fun E => [.ref (E.2.2.2 + 35), vI x1, vI x2]) (W0 := fun E => Zw E lt b c ms rd m P) (W1 := fun E (a : Int) => Zw E lt b c ms rd m P) (rw := fun E a => some (vI a)) (by decide) rfl (fun E => Zw_d E lt b c ms rd m P) (fun E => by simp [lg_sl, z_cat, z_catR, z_catI, z_catL]) (fun K X => r_lv (by simp [lv_args, z_cat, z_catR, z_catI, z_catL]) (t_X6_classOf N lt b c ms rd m P x1 x2 K X)) l D E a ha
abbrev Q_X6_alikeSoFar (K : KT) (lt b c ms rd m : Bd) (P : PL) : (Int) → State → Prop := Qm K ({ frames := 2, cells := 0, slots := 0, locals := 43 } : Room) (fun a : Int => Zw (kE K) lt b c ms rd m P) (fun a => some (vI a))
set_option maxRecDepth 100000 in
set_option maxHeartbeats 4000000 in
theorem t_X6_alikeSoFar (N : Nat) (lt b c ms rd m : Bd) (P : PL) (x1 x2 : Int) (K : KT) (X : Kok K cX6_alikeSoFar yX6_alikeSoFar.cls lw_g ({ frames := 2, cells := 0, slots := 0, locals := 43 } : Room) (some .boolean) 4) : Rn K (Q_X6_alikeSoFar K lt b c ms rd m P) 0 0 (f_X6_alikeSoFar m x1 x2) 0 [(0, .ref (kB K + 35)), (1, vI x1), (2, vI x2)] [] (Zw (kE K) lt b c ms rd m P) := by
  unfold f_X6_alikeSoFar
  refine r_aload_n (pc := 0) X 0 dX6_alikeSoFar_0 rfl rfl ?_
  refine r_get (pc := 1) (v := .ref (kB K + 42)) X 35 9 inX6 rfl rfl (by decide) tf_X6_28 rfl dX6_alikeSoFar_1 ?_
  refine r_aload_n (pc := 4) X 0 dX6_alikeSoFar_4 rfl rfl ?_
  refine r_get (pc := 5) (v := .ref (kB K + 43)) X 35 11 inX6 rfl rfl (by decide) tf_X6_31 rfl dX6_alikeSoFar_5 ?_
  refine r_iload_n (pc := 8) X 1 dX6_alikeSoFar_8 rfl rfl ?_
  refine r_ckA (fun h1 => ?_)
  refine r_iald (pc := 9) (f := m 11) X 43 h1 zl_3400 rfl dX6_alikeSoFar_9 ?_
  refine r_ckA (fun h2 => ?_)
  refine r_iald (pc := 10) (f := m 9) X 42 h2 zl_3400 rfl dX6_alikeSoFar_10 ?_
  refine r_callS (pc := 11) (As := [vI (m 9 (m 11 x1))]) (rest := []) (W' := fun q11_3 => (Zw (kE K) lt b c ms rd m P)) (rv := fun q11_3 => some (vI q11_3)) X dX6_alikeSoFar_11 rfl (fun a ha => c_X6_headOf N lt b c ms rd m P (m 9 (m 11 x1)) K.1.2.1 K.2.2.1.1 (kE K) a ha) (fun a => Zw_d _ _ _ _ _ _ _ _) gd_X6_102 rfl (n := 1) (by decide) rfl (by decide) (Nat.zero_le _) (fun q11_3 eq11_3 => ?_)
  show Rn K _ 0 0 _ 14 [(0, .ref (kB K + 35)), (1, vI x1), (2, vI x2)] [vI q11_3] (Zw (kE K) lt b c ms rd m P)
  refine r_callS (pc := 14) (As := [vI q11_3]) (rest := []) (W' := fun q14_4 => (Zw (kE K) lt b c ms rd m P)) (rv := fun q14_4 => some (vI q14_4)) X dX6_alikeSoFar_14 rfl (fun a ha => c_X6_parts N lt b c ms rd m P q11_3 K.1.2.1 K.2.2.1.1 (kE K) a ha) (fun a => Zw_d _ _ _ _ _ _ _ _) gd_X6_113 rfl (n := 1) (by decide) rfl (by decide) (Nat.zero_le _) (fun q14_4 eq14_4 => ?_)
  show Rn K _ 0 0 _ 17 [(0, .ref (kB K + 35)), (1, vI x1), (2, vI x2)] [vI q14_4] (Zw (kE K) lt b c ms rd m P)
  refine r_istore_n (pc := 17) (lv' := [(0, .ref (kB K + 35)), (1, vI x1), (2, vI x2), (3, vI q14_4)]) X [1, 2, 3, 0] dX6_alikeSoFar_17 rfl (by decide) rfl ?_
  refine r_aload_n (pc := 18) X 0 dX6_alikeSoFar_18 rfl rfl ?_
  refine r_get (pc := 19) (v := .ref (kB K + 45)) X 35 13 inX6 rfl rfl (by decide) tf_X6_37 rfl dX6_alikeSoFar_19 ?_
  refine r_iload_n (pc := 22) X 1 dX6_alikeSoFar_22 rfl rfl ?_
  refine r_iald (pc := 23) (f := m 13) X 45 h1 zl_3400 rfl dX6_alikeSoFar_23 ?_
  refine r_aload_n (pc := 24) X 0 dX6_alikeSoFar_24 rfl rfl ?_
  refine r_get (pc := 25) (v := .ref (kB K + 45)) X 35 13 inX6 rfl rfl (by decide) tf_X6_37 rfl dX6_alikeSoFar_25 ?_
  refine r_iload_n (pc := 28) X 2 dX6_alikeSoFar_28 rfl rfl ?_
  refine r_ckA (fun h5 => ?_)
  refine r_iald (pc := 29) (f := m 13) X 45 h5 zl_3400 rfl dX6_alikeSoFar_29 ?_
  refine r_ck1 (fun h6 => ?_)
  refine r_ck1 (fun h7 => ?_)
  refine r_icmp_ne (pc := 30) X h6 h7 dX6_alikeSoFar_30 (tgt := 77) (by decide) (fun h8 => ?_) (fun h8 => ?_)
  · refine r_iconst (pc := 77) X 0 dX6_alikeSoFar_77 (by decide) ?_
    exact r_zret (pc := 78) X (by decide) rfl rfl (by decide) dX6_alikeSoFar_78
  · refine r_iload_n (pc := 33) X 3 dX6_alikeSoFar_33 rfl rfl ?_
    refine r_iconst (pc := 34) X 1 dX6_alikeSoFar_34 (by decide) ?_
    refine r_jn (J := fun j53 => Rn K (Q_X6_alikeSoFar K lt b c ms rd m P) 0 0 j53 53 [(0, .ref (kB K + 35)), (1, vI x1), (2, vI x2), (3, vI q14_4)] [] (Zw (kE K) lt b c ms rd m P)) ?_ (fun j53 hj53 => ?_)
    · skip
      refine r_iload_n (pc := 53) X 3 dX6_alikeSoFar_53 rfl rfl ?_
      refine r_iconst (pc := 54) X 2 dX6_alikeSoFar_54 (by decide) ?_
      refine r_ck1 (fun h9 => ?_)
      refine r_icmp_lt (pc := 55) X h9 (by decide) dX6_alikeSoFar_55 (tgt := 73) (by decide) (fun h10 => ?_) (fun h10 => ?_)
      · refine r_iconst (pc := 73) X 1 dX6_alikeSoFar_73 (by decide) ?_
        refine r_goto (pc := 74) X dX6_alikeSoFar_74 (tgt := 78) (by decide) ?_
        exact r_zret (pc := 78) X (by decide) rfl rfl (by decide) dX6_alikeSoFar_78
      · refine r_aload_n (pc := 58) X 0 dX6_alikeSoFar_58 rfl rfl ?_
        refine r_iload_n (pc := 59) X 1 dX6_alikeSoFar_59 rfl rfl ?_
        refine r_iconst (pc := 60) X 1 dX6_alikeSoFar_60 (by decide) ?_
        refine r_callV (pc := 61) (q0 := 35) (ci := 6) (As := [vI x1, vI 1]) (rest := []) (W' := fun q61_11 => (Zw (kE K) lt b c ms rd m P)) (rv := fun q61_11 => some (vI q61_11)) X dX6_alikeSoFar_61 rfl (fun a ha => c_X6_classOf N lt b c ms rd m P x1 1 K.1.2.1 K.2.2.1.1 (kE K) a ha) (fun a => Zw_d _ _ _ _ _ _ _ _) gd_X6_116 rfl (n := 2) (by decide) rfl (by decide) rfl rfl rfl (Nat.zero_le _) (fun q61_11 eq61_11 => ?_)
        show Rn K _ 0 0 _ 64 [(0, .ref (kB K + 35)), (1, vI x1), (2, vI x2), (3, vI q14_4)] [vI q61_11] (Zw (kE K) lt b c ms rd m P)
        refine r_aload_n (pc := 64) X 0 dX6_alikeSoFar_64 rfl rfl ?_
        refine r_iload_n (pc := 65) X 2 dX6_alikeSoFar_65 rfl rfl ?_
        refine r_iconst (pc := 66) X 1 dX6_alikeSoFar_66 (by decide) ?_
        refine r_callV (pc := 67) (q0 := 35) (ci := 6) (As := [vI x2, vI 1]) (rest := [vI q61_11]) (W' := fun q67_12 => (Zw (kE K) lt b c ms rd m P)) (rv := fun q67_12 => some (vI q67_12)) X dX6_alikeSoFar_67 rfl (fun a ha => c_X6_classOf N lt b c ms rd m P x2 1 K.1.2.1 K.2.2.1.1 (kE K) a ha) (fun a => Zw_d _ _ _ _ _ _ _ _) gd_X6_116 rfl (n := 2) (by decide) rfl (by decide) rfl rfl rfl (by simp [z_cat, z_catR, z_catI, z_catL]) (fun q67_12 eq67_12 => ?_)
        show Rn K _ 0 0 _ 70 [(0, .ref (kB K + 35)), (1, vI x1), (2, vI x2), (3, vI q14_4)] [vI q67_12, vI q61_11] (Zw (kE K) lt b c ms rd m P)
        refine r_ck1 (fun h13 => ?_)
        refine r_ck1 (fun h14 => ?_)
        refine r_icmp_ne (pc := 70) X h13 h14 dX6_alikeSoFar_70 (tgt := 77) (by decide) (fun h15 => ?_) (fun h15 => ?_)
        · refine r_iconst (pc := 77) X 0 dX6_alikeSoFar_77 (by decide) ?_
          exact r_zret (pc := 78) X (by decide) rfl rfl (by decide) dX6_alikeSoFar_78
        · refine r_iconst (pc := 73) X 1 dX6_alikeSoFar_73 (by decide) ?_
          refine r_goto (pc := 74) X dX6_alikeSoFar_74 (tgt := 78) (by decide) ?_
          exact r_zret (pc := 78) X (by decide) rfl rfl (by decide) dX6_alikeSoFar_78
    refine r_ck1 (fun h16 => ?_)
    refine r_icmp_lt (pc := 35) X h16 (by decide) dX6_alikeSoFar_35 (tgt := 53) (by decide) (fun h17 => ?_) (fun h17 => ?_)
    · exact hj53
    · refine r_aload_n (pc := 38) X 0 dX6_alikeSoFar_38 rfl rfl ?_
      refine r_iload_n (pc := 39) X 1 dX6_alikeSoFar_39 rfl rfl ?_
      refine r_iconst (pc := 40) X 0 dX6_alikeSoFar_40 (by decide) ?_
      refine r_callV (pc := 41) (q0 := 35) (ci := 6) (As := [vI x1, vI 0]) (rest := []) (W' := fun q41_18 => (Zw (kE K) lt b c ms rd m P)) (rv := fun q41_18 => some (vI q41_18)) X dX6_alikeSoFar_41 rfl (fun a ha => c_X6_classOf N lt b c ms rd m P x1 0 K.1.2.1 K.2.2.1.1 (kE K) a ha) (fun a => Zw_d _ _ _ _ _ _ _ _) gd_X6_116 rfl (n := 2) (by decide) rfl (by decide) rfl rfl rfl (Nat.zero_le _) (fun q41_18 eq41_18 => ?_)
      show Rn K _ 0 0 _ 44 [(0, .ref (kB K + 35)), (1, vI x1), (2, vI x2), (3, vI q14_4)] [vI q41_18] (Zw (kE K) lt b c ms rd m P)
      refine r_aload_n (pc := 44) X 0 dX6_alikeSoFar_44 rfl rfl ?_
      refine r_iload_n (pc := 45) X 2 dX6_alikeSoFar_45 rfl rfl ?_
      refine r_iconst (pc := 46) X 0 dX6_alikeSoFar_46 (by decide) ?_
      refine r_callV (pc := 47) (q0 := 35) (ci := 6) (As := [vI x2, vI 0]) (rest := [vI q41_18]) (W' := fun q47_19 => (Zw (kE K) lt b c ms rd m P)) (rv := fun q47_19 => some (vI q47_19)) X dX6_alikeSoFar_47 rfl (fun a ha => c_X6_classOf N lt b c ms rd m P x2 0 K.1.2.1 K.2.2.1.1 (kE K) a ha) (fun a => Zw_d _ _ _ _ _ _ _ _) gd_X6_116 rfl (n := 2) (by decide) rfl (by decide) rfl rfl rfl (by simp [z_cat, z_catR, z_catI, z_catL]) (fun q47_19 eq47_19 => ?_)
      show Rn K _ 0 0 _ 50 [(0, .ref (kB K + 35)), (1, vI x1), (2, vI x2), (3, vI q14_4)] [vI q47_19, vI q41_18] (Zw (kE K) lt b c ms rd m P)
      refine r_ck1 (fun h20 => ?_)
      refine r_ck1 (fun h21 => ?_)
      refine r_icmp_ne (pc := 50) X h20 h21 dX6_alikeSoFar_50 (tgt := 77) (by decide) (fun h22 => ?_) (fun h22 => ?_)
      · refine r_iconst (pc := 77) X 0 dX6_alikeSoFar_77 (by decide) ?_
        exact r_zret (pc := 78) X (by decide) rfl rfl (by decide) dX6_alikeSoFar_78
      · exact hj53
theorem c_X6_alikeSoFar (N : Nat) (lt b c ms rd m : Bd) (P : PL) (x1 x2 : Int) (l : Launch) (D : va_G) (E : ET) (a : Int) (ha : f_X6_alikeSoFar m x1 x2 = some a) : Ct l yX6_alikeSoFar (Cond.code yX6_alikeSoFar cX6_alikeSoFar 4 (some .boolean) :: lw_g) ({ frames := 2, cells := 0, slots := 0, locals := 43 } : Room) D E [.ref (E.2.2.2 + 35), vI x1, vI x2] (Zw E lt b c ms rd m P) (Zw E lt b c ms rd m P) (some (vI a)) :=
  ct_of (av := fun E => [.ref (E.2.2.2 + 35), vI x1, vI x2]) (W0 := fun E => Zw E lt b c ms rd m P) (W1 := fun E (a : Int) => Zw E lt b c ms rd m P) (rw := fun E a => some (vI a)) (by decide) rfl (fun E => Zw_d E lt b c ms rd m P) (fun E => by simp [lg_sl, z_cat, z_catR, z_catI, z_catL]) (fun K X => r_lv (by simp [lv_args, z_cat, z_catR, z_catI, z_catL]) (t_X6_alikeSoFar N lt b c ms rd m P x1 x2 K X)) l D E a ha
abbrev Q_X6_tellsApart (K : KT) (lt b c ms rd m : Bd) (P : PL) : (Int × Bd) → State → Prop := Qm K ({ frames := 3, cells := 0, slots := 0, locals := 66 } : Room) (fun a : Int × Bd => Zw (kE K) lt b c ms rd a.2 P) (fun a => some (vI a.1))
set_option maxRecDepth 100000 in
set_option maxHeartbeats 4000000 in
theorem t_X6_tellsApart_L5 (N : Nat) (lt b c ms rd m : Bd) (P : PL) (x1 x2 x3 : Int) (K : KT) (X : Kok K cX6_tellsApart yX6_tellsApart.cls lw_g ({ frames := 3, cells := 0, slots := 0, locals := 66 } : Room) (some .int) 7) (k : Bd → Option (Int × Bd)) (hk : ∀ (m1 : Bd), Rn K (Q_X6_tellsApart K lt b c ms rd m P) 0 0 (k m1) 39 [(0, .ref (kB K + 35)), (1, vI x1), (2, vI x2), (3, vI x3)] [] (Zw (kE K) lt b c ms rd m1 P)) : ∀ (n : Nat) (x4 : Int) (m1 : Bd), Rn K (Q_X6_tellsApart K lt b c ms rd m P) 0 0 (f_X6_tellsApart_L5 x1 x2 x3 k n x4 m1) 5 [(0, .ref (kB K + 35)), (1, vI x1), (2, vI x2), (3, vI x3), (4, vI x4)] [] (Zw (kE K) lt b c ms rd m1 P) := by
  intro n
  induction n with
  | zero =>
    intro x4 m1
    rw [f_X6_tellsApart_L5]
    exact r_none
  | succ n ih =>
    intro x4 m1
    rw [f_X6_tellsApart_L5]
    refine r_iload (pc := 5) X 4 dX6_tellsApart_5 rfl ?_
    refine r_iload_n (pc := 7) X 1 dX6_tellsApart_7 rfl rfl ?_
    refine r_ck1 (fun h1 => ?_)
    refine r_ck1 (fun h2 => ?_)
    refine r_icmp_ge (pc := 8) X h1 h2 dX6_tellsApart_8 (tgt := 39) (by decide) (fun h3 => ?_) (fun h3 => ?_)
    · refine r_sub [0, 1, 2, 3] rfl ?_
      exact hk m1
    · refine r_aload_n (pc := 11) X 0 dX6_tellsApart_11 rfl rfl ?_
      refine r_get (pc := 12) (v := .ref (kB K + 45)) X 35 13 inX6 rfl rfl (by decide) tf_X6_37 rfl dX6_tellsApart_12 ?_
      refine r_iload (pc := 15) X 4 dX6_tellsApart_15 rfl ?_
      refine r_aload_n (pc := 17) X 0 dX6_tellsApart_17 rfl rfl ?_
      refine r_get (pc := 18) (v := .ref (kB K + 42)) X 35 9 inX6 rfl rfl (by decide) tf_X6_28 rfl dX6_tellsApart_18 ?_
      refine r_aload_n (pc := 21) X 0 dX6_tellsApart_21 rfl rfl ?_
      refine r_get (pc := 22) (v := .ref (kB K + 43)) X 35 11 inX6 rfl rfl (by decide) tf_X6_31 rfl dX6_tellsApart_22 ?_
      refine r_iload (pc := 25) X 4 dX6_tellsApart_25 rfl ?_
      refine r_ckA (fun h4 => ?_)
      refine r_iald (pc := 27) (f := m1 11) X 43 h4 zl_3400 rfl dX6_tellsApart_27 ?_
      refine r_ckA (fun h5 => ?_)
      refine r_iald (pc := 28) (f := m1 9) X 42 h5 zl_3400 rfl dX6_tellsApart_28 ?_
      refine r_callS (pc := 29) (As := [vI (m1 9 (m1 11 x4))]) (rest := [vI x4, .ref (kB K + 45)]) (W' := fun q29_6 => (Zw (kE K) lt b c ms rd m1 P)) (rv := fun q29_6 => some (vI q29_6)) X dX6_tellsApart_29 rfl (fun a ha => c_X6_headOf N lt b c ms rd m1 P (m1 9 (m1 11 x4)) K.1.2.1 K.2.2.1.1 (kE K) a ha) (fun a => Zw_d _ _ _ _ _ _ _ _) gd_X6_102 rfl (n := 1) (by decide) rfl (by decide) (by simp [z_cat, z_catR, z_catI, z_catL]) (fun q29_6 eq29_6 => ?_)
      show Rn K _ 0 0 _ 32 [(0, .ref (kB K + 35)), (1, vI x1), (2, vI x2), (3, vI x3), (4, vI x4)] [vI q29_6, vI x4, .ref (kB K + 45)] (Zw (kE K) lt b c ms rd m1 P)
      refine r_iast (pc := 32) (f := m1 13) (ws' := (Zw (kE K) lt b c ms rd (bS m1 13 (aS (m1 13) x4 q29_6)) P)) X 45 h4 zl_3400 rfl rfl dX6_tellsApart_32 ?_
      refine r_iinc (pc := 33) (lv' := [(0, .ref (kB K + 35)), (1, vI x1), (2, vI x2), (3, vI x3), (4, vI (x4 + 1))]) X 4 [1, 2, 3, 4, 0] dX6_tellsApart_33 rfl (by decide) rfl ?_
      refine r_goto (pc := 36) X dX6_tellsApart_36 (tgt := 5) (by decide) ?_
      exact ih (x4 + 1) (bS m1 13 (aS (m1 13) x4 q29_6))
set_option maxRecDepth 100000 in
set_option maxHeartbeats 4000000 in
theorem t_X6_tellsApart_L54 (N : Nat) (lt b c ms rd m : Bd) (P : PL) (m1 : Bd) (x1 x2 x3 x4 x5 : Int) (K : KT) (X : Kok K cX6_tellsApart yX6_tellsApart.cls lw_g ({ frames := 3, cells := 0, slots := 0, locals := 66 } : Room) (some .int) 7) (k : Int → Option (Int × Bd)) (hk : ∀ (x6 : Int), Rn K (Q_X6_tellsApart K lt b c ms rd m P) 0 0 (k x6) 83 [(0, .ref (kB K + 35)), (1, vI x1), (2, vI x2), (3, vI x3), (4, vI x4), (5, vI x5), (6, vI x6)] [] (Zw (kE K) lt b c ms rd m1 P)) : ∀ (n : Nat) (x6 : Int), Rn K (Q_X6_tellsApart K lt b c ms rd m P) 0 0 (f_X6_tellsApart_L54 m1 x1 x2 x3 x4 x5 k n x6) 54 [(0, .ref (kB K + 35)), (1, vI x1), (2, vI x2), (3, vI x3), (4, vI x4), (5, vI x5), (6, vI x6)] [] (Zw (kE K) lt b c ms rd m1 P) := by
  intro n
  induction n with
  | zero =>
    intro x6
    rw [f_X6_tellsApart_L54]
    exact r_none
  | succ n ih =>
    intro x6
    rw [f_X6_tellsApart_L54]
    refine r_iload (pc := 54) X 6 dX6_tellsApart_54 rfl ?_
    refine r_iload (pc := 56) X 4 dX6_tellsApart_56 rfl ?_
    refine r_ck1 (fun h10 => ?_)
    refine r_ck1 (fun h11 => ?_)
    refine r_icmp_ge (pc := 58) X h10 h11 dX6_tellsApart_58 (tgt := 83) (by decide) (fun h12 => ?_) (fun h12 => ?_)
    · exact hk x6
    · refine r_aload_n (pc := 61) X 0 dX6_tellsApart_61 rfl rfl ?_
      refine r_aload_n (pc := 62) X 0 dX6_tellsApart_62 rfl rfl ?_
      refine r_get (pc := 63) (v := .ref (kB K + 47)) X 35 15 inX6 rfl rfl (by decide) tf_X6_43 rfl dX6_tellsApart_63 ?_
      refine r_iload (pc := 66) X 6 dX6_tellsApart_66 rfl ?_
      refine r_ckA (fun h13 => ?_)
      refine r_iald (pc := 68) (f := m1 15) X 47 h13 zl_90 rfl dX6_tellsApart_68 ?_
      refine r_iload (pc := 69) X 5 dX6_tellsApart_69 rfl ?_
      refine r_callV (pc := 71) (q0 := 35) (ci := 6) (As := [vI (m1 15 x6), vI x5]) (rest := []) (W' := fun q71_14 => (Zw (kE K) lt b c ms rd m1 P)) (rv := fun q71_14 => some (vI q71_14)) X dX6_tellsApart_71 rfl (fun a ha => c_X6_alikeSoFar N lt b c ms rd m1 P (m1 15 x6) x5 K.1.2.1 K.2.2.1.1 (kE K) a ha) (fun a => Zw_d _ _ _ _ _ _ _ _) gd_X6_119 rfl (n := 2) (by decide) rfl (by decide) rfl rfl rfl (Nat.zero_le _) (fun q71_14 eq71_14 => ?_)
      show Rn K _ 0 0 _ 74 [(0, .ref (kB K + 35)), (1, vI x1), (2, vI x2), (3, vI x3), (4, vI x4), (5, vI x5), (6, vI x6)] [vI q71_14] (Zw (kE K) lt b c ms rd m1 P)
      refine r_ck1 (fun h15 => ?_)
      refine r_ifne (pc := 74) X h15 dX6_tellsApart_74 (tgt := 83) (by decide) (fun h16 => ?_) (fun h16 => ?_)
      · exact hk x6
      · refine r_iinc (pc := 77) (lv' := [(0, .ref (kB K + 35)), (1, vI x1), (2, vI x2), (3, vI x3), (4, vI x4), (5, vI x5), (6, vI (x6 + 1))]) X 6 [1, 2, 3, 4, 5, 6, 0] dX6_tellsApart_77 rfl (by decide) rfl ?_
        refine r_goto (pc := 80) X dX6_tellsApart_80 (tgt := 54) (by decide) ?_
        exact ih (x6 + 1)
set_option maxRecDepth 100000 in
set_option maxHeartbeats 4000000 in
theorem t_X6_tellsApart_L45 (N : Nat) (lt b c ms rd m : Bd) (P : PL) (x1 x2 x3 : Int) (K : KT) (X : Kok K cX6_tellsApart yX6_tellsApart.cls lw_g ({ frames := 3, cells := 0, slots := 0, locals := 66 } : Room) (some .int) 7) (k : Int → Bd → Option (Int × Bd)) (hk : ∀ (x4 : Int) (m1 : Bd), Rn K (Q_X6_tellsApart K lt b c ms rd m P) 0 0 (k x4 m1) 127 [(0, .ref (kB K + 35)), (1, vI x1), (2, vI x2), (3, vI x3), (4, vI x4)] [] (Zw (kE K) lt b c ms rd m1 P)) : ∀ (n : Nat) (x4 : Int) (x5 : Int) (m1 : Bd), Rn K (Q_X6_tellsApart K lt b c ms rd m P) 0 0 (f_X6_tellsApart_L45 N x1 x2 x3 k n x4 x5 m1) 45 [(0, .ref (kB K + 35)), (1, vI x1), (2, vI x2), (3, vI x3), (4, vI x4), (5, vI x5)] [] (Zw (kE K) lt b c ms rd m1 P) := by
  intro n
  induction n with
  | zero =>
    intro x4 x5 m1
    rw [f_X6_tellsApart_L45]
    exact r_none
  | succ n ih =>
    intro x4 x5 m1
    rw [f_X6_tellsApart_L45]
    refine r_iload (pc := 45) X 5 dX6_tellsApart_45 rfl ?_
    refine r_iload_n (pc := 47) X 1 dX6_tellsApart_47 rfl rfl ?_
    refine r_ck1 (fun h7 => ?_)
    refine r_ck1 (fun h8 => ?_)
    refine r_icmp_ge (pc := 48) X h7 h8 dX6_tellsApart_48 (tgt := 127) (by decide) (fun h9 => ?_) (fun h9 => ?_)
    · refine r_sub [0, 1, 2, 3, 4] rfl ?_
      exact hk x4 m1
    · refine r_iconst (pc := 51) X 0 dX6_tellsApart_51 (by decide) ?_
      refine r_istore (pc := 52) (lv' := [(0, .ref (kB K + 35)), (1, vI x1), (2, vI x2), (3, vI x3), (4, vI x4), (5, vI x5), (6, vI 0)]) X [1, 2, 3, 4, 5, 6, 0] dX6_tellsApart_52 (by decide) rfl ?_
      refine t_X6_tellsApart_L54 N lt b c ms rd m P m1 x1 x2 x3 x4 x5 K X _ ?_ N 0
      intro x6_54
      refine r_iload (pc := 83) X 6 dX6_tellsApart_83 rfl ?_
      refine r_iload (pc := 85) X 4 dX6_tellsApart_85 rfl ?_
      refine r_ck1 (fun h17 => ?_)
      refine r_ck1 (fun h18 => ?_)
      refine r_icmp_ne (pc := 87) X h17 h18 dX6_tellsApart_87 (tgt := 112) (by decide) (fun h19 => ?_) (fun h19 => ?_)
      · refine r_aload_n (pc := 112) X 0 dX6_tellsApart_112 rfl rfl ?_
        refine r_get (pc := 113) (v := .ref (kB K + 46)) X 35 14 inX6 rfl rfl (by decide) tf_X6_40 rfl dX6_tellsApart_113 ?_
        refine r_iload (pc := 116) X 5 dX6_tellsApart_116 rfl ?_
        refine r_iload (pc := 118) X 6 dX6_tellsApart_118 rfl ?_
        refine r_ckA (fun h20 => ?_)
        refine r_iast (pc := 120) (f := m1 14) (ws' := (Zw (kE K) lt b c ms rd (bS m1 14 (aS (m1 14) x5 x6_54)) P)) X 46 h20 zl_3400 rfl rfl dX6_tellsApart_120 ?_
        refine r_iinc (pc := 121) (lv' := [(0, .ref (kB K + 35)), (1, vI x1), (2, vI x2), (3, vI x3), (4, vI x4), (5, vI (x5 + 1)), (6, vI x6_54)]) X 5 [1, 2, 3, 4, 5, 0, 6] dX6_tellsApart_121 rfl (by decide) rfl ?_
        refine r_goto (pc := 124) X dX6_tellsApart_124 (tgt := 45) (by decide) ?_
        refine r_sub [0, 1, 2, 3, 4, 5] rfl ?_
        exact ih x4 (x5 + 1) (bS m1 14 (aS (m1 14) x5 x6_54))
      · refine r_iload (pc := 90) X 4 dX6_tellsApart_90 rfl ?_
        refine r_iload_n (pc := 92) X 2 dX6_tellsApart_92 rfl rfl ?_
        refine r_ck1 (fun h21 => ?_)
        refine r_icmp_ne (pc := 93) X h18 h21 dX6_tellsApart_93 (tgt := 100) (by decide) (fun h22 => ?_) (fun h22 => ?_)
        · refine r_aload_n (pc := 100) X 0 dX6_tellsApart_100 rfl rfl ?_
          refine r_get (pc := 101) (v := .ref (kB K + 47)) X 35 15 inX6 rfl rfl (by decide) tf_X6_43 rfl dX6_tellsApart_101 ?_
          refine r_iload (pc := 104) X 4 dX6_tellsApart_104 rfl ?_
          refine r_iload (pc := 106) X 5 dX6_tellsApart_106 rfl ?_
          refine r_ckA (fun h23 => ?_)
          refine r_iast (pc := 108) (f := m1 15) (ws' := (Zw (kE K) lt b c ms rd (bS m1 15 (aS (m1 15) x4 x5)) P)) X 47 h23 zl_90 rfl rfl dX6_tellsApart_108 ?_
          refine r_iinc (pc := 109) (lv' := [(0, .ref (kB K + 35)), (1, vI x1), (2, vI x2), (3, vI x3), (4, vI (x4 + 1)), (5, vI x5), (6, vI x6_54)]) X 4 [1, 2, 3, 4, 0, 5, 6] dX6_tellsApart_109 rfl (by decide) rfl ?_
          refine r_aload_n (pc := 112) X 0 dX6_tellsApart_112 rfl rfl ?_
          refine r_get (pc := 113) (v := .ref (kB K + 46)) X 35 14 inX6 rfl rfl (by decide) tf_X6_40 rfl dX6_tellsApart_113 ?_
          refine r_iload (pc := 116) X 5 dX6_tellsApart_116 rfl ?_
          refine r_iload (pc := 118) X 6 dX6_tellsApart_118 rfl ?_
          refine r_ckA (fun h24 => ?_)
          refine r_iast (pc := 120) (f := m1 14) (ws' := (Zw (kE K) lt b c ms rd (bS (bS m1 14 (aS (m1 14) x5 x6_54)) 15 (aS (m1 15) x4 x5)) P)) X 46 h24 zl_3400 rfl rfl dX6_tellsApart_120 ?_
          refine r_iinc (pc := 121) (lv' := [(0, .ref (kB K + 35)), (1, vI x1), (2, vI x2), (3, vI x3), (4, vI (x4 + 1)), (5, vI (x5 + 1)), (6, vI x6_54)]) X 5 [1, 2, 3, 4, 5, 0, 6] dX6_tellsApart_121 rfl (by decide) rfl ?_
          refine r_goto (pc := 124) X dX6_tellsApart_124 (tgt := 45) (by decide) ?_
          refine r_sub [0, 1, 2, 3, 4, 5] rfl ?_
          exact ih (x4 + 1) (x5 + 1) (bS (bS m1 14 (aS (m1 14) x5 x6_54)) 15 (aS (m1 15) x4 x5))
        · refine r_iload_n (pc := 96) X 2 dX6_tellsApart_96 rfl rfl ?_
          refine r_iconst (pc := 97) X 1 dX6_tellsApart_97 (by decide) ?_
          refine r_iadd (pc := 98) X dX6_tellsApart_98 ?_
          exact r_iret (pc := 99) X rfl rfl (by decide) dX6_tellsApart_99
set_option maxRecDepth 100000 in
set_option maxHeartbeats 4000000 in
theorem t_X6_tellsApart_L130 (N : Nat) (lt b c ms rd m : Bd) (P : PL) (x1 x2 x3 x4 : Int) (K : KT) (X : Kok K cX6_tellsApart yX6_tellsApart.cls lw_g ({ frames := 3, cells := 0, slots := 0, locals := 66 } : Room) (some .int) 7) (k : Bd → Option (Int × Bd)) (hk : ∀ (m1 : Bd), Rn K (Q_X6_tellsApart K lt b c ms rd m P) 0 0 (k m1) 156 [(0, .ref (kB K + 35)), (1, vI x1), (2, vI x2), (3, vI x3), (4, vI x4)] [] (Zw (kE K) lt b c ms rd m1 P)) : ∀ (n : Nat) (x5 : Int) (m1 : Bd), Rn K (Q_X6_tellsApart K lt b c ms rd m P) 0 0 (f_X6_tellsApart_L130 x1 x2 x3 x4 k n x5 m1) 130 [(0, .ref (kB K + 35)), (1, vI x1), (2, vI x2), (3, vI x3), (4, vI x4), (5, vI x5)] [] (Zw (kE K) lt b c ms rd m1 P) := by
  intro n
  induction n with
  | zero =>
    intro x5 m1
    rw [f_X6_tellsApart_L130]
    exact r_none
  | succ n ih =>
    intro x5 m1
    rw [f_X6_tellsApart_L130]
    refine r_iload (pc := 130) X 5 dX6_tellsApart_130 rfl ?_
    refine r_iload_n (pc := 132) X 1 dX6_tellsApart_132 rfl rfl ?_
    refine r_ck1 (fun h25 => ?_)
    refine r_ck1 (fun h26 => ?_)
    refine r_icmp_ge (pc := 133) X h25 h26 dX6_tellsApart_133 (tgt := 156) (by decide) (fun h27 => ?_) (fun h27 => ?_)
    · refine r_sub [0, 1, 2, 3, 4] rfl ?_
      exact hk m1
    · refine r_aload_n (pc := 136) X 0 dX6_tellsApart_136 rfl rfl ?_
      refine r_get (pc := 137) (v := .ref (kB K + 45)) X 35 13 inX6 rfl rfl (by decide) tf_X6_37 rfl dX6_tellsApart_137 ?_
      refine r_iload (pc := 140) X 5 dX6_tellsApart_140 rfl ?_
      refine r_aload_n (pc := 142) X 0 dX6_tellsApart_142 rfl rfl ?_
      refine r_get (pc := 143) (v := .ref (kB K + 46)) X 35 14 inX6 rfl rfl (by decide) tf_X6_40 rfl dX6_tellsApart_143 ?_
      refine r_iload (pc := 146) X 5 dX6_tellsApart_146 rfl ?_
      refine r_ckA (fun h28 => ?_)
      refine r_iald (pc := 148) (f := m1 14) X 46 h28 zl_3400 rfl dX6_tellsApart_148 ?_
      refine r_iast (pc := 149) (f := m1 13) (ws' := (Zw (kE K) lt b c ms rd (bS m1 13 (aS (m1 13) x5 (m1 14 x5))) P)) X 45 h28 zl_3400 rfl rfl dX6_tellsApart_149 ?_
      refine r_iinc (pc := 150) (lv' := [(0, .ref (kB K + 35)), (1, vI x1), (2, vI x2), (3, vI x3), (4, vI x4), (5, vI (x5 + 1))]) X 5 [1, 2, 3, 4, 5, 0] dX6_tellsApart_150 rfl (by decide) rfl ?_
      refine r_goto (pc := 153) X dX6_tellsApart_153 (tgt := 130) (by decide) ?_
      exact ih (x5 + 1) (bS m1 13 (aS (m1 13) x5 (m1 14 x5)))
set_option maxRecDepth 100000 in
set_option maxHeartbeats 4000000 in
theorem t_X6_tellsApart_L39 (N : Nat) (lt b c ms rd m : Bd) (P : PL) (x1 x2 : Int) (K : KT) (X : Kok K cX6_tellsApart yX6_tellsApart.cls lw_g ({ frames := 3, cells := 0, slots := 0, locals := 66 } : Room) (some .int) 7) : ∀ (n : Nat) (x3 : Int) (m1 : Bd), Rn K (Q_X6_tellsApart K lt b c ms rd m P) 0 0 (f_X6_tellsApart_L39 N x1 x2 n x3 m1) 39 [(0, .ref (kB K + 35)), (1, vI x1), (2, vI x2), (3, vI x3)] [] (Zw (kE K) lt b c ms rd m1 P) := by
  intro n
  induction n with
  | zero =>
    intro x3 m1
    rw [f_X6_tellsApart_L39]
    exact r_none
  | succ n ih =>
    intro x3 m1
    rw [f_X6_tellsApart_L39]
    refine r_iconst (pc := 39) X 0 dX6_tellsApart_39 (by decide) ?_
    refine r_istore (pc := 40) (lv' := [(0, .ref (kB K + 35)), (1, vI x1), (2, vI x2), (3, vI x3), (4, vI 0)]) X [1, 2, 3, 4, 0] dX6_tellsApart_40 (by decide) rfl ?_
    refine r_iconst (pc := 42) X 0 dX6_tellsApart_42 (by decide) ?_
    refine r_istore (pc := 43) (lv' := [(0, .ref (kB K + 35)), (1, vI x1), (2, vI x2), (3, vI x3), (4, vI 0), (5, vI 0)]) X [1, 2, 3, 4, 5, 0] dX6_tellsApart_43 (by decide) rfl ?_
    refine t_X6_tellsApart_L45 N lt b c ms rd m P  x1 x2 x3 K X _ ?_ N 0 0 m1
    intro x4_45 m_45
    refine r_iconst (pc := 127) X 0 dX6_tellsApart_127 (by decide) ?_
    refine r_istore (pc := 128) (lv' := [(0, .ref (kB K + 35)), (1, vI x1), (2, vI x2), (3, vI x3), (4, vI x4_45), (5, vI 0)]) X [1, 2, 3, 4, 5, 0] dX6_tellsApart_128 (by decide) rfl ?_
    refine t_X6_tellsApart_L130 N lt b c ms rd m P  x1 x2 x3 x4_45 K X _ ?_ N 0 m_45
    intro m_130
    refine r_iload (pc := 156) X 4 dX6_tellsApart_156 rfl ?_
    refine r_iload_n (pc := 158) X 3 dX6_tellsApart_158 rfl rfl ?_
    refine r_ck1 (fun h29 => ?_)
    refine r_ck1 (fun h30 => ?_)
    refine r_icmp_ne (pc := 159) X h29 h30 dX6_tellsApart_159 (tgt := 165) (by decide) (fun h31 => ?_) (fun h31 => ?_)
    · refine r_iload (pc := 165) X 4 dX6_tellsApart_165 rfl ?_
      refine r_istore_n (pc := 167) (lv' := [(0, .ref (kB K + 35)), (1, vI x1), (2, vI x2), (3, vI x4_45), (4, vI x4_45)]) X [1, 2, 3, 0, 4] dX6_tellsApart_167 rfl (by decide) rfl ?_
      refine r_goto (pc := 168) X dX6_tellsApart_168 (tgt := 39) (by decide) ?_
      refine r_sub [0, 1, 2, 3] rfl ?_
      exact ih x4_45 m_130
    · refine r_iload (pc := 162) X 4 dX6_tellsApart_162 rfl ?_
      exact r_iret (pc := 164) X rfl rfl (by decide) dX6_tellsApart_164
set_option maxRecDepth 100000 in
set_option maxHeartbeats 4000000 in
theorem t_X6_tellsApart (N : Nat) (lt b c ms rd m : Bd) (P : PL) (x1 x2 : Int) (K : KT) (X : Kok K cX6_tellsApart yX6_tellsApart.cls lw_g ({ frames := 3, cells := 0, slots := 0, locals := 66 } : Room) (some .int) 7) : Rn K (Q_X6_tellsApart K lt b c ms rd m P) 0 0 (f_X6_tellsApart N m x1 x2) 0 [(0, .ref (kB K + 35)), (1, vI x1), (2, vI x2)] [] (Zw (kE K) lt b c ms rd m P) := by
  unfold f_X6_tellsApart
  refine r_iconst (pc := 0) X 0 dX6_tellsApart_0 (by decide) ?_
  refine r_istore_n (pc := 1) (lv' := [(0, .ref (kB K + 35)), (1, vI x1), (2, vI x2), (3, vI 0)]) X [1, 2, 3, 0] dX6_tellsApart_1 rfl (by decide) rfl ?_
  refine r_iconst (pc := 2) X 0 dX6_tellsApart_2 (by decide) ?_
  refine r_istore (pc := 3) (lv' := [(0, .ref (kB K + 35)), (1, vI x1), (2, vI x2), (3, vI 0), (4, vI 0)]) X [1, 2, 3, 4, 0] dX6_tellsApart_3 (by decide) rfl ?_
  refine t_X6_tellsApart_L5 N lt b c ms rd m P  x1 x2 0 K X _ ?_ N 0 m
  intro m_5
  exact t_X6_tellsApart_L39 N lt b c ms rd m P  x1 x2 K X N 0 m_5
theorem c_X6_tellsApart (N : Nat) (lt b c ms rd m : Bd) (P : PL) (x1 x2 : Int) (l : Launch) (D : va_G) (E : ET) (a : Int × Bd) (ha : f_X6_tellsApart N m x1 x2 = some a) : Ct l yX6_tellsApart (Cond.code yX6_tellsApart cX6_tellsApart 7 (some .int) :: lw_g) ({ frames := 3, cells := 0, slots := 0, locals := 66 } : Room) D E [.ref (E.2.2.2 + 35), vI x1, vI x2] (Zw E lt b c ms rd m P) (Zw E lt b c ms rd a.2 P) (some (vI a.1)) :=
  ct_of (av := fun E => [.ref (E.2.2.2 + 35), vI x1, vI x2]) (W0 := fun E => Zw E lt b c ms rd m P) (W1 := fun E (a : Int × Bd) => Zw E lt b c ms rd a.2 P) (rw := fun E a => some (vI a.1)) (by decide) rfl (fun E => Zw_d E lt b c ms rd m P) (fun E => by simp [lg_sl, z_cat, z_catR, z_catI, z_catL]) (fun K X => r_lv (by simp [lv_args, z_cat, z_catR, z_catI, z_catL]) (t_X6_tellsApart N lt b c ms rd m P x1 x2 K X)) l D E a ha
abbrev Q_X6_makes (K : KT) (lt b c ms rd m : Bd) (P : PL) : (Int × Bd) → State → Prop := Qm K ({ frames := 4, cells := 0, slots := 0, locals := 92 } : Room) (fun a : Int × Bd => Zw (kE K) lt b c ms rd a.2 P) (fun a => some (vI a.1))
set_option maxRecDepth 100000 in
set_option maxHeartbeats 4000000 in
theorem t_X6_makes_L19 (N : Nat) (lt b c ms rd m : Bd) (P : PL) (K : KT) (X : Kok K cX6_makes yX6_makes.cls lw_g ({ frames := 4, cells := 0, slots := 0, locals := 92 } : Room) (some .int) 6) (k : Bd → Option (Int × Bd)) (hk : ∀ (m1 : Bd), Rn K (Q_X6_makes K lt b c ms rd m P) 0 0 (k m1) 122 [(0, .ref (kB K + 35))] [] (Zw (kE K) lt b c ms rd m1 P)) : ∀ (n : Nat) (x3 : Int) (m1 : Bd), Rn K (Q_X6_makes K lt b c ms rd m P) 0 0 (f_X6_makes_L19 k n x3 m1) 19 [(0, .ref (kB K + 35)), (3, vI x3)] [] (Zw (kE K) lt b c ms rd m1 P) := by
  intro n
  induction n with
  | zero =>
    intro x3 m1
    rw [f_X6_makes_L19]
    exact r_none
  | succ n ih =>
    intro x3 m1
    rw [f_X6_makes_L19]
    refine r_iload_n (pc := 19) X 1 dX6_makes_19 rfl rfl ?_
    refine r_aload_n (pc := 20) X 0 dX6_makes_20 rfl rfl ?_
    refine r_get (pc := 21) (v := vI (m1 17 0)) X 35 17 inX6 rfl rfl (by decide) tf_X6_129 rfl dX6_makes_21 ?_
    refine r_ck1 (fun h3 => ?_)
    refine r_ck1 (fun h4 => ?_)
    refine r_icmp_ge (pc := 24) X h3 h4 dX6_makes_24 (tgt := 122) (by decide) (fun h5 => ?_) (fun h5 => ?_)
    · refine r_sub [0] rfl ?_
      exact hk m1
    · refine r_aload_n (pc := 27) X 0 dX6_makes_27 rfl rfl ?_
      refine r_get (pc := 28) (v := vI (m1 17 0)) X 35 17 inX6 rfl rfl (by decide) tf_X6_129 rfl dX6_makes_28 ?_
      refine r_bipush (pc := 31) X 40 dX6_makes_31 (by decide) ?_
      refine r_icmp_gt (pc := 33) X h4 (by decide) dX6_makes_33 (tgt := 122) (by decide) (fun h6 => ?_) (fun h6 => ?_)
      · refine r_sub [0] rfl ?_
        exact hk m1
      · refine r_aload_n (pc := 36) X 0 dX6_makes_36 rfl rfl ?_
        refine r_get (pc := 37) (v := .ref (kB K + 42)) X 35 9 inX6 rfl rfl (by decide) tf_X6_28 rfl dX6_makes_37 ?_
        refine r_aload_n (pc := 40) X 0 dX6_makes_40 rfl rfl ?_
        refine r_get (pc := 41) (v := .ref (kB K + 43)) X 35 11 inX6 rfl rfl (by decide) tf_X6_31 rfl dX6_makes_41 ?_
        refine r_aload_n (pc := 44) X 0 dX6_makes_44 rfl rfl ?_
        refine r_get (pc := 45) (v := .ref (kB K + 47)) X 35 15 inX6 rfl rfl (by decide) tf_X6_43 rfl dX6_makes_45 ?_
        refine r_iload_n (pc := 48) X 1 dX6_makes_48 rfl rfl ?_
        refine r_ckA (fun h7 => ?_)
        refine r_iald (pc := 49) (f := m1 15) X 47 h7 zl_90 rfl dX6_makes_49 ?_
        refine r_ckA (fun h8 => ?_)
        refine r_iald (pc := 50) (f := m1 11) X 43 h8 zl_3400 rfl dX6_makes_50 ?_
        refine r_ckA (fun h9 => ?_)
        refine r_iald (pc := 51) (f := m1 9) X 42 h9 zl_3400 rfl dX6_makes_51 ?_
        refine r_callS (pc := 52) (As := [vI (m1 9 (m1 11 (m1 15 x3)))]) (rest := []) (W' := fun q52_10 => (Zw (kE K) lt b c ms rd m1 P)) (rv := fun q52_10 => some (vI q52_10)) X dX6_makes_52 rfl (fun a ha => c_X6_headOf N lt b c ms rd m1 P (m1 9 (m1 11 (m1 15 x3))) K.1.2.1 K.2.2.1.1 (kE K) a ha) (fun a => Zw_d _ _ _ _ _ _ _ _) gd_X6_102 rfl (n := 1) (by decide) rfl (by decide) (Nat.zero_le _) (fun q52_10 eq52_10 => ?_)
        show Rn K _ 0 0 _ 55 [(0, .ref (kB K + 35)), (3, vI x3)] [vI q52_10] (Zw (kE K) lt b c ms rd m1 P)
        refine r_istore (pc := 55) (lv' := [(0, .ref (kB K + 35)), (3, vI x3), (4, vI q52_10)]) X [1, 2, 0] dX6_makes_55 (by decide) rfl ?_
        refine r_iload (pc := 57) X 2 dX6_makes_57 rfl ?_
        refine r_callS (pc := 59) (As := [vI q52_10]) (rest := []) (W' := fun q59_11 => (Zw (kE K) lt b c ms rd m1 P)) (rv := fun q59_11 => some (vI q59_11)) X dX6_makes_59 rfl (fun a ha => c_X6_parts N lt b c ms rd m1 P q52_10 K.1.2.1 K.2.2.1.1 (kE K) a ha) (fun a => Zw_d _ _ _ _ _ _ _ _) gd_X6_113 rfl (n := 1) (by decide) rfl (by decide) (Nat.zero_le _) (fun q59_11 eq59_11 => ?_)
        show Rn K _ 0 0 _ 62 [(0, .ref (kB K + 35)), (3, vI x3), (4, vI q52_10)] [vI q59_11] (Zw (kE K) lt b c ms rd m1 P)
        refine r_istore (pc := 62) (lv' := [(0, .ref (kB K + 35)), (3, vI x3), (4, vI q52_10), (5, vI q59_11)]) X [1, 2, 3, 0] dX6_makes_62 (by decide) rfl ?_
        refine r_aload_n (pc := 64) X 0 dX6_makes_64 rfl rfl ?_
        refine r_get (pc := 65) (v := .ref (kB K + 48)) X 35 16 inX6 rfl rfl (by decide) tf_X6_46 rfl dX6_makes_65 ?_
        refine r_iload_n (pc := 68) X 1 dX6_makes_68 rfl rfl ?_
        refine r_iload (pc := 69) X 2 dX6_makes_69 rfl ?_
        refine r_iload (pc := 71) X 3 dX6_makes_71 rfl ?_
        refine r_jn (J := fun j91 => ∀ (s3_91 : Int), Rn K (Q_X6_makes K lt b c ms rd m P) 0 0 (j91 s3_91) 91 [(0, .ref (kB K + 35)), (3, vI x3), (5, vI q59_11)] [vI s3_91, vI q52_10, vI x3, .ref (kB K + 48)] (Zw (kE K) lt b c ms rd m1 P)) ?_ (fun j91 hj91 => ?_)
        · intro s3_91
          refine r_iload (pc := 91) X 2 dX6_makes_91 rfl ?_
          refine r_iconst (pc := 93) X 1 dX6_makes_93 (by decide) ?_
          refine r_jn (J := fun j112 => ∀ (s4_112 : Int), Rn K (Q_X6_makes K lt b c ms rd m P) 0 0 (j112 s4_112) 112 [(0, .ref (kB K + 35)), (3, vI x3)] [vI s4_112, vI s3_91, vI q52_10, vI x3, .ref (kB K + 48)] (Zw (kE K) lt b c ms rd m1 P)) ?_ (fun j112 hj112 => ?_)
          · intro s4_112
            refine r_callS (pc := 112) (As := [vI q52_10, vI s3_91, vI s4_112]) (rest := [vI x3, .ref (kB K + 48)]) (W' := fun q112_12 => (Zw (kE K) lt b c ms rd m1 P)) (rv := fun q112_12 => some (vI q112_12)) X dX6_makes_112 rfl (fun a ha => c_X6_node N lt b c ms rd m1 P q52_10 s3_91 s4_112 K.1.2.1 K.2.2.1.1 (kE K) a ha) (fun a => Zw_d _ _ _ _ _ _ _ _) gd_X6_98 rfl (n := 3) (by decide) rfl (by decide) (by simp [z_cat, z_catR, z_catI, z_catL]) (fun q112_12 eq112_12 => ?_)
            show Rn K _ 0 0 _ 115 [(0, .ref (kB K + 35)), (3, vI x3)] [vI q112_12, vI x3, .ref (kB K + 48)] (Zw (kE K) lt b c ms rd m1 P)
            refine r_ckA (fun h13 => ?_)
            refine r_iast (pc := 115) (f := m1 16) (ws' := (Zw (kE K) lt b c ms rd (bS m1 16 (aS (m1 16) x3 q112_12)) P)) X 48 h13 zl_41 rfl rfl dX6_makes_115 ?_
            refine r_iinc (pc := 116) (lv' := [(0, .ref (kB K + 35)), (3, vI (x3 + 1))]) X 1 [1, 0] dX6_makes_116 rfl (by decide) rfl ?_
            refine r_goto (pc := 119) X dX6_makes_119 (tgt := 19) (by decide) ?_
            exact ih (x3 + 1) (bS m1 16 (aS (m1 16) x3 q112_12))
          refine r_ck1 (fun h14 => ?_)
          refine r_icmp_le (pc := 94) X h14 (by decide) dX6_makes_94 (tgt := 111) (by decide) (fun h15 => ?_) (fun h15 => ?_)
          · refine r_iconst (pc := 111) X 0 dX6_makes_111 (by decide) ?_
            refine r_sub [0, 1] rfl ?_
            exact hj112 0
          · refine r_aload_n (pc := 97) X 0 dX6_makes_97 rfl rfl ?_
            refine r_aload_n (pc := 98) X 0 dX6_makes_98 rfl rfl ?_
            refine r_get (pc := 99) (v := .ref (kB K + 47)) X 35 15 inX6 rfl rfl (by decide) tf_X6_43 rfl dX6_makes_99 ?_
            refine r_iload_n (pc := 102) X 1 dX6_makes_102 rfl rfl ?_
            refine r_iald (pc := 103) (f := m1 15) X 47 h7 zl_90 rfl dX6_makes_103 ?_
            refine r_iconst (pc := 104) X 1 dX6_makes_104 (by decide) ?_
            refine r_callV (pc := 105) (q0 := 35) (ci := 6) (As := [vI (m1 15 x3), vI 1]) (rest := [vI s3_91, vI q52_10, vI x3, .ref (kB K + 48)]) (W' := fun q105_16 => (Zw (kE K) lt b c ms rd m1 P)) (rv := fun q105_16 => some (vI q105_16)) X dX6_makes_105 rfl (fun a ha => c_X6_classOf N lt b c ms rd m1 P (m1 15 x3) 1 K.1.2.1 K.2.2.1.1 (kE K) a ha) (fun a => Zw_d _ _ _ _ _ _ _ _) gd_X6_116 rfl (n := 2) (by decide) rfl (by decide) rfl rfl rfl (by simp [z_cat, z_catR, z_catI, z_catL]) (fun q105_16 eq105_16 => ?_)
            show Rn K _ 0 0 _ 108 [(0, .ref (kB K + 35)), (3, vI x3), (5, vI q59_11)] [vI q105_16, vI s3_91, vI q52_10, vI x3, .ref (kB K + 48)] (Zw (kE K) lt b c ms rd m1 P)
            refine r_goto (pc := 108) X dX6_makes_108 (tgt := 112) (by decide) ?_
            refine r_sub [0, 1] rfl ?_
            exact hj112 q105_16
        refine r_ck1 (fun h17 => ?_)
        refine r_ifle (pc := 73) X h17 dX6_makes_73 (tgt := 90) (by decide) (fun h18 => ?_) (fun h18 => ?_)
        · refine r_iconst (pc := 90) X 0 dX6_makes_90 (by decide) ?_
          refine r_sub [0, 1, 3] rfl ?_
          exact hj91 0
        · refine r_aload_n (pc := 76) X 0 dX6_makes_76 rfl rfl ?_
          refine r_aload_n (pc := 77) X 0 dX6_makes_77 rfl rfl ?_
          refine r_get (pc := 78) (v := .ref (kB K + 47)) X 35 15 inX6 rfl rfl (by decide) tf_X6_43 rfl dX6_makes_78 ?_
          refine r_iload_n (pc := 81) X 1 dX6_makes_81 rfl rfl ?_
          refine r_iald (pc := 82) (f := m1 15) X 47 h7 zl_90 rfl dX6_makes_82 ?_
          refine r_iconst (pc := 83) X 0 dX6_makes_83 (by decide) ?_
          refine r_callV (pc := 84) (q0 := 35) (ci := 6) (As := [vI (m1 15 x3), vI 0]) (rest := [vI q52_10, vI x3, .ref (kB K + 48)]) (W' := fun q84_19 => (Zw (kE K) lt b c ms rd m1 P)) (rv := fun q84_19 => some (vI q84_19)) X dX6_makes_84 rfl (fun a ha => c_X6_classOf N lt b c ms rd m1 P (m1 15 x3) 0 K.1.2.1 K.2.2.1.1 (kE K) a ha) (fun a => Zw_d _ _ _ _ _ _ _ _) gd_X6_116 rfl (n := 2) (by decide) rfl (by decide) rfl rfl rfl (by simp [z_cat, z_catR, z_catI, z_catL]) (fun q84_19 eq84_19 => ?_)
          show Rn K _ 0 0 _ 87 [(0, .ref (kB K + 35)), (3, vI x3), (4, vI q52_10), (5, vI q59_11)] [vI q84_19, vI q52_10, vI x3, .ref (kB K + 48)] (Zw (kE K) lt b c ms rd m1 P)
          refine r_goto (pc := 87) X dX6_makes_87 (tgt := 91) (by decide) ?_
          refine r_sub [0, 1, 3] rfl ?_
          exact hj91 q84_19
set_option maxRecDepth 100000 in
set_option maxHeartbeats 4000000 in
theorem t_X6_makes (N : Nat) (lt b c ms rd m : Bd) (P : PL) (x1 : Int) (K : KT) (X : Kok K cX6_makes yX6_makes.cls lw_g ({ frames := 4, cells := 0, slots := 0, locals := 92 } : Room) (some .int) 6) : Rn K (Q_X6_makes K lt b c ms rd m P) 0 0 (f_X6_makes N m x1) 0 [(0, .ref (kB K + 35)), (1, vI x1)] [] (Zw (kE K) lt b c ms rd m P) := by
  unfold f_X6_makes
  refine r_aload_n (pc := 0) X 0 dX6_makes_0 rfl rfl ?_
  refine r_iload_n (pc := 1) X 1 dX6_makes_1 rfl rfl ?_
  refine r_callV (pc := 2) (q0 := 35) (ci := 6) (As := [vI x1]) (rest := []) (W' := fun q2_1 => (Zw (kE K) lt b c ms rd q2_1.2 P)) (rv := fun q2_1 => some (vI q2_1.1)) X dX6_makes_2 rfl (fun a ha => c_X6_reaches N lt b c ms rd m P x1 K.1.2.1 K.2.2.1.1 (kE K) a ha) (fun a => Zw_d _ _ _ _ _ _ _ _) gd_X6_123 rfl (n := 1) (by decide) rfl (by decide) rfl rfl rfl (Nat.zero_le _) (fun q2_1 eq2_1 => ?_)
  show Rn K _ 0 0 _ 5 [(0, .ref (kB K + 35)), (1, vI x1)] [vI q2_1.1] (Zw (kE K) lt b c ms rd q2_1.2 P)
  refine r_istore_n (pc := 5) (lv' := [(0, .ref (kB K + 35)), (1, vI x1), (2, vI q2_1.1)]) X [1, 2, 0] dX6_makes_5 rfl (by decide) rfl ?_
  refine r_aload_n (pc := 6) X 0 dX6_makes_6 rfl rfl ?_
  refine r_aload_n (pc := 7) X 0 dX6_makes_7 rfl rfl ?_
  refine r_iload_n (pc := 8) X 2 dX6_makes_8 rfl rfl ?_
  refine r_bipush (pc := 9) X 40 dX6_makes_9 (by decide) ?_
  refine r_callV (pc := 11) (q0 := 35) (ci := 6) (As := [vI q2_1.1, vI 40]) (rest := [.ref (kB K + 35)]) (W' := fun q11_2 => (Zw (kE K) lt b c ms rd q11_2.2 P)) (rv := fun q11_2 => some (vI q11_2.1)) X dX6_makes_11 rfl (fun a ha => c_X6_tellsApart N lt b c ms rd q2_1.2 P q2_1.1 40 K.1.2.1 K.2.2.1.1 (kE K) a ha) (fun a => Zw_d _ _ _ _ _ _ _ _) gd_X6_126 rfl (n := 2) (by decide) rfl (by decide) rfl rfl rfl (by simp [z_cat, z_catR, z_catI, z_catL]) (fun q11_2 eq11_2 => ?_)
  show Rn K _ 0 0 _ 14 [(0, .ref (kB K + 35)), (1, vI x1), (2, vI q2_1.1)] [vI q11_2.1, .ref (kB K + 35)] (Zw (kE K) lt b c ms rd q11_2.2 P)
  refine r_put (pc := 14) (ws' := (Zw (kE K) lt b c ms rd (bs0 q11_2.2 17 q11_2.1) P)) X 35 17 inX6 tyX6 tyX6_ok nmX6 rfl rfl (by decide) tf_X6_129 rfl (tyX6_ok 17 (by decide)) rfl rfl (Nat.le_of_ble_eq_true rfl) rfl dX6_makes_14 ?_
  refine r_iconst (pc := 17) X 0 dX6_makes_17 (by decide) ?_
  refine r_istore_n (pc := 18) (lv' := [(0, .ref (kB K + 35)), (1, vI x1), (2, vI q2_1.1), (3, vI 0)]) X [1, 2, 3, 0] dX6_makes_18 rfl (by decide) rfl ?_
  refine r_sub [0, 3] rfl ?_
  refine t_X6_makes_L19 N lt b c ms rd m P   K X _ ?_ N 0 (bs0 q11_2.2 17 q11_2.1)
  intro m_19
  refine r_aload_n (pc := 122) X 0 dX6_makes_122 rfl rfl ?_
  refine r_get (pc := 123) (v := vI (m_19 17 0)) X 35 17 inX6 rfl rfl (by decide) tf_X6_129 rfl dX6_makes_123 ?_
  exact r_iret (pc := 126) X rfl rfl (by decide) dX6_makes_126
theorem c_X6_makes (N : Nat) (lt b c ms rd m : Bd) (P : PL) (x1 : Int) (l : Launch) (D : va_G) (E : ET) (a : Int × Bd) (ha : f_X6_makes N m x1 = some a) : Ct l yX6_makes (Cond.code yX6_makes cX6_makes 6 (some .int) :: lw_g) ({ frames := 4, cells := 0, slots := 0, locals := 92 } : Room) D E [.ref (E.2.2.2 + 35), vI x1] (Zw E lt b c ms rd m P) (Zw E lt b c ms rd a.2 P) (some (vI a.1)) :=
  ct_of (av := fun E => [.ref (E.2.2.2 + 35), vI x1]) (W0 := fun E => Zw E lt b c ms rd m P) (W1 := fun E (a : Int × Bd) => Zw E lt b c ms rd a.2 P) (rw := fun E a => some (vI a.1)) (by decide) rfl (fun E => Zw_d E lt b c ms rd m P) (fun E => by simp [lg_sl, z_cat, z_catR, z_catI, z_catL]) (fun K X => r_lv (by simp [lv_args, z_cat, z_catR, z_catI, z_catL]) (t_X6_makes N lt b c ms rd m P x1 K X)) l D E a ha
abbrev Q_X6_keeps (K : KT) (lt b c ms rd m : Bd) (P : PL) : (Bd) → State → Prop := Qm K ({ frames := 0, cells := 0, slots := 0, locals := 0 } : Room) (fun a : Bd => Zw (kE K) lt b c ms rd a P) (fun a => none)
set_option maxRecDepth 100000 in
set_option maxHeartbeats 4000000 in
theorem t_X6_keeps_L81 (N : Nat) (lt b c ms rd m : Bd) (P : PL) (K : KT) (X : Kok K cX6_keeps yX6_keeps.cls lw_g ({ frames := 0, cells := 0, slots := 0, locals := 0 } : Room) none 2) (k : Bd → Option (Bd)) (hk : ∀ (m1 : Bd), Rn K (Q_X6_keeps K lt b c ms rd m P) 0 0 (k m1) 115 [(0, .ref (kB K + 35))] [] (Zw (kE K) lt b c ms rd m1 P)) : ∀ (n : Nat) (x1 : Int) (m1 : Bd), Rn K (Q_X6_keeps K lt b c ms rd m P) 0 0 (f_X6_keeps_L81 k n x1 m1) 81 [(0, .ref (kB K + 35)), (1, vI x1)] [] (Zw (kE K) lt b c ms rd m1 P) := by
  intro n
  induction n with
  | zero =>
    intro x1 m1
    rw [f_X6_keeps_L81]
    exact r_none
  | succ n ih =>
    intro x1 m1
    rw [f_X6_keeps_L81]
    refine r_iload_n (pc := 81) X 1 dX6_keeps_81 rfl rfl ?_
    refine r_sipush (pc := 82) X 320 dX6_keeps_82 (by decide) ?_
    refine r_ck1 (fun h1 => ?_)
    refine r_icmp_ge (pc := 85) X h1 (by decide) dX6_keeps_85 (tgt := 115) (by decide) (fun h2 => ?_) (fun h2 => ?_)
    · refine r_sub [0] rfl ?_
      exact hk m1
    · refine r_aload_n (pc := 88) X 0 dX6_keeps_88 rfl rfl ?_
      refine r_get (pc := 89) (v := .ref (kB K + 38)) X 35 2 inX6 rfl rfl (by decide) tf_X6_16 rfl dX6_keeps_89 ?_
      refine r_sipush (pc := 92) X 320 dX6_keeps_92 (by decide) ?_
      refine r_aload_n (pc := 95) X 0 dX6_keeps_95 rfl rfl ?_
      refine r_get (pc := 96) (v := vI (m1 4 0)) X 35 4 inX6 rfl rfl (by decide) tf_X6_132 rfl dX6_keeps_96 ?_
      refine r_imul (pc := 99) X dX6_keeps_99 ?_
      refine r_iload_n (pc := 100) X 1 dX6_keeps_100 rfl rfl ?_
      refine r_iadd (pc := 101) X dX6_keeps_101 ?_
      refine r_aload_n (pc := 102) X 0 dX6_keeps_102 rfl rfl ?_
      refine r_get (pc := 103) (v := .ref (kB K + 37)) X 35 1 inX6 rfl rfl (by decide) tf_X6_13 rfl dX6_keeps_103 ?_
      refine r_iload_n (pc := 106) X 1 dX6_keeps_106 rfl rfl ?_
      refine r_ckA (fun h3 => ?_)
      refine r_iald (pc := 107) (f := m1 1) X 37 h3 zl_320 rfl dX6_keeps_107 ?_
      refine r_ckA (fun h4 => ?_)
      refine r_iast (pc := 108) (f := m1 2) (ws' := (Zw (kE K) lt b c ms rd (bS m1 2 (aS (m1 2) ((320 * (m1 4 0)) + x1) (m1 1 x1))) P)) X 38 h4 zl_2560 rfl rfl dX6_keeps_108 ?_
      refine r_iinc (pc := 109) (lv' := [(0, .ref (kB K + 35)), (1, vI (x1 + 1))]) X 1 [1, 0] dX6_keeps_109 rfl (by decide) rfl ?_
      refine r_goto (pc := 112) X dX6_keeps_112 (tgt := 81) (by decide) ?_
      exact ih (x1 + 1) (bS m1 2 (aS (m1 2) ((320 * (m1 4 0)) + x1) (m1 1 x1)))
set_option maxRecDepth 100000 in
set_option maxHeartbeats 4000000 in
theorem t_X6_keeps_L117 (N : Nat) (lt b c ms rd m : Bd) (P : PL) (K : KT) (X : Kok K cX6_keeps yX6_keeps.cls lw_g ({ frames := 0, cells := 0, slots := 0, locals := 0 } : Room) none 2) (k : Bd → Option (Bd)) (hk : ∀ (m1 : Bd), Rn K (Q_X6_keeps K lt b c ms rd m P) 0 0 (k m1) 149 [(0, .ref (kB K + 35))] [] (Zw (kE K) lt b c ms rd m1 P)) : ∀ (n : Nat) (x1 : Int) (m1 : Bd), Rn K (Q_X6_keeps K lt b c ms rd m P) 0 0 (f_X6_keeps_L117 k n x1 m1) 117 [(0, .ref (kB K + 35)), (1, vI x1)] [] (Zw (kE K) lt b c ms rd m1 P) := by
  intro n
  induction n with
  | zero =>
    intro x1 m1
    rw [f_X6_keeps_L117]
    exact r_none
  | succ n ih =>
    intro x1 m1
    rw [f_X6_keeps_L117]
    refine r_iload_n (pc := 117) X 1 dX6_keeps_117 rfl rfl ?_
    refine r_bipush (pc := 118) X 8 dX6_keeps_118 (by decide) ?_
    refine r_ck1 (fun h5 => ?_)
    refine r_icmp_ge (pc := 120) X h5 (by decide) dX6_keeps_120 (tgt := 149) (by decide) (fun h6 => ?_) (fun h6 => ?_)
    · refine r_sub [0] rfl ?_
      exact hk m1
    · refine r_aload_n (pc := 123) X 0 dX6_keeps_123 rfl rfl ?_
      refine r_get (pc := 124) (v := .ref (kB K + 39)) X 35 3 inX6 rfl rfl (by decide) tf_X6_19 rfl dX6_keeps_124 ?_
      refine r_bipush (pc := 127) X 8 dX6_keeps_127 (by decide) ?_
      refine r_aload_n (pc := 129) X 0 dX6_keeps_129 rfl rfl ?_
      refine r_get (pc := 130) (v := vI (m1 4 0)) X 35 4 inX6 rfl rfl (by decide) tf_X6_132 rfl dX6_keeps_130 ?_
      refine r_imul (pc := 133) X dX6_keeps_133 ?_
      refine r_iload_n (pc := 134) X 1 dX6_keeps_134 rfl rfl ?_
      refine r_iadd (pc := 135) X dX6_keeps_135 ?_
      refine r_aload_n (pc := 136) X 0 dX6_keeps_136 rfl rfl ?_
      refine r_get (pc := 137) (v := .ref (kB K + 36)) X 35 0 inX6 rfl rfl (by decide) tf_X6_7 rfl dX6_keeps_137 ?_
      refine r_iload_n (pc := 140) X 1 dX6_keeps_140 rfl rfl ?_
      refine r_ckA (fun h7 => ?_)
      refine r_iald (pc := 141) (f := m1 0) X 36 h7 zl_8 rfl dX6_keeps_141 ?_
      refine r_ckA (fun h8 => ?_)
      refine r_iast (pc := 142) (f := m1 3) (ws' := (Zw (kE K) lt b c ms rd (bS m1 3 (aS (m1 3) ((8 * (m1 4 0)) + x1) (m1 0 x1))) P)) X 39 h8 zl_64 rfl rfl dX6_keeps_142 ?_
      refine r_iinc (pc := 143) (lv' := [(0, .ref (kB K + 35)), (1, vI (x1 + 1))]) X 1 [1, 0] dX6_keeps_143 rfl (by decide) rfl ?_
      refine r_goto (pc := 146) X dX6_keeps_146 (tgt := 117) (by decide) ?_
      exact ih (x1 + 1) (bS m1 3 (aS (m1 3) ((8 * (m1 4 0)) + x1) (m1 0 x1)))
set_option maxRecDepth 100000 in
set_option maxHeartbeats 4000000 in
theorem t_X6_keeps_L11 (N : Nat) (lt b c ms rd m : Bd) (P : PL) (K : KT) (X : Kok K cX6_keeps yX6_keeps.cls lw_g ({ frames := 0, cells := 0, slots := 0, locals := 0 } : Room) none 2) (k : Bd → Option (Bd)) (hk : ∀ (m1 : Bd), Rn K (Q_X6_keeps K lt b c ms rd m P) 0 0 (k m1) 40 [(0, .ref (kB K + 35))] [] (Zw (kE K) lt b c ms rd m1 P)) : ∀ (n : Nat) (x1 : Int) (m1 : Bd), Rn K (Q_X6_keeps K lt b c ms rd m P) 0 0 (f_X6_keeps_L11 k n x1 m1) 11 [(0, .ref (kB K + 35)), (1, vI x1)] [] (Zw (kE K) lt b c ms rd m1 P) := by
  intro n
  induction n with
  | zero =>
    intro x1 m1
    rw [f_X6_keeps_L11]
    exact r_none
  | succ n ih =>
    intro x1 m1
    rw [f_X6_keeps_L11]
    refine r_iload_n (pc := 11) X 1 dX6_keeps_11 rfl rfl ?_
    refine r_sipush (pc := 12) X 2240 dX6_keeps_12 (by decide) ?_
    refine r_ck1 (fun h11 => ?_)
    refine r_icmp_ge (pc := 15) X h11 (by decide) dX6_keeps_15 (tgt := 40) (by decide) (fun h12 => ?_) (fun h12 => ?_)
    · refine r_sub [0] rfl ?_
      exact hk m1
    · refine r_aload_n (pc := 18) X 0 dX6_keeps_18 rfl rfl ?_
      refine r_get (pc := 19) (v := .ref (kB K + 38)) X 35 2 inX6 rfl rfl (by decide) tf_X6_16 rfl dX6_keeps_19 ?_
      refine r_iload_n (pc := 22) X 1 dX6_keeps_22 rfl rfl ?_
      refine r_aload_n (pc := 23) X 0 dX6_keeps_23 rfl rfl ?_
      refine r_get (pc := 24) (v := .ref (kB K + 38)) X 35 2 inX6 rfl rfl (by decide) tf_X6_16 rfl dX6_keeps_24 ?_
      refine r_iload_n (pc := 27) X 1 dX6_keeps_27 rfl rfl ?_
      refine r_sipush (pc := 28) X 320 dX6_keeps_28 (by decide) ?_
      refine r_iadd (pc := 31) X dX6_keeps_31 ?_
      refine r_ckA (fun h13 => ?_)
      refine r_iald (pc := 32) (f := m1 2) X 38 h13 zl_2560 rfl dX6_keeps_32 ?_
      refine r_ckA (fun h14 => ?_)
      refine r_iast (pc := 33) (f := m1 2) (ws' := (Zw (kE K) lt b c ms rd (bS m1 2 (aS (m1 2) x1 (m1 2 (x1 + 320)))) P)) X 38 h14 zl_2560 rfl rfl dX6_keeps_33 ?_
      refine r_iinc (pc := 34) (lv' := [(0, .ref (kB K + 35)), (1, vI (x1 + 1))]) X 1 [1, 0] dX6_keeps_34 rfl (by decide) rfl ?_
      refine r_goto (pc := 37) X dX6_keeps_37 (tgt := 11) (by decide) ?_
      exact ih (x1 + 1) (bS m1 2 (aS (m1 2) x1 (m1 2 (x1 + 320))))
set_option maxRecDepth 100000 in
set_option maxHeartbeats 4000000 in
theorem t_X6_keeps_L42 (N : Nat) (lt b c ms rd m : Bd) (P : PL) (K : KT) (X : Kok K cX6_keeps yX6_keeps.cls lw_g ({ frames := 0, cells := 0, slots := 0, locals := 0 } : Room) none 2) (k : Bd → Option (Bd)) (hk : ∀ (m1 : Bd), Rn K (Q_X6_keeps K lt b c ms rd m P) 0 0 (k m1) 69 [(0, .ref (kB K + 35))] [] (Zw (kE K) lt b c ms rd m1 P)) : ∀ (n : Nat) (x1 : Int) (m1 : Bd), Rn K (Q_X6_keeps K lt b c ms rd m P) 0 0 (f_X6_keeps_L42 k n x1 m1) 42 [(0, .ref (kB K + 35)), (1, vI x1)] [] (Zw (kE K) lt b c ms rd m1 P) := by
  intro n
  induction n with
  | zero =>
    intro x1 m1
    rw [f_X6_keeps_L42]
    exact r_none
  | succ n ih =>
    intro x1 m1
    rw [f_X6_keeps_L42]
    refine r_iload_n (pc := 42) X 1 dX6_keeps_42 rfl rfl ?_
    refine r_bipush (pc := 43) X 56 dX6_keeps_43 (by decide) ?_
    refine r_ck1 (fun h15 => ?_)
    refine r_icmp_ge (pc := 45) X h15 (by decide) dX6_keeps_45 (tgt := 69) (by decide) (fun h16 => ?_) (fun h16 => ?_)
    · refine r_sub [0] rfl ?_
      exact hk m1
    · refine r_aload_n (pc := 48) X 0 dX6_keeps_48 rfl rfl ?_
      refine r_get (pc := 49) (v := .ref (kB K + 39)) X 35 3 inX6 rfl rfl (by decide) tf_X6_19 rfl dX6_keeps_49 ?_
      refine r_iload_n (pc := 52) X 1 dX6_keeps_52 rfl rfl ?_
      refine r_aload_n (pc := 53) X 0 dX6_keeps_53 rfl rfl ?_
      refine r_get (pc := 54) (v := .ref (kB K + 39)) X 35 3 inX6 rfl rfl (by decide) tf_X6_19 rfl dX6_keeps_54 ?_
      refine r_iload_n (pc := 57) X 1 dX6_keeps_57 rfl rfl ?_
      refine r_bipush (pc := 58) X 8 dX6_keeps_58 (by decide) ?_
      refine r_iadd (pc := 60) X dX6_keeps_60 ?_
      refine r_ckA (fun h17 => ?_)
      refine r_iald (pc := 61) (f := m1 3) X 39 h17 zl_64 rfl dX6_keeps_61 ?_
      refine r_ckA (fun h18 => ?_)
      refine r_iast (pc := 62) (f := m1 3) (ws' := (Zw (kE K) lt b c ms rd (bS m1 3 (aS (m1 3) x1 (m1 3 (x1 + 8)))) P)) X 39 h18 zl_64 rfl rfl dX6_keeps_62 ?_
      refine r_iinc (pc := 63) (lv' := [(0, .ref (kB K + 35)), (1, vI (x1 + 1))]) X 1 [1, 0] dX6_keeps_63 rfl (by decide) rfl ?_
      refine r_goto (pc := 66) X dX6_keeps_66 (tgt := 42) (by decide) ?_
      exact ih (x1 + 1) (bS m1 3 (aS (m1 3) x1 (m1 3 (x1 + 8))))
set_option maxRecDepth 100000 in
set_option maxHeartbeats 4000000 in
theorem t_X6_keeps (N : Nat) (lt b c ms rd m : Bd) (P : PL) (K : KT) (X : Kok K cX6_keeps yX6_keeps.cls lw_g ({ frames := 0, cells := 0, slots := 0, locals := 0 } : Room) none 2) : Rn K (Q_X6_keeps K lt b c ms rd m P) 0 0 (f_X6_keeps N m) 0 [(0, .ref (kB K + 35))] [] (Zw (kE K) lt b c ms rd m P) := by
  unfold f_X6_keeps
  refine r_aload_n (pc := 0) X 0 dX6_keeps_0 rfl rfl ?_
  refine r_get (pc := 1) (v := vI (m 4 0)) X 35 4 inX6 rfl rfl (by decide) tf_X6_132 rfl dX6_keeps_1 ?_
  refine r_bipush (pc := 4) X 8 dX6_keeps_4 (by decide) ?_
  refine r_jn (J := fun j79 => ∀ (m_79 : Bd), Rn K (Q_X6_keeps K lt b c ms rd m P) 0 0 (j79 m_79) 79 [(0, .ref (kB K + 35))] [] (Zw (kE K) lt b c ms rd m_79 P)) ?_ (fun j79 hj79 => ?_)
  · intro m_79
    refine r_iconst (pc := 79) X 0 dX6_keeps_79 (by decide) ?_
    refine r_istore_n (pc := 80) (lv' := [(0, .ref (kB K + 35)), (1, vI 0)]) X [1, 0] dX6_keeps_80 rfl (by decide) rfl ?_
    refine t_X6_keeps_L81 N lt b c ms rd m P   K X _ ?_ N 0 m_79
    intro m_81
    refine r_iconst (pc := 115) X 0 dX6_keeps_115 (by decide) ?_
    refine r_istore_n (pc := 116) (lv' := [(0, .ref (kB K + 35)), (1, vI 0)]) X [1, 0] dX6_keeps_116 rfl (by decide) rfl ?_
    refine t_X6_keeps_L117 N lt b c ms rd m P   K X _ ?_ N 0 m_81
    intro m_117
    refine r_aload_n (pc := 149) X 0 dX6_keeps_149 rfl rfl ?_
    refine r_dup (pc := 150) X dX6_keeps_150 rfl ?_
    refine r_get (pc := 151) (v := vI (m_117 4 0)) X 35 4 inX6 rfl rfl (by decide) tf_X6_132 rfl dX6_keeps_151 ?_
    refine r_iconst (pc := 154) X 1 dX6_keeps_154 (by decide) ?_
    refine r_iadd (pc := 155) X dX6_keeps_155 ?_
    refine r_put (pc := 156) (ws' := (Zw (kE K) lt b c ms rd (bs0 m_117 4 ((m_117 4 0) + 1)) P)) X 35 4 inX6 tyX6 tyX6_ok nmX6 rfl rfl (by decide) tf_X6_132 rfl (tyX6_ok 4 (by decide)) rfl rfl (Nat.le_of_ble_eq_true rfl) rfl dX6_keeps_156 ?_
    exact r_vret (pc := 159) X rfl rfl (by decide) dX6_keeps_159
  refine r_ck1 (fun h9 => ?_)
  refine r_icmp_ne (pc := 6) X h9 (by decide) dX6_keeps_6 (tgt := 79) (by decide) (fun h10 => ?_) (fun h10 => ?_)
  · exact hj79 m
  · refine r_iconst (pc := 9) X 0 dX6_keeps_9 (by decide) ?_
    refine r_istore_n (pc := 10) (lv' := [(0, .ref (kB K + 35)), (1, vI 0)]) X [1, 0] dX6_keeps_10 rfl (by decide) rfl ?_
    refine t_X6_keeps_L11 N lt b c ms rd m P   K X _ ?_ N 0 m
    intro m_11
    refine r_iconst (pc := 40) X 0 dX6_keeps_40 (by decide) ?_
    refine r_istore_n (pc := 41) (lv' := [(0, .ref (kB K + 35)), (1, vI 0)]) X [1, 0] dX6_keeps_41 rfl (by decide) rfl ?_
    refine t_X6_keeps_L42 N lt b c ms rd m P   K X _ ?_ N 0 m_11
    intro m_42
    refine r_aload_n (pc := 69) X 0 dX6_keeps_69 rfl rfl ?_
    refine r_dup (pc := 70) X dX6_keeps_70 rfl ?_
    refine r_get (pc := 71) (v := vI (m_42 4 0)) X 35 4 inX6 rfl rfl (by decide) tf_X6_132 rfl dX6_keeps_71 ?_
    refine r_iconst (pc := 74) X 1 dX6_keeps_74 (by decide) ?_
    refine r_isub (pc := 75) X dX6_keeps_75 ?_
    refine r_put (pc := 76) (ws' := (Zw (kE K) lt b c ms rd (bs0 m_42 4 ((m_42 4 0) - 1)) P)) X 35 4 inX6 tyX6 tyX6_ok nmX6 rfl rfl (by decide) tf_X6_132 rfl (tyX6_ok 4 (by decide)) rfl rfl (Nat.le_of_ble_eq_true rfl) rfl dX6_keeps_76 ?_
    exact hj79 (bs0 m_42 4 ((m_42 4 0) - 1))
theorem c_X6_keeps (N : Nat) (lt b c ms rd m : Bd) (P : PL) (l : Launch) (D : va_G) (E : ET) (a : Bd) (ha : f_X6_keeps N m = some a) : Ct l yX6_keeps (Cond.code yX6_keeps cX6_keeps 2 none :: lw_g) ({ frames := 0, cells := 0, slots := 0, locals := 0 } : Room) D E [.ref (E.2.2.2 + 35)] (Zw E lt b c ms rd m P) (Zw E lt b c ms rd a P) (none) :=
  ct_of (av := fun E => [.ref (E.2.2.2 + 35)]) (W0 := fun E => Zw E lt b c ms rd m P) (W1 := fun E (a : Bd) => Zw E lt b c ms rd a P) (rw := fun E a => none) (by decide) rfl (fun E => Zw_d E lt b c ms rd m P) (fun E => by simp [lg_sl, z_cat, z_catR, z_catI, z_catL]) (fun K X => r_lv (by simp [lv_args, z_cat, z_catR, z_catI, z_catL]) (t_X6_keeps N lt b c ms rd m P  K X)) l D E a ha
